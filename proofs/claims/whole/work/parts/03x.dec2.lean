theorem d_X12_feed_76 : decode (mC M_X12_feed) 76 = .ok (.istore 7, 2) := by decide +kernel
theorem d_X12_feed_78 : decode (mC M_X12_feed) 78 = .ok (.aload_n 0, 1) := by decide +kernel
theorem d_X12_feed_79 : decode (mC M_X12_feed) 79 = .ok (.getfield 48, 3) := by decide +kernel
theorem d_X12_feed_82 : decode (mC M_X12_feed) 82 = .ok (.aload_n 0, 1) := by decide +kernel
theorem d_X12_feed_83 : decode (mC M_X12_feed) 83 = .ok (.getfield 177, 3) := by decide +kernel
theorem d_X12_feed_86 : decode (mC M_X12_feed) 86 = .ok (.iload 7, 2) := by decide +kernel
theorem d_X12_feed_88 : decode (mC M_X12_feed) 88 = .ok (.bipush 24, 2) := by decide +kernel
theorem d_X12_feed_90 : decode (mC M_X12_feed) 90 = .ok (.bipush 8, 2) := by decide +kernel
theorem d_X12_feed_92 : decode (mC M_X12_feed) 92 = .ok (.iload 6, 2) := by decide +kernel
theorem d_X12_feed_94 : decode (mC M_X12_feed) 94 = .ok (.iconst 4, 1) := by decide +kernel
theorem d_X12_feed_95 : decode (mC M_X12_feed) 95 = .ok (.irem, 1) := by decide +kernel
theorem d_X12_feed_96 : decode (mC M_X12_feed) 96 = .ok (.imul, 1) := by decide +kernel
theorem d_X12_feed_97 : decode (mC M_X12_feed) 97 = .ok (.isub, 1) := by decide +kernel
theorem d_X12_feed_98 : decode (mC M_X12_feed) 98 = .ok (.ishr, 1) := by decide +kernel
theorem d_X12_feed_99 : decode (mC M_X12_feed) 99 = .ok (.i2b, 1) := by decide +kernel
theorem d_X12_feed_100 : decode (mC M_X12_feed) 100 = .ok (.bastore, 1) := by decide +kernel
theorem d_X12_feed_101 : decode (mC M_X12_feed) 101 = .ok (.aload_n 0, 1) := by decide +kernel
theorem d_X12_feed_102 : decode (mC M_X12_feed) 102 = .ok (.dup, 1) := by decide +kernel
theorem d_X12_feed_103 : decode (mC M_X12_feed) 103 = .ok (.getfield 177, 3) := by decide +kernel
theorem d_X12_feed_106 : decode (mC M_X12_feed) 106 = .ok (.iconst 1, 1) := by decide +kernel
theorem d_X12_feed_107 : decode (mC M_X12_feed) 107 = .ok (.iadd, 1) := by decide +kernel
theorem d_X12_feed_108 : decode (mC M_X12_feed) 108 = .ok (.putfield 177, 3) := by decide +kernel
theorem d_X12_feed_111 : decode (mC M_X12_feed) 111 = .ok (.iinc 6 1, 3) := by decide +kernel
theorem d_X12_feed_114 : decode (mC M_X12_feed) 114 = .ok (.goto (-91), 3) := by decide +kernel
theorem d_X12_feed_117 : decode (mC M_X12_feed) 117 = .ok (.aload_n 0, 1) := by decide +kernel
theorem d_X12_feed_118 : decode (mC M_X12_feed) 118 = .ok (.getfield 177, 3) := by decide +kernel
theorem d_X12_feed_121 : decode (mC M_X12_feed) 121 = .ok (.ireturn, 1) := by decide +kernel
theorem d_X12_first_0 : decode (mC M_X12_first) 0 = .ok (.iconst (-1), 1) := by decide +kernel
theorem d_X12_first_1 : decode (mC M_X12_first) 1 = .ok (.istore_n 1, 1) := by decide +kernel
theorem d_X12_first_2 : decode (mC M_X12_first) 2 = .ok (.iconst 0, 1) := by decide +kernel
theorem d_X12_first_3 : decode (mC M_X12_first) 3 = .ok (.istore_n 2, 1) := by decide +kernel
theorem d_X12_first_4 : decode (mC M_X12_first) 4 = .ok (.iload_n 2, 1) := by decide +kernel
theorem d_X12_first_5 : decode (mC M_X12_first) 5 = .ok (.aload_n 0, 1) := by decide +kernel
theorem d_X12_first_6 : decode (mC M_X12_first) 6 = .ok (.getfield 151, 3) := by decide +kernel
theorem d_X12_first_9 : decode (mC M_X12_first) 9 = .ok (.if_icmp .ge 40, 3) := by decide +kernel
theorem d_X12_first_12 : decode (mC M_X12_first) 12 = .ok (.aload_n 0, 1) := by decide +kernel
theorem d_X12_first_13 : decode (mC M_X12_first) 13 = .ok (.getfield 97, 3) := by decide +kernel
theorem d_X12_first_16 : decode (mC M_X12_first) 16 = .ok (.iload_n 2, 1) := by decide +kernel
theorem d_X12_first_17 : decode (mC M_X12_first) 17 = .ok (.baload, 1) := by decide +kernel
theorem d_X12_first_18 : decode (mC M_X12_first) 18 = .ok (.ifCond .ne 25, 3) := by decide +kernel
theorem d_X12_first_21 : decode (mC M_X12_first) 21 = .ok (.iload_n 1, 1) := by decide +kernel
theorem d_X12_first_22 : decode (mC M_X12_first) 22 = .ok (.iconst (-1), 1) := by decide +kernel
theorem d_X12_first_23 : decode (mC M_X12_first) 23 = .ok (.if_icmp .eq 18, 3) := by decide +kernel
theorem d_X12_first_26 : decode (mC M_X12_first) 26 = .ok (.aload_n 0, 1) := by decide +kernel
theorem d_X12_first_27 : decode (mC M_X12_first) 27 = .ok (.getfield 33, 3) := by decide +kernel
theorem d_X12_first_30 : decode (mC M_X12_first) 30 = .ok (.iload_n 2, 1) := by decide +kernel
theorem d_X12_first_31 : decode (mC M_X12_first) 31 = .ok (.iaload, 1) := by decide +kernel
theorem d_X12_first_32 : decode (mC M_X12_first) 32 = .ok (.aload_n 0, 1) := by decide +kernel
theorem d_X12_first_33 : decode (mC M_X12_first) 33 = .ok (.getfield 33, 3) := by decide +kernel
theorem d_X12_first_36 : decode (mC M_X12_first) 36 = .ok (.iload_n 1, 1) := by decide +kernel
theorem d_X12_first_37 : decode (mC M_X12_first) 37 = .ok (.iaload, 1) := by decide +kernel
theorem d_X12_first_38 : decode (mC M_X12_first) 38 = .ok (.if_icmp .ge 5, 3) := by decide +kernel
theorem d_X12_first_41 : decode (mC M_X12_first) 41 = .ok (.iload_n 2, 1) := by decide +kernel
theorem d_X12_first_42 : decode (mC M_X12_first) 42 = .ok (.istore_n 1, 1) := by decide +kernel
theorem d_X12_first_43 : decode (mC M_X12_first) 43 = .ok (.iinc 2 1, 3) := by decide +kernel
theorem d_X12_first_46 : decode (mC M_X12_first) 46 = .ok (.goto (-42), 3) := by decide +kernel
theorem d_X12_first_49 : decode (mC M_X12_first) 49 = .ok (.iload_n 1, 1) := by decide +kernel
theorem d_X12_first_50 : decode (mC M_X12_first) 50 = .ok (.ireturn, 1) := by decide +kernel
theorem d_X12_fits_0 : decode (mC M_X12_fits) 0 = .ok (.aload_n 0, 1) := by decide +kernel
theorem d_X12_fits_1 : decode (mC M_X12_fits) 1 = .ok (.iconst 0, 1) := by decide +kernel
theorem d_X12_fits_2 : decode (mC M_X12_fits) 2 = .ok (.putfield 1, 3) := by decide +kernel
theorem d_X12_fits_5 : decode (mC M_X12_fits) 5 = .ok (.aload_n 0, 1) := by decide +kernel
theorem d_X12_fits_6 : decode (mC M_X12_fits) 6 = .ok (.iload_n 1, 1) := by decide +kernel
theorem d_X12_fits_7 : decode (mC M_X12_fits) 7 = .ok (.invokevirtual 159, 3) := by decide +kernel
theorem d_X12_fits_10 : decode (mC M_X12_fits) 10 = .ok (.ifCond .eq 20, 3) := by decide +kernel
theorem d_X12_fits_13 : decode (mC M_X12_fits) 13 = .ok (.aload_n 0, 1) := by decide +kernel
theorem d_X12_fits_14 : decode (mC M_X12_fits) 14 = .ok (.iload_n 2, 1) := by decide +kernel
theorem d_X12_fits_15 : decode (mC M_X12_fits) 15 = .ok (.invokevirtual 311, 3) := by decide +kernel
theorem d_X12_fits_18 : decode (mC M_X12_fits) 18 = .ok (.ifCond .eq 12, 3) := by decide +kernel
theorem d_X12_fits_21 : decode (mC M_X12_fits) 21 = .ok (.iload_n 3, 1) := by decide +kernel
theorem d_X12_fits_22 : decode (mC M_X12_fits) 22 = .ok (.iconst 0, 1) := by decide +kernel
theorem d_X12_fits_23 : decode (mC M_X12_fits) 23 = .ok (.iconst 1, 1) := by decide +kernel
theorem d_X12_fits_24 : decode (mC M_X12_fits) 24 = .ok (.invokestatic 154, 3) := by decide +kernel
theorem d_X12_fits_27 : decode (mC M_X12_fits) 27 = .ok (.ifCond .ne 5, 3) := by decide +kernel
theorem d_X12_fits_30 : decode (mC M_X12_fits) 30 = .ok (.iconst (-1), 1) := by decide +kernel
theorem d_X12_fits_31 : decode (mC M_X12_fits) 31 = .ok (.ireturn, 1) := by decide +kernel
theorem d_X12_fits_32 : decode (mC M_X12_fits) 32 = .ok (.iload_n 3, 1) := by decide +kernel
theorem d_X12_fits_33 : decode (mC M_X12_fits) 33 = .ok (.ifCond .ne 15, 3) := by decide +kernel
theorem d_X12_fits_36 : decode (mC M_X12_fits) 36 = .ok (.aload_n 0, 1) := by decide +kernel
theorem d_X12_fits_37 : decode (mC M_X12_fits) 37 = .ok (.iload_n 1, 1) := by decide +kernel
theorem d_X12_fits_38 : decode (mC M_X12_fits) 38 = .ok (.iload_n 2, 1) := by decide +kernel
theorem d_X12_fits_39 : decode (mC M_X12_fits) 39 = .ok (.invokevirtual 307, 3) := by decide +kernel
theorem d_X12_fits_42 : decode (mC M_X12_fits) 42 = .ok (.ifCond .eq 19, 3) := by decide +kernel
theorem d_X12_fits_45 : decode (mC M_X12_fits) 45 = .ok (.goto 12, 3) := by decide +kernel
theorem d_X12_fits_48 : decode (mC M_X12_fits) 48 = .ok (.aload_n 0, 1) := by decide +kernel
theorem d_X12_fits_49 : decode (mC M_X12_fits) 49 = .ok (.iload_n 1, 1) := by decide +kernel
theorem d_X12_fits_50 : decode (mC M_X12_fits) 50 = .ok (.iload_n 2, 1) := by decide +kernel
theorem d_X12_fits_51 : decode (mC M_X12_fits) 51 = .ok (.invokevirtual 314, 3) := by decide +kernel
theorem d_X12_fits_54 : decode (mC M_X12_fits) 54 = .ok (.ifCond .eq 7, 3) := by decide +kernel
theorem d_X12_fits_57 : decode (mC M_X12_fits) 57 = .ok (.iconst 1, 1) := by decide +kernel
theorem d_X12_fits_58 : decode (mC M_X12_fits) 58 = .ok (.goto 4, 3) := by decide +kernel
theorem d_X12_fits_61 : decode (mC M_X12_fits) 61 = .ok (.iconst 0, 1) := by decide +kernel
theorem d_X12_fits_62 : decode (mC M_X12_fits) 62 = .ok (.ireturn, 1) := by decide +kernel
theorem d_X12_init_0 : decode (mC M_X12_init) 0 = .ok (.aload_n 0, 1) := by decide +kernel
theorem d_X12_init_1 : decode (mC M_X12_init) 1 = .ok (.invokespecial 7, 3) := by decide +kernel
theorem d_X12_init_4 : decode (mC M_X12_init) 4 = .ok (.aload_n 0, 1) := by decide +kernel
theorem d_X12_init_5 : decode (mC M_X12_init) 5 = .ok (.bipush 40, 2) := by decide +kernel
theorem d_X12_init_7 : decode (mC M_X12_init) 7 = .ok (.newarray .int, 2) := by decide +kernel
theorem d_X12_init_9 : decode (mC M_X12_init) 9 = .ok (.putfield 13, 3) := by decide +kernel
theorem d_X12_init_12 : decode (mC M_X12_init) 12 = .ok (.aload_n 0, 1) := by decide +kernel
theorem d_X12_init_13 : decode (mC M_X12_init) 13 = .ok (.bipush 40, 2) := by decide +kernel
theorem d_X12_init_15 : decode (mC M_X12_init) 15 = .ok (.newarray .int, 2) := by decide +kernel
theorem d_X12_init_17 : decode (mC M_X12_init) 17 = .ok (.putfield 17, 3) := by decide +kernel
theorem d_X12_init_20 : decode (mC M_X12_init) 20 = .ok (.aload_n 0, 1) := by decide +kernel
theorem d_X12_init_21 : decode (mC M_X12_init) 21 = .ok (.bipush 40, 2) := by decide +kernel
theorem d_X12_init_23 : decode (mC M_X12_init) 23 = .ok (.newarray .int, 2) := by decide +kernel
theorem d_X12_init_25 : decode (mC M_X12_init) 25 = .ok (.putfield 20, 3) := by decide +kernel
theorem d_X12_init_28 : decode (mC M_X12_init) 28 = .ok (.aload_n 0, 1) := by decide +kernel
theorem d_X12_init_29 : decode (mC M_X12_init) 29 = .ok (.bipush 40, 2) := by decide +kernel
theorem d_X12_init_31 : decode (mC M_X12_init) 31 = .ok (.newarray .int, 2) := by decide +kernel
theorem d_X12_init_33 : decode (mC M_X12_init) 33 = .ok (.putfield 23, 3) := by decide +kernel
theorem d_X12_init_36 : decode (mC M_X12_init) 36 = .ok (.aload_n 0, 1) := by decide +kernel
theorem d_X12_init_37 : decode (mC M_X12_init) 37 = .ok (.bipush 40, 2) := by decide +kernel
theorem d_X12_init_39 : decode (mC M_X12_init) 39 = .ok (.newarray .int, 2) := by decide +kernel
theorem d_X12_init_41 : decode (mC M_X12_init) 41 = .ok (.putfield 26, 3) := by decide +kernel
theorem d_X12_init_44 : decode (mC M_X12_init) 44 = .ok (.aload_n 0, 1) := by decide +kernel
theorem d_X12_init_45 : decode (mC M_X12_init) 45 = .ok (.bipush 40, 2) := by decide +kernel
theorem d_X12_init_47 : decode (mC M_X12_init) 47 = .ok (.newarray .boolean, 2) := by decide +kernel
theorem d_X12_init_49 : decode (mC M_X12_init) 49 = .ok (.putfield 29, 3) := by decide +kernel
theorem d_X12_init_52 : decode (mC M_X12_init) 52 = .ok (.aload_n 0, 1) := by decide +kernel
theorem d_X12_init_53 : decode (mC M_X12_init) 53 = .ok (.bipush 40, 2) := by decide +kernel
theorem d_X12_init_55 : decode (mC M_X12_init) 55 = .ok (.newarray .int, 2) := by decide +kernel
theorem d_X12_init_57 : decode (mC M_X12_init) 57 = .ok (.putfield 33, 3) := by decide +kernel
theorem d_X12_init_60 : decode (mC M_X12_init) 60 = .ok (.aload_n 0, 1) := by decide +kernel
theorem d_X12_init_61 : decode (mC M_X12_init) 61 = .ok (.bipush 40, 2) := by decide +kernel
theorem d_X12_init_63 : decode (mC M_X12_init) 63 = .ok (.newarray .int, 2) := by decide +kernel
theorem d_X12_init_65 : decode (mC M_X12_init) 65 = .ok (.putfield 36, 3) := by decide +kernel
theorem d_X12_init_68 : decode (mC M_X12_init) 68 = .ok (.aload_n 0, 1) := by decide +kernel
theorem d_X12_init_69 : decode (mC M_X12_init) 69 = .ok (.bipush 40, 2) := by decide +kernel
theorem d_X12_init_71 : decode (mC M_X12_init) 71 = .ok (.newarray .int, 2) := by decide +kernel
theorem d_X12_init_73 : decode (mC M_X12_init) 73 = .ok (.putfield 39, 3) := by decide +kernel
theorem d_X12_init_76 : decode (mC M_X12_init) 76 = .ok (.aload_n 0, 1) := by decide +kernel
theorem d_X12_init_77 : decode (mC M_X12_init) 77 = .ok (.sipush 2600, 3) := by decide +kernel
theorem d_X12_init_80 : decode (mC M_X12_init) 80 = .ok (.newarray .int, 2) := by decide +kernel
theorem d_X12_init_82 : decode (mC M_X12_init) 82 = .ok (.putfield 42, 3) := by decide +kernel
theorem d_X12_init_85 : decode (mC M_X12_init) 85 = .ok (.aload_n 0, 1) := by decide +kernel
theorem d_X12_init_86 : decode (mC M_X12_init) 86 = .ok (.sipush 2600, 3) := by decide +kernel
theorem d_X12_init_89 : decode (mC M_X12_init) 89 = .ok (.newarray .int, 2) := by decide +kernel
theorem d_X12_init_91 : decode (mC M_X12_init) 91 = .ok (.putfield 45, 3) := by decide +kernel
theorem d_X12_init_94 : decode (mC M_X12_init) 94 = .ok (.aload_n 0, 1) := by decide +kernel
theorem d_X12_init_95 : decode (mC M_X12_init) 95 = .ok (.sipush 1000, 3) := by decide +kernel
theorem d_X12_init_98 : decode (mC M_X12_init) 98 = .ok (.newarray .byte, 2) := by decide +kernel
theorem d_X12_init_100 : decode (mC M_X12_init) 100 = .ok (.putfield 48, 3) := by decide +kernel
theorem d_X12_init_103 : decode (mC M_X12_init) 103 = .ok (.aload_n 0, 1) := by decide +kernel
theorem d_X12_init_104 : decode (mC M_X12_init) 104 = .ok (.iconst (-1), 1) := by decide +kernel
theorem d_X12_init_105 : decode (mC M_X12_init) 105 = .ok (.putfield 52, 3) := by decide +kernel
theorem d_X12_init_108 : decode (mC M_X12_init) 108 = .ok (.aload_n 0, 1) := by decide +kernel
theorem d_X12_init_109 : decode (mC M_X12_init) 109 = .ok (.sipush 1000, 3) := by decide +kernel
theorem d_X12_init_112 : decode (mC M_X12_init) 112 = .ok (.newarray .byte, 2) := by decide +kernel
theorem d_X12_init_114 : decode (mC M_X12_init) 114 = .ok (.putfield 55, 3) := by decide +kernel
theorem d_X12_init_117 : decode (mC M_X12_init) 117 = .ok (.aload_n 0, 1) := by decide +kernel
theorem d_X12_init_118 : decode (mC M_X12_init) 118 = .ok (.bipush 6, 2) := by decide +kernel
theorem d_X12_init_120 : decode (mC M_X12_init) 120 = .ok (.newarray .int, 2) := by decide +kernel
theorem d_X12_init_122 : decode (mC M_X12_init) 122 = .ok (.putfield 58, 3) := by decide +kernel
theorem d_X12_init_125 : decode (mC M_X12_init) 125 = .ok (.aload_n 0, 1) := by decide +kernel
theorem d_X12_init_126 : decode (mC M_X12_init) 126 = .ok (.bipush 6, 2) := by decide +kernel
theorem d_X12_init_128 : decode (mC M_X12_init) 128 = .ok (.newarray .int, 2) := by decide +kernel
theorem d_X12_init_130 : decode (mC M_X12_init) 130 = .ok (.putfield 61, 3) := by decide +kernel
theorem d_X12_init_133 : decode (mC M_X12_init) 133 = .ok (.aload_n 0, 1) := by decide +kernel
theorem d_X12_init_134 : decode (mC M_X12_init) 134 = .ok (.bipush 6, 2) := by decide +kernel
theorem d_X12_init_136 : decode (mC M_X12_init) 136 = .ok (.newarray .int, 2) := by decide +kernel
theorem d_X12_init_138 : decode (mC M_X12_init) 138 = .ok (.putfield 64, 3) := by decide +kernel
theorem d_X12_init_141 : decode (mC M_X12_init) 141 = .ok (.aload_n 0, 1) := by decide +kernel
theorem d_X12_init_142 : decode (mC M_X12_init) 142 = .ok (.bipush 6, 2) := by decide +kernel
theorem d_X12_init_144 : decode (mC M_X12_init) 144 = .ok (.newarray .int, 2) := by decide +kernel
theorem d_X12_init_146 : decode (mC M_X12_init) 146 = .ok (.putfield 67, 3) := by decide +kernel
theorem d_X12_init_149 : decode (mC M_X12_init) 149 = .ok (.aload_n 0, 1) := by decide +kernel
theorem d_X12_init_150 : decode (mC M_X12_init) 150 = .ok (.bipush 6, 2) := by decide +kernel
theorem d_X12_init_152 : decode (mC M_X12_init) 152 = .ok (.newarray .int, 2) := by decide +kernel
theorem d_X12_init_154 : decode (mC M_X12_init) 154 = .ok (.putfield 70, 3) := by decide +kernel
theorem d_X12_init_157 : decode (mC M_X12_init) 157 = .ok (.aload_n 0, 1) := by decide +kernel
theorem d_X12_init_158 : decode (mC M_X12_init) 158 = .ok (.bipush 6, 2) := by decide +kernel
theorem d_X12_init_160 : decode (mC M_X12_init) 160 = .ok (.newarray .int, 2) := by decide +kernel
theorem d_X12_init_162 : decode (mC M_X12_init) 162 = .ok (.putfield 73, 3) := by decide +kernel
theorem d_X12_init_165 : decode (mC M_X12_init) 165 = .ok (.aload_n 0, 1) := by decide +kernel
theorem d_X12_init_166 : decode (mC M_X12_init) 166 = .ok (.bipush 6, 2) := by decide +kernel
theorem d_X12_init_168 : decode (mC M_X12_init) 168 = .ok (.newarray .int, 2) := by decide +kernel
theorem d_X12_init_170 : decode (mC M_X12_init) 170 = .ok (.putfield 76, 3) := by decide +kernel
theorem d_X12_init_173 : decode (mC M_X12_init) 173 = .ok (.aload_n 0, 1) := by decide +kernel
theorem d_X12_init_174 : decode (mC M_X12_init) 174 = .ok (.bipush 6, 2) := by decide +kernel
theorem d_X12_init_176 : decode (mC M_X12_init) 176 = .ok (.newarray .int, 2) := by decide +kernel
theorem d_X12_init_178 : decode (mC M_X12_init) 178 = .ok (.putfield 79, 3) := by decide +kernel
theorem d_X12_init_181 : decode (mC M_X12_init) 181 = .ok (.aload_n 0, 1) := by decide +kernel
theorem d_X12_init_182 : decode (mC M_X12_init) 182 = .ok (.bipush 6, 2) := by decide +kernel
theorem d_X12_init_184 : decode (mC M_X12_init) 184 = .ok (.newarray .int, 2) := by decide +kernel
theorem d_X12_init_186 : decode (mC M_X12_init) 186 = .ok (.putfield 82, 3) := by decide +kernel
theorem d_X12_init_189 : decode (mC M_X12_init) 189 = .ok (.aload_n 0, 1) := by decide +kernel
theorem d_X12_init_190 : decode (mC M_X12_init) 190 = .ok (.bipush 6, 2) := by decide +kernel
theorem d_X12_init_192 : decode (mC M_X12_init) 192 = .ok (.newarray .int, 2) := by decide +kernel
theorem d_X12_init_194 : decode (mC M_X12_init) 194 = .ok (.putfield 85, 3) := by decide +kernel
theorem d_X12_init_197 : decode (mC M_X12_init) 197 = .ok (.aload_n 0, 1) := by decide +kernel
theorem d_X12_init_198 : decode (mC M_X12_init) 198 = .ok (.bipush 40, 2) := by decide +kernel
theorem d_X12_init_200 : decode (mC M_X12_init) 200 = .ok (.newarray .int, 2) := by decide +kernel
theorem d_X12_init_202 : decode (mC M_X12_init) 202 = .ok (.putfield 88, 3) := by decide +kernel
theorem d_X12_init_205 : decode (mC M_X12_init) 205 = .ok (.aload_n 0, 1) := by decide +kernel
theorem d_X12_init_206 : decode (mC M_X12_init) 206 = .ok (.bipush 40, 2) := by decide +kernel
theorem d_X12_init_208 : decode (mC M_X12_init) 208 = .ok (.newarray .boolean, 2) := by decide +kernel
theorem d_X12_init_210 : decode (mC M_X12_init) 210 = .ok (.putfield 91, 3) := by decide +kernel
theorem d_X12_init_213 : decode (mC M_X12_init) 213 = .ok (.aload_n 0, 1) := by decide +kernel
theorem d_X12_init_214 : decode (mC M_X12_init) 214 = .ok (.bipush 6, 2) := by decide +kernel
theorem d_X12_init_216 : decode (mC M_X12_init) 216 = .ok (.newarray .int, 2) := by decide +kernel
theorem d_X12_init_218 : decode (mC M_X12_init) 218 = .ok (.putfield 94, 3) := by decide +kernel
theorem d_X12_init_221 : decode (mC M_X12_init) 221 = .ok (.aload_n 0, 1) := by decide +kernel
theorem d_X12_init_222 : decode (mC M_X12_init) 222 = .ok (.bipush 40, 2) := by decide +kernel
theorem d_X12_init_224 : decode (mC M_X12_init) 224 = .ok (.newarray .boolean, 2) := by decide +kernel
theorem d_X12_init_226 : decode (mC M_X12_init) 226 = .ok (.putfield 97, 3) := by decide +kernel
theorem d_X12_init_229 : decode (mC M_X12_init) 229 = .ok (.aload_n 0, 1) := by decide +kernel
theorem d_X12_init_230 : decode (mC M_X12_init) 230 = .ok (.bipush 40, 2) := by decide +kernel
theorem d_X12_init_232 : decode (mC M_X12_init) 232 = .ok (.newarray .int, 2) := by decide +kernel
theorem d_X12_init_234 : decode (mC M_X12_init) 234 = .ok (.putfield 100, 3) := by decide +kernel
theorem d_X12_init_237 : decode (mC M_X12_init) 237 = .ok (.aload_n 0, 1) := by decide +kernel
theorem d_X12_init_238 : decode (mC M_X12_init) 238 = .ok (.bipush 30, 2) := by decide +kernel
theorem d_X12_init_240 : decode (mC M_X12_init) 240 = .ok (.newarray .int, 2) := by decide +kernel
theorem d_X12_init_242 : decode (mC M_X12_init) 242 = .ok (.putfield 103, 3) := by decide +kernel
theorem d_X12_init_245 : decode (mC M_X12_init) 245 = .ok (.aload_n 0, 1) := by decide +kernel
theorem d_X12_init_246 : decode (mC M_X12_init) 246 = .ok (.sipush 240, 3) := by decide +kernel
theorem d_X12_init_249 : decode (mC M_X12_init) 249 = .ok (.newarray .int, 2) := by decide +kernel
theorem d_X12_init_251 : decode (mC M_X12_init) 251 = .ok (.putfield 106, 3) := by decide +kernel
theorem d_X12_init_254 : decode (mC M_X12_init) 254 = .ok (.aload_n 0, 1) := by decide +kernel
theorem d_X12_init_255 : decode (mC M_X12_init) 255 = .ok (.sipush 240, 3) := by decide +kernel
theorem d_X12_init_258 : decode (mC M_X12_init) 258 = .ok (.newarray .int, 2) := by decide +kernel
theorem d_X12_init_260 : decode (mC M_X12_init) 260 = .ok (.putfield 109, 3) := by decide +kernel
theorem d_X12_init_263 : decode (mC M_X12_init) 263 = .ok (.aload_n 0, 1) := by decide +kernel
theorem d_X12_init_264 : decode (mC M_X12_init) 264 = .ok (.sipush 240, 3) := by decide +kernel
theorem d_X12_init_267 : decode (mC M_X12_init) 267 = .ok (.newarray .int, 2) := by decide +kernel
theorem d_X12_init_269 : decode (mC M_X12_init) 269 = .ok (.putfield 112, 3) := by decide +kernel
theorem d_X12_init_272 : decode (mC M_X12_init) 272 = .ok (.aload_n 0, 1) := by decide +kernel
theorem d_X12_init_273 : decode (mC M_X12_init) 273 = .ok (.sipush 240, 3) := by decide +kernel
theorem d_X12_init_276 : decode (mC M_X12_init) 276 = .ok (.newarray .boolean, 2) := by decide +kernel
theorem d_X12_init_278 : decode (mC M_X12_init) 278 = .ok (.putfield 115, 3) := by decide +kernel
theorem d_X12_init_281 : decode (mC M_X12_init) 281 = .ok (.aload_n 0, 1) := by decide +kernel
theorem d_X12_init_282 : decode (mC M_X12_init) 282 = .ok (.sipush 2400, 3) := by decide +kernel
theorem d_X12_init_285 : decode (mC M_X12_init) 285 = .ok (.newarray .int, 2) := by decide +kernel
theorem d_X12_init_287 : decode (mC M_X12_init) 287 = .ok (.putfield 118, 3) := by decide +kernel
theorem d_X12_init_290 : decode (mC M_X12_init) 290 = .ok (.aload_n 0, 1) := by decide +kernel
theorem d_X12_init_291 : decode (mC M_X12_init) 291 = .ok (.sipush 2400, 3) := by decide +kernel
theorem d_X12_init_294 : decode (mC M_X12_init) 294 = .ok (.newarray .int, 2) := by decide +kernel
theorem d_X12_init_296 : decode (mC M_X12_init) 296 = .ok (.putfield 121, 3) := by decide +kernel
theorem d_X12_init_299 : decode (mC M_X12_init) 299 = .ok (.aload_n 0, 1) := by decide +kernel
theorem d_X12_init_300 : decode (mC M_X12_init) 300 = .ok (.sipush 2400, 3) := by decide +kernel
theorem d_X12_init_303 : decode (mC M_X12_init) 303 = .ok (.newarray .int, 2) := by decide +kernel
theorem d_X12_init_305 : decode (mC M_X12_init) 305 = .ok (.putfield 124, 3) := by decide +kernel
theorem d_X12_init_308 : decode (mC M_X12_init) 308 = .ok (.aload_n 0, 1) := by decide +kernel
theorem d_X12_init_309 : decode (mC M_X12_init) 309 = .ok (.sipush 2400, 3) := by decide +kernel
theorem d_X12_init_312 : decode (mC M_X12_init) 312 = .ok (.newarray .int, 2) := by decide +kernel
theorem d_X12_init_314 : decode (mC M_X12_init) 314 = .ok (.putfield 127, 3) := by decide +kernel
theorem d_X12_init_317 : decode (mC M_X12_init) 317 = .ok (.aload_n 0, 1) := by decide +kernel
theorem d_X12_init_318 : decode (mC M_X12_init) 318 = .ok (.sipush 2400, 3) := by decide +kernel
theorem d_X12_init_321 : decode (mC M_X12_init) 321 = .ok (.newarray .int, 2) := by decide +kernel
theorem d_X12_init_323 : decode (mC M_X12_init) 323 = .ok (.putfield 130, 3) := by decide +kernel
theorem d_X12_init_326 : decode (mC M_X12_init) 326 = .ok (.aload_n 0, 1) := by decide +kernel
theorem d_X12_init_327 : decode (mC M_X12_init) 327 = .ok (.sipush 2400, 3) := by decide +kernel
theorem d_X12_init_330 : decode (mC M_X12_init) 330 = .ok (.newarray .int, 2) := by decide +kernel
theorem d_X12_init_332 : decode (mC M_X12_init) 332 = .ok (.putfield 133, 3) := by decide +kernel
theorem d_X12_init_335 : decode (mC M_X12_init) 335 = .ok (.aload_n 0, 1) := by decide +kernel
theorem d_X12_init_336 : decode (mC M_X12_init) 336 = .ok (.iconst 5, 1) := by decide +kernel
theorem d_X12_init_337 : decode (mC M_X12_init) 337 = .ok (.newarray .int, 2) := by decide +kernel
theorem d_X12_init_339 : decode (mC M_X12_init) 339 = .ok (.putfield 136, 3) := by decide +kernel
theorem d_X12_init_342 : decode (mC M_X12_init) 342 = .ok (.aload_n 0, 1) := by decide +kernel
theorem d_X12_init_343 : decode (mC M_X12_init) 343 = .ok (.bipush 40, 2) := by decide +kernel
theorem d_X12_init_345 : decode (mC M_X12_init) 345 = .ok (.newarray .boolean, 2) := by decide +kernel
theorem d_X12_init_347 : decode (mC M_X12_init) 347 = .ok (.putfield 139, 3) := by decide +kernel
theorem d_X12_init_350 : decode (mC M_X12_init) 350 = .ok (.aload_n 0, 1) := by decide +kernel
theorem d_X12_init_351 : decode (mC M_X12_init) 351 = .ok (.bipush 40, 2) := by decide +kernel
theorem d_X12_init_353 : decode (mC M_X12_init) 353 = .ok (.newarray .int, 2) := by decide +kernel
theorem d_X12_init_355 : decode (mC M_X12_init) 355 = .ok (.putfield 142, 3) := by decide +kernel
theorem d_X12_init_358 : decode (mC M_X12_init) 358 = .ok (.aload_n 0, 1) := by decide +kernel
theorem d_X12_init_359 : decode (mC M_X12_init) 359 = .ok (.bipush 40, 2) := by decide +kernel
theorem d_X12_init_361 : decode (mC M_X12_init) 361 = .ok (.newarray .int, 2) := by decide +kernel
theorem d_X12_init_363 : decode (mC M_X12_init) 363 = .ok (.putfield 145, 3) := by decide +kernel
theorem d_X12_init_366 : decode (mC M_X12_init) 366 = .ok (.aload_n 0, 1) := by decide +kernel
theorem d_X12_init_367 : decode (mC M_X12_init) 367 = .ok (.bipush 40, 2) := by decide +kernel
theorem d_X12_init_369 : decode (mC M_X12_init) 369 = .ok (.newarray .int, 2) := by decide +kernel
theorem d_X12_init_371 : decode (mC M_X12_init) 371 = .ok (.putfield 148, 3) := by decide +kernel
theorem d_X12_init_374 : decode (mC M_X12_init) 374 = .ok (.return_, 1) := by decide +kernel
theorem d_X12_is_0 : decode (mC M_X12_is) 0 = .ok (.aload_n 0, 1) := by decide +kernel
theorem d_X12_is_1 : decode (mC M_X12_is) 1 = .ok (.getfield 192, 3) := by decide +kernel
theorem d_X12_is_4 : decode (mC M_X12_is) 4 = .ok (.iconst 4, 1) := by decide +kernel
theorem d_X12_is_5 : decode (mC M_X12_is) 5 = .ok (.if_icmp .ne 15, 3) := by decide +kernel
theorem d_X12_is_8 : decode (mC M_X12_is) 8 = .ok (.aload_n 0, 1) := by decide +kernel
theorem d_X12_is_9 : decode (mC M_X12_is) 9 = .ok (.getfield 205, 3) := by decide +kernel
theorem d_X12_is_12 : decode (mC M_X12_is) 12 = .ok (.iload_n 1, 1) := by decide +kernel
theorem d_X12_is_13 : decode (mC M_X12_is) 13 = .ok (.if_icmp .ne 7, 3) := by decide +kernel
theorem d_X12_is_16 : decode (mC M_X12_is) 16 = .ok (.iconst 1, 1) := by decide +kernel
theorem d_X12_is_17 : decode (mC M_X12_is) 17 = .ok (.goto 4, 3) := by decide +kernel
theorem d_X12_is_20 : decode (mC M_X12_is) 20 = .ok (.iconst 0, 1) := by decide +kernel
theorem d_X12_is_21 : decode (mC M_X12_is) 21 = .ok (.ireturn, 1) := by decide +kernel
theorem d_X12_isAsk_0 : decode (mC M_X12_isAsk) 0 = .ok (.iload_n 1, 1) := by decide +kernel
theorem d_X12_isAsk_1 : decode (mC M_X12_isAsk) 1 = .ok (.ifCond .lt 15, 3) := by decide +kernel
theorem d_X12_isAsk_4 : decode (mC M_X12_isAsk) 4 = .ok (.iload_n 1, 1) := by decide +kernel
theorem d_X12_isAsk_5 : decode (mC M_X12_isAsk) 5 = .ok (.aload_n 0, 1) := by decide +kernel
theorem d_X12_isAsk_6 : decode (mC M_X12_isAsk) 6 = .ok (.getfield 298, 3) := by decide +kernel
theorem d_X12_isAsk_9 : decode (mC M_X12_isAsk) 9 = .ok (.if_icmp .ge 7, 3) := by decide +kernel
theorem d_X12_isAsk_12 : decode (mC M_X12_isAsk) 12 = .ok (.iconst 1, 1) := by decide +kernel
theorem d_X12_isAsk_13 : decode (mC M_X12_isAsk) 13 = .ok (.goto 4, 3) := by decide +kernel
theorem d_X12_isAsk_16 : decode (mC M_X12_isAsk) 16 = .ok (.iconst 0, 1) := by decide +kernel
theorem d_X12_isAsk_17 : decode (mC M_X12_isAsk) 17 = .ok (.ireturn, 1) := by decide +kernel
theorem d_X12_isDigit_0 : decode (mC M_X12_isDigit) 0 = .ok (.iload_n 0, 1) := by decide +kernel
theorem d_X12_isDigit_1 : decode (mC M_X12_isDigit) 1 = .ok (.bipush 48, 2) := by decide +kernel
theorem d_X12_isDigit_3 : decode (mC M_X12_isDigit) 3 = .ok (.if_icmp .lt 13, 3) := by decide +kernel
theorem d_X12_isDigit_6 : decode (mC M_X12_isDigit) 6 = .ok (.iload_n 0, 1) := by decide +kernel
theorem d_X12_isDigit_7 : decode (mC M_X12_isDigit) 7 = .ok (.bipush 57, 2) := by decide +kernel
theorem d_X12_isDigit_9 : decode (mC M_X12_isDigit) 9 = .ok (.if_icmp .gt 7, 3) := by decide +kernel
theorem d_X12_isDigit_12 : decode (mC M_X12_isDigit) 12 = .ok (.iconst 1, 1) := by decide +kernel
theorem d_X12_isDigit_13 : decode (mC M_X12_isDigit) 13 = .ok (.goto 4, 3) := by decide +kernel
theorem d_X12_isDigit_16 : decode (mC M_X12_isDigit) 16 = .ok (.iconst 0, 1) := by decide +kernel
theorem d_X12_isDigit_17 : decode (mC M_X12_isDigit) 17 = .ok (.ireturn, 1) := by decide +kernel
theorem d_X12_isPerson_0 : decode (mC M_X12_isPerson) 0 = .ok (.iload_n 1, 1) := by decide +kernel
theorem d_X12_isPerson_1 : decode (mC M_X12_isPerson) 1 = .ok (.ifCond .lt 15, 3) := by decide +kernel
theorem d_X12_isPerson_4 : decode (mC M_X12_isPerson) 4 = .ok (.iload_n 1, 1) := by decide +kernel
theorem d_X12_isPerson_5 : decode (mC M_X12_isPerson) 5 = .ok (.aload_n 0, 1) := by decide +kernel
theorem d_X12_isPerson_6 : decode (mC M_X12_isPerson) 6 = .ok (.getfield 151, 3) := by decide +kernel
theorem d_X12_isPerson_9 : decode (mC M_X12_isPerson) 9 = .ok (.if_icmp .ge 7, 3) := by decide +kernel
theorem d_X12_isPerson_12 : decode (mC M_X12_isPerson) 12 = .ok (.iconst 1, 1) := by decide +kernel
theorem d_X12_isPerson_13 : decode (mC M_X12_isPerson) 13 = .ok (.goto 4, 3) := by decide +kernel
theorem d_X12_isPerson_16 : decode (mC M_X12_isPerson) 16 = .ok (.iconst 0, 1) := by decide +kernel
theorem d_X12_isPerson_17 : decode (mC M_X12_isPerson) 17 = .ok (.ireturn, 1) := by decide +kernel
theorem d_X12_isRecord_0 : decode (mC M_X12_isRecord) 0 = .ok (.aload_n 0, 1) := by decide +kernel
theorem d_X12_isRecord_1 : decode (mC M_X12_isRecord) 1 = .ok (.iload_n 1, 1) := by decide +kernel
theorem d_X12_isRecord_2 : decode (mC M_X12_isRecord) 2 = .ok (.invokevirtual 159, 3) := by decide +kernel
theorem d_X12_isRecord_5 : decode (mC M_X12_isRecord) 5 = .ok (.ifCond .eq 34, 3) := by decide +kernel
theorem d_X12_isRecord_8 : decode (mC M_X12_isRecord) 8 = .ok (.iload_n 2, 1) := by decide +kernel
theorem d_X12_isRecord_9 : decode (mC M_X12_isRecord) 9 = .ok (.ifCond .lt 30, 3) := by decide +kernel
theorem d_X12_isRecord_12 : decode (mC M_X12_isRecord) 12 = .ok (.iload_n 2, 1) := by decide +kernel
theorem d_X12_isRecord_13 : decode (mC M_X12_isRecord) 13 = .ok (.aload_n 0, 1) := by decide +kernel
theorem d_X12_isRecord_14 : decode (mC M_X12_isRecord) 14 = .ok (.getfield 304, 3) := by decide +kernel
theorem d_X12_isRecord_17 : decode (mC M_X12_isRecord) 17 = .ok (.if_icmp .ge 22, 3) := by decide +kernel
theorem d_X12_isRecord_20 : decode (mC M_X12_isRecord) 20 = .ok (.aload_n 0, 1) := by decide +kernel
theorem d_X12_isRecord_21 : decode (mC M_X12_isRecord) 21 = .ok (.getfield 118, 3) := by decide +kernel
theorem d_X12_isRecord_24 : decode (mC M_X12_isRecord) 24 = .ok (.bipush 40, 2) := by decide +kernel
theorem d_X12_isRecord_26 : decode (mC M_X12_isRecord) 26 = .ok (.iload_n 2, 1) := by decide +kernel
theorem d_X12_isRecord_27 : decode (mC M_X12_isRecord) 27 = .ok (.imul, 1) := by decide +kernel
theorem d_X12_isRecord_28 : decode (mC M_X12_isRecord) 28 = .ok (.iload_n 1, 1) := by decide +kernel
theorem d_X12_isRecord_29 : decode (mC M_X12_isRecord) 29 = .ok (.iadd, 1) := by decide +kernel
theorem d_X12_isRecord_30 : decode (mC M_X12_isRecord) 30 = .ok (.iaload, 1) := by decide +kernel
theorem d_X12_isRecord_31 : decode (mC M_X12_isRecord) 31 = .ok (.iconst (-1), 1) := by decide +kernel
theorem d_X12_isRecord_32 : decode (mC M_X12_isRecord) 32 = .ok (.if_icmp .eq 7, 3) := by decide +kernel
theorem d_X12_isRecord_35 : decode (mC M_X12_isRecord) 35 = .ok (.iconst 1, 1) := by decide +kernel
theorem d_X12_isRecord_36 : decode (mC M_X12_isRecord) 36 = .ok (.goto 4, 3) := by decide +kernel
theorem d_X12_isRecord_39 : decode (mC M_X12_isRecord) 39 = .ok (.iconst 0, 1) := by decide +kernel
theorem d_X12_isRecord_40 : decode (mC M_X12_isRecord) 40 = .ok (.ireturn, 1) := by decide +kernel
theorem d_X12_isRoom_0 : decode (mC M_X12_isRoom) 0 = .ok (.iconst 0, 1) := by decide +kernel
theorem d_X12_isRoom_1 : decode (mC M_X12_isRoom) 1 = .ok (.istore_n 1, 1) := by decide +kernel
theorem d_X12_isRoom_2 : decode (mC M_X12_isRoom) 2 = .ok (.iload_n 1, 1) := by decide +kernel
theorem d_X12_isRoom_3 : decode (mC M_X12_isRoom) 3 = .ok (.iconst 1, 1) := by decide +kernel
theorem d_X12_isRoom_4 : decode (mC M_X12_isRoom) 4 = .ok (.aload_n 0, 1) := by decide +kernel
theorem d_X12_isRoom_5 : decode (mC M_X12_isRoom) 5 = .ok (.getfield 298, 3) := by decide +kernel
theorem d_X12_isRoom_8 : decode (mC M_X12_isRoom) 8 = .ok (.ishl, 1) := by decide +kernel
theorem d_X12_isRoom_9 : decode (mC M_X12_isRoom) 9 = .ok (.if_icmp .ge 99, 3) := by decide +kernel
theorem d_X12_isRoom_12 : decode (mC M_X12_isRoom) 12 = .ok (.iconst 0, 1) := by decide +kernel
theorem d_X12_isRoom_13 : decode (mC M_X12_isRoom) 13 = .ok (.istore_n 2, 1) := by decide +kernel
theorem d_X12_isRoom_14 : decode (mC M_X12_isRoom) 14 = .ok (.iconst 0, 1) := by decide +kernel
theorem d_X12_isRoom_15 : decode (mC M_X12_isRoom) 15 = .ok (.istore_n 3, 1) := by decide +kernel
theorem d_X12_isRoom_16 : decode (mC M_X12_isRoom) 16 = .ok (.iload_n 3, 1) := by decide +kernel
theorem d_X12_isRoom_17 : decode (mC M_X12_isRoom) 17 = .ok (.aload_n 0, 1) := by decide +kernel
theorem d_X12_isRoom_18 : decode (mC M_X12_isRoom) 18 = .ok (.getfield 298, 3) := by decide +kernel
theorem d_X12_isRoom_21 : decode (mC M_X12_isRoom) 21 = .ok (.if_icmp .ge 27, 3) := by decide +kernel
theorem d_X12_isRoom_24 : decode (mC M_X12_isRoom) 24 = .ok (.iload_n 1, 1) := by decide +kernel
theorem d_X12_isRoom_25 : decode (mC M_X12_isRoom) 25 = .ok (.iload_n 3, 1) := by decide +kernel
theorem d_X12_isRoom_26 : decode (mC M_X12_isRoom) 26 = .ok (.ishr, 1) := by decide +kernel
theorem d_X12_isRoom_27 : decode (mC M_X12_isRoom) 27 = .ok (.iconst 1, 1) := by decide +kernel
theorem d_X12_isRoom_28 : decode (mC M_X12_isRoom) 28 = .ok (.iand, 1) := by decide +kernel
theorem d_X12_isRoom_29 : decode (mC M_X12_isRoom) 29 = .ok (.iconst 1, 1) := by decide +kernel
theorem d_X12_isRoom_30 : decode (mC M_X12_isRoom) 30 = .ok (.if_icmp .ne 12, 3) := by decide +kernel
theorem d_X12_isRoom_33 : decode (mC M_X12_isRoom) 33 = .ok (.iload_n 2, 1) := by decide +kernel
theorem d_X12_isRoom_34 : decode (mC M_X12_isRoom) 34 = .ok (.aload_n 0, 1) := by decide +kernel
theorem d_X12_isRoom_35 : decode (mC M_X12_isRoom) 35 = .ok (.getfield 94, 3) := by decide +kernel
theorem d_X12_isRoom_38 : decode (mC M_X12_isRoom) 38 = .ok (.iload_n 3, 1) := by decide +kernel
theorem d_X12_isRoom_39 : decode (mC M_X12_isRoom) 39 = .ok (.iaload, 1) := by decide +kernel
theorem d_X12_isRoom_40 : decode (mC M_X12_isRoom) 40 = .ok (.iadd, 1) := by decide +kernel
theorem d_X12_isRoom_41 : decode (mC M_X12_isRoom) 41 = .ok (.istore_n 2, 1) := by decide +kernel
theorem d_X12_isRoom_42 : decode (mC M_X12_isRoom) 42 = .ok (.iinc 3 1, 3) := by decide +kernel
theorem d_X12_isRoom_45 : decode (mC M_X12_isRoom) 45 = .ok (.goto (-29), 3) := by decide +kernel
theorem d_X12_isRoom_48 : decode (mC M_X12_isRoom) 48 = .ok (.iconst 0, 1) := by decide +kernel
theorem d_X12_isRoom_49 : decode (mC M_X12_isRoom) 49 = .ok (.istore_n 3, 1) := by decide +kernel
theorem d_X12_isRoom_50 : decode (mC M_X12_isRoom) 50 = .ok (.iconst 0, 1) := by decide +kernel
theorem d_X12_isRoom_51 : decode (mC M_X12_isRoom) 51 = .ok (.istore 4, 2) := by decide +kernel
theorem d_X12_isRoom_53 : decode (mC M_X12_isRoom) 53 = .ok (.iload 4, 2) := by decide +kernel
theorem d_X12_isRoom_55 : decode (mC M_X12_isRoom) 55 = .ok (.aload_n 0, 1) := by decide +kernel
theorem d_X12_isRoom_56 : decode (mC M_X12_isRoom) 56 = .ok (.getfield 151, 3) := by decide +kernel
theorem d_X12_isRoom_59 : decode (mC M_X12_isRoom) 59 = .ok (.if_icmp .ge 36, 3) := by decide +kernel
theorem d_X12_isRoom_62 : decode (mC M_X12_isRoom) 62 = .ok (.aload_n 0, 1) := by decide +kernel
theorem d_X12_isRoom_63 : decode (mC M_X12_isRoom) 63 = .ok (.getfield 91, 3) := by decide +kernel
theorem d_X12_isRoom_66 : decode (mC M_X12_isRoom) 66 = .ok (.iload 4, 2) := by decide +kernel
theorem d_X12_isRoom_68 : decode (mC M_X12_isRoom) 68 = .ok (.baload, 1) := by decide +kernel
theorem d_X12_isRoom_69 : decode (mC M_X12_isRoom) 69 = .ok (.ifCond .eq 20, 3) := by decide +kernel
theorem d_X12_isRoom_72 : decode (mC M_X12_isRoom) 72 = .ok (.aload_n 0, 1) := by decide +kernel
theorem d_X12_isRoom_73 : decode (mC M_X12_isRoom) 73 = .ok (.getfield 88, 3) := by decide +kernel
theorem d_X12_isRoom_76 : decode (mC M_X12_isRoom) 76 = .ok (.iload 4, 2) := by decide +kernel
theorem d_X12_isRoom_78 : decode (mC M_X12_isRoom) 78 = .ok (.iaload, 1) := by decide +kernel
theorem d_X12_isRoom_79 : decode (mC M_X12_isRoom) 79 = .ok (.iload_n 1, 1) := by decide +kernel
theorem d_X12_isRoom_80 : decode (mC M_X12_isRoom) 80 = .ok (.iconst (-1), 1) := by decide +kernel
theorem d_X12_isRoom_81 : decode (mC M_X12_isRoom) 81 = .ok (.ixor, 1) := by decide +kernel
theorem d_X12_isRoom_82 : decode (mC M_X12_isRoom) 82 = .ok (.iand, 1) := by decide +kernel
theorem d_X12_isRoom_83 : decode (mC M_X12_isRoom) 83 = .ok (.ifCond .ne 6, 3) := by decide +kernel
theorem d_X12_isRoom_86 : decode (mC M_X12_isRoom) 86 = .ok (.iinc 3 1, 3) := by decide +kernel
theorem d_X12_isRoom_89 : decode (mC M_X12_isRoom) 89 = .ok (.iinc 4 1, 3) := by decide +kernel
theorem d_X12_isRoom_92 : decode (mC M_X12_isRoom) 92 = .ok (.goto (-39), 3) := by decide +kernel
theorem d_X12_isRoom_95 : decode (mC M_X12_isRoom) 95 = .ok (.iload_n 3, 1) := by decide +kernel
theorem d_X12_isRoom_96 : decode (mC M_X12_isRoom) 96 = .ok (.iload_n 2, 1) := by decide +kernel
theorem d_X12_isRoom_97 : decode (mC M_X12_isRoom) 97 = .ok (.if_icmp .le 5, 3) := by decide +kernel
theorem d_X12_isRoom_100 : decode (mC M_X12_isRoom) 100 = .ok (.iconst 0, 1) := by decide +kernel
theorem d_X12_isRoom_101 : decode (mC M_X12_isRoom) 101 = .ok (.ireturn, 1) := by decide +kernel
theorem d_X12_isRoom_102 : decode (mC M_X12_isRoom) 102 = .ok (.iinc 1 1, 3) := by decide +kernel
theorem d_X12_isRoom_105 : decode (mC M_X12_isRoom) 105 = .ok (.goto (-103), 3) := by decide +kernel
theorem d_X12_isRoom_108 : decode (mC M_X12_isRoom) 108 = .ok (.iconst 1, 1) := by decide +kernel
theorem d_X12_isRoom_109 : decode (mC M_X12_isRoom) 109 = .ok (.ireturn, 1) := by decide +kernel
theorem d_X12_isSmall_0 : decode (mC M_X12_isSmall) 0 = .ok (.iload_n 0, 1) := by decide +kernel
theorem d_X12_isSmall_1 : decode (mC M_X12_isSmall) 1 = .ok (.bipush 97, 2) := by decide +kernel
theorem d_X12_isSmall_3 : decode (mC M_X12_isSmall) 3 = .ok (.if_icmp .lt 13, 3) := by decide +kernel
theorem d_X12_isSmall_6 : decode (mC M_X12_isSmall) 6 = .ok (.iload_n 0, 1) := by decide +kernel
theorem d_X12_isSmall_7 : decode (mC M_X12_isSmall) 7 = .ok (.bipush 122, 2) := by decide +kernel
theorem d_X12_isSmall_9 : decode (mC M_X12_isSmall) 9 = .ok (.if_icmp .gt 7, 3) := by decide +kernel
theorem d_X12_isSmall_12 : decode (mC M_X12_isSmall) 12 = .ok (.iconst 1, 1) := by decide +kernel
theorem d_X12_isSmall_13 : decode (mC M_X12_isSmall) 13 = .ok (.goto 4, 3) := by decide +kernel
theorem d_X12_isSmall_16 : decode (mC M_X12_isSmall) 16 = .ok (.iconst 0, 1) := by decide +kernel
theorem d_X12_isSmall_17 : decode (mC M_X12_isSmall) 17 = .ok (.ireturn, 1) := by decide +kernel
theorem d_X12_isWord_0 : decode (mC M_X12_isWord) 0 = .ok (.aload_n 0, 1) := by decide +kernel
theorem d_X12_isWord_1 : decode (mC M_X12_isWord) 1 = .ok (.getfield 192, 3) := by decide +kernel
theorem d_X12_isWord_4 : decode (mC M_X12_isWord) 4 = .ok (.iconst 3, 1) := by decide +kernel
theorem d_X12_isWord_5 : decode (mC M_X12_isWord) 5 = .ok (.if_icmp .ne 19, 3) := by decide +kernel
theorem d_X12_isWord_8 : decode (mC M_X12_isWord) 8 = .ok (.aload_n 0, 1) := by decide +kernel
theorem d_X12_isWord_9 : decode (mC M_X12_isWord) 9 = .ok (.getfield 186, 3) := by decide +kernel
theorem d_X12_isWord_12 : decode (mC M_X12_isWord) 12 = .ok (.aload_n 0, 1) := by decide +kernel
theorem d_X12_isWord_13 : decode (mC M_X12_isWord) 13 = .ok (.getfield 189, 3) := by decide +kernel
theorem d_X12_isWord_16 : decode (mC M_X12_isWord) 16 = .ok (.isub, 1) := by decide +kernel
theorem d_X12_isWord_17 : decode (mC M_X12_isWord) 17 = .ok (.aload_n 1, 1) := by decide +kernel
theorem d_X12_isWord_18 : decode (mC M_X12_isWord) 18 = .ok (.invokevirtual 211, 3) := by decide +kernel
theorem d_X12_isWord_21 : decode (mC M_X12_isWord) 21 = .ok (.if_icmp .eq 5, 3) := by decide +kernel
theorem d_X12_isWord_24 : decode (mC M_X12_isWord) 24 = .ok (.iconst 0, 1) := by decide +kernel
theorem d_X12_isWord_25 : decode (mC M_X12_isWord) 25 = .ok (.ireturn, 1) := by decide +kernel
theorem d_X12_isWord_26 : decode (mC M_X12_isWord) 26 = .ok (.iconst 0, 1) := by decide +kernel
theorem d_X12_isWord_27 : decode (mC M_X12_isWord) 27 = .ok (.istore_n 2, 1) := by decide +kernel
theorem d_X12_isWord_28 : decode (mC M_X12_isWord) 28 = .ok (.iload_n 2, 1) := by decide +kernel
theorem d_X12_isWord_29 : decode (mC M_X12_isWord) 29 = .ok (.aload_n 1, 1) := by decide +kernel
theorem d_X12_isWord_30 : decode (mC M_X12_isWord) 30 = .ok (.invokevirtual 211, 3) := by decide +kernel
theorem d_X12_isWord_33 : decode (mC M_X12_isWord) 33 = .ok (.if_icmp .ge 30, 3) := by decide +kernel
theorem d_X12_isWord_36 : decode (mC M_X12_isWord) 36 = .ok (.aload_n 0, 1) := by decide +kernel
theorem d_X12_isWord_37 : decode (mC M_X12_isWord) 37 = .ok (.getfield 183, 3) := by decide +kernel
theorem d_X12_isWord_40 : decode (mC M_X12_isWord) 40 = .ok (.aload_n 0, 1) := by decide +kernel
theorem d_X12_isWord_41 : decode (mC M_X12_isWord) 41 = .ok (.getfield 189, 3) := by decide +kernel
theorem d_X12_isWord_44 : decode (mC M_X12_isWord) 44 = .ok (.iload_n 2, 1) := by decide +kernel
theorem d_X12_isWord_45 : decode (mC M_X12_isWord) 45 = .ok (.iadd, 1) := by decide +kernel
theorem d_X12_isWord_46 : decode (mC M_X12_isWord) 46 = .ok (.baload, 1) := by decide +kernel
theorem d_X12_isWord_47 : decode (mC M_X12_isWord) 47 = .ok (.aload_n 1, 1) := by decide +kernel
theorem d_X12_isWord_48 : decode (mC M_X12_isWord) 48 = .ok (.iload_n 2, 1) := by decide +kernel
theorem d_X12_isWord_49 : decode (mC M_X12_isWord) 49 = .ok (.invokevirtual 217, 3) := by decide +kernel
theorem d_X12_isWord_52 : decode (mC M_X12_isWord) 52 = .ok (.if_icmp .eq 5, 3) := by decide +kernel
theorem d_X12_isWord_55 : decode (mC M_X12_isWord) 55 = .ok (.iconst 0, 1) := by decide +kernel
theorem d_X12_isWord_56 : decode (mC M_X12_isWord) 56 = .ok (.ireturn, 1) := by decide +kernel
theorem d_X12_isWord_57 : decode (mC M_X12_isWord) 57 = .ok (.iinc 2 1, 3) := by decide +kernel
theorem d_X12_isWord_60 : decode (mC M_X12_isWord) 60 = .ok (.goto (-32), 3) := by decide +kernel
theorem d_X12_isWord_63 : decode (mC M_X12_isWord) 63 = .ok (.iconst 1, 1) := by decide +kernel
theorem d_X12_isWord_64 : decode (mC M_X12_isWord) 64 = .ok (.ireturn, 1) := by decide +kernel
theorem d_X12_lacks_0 : decode (mC M_X12_lacks) 0 = .ok (.aload_n 0, 1) := by decide +kernel
theorem d_X12_lacks_1 : decode (mC M_X12_lacks) 1 = .ok (.iconst 0, 1) := by decide +kernel
theorem d_X12_lacks_2 : decode (mC M_X12_lacks) 2 = .ok (.putfield 1, 3) := by decide +kernel
theorem d_X12_lacks_5 : decode (mC M_X12_lacks) 5 = .ok (.iload_n 1, 1) := by decide +kernel
theorem d_X12_lacks_6 : decode (mC M_X12_lacks) 6 = .ok (.ifCond .lt 20, 3) := by decide +kernel
theorem d_X12_lacks_9 : decode (mC M_X12_lacks) 9 = .ok (.iload_n 1, 1) := by decide +kernel
theorem d_X12_lacks_10 : decode (mC M_X12_lacks) 10 = .ok (.aload_n 0, 1) := by decide +kernel
theorem d_X12_lacks_11 : decode (mC M_X12_lacks) 11 = .ok (.getfield 384, 3) := by decide +kernel
theorem d_X12_lacks_14 : decode (mC M_X12_lacks) 14 = .ok (.if_icmp .ge 12, 3) := by decide +kernel
theorem d_X12_lacks_17 : decode (mC M_X12_lacks) 17 = .ok (.aload_n 0, 1) := by decide +kernel
theorem d_X12_lacks_18 : decode (mC M_X12_lacks) 18 = .ok (.getfield 148, 3) := by decide +kernel
theorem d_X12_lacks_21 : decode (mC M_X12_lacks) 21 = .ok (.iload_n 1, 1) := by decide +kernel
theorem d_X12_lacks_22 : decode (mC M_X12_lacks) 22 = .ok (.iaload, 1) := by decide +kernel
theorem d_X12_lacks_23 : decode (mC M_X12_lacks) 23 = .ok (.goto 4, 3) := by decide +kernel
theorem d_X12_lacks_26 : decode (mC M_X12_lacks) 26 = .ok (.iconst (-1), 1) := by decide +kernel
theorem d_X12_lacks_27 : decode (mC M_X12_lacks) 27 = .ok (.ireturn, 1) := by decide +kernel
theorem d_X12_lay_0 : decode (mC M_X12_lay) 0 = .ok (.aload_n 0, 1) := by decide +kernel
theorem d_X12_lay_1 : decode (mC M_X12_lay) 1 = .ok (.iconst 0, 1) := by decide +kernel
theorem d_X12_lay_2 : decode (mC M_X12_lay) 2 = .ok (.putfield 1, 3) := by decide +kernel
theorem d_X12_lay_5 : decode (mC M_X12_lay) 5 = .ok (.aload_n 0, 1) := by decide +kernel
theorem d_X12_lay_6 : decode (mC M_X12_lay) 6 = .ok (.getfield 298, 3) := by decide +kernel
theorem d_X12_lay_9 : decode (mC M_X12_lay) 9 = .ok (.ifCond .ne 5, 3) := by decide +kernel
theorem d_X12_lay_12 : decode (mC M_X12_lay) 12 = .ok (.iconst (-1), 1) := by decide +kernel
theorem d_X12_lay_13 : decode (mC M_X12_lay) 13 = .ok (.ireturn, 1) := by decide +kernel
theorem d_X12_lay_14 : decode (mC M_X12_lay) 14 = .ok (.aload_n 0, 1) := by decide +kernel
theorem d_X12_lay_15 : decode (mC M_X12_lay) 15 = .ok (.invokevirtual 320, 3) := by decide +kernel
theorem d_X12_lay_18 : decode (mC M_X12_lay) 18 = .ok (.iconst 0, 1) := by decide +kernel
theorem d_X12_lay_19 : decode (mC M_X12_lay) 19 = .ok (.istore_n 1, 1) := by decide +kernel
theorem d_X12_lay_20 : decode (mC M_X12_lay) 20 = .ok (.iload_n 1, 1) := by decide +kernel
theorem d_X12_lay_21 : decode (mC M_X12_lay) 21 = .ok (.aload_n 0, 1) := by decide +kernel
theorem d_X12_lay_22 : decode (mC M_X12_lay) 22 = .ok (.getfield 151, 3) := by decide +kernel
theorem d_X12_lay_25 : decode (mC M_X12_lay) 25 = .ok (.if_icmp .ge 30, 3) := by decide +kernel
theorem d_X12_lay_28 : decode (mC M_X12_lay) 28 = .ok (.aload_n 0, 1) := by decide +kernel
theorem d_X12_lay_29 : decode (mC M_X12_lay) 29 = .ok (.getfield 91, 3) := by decide +kernel
theorem d_X12_lay_32 : decode (mC M_X12_lay) 32 = .ok (.iload_n 1, 1) := by decide +kernel
theorem d_X12_lay_33 : decode (mC M_X12_lay) 33 = .ok (.iconst 0, 1) := by decide +kernel
theorem d_X12_lay_34 : decode (mC M_X12_lay) 34 = .ok (.bastore, 1) := by decide +kernel
theorem d_X12_lay_35 : decode (mC M_X12_lay) 35 = .ok (.aload_n 0, 1) := by decide +kernel
theorem d_X12_lay_36 : decode (mC M_X12_lay) 36 = .ok (.getfield 97, 3) := by decide +kernel
theorem d_X12_lay_39 : decode (mC M_X12_lay) 39 = .ok (.iload_n 1, 1) := by decide +kernel
theorem d_X12_lay_40 : decode (mC M_X12_lay) 40 = .ok (.iconst 0, 1) := by decide +kernel
theorem d_X12_lay_41 : decode (mC M_X12_lay) 41 = .ok (.bastore, 1) := by decide +kernel
theorem d_X12_lay_42 : decode (mC M_X12_lay) 42 = .ok (.aload_n 0, 1) := by decide +kernel
theorem d_X12_lay_43 : decode (mC M_X12_lay) 43 = .ok (.getfield 39, 3) := by decide +kernel
theorem d_X12_lay_46 : decode (mC M_X12_lay) 46 = .ok (.iload_n 1, 1) := by decide +kernel
theorem d_X12_lay_47 : decode (mC M_X12_lay) 47 = .ok (.iconst (-1), 1) := by decide +kernel
theorem d_X12_lay_48 : decode (mC M_X12_lay) 48 = .ok (.iastore, 1) := by decide +kernel
theorem d_X12_lay_49 : decode (mC M_X12_lay) 49 = .ok (.iinc 1 1, 3) := by decide +kernel
theorem d_X12_lay_52 : decode (mC M_X12_lay) 52 = .ok (.goto (-32), 3) := by decide +kernel
theorem d_X12_lay_55 : decode (mC M_X12_lay) 55 = .ok (.iconst 0, 1) := by decide +kernel
theorem d_X12_lay_56 : decode (mC M_X12_lay) 56 = .ok (.istore_n 1, 1) := by decide +kernel
theorem d_X12_lay_57 : decode (mC M_X12_lay) 57 = .ok (.iload_n 1, 1) := by decide +kernel
theorem d_X12_lay_58 : decode (mC M_X12_lay) 58 = .ok (.aload_n 0, 1) := by decide +kernel
theorem d_X12_lay_59 : decode (mC M_X12_lay) 59 = .ok (.getfield 298, 3) := by decide +kernel
theorem d_X12_lay_62 : decode (mC M_X12_lay) 62 = .ok (.if_icmp .ge 21, 3) := by decide +kernel
theorem d_X12_lay_65 : decode (mC M_X12_lay) 65 = .ok (.aload_n 0, 1) := by decide +kernel
theorem d_X12_lay_66 : decode (mC M_X12_lay) 66 = .ok (.getfield 94, 3) := by decide +kernel
theorem d_X12_lay_69 : decode (mC M_X12_lay) 69 = .ok (.iload_n 1, 1) := by decide +kernel
theorem d_X12_lay_70 : decode (mC M_X12_lay) 70 = .ok (.aload_n 0, 1) := by decide +kernel
theorem d_X12_lay_71 : decode (mC M_X12_lay) 71 = .ok (.getfield 67, 3) := by decide +kernel
theorem d_X12_lay_74 : decode (mC M_X12_lay) 74 = .ok (.iload_n 1, 1) := by decide +kernel
theorem d_X12_lay_75 : decode (mC M_X12_lay) 75 = .ok (.iaload, 1) := by decide +kernel
theorem d_X12_lay_76 : decode (mC M_X12_lay) 76 = .ok (.iastore, 1) := by decide +kernel
theorem d_X12_lay_77 : decode (mC M_X12_lay) 77 = .ok (.iinc 1 1, 3) := by decide +kernel
theorem d_X12_lay_80 : decode (mC M_X12_lay) 80 = .ok (.goto (-23), 3) := by decide +kernel
theorem d_X12_lay_83 : decode (mC M_X12_lay) 83 = .ok (.iconst 0, 1) := by decide +kernel
theorem d_X12_lay_84 : decode (mC M_X12_lay) 84 = .ok (.istore_n 1, 1) := by decide +kernel
theorem d_X12_lay_85 : decode (mC M_X12_lay) 85 = .ok (.iconst 0, 1) := by decide +kernel
theorem d_X12_lay_86 : decode (mC M_X12_lay) 86 = .ok (.istore_n 2, 1) := by decide +kernel
theorem d_X12_lay_87 : decode (mC M_X12_lay) 87 = .ok (.iload_n 2, 1) := by decide +kernel
theorem d_X12_lay_88 : decode (mC M_X12_lay) 88 = .ok (.aload_n 0, 1) := by decide +kernel
theorem d_X12_lay_89 : decode (mC M_X12_lay) 89 = .ok (.getfield 151, 3) := by decide +kernel
theorem d_X12_lay_92 : decode (mC M_X12_lay) 92 = .ok (.if_icmp .ge 50, 3) := by decide +kernel
theorem d_X12_lay_95 : decode (mC M_X12_lay) 95 = .ok (.aload_n 0, 1) := by decide +kernel
theorem d_X12_lay_96 : decode (mC M_X12_lay) 96 = .ok (.invokevirtual 323, 3) := by decide +kernel
theorem d_X12_lay_99 : decode (mC M_X12_lay) 99 = .ok (.istore_n 3, 1) := by decide +kernel
theorem d_X12_lay_100 : decode (mC M_X12_lay) 100 = .ok (.aload_n 0, 1) := by decide +kernel
theorem d_X12_lay_101 : decode (mC M_X12_lay) 101 = .ok (.getfield 97, 3) := by decide +kernel
theorem d_X12_lay_104 : decode (mC M_X12_lay) 104 = .ok (.iload_n 3, 1) := by decide +kernel
theorem d_X12_lay_105 : decode (mC M_X12_lay) 105 = .ok (.iconst 1, 1) := by decide +kernel
theorem d_X12_lay_106 : decode (mC M_X12_lay) 106 = .ok (.bastore, 1) := by decide +kernel
theorem d_X12_lay_107 : decode (mC M_X12_lay) 107 = .ok (.aload_n 0, 1) := by decide +kernel
theorem d_X12_lay_108 : decode (mC M_X12_lay) 108 = .ok (.getfield 91, 3) := by decide +kernel
theorem d_X12_lay_111 : decode (mC M_X12_lay) 111 = .ok (.iload_n 3, 1) := by decide +kernel
theorem d_X12_lay_112 : decode (mC M_X12_lay) 112 = .ok (.iconst 1, 1) := by decide +kernel
theorem d_X12_lay_113 : decode (mC M_X12_lay) 113 = .ok (.bastore, 1) := by decide +kernel
theorem d_X12_lay_114 : decode (mC M_X12_lay) 114 = .ok (.aload_n 0, 1) := by decide +kernel
theorem d_X12_lay_115 : decode (mC M_X12_lay) 115 = .ok (.getfield 91, 3) := by decide +kernel
theorem d_X12_lay_118 : decode (mC M_X12_lay) 118 = .ok (.iload_n 3, 1) := by decide +kernel
theorem d_X12_lay_119 : decode (mC M_X12_lay) 119 = .ok (.aload_n 0, 1) := by decide +kernel
theorem d_X12_lay_120 : decode (mC M_X12_lay) 120 = .ok (.invokevirtual 326, 3) := by decide +kernel
theorem d_X12_lay_123 : decode (mC M_X12_lay) 123 = .ok (.bastore, 1) := by decide +kernel
theorem d_X12_lay_124 : decode (mC M_X12_lay) 124 = .ok (.aload_n 0, 1) := by decide +kernel
theorem d_X12_lay_125 : decode (mC M_X12_lay) 125 = .ok (.getfield 91, 3) := by decide +kernel
theorem d_X12_lay_128 : decode (mC M_X12_lay) 128 = .ok (.iload_n 3, 1) := by decide +kernel
theorem d_X12_lay_129 : decode (mC M_X12_lay) 129 = .ok (.baload, 1) := by decide +kernel
theorem d_X12_lay_130 : decode (mC M_X12_lay) 130 = .ok (.ifCond .eq 6, 3) := by decide +kernel
theorem d_X12_lay_133 : decode (mC M_X12_lay) 133 = .ok (.iinc 1 1, 3) := by decide +kernel
theorem d_X12_lay_136 : decode (mC M_X12_lay) 136 = .ok (.iinc 2 1, 3) := by decide +kernel
theorem d_X12_lay_139 : decode (mC M_X12_lay) 139 = .ok (.goto (-52), 3) := by decide +kernel
theorem d_X12_lay_142 : decode (mC M_X12_lay) 142 = .ok (.iconst 0, 1) := by decide +kernel
theorem d_X12_lay_143 : decode (mC M_X12_lay) 143 = .ok (.istore_n 2, 1) := by decide +kernel
theorem d_X12_lay_144 : decode (mC M_X12_lay) 144 = .ok (.iload_n 2, 1) := by decide +kernel
theorem d_X12_lay_145 : decode (mC M_X12_lay) 145 = .ok (.aload_n 0, 1) := by decide +kernel
theorem d_X12_lay_146 : decode (mC M_X12_lay) 146 = .ok (.getfield 151, 3) := by decide +kernel
theorem d_X12_lay_149 : decode (mC M_X12_lay) 149 = .ok (.if_icmp .ge 122, 3) := by decide +kernel
theorem d_X12_lay_152 : decode (mC M_X12_lay) 152 = .ok (.aload_n 0, 1) := by decide +kernel
theorem d_X12_lay_153 : decode (mC M_X12_lay) 153 = .ok (.getfield 91, 3) := by decide +kernel
theorem d_X12_lay_156 : decode (mC M_X12_lay) 156 = .ok (.iload_n 2, 1) := by decide +kernel
theorem d_X12_lay_157 : decode (mC M_X12_lay) 157 = .ok (.baload, 1) := by decide +kernel
theorem d_X12_lay_158 : decode (mC M_X12_lay) 158 = .ok (.ifCond .ne 6, 3) := by decide +kernel
theorem d_X12_lay_161 : decode (mC M_X12_lay) 161 = .ok (.goto 104, 3) := by decide +kernel
theorem d_X12_lay_164 : decode (mC M_X12_lay) 164 = .ok (.aload_n 0, 1) := by decide +kernel
theorem d_X12_lay_165 : decode (mC M_X12_lay) 165 = .ok (.getfield 91, 3) := by decide +kernel
theorem d_X12_lay_168 : decode (mC M_X12_lay) 168 = .ok (.iload_n 2, 1) := by decide +kernel
theorem d_X12_lay_169 : decode (mC M_X12_lay) 169 = .ok (.iconst 0, 1) := by decide +kernel
theorem d_X12_lay_170 : decode (mC M_X12_lay) 170 = .ok (.bastore, 1) := by decide +kernel
theorem d_X12_lay_171 : decode (mC M_X12_lay) 171 = .ok (.iconst 0, 1) := by decide +kernel
theorem d_X12_lay_172 : decode (mC M_X12_lay) 172 = .ok (.istore_n 3, 1) := by decide +kernel
theorem d_X12_lay_173 : decode (mC M_X12_lay) 173 = .ok (.iconst 0, 1) := by decide +kernel
theorem d_X12_lay_174 : decode (mC M_X12_lay) 174 = .ok (.istore 4, 2) := by decide +kernel
theorem d_X12_lay_176 : decode (mC M_X12_lay) 176 = .ok (.iload 4, 2) := by decide +kernel
theorem d_X12_lay_178 : decode (mC M_X12_lay) 178 = .ok (.ifCond .ne 80, 3) := by decide +kernel
theorem d_X12_lay_181 : decode (mC M_X12_lay) 181 = .ok (.aload_n 0, 1) := by decide +kernel
theorem d_X12_lay_182 : decode (mC M_X12_lay) 182 = .ok (.getfield 88, 3) := by decide +kernel
theorem d_X12_lay_185 : decode (mC M_X12_lay) 185 = .ok (.iload_n 2, 1) := by decide +kernel
theorem d_X12_lay_186 : decode (mC M_X12_lay) 186 = .ok (.iaload, 1) := by decide +kernel
theorem d_X12_lay_187 : decode (mC M_X12_lay) 187 = .ok (.iload_n 3, 1) := by decide +kernel
theorem d_X12_lay_188 : decode (mC M_X12_lay) 188 = .ok (.ishr, 1) := by decide +kernel
theorem d_X12_lay_189 : decode (mC M_X12_lay) 189 = .ok (.iconst 1, 1) := by decide +kernel
theorem d_X12_lay_190 : decode (mC M_X12_lay) 190 = .ok (.iand, 1) := by decide +kernel
theorem d_X12_lay_191 : decode (mC M_X12_lay) 191 = .ok (.iconst 1, 1) := by decide +kernel
theorem d_X12_lay_192 : decode (mC M_X12_lay) 192 = .ok (.if_icmp .ne 16, 3) := by decide +kernel
theorem d_X12_lay_195 : decode (mC M_X12_lay) 195 = .ok (.aload_n 0, 1) := by decide +kernel
theorem d_X12_lay_196 : decode (mC M_X12_lay) 196 = .ok (.getfield 94, 3) := by decide +kernel
theorem d_X12_lay_199 : decode (mC M_X12_lay) 199 = .ok (.iload_n 3, 1) := by decide +kernel
theorem d_X12_lay_200 : decode (mC M_X12_lay) 200 = .ok (.iaload, 1) := by decide +kernel
theorem d_X12_lay_201 : decode (mC M_X12_lay) 201 = .ok (.ifCond .le 7, 3) := by decide +kernel
theorem d_X12_lay_204 : decode (mC M_X12_lay) 204 = .ok (.iconst 1, 1) := by decide +kernel
theorem d_X12_lay_205 : decode (mC M_X12_lay) 205 = .ok (.goto 4, 3) := by decide +kernel
theorem d_X12_lay_208 : decode (mC M_X12_lay) 208 = .ok (.iconst 0, 1) := by decide +kernel
theorem d_X12_lay_209 : decode (mC M_X12_lay) 209 = .ok (.istore 4, 2) := by decide +kernel
theorem d_X12_lay_211 : decode (mC M_X12_lay) 211 = .ok (.iload 4, 2) := by decide +kernel
theorem d_X12_lay_213 : decode (mC M_X12_lay) 213 = .ok (.ifCond .eq 34, 3) := by decide +kernel
theorem d_X12_lay_216 : decode (mC M_X12_lay) 216 = .ok (.aload_n 0, 1) := by decide +kernel
theorem d_X12_lay_217 : decode (mC M_X12_lay) 217 = .ok (.getfield 94, 3) := by decide +kernel
theorem d_X12_lay_220 : decode (mC M_X12_lay) 220 = .ok (.iload_n 3, 1) := by decide +kernel
theorem d_X12_lay_221 : decode (mC M_X12_lay) 221 = .ok (.dup2, 1) := by decide +kernel
theorem d_X12_lay_222 : decode (mC M_X12_lay) 222 = .ok (.iaload, 1) := by decide +kernel
theorem d_X12_lay_223 : decode (mC M_X12_lay) 223 = .ok (.iconst 1, 1) := by decide +kernel
theorem d_X12_lay_224 : decode (mC M_X12_lay) 224 = .ok (.isub, 1) := by decide +kernel
theorem d_X12_lay_225 : decode (mC M_X12_lay) 225 = .ok (.iastore, 1) := by decide +kernel
theorem d_X12_lay_226 : decode (mC M_X12_lay) 226 = .ok (.aload_n 0, 1) := by decide +kernel
theorem d_X12_lay_227 : decode (mC M_X12_lay) 227 = .ok (.invokevirtual 326, 3) := by decide +kernel
theorem d_X12_lay_230 : decode (mC M_X12_lay) 230 = .ok (.istore 4, 2) := by decide +kernel
theorem d_X12_lay_232 : decode (mC M_X12_lay) 232 = .ok (.iload 4, 2) := by decide +kernel
theorem d_X12_lay_234 : decode (mC M_X12_lay) 234 = .ok (.ifCond .ne 13, 3) := by decide +kernel
theorem d_X12_lay_237 : decode (mC M_X12_lay) 237 = .ok (.aload_n 0, 1) := by decide +kernel
theorem d_X12_lay_238 : decode (mC M_X12_lay) 238 = .ok (.getfield 94, 3) := by decide +kernel
theorem d_X12_lay_241 : decode (mC M_X12_lay) 241 = .ok (.iload_n 3, 1) := by decide +kernel
theorem d_X12_lay_242 : decode (mC M_X12_lay) 242 = .ok (.dup2, 1) := by decide +kernel
theorem d_X12_lay_243 : decode (mC M_X12_lay) 243 = .ok (.iaload, 1) := by decide +kernel
theorem d_X12_lay_244 : decode (mC M_X12_lay) 244 = .ok (.iconst 1, 1) := by decide +kernel
theorem d_X12_lay_245 : decode (mC M_X12_lay) 245 = .ok (.iadd, 1) := by decide +kernel
theorem d_X12_lay_246 : decode (mC M_X12_lay) 246 = .ok (.iastore, 1) := by decide +kernel
theorem d_X12_lay_247 : decode (mC M_X12_lay) 247 = .ok (.iload 4, 2) := by decide +kernel
theorem d_X12_lay_249 : decode (mC M_X12_lay) 249 = .ok (.ifCond .ne (-73), 3) := by decide +kernel
theorem d_X12_lay_252 : decode (mC M_X12_lay) 252 = .ok (.iinc 3 1, 3) := by decide +kernel
theorem d_X12_lay_255 : decode (mC M_X12_lay) 255 = .ok (.goto (-79), 3) := by decide +kernel
theorem d_X12_lay_258 : decode (mC M_X12_lay) 258 = .ok (.aload_n 0, 1) := by decide +kernel
theorem d_X12_lay_259 : decode (mC M_X12_lay) 259 = .ok (.getfield 39, 3) := by decide +kernel
theorem d_X12_lay_262 : decode (mC M_X12_lay) 262 = .ok (.iload_n 2, 1) := by decide +kernel
theorem d_X12_lay_263 : decode (mC M_X12_lay) 263 = .ok (.iload_n 3, 1) := by decide +kernel
theorem d_X12_lay_264 : decode (mC M_X12_lay) 264 = .ok (.iastore, 1) := by decide +kernel
theorem d_X12_lay_265 : decode (mC M_X12_lay) 265 = .ok (.iinc 2 1, 3) := by decide +kernel
theorem d_X12_lay_268 : decode (mC M_X12_lay) 268 = .ok (.goto (-124), 3) := by decide +kernel
theorem d_X12_lay_271 : decode (mC M_X12_lay) 271 = .ok (.iload_n 1, 1) := by decide +kernel
theorem d_X12_lay_272 : decode (mC M_X12_lay) 272 = .ok (.ireturn, 1) := by decide +kernel
theorem d_X12_mends_0 : decode (mC M_X12_mends) 0 = .ok (.iconst 0, 1) := by decide +kernel
theorem d_X12_mends_1 : decode (mC M_X12_mends) 1 = .ok (.istore 5, 2) := by decide +kernel
theorem d_X12_mends_3 : decode (mC M_X12_mends) 3 = .ok (.iload 5, 2) := by decide +kernel
theorem d_X12_mends_5 : decode (mC M_X12_mends) 5 = .ok (.aload_n 0, 1) := by decide +kernel
theorem d_X12_mends_6 : decode (mC M_X12_mends) 6 = .ok (.getfield 151, 3) := by decide +kernel
theorem d_X12_mends_9 : decode (mC M_X12_mends) 9 = .ok (.if_icmp .ge 141, 3) := by decide +kernel
theorem d_X12_mends_12 : decode (mC M_X12_mends) 12 = .ok (.aload_n 0, 1) := by decide +kernel
theorem d_X12_mends_13 : decode (mC M_X12_mends) 13 = .ok (.getfield 39, 3) := by decide +kernel
theorem d_X12_mends_16 : decode (mC M_X12_mends) 16 = .ok (.iload 5, 2) := by decide +kernel
theorem d_X12_mends_18 : decode (mC M_X12_mends) 18 = .ok (.iaload, 1) := by decide +kernel
theorem d_X12_mends_19 : decode (mC M_X12_mends) 19 = .ok (.iload_n 1, 1) := by decide +kernel
theorem d_X12_mends_20 : decode (mC M_X12_mends) 20 = .ok (.if_icmp .eq 124, 3) := by decide +kernel
theorem d_X12_mends_23 : decode (mC M_X12_mends) 23 = .ok (.aload_n 0, 1) := by decide +kernel
theorem d_X12_mends_24 : decode (mC M_X12_mends) 24 = .ok (.getfield 88, 3) := by decide +kernel
theorem d_X12_mends_27 : decode (mC M_X12_mends) 27 = .ok (.iload 5, 2) := by decide +kernel
theorem d_X12_mends_29 : decode (mC M_X12_mends) 29 = .ok (.iaload, 1) := by decide +kernel
theorem d_X12_mends_30 : decode (mC M_X12_mends) 30 = .ok (.iload_n 1, 1) := by decide +kernel
theorem d_X12_mends_31 : decode (mC M_X12_mends) 31 = .ok (.ishr, 1) := by decide +kernel
theorem d_X12_mends_32 : decode (mC M_X12_mends) 32 = .ok (.iconst 1, 1) := by decide +kernel
theorem d_X12_mends_33 : decode (mC M_X12_mends) 33 = .ok (.iand, 1) := by decide +kernel
theorem d_X12_mends_34 : decode (mC M_X12_mends) 34 = .ok (.ifCond .ne 6, 3) := by decide +kernel
theorem d_X12_mends_37 : decode (mC M_X12_mends) 37 = .ok (.goto 107, 3) := by decide +kernel
theorem d_X12_mends_40 : decode (mC M_X12_mends) 40 = .ok (.aload_n 0, 1) := by decide +kernel
theorem d_X12_mends_41 : decode (mC M_X12_mends) 41 = .ok (.getfield 39, 3) := by decide +kernel
theorem d_X12_mends_44 : decode (mC M_X12_mends) 44 = .ok (.iload 5, 2) := by decide +kernel
theorem d_X12_mends_46 : decode (mC M_X12_mends) 46 = .ok (.iaload, 1) := by decide +kernel
theorem d_X12_mends_47 : decode (mC M_X12_mends) 47 = .ok (.iconst (-1), 1) := by decide +kernel
theorem d_X12_mends_48 : decode (mC M_X12_mends) 48 = .ok (.if_icmp .ne 7, 3) := by decide +kernel
theorem d_X12_mends_51 : decode (mC M_X12_mends) 51 = .ok (.iconst 1, 1) := by decide +kernel
theorem d_X12_mends_52 : decode (mC M_X12_mends) 52 = .ok (.goto 4, 3) := by decide +kernel
theorem d_X12_mends_55 : decode (mC M_X12_mends) 55 = .ok (.iconst 0, 1) := by decide +kernel
theorem d_X12_mends_56 : decode (mC M_X12_mends) 56 = .ok (.istore 6, 2) := by decide +kernel
theorem d_X12_mends_58 : decode (mC M_X12_mends) 58 = .ok (.iload 6, 2) := by decide +kernel
theorem d_X12_mends_60 : decode (mC M_X12_mends) 60 = .ok (.iload_n 3, 1) := by decide +kernel
theorem d_X12_mends_61 : decode (mC M_X12_mends) 61 = .ok (.iconst 1, 1) := by decide +kernel
theorem d_X12_mends_62 : decode (mC M_X12_mends) 62 = .ok (.if_icmp .ne 7, 3) := by decide +kernel
theorem d_X12_mends_65 : decode (mC M_X12_mends) 65 = .ok (.iconst 1, 1) := by decide +kernel
theorem d_X12_mends_66 : decode (mC M_X12_mends) 66 = .ok (.goto 4, 3) := by decide +kernel
theorem d_X12_mends_69 : decode (mC M_X12_mends) 69 = .ok (.iconst 0, 1) := by decide +kernel
theorem d_X12_mends_70 : decode (mC M_X12_mends) 70 = .ok (.if_icmp .ne 74, 3) := by decide +kernel
theorem d_X12_mends_73 : decode (mC M_X12_mends) 73 = .ok (.iload 6, 2) := by decide +kernel
theorem d_X12_mends_75 : decode (mC M_X12_mends) 75 = .ok (.ifCond .ne 22, 3) := by decide +kernel
theorem d_X12_mends_78 : decode (mC M_X12_mends) 78 = .ok (.iload 4, 2) := by decide +kernel
theorem d_X12_mends_80 : decode (mC M_X12_mends) 80 = .ok (.aload_n 0, 1) := by decide +kernel
theorem d_X12_mends_81 : decode (mC M_X12_mends) 81 = .ok (.getfield 39, 3) := by decide +kernel
theorem d_X12_mends_84 : decode (mC M_X12_mends) 84 = .ok (.iload 5, 2) := by decide +kernel
theorem d_X12_mends_86 : decode (mC M_X12_mends) 86 = .ok (.iaload, 1) := by decide +kernel
theorem d_X12_mends_87 : decode (mC M_X12_mends) 87 = .ok (.ishr, 1) := by decide +kernel
theorem d_X12_mends_88 : decode (mC M_X12_mends) 88 = .ok (.iconst 1, 1) := by decide +kernel
theorem d_X12_mends_89 : decode (mC M_X12_mends) 89 = .ok (.iand, 1) := by decide +kernel
theorem d_X12_mends_90 : decode (mC M_X12_mends) 90 = .ok (.iconst 1, 1) := by decide +kernel
theorem d_X12_mends_91 : decode (mC M_X12_mends) 91 = .ok (.if_icmp .ne 6, 3) := by decide +kernel
theorem d_X12_mends_94 : decode (mC M_X12_mends) 94 = .ok (.goto 50, 3) := by decide +kernel
theorem d_X12_mends_97 : decode (mC M_X12_mends) 97 = .ok (.aload_n 0, 1) := by decide +kernel
theorem d_X12_mends_98 : decode (mC M_X12_mends) 98 = .ok (.getfield 100, 3) := by decide +kernel
theorem d_X12_mends_101 : decode (mC M_X12_mends) 101 = .ok (.iload_n 2, 1) := by decide +kernel
theorem d_X12_mends_102 : decode (mC M_X12_mends) 102 = .ok (.iload 5, 2) := by decide +kernel
theorem d_X12_mends_104 : decode (mC M_X12_mends) 104 = .ok (.iastore, 1) := by decide +kernel
theorem d_X12_mends_105 : decode (mC M_X12_mends) 105 = .ok (.iload 6, 2) := by decide +kernel
theorem d_X12_mends_107 : decode (mC M_X12_mends) 107 = .ok (.ifCond .ne 35, 3) := by decide +kernel
theorem d_X12_mends_110 : decode (mC M_X12_mends) 110 = .ok (.aload_n 0, 1) := by decide +kernel
theorem d_X12_mends_111 : decode (mC M_X12_mends) 111 = .ok (.aload_n 0, 1) := by decide +kernel
theorem d_X12_mends_112 : decode (mC M_X12_mends) 112 = .ok (.getfield 39, 3) := by decide +kernel
theorem d_X12_mends_115 : decode (mC M_X12_mends) 115 = .ok (.iload 5, 2) := by decide +kernel
theorem d_X12_mends_117 : decode (mC M_X12_mends) 117 = .ok (.iaload, 1) := by decide +kernel
theorem d_X12_mends_118 : decode (mC M_X12_mends) 118 = .ok (.iload_n 2, 1) := by decide +kernel
theorem d_X12_mends_119 : decode (mC M_X12_mends) 119 = .ok (.iconst 1, 1) := by decide +kernel
theorem d_X12_mends_120 : decode (mC M_X12_mends) 120 = .ok (.iadd, 1) := by decide +kernel
theorem d_X12_mends_121 : decode (mC M_X12_mends) 121 = .ok (.iload_n 3, 1) := by decide +kernel
theorem d_X12_mends_122 : decode (mC M_X12_mends) 122 = .ok (.iconst 1, 1) := by decide +kernel
theorem d_X12_mends_123 : decode (mC M_X12_mends) 123 = .ok (.isub, 1) := by decide +kernel
theorem d_X12_mends_124 : decode (mC M_X12_mends) 124 = .ok (.iload 4, 2) := by decide +kernel
theorem d_X12_mends_126 : decode (mC M_X12_mends) 126 = .ok (.iconst 1, 1) := by decide +kernel
theorem d_X12_mends_127 : decode (mC M_X12_mends) 127 = .ok (.aload_n 0, 1) := by decide +kernel
theorem d_X12_mends_128 : decode (mC M_X12_mends) 128 = .ok (.getfield 39, 3) := by decide +kernel
theorem d_X12_mends_131 : decode (mC M_X12_mends) 131 = .ok (.iload 5, 2) := by decide +kernel
theorem d_X12_mends_133 : decode (mC M_X12_mends) 133 = .ok (.iaload, 1) := by decide +kernel
theorem d_X12_mends_134 : decode (mC M_X12_mends) 134 = .ok (.ishl, 1) := by decide +kernel
theorem d_X12_mends_135 : decode (mC M_X12_mends) 135 = .ok (.ior, 1) := by decide +kernel
theorem d_X12_mends_136 : decode (mC M_X12_mends) 136 = .ok (.invokevirtual 330, 3) := by decide +kernel
theorem d_X12_mends_139 : decode (mC M_X12_mends) 139 = .ok (.ifCond .eq 5, 3) := by decide +kernel
theorem d_X12_mends_142 : decode (mC M_X12_mends) 142 = .ok (.iconst 1, 1) := by decide +kernel
theorem d_X12_mends_143 : decode (mC M_X12_mends) 143 = .ok (.ireturn, 1) := by decide +kernel
theorem d_X12_mends_144 : decode (mC M_X12_mends) 144 = .ok (.iinc 5 1, 3) := by decide +kernel
theorem d_X12_mends_147 : decode (mC M_X12_mends) 147 = .ok (.goto (-144), 3) := by decide +kernel
theorem d_X12_mends_150 : decode (mC M_X12_mends) 150 = .ok (.iconst 0, 1) := by decide +kernel
theorem d_X12_mends_151 : decode (mC M_X12_mends) 151 = .ok (.ireturn, 1) := by decide +kernel
theorem d_X12_moved_0 : decode (mC M_X12_moved) 0 = .ok (.aload_n 0, 1) := by decide +kernel
theorem d_X12_moved_1 : decode (mC M_X12_moved) 1 = .ok (.iconst 0, 1) := by decide +kernel
theorem d_X12_moved_2 : decode (mC M_X12_moved) 2 = .ok (.putfield 1, 3) := by decide +kernel
theorem d_X12_moved_5 : decode (mC M_X12_moved) 5 = .ok (.iload_n 1, 1) := by decide +kernel
theorem d_X12_moved_6 : decode (mC M_X12_moved) 6 = .ok (.ifCond .lt 20, 3) := by decide +kernel
theorem d_X12_moved_9 : decode (mC M_X12_moved) 9 = .ok (.iload_n 1, 1) := by decide +kernel
theorem d_X12_moved_10 : decode (mC M_X12_moved) 10 = .ok (.aload_n 0, 1) := by decide +kernel
theorem d_X12_moved_11 : decode (mC M_X12_moved) 11 = .ok (.getfield 334, 3) := by decide +kernel
theorem d_X12_moved_14 : decode (mC M_X12_moved) 14 = .ok (.if_icmp .ge 12, 3) := by decide +kernel
theorem d_X12_moved_17 : decode (mC M_X12_moved) 17 = .ok (.aload_n 0, 1) := by decide +kernel
theorem d_X12_moved_18 : decode (mC M_X12_moved) 18 = .ok (.getfield 100, 3) := by decide +kernel
theorem d_X12_moved_21 : decode (mC M_X12_moved) 21 = .ok (.iload_n 1, 1) := by decide +kernel
theorem d_X12_moved_22 : decode (mC M_X12_moved) 22 = .ok (.iaload, 1) := by decide +kernel
theorem d_X12_moved_23 : decode (mC M_X12_moved) 23 = .ok (.goto 4, 3) := by decide +kernel
theorem d_X12_moved_26 : decode (mC M_X12_moved) 26 = .ok (.iconst (-1), 1) := by decide +kernel
theorem d_X12_moved_27 : decode (mC M_X12_moved) 27 = .ok (.ireturn, 1) := by decide +kernel
theorem d_X12_next_0 : decode (mC M_X12_next) 0 = .ok (.aload_n 0, 1) := by decide +kernel
theorem d_X12_next_1 : decode (mC M_X12_next) 1 = .ok (.getfield 186, 3) := by decide +kernel
theorem d_X12_next_4 : decode (mC M_X12_next) 4 = .ok (.aload_n 0, 1) := by decide +kernel
theorem d_X12_next_5 : decode (mC M_X12_next) 5 = .ok (.getfield 180, 3) := by decide +kernel
theorem d_X12_next_8 : decode (mC M_X12_next) 8 = .ok (.if_icmp .ge 44, 3) := by decide +kernel
theorem d_X12_next_11 : decode (mC M_X12_next) 11 = .ok (.aload_n 0, 1) := by decide +kernel
theorem d_X12_next_12 : decode (mC M_X12_next) 12 = .ok (.getfield 183, 3) := by decide +kernel
theorem d_X12_next_15 : decode (mC M_X12_next) 15 = .ok (.aload_n 0, 1) := by decide +kernel
theorem d_X12_next_16 : decode (mC M_X12_next) 16 = .ok (.getfield 186, 3) := by decide +kernel
theorem d_X12_next_19 : decode (mC M_X12_next) 19 = .ok (.baload, 1) := by decide +kernel
theorem d_X12_next_20 : decode (mC M_X12_next) 20 = .ok (.bipush 32, 2) := by decide +kernel
theorem d_X12_next_22 : decode (mC M_X12_next) 22 = .ok (.if_icmp .eq 17, 3) := by decide +kernel
theorem d_X12_next_25 : decode (mC M_X12_next) 25 = .ok (.aload_n 0, 1) := by decide +kernel
theorem d_X12_next_26 : decode (mC M_X12_next) 26 = .ok (.getfield 183, 3) := by decide +kernel
theorem d_X12_next_29 : decode (mC M_X12_next) 29 = .ok (.aload_n 0, 1) := by decide +kernel
theorem d_X12_next_30 : decode (mC M_X12_next) 30 = .ok (.getfield 186, 3) := by decide +kernel
theorem d_X12_next_33 : decode (mC M_X12_next) 33 = .ok (.baload, 1) := by decide +kernel
theorem d_X12_next_34 : decode (mC M_X12_next) 34 = .ok (.bipush 10, 2) := by decide +kernel
theorem d_X12_next_36 : decode (mC M_X12_next) 36 = .ok (.if_icmp .ne 16, 3) := by decide +kernel
theorem d_X12_next_39 : decode (mC M_X12_next) 39 = .ok (.aload_n 0, 1) := by decide +kernel
theorem d_X12_next_40 : decode (mC M_X12_next) 40 = .ok (.dup, 1) := by decide +kernel
theorem d_X12_next_41 : decode (mC M_X12_next) 41 = .ok (.getfield 186, 3) := by decide +kernel
theorem d_X12_next_44 : decode (mC M_X12_next) 44 = .ok (.iconst 1, 1) := by decide +kernel
theorem d_X12_next_45 : decode (mC M_X12_next) 45 = .ok (.iadd, 1) := by decide +kernel
theorem d_X12_next_46 : decode (mC M_X12_next) 46 = .ok (.putfield 186, 3) := by decide +kernel
theorem d_X12_next_49 : decode (mC M_X12_next) 49 = .ok (.goto (-49), 3) := by decide +kernel
theorem d_X12_next_52 : decode (mC M_X12_next) 52 = .ok (.aload_n 0, 1) := by decide +kernel
theorem d_X12_next_53 : decode (mC M_X12_next) 53 = .ok (.aload_n 0, 1) := by decide +kernel
theorem d_X12_next_54 : decode (mC M_X12_next) 54 = .ok (.getfield 186, 3) := by decide +kernel
theorem d_X12_next_57 : decode (mC M_X12_next) 57 = .ok (.putfield 189, 3) := by decide +kernel
theorem d_X12_next_60 : decode (mC M_X12_next) 60 = .ok (.aload_n 0, 1) := by decide +kernel
theorem d_X12_next_61 : decode (mC M_X12_next) 61 = .ok (.getfield 186, 3) := by decide +kernel
theorem d_X12_next_64 : decode (mC M_X12_next) 64 = .ok (.aload_n 0, 1) := by decide +kernel
theorem d_X12_next_65 : decode (mC M_X12_next) 65 = .ok (.getfield 180, 3) := by decide +kernel
theorem d_X12_next_68 : decode (mC M_X12_next) 68 = .ok (.if_icmp .lt 9, 3) := by decide +kernel
theorem d_X12_next_71 : decode (mC M_X12_next) 71 = .ok (.aload_n 0, 1) := by decide +kernel
theorem d_X12_next_72 : decode (mC M_X12_next) 72 = .ok (.iconst 0, 1) := by decide +kernel
theorem d_X12_next_73 : decode (mC M_X12_next) 73 = .ok (.putfield 192, 3) := by decide +kernel
theorem d_X12_next_76 : decode (mC M_X12_next) 76 = .ok (.return_, 1) := by decide +kernel
theorem d_X12_next_77 : decode (mC M_X12_next) 77 = .ok (.aload_n 0, 1) := by decide +kernel
theorem d_X12_next_78 : decode (mC M_X12_next) 78 = .ok (.getfield 183, 3) := by decide +kernel
theorem d_X12_next_81 : decode (mC M_X12_next) 81 = .ok (.aload_n 0, 1) := by decide +kernel
theorem d_X12_next_82 : decode (mC M_X12_next) 82 = .ok (.getfield 186, 3) := by decide +kernel
theorem d_X12_next_85 : decode (mC M_X12_next) 85 = .ok (.baload, 1) := by decide +kernel
theorem d_X12_next_86 : decode (mC M_X12_next) 86 = .ok (.istore_n 1, 1) := by decide +kernel
theorem d_X12_next_87 : decode (mC M_X12_next) 87 = .ok (.aload_n 0, 1) := by decide +kernel
theorem d_X12_next_88 : decode (mC M_X12_next) 88 = .ok (.dup, 1) := by decide +kernel
theorem d_X12_next_89 : decode (mC M_X12_next) 89 = .ok (.getfield 186, 3) := by decide +kernel
theorem d_X12_next_92 : decode (mC M_X12_next) 92 = .ok (.iconst 1, 1) := by decide +kernel
theorem d_X12_next_93 : decode (mC M_X12_next) 93 = .ok (.iadd, 1) := by decide +kernel
theorem d_X12_next_94 : decode (mC M_X12_next) 94 = .ok (.putfield 186, 3) := by decide +kernel
theorem d_X12_next_97 : decode (mC M_X12_next) 97 = .ok (.iload_n 1, 1) := by decide +kernel
theorem d_X12_next_98 : decode (mC M_X12_next) 98 = .ok (.invokestatic 195, 3) := by decide +kernel
theorem d_X12_next_101 : decode (mC M_X12_next) 101 = .ok (.ifCond .eq 38, 3) := by decide +kernel
theorem d_X12_next_104 : decode (mC M_X12_next) 104 = .ok (.aload_n 0, 1) := by decide +kernel
theorem d_X12_next_105 : decode (mC M_X12_next) 105 = .ok (.aload_n 0, 1) := by decide +kernel
theorem d_X12_next_106 : decode (mC M_X12_next) 106 = .ok (.getfield 186, 3) := by decide +kernel
theorem d_X12_next_109 : decode (mC M_X12_next) 109 = .ok (.invokevirtual 198, 3) := by decide +kernel
theorem d_X12_next_112 : decode (mC M_X12_next) 112 = .ok (.invokestatic 195, 3) := by decide +kernel
theorem d_X12_next_115 : decode (mC M_X12_next) 115 = .ok (.ifCond .eq 16, 3) := by decide +kernel
theorem d_X12_next_118 : decode (mC M_X12_next) 118 = .ok (.aload_n 0, 1) := by decide +kernel
theorem d_X12_next_119 : decode (mC M_X12_next) 119 = .ok (.dup, 1) := by decide +kernel
theorem d_X12_next_120 : decode (mC M_X12_next) 120 = .ok (.getfield 186, 3) := by decide +kernel
theorem d_X12_next_123 : decode (mC M_X12_next) 123 = .ok (.iconst 1, 1) := by decide +kernel
theorem d_X12_next_124 : decode (mC M_X12_next) 124 = .ok (.iadd, 1) := by decide +kernel
theorem d_X12_next_125 : decode (mC M_X12_next) 125 = .ok (.putfield 186, 3) := by decide +kernel
theorem d_X12_next_128 : decode (mC M_X12_next) 128 = .ok (.goto (-24), 3) := by decide +kernel
theorem d_X12_next_131 : decode (mC M_X12_next) 131 = .ok (.aload_n 0, 1) := by decide +kernel
theorem d_X12_next_132 : decode (mC M_X12_next) 132 = .ok (.iconst 3, 1) := by decide +kernel
theorem d_X12_next_133 : decode (mC M_X12_next) 133 = .ok (.putfield 192, 3) := by decide +kernel
theorem d_X12_next_136 : decode (mC M_X12_next) 136 = .ok (.goto 156, 3) := by decide +kernel
theorem d_X12_next_139 : decode (mC M_X12_next) 139 = .ok (.iload_n 1, 1) := by decide +kernel
theorem d_X12_next_140 : decode (mC M_X12_next) 140 = .ok (.invokestatic 202, 3) := by decide +kernel
theorem d_X12_next_143 : decode (mC M_X12_next) 143 = .ok (.ifCond .eq 99, 3) := by decide +kernel
theorem d_X12_next_146 : decode (mC M_X12_next) 146 = .ok (.aload_n 0, 1) := by decide +kernel
theorem d_X12_next_147 : decode (mC M_X12_next) 147 = .ok (.iload_n 1, 1) := by decide +kernel
theorem d_X12_next_148 : decode (mC M_X12_next) 148 = .ok (.bipush 48, 2) := by decide +kernel
theorem d_X12_next_150 : decode (mC M_X12_next) 150 = .ok (.isub, 1) := by decide +kernel
theorem d_X12_next_151 : decode (mC M_X12_next) 151 = .ok (.putfield 205, 3) := by decide +kernel
theorem d_X12_next_154 : decode (mC M_X12_next) 154 = .ok (.aload_n 0, 1) := by decide +kernel
theorem d_X12_next_155 : decode (mC M_X12_next) 155 = .ok (.aload_n 0, 1) := by decide +kernel
theorem d_X12_next_156 : decode (mC M_X12_next) 156 = .ok (.getfield 186, 3) := by decide +kernel
theorem d_X12_next_159 : decode (mC M_X12_next) 159 = .ok (.invokevirtual 198, 3) := by decide +kernel
theorem d_X12_next_162 : decode (mC M_X12_next) 162 = .ok (.invokestatic 202, 3) := by decide +kernel
theorem d_X12_next_165 : decode (mC M_X12_next) 165 = .ok (.ifCond .eq 52, 3) := by decide +kernel
theorem d_X12_next_168 : decode (mC M_X12_next) 168 = .ok (.aload_n 0, 1) := by decide +kernel
theorem d_X12_next_169 : decode (mC M_X12_next) 169 = .ok (.getfield 186, 3) := by decide +kernel
theorem d_X12_next_172 : decode (mC M_X12_next) 172 = .ok (.aload_n 0, 1) := by decide +kernel
theorem d_X12_next_173 : decode (mC M_X12_next) 173 = .ok (.getfield 189, 3) := by decide +kernel
theorem d_X12_next_176 : decode (mC M_X12_next) 176 = .ok (.isub, 1) := by decide +kernel
theorem d_X12_next_177 : decode (mC M_X12_next) 177 = .ok (.iconst 5, 1) := by decide +kernel
theorem d_X12_next_178 : decode (mC M_X12_next) 178 = .ok (.if_icmp .ge 26, 3) := by decide +kernel
theorem d_X12_next_181 : decode (mC M_X12_next) 181 = .ok (.aload_n 0, 1) := by decide +kernel
theorem d_X12_next_182 : decode (mC M_X12_next) 182 = .ok (.bipush 10, 2) := by decide +kernel
theorem d_X12_next_184 : decode (mC M_X12_next) 184 = .ok (.aload_n 0, 1) := by decide +kernel
theorem d_X12_next_185 : decode (mC M_X12_next) 185 = .ok (.getfield 205, 3) := by decide +kernel
theorem d_X12_next_188 : decode (mC M_X12_next) 188 = .ok (.imul, 1) := by decide +kernel
theorem d_X12_next_189 : decode (mC M_X12_next) 189 = .ok (.aload_n 0, 1) := by decide +kernel
theorem d_X12_next_190 : decode (mC M_X12_next) 190 = .ok (.aload_n 0, 1) := by decide +kernel
theorem d_X12_next_191 : decode (mC M_X12_next) 191 = .ok (.getfield 186, 3) := by decide +kernel
theorem d_X12_next_194 : decode (mC M_X12_next) 194 = .ok (.invokevirtual 198, 3) := by decide +kernel
theorem d_X12_next_197 : decode (mC M_X12_next) 197 = .ok (.iadd, 1) := by decide +kernel
theorem d_X12_next_198 : decode (mC M_X12_next) 198 = .ok (.bipush 48, 2) := by decide +kernel
theorem d_X12_next_200 : decode (mC M_X12_next) 200 = .ok (.isub, 1) := by decide +kernel
theorem d_X12_next_201 : decode (mC M_X12_next) 201 = .ok (.putfield 205, 3) := by decide +kernel
theorem d_X12_next_204 : decode (mC M_X12_next) 204 = .ok (.aload_n 0, 1) := by decide +kernel
theorem d_X12_next_205 : decode (mC M_X12_next) 205 = .ok (.dup, 1) := by decide +kernel
theorem d_X12_next_206 : decode (mC M_X12_next) 206 = .ok (.getfield 186, 3) := by decide +kernel
theorem d_X12_next_209 : decode (mC M_X12_next) 209 = .ok (.iconst 1, 1) := by decide +kernel
theorem d_X12_next_210 : decode (mC M_X12_next) 210 = .ok (.iadd, 1) := by decide +kernel
theorem d_X12_next_211 : decode (mC M_X12_next) 211 = .ok (.putfield 186, 3) := by decide +kernel
theorem d_X12_next_214 : decode (mC M_X12_next) 214 = .ok (.goto (-60), 3) := by decide +kernel
theorem d_X12_next_217 : decode (mC M_X12_next) 217 = .ok (.aload_n 0, 1) := by decide +kernel
theorem d_X12_next_218 : decode (mC M_X12_next) 218 = .ok (.aload_n 0, 1) := by decide +kernel
theorem d_X12_next_219 : decode (mC M_X12_next) 219 = .ok (.getfield 186, 3) := by decide +kernel
theorem d_X12_next_222 : decode (mC M_X12_next) 222 = .ok (.aload_n 0, 1) := by decide +kernel
theorem d_X12_next_223 : decode (mC M_X12_next) 223 = .ok (.getfield 189, 3) := by decide +kernel
theorem d_X12_next_226 : decode (mC M_X12_next) 226 = .ok (.isub, 1) := by decide +kernel
theorem d_X12_next_227 : decode (mC M_X12_next) 227 = .ok (.iconst 5, 1) := by decide +kernel
theorem d_X12_next_228 : decode (mC M_X12_next) 228 = .ok (.if_icmp .le 7, 3) := by decide +kernel
theorem d_X12_next_231 : decode (mC M_X12_next) 231 = .ok (.iconst 1, 1) := by decide +kernel
theorem d_X12_next_232 : decode (mC M_X12_next) 232 = .ok (.goto 4, 3) := by decide +kernel
theorem d_X12_next_235 : decode (mC M_X12_next) 235 = .ok (.iconst 2, 1) := by decide +kernel
theorem d_X12_next_236 : decode (mC M_X12_next) 236 = .ok (.putfield 192, 3) := by decide +kernel
theorem d_X12_next_239 : decode (mC M_X12_next) 239 = .ok (.goto 53, 3) := by decide +kernel
theorem d_X12_next_242 : decode (mC M_X12_next) 242 = .ok (.aload_n 0, 1) := by decide +kernel
theorem d_X12_next_243 : decode (mC M_X12_next) 243 = .ok (.iload_n 1, 1) := by decide +kernel
theorem d_X12_next_244 : decode (mC M_X12_next) 244 = .ok (.putfield 205, 3) := by decide +kernel
theorem d_X12_next_247 : decode (mC M_X12_next) 247 = .ok (.aload_n 0, 1) := by decide +kernel
theorem d_X12_next_248 : decode (mC M_X12_next) 248 = .ok (.iload_n 1, 1) := by decide +kernel
theorem d_X12_next_249 : decode (mC M_X12_next) 249 = .ok (.bipush 40, 2) := by decide +kernel
theorem d_X12_next_251 : decode (mC M_X12_next) 251 = .ok (.if_icmp .eq 33, 3) := by decide +kernel
theorem d_X12_next_254 : decode (mC M_X12_next) 254 = .ok (.iload_n 1, 1) := by decide +kernel
theorem d_X12_next_255 : decode (mC M_X12_next) 255 = .ok (.bipush 41, 2) := by decide +kernel
theorem d_X12_next_257 : decode (mC M_X12_next) 257 = .ok (.if_icmp .eq 27, 3) := by decide +kernel
theorem d_X12_next_260 : decode (mC M_X12_next) 260 = .ok (.iload_n 1, 1) := by decide +kernel
theorem d_X12_next_261 : decode (mC M_X12_next) 261 = .ok (.bipush 58, 2) := by decide +kernel
theorem d_X12_next_263 : decode (mC M_X12_next) 263 = .ok (.if_icmp .eq 21, 3) := by decide +kernel
theorem d_X12_next_266 : decode (mC M_X12_next) 266 = .ok (.iload_n 1, 1) := by decide +kernel
theorem d_X12_next_267 : decode (mC M_X12_next) 267 = .ok (.bipush 59, 2) := by decide +kernel
theorem d_X12_next_269 : decode (mC M_X12_next) 269 = .ok (.if_icmp .eq 15, 3) := by decide +kernel
theorem d_X12_next_272 : decode (mC M_X12_next) 272 = .ok (.iload_n 1, 1) := by decide +kernel
theorem d_X12_next_273 : decode (mC M_X12_next) 273 = .ok (.bipush 60, 2) := by decide +kernel
theorem d_X12_next_275 : decode (mC M_X12_next) 275 = .ok (.if_icmp .eq 9, 3) := by decide +kernel
theorem d_X12_next_278 : decode (mC M_X12_next) 278 = .ok (.iload_n 1, 1) := by decide +kernel
theorem d_X12_next_279 : decode (mC M_X12_next) 279 = .ok (.bipush 62, 2) := by decide +kernel
theorem d_X12_next_281 : decode (mC M_X12_next) 281 = .ok (.if_icmp .ne 7, 3) := by decide +kernel
theorem d_X12_next_284 : decode (mC M_X12_next) 284 = .ok (.iconst 4, 1) := by decide +kernel
theorem d_X12_next_285 : decode (mC M_X12_next) 285 = .ok (.goto 4, 3) := by decide +kernel
theorem d_X12_next_288 : decode (mC M_X12_next) 288 = .ok (.iconst 1, 1) := by decide +kernel
theorem d_X12_next_289 : decode (mC M_X12_next) 289 = .ok (.putfield 192, 3) := by decide +kernel
theorem d_X12_next_292 : decode (mC M_X12_next) 292 = .ok (.return_, 1) := by decide +kernel
theorem d_X12_nextComing_0 : decode (mC M_X12_nextComing) 0 = .ok (.iconst (-1), 1) := by decide +kernel
theorem d_X12_nextComing_1 : decode (mC M_X12_nextComing) 1 = .ok (.istore_n 1, 1) := by decide +kernel
theorem d_X12_nextComing_2 : decode (mC M_X12_nextComing) 2 = .ok (.iconst 0, 1) := by decide +kernel
theorem d_X12_nextComing_3 : decode (mC M_X12_nextComing) 3 = .ok (.istore_n 2, 1) := by decide +kernel
theorem d_X12_nextComing_4 : decode (mC M_X12_nextComing) 4 = .ok (.iload_n 2, 1) := by decide +kernel
theorem d_X12_nextComing_5 : decode (mC M_X12_nextComing) 5 = .ok (.aload_n 0, 1) := by decide +kernel
theorem d_X12_nextComing_6 : decode (mC M_X12_nextComing) 6 = .ok (.getfield 151, 3) := by decide +kernel
theorem d_X12_nextComing_9 : decode (mC M_X12_nextComing) 9 = .ok (.if_icmp .ge 50, 3) := by decide +kernel
theorem d_X12_nextComing_12 : decode (mC M_X12_nextComing) 12 = .ok (.aload_n 0, 1) := by decide +kernel
theorem d_X12_nextComing_13 : decode (mC M_X12_nextComing) 13 = .ok (.getfield 39, 3) := by decide +kernel
theorem d_X12_nextComing_16 : decode (mC M_X12_nextComing) 16 = .ok (.iload_n 2, 1) := by decide +kernel
theorem d_X12_nextComing_17 : decode (mC M_X12_nextComing) 17 = .ok (.iaload, 1) := by decide +kernel
theorem d_X12_nextComing_18 : decode (mC M_X12_nextComing) 18 = .ok (.iconst (-1), 1) := by decide +kernel
theorem d_X12_nextComing_19 : decode (mC M_X12_nextComing) 19 = .ok (.if_icmp .eq 34, 3) := by decide +kernel
theorem d_X12_nextComing_22 : decode (mC M_X12_nextComing) 22 = .ok (.aload_n 0, 1) := by decide +kernel
theorem d_X12_nextComing_23 : decode (mC M_X12_nextComing) 23 = .ok (.getfield 139, 3) := by decide +kernel
theorem d_X12_nextComing_26 : decode (mC M_X12_nextComing) 26 = .ok (.iload_n 2, 1) := by decide +kernel
theorem d_X12_nextComing_27 : decode (mC M_X12_nextComing) 27 = .ok (.baload, 1) := by decide +kernel
theorem d_X12_nextComing_28 : decode (mC M_X12_nextComing) 28 = .ok (.ifCond .ne 25, 3) := by decide +kernel
theorem d_X12_nextComing_31 : decode (mC M_X12_nextComing) 31 = .ok (.iload_n 1, 1) := by decide +kernel
theorem d_X12_nextComing_32 : decode (mC M_X12_nextComing) 32 = .ok (.iconst (-1), 1) := by decide +kernel
theorem d_X12_nextComing_33 : decode (mC M_X12_nextComing) 33 = .ok (.if_icmp .eq 18, 3) := by decide +kernel
theorem d_X12_nextComing_36 : decode (mC M_X12_nextComing) 36 = .ok (.aload_n 0, 1) := by decide +kernel
theorem d_X12_nextComing_37 : decode (mC M_X12_nextComing) 37 = .ok (.getfield 142, 3) := by decide +kernel
theorem d_X12_nextComing_40 : decode (mC M_X12_nextComing) 40 = .ok (.iload_n 2, 1) := by decide +kernel
theorem d_X12_nextComing_41 : decode (mC M_X12_nextComing) 41 = .ok (.iaload, 1) := by decide +kernel
theorem d_X12_nextComing_42 : decode (mC M_X12_nextComing) 42 = .ok (.aload_n 0, 1) := by decide +kernel
theorem d_X12_nextComing_43 : decode (mC M_X12_nextComing) 43 = .ok (.getfield 142, 3) := by decide +kernel
theorem d_X12_nextComing_46 : decode (mC M_X12_nextComing) 46 = .ok (.iload_n 1, 1) := by decide +kernel
theorem d_X12_nextComing_47 : decode (mC M_X12_nextComing) 47 = .ok (.iaload, 1) := by decide +kernel
theorem d_X12_nextComing_48 : decode (mC M_X12_nextComing) 48 = .ok (.if_icmp .ge 5, 3) := by decide +kernel
theorem d_X12_nextComing_51 : decode (mC M_X12_nextComing) 51 = .ok (.iload_n 2, 1) := by decide +kernel
theorem d_X12_nextComing_52 : decode (mC M_X12_nextComing) 52 = .ok (.istore_n 1, 1) := by decide +kernel
theorem d_X12_nextComing_53 : decode (mC M_X12_nextComing) 53 = .ok (.iinc 2 1, 3) := by decide +kernel
theorem d_X12_nextComing_56 : decode (mC M_X12_nextComing) 56 = .ok (.goto (-52), 3) := by decide +kernel
theorem d_X12_nextComing_59 : decode (mC M_X12_nextComing) 59 = .ok (.iload_n 1, 1) := by decide +kernel
theorem d_X12_nextComing_60 : decode (mC M_X12_nextComing) 60 = .ok (.ireturn, 1) := by decide +kernel
theorem d_X12_next__0 : decode (mC M_X12_next_) 0 = .ok (.iload_n 0, 1) := by decide +kernel
theorem d_X12_next__1 : decode (mC M_X12_next_) 1 = .ok (.ldc_w 361, 3) := by decide +kernel
theorem d_X12_next__4 : decode (mC M_X12_next_) 4 = .ok (.imul, 1) := by decide +kernel
theorem d_X12_next__5 : decode (mC M_X12_next_) 5 = .ok (.sipush 12345, 3) := by decide +kernel
theorem d_X12_next__8 : decode (mC M_X12_next_) 8 = .ok (.iadd, 1) := by decide +kernel
theorem d_X12_next__9 : decode (mC M_X12_next_) 9 = .ok (.ireturn, 1) := by decide +kernel
theorem d_X12_no_0 : decode (mC M_X12_no) 0 = .ok (.aload_n 0, 1) := by decide +kernel
theorem d_X12_no_1 : decode (mC M_X12_no) 1 = .ok (.iconst 0, 1) := by decide +kernel
theorem d_X12_no_2 : decode (mC M_X12_no) 2 = .ok (.putfield 1, 3) := by decide +kernel
theorem d_X12_no_5 : decode (mC M_X12_no) 5 = .ok (.aload_n 0, 1) := by decide +kernel
theorem d_X12_no_6 : decode (mC M_X12_no) 6 = .ok (.iload_n 1, 1) := by decide +kernel
theorem d_X12_no_7 : decode (mC M_X12_no) 7 = .ok (.invokevirtual 159, 3) := by decide +kernel
theorem d_X12_no_10 : decode (mC M_X12_no) 10 = .ok (.ifCond .eq 13, 3) := by decide +kernel
theorem d_X12_no_13 : decode (mC M_X12_no) 13 = .ok (.aload_n 0, 1) := by decide +kernel
theorem d_X12_no_14 : decode (mC M_X12_no) 14 = .ok (.getfield 39, 3) := by decide +kernel
theorem d_X12_no_17 : decode (mC M_X12_no) 17 = .ok (.iload_n 1, 1) := by decide +kernel
theorem d_X12_no_18 : decode (mC M_X12_no) 18 = .ok (.iaload, 1) := by decide +kernel
theorem d_X12_no_19 : decode (mC M_X12_no) 19 = .ok (.iconst (-1), 1) := by decide +kernel
theorem d_X12_no_20 : decode (mC M_X12_no) 20 = .ok (.if_icmp .ne 5, 3) := by decide +kernel
theorem d_X12_no_23 : decode (mC M_X12_no) 23 = .ok (.iconst (-1), 1) := by decide +kernel
theorem d_X12_no_24 : decode (mC M_X12_no) 24 = .ok (.ireturn, 1) := by decide +kernel
theorem d_X12_no_25 : decode (mC M_X12_no) 25 = .ok (.aload_n 0, 1) := by decide +kernel
theorem d_X12_no_26 : decode (mC M_X12_no) 26 = .ok (.getfield 39, 3) := by decide +kernel
theorem d_X12_no_29 : decode (mC M_X12_no) 29 = .ok (.iload_n 1, 1) := by decide +kernel
theorem d_X12_no_30 : decode (mC M_X12_no) 30 = .ok (.iaload, 1) := by decide +kernel
theorem d_X12_no_31 : decode (mC M_X12_no) 31 = .ok (.istore_n 2, 1) := by decide +kernel
theorem d_X12_no_32 : decode (mC M_X12_no) 32 = .ok (.aload_n 0, 1) := by decide +kernel
theorem d_X12_no_33 : decode (mC M_X12_no) 33 = .ok (.getfield 39, 3) := by decide +kernel
theorem d_X12_no_36 : decode (mC M_X12_no) 36 = .ok (.iload_n 1, 1) := by decide +kernel
theorem d_X12_no_37 : decode (mC M_X12_no) 37 = .ok (.iconst (-1), 1) := by decide +kernel
theorem d_X12_no_38 : decode (mC M_X12_no) 38 = .ok (.iastore, 1) := by decide +kernel
theorem d_X12_no_39 : decode (mC M_X12_no) 39 = .ok (.aload_n 0, 1) := by decide +kernel
theorem d_X12_no_40 : decode (mC M_X12_no) 40 = .ok (.getfield 29, 3) := by decide +kernel
theorem d_X12_no_43 : decode (mC M_X12_no) 43 = .ok (.iload_n 1, 1) := by decide +kernel
theorem d_X12_no_44 : decode (mC M_X12_no) 44 = .ok (.iconst 1, 1) := by decide +kernel
theorem d_X12_no_45 : decode (mC M_X12_no) 45 = .ok (.bastore, 1) := by decide +kernel
theorem d_X12_no_46 : decode (mC M_X12_no) 46 = .ok (.aload_n 0, 1) := by decide +kernel
theorem d_X12_no_47 : decode (mC M_X12_no) 47 = .ok (.iconst 0, 1) := by decide +kernel
theorem d_X12_no_48 : decode (mC M_X12_no) 48 = .ok (.putfield 334, 3) := by decide +kernel
theorem d_X12_no_51 : decode (mC M_X12_no) 51 = .ok (.aload_n 0, 1) := by decide +kernel
theorem d_X12_no_52 : decode (mC M_X12_no) 52 = .ok (.invokevirtual 320, 3) := by decide +kernel
theorem d_X12_no_55 : decode (mC M_X12_no) 55 = .ok (.iconst 1, 1) := by decide +kernel
theorem d_X12_no_56 : decode (mC M_X12_no) 56 = .ok (.istore_n 3, 1) := by decide +kernel
theorem d_X12_no_57 : decode (mC M_X12_no) 57 = .ok (.iload_n 3, 1) := by decide +kernel
theorem d_X12_no_58 : decode (mC M_X12_no) 58 = .ok (.aload_n 0, 1) := by decide +kernel
theorem d_X12_no_59 : decode (mC M_X12_no) 59 = .ok (.getfield 298, 3) := by decide +kernel
theorem d_X12_no_62 : decode (mC M_X12_no) 62 = .ok (.if_icmp .gt 34, 3) := by decide +kernel
theorem d_X12_no_65 : decode (mC M_X12_no) 65 = .ok (.aload_n 0, 1) := by decide +kernel
theorem d_X12_no_66 : decode (mC M_X12_no) 66 = .ok (.getfield 334, 3) := by decide +kernel
theorem d_X12_no_69 : decode (mC M_X12_no) 69 = .ok (.ifCond .ne 27, 3) := by decide +kernel
theorem d_X12_no_72 : decode (mC M_X12_no) 72 = .ok (.aload_n 0, 1) := by decide +kernel
theorem d_X12_no_73 : decode (mC M_X12_no) 73 = .ok (.iload_n 2, 1) := by decide +kernel
theorem d_X12_no_74 : decode (mC M_X12_no) 74 = .ok (.iconst 0, 1) := by decide +kernel
theorem d_X12_no_75 : decode (mC M_X12_no) 75 = .ok (.iload_n 3, 1) := by decide +kernel
theorem d_X12_no_76 : decode (mC M_X12_no) 76 = .ok (.iconst 1, 1) := by decide +kernel
theorem d_X12_no_77 : decode (mC M_X12_no) 77 = .ok (.iload_n 2, 1) := by decide +kernel
theorem d_X12_no_78 : decode (mC M_X12_no) 78 = .ok (.ishl, 1) := by decide +kernel
theorem d_X12_no_79 : decode (mC M_X12_no) 79 = .ok (.invokevirtual 330, 3) := by decide +kernel
theorem d_X12_no_82 : decode (mC M_X12_no) 82 = .ok (.ifCond .eq 8, 3) := by decide +kernel
theorem d_X12_no_85 : decode (mC M_X12_no) 85 = .ok (.aload_n 0, 1) := by decide +kernel
theorem d_X12_no_86 : decode (mC M_X12_no) 86 = .ok (.iload_n 3, 1) := by decide +kernel
theorem d_X12_no_87 : decode (mC M_X12_no) 87 = .ok (.putfield 334, 3) := by decide +kernel
theorem d_X12_no_90 : decode (mC M_X12_no) 90 = .ok (.iinc 3 1, 3) := by decide +kernel
theorem d_X12_no_93 : decode (mC M_X12_no) 93 = .ok (.goto (-36), 3) := by decide +kernel
theorem d_X12_no_96 : decode (mC M_X12_no) 96 = .ok (.iload_n 2, 1) := by decide +kernel
theorem d_X12_no_97 : decode (mC M_X12_no) 97 = .ok (.istore_n 3, 1) := by decide +kernel
theorem d_X12_no_98 : decode (mC M_X12_no) 98 = .ok (.iconst 0, 1) := by decide +kernel
theorem d_X12_no_99 : decode (mC M_X12_no) 99 = .ok (.istore 4, 2) := by decide +kernel
theorem d_X12_no_101 : decode (mC M_X12_no) 101 = .ok (.iload 4, 2) := by decide +kernel
theorem d_X12_no_103 : decode (mC M_X12_no) 103 = .ok (.aload_n 0, 1) := by decide +kernel
theorem d_X12_no_104 : decode (mC M_X12_no) 104 = .ok (.getfield 334, 3) := by decide +kernel
theorem d_X12_no_107 : decode (mC M_X12_no) 107 = .ok (.if_icmp .ge 39, 3) := by decide +kernel
theorem d_X12_no_110 : decode (mC M_X12_no) 110 = .ok (.aload_n 0, 1) := by decide +kernel
theorem d_X12_no_111 : decode (mC M_X12_no) 111 = .ok (.getfield 39, 3) := by decide +kernel
theorem d_X12_no_114 : decode (mC M_X12_no) 114 = .ok (.aload_n 0, 1) := by decide +kernel
theorem d_X12_no_115 : decode (mC M_X12_no) 115 = .ok (.getfield 100, 3) := by decide +kernel
theorem d_X12_no_118 : decode (mC M_X12_no) 118 = .ok (.iload 4, 2) := by decide +kernel
theorem d_X12_no_120 : decode (mC M_X12_no) 120 = .ok (.iaload, 1) := by decide +kernel
theorem d_X12_no_121 : decode (mC M_X12_no) 121 = .ok (.iaload, 1) := by decide +kernel
theorem d_X12_no_122 : decode (mC M_X12_no) 122 = .ok (.istore 5, 2) := by decide +kernel
theorem d_X12_no_124 : decode (mC M_X12_no) 124 = .ok (.aload_n 0, 1) := by decide +kernel
theorem d_X12_no_125 : decode (mC M_X12_no) 125 = .ok (.getfield 39, 3) := by decide +kernel
theorem d_X12_no_128 : decode (mC M_X12_no) 128 = .ok (.aload_n 0, 1) := by decide +kernel
theorem d_X12_no_129 : decode (mC M_X12_no) 129 = .ok (.getfield 100, 3) := by decide +kernel
theorem d_X12_no_132 : decode (mC M_X12_no) 132 = .ok (.iload 4, 2) := by decide +kernel
theorem d_X12_no_134 : decode (mC M_X12_no) 134 = .ok (.iaload, 1) := by decide +kernel
theorem d_X12_no_135 : decode (mC M_X12_no) 135 = .ok (.iload_n 3, 1) := by decide +kernel
theorem d_X12_no_136 : decode (mC M_X12_no) 136 = .ok (.iastore, 1) := by decide +kernel
theorem d_X12_no_137 : decode (mC M_X12_no) 137 = .ok (.iload 5, 2) := by decide +kernel
theorem d_X12_no_139 : decode (mC M_X12_no) 139 = .ok (.istore_n 3, 1) := by decide +kernel
theorem d_X12_no_140 : decode (mC M_X12_no) 140 = .ok (.iinc 4 1, 3) := by decide +kernel
theorem d_X12_no_143 : decode (mC M_X12_no) 143 = .ok (.goto (-42), 3) := by decide +kernel
theorem d_X12_no_146 : decode (mC M_X12_no) 146 = .ok (.aload_n 0, 1) := by decide +kernel
theorem d_X12_no_147 : decode (mC M_X12_no) 147 = .ok (.getfield 334, 3) := by decide +kernel
theorem d_X12_no_150 : decode (mC M_X12_no) 150 = .ok (.ireturn, 1) := by decide +kernel
theorem d_X12_nobody_0 : decode (mC M_X12_nobody) 0 = .ok (.iconst 0, 1) := by decide +kernel
theorem d_X12_nobody_1 : decode (mC M_X12_nobody) 1 = .ok (.istore_n 1, 1) := by decide +kernel
theorem d_X12_nobody_2 : decode (mC M_X12_nobody) 2 = .ok (.iload_n 1, 1) := by decide +kernel
theorem d_X12_nobody_3 : decode (mC M_X12_nobody) 3 = .ok (.bipush 40, 2) := by decide +kernel
theorem d_X12_nobody_5 : decode (mC M_X12_nobody) 5 = .ok (.if_icmp .ge 16, 3) := by decide +kernel
theorem d_X12_nobody_8 : decode (mC M_X12_nobody) 8 = .ok (.aload_n 0, 1) := by decide +kernel
theorem d_X12_nobody_9 : decode (mC M_X12_nobody) 9 = .ok (.getfield 39, 3) := by decide +kernel
theorem d_X12_nobody_12 : decode (mC M_X12_nobody) 12 = .ok (.iload_n 1, 1) := by decide +kernel
theorem d_X12_nobody_13 : decode (mC M_X12_nobody) 13 = .ok (.iconst (-1), 1) := by decide +kernel
theorem d_X12_nobody_14 : decode (mC M_X12_nobody) 14 = .ok (.iastore, 1) := by decide +kernel
theorem d_X12_nobody_15 : decode (mC M_X12_nobody) 15 = .ok (.iinc 1 1, 3) := by decide +kernel
theorem d_X12_nobody_18 : decode (mC M_X12_nobody) 18 = .ok (.goto (-16), 3) := by decide +kernel
theorem d_X12_nobody_21 : decode (mC M_X12_nobody) 21 = .ok (.return_, 1) := by decide +kernel
theorem d_X12_number_0 : decode (mC M_X12_number) 0 = .ok (.aload_n 0, 1) := by decide +kernel
theorem d_X12_number_1 : decode (mC M_X12_number) 1 = .ok (.getfield 221, 3) := by decide +kernel
theorem d_X12_number_4 : decode (mC M_X12_number) 4 = .ok (.ifCond .eq 5, 3) := by decide +kernel
theorem d_X12_number_7 : decode (mC M_X12_number) 7 = .ok (.iconst 0, 1) := by decide +kernel
theorem d_X12_number_8 : decode (mC M_X12_number) 8 = .ok (.ireturn, 1) := by decide +kernel
theorem d_X12_number_9 : decode (mC M_X12_number) 9 = .ok (.aload_n 0, 1) := by decide +kernel
theorem d_X12_number_10 : decode (mC M_X12_number) 10 = .ok (.getfield 192, 3) := by decide +kernel
theorem d_X12_number_13 : decode (mC M_X12_number) 13 = .ok (.iconst 2, 1) := by decide +kernel
theorem d_X12_number_14 : decode (mC M_X12_number) 14 = .ok (.if_icmp .eq 10, 3) := by decide +kernel
theorem d_X12_number_17 : decode (mC M_X12_number) 17 = .ok (.aload_n 0, 1) := by decide +kernel
theorem d_X12_number_18 : decode (mC M_X12_number) 18 = .ok (.iconst 1, 1) := by decide +kernel
theorem d_X12_number_19 : decode (mC M_X12_number) 19 = .ok (.invokevirtual 230, 3) := by decide +kernel
theorem d_X12_number_22 : decode (mC M_X12_number) 22 = .ok (.iconst 0, 1) := by decide +kernel
theorem d_X12_number_23 : decode (mC M_X12_number) 23 = .ok (.ireturn, 1) := by decide +kernel
theorem d_X12_number_24 : decode (mC M_X12_number) 24 = .ok (.aload_n 0, 1) := by decide +kernel
theorem d_X12_number_25 : decode (mC M_X12_number) 25 = .ok (.getfield 205, 3) := by decide +kernel
theorem d_X12_number_28 : decode (mC M_X12_number) 28 = .ok (.iload_n 1, 1) := by decide +kernel
theorem d_X12_number_29 : decode (mC M_X12_number) 29 = .ok (.iload_n 2, 1) := by decide +kernel
theorem d_X12_number_30 : decode (mC M_X12_number) 30 = .ok (.invokestatic 154, 3) := by decide +kernel
theorem d_X12_number_33 : decode (mC M_X12_number) 33 = .ok (.ifCond .ne 10, 3) := by decide +kernel
theorem d_X12_number_36 : decode (mC M_X12_number) 36 = .ok (.aload_n 0, 1) := by decide +kernel
theorem d_X12_number_37 : decode (mC M_X12_number) 37 = .ok (.iconst 2, 1) := by decide +kernel
theorem d_X12_number_38 : decode (mC M_X12_number) 38 = .ok (.invokevirtual 230, 3) := by decide +kernel
theorem d_X12_number_41 : decode (mC M_X12_number) 41 = .ok (.iconst 0, 1) := by decide +kernel
theorem d_X12_number_42 : decode (mC M_X12_number) 42 = .ok (.ireturn, 1) := by decide +kernel
theorem d_X12_number_43 : decode (mC M_X12_number) 43 = .ok (.aload_n 0, 1) := by decide +kernel
theorem d_X12_number_44 : decode (mC M_X12_number) 44 = .ok (.getfield 205, 3) := by decide +kernel
theorem d_X12_number_47 : decode (mC M_X12_number) 47 = .ok (.istore_n 3, 1) := by decide +kernel
theorem d_X12_number_48 : decode (mC M_X12_number) 48 = .ok (.aload_n 0, 1) := by decide +kernel
theorem d_X12_number_49 : decode (mC M_X12_number) 49 = .ok (.invokevirtual 208, 3) := by decide +kernel
theorem d_X12_number_52 : decode (mC M_X12_number) 52 = .ok (.iload_n 3, 1) := by decide +kernel
theorem d_X12_number_53 : decode (mC M_X12_number) 53 = .ok (.ireturn, 1) := by decide +kernel
theorem d_X12_one_0 : decode (mC M_X12_one) 0 = .ok (.aload_n 0, 1) := by decide +kernel
theorem d_X12_one_1 : decode (mC M_X12_one) 1 = .ok (.getfield 221, 3) := by decide +kernel
theorem d_X12_one_4 : decode (mC M_X12_one) 4 = .ok (.ifCond .eq 5, 3) := by decide +kernel
theorem d_X12_one_7 : decode (mC M_X12_one) 7 = .ok (.iconst 0, 1) := by decide +kernel
theorem d_X12_one_8 : decode (mC M_X12_one) 8 = .ok (.ireturn, 1) := by decide +kernel
theorem d_X12_one_9 : decode (mC M_X12_one) 9 = .ok (.aload_n 0, 1) := by decide +kernel
theorem d_X12_one_10 : decode (mC M_X12_one) 10 = .ok (.ldc 248, 2) := by decide +kernel
theorem d_X12_one_12 : decode (mC M_X12_one) 12 = .ok (.invokevirtual 234, 3) := by decide +kernel
theorem d_X12_one_15 : decode (mC M_X12_one) 15 = .ok (.istore_n 2, 1) := by decide +kernel
theorem d_X12_one_16 : decode (mC M_X12_one) 16 = .ok (.iload_n 2, 1) := by decide +kernel
theorem d_X12_one_17 : decode (mC M_X12_one) 17 = .ok (.ifCond .ne 12, 3) := by decide +kernel
theorem d_X12_one_20 : decode (mC M_X12_one) 20 = .ok (.aload_n 0, 1) := by decide +kernel
theorem d_X12_one_21 : decode (mC M_X12_one) 21 = .ok (.bipush 40, 2) := by decide +kernel
theorem d_X12_one_23 : decode (mC M_X12_one) 23 = .ok (.invokevirtual 227, 3) := by decide +kernel
theorem d_X12_one_26 : decode (mC M_X12_one) 26 = .ok (.ifCond .eq 56, 3) := by decide +kernel
theorem d_X12_one_29 : decode (mC M_X12_one) 29 = .ok (.iload_n 1, 1) := by decide +kernel
theorem d_X12_one_30 : decode (mC M_X12_one) 30 = .ok (.bipush 8, 2) := by decide +kernel
theorem d_X12_one_32 : decode (mC M_X12_one) 32 = .ok (.if_icmp .ne 10, 3) := by decide +kernel
theorem d_X12_one_35 : decode (mC M_X12_one) 35 = .ok (.aload_n 0, 1) := by decide +kernel
theorem d_X12_one_36 : decode (mC M_X12_one) 36 = .ok (.iconst 2, 1) := by decide +kernel
theorem d_X12_one_37 : decode (mC M_X12_one) 37 = .ok (.invokevirtual 230, 3) := by decide +kernel
theorem d_X12_one_40 : decode (mC M_X12_one) 40 = .ok (.iconst 0, 1) := by decide +kernel
theorem d_X12_one_41 : decode (mC M_X12_one) 41 = .ok (.ireturn, 1) := by decide +kernel
theorem d_X12_one_42 : decode (mC M_X12_one) 42 = .ok (.aload_n 0, 1) := by decide +kernel
theorem d_X12_one_43 : decode (mC M_X12_one) 43 = .ok (.invokevirtual 208, 3) := by decide +kernel
theorem d_X12_one_46 : decode (mC M_X12_one) 46 = .ok (.iload_n 2, 1) := by decide +kernel
theorem d_X12_one_47 : decode (mC M_X12_one) 47 = .ok (.ifCond .eq 19, 3) := by decide +kernel
theorem d_X12_one_50 : decode (mC M_X12_one) 50 = .ok (.aload_n 0, 1) := by decide +kernel
theorem d_X12_one_51 : decode (mC M_X12_one) 51 = .ok (.iload_n 1, 1) := by decide +kernel
theorem d_X12_one_52 : decode (mC M_X12_one) 52 = .ok (.iconst 1, 1) := by decide +kernel
theorem d_X12_one_53 : decode (mC M_X12_one) 53 = .ok (.iadd, 1) := by decide +kernel
theorem d_X12_one_54 : decode (mC M_X12_one) 54 = .ok (.invokevirtual 243, 3) := by decide +kernel
theorem d_X12_one_57 : decode (mC M_X12_one) 57 = .ok (.ifCond .ne 7, 3) := by decide +kernel
theorem d_X12_one_60 : decode (mC M_X12_one) 60 = .ok (.iconst 1, 1) := by decide +kernel
theorem d_X12_one_61 : decode (mC M_X12_one) 61 = .ok (.goto 4, 3) := by decide +kernel
theorem d_X12_one_64 : decode (mC M_X12_one) 64 = .ok (.iconst 0, 1) := by decide +kernel
theorem d_X12_one_65 : decode (mC M_X12_one) 65 = .ok (.ireturn, 1) := by decide +kernel
theorem d_X12_one_66 : decode (mC M_X12_one) 66 = .ok (.aload_n 0, 1) := by decide +kernel
theorem d_X12_one_67 : decode (mC M_X12_one) 67 = .ok (.iload_n 1, 1) := by decide +kernel
theorem d_X12_one_68 : decode (mC M_X12_one) 68 = .ok (.iconst 1, 1) := by decide +kernel
theorem d_X12_one_69 : decode (mC M_X12_one) 69 = .ok (.iadd, 1) := by decide +kernel
theorem d_X12_one_70 : decode (mC M_X12_one) 70 = .ok (.invokevirtual 250, 3) := by decide +kernel
theorem d_X12_one_73 : decode (mC M_X12_one) 73 = .ok (.istore_n 3, 1) := by decide +kernel
theorem d_X12_one_74 : decode (mC M_X12_one) 74 = .ok (.aload_n 0, 1) := by decide +kernel
theorem d_X12_one_75 : decode (mC M_X12_one) 75 = .ok (.bipush 41, 2) := by decide +kernel
theorem d_X12_one_77 : decode (mC M_X12_one) 77 = .ok (.invokevirtual 253, 3) := by decide +kernel
theorem d_X12_one_80 : decode (mC M_X12_one) 80 = .ok (.iload_n 3, 1) := by decide +kernel
theorem d_X12_one_81 : decode (mC M_X12_one) 81 = .ok (.ireturn, 1) := by decide +kernel
theorem d_X12_one_82 : decode (mC M_X12_one) 82 = .ok (.aload_n 0, 1) := by decide +kernel
theorem d_X12_one_83 : decode (mC M_X12_one) 83 = .ok (.ldc_w 256, 3) := by decide +kernel
theorem d_X12_one_86 : decode (mC M_X12_one) 86 = .ok (.invokevirtual 234, 3) := by decide +kernel
theorem d_X12_one_89 : decode (mC M_X12_one) 89 = .ok (.ifCond .eq 9, 3) := by decide +kernel
theorem d_X12_one_92 : decode (mC M_X12_one) 92 = .ok (.aload_n 0, 1) := by decide +kernel
theorem d_X12_one_93 : decode (mC M_X12_one) 93 = .ok (.invokevirtual 208, 3) := by decide +kernel
theorem d_X12_one_96 : decode (mC M_X12_one) 96 = .ok (.iconst 1, 1) := by decide +kernel
theorem d_X12_one_97 : decode (mC M_X12_one) 97 = .ok (.ireturn, 1) := by decide +kernel
theorem d_X12_one_98 : decode (mC M_X12_one) 98 = .ok (.aload_n 0, 1) := by decide +kernel
theorem d_X12_one_99 : decode (mC M_X12_one) 99 = .ok (.ldc_w 258, 3) := by decide +kernel
theorem d_X12_one_102 : decode (mC M_X12_one) 102 = .ok (.invokevirtual 234, 3) := by decide +kernel
theorem d_X12_one_105 : decode (mC M_X12_one) 105 = .ok (.ifCond .eq 45, 3) := by decide +kernel
theorem d_X12_one_108 : decode (mC M_X12_one) 108 = .ok (.aload_n 0, 1) := by decide +kernel
theorem d_X12_one_109 : decode (mC M_X12_one) 109 = .ok (.invokevirtual 208, 3) := by decide +kernel
theorem d_X12_one_112 : decode (mC M_X12_one) 112 = .ok (.aload_n 0, 1) := by decide +kernel
theorem d_X12_one_113 : decode (mC M_X12_one) 113 = .ok (.iconst 0, 1) := by decide +kernel
theorem d_X12_one_114 : decode (mC M_X12_one) 114 = .ok (.bipush 15, 2) := by decide +kernel
theorem d_X12_one_116 : decode (mC M_X12_one) 116 = .ok (.invokevirtual 260, 3) := by decide +kernel
theorem d_X12_one_119 : decode (mC M_X12_one) 119 = .ok (.istore_n 3, 1) := by decide +kernel
theorem d_X12_one_120 : decode (mC M_X12_one) 120 = .ok (.aload_n 0, 1) := by decide +kernel
theorem d_X12_one_121 : decode (mC M_X12_one) 121 = .ok (.getfield 263, 3) := by decide +kernel
theorem d_X12_one_124 : decode (mC M_X12_one) 124 = .ok (.ifCond .ne 24, 3) := by decide +kernel
theorem d_X12_one_127 : decode (mC M_X12_one) 127 = .ok (.aload_n 0, 1) := by decide +kernel
theorem d_X12_one_128 : decode (mC M_X12_one) 128 = .ok (.getfield 20, 3) := by decide +kernel
theorem d_X12_one_131 : decode (mC M_X12_one) 131 = .ok (.aload_n 0, 1) := by decide +kernel
theorem d_X12_one_132 : decode (mC M_X12_one) 132 = .ok (.getfield 267, 3) := by decide +kernel
theorem d_X12_one_135 : decode (mC M_X12_one) 135 = .ok (.iaload, 1) := by decide +kernel
theorem d_X12_one_136 : decode (mC M_X12_one) 136 = .ok (.iload_n 3, 1) := by decide +kernel
theorem d_X12_one_137 : decode (mC M_X12_one) 137 = .ok (.ishr, 1) := by decide +kernel
theorem d_X12_one_138 : decode (mC M_X12_one) 138 = .ok (.iconst 1, 1) := by decide +kernel
theorem d_X12_one_139 : decode (mC M_X12_one) 139 = .ok (.iand, 1) := by decide +kernel
theorem d_X12_one_140 : decode (mC M_X12_one) 140 = .ok (.iconst 1, 1) := by decide +kernel
theorem d_X12_one_141 : decode (mC M_X12_one) 141 = .ok (.if_icmp .ne 7, 3) := by decide +kernel
theorem d_X12_one_144 : decode (mC M_X12_one) 144 = .ok (.iconst 1, 1) := by decide +kernel
theorem d_X12_one_145 : decode (mC M_X12_one) 145 = .ok (.goto 4, 3) := by decide +kernel
theorem d_X12_one_148 : decode (mC M_X12_one) 148 = .ok (.iconst 0, 1) := by decide +kernel
theorem d_X12_one_149 : decode (mC M_X12_one) 149 = .ok (.ireturn, 1) := by decide +kernel
theorem d_X12_one_150 : decode (mC M_X12_one) 150 = .ok (.aload_n 0, 1) := by decide +kernel
theorem d_X12_one_151 : decode (mC M_X12_one) 151 = .ok (.ldc_w 270, 3) := by decide +kernel
theorem d_X12_one_154 : decode (mC M_X12_one) 154 = .ok (.invokevirtual 234, 3) := by decide +kernel
theorem d_X12_one_157 : decode (mC M_X12_one) 157 = .ok (.ifCond .eq 40, 3) := by decide +kernel
theorem d_X12_one_160 : decode (mC M_X12_one) 160 = .ok (.aload_n 0, 1) := by decide +kernel
theorem d_X12_one_161 : decode (mC M_X12_one) 161 = .ok (.invokevirtual 208, 3) := by decide +kernel
theorem d_X12_one_164 : decode (mC M_X12_one) 164 = .ok (.aload_n 0, 1) := by decide +kernel
theorem d_X12_one_165 : decode (mC M_X12_one) 165 = .ok (.iconst 0, 1) := by decide +kernel
theorem d_X12_one_166 : decode (mC M_X12_one) 166 = .ok (.iconst 3, 1) := by decide +kernel
theorem d_X12_one_167 : decode (mC M_X12_one) 167 = .ok (.invokevirtual 260, 3) := by decide +kernel
theorem d_X12_one_170 : decode (mC M_X12_one) 170 = .ok (.istore_n 3, 1) := by decide +kernel
theorem d_X12_one_171 : decode (mC M_X12_one) 171 = .ok (.aload_n 0, 1) := by decide +kernel
theorem d_X12_one_172 : decode (mC M_X12_one) 172 = .ok (.getfield 263, 3) := by decide +kernel
theorem d_X12_one_175 : decode (mC M_X12_one) 175 = .ok (.ifCond .ne 20, 3) := by decide +kernel
theorem d_X12_one_178 : decode (mC M_X12_one) 178 = .ok (.aload_n 0, 1) := by decide +kernel
theorem d_X12_one_179 : decode (mC M_X12_one) 179 = .ok (.getfield 23, 3) := by decide +kernel
theorem d_X12_one_182 : decode (mC M_X12_one) 182 = .ok (.aload_n 0, 1) := by decide +kernel
theorem d_X12_one_183 : decode (mC M_X12_one) 183 = .ok (.getfield 267, 3) := by decide +kernel
theorem d_X12_one_186 : decode (mC M_X12_one) 186 = .ok (.iaload, 1) := by decide +kernel
theorem d_X12_one_187 : decode (mC M_X12_one) 187 = .ok (.iload_n 3, 1) := by decide +kernel
theorem d_X12_one_188 : decode (mC M_X12_one) 188 = .ok (.if_icmp .ne 7, 3) := by decide +kernel
theorem d_X12_one_191 : decode (mC M_X12_one) 191 = .ok (.iconst 1, 1) := by decide +kernel
theorem d_X12_one_192 : decode (mC M_X12_one) 192 = .ok (.goto 4, 3) := by decide +kernel
theorem d_X12_one_195 : decode (mC M_X12_one) 195 = .ok (.iconst 0, 1) := by decide +kernel
theorem d_X12_one_196 : decode (mC M_X12_one) 196 = .ok (.ireturn, 1) := by decide +kernel
theorem d_X12_one_197 : decode (mC M_X12_one) 197 = .ok (.aload_n 0, 1) := by decide +kernel
theorem d_X12_one_198 : decode (mC M_X12_one) 198 = .ok (.ldc_w 271, 3) := by decide +kernel
theorem d_X12_one_201 : decode (mC M_X12_one) 201 = .ok (.invokevirtual 234, 3) := by decide +kernel
theorem d_X12_one_204 : decode (mC M_X12_one) 204 = .ok (.ifCond .eq 44, 3) := by decide +kernel
theorem d_X12_one_207 : decode (mC M_X12_one) 207 = .ok (.aload_n 0, 1) := by decide +kernel
theorem d_X12_one_208 : decode (mC M_X12_one) 208 = .ok (.invokevirtual 208, 3) := by decide +kernel
theorem d_X12_one_211 : decode (mC M_X12_one) 211 = .ok (.aload_n 0, 1) := by decide +kernel
theorem d_X12_one_212 : decode (mC M_X12_one) 212 = .ok (.iconst 0, 1) := by decide +kernel
theorem d_X12_one_213 : decode (mC M_X12_one) 213 = .ok (.bipush 19, 2) := by decide +kernel
theorem d_X12_one_215 : decode (mC M_X12_one) 215 = .ok (.invokevirtual 260, 3) := by decide +kernel
theorem d_X12_one_218 : decode (mC M_X12_one) 218 = .ok (.istore_n 3, 1) := by decide +kernel
theorem d_X12_one_219 : decode (mC M_X12_one) 219 = .ok (.aload_n 0, 1) := by decide +kernel
theorem d_X12_one_220 : decode (mC M_X12_one) 220 = .ok (.getfield 263, 3) := by decide +kernel
theorem d_X12_one_223 : decode (mC M_X12_one) 223 = .ok (.ifCond .ne 23, 3) := by decide +kernel
theorem d_X12_one_226 : decode (mC M_X12_one) 226 = .ok (.aload_n 0, 1) := by decide +kernel
theorem d_X12_one_227 : decode (mC M_X12_one) 227 = .ok (.aload_n 0, 1) := by decide +kernel
theorem d_X12_one_228 : decode (mC M_X12_one) 228 = .ok (.getfield 267, 3) := by decide +kernel
theorem d_X12_one_231 : decode (mC M_X12_one) 231 = .ok (.iload_n 3, 1) := by decide +kernel
theorem d_X12_one_232 : decode (mC M_X12_one) 232 = .ok (.aload_n 0, 1) := by decide +kernel
theorem d_X12_one_233 : decode (mC M_X12_one) 233 = .ok (.getfield 163, 3) := by decide +kernel
theorem d_X12_one_236 : decode (mC M_X12_one) 236 = .ok (.invokevirtual 173, 3) := by decide +kernel
theorem d_X12_one_239 : decode (mC M_X12_one) 239 = .ok (.ifCond .le 7, 3) := by decide +kernel
theorem d_X12_one_242 : decode (mC M_X12_one) 242 = .ok (.iconst 1, 1) := by decide +kernel
theorem d_X12_one_243 : decode (mC M_X12_one) 243 = .ok (.goto 4, 3) := by decide +kernel
theorem d_X12_one_246 : decode (mC M_X12_one) 246 = .ok (.iconst 0, 1) := by decide +kernel
theorem d_X12_one_247 : decode (mC M_X12_one) 247 = .ok (.ireturn, 1) := by decide +kernel
theorem d_X12_one_248 : decode (mC M_X12_one) 248 = .ok (.aload_n 0, 1) := by decide +kernel
theorem d_X12_one_249 : decode (mC M_X12_one) 249 = .ok (.ldc_w 273, 3) := by decide +kernel
theorem d_X12_one_252 : decode (mC M_X12_one) 252 = .ok (.invokevirtual 234, 3) := by decide +kernel
theorem d_X12_one_255 : decode (mC M_X12_one) 255 = .ok (.istore_n 3, 1) := by decide +kernel
theorem d_X12_one_256 : decode (mC M_X12_one) 256 = .ok (.iload_n 3, 1) := by decide +kernel
theorem d_X12_one_257 : decode (mC M_X12_one) 257 = .ok (.ifCond .ne 20, 3) := by decide +kernel
theorem d_X12_one_260 : decode (mC M_X12_one) 260 = .ok (.aload_n 0, 1) := by decide +kernel
theorem d_X12_one_261 : decode (mC M_X12_one) 261 = .ok (.ldc_w 274, 3) := by decide +kernel
theorem d_X12_one_264 : decode (mC M_X12_one) 264 = .ok (.invokevirtual 234, 3) := by decide +kernel
theorem d_X12_one_267 : decode (mC M_X12_one) 267 = .ok (.ifCond .ne 10, 3) := by decide +kernel
theorem d_X12_one_270 : decode (mC M_X12_one) 270 = .ok (.aload_n 0, 1) := by decide +kernel
theorem d_X12_one_271 : decode (mC M_X12_one) 271 = .ok (.iconst 1, 1) := by decide +kernel
theorem d_X12_one_272 : decode (mC M_X12_one) 272 = .ok (.invokevirtual 230, 3) := by decide +kernel
theorem d_X12_one_275 : decode (mC M_X12_one) 275 = .ok (.iconst 0, 1) := by decide +kernel
theorem d_X12_one_276 : decode (mC M_X12_one) 276 = .ok (.ireturn, 1) := by decide +kernel
theorem d_X12_one_277 : decode (mC M_X12_one) 277 = .ok (.aload_n 0, 1) := by decide +kernel
theorem d_X12_one_278 : decode (mC M_X12_one) 278 = .ok (.invokevirtual 208, 3) := by decide +kernel
theorem d_X12_one_281 : decode (mC M_X12_one) 281 = .ok (.aload_n 0, 1) := by decide +kernel
theorem d_X12_one_282 : decode (mC M_X12_one) 282 = .ok (.bipush 60, 2) := by decide +kernel
theorem d_X12_one_284 : decode (mC M_X12_one) 284 = .ok (.invokevirtual 227, 3) := by decide +kernel
theorem d_X12_one_287 : decode (mC M_X12_one) 287 = .ok (.istore 4, 2) := by decide +kernel
theorem d_X12_one_289 : decode (mC M_X12_one) 289 = .ok (.iload 4, 2) := by decide +kernel
theorem d_X12_one_291 : decode (mC M_X12_one) 291 = .ok (.ifCond .ne 19, 3) := by decide +kernel
theorem d_X12_one_294 : decode (mC M_X12_one) 294 = .ok (.aload_n 0, 1) := by decide +kernel
theorem d_X12_one_295 : decode (mC M_X12_one) 295 = .ok (.bipush 62, 2) := by decide +kernel
theorem d_X12_one_297 : decode (mC M_X12_one) 297 = .ok (.invokevirtual 227, 3) := by decide +kernel
theorem d_X12_one_300 : decode (mC M_X12_one) 300 = .ok (.ifCond .ne 10, 3) := by decide +kernel
theorem d_X12_one_303 : decode (mC M_X12_one) 303 = .ok (.aload_n 0, 1) := by decide +kernel
theorem d_X12_one_304 : decode (mC M_X12_one) 304 = .ok (.iconst 1, 1) := by decide +kernel
theorem d_X12_one_305 : decode (mC M_X12_one) 305 = .ok (.invokevirtual 230, 3) := by decide +kernel
theorem d_X12_one_308 : decode (mC M_X12_one) 308 = .ok (.iconst 0, 1) := by decide +kernel
theorem d_X12_one_309 : decode (mC M_X12_one) 309 = .ok (.ireturn, 1) := by decide +kernel
theorem d_X12_one_310 : decode (mC M_X12_one) 310 = .ok (.aload_n 0, 1) := by decide +kernel
theorem d_X12_one_311 : decode (mC M_X12_one) 311 = .ok (.invokevirtual 208, 3) := by decide +kernel
theorem d_X12_one_314 : decode (mC M_X12_one) 314 = .ok (.aload_n 0, 1) := by decide +kernel
theorem d_X12_one_315 : decode (mC M_X12_one) 315 = .ok (.iconst 0, 1) := by decide +kernel
theorem d_X12_one_316 : decode (mC M_X12_one) 316 = .ok (.ldc_w 275, 3) := by decide +kernel
theorem d_X12_one_319 : decode (mC M_X12_one) 319 = .ok (.invokevirtual 260, 3) := by decide +kernel
theorem d_X12_one_322 : decode (mC M_X12_one) 322 = .ok (.istore 5, 2) := by decide +kernel
theorem d_X12_one_324 : decode (mC M_X12_one) 324 = .ok (.aload_n 0, 1) := by decide +kernel
theorem d_X12_one_325 : decode (mC M_X12_one) 325 = .ok (.getfield 263, 3) := by decide +kernel
theorem d_X12_one_328 : decode (mC M_X12_one) 328 = .ok (.ifCond .eq 5, 3) := by decide +kernel
theorem d_X12_one_331 : decode (mC M_X12_one) 331 = .ok (.iconst 0, 1) := by decide +kernel
theorem d_X12_one_332 : decode (mC M_X12_one) 332 = .ok (.ireturn, 1) := by decide +kernel
theorem d_X12_one_333 : decode (mC M_X12_one) 333 = .ok (.iload_n 3, 1) := by decide +kernel
theorem d_X12_one_334 : decode (mC M_X12_one) 334 = .ok (.ifCond .eq 15, 3) := by decide +kernel
theorem d_X12_one_337 : decode (mC M_X12_one) 337 = .ok (.aload_n 0, 1) := by decide +kernel
theorem d_X12_one_338 : decode (mC M_X12_one) 338 = .ok (.getfield 13, 3) := by decide +kernel
theorem d_X12_one_341 : decode (mC M_X12_one) 341 = .ok (.aload_n 0, 1) := by decide +kernel
theorem d_X12_one_342 : decode (mC M_X12_one) 342 = .ok (.getfield 267, 3) := by decide +kernel
theorem d_X12_one_345 : decode (mC M_X12_one) 345 = .ok (.iaload, 1) := by decide +kernel
theorem d_X12_one_346 : decode (mC M_X12_one) 346 = .ok (.goto 12, 3) := by decide +kernel
theorem d_X12_one_349 : decode (mC M_X12_one) 349 = .ok (.aload_n 0, 1) := by decide +kernel
theorem d_X12_one_350 : decode (mC M_X12_one) 350 = .ok (.getfield 17, 3) := by decide +kernel
theorem d_X12_one_353 : decode (mC M_X12_one) 353 = .ok (.aload_n 0, 1) := by decide +kernel
theorem d_X12_one_354 : decode (mC M_X12_one) 354 = .ok (.getfield 267, 3) := by decide +kernel
theorem d_X12_one_357 : decode (mC M_X12_one) 357 = .ok (.iaload, 1) := by decide +kernel
theorem d_X12_one_358 : decode (mC M_X12_one) 358 = .ok (.istore 6, 2) := by decide +kernel
theorem d_X12_one_360 : decode (mC M_X12_one) 360 = .ok (.iload 4, 2) := by decide +kernel
theorem d_X12_one_362 : decode (mC M_X12_one) 362 = .ok (.ifCond .eq 18, 3) := by decide +kernel
theorem d_X12_one_365 : decode (mC M_X12_one) 365 = .ok (.iload 6, 2) := by decide +kernel
theorem d_X12_one_367 : decode (mC M_X12_one) 367 = .ok (.iload 5, 2) := by decide +kernel
theorem d_X12_one_369 : decode (mC M_X12_one) 369 = .ok (.if_icmp .ge 7, 3) := by decide +kernel
theorem d_X12_one_372 : decode (mC M_X12_one) 372 = .ok (.iconst 1, 1) := by decide +kernel
theorem d_X12_one_373 : decode (mC M_X12_one) 373 = .ok (.goto 19, 3) := by decide +kernel
theorem d_X12_one_376 : decode (mC M_X12_one) 376 = .ok (.iconst 0, 1) := by decide +kernel
theorem d_X12_one_377 : decode (mC M_X12_one) 377 = .ok (.goto 15, 3) := by decide +kernel
theorem d_X12_one_380 : decode (mC M_X12_one) 380 = .ok (.iload 6, 2) := by decide +kernel
theorem d_X12_one_382 : decode (mC M_X12_one) 382 = .ok (.iload 5, 2) := by decide +kernel
theorem d_X12_one_384 : decode (mC M_X12_one) 384 = .ok (.if_icmp .le 7, 3) := by decide +kernel
theorem d_X12_one_387 : decode (mC M_X12_one) 387 = .ok (.iconst 1, 1) := by decide +kernel
theorem d_X12_one_388 : decode (mC M_X12_one) 388 = .ok (.goto 4, 3) := by decide +kernel
theorem d_X12_one_391 : decode (mC M_X12_one) 391 = .ok (.iconst 0, 1) := by decide +kernel
theorem d_X12_one_392 : decode (mC M_X12_one) 392 = .ok (.ireturn, 1) := by decide +kernel
theorem d_X12_pay_0 : decode (mC M_X12_pay) 0 = .ok (.aload_n 0, 1) := by decide +kernel
theorem d_X12_pay_1 : decode (mC M_X12_pay) 1 = .ok (.iconst 0, 1) := by decide +kernel
theorem d_X12_pay_2 : decode (mC M_X12_pay) 2 = .ok (.putfield 1, 3) := by decide +kernel
theorem d_X12_pay_5 : decode (mC M_X12_pay) 5 = .ok (.lconst 0, 1) := by decide +kernel
theorem d_X12_pay_6 : decode (mC M_X12_pay) 6 = .ok (.lstore 4, 2) := by decide +kernel
theorem d_X12_pay_8 : decode (mC M_X12_pay) 8 = .ok (.iconst 0, 1) := by decide +kernel
theorem d_X12_pay_9 : decode (mC M_X12_pay) 9 = .ok (.istore 6, 2) := by decide +kernel
theorem d_X12_pay_11 : decode (mC M_X12_pay) 11 = .ok (.iload 6, 2) := by decide +kernel
theorem d_X12_pay_13 : decode (mC M_X12_pay) 13 = .ok (.aload_n 0, 1) := by decide +kernel
theorem d_X12_pay_14 : decode (mC M_X12_pay) 14 = .ok (.getfield 304, 3) := by decide +kernel
theorem d_X12_pay_17 : decode (mC M_X12_pay) 17 = .ok (.if_icmp .ge 77, 3) := by decide +kernel
theorem d_X12_pay_20 : decode (mC M_X12_pay) 20 = .ok (.iload 6, 2) := by decide +kernel
theorem d_X12_pay_22 : decode (mC M_X12_pay) 22 = .ok (.iload_n 2, 1) := by decide +kernel
theorem d_X12_pay_23 : decode (mC M_X12_pay) 23 = .ok (.if_icmp .lt 65, 3) := by decide +kernel
theorem d_X12_pay_26 : decode (mC M_X12_pay) 26 = .ok (.iload 6, 2) := by decide +kernel
theorem d_X12_pay_28 : decode (mC M_X12_pay) 28 = .ok (.iload_n 3, 1) := by decide +kernel
theorem d_X12_pay_29 : decode (mC M_X12_pay) 29 = .ok (.if_icmp .gt 59, 3) := by decide +kernel
theorem d_X12_pay_32 : decode (mC M_X12_pay) 32 = .ok (.aload_n 0, 1) := by decide +kernel
theorem d_X12_pay_33 : decode (mC M_X12_pay) 33 = .ok (.iload_n 1, 1) := by decide +kernel
theorem d_X12_pay_34 : decode (mC M_X12_pay) 34 = .ok (.iload 6, 2) := by decide +kernel
theorem d_X12_pay_36 : decode (mC M_X12_pay) 36 = .ok (.invokevirtual 378, 3) := by decide +kernel
theorem d_X12_pay_39 : decode (mC M_X12_pay) 39 = .ok (.ifCond .eq 49, 3) := by decide +kernel
theorem d_X12_pay_42 : decode (mC M_X12_pay) 42 = .ok (.lload 4, 2) := by decide +kernel
theorem d_X12_pay_44 : decode (mC M_X12_pay) 44 = .ok (.aload_n 0, 1) := by decide +kernel
theorem d_X12_pay_45 : decode (mC M_X12_pay) 45 = .ok (.aload_n 0, 1) := by decide +kernel
theorem d_X12_pay_46 : decode (mC M_X12_pay) 46 = .ok (.getfield 133, 3) := by decide +kernel
theorem d_X12_pay_49 : decode (mC M_X12_pay) 49 = .ok (.bipush 40, 2) := by decide +kernel
theorem d_X12_pay_51 : decode (mC M_X12_pay) 51 = .ok (.iload 6, 2) := by decide +kernel
theorem d_X12_pay_53 : decode (mC M_X12_pay) 53 = .ok (.imul, 1) := by decide +kernel
theorem d_X12_pay_54 : decode (mC M_X12_pay) 54 = .ok (.iload_n 1, 1) := by decide +kernel
theorem d_X12_pay_55 : decode (mC M_X12_pay) 55 = .ok (.iadd, 1) := by decide +kernel
theorem d_X12_pay_56 : decode (mC M_X12_pay) 56 = .ok (.iaload, 1) := by decide +kernel
theorem d_X12_pay_57 : decode (mC M_X12_pay) 57 = .ok (.aload_n 0, 1) := by decide +kernel
theorem d_X12_pay_58 : decode (mC M_X12_pay) 58 = .ok (.getfield 121, 3) := by decide +kernel
theorem d_X12_pay_61 : decode (mC M_X12_pay) 61 = .ok (.bipush 40, 2) := by decide +kernel
theorem d_X12_pay_63 : decode (mC M_X12_pay) 63 = .ok (.iload 6, 2) := by decide +kernel
theorem d_X12_pay_65 : decode (mC M_X12_pay) 65 = .ok (.imul, 1) := by decide +kernel
theorem d_X12_pay_66 : decode (mC M_X12_pay) 66 = .ok (.iload_n 1, 1) := by decide +kernel
theorem d_X12_pay_67 : decode (mC M_X12_pay) 67 = .ok (.iadd, 1) := by decide +kernel
theorem d_X12_pay_68 : decode (mC M_X12_pay) 68 = .ok (.iaload, 1) := by decide +kernel
theorem d_X12_pay_69 : decode (mC M_X12_pay) 69 = .ok (.aload_n 0, 1) := by decide +kernel
theorem d_X12_pay_70 : decode (mC M_X12_pay) 70 = .ok (.getfield 130, 3) := by decide +kernel
theorem d_X12_pay_73 : decode (mC M_X12_pay) 73 = .ok (.bipush 40, 2) := by decide +kernel
theorem d_X12_pay_75 : decode (mC M_X12_pay) 75 = .ok (.iload 6, 2) := by decide +kernel
theorem d_X12_pay_77 : decode (mC M_X12_pay) 77 = .ok (.imul, 1) := by decide +kernel
theorem d_X12_pay_78 : decode (mC M_X12_pay) 78 = .ok (.iload_n 1, 1) := by decide +kernel
theorem d_X12_pay_79 : decode (mC M_X12_pay) 79 = .ok (.iadd, 1) := by decide +kernel
theorem d_X12_pay_80 : decode (mC M_X12_pay) 80 = .ok (.iaload, 1) := by decide +kernel
theorem d_X12_pay_81 : decode (mC M_X12_pay) 81 = .ok (.invokevirtual 381, 3) := by decide +kernel
theorem d_X12_pay_84 : decode (mC M_X12_pay) 84 = .ok (.i2l, 1) := by decide +kernel
theorem d_X12_pay_85 : decode (mC M_X12_pay) 85 = .ok (.ladd, 1) := by decide +kernel
theorem d_X12_pay_86 : decode (mC M_X12_pay) 86 = .ok (.lstore 4, 2) := by decide +kernel
theorem d_X12_pay_88 : decode (mC M_X12_pay) 88 = .ok (.iinc 6 1, 3) := by decide +kernel
theorem d_X12_pay_91 : decode (mC M_X12_pay) 91 = .ok (.goto (-80), 3) := by decide +kernel
theorem d_X12_pay_94 : decode (mC M_X12_pay) 94 = .ok (.lload 4, 2) := by decide +kernel
theorem d_X12_pay_96 : decode (mC M_X12_pay) 96 = .ok (.lreturn, 1) := by decide +kernel
theorem d_X12_person_0 : decode (mC M_X12_person) 0 = .ok (.aload_n 0, 1) := by decide +kernel
theorem d_X12_person_1 : decode (mC M_X12_person) 1 = .ok (.iconst 0, 1) := by decide +kernel
theorem d_X12_person_2 : decode (mC M_X12_person) 2 = .ok (.putfield 1, 3) := by decide +kernel
theorem d_X12_person_5 : decode (mC M_X12_person) 5 = .ok (.aload_n 0, 1) := by decide +kernel
theorem d_X12_person_6 : decode (mC M_X12_person) 6 = .ok (.getfield 151, 3) := by decide +kernel
theorem d_X12_person_9 : decode (mC M_X12_person) 9 = .ok (.bipush 40, 2) := by decide +kernel
theorem d_X12_person_11 : decode (mC M_X12_person) 11 = .ok (.if_icmp .eq 56, 3) := by decide +kernel
theorem d_X12_person_14 : decode (mC M_X12_person) 14 = .ok (.iload_n 1, 1) := by decide +kernel
theorem d_X12_person_15 : decode (mC M_X12_person) 15 = .ok (.iconst 0, 1) := by decide +kernel
theorem d_X12_person_16 : decode (mC M_X12_person) 16 = .ok (.bipush 99, 2) := by decide +kernel
theorem d_X12_person_18 : decode (mC M_X12_person) 18 = .ok (.invokestatic 154, 3) := by decide +kernel
theorem d_X12_person_21 : decode (mC M_X12_person) 21 = .ok (.ifCond .eq 46, 3) := by decide +kernel
theorem d_X12_person_24 : decode (mC M_X12_person) 24 = .ok (.iload_n 2, 1) := by decide +kernel
theorem d_X12_person_25 : decode (mC M_X12_person) 25 = .ok (.bipush 50, 2) := by decide +kernel
theorem d_X12_person_27 : decode (mC M_X12_person) 27 = .ok (.sipush 230, 3) := by decide +kernel
theorem d_X12_person_30 : decode (mC M_X12_person) 30 = .ok (.invokestatic 154, 3) := by decide +kernel
theorem d_X12_person_33 : decode (mC M_X12_person) 33 = .ok (.ifCond .eq 34, 3) := by decide +kernel
theorem d_X12_person_36 : decode (mC M_X12_person) 36 = .ok (.iload_n 3, 1) := by decide +kernel
theorem d_X12_person_37 : decode (mC M_X12_person) 37 = .ok (.iconst 0, 1) := by decide +kernel
theorem d_X12_person_38 : decode (mC M_X12_person) 38 = .ok (.ldc 158, 2) := by decide +kernel
theorem d_X12_person_40 : decode (mC M_X12_person) 40 = .ok (.invokestatic 154, 3) := by decide +kernel
theorem d_X12_person_43 : decode (mC M_X12_person) 43 = .ok (.ifCond .eq 24, 3) := by decide +kernel
theorem d_X12_person_46 : decode (mC M_X12_person) 46 = .ok (.iload 4, 2) := by decide +kernel
theorem d_X12_person_48 : decode (mC M_X12_person) 48 = .ok (.iconst 0, 1) := by decide +kernel
theorem d_X12_person_49 : decode (mC M_X12_person) 49 = .ok (.iconst 3, 1) := by decide +kernel
theorem d_X12_person_50 : decode (mC M_X12_person) 50 = .ok (.invokestatic 154, 3) := by decide +kernel
theorem d_X12_person_53 : decode (mC M_X12_person) 53 = .ok (.ifCond .eq 14, 3) := by decide +kernel
theorem d_X12_person_56 : decode (mC M_X12_person) 56 = .ok (.iload 5, 2) := by decide +kernel
theorem d_X12_person_58 : decode (mC M_X12_person) 58 = .ok (.iconst 1, 1) := by decide +kernel
theorem d_X12_person_59 : decode (mC M_X12_person) 59 = .ok (.bipush 30, 2) := by decide +kernel
theorem d_X12_person_61 : decode (mC M_X12_person) 61 = .ok (.invokestatic 154, 3) := by decide +kernel
theorem d_X12_person_64 : decode (mC M_X12_person) 64 = .ok (.ifCond .ne 5, 3) := by decide +kernel
theorem d_X12_person_67 : decode (mC M_X12_person) 67 = .ok (.iconst (-1), 1) := by decide +kernel
theorem d_X12_person_68 : decode (mC M_X12_person) 68 = .ok (.ireturn, 1) := by decide +kernel
theorem d_X12_person_69 : decode (mC M_X12_person) 69 = .ok (.aload_n 0, 1) := by decide +kernel
theorem d_X12_person_70 : decode (mC M_X12_person) 70 = .ok (.getfield 13, 3) := by decide +kernel
theorem d_X12_person_73 : decode (mC M_X12_person) 73 = .ok (.aload_n 0, 1) := by decide +kernel
theorem d_X12_person_74 : decode (mC M_X12_person) 74 = .ok (.getfield 151, 3) := by decide +kernel
theorem d_X12_person_77 : decode (mC M_X12_person) 77 = .ok (.iload_n 1, 1) := by decide +kernel
theorem d_X12_person_78 : decode (mC M_X12_person) 78 = .ok (.iastore, 1) := by decide +kernel
theorem d_X12_person_79 : decode (mC M_X12_person) 79 = .ok (.aload_n 0, 1) := by decide +kernel
theorem d_X12_person_80 : decode (mC M_X12_person) 80 = .ok (.getfield 17, 3) := by decide +kernel
theorem d_X12_person_83 : decode (mC M_X12_person) 83 = .ok (.aload_n 0, 1) := by decide +kernel
theorem d_X12_person_84 : decode (mC M_X12_person) 84 = .ok (.getfield 151, 3) := by decide +kernel
theorem d_X12_person_87 : decode (mC M_X12_person) 87 = .ok (.iload_n 2, 1) := by decide +kernel
theorem d_X12_person_88 : decode (mC M_X12_person) 88 = .ok (.iastore, 1) := by decide +kernel
theorem d_X12_person_89 : decode (mC M_X12_person) 89 = .ok (.aload_n 0, 1) := by decide +kernel
theorem d_X12_person_90 : decode (mC M_X12_person) 90 = .ok (.getfield 20, 3) := by decide +kernel
theorem d_X12_person_93 : decode (mC M_X12_person) 93 = .ok (.aload_n 0, 1) := by decide +kernel
theorem d_X12_person_94 : decode (mC M_X12_person) 94 = .ok (.getfield 151, 3) := by decide +kernel
theorem d_X12_person_97 : decode (mC M_X12_person) 97 = .ok (.iload_n 3, 1) := by decide +kernel
theorem d_X12_person_98 : decode (mC M_X12_person) 98 = .ok (.iastore, 1) := by decide +kernel
theorem d_X12_person_99 : decode (mC M_X12_person) 99 = .ok (.aload_n 0, 1) := by decide +kernel
theorem d_X12_person_100 : decode (mC M_X12_person) 100 = .ok (.getfield 23, 3) := by decide +kernel
theorem d_X12_person_103 : decode (mC M_X12_person) 103 = .ok (.aload_n 0, 1) := by decide +kernel
theorem d_X12_person_104 : decode (mC M_X12_person) 104 = .ok (.getfield 151, 3) := by decide +kernel
theorem d_X12_person_107 : decode (mC M_X12_person) 107 = .ok (.iload 4, 2) := by decide +kernel
theorem d_X12_person_109 : decode (mC M_X12_person) 109 = .ok (.iastore, 1) := by decide +kernel
theorem d_X12_person_110 : decode (mC M_X12_person) 110 = .ok (.aload_n 0, 1) := by decide +kernel
theorem d_X12_person_111 : decode (mC M_X12_person) 111 = .ok (.getfield 26, 3) := by decide +kernel
theorem d_X12_person_114 : decode (mC M_X12_person) 114 = .ok (.aload_n 0, 1) := by decide +kernel
theorem d_X12_person_115 : decode (mC M_X12_person) 115 = .ok (.getfield 151, 3) := by decide +kernel
theorem d_X12_person_118 : decode (mC M_X12_person) 118 = .ok (.iload 5, 2) := by decide +kernel
theorem d_X12_person_120 : decode (mC M_X12_person) 120 = .ok (.iastore, 1) := by decide +kernel
theorem d_X12_person_121 : decode (mC M_X12_person) 121 = .ok (.aload_n 0, 1) := by decide +kernel
theorem d_X12_person_122 : decode (mC M_X12_person) 122 = .ok (.getfield 39, 3) := by decide +kernel
theorem d_X12_person_125 : decode (mC M_X12_person) 125 = .ok (.aload_n 0, 1) := by decide +kernel
theorem d_X12_person_126 : decode (mC M_X12_person) 126 = .ok (.getfield 151, 3) := by decide +kernel
theorem d_X12_person_129 : decode (mC M_X12_person) 129 = .ok (.iconst (-1), 1) := by decide +kernel
theorem d_X12_person_130 : decode (mC M_X12_person) 130 = .ok (.iastore, 1) := by decide +kernel
theorem d_X12_person_131 : decode (mC M_X12_person) 131 = .ok (.aload_n 0, 1) := by decide +kernel
theorem d_X12_person_132 : decode (mC M_X12_person) 132 = .ok (.dup, 1) := by decide +kernel
theorem d_X12_person_133 : decode (mC M_X12_person) 133 = .ok (.getfield 151, 3) := by decide +kernel
theorem d_X12_person_136 : decode (mC M_X12_person) 136 = .ok (.iconst 1, 1) := by decide +kernel
theorem d_X12_person_137 : decode (mC M_X12_person) 137 = .ok (.iadd, 1) := by decide +kernel
theorem d_X12_person_138 : decode (mC M_X12_person) 138 = .ok (.putfield 151, 3) := by decide +kernel
theorem d_X12_person_141 : decode (mC M_X12_person) 141 = .ok (.aload_n 0, 1) := by decide +kernel
theorem d_X12_person_142 : decode (mC M_X12_person) 142 = .ok (.getfield 151, 3) := by decide +kernel
theorem d_X12_person_145 : decode (mC M_X12_person) 145 = .ok (.iconst 1, 1) := by decide +kernel
theorem d_X12_person_146 : decode (mC M_X12_person) 146 = .ok (.isub, 1) := by decide +kernel
theorem d_X12_person_147 : decode (mC M_X12_person) 147 = .ok (.ireturn, 1) := by decide +kernel
theorem d_X12_place_0 : decode (mC M_X12_place) 0 = .ok (.aload_n 0, 1) := by decide +kernel
theorem d_X12_place_1 : decode (mC M_X12_place) 1 = .ok (.iconst 0, 1) := by decide +kernel
theorem d_X12_place_2 : decode (mC M_X12_place) 2 = .ok (.putfield 1, 3) := by decide +kernel
theorem d_X12_place_5 : decode (mC M_X12_place) 5 = .ok (.aload_n 0, 1) := by decide +kernel
theorem d_X12_place_6 : decode (mC M_X12_place) 6 = .ok (.getfield 52, 3) := by decide +kernel
theorem d_X12_place_9 : decode (mC M_X12_place) 9 = .ok (.ireturn, 1) := by decide +kernel
theorem d_X12_quarters_0 : decode (mC M_X12_quarters) 0 = .ok (.iload_n 0, 1) := by decide +kernel
theorem d_X12_quarters_1 : decode (mC M_X12_quarters) 1 = .ok (.ifCond .gt 7, 3) := by decide +kernel
theorem d_X12_quarters_4 : decode (mC M_X12_quarters) 4 = .ok (.iconst 0, 1) := by decide +kernel
theorem d_X12_quarters_5 : decode (mC M_X12_quarters) 5 = .ok (.goto 21, 3) := by decide +kernel
theorem d_X12_quarters_8 : decode (mC M_X12_quarters) 8 = .ok (.iload_n 1, 1) := by decide +kernel
theorem d_X12_quarters_9 : decode (mC M_X12_quarters) 9 = .ok (.ifCond .eq 13, 3) := by decide +kernel
theorem d_X12_quarters_12 : decode (mC M_X12_quarters) 12 = .ok (.iload_n 0, 1) := by decide +kernel
theorem d_X12_quarters_13 : decode (mC M_X12_quarters) 13 = .ok (.bipush 14, 2) := by decide +kernel
theorem d_X12_quarters_15 : decode (mC M_X12_quarters) 15 = .ok (.iadd, 1) := by decide +kernel
theorem d_X12_quarters_16 : decode (mC M_X12_quarters) 16 = .ok (.bipush 15, 2) := by decide +kernel
theorem d_X12_quarters_18 : decode (mC M_X12_quarters) 18 = .ok (.idiv, 1) := by decide +kernel
theorem d_X12_quarters_19 : decode (mC M_X12_quarters) 19 = .ok (.goto 7, 3) := by decide +kernel
theorem d_X12_quarters_22 : decode (mC M_X12_quarters) 22 = .ok (.iload_n 0, 1) := by decide +kernel
theorem d_X12_quarters_23 : decode (mC M_X12_quarters) 23 = .ok (.bipush 15, 2) := by decide +kernel
theorem d_X12_quarters_25 : decode (mC M_X12_quarters) 25 = .ok (.idiv, 1) := by decide +kernel
theorem d_X12_quarters_26 : decode (mC M_X12_quarters) 26 = .ok (.ireturn, 1) := by decide +kernel
theorem d_X12_readAsk_0 : decode (mC M_X12_readAsk) 0 = .ok (.aload_n 0, 1) := by decide +kernel
theorem d_X12_readAsk_1 : decode (mC M_X12_readAsk) 1 = .ok (.ldc_w 276, 3) := by decide +kernel
theorem d_X12_readAsk_4 : decode (mC M_X12_readAsk) 4 = .ok (.invokevirtual 234, 3) := by decide +kernel
theorem d_X12_readAsk_7 : decode (mC M_X12_readAsk) 7 = .ok (.ifCond .ne 9, 3) := by decide +kernel
theorem d_X12_readAsk_10 : decode (mC M_X12_readAsk) 10 = .ok (.aload_n 0, 1) := by decide +kernel
theorem d_X12_readAsk_11 : decode (mC M_X12_readAsk) 11 = .ok (.iconst 1, 1) := by decide +kernel
theorem d_X12_readAsk_12 : decode (mC M_X12_readAsk) 12 = .ok (.invokevirtual 230, 3) := by decide +kernel
theorem d_X12_readAsk_15 : decode (mC M_X12_readAsk) 15 = .ok (.return_, 1) := by decide +kernel
theorem d_X12_readAsk_16 : decode (mC M_X12_readAsk) 16 = .ok (.aload_n 0, 1) := by decide +kernel
theorem d_X12_readAsk_17 : decode (mC M_X12_readAsk) 17 = .ok (.getfield 277, 3) := by decide +kernel
theorem d_X12_readAsk_20 : decode (mC M_X12_readAsk) 20 = .ok (.bipush 6, 2) := by decide +kernel
theorem d_X12_readAsk_22 : decode (mC M_X12_readAsk) 22 = .ok (.if_icmp .ne 9, 3) := by decide +kernel
theorem d_X12_readAsk_25 : decode (mC M_X12_readAsk) 25 = .ok (.aload_n 0, 1) := by decide +kernel
theorem d_X12_readAsk_26 : decode (mC M_X12_readAsk) 26 = .ok (.iconst 2, 1) := by decide +kernel
theorem d_X12_readAsk_27 : decode (mC M_X12_readAsk) 27 = .ok (.invokevirtual 230, 3) := by decide +kernel
theorem d_X12_readAsk_30 : decode (mC M_X12_readAsk) 30 = .ok (.return_, 1) := by decide +kernel
theorem d_X12_readAsk_31 : decode (mC M_X12_readAsk) 31 = .ok (.aload_n 0, 1) := by decide +kernel
theorem d_X12_readAsk_32 : decode (mC M_X12_readAsk) 32 = .ok (.getfield 277, 3) := by decide +kernel
theorem d_X12_readAsk_35 : decode (mC M_X12_readAsk) 35 = .ok (.istore_n 1, 1) := by decide +kernel
theorem d_X12_readAsk_36 : decode (mC M_X12_readAsk) 36 = .ok (.aload_n 0, 1) := by decide +kernel
theorem d_X12_readAsk_37 : decode (mC M_X12_readAsk) 37 = .ok (.invokevirtual 208, 3) := by decide +kernel
theorem d_X12_readAsk_40 : decode (mC M_X12_readAsk) 40 = .ok (.aload_n 0, 1) := by decide +kernel
theorem d_X12_readAsk_41 : decode (mC M_X12_readAsk) 41 = .ok (.getfield 73, 3) := by decide +kernel
theorem d_X12_readAsk_44 : decode (mC M_X12_readAsk) 44 = .ok (.iload_n 1, 1) := by decide +kernel
theorem d_X12_readAsk_45 : decode (mC M_X12_readAsk) 45 = .ok (.aload_n 0, 1) := by decide +kernel
theorem d_X12_readAsk_46 : decode (mC M_X12_readAsk) 46 = .ok (.iconst 0, 1) := by decide +kernel
theorem d_X12_readAsk_47 : decode (mC M_X12_readAsk) 47 = .ok (.bipush 19, 2) := by decide +kernel
theorem d_X12_readAsk_49 : decode (mC M_X12_readAsk) 49 = .ok (.invokevirtual 260, 3) := by decide +kernel
theorem d_X12_readAsk_52 : decode (mC M_X12_readAsk) 52 = .ok (.iastore, 1) := by decide +kernel
theorem d_X12_readAsk_53 : decode (mC M_X12_readAsk) 53 = .ok (.aload_n 0, 1) := by decide +kernel
theorem d_X12_readAsk_54 : decode (mC M_X12_readAsk) 54 = .ok (.ldc_w 280, 3) := by decide +kernel
theorem d_X12_readAsk_57 : decode (mC M_X12_readAsk) 57 = .ok (.invokevirtual 281, 3) := by decide +kernel
theorem d_X12_readAsk_60 : decode (mC M_X12_readAsk) 60 = .ok (.aload_n 0, 1) := by decide +kernel
theorem d_X12_readAsk_61 : decode (mC M_X12_readAsk) 61 = .ok (.getfield 76, 3) := by decide +kernel
theorem d_X12_readAsk_64 : decode (mC M_X12_readAsk) 64 = .ok (.iload_n 1, 1) := by decide +kernel
theorem d_X12_readAsk_65 : decode (mC M_X12_readAsk) 65 = .ok (.aload_n 0, 1) := by decide +kernel
theorem d_X12_readAsk_66 : decode (mC M_X12_readAsk) 66 = .ok (.iconst 0, 1) := by decide +kernel
theorem d_X12_readAsk_67 : decode (mC M_X12_readAsk) 67 = .ok (.sipush 1439, 3) := by decide +kernel
theorem d_X12_readAsk_70 : decode (mC M_X12_readAsk) 70 = .ok (.invokevirtual 260, 3) := by decide +kernel
theorem d_X12_readAsk_73 : decode (mC M_X12_readAsk) 73 = .ok (.iastore, 1) := by decide +kernel
theorem d_X12_readAsk_74 : decode (mC M_X12_readAsk) 74 = .ok (.aload_n 0, 1) := by decide +kernel
theorem d_X12_readAsk_75 : decode (mC M_X12_readAsk) 75 = .ok (.ldc_w 284, 3) := by decide +kernel
theorem d_X12_readAsk_78 : decode (mC M_X12_readAsk) 78 = .ok (.invokevirtual 281, 3) := by decide +kernel
theorem d_X12_readAsk_81 : decode (mC M_X12_readAsk) 81 = .ok (.aload_n 0, 1) := by decide +kernel
theorem d_X12_readAsk_82 : decode (mC M_X12_readAsk) 82 = .ok (.getfield 79, 3) := by decide +kernel
theorem d_X12_readAsk_85 : decode (mC M_X12_readAsk) 85 = .ok (.iload_n 1, 1) := by decide +kernel
theorem d_X12_readAsk_86 : decode (mC M_X12_readAsk) 86 = .ok (.aload_n 0, 1) := by decide +kernel
theorem d_X12_readAsk_87 : decode (mC M_X12_readAsk) 87 = .ok (.iconst 1, 1) := by decide +kernel
theorem d_X12_readAsk_88 : decode (mC M_X12_readAsk) 88 = .ok (.sipush 600, 3) := by decide +kernel
theorem d_X12_readAsk_91 : decode (mC M_X12_readAsk) 91 = .ok (.invokevirtual 260, 3) := by decide +kernel
theorem d_X12_readAsk_94 : decode (mC M_X12_readAsk) 94 = .ok (.iastore, 1) := by decide +kernel
theorem d_X12_readAsk_95 : decode (mC M_X12_readAsk) 95 = .ok (.aload_n 0, 1) := by decide +kernel
theorem d_X12_readAsk_96 : decode (mC M_X12_readAsk) 96 = .ok (.ldc_w 286, 3) := by decide +kernel
theorem d_X12_readAsk_99 : decode (mC M_X12_readAsk) 99 = .ok (.invokevirtual 281, 3) := by decide +kernel
theorem d_X12_readAsk_102 : decode (mC M_X12_readAsk) 102 = .ok (.aload_n 0, 1) := by decide +kernel
theorem d_X12_readAsk_103 : decode (mC M_X12_readAsk) 103 = .ok (.getfield 82, 3) := by decide +kernel
theorem d_X12_readAsk_106 : decode (mC M_X12_readAsk) 106 = .ok (.iload_n 1, 1) := by decide +kernel
theorem d_X12_readAsk_107 : decode (mC M_X12_readAsk) 107 = .ok (.aload_n 0, 1) := by decide +kernel
theorem d_X12_readAsk_108 : decode (mC M_X12_readAsk) 108 = .ok (.iconst 1, 1) := by decide +kernel
theorem d_X12_readAsk_109 : decode (mC M_X12_readAsk) 109 = .ok (.bipush 8, 2) := by decide +kernel
theorem d_X12_readAsk_111 : decode (mC M_X12_readAsk) 111 = .ok (.invokevirtual 260, 3) := by decide +kernel
theorem d_X12_readAsk_114 : decode (mC M_X12_readAsk) 114 = .ok (.iastore, 1) := by decide +kernel
theorem d_X12_readAsk_115 : decode (mC M_X12_readAsk) 115 = .ok (.aload_n 0, 1) := by decide +kernel
theorem d_X12_readAsk_116 : decode (mC M_X12_readAsk) 116 = .ok (.getfield 221, 3) := by decide +kernel
theorem d_X12_readAsk_119 : decode (mC M_X12_readAsk) 119 = .ok (.ifCond .ne 17, 3) := by decide +kernel
theorem d_X12_readAsk_122 : decode (mC M_X12_readAsk) 122 = .ok (.aload_n 0, 1) := by decide +kernel
theorem d_X12_readAsk_123 : decode (mC M_X12_readAsk) 123 = .ok (.bipush 58, 2) := by decide +kernel
theorem d_X12_readAsk_125 : decode (mC M_X12_readAsk) 125 = .ok (.invokevirtual 227, 3) := by decide +kernel
theorem d_X12_readAsk_128 : decode (mC M_X12_readAsk) 128 = .ok (.ifCond .ne 8, 3) := by decide +kernel
theorem d_X12_readAsk_131 : decode (mC M_X12_readAsk) 131 = .ok (.aload_n 0, 1) := by decide +kernel
theorem d_X12_readAsk_132 : decode (mC M_X12_readAsk) 132 = .ok (.iconst 1, 1) := by decide +kernel
theorem d_X12_readAsk_133 : decode (mC M_X12_readAsk) 133 = .ok (.invokevirtual 230, 3) := by decide +kernel
theorem d_X12_readAsk_136 : decode (mC M_X12_readAsk) 136 = .ok (.aload_n 0, 1) := by decide +kernel
theorem d_X12_readAsk_137 : decode (mC M_X12_readAsk) 137 = .ok (.getfield 221, 3) := by decide +kernel
theorem d_X12_readAsk_140 : decode (mC M_X12_readAsk) 140 = .ok (.ifCond .eq 4, 3) := by decide +kernel
theorem d_X12_readAsk_143 : decode (mC M_X12_readAsk) 143 = .ok (.return_, 1) := by decide +kernel
theorem d_X12_readAsk_144 : decode (mC M_X12_readAsk) 144 = .ok (.aload_n 0, 1) := by decide +kernel
theorem d_X12_readAsk_145 : decode (mC M_X12_readAsk) 145 = .ok (.getfield 85, 3) := by decide +kernel
theorem d_X12_readAsk_148 : decode (mC M_X12_readAsk) 148 = .ok (.iload_n 1, 1) := by decide +kernel
theorem d_X12_readAsk_149 : decode (mC M_X12_readAsk) 149 = .ok (.aload_n 0, 1) := by decide +kernel
theorem d_X12_readAsk_150 : decode (mC M_X12_readAsk) 150 = .ok (.getfield 186, 3) := by decide +kernel
theorem d_X12_readAsk_153 : decode (mC M_X12_readAsk) 153 = .ok (.iastore, 1) := by decide +kernel
theorem d_X12_readAsk_154 : decode (mC M_X12_readAsk) 154 = .ok (.aload_n 0, 1) := by decide +kernel
theorem d_X12_readAsk_155 : decode (mC M_X12_readAsk) 155 = .ok (.invokevirtual 208, 3) := by decide +kernel
theorem d_X12_readAsk_158 : decode (mC M_X12_readAsk) 158 = .ok (.aload_n 0, 1) := by decide +kernel
theorem d_X12_readAsk_159 : decode (mC M_X12_readAsk) 159 = .ok (.iconst 0, 1) := by decide +kernel
theorem d_X12_readAsk_160 : decode (mC M_X12_readAsk) 160 = .ok (.invokevirtual 250, 3) := by decide +kernel
theorem d_X12_readAsk_163 : decode (mC M_X12_readAsk) 163 = .ok (.pop, 1) := by decide +kernel
theorem d_X12_readAsk_164 : decode (mC M_X12_readAsk) 164 = .ok (.aload_n 0, 1) := by decide +kernel
theorem d_X12_readAsk_165 : decode (mC M_X12_readAsk) 165 = .ok (.bipush 59, 2) := by decide +kernel
theorem d_X12_readAsk_167 : decode (mC M_X12_readAsk) 167 = .ok (.invokevirtual 253, 3) := by decide +kernel
theorem d_X12_readAsk_170 : decode (mC M_X12_readAsk) 170 = .ok (.aload_n 0, 1) := by decide +kernel
theorem d_X12_readAsk_171 : decode (mC M_X12_readAsk) 171 = .ok (.dup, 1) := by decide +kernel
theorem d_X12_readAsk_172 : decode (mC M_X12_readAsk) 172 = .ok (.getfield 277, 3) := by decide +kernel
theorem d_X12_readAsk_175 : decode (mC M_X12_readAsk) 175 = .ok (.iconst 1, 1) := by decide +kernel
theorem d_X12_readAsk_176 : decode (mC M_X12_readAsk) 176 = .ok (.iadd, 1) := by decide +kernel
theorem d_X12_readAsk_177 : decode (mC M_X12_readAsk) 177 = .ok (.putfield 277, 3) := by decide +kernel
theorem d_X12_readAsk_180 : decode (mC M_X12_readAsk) 180 = .ok (.return_, 1) := by decide +kernel
theorem d_X12_readTerm_0 : decode (mC M_X12_readTerm) 0 = .ok (.aload_n 0, 1) := by decide +kernel
theorem d_X12_readTerm_1 : decode (mC M_X12_readTerm) 1 = .ok (.ldc_w 337, 3) := by decide +kernel
theorem d_X12_readTerm_4 : decode (mC M_X12_readTerm) 4 = .ok (.invokevirtual 234, 3) := by decide +kernel
theorem d_X12_readTerm_7 : decode (mC M_X12_readTerm) 7 = .ok (.ifCond .eq 7, 3) := by decide +kernel
theorem d_X12_readTerm_10 : decode (mC M_X12_readTerm) 10 = .ok (.iconst 0, 1) := by decide +kernel
theorem d_X12_readTerm_11 : decode (mC M_X12_readTerm) 11 = .ok (.goto 46, 3) := by decide +kernel
theorem d_X12_readTerm_14 : decode (mC M_X12_readTerm) 14 = .ok (.aload_n 0, 1) := by decide +kernel
theorem d_X12_readTerm_15 : decode (mC M_X12_readTerm) 15 = .ok (.ldc_w 339, 3) := by decide +kernel
theorem d_X12_readTerm_18 : decode (mC M_X12_readTerm) 18 = .ok (.invokevirtual 234, 3) := by decide +kernel
theorem d_X12_readTerm_21 : decode (mC M_X12_readTerm) 21 = .ok (.ifCond .eq 7, 3) := by decide +kernel
theorem d_X12_readTerm_24 : decode (mC M_X12_readTerm) 24 = .ok (.iconst 1, 1) := by decide +kernel
theorem d_X12_readTerm_25 : decode (mC M_X12_readTerm) 25 = .ok (.goto 32, 3) := by decide +kernel
theorem d_X12_readTerm_28 : decode (mC M_X12_readTerm) 28 = .ok (.aload_n 0, 1) := by decide +kernel
theorem d_X12_readTerm_29 : decode (mC M_X12_readTerm) 29 = .ok (.ldc_w 341, 3) := by decide +kernel
theorem d_X12_readTerm_32 : decode (mC M_X12_readTerm) 32 = .ok (.invokevirtual 234, 3) := by decide +kernel
theorem d_X12_readTerm_35 : decode (mC M_X12_readTerm) 35 = .ok (.ifCond .eq 7, 3) := by decide +kernel
theorem d_X12_readTerm_38 : decode (mC M_X12_readTerm) 38 = .ok (.iconst 2, 1) := by decide +kernel
theorem d_X12_readTerm_39 : decode (mC M_X12_readTerm) 39 = .ok (.goto 18, 3) := by decide +kernel
theorem d_X12_readTerm_42 : decode (mC M_X12_readTerm) 42 = .ok (.aload_n 0, 1) := by decide +kernel
theorem d_X12_readTerm_43 : decode (mC M_X12_readTerm) 43 = .ok (.ldc_w 343, 3) := by decide +kernel
theorem d_X12_readTerm_46 : decode (mC M_X12_readTerm) 46 = .ok (.invokevirtual 234, 3) := by decide +kernel
theorem d_X12_readTerm_49 : decode (mC M_X12_readTerm) 49 = .ok (.ifCond .eq 7, 3) := by decide +kernel
theorem d_X12_readTerm_52 : decode (mC M_X12_readTerm) 52 = .ok (.iconst 3, 1) := by decide +kernel
theorem d_X12_readTerm_53 : decode (mC M_X12_readTerm) 53 = .ok (.goto 4, 3) := by decide +kernel
theorem d_X12_readTerm_56 : decode (mC M_X12_readTerm) 56 = .ok (.iconst (-1), 1) := by decide +kernel
theorem d_X12_readTerm_57 : decode (mC M_X12_readTerm) 57 = .ok (.istore_n 1, 1) := by decide +kernel
theorem d_X12_readTerm_58 : decode (mC M_X12_readTerm) 58 = .ok (.iload_n 1, 1) := by decide +kernel
theorem d_X12_readTerm_59 : decode (mC M_X12_readTerm) 59 = .ok (.iconst (-1), 1) := by decide +kernel
theorem d_X12_readTerm_60 : decode (mC M_X12_readTerm) 60 = .ok (.if_icmp .ne 9, 3) := by decide +kernel
theorem d_X12_readTerm_63 : decode (mC M_X12_readTerm) 63 = .ok (.aload_n 0, 1) := by decide +kernel
theorem d_X12_readTerm_64 : decode (mC M_X12_readTerm) 64 = .ok (.iconst 1, 1) := by decide +kernel
theorem d_X12_readTerm_65 : decode (mC M_X12_readTerm) 65 = .ok (.invokevirtual 230, 3) := by decide +kernel
theorem d_X12_readTerm_68 : decode (mC M_X12_readTerm) 68 = .ok (.return_, 1) := by decide +kernel
theorem d_X12_readTerm_69 : decode (mC M_X12_readTerm) 69 = .ok (.aload_n 0, 1) := by decide +kernel
theorem d_X12_readTerm_70 : decode (mC M_X12_readTerm) 70 = .ok (.getfield 103, 3) := by decide +kernel
theorem d_X12_readTerm_73 : decode (mC M_X12_readTerm) 73 = .ok (.aload_n 0, 1) := by decide +kernel
theorem d_X12_readTerm_74 : decode (mC M_X12_readTerm) 74 = .ok (.getfield 345, 3) := by decide +kernel
theorem d_X12_readTerm_77 : decode (mC M_X12_readTerm) 77 = .ok (.iaload, 1) := by decide +kernel
theorem d_X12_readTerm_78 : decode (mC M_X12_readTerm) 78 = .ok (.bipush 8, 2) := by decide +kernel
theorem d_X12_readTerm_80 : decode (mC M_X12_readTerm) 80 = .ok (.if_icmp .ne 9, 3) := by decide +kernel
theorem d_X12_readTerm_83 : decode (mC M_X12_readTerm) 83 = .ok (.aload_n 0, 1) := by decide +kernel
theorem d_X12_readTerm_84 : decode (mC M_X12_readTerm) 84 = .ok (.iconst 2, 1) := by decide +kernel
theorem d_X12_readTerm_85 : decode (mC M_X12_readTerm) 85 = .ok (.invokevirtual 230, 3) := by decide +kernel
theorem d_X12_readTerm_88 : decode (mC M_X12_readTerm) 88 = .ok (.return_, 1) := by decide +kernel
theorem d_X12_readTerm_89 : decode (mC M_X12_readTerm) 89 = .ok (.bipush 8, 2) := by decide +kernel
theorem d_X12_readTerm_91 : decode (mC M_X12_readTerm) 91 = .ok (.aload_n 0, 1) := by decide +kernel
theorem d_X12_readTerm_92 : decode (mC M_X12_readTerm) 92 = .ok (.getfield 345, 3) := by decide +kernel
theorem d_X12_readTerm_95 : decode (mC M_X12_readTerm) 95 = .ok (.imul, 1) := by decide +kernel
theorem d_X12_readTerm_96 : decode (mC M_X12_readTerm) 96 = .ok (.aload_n 0, 1) := by decide +kernel
theorem d_X12_readTerm_97 : decode (mC M_X12_readTerm) 97 = .ok (.getfield 103, 3) := by decide +kernel
theorem d_X12_readTerm_100 : decode (mC M_X12_readTerm) 100 = .ok (.aload_n 0, 1) := by decide +kernel
theorem d_X12_readTerm_101 : decode (mC M_X12_readTerm) 101 = .ok (.getfield 345, 3) := by decide +kernel
theorem d_X12_readTerm_104 : decode (mC M_X12_readTerm) 104 = .ok (.iaload, 1) := by decide +kernel
theorem d_X12_readTerm_105 : decode (mC M_X12_readTerm) 105 = .ok (.iadd, 1) := by decide +kernel
theorem d_X12_readTerm_106 : decode (mC M_X12_readTerm) 106 = .ok (.istore_n 2, 1) := by decide +kernel
theorem d_X12_readTerm_107 : decode (mC M_X12_readTerm) 107 = .ok (.aload_n 0, 1) := by decide +kernel
theorem d_X12_readTerm_108 : decode (mC M_X12_readTerm) 108 = .ok (.invokevirtual 208, 3) := by decide +kernel
theorem d_X12_readTerm_111 : decode (mC M_X12_readTerm) 111 = .ok (.aload_n 0, 1) := by decide +kernel
theorem d_X12_readTerm_112 : decode (mC M_X12_readTerm) 112 = .ok (.getfield 106, 3) := by decide +kernel
theorem d_X12_readTerm_115 : decode (mC M_X12_readTerm) 115 = .ok (.iload_n 2, 1) := by decide +kernel
theorem d_X12_readTerm_116 : decode (mC M_X12_readTerm) 116 = .ok (.iload_n 1, 1) := by decide +kernel
theorem d_X12_readTerm_117 : decode (mC M_X12_readTerm) 117 = .ok (.iastore, 1) := by decide +kernel
theorem d_X12_readTerm_118 : decode (mC M_X12_readTerm) 118 = .ok (.aload_n 0, 1) := by decide +kernel
theorem d_X12_readTerm_119 : decode (mC M_X12_readTerm) 119 = .ok (.getfield 109, 3) := by decide +kernel
theorem d_X12_readTerm_122 : decode (mC M_X12_readTerm) 122 = .ok (.iload_n 2, 1) := by decide +kernel
theorem d_X12_readTerm_123 : decode (mC M_X12_readTerm) 123 = .ok (.iconst 0, 1) := by decide +kernel
theorem d_X12_readTerm_124 : decode (mC M_X12_readTerm) 124 = .ok (.iastore, 1) := by decide +kernel
theorem d_X12_readTerm_125 : decode (mC M_X12_readTerm) 125 = .ok (.aload_n 0, 1) := by decide +kernel
theorem d_X12_readTerm_126 : decode (mC M_X12_readTerm) 126 = .ok (.getfield 115, 3) := by decide +kernel
theorem d_X12_readTerm_129 : decode (mC M_X12_readTerm) 129 = .ok (.iload_n 2, 1) := by decide +kernel
theorem d_X12_readTerm_130 : decode (mC M_X12_readTerm) 130 = .ok (.iconst 0, 1) := by decide +kernel
theorem d_X12_readTerm_131 : decode (mC M_X12_readTerm) 131 = .ok (.bastore, 1) := by decide +kernel
theorem d_X12_readTerm_132 : decode (mC M_X12_readTerm) 132 = .ok (.iload_n 1, 1) := by decide +kernel
theorem d_X12_readTerm_133 : decode (mC M_X12_readTerm) 133 = .ok (.ifCond .le 24, 3) := by decide +kernel
theorem d_X12_readTerm_136 : decode (mC M_X12_readTerm) 136 = .ok (.aload_n 0, 1) := by decide +kernel
theorem d_X12_readTerm_137 : decode (mC M_X12_readTerm) 137 = .ok (.getfield 109, 3) := by decide +kernel
theorem d_X12_readTerm_140 : decode (mC M_X12_readTerm) 140 = .ok (.iload_n 2, 1) := by decide +kernel
theorem d_X12_readTerm_141 : decode (mC M_X12_readTerm) 141 = .ok (.aload_n 0, 1) := by decide +kernel
theorem d_X12_readTerm_142 : decode (mC M_X12_readTerm) 142 = .ok (.iconst 0, 1) := by decide +kernel
theorem d_X12_readTerm_143 : decode (mC M_X12_readTerm) 143 = .ok (.ldc_w 275, 3) := by decide +kernel
theorem d_X12_readTerm_146 : decode (mC M_X12_readTerm) 146 = .ok (.invokevirtual 260, 3) := by decide +kernel
theorem d_X12_readTerm_149 : decode (mC M_X12_readTerm) 149 = .ok (.iastore, 1) := by decide +kernel
theorem d_X12_readTerm_150 : decode (mC M_X12_readTerm) 150 = .ok (.aload_n 0, 1) := by decide +kernel
theorem d_X12_readTerm_151 : decode (mC M_X12_readTerm) 151 = .ok (.ldc_w 348, 3) := by decide +kernel
theorem d_X12_readTerm_154 : decode (mC M_X12_readTerm) 154 = .ok (.invokevirtual 281, 3) := by decide +kernel
theorem d_X12_readTerm_157 : decode (mC M_X12_readTerm) 157 = .ok (.aload_n 0, 1) := by decide +kernel
theorem d_X12_readTerm_158 : decode (mC M_X12_readTerm) 158 = .ok (.getfield 112, 3) := by decide +kernel
theorem d_X12_readTerm_161 : decode (mC M_X12_readTerm) 161 = .ok (.iload_n 2, 1) := by decide +kernel
theorem d_X12_readTerm_162 : decode (mC M_X12_readTerm) 162 = .ok (.aload_n 0, 1) := by decide +kernel
theorem d_X12_readTerm_163 : decode (mC M_X12_readTerm) 163 = .ok (.iconst 0, 1) := by decide +kernel
theorem d_X12_readTerm_164 : decode (mC M_X12_readTerm) 164 = .ok (.ldc_w 275, 3) := by decide +kernel
theorem d_X12_readTerm_167 : decode (mC M_X12_readTerm) 167 = .ok (.invokevirtual 260, 3) := by decide +kernel
theorem d_X12_readTerm_170 : decode (mC M_X12_readTerm) 170 = .ok (.iastore, 1) := by decide +kernel
theorem d_X12_readTerm_171 : decode (mC M_X12_readTerm) 171 = .ok (.iload_n 1, 1) := by decide +kernel
theorem d_X12_readTerm_172 : decode (mC M_X12_readTerm) 172 = .ok (.ifCond .le 54, 3) := by decide +kernel
theorem d_X12_readTerm_175 : decode (mC M_X12_readTerm) 175 = .ok (.aload_n 0, 1) := by decide +kernel
theorem d_X12_readTerm_176 : decode (mC M_X12_readTerm) 176 = .ok (.getfield 221, 3) := by decide +kernel
theorem d_X12_readTerm_179 : decode (mC M_X12_readTerm) 179 = .ok (.ifCond .ne 47, 3) := by decide +kernel
theorem d_X12_readTerm_182 : decode (mC M_X12_readTerm) 182 = .ok (.aload_n 0, 1) := by decide +kernel
theorem d_X12_readTerm_183 : decode (mC M_X12_readTerm) 183 = .ok (.getfield 115, 3) := by decide +kernel
theorem d_X12_readTerm_186 : decode (mC M_X12_readTerm) 186 = .ok (.iload_n 2, 1) := by decide +kernel
theorem d_X12_readTerm_187 : decode (mC M_X12_readTerm) 187 = .ok (.aload_n 0, 1) := by decide +kernel
theorem d_X12_readTerm_188 : decode (mC M_X12_readTerm) 188 = .ok (.ldc_w 350, 3) := by decide +kernel
theorem d_X12_readTerm_191 : decode (mC M_X12_readTerm) 191 = .ok (.invokevirtual 234, 3) := by decide +kernel
theorem d_X12_readTerm_194 : decode (mC M_X12_readTerm) 194 = .ok (.bastore, 1) := by decide +kernel
theorem d_X12_readTerm_195 : decode (mC M_X12_readTerm) 195 = .ok (.aload_n 0, 1) := by decide +kernel
theorem d_X12_readTerm_196 : decode (mC M_X12_readTerm) 196 = .ok (.getfield 115, 3) := by decide +kernel
theorem d_X12_readTerm_199 : decode (mC M_X12_readTerm) 199 = .ok (.iload_n 2, 1) := by decide +kernel
theorem d_X12_readTerm_200 : decode (mC M_X12_readTerm) 200 = .ok (.baload, 1) := by decide +kernel
theorem d_X12_readTerm_201 : decode (mC M_X12_readTerm) 201 = .ok (.ifCond .ne 21, 3) := by decide +kernel
theorem d_X12_readTerm_204 : decode (mC M_X12_readTerm) 204 = .ok (.aload_n 0, 1) := by decide +kernel
theorem d_X12_readTerm_205 : decode (mC M_X12_readTerm) 205 = .ok (.ldc_w 352, 3) := by decide +kernel
theorem d_X12_readTerm_208 : decode (mC M_X12_readTerm) 208 = .ok (.invokevirtual 234, 3) := by decide +kernel
theorem d_X12_readTerm_211 : decode (mC M_X12_readTerm) 211 = .ok (.ifCond .ne 11, 3) := by decide +kernel
theorem d_X12_readTerm_214 : decode (mC M_X12_readTerm) 214 = .ok (.aload_n 0, 1) := by decide +kernel
theorem d_X12_readTerm_215 : decode (mC M_X12_readTerm) 215 = .ok (.iconst 1, 1) := by decide +kernel
theorem d_X12_readTerm_216 : decode (mC M_X12_readTerm) 216 = .ok (.invokevirtual 230, 3) := by decide +kernel
theorem d_X12_readTerm_219 : decode (mC M_X12_readTerm) 219 = .ok (.goto 7, 3) := by decide +kernel
theorem d_X12_readTerm_222 : decode (mC M_X12_readTerm) 222 = .ok (.aload_n 0, 1) := by decide +kernel
theorem d_X12_readTerm_223 : decode (mC M_X12_readTerm) 223 = .ok (.invokevirtual 208, 3) := by decide +kernel
theorem d_X12_readTerm_226 : decode (mC M_X12_readTerm) 226 = .ok (.aload_n 0, 1) := by decide +kernel
theorem d_X12_readTerm_227 : decode (mC M_X12_readTerm) 227 = .ok (.bipush 59, 2) := by decide +kernel
theorem d_X12_readTerm_229 : decode (mC M_X12_readTerm) 229 = .ok (.invokevirtual 253, 3) := by decide +kernel
theorem d_X12_readTerm_232 : decode (mC M_X12_readTerm) 232 = .ok (.aload_n 0, 1) := by decide +kernel
theorem d_X12_readTerm_233 : decode (mC M_X12_readTerm) 233 = .ok (.getfield 103, 3) := by decide +kernel
theorem d_X12_readTerm_236 : decode (mC M_X12_readTerm) 236 = .ok (.aload_n 0, 1) := by decide +kernel
theorem d_X12_readTerm_237 : decode (mC M_X12_readTerm) 237 = .ok (.getfield 345, 3) := by decide +kernel
theorem d_X12_readTerm_240 : decode (mC M_X12_readTerm) 240 = .ok (.dup2, 1) := by decide +kernel
theorem d_X12_readTerm_241 : decode (mC M_X12_readTerm) 241 = .ok (.iaload, 1) := by decide +kernel
theorem d_X12_readTerm_242 : decode (mC M_X12_readTerm) 242 = .ok (.iconst 1, 1) := by decide +kernel
theorem d_X12_readTerm_243 : decode (mC M_X12_readTerm) 243 = .ok (.iadd, 1) := by decide +kernel
theorem d_X12_readTerm_244 : decode (mC M_X12_readTerm) 244 = .ok (.iastore, 1) := by decide +kernel
theorem d_X12_readTerm_245 : decode (mC M_X12_readTerm) 245 = .ok (.return_, 1) := by decide +kernel
theorem d_X12_reckons_0 : decode (mC M_X12_reckons) 0 = .ok (.iconst 0, 1) := by decide +kernel
theorem d_X12_reckons_1 : decode (mC M_X12_reckons) 1 = .ok (.istore_n 1, 1) := by decide +kernel
theorem d_X12_reckons_2 : decode (mC M_X12_reckons) 2 = .ok (.iload_n 1, 1) := by decide +kernel
theorem d_X12_reckons_3 : decode (mC M_X12_reckons) 3 = .ok (.aload_n 0, 1) := by decide +kernel
theorem d_X12_reckons_4 : decode (mC M_X12_reckons) 4 = .ok (.getfield 151, 3) := by decide +kernel
theorem d_X12_reckons_7 : decode (mC M_X12_reckons) 7 = .ok (.if_icmp .ge 53, 3) := by decide +kernel
theorem d_X12_reckons_10 : decode (mC M_X12_reckons) 10 = .ok (.aload_n 0, 1) := by decide +kernel
theorem d_X12_reckons_11 : decode (mC M_X12_reckons) 11 = .ok (.getfield 88, 3) := by decide +kernel
theorem d_X12_reckons_14 : decode (mC M_X12_reckons) 14 = .ok (.iload_n 1, 1) := by decide +kernel
theorem d_X12_reckons_15 : decode (mC M_X12_reckons) 15 = .ok (.iconst 0, 1) := by decide +kernel
theorem d_X12_reckons_16 : decode (mC M_X12_reckons) 16 = .ok (.iastore, 1) := by decide +kernel
theorem d_X12_reckons_17 : decode (mC M_X12_reckons) 17 = .ok (.iconst 0, 1) := by decide +kernel
theorem d_X12_reckons_18 : decode (mC M_X12_reckons) 18 = .ok (.istore_n 2, 1) := by decide +kernel
theorem d_X12_reckons_19 : decode (mC M_X12_reckons) 19 = .ok (.iload_n 2, 1) := by decide +kernel
theorem d_X12_reckons_20 : decode (mC M_X12_reckons) 20 = .ok (.aload_n 0, 1) := by decide +kernel
theorem d_X12_reckons_21 : decode (mC M_X12_reckons) 21 = .ok (.getfield 298, 3) := by decide +kernel
theorem d_X12_reckons_24 : decode (mC M_X12_reckons) 24 = .ok (.if_icmp .ge 30, 3) := by decide +kernel
theorem d_X12_reckons_27 : decode (mC M_X12_reckons) 27 = .ok (.aload_n 0, 1) := by decide +kernel
theorem d_X12_reckons_28 : decode (mC M_X12_reckons) 28 = .ok (.iload_n 1, 1) := by decide +kernel
theorem d_X12_reckons_29 : decode (mC M_X12_reckons) 29 = .ok (.iload_n 2, 1) := by decide +kernel
theorem d_X12_reckons_30 : decode (mC M_X12_reckons) 30 = .ok (.invokevirtual 314, 3) := by decide +kernel
theorem d_X12_reckons_33 : decode (mC M_X12_reckons) 33 = .ok (.ifCond .eq 15, 3) := by decide +kernel
theorem d_X12_reckons_36 : decode (mC M_X12_reckons) 36 = .ok (.aload_n 0, 1) := by decide +kernel
theorem d_X12_reckons_37 : decode (mC M_X12_reckons) 37 = .ok (.getfield 88, 3) := by decide +kernel
theorem d_X12_reckons_40 : decode (mC M_X12_reckons) 40 = .ok (.iload_n 1, 1) := by decide +kernel
theorem d_X12_reckons_41 : decode (mC M_X12_reckons) 41 = .ok (.dup2, 1) := by decide +kernel
theorem d_X12_reckons_42 : decode (mC M_X12_reckons) 42 = .ok (.iaload, 1) := by decide +kernel
theorem d_X12_reckons_43 : decode (mC M_X12_reckons) 43 = .ok (.iconst 1, 1) := by decide +kernel
theorem d_X12_reckons_44 : decode (mC M_X12_reckons) 44 = .ok (.iload_n 2, 1) := by decide +kernel
theorem d_X12_reckons_45 : decode (mC M_X12_reckons) 45 = .ok (.ishl, 1) := by decide +kernel
theorem d_X12_reckons_46 : decode (mC M_X12_reckons) 46 = .ok (.ior, 1) := by decide +kernel
theorem d_X12_reckons_47 : decode (mC M_X12_reckons) 47 = .ok (.iastore, 1) := by decide +kernel
theorem d_X12_reckons_48 : decode (mC M_X12_reckons) 48 = .ok (.iinc 2 1, 3) := by decide +kernel
theorem d_X12_reckons_51 : decode (mC M_X12_reckons) 51 = .ok (.goto (-32), 3) := by decide +kernel
theorem d_X12_reckons_54 : decode (mC M_X12_reckons) 54 = .ok (.iinc 1 1, 3) := by decide +kernel
theorem d_X12_reckons_57 : decode (mC M_X12_reckons) 57 = .ok (.goto (-55), 3) := by decide +kernel
theorem d_X12_reckons_60 : decode (mC M_X12_reckons) 60 = .ok (.return_, 1) := by decide +kernel
theorem d_X12_record_0 : decode (mC M_X12_record) 0 = .ok (.aload_n 0, 1) := by decide +kernel
theorem d_X12_record_1 : decode (mC M_X12_record) 1 = .ok (.iconst 0, 1) := by decide +kernel
theorem d_X12_record_2 : decode (mC M_X12_record) 2 = .ok (.putfield 1, 3) := by decide +kernel
theorem d_X12_record_5 : decode (mC M_X12_record) 5 = .ok (.aload_n 0, 1) := by decide +kernel
theorem d_X12_record_6 : decode (mC M_X12_record) 6 = .ok (.iload_n 1, 1) := by decide +kernel
theorem d_X12_record_7 : decode (mC M_X12_record) 7 = .ok (.iload_n 2, 1) := by decide +kernel
theorem d_X12_record_8 : decode (mC M_X12_record) 8 = .ok (.invokevirtual 378, 3) := by decide +kernel
theorem d_X12_record_11 : decode (mC M_X12_record) 11 = .ok (.ifCond .ne 5, 3) := by decide +kernel
theorem d_X12_record_14 : decode (mC M_X12_record) 14 = .ok (.iconst (-1), 1) := by decide +kernel
theorem d_X12_record_15 : decode (mC M_X12_record) 15 = .ok (.ireturn, 1) := by decide +kernel
theorem d_X12_record_16 : decode (mC M_X12_record) 16 = .ok (.bipush 40, 2) := by decide +kernel
theorem d_X12_record_18 : decode (mC M_X12_record) 18 = .ok (.iload_n 2, 1) := by decide +kernel
theorem d_X12_record_19 : decode (mC M_X12_record) 19 = .ok (.imul, 1) := by decide +kernel
theorem d_X12_record_20 : decode (mC M_X12_record) 20 = .ok (.iload_n 1, 1) := by decide +kernel
theorem d_X12_record_21 : decode (mC M_X12_record) 21 = .ok (.iadd, 1) := by decide +kernel
theorem d_X12_record_22 : decode (mC M_X12_record) 22 = .ok (.istore 4, 2) := by decide +kernel
theorem d_X12_record_24 : decode (mC M_X12_record) 24 = .ok (.iload_n 3, 1) := by decide +kernel
theorem d_X12_record_25 : decode (mC M_X12_record) 25 = .ok (.tableswitch 117 0 6 #[43, 51, 59, 67, 75, 83, 91], 43) := by decide +kernel
theorem d_X12_record_68 : decode (mC M_X12_record) 68 = .ok (.aload_n 0, 1) := by decide +kernel
theorem d_X12_record_69 : decode (mC M_X12_record) 69 = .ok (.getfield 118, 3) := by decide +kernel
theorem d_X12_record_72 : decode (mC M_X12_record) 72 = .ok (.iload 4, 2) := by decide +kernel
theorem d_X12_record_74 : decode (mC M_X12_record) 74 = .ok (.iaload, 1) := by decide +kernel
theorem d_X12_record_75 : decode (mC M_X12_record) 75 = .ok (.ireturn, 1) := by decide +kernel
theorem d_X12_record_76 : decode (mC M_X12_record) 76 = .ok (.aload_n 0, 1) := by decide +kernel
theorem d_X12_record_77 : decode (mC M_X12_record) 77 = .ok (.getfield 121, 3) := by decide +kernel
theorem d_X12_record_80 : decode (mC M_X12_record) 80 = .ok (.iload 4, 2) := by decide +kernel
theorem d_X12_record_82 : decode (mC M_X12_record) 82 = .ok (.iaload, 1) := by decide +kernel
theorem d_X12_record_83 : decode (mC M_X12_record) 83 = .ok (.ireturn, 1) := by decide +kernel
theorem d_X12_record_84 : decode (mC M_X12_record) 84 = .ok (.aload_n 0, 1) := by decide +kernel
theorem d_X12_record_85 : decode (mC M_X12_record) 85 = .ok (.getfield 124, 3) := by decide +kernel
theorem d_X12_record_88 : decode (mC M_X12_record) 88 = .ok (.iload 4, 2) := by decide +kernel
theorem d_X12_record_90 : decode (mC M_X12_record) 90 = .ok (.iaload, 1) := by decide +kernel
theorem d_X12_record_91 : decode (mC M_X12_record) 91 = .ok (.ireturn, 1) := by decide +kernel
theorem d_X12_record_92 : decode (mC M_X12_record) 92 = .ok (.aload_n 0, 1) := by decide +kernel
theorem d_X12_record_93 : decode (mC M_X12_record) 93 = .ok (.getfield 127, 3) := by decide +kernel
theorem d_X12_record_96 : decode (mC M_X12_record) 96 = .ok (.iload 4, 2) := by decide +kernel
theorem d_X12_record_98 : decode (mC M_X12_record) 98 = .ok (.iaload, 1) := by decide +kernel
theorem d_X12_record_99 : decode (mC M_X12_record) 99 = .ok (.ireturn, 1) := by decide +kernel
theorem d_X12_record_100 : decode (mC M_X12_record) 100 = .ok (.aload_n 0, 1) := by decide +kernel
theorem d_X12_record_101 : decode (mC M_X12_record) 101 = .ok (.getfield 130, 3) := by decide +kernel
theorem d_X12_record_104 : decode (mC M_X12_record) 104 = .ok (.iload 4, 2) := by decide +kernel
theorem d_X12_record_106 : decode (mC M_X12_record) 106 = .ok (.iaload, 1) := by decide +kernel
theorem d_X12_record_107 : decode (mC M_X12_record) 107 = .ok (.ireturn, 1) := by decide +kernel
theorem d_X12_record_108 : decode (mC M_X12_record) 108 = .ok (.aload_n 0, 1) := by decide +kernel
theorem d_X12_record_109 : decode (mC M_X12_record) 109 = .ok (.getfield 133, 3) := by decide +kernel
theorem d_X12_record_112 : decode (mC M_X12_record) 112 = .ok (.iload 4, 2) := by decide +kernel
theorem d_X12_record_114 : decode (mC M_X12_record) 114 = .ok (.iaload, 1) := by decide +kernel
theorem d_X12_record_115 : decode (mC M_X12_record) 115 = .ok (.ireturn, 1) := by decide +kernel
theorem d_X12_record_116 : decode (mC M_X12_record) 116 = .ok (.aload_n 0, 1) := by decide +kernel
theorem d_X12_record_117 : decode (mC M_X12_record) 117 = .ok (.aload_n 0, 1) := by decide +kernel
theorem d_X12_record_118 : decode (mC M_X12_record) 118 = .ok (.getfield 133, 3) := by decide +kernel
theorem d_X12_record_121 : decode (mC M_X12_record) 121 = .ok (.iload 4, 2) := by decide +kernel
theorem d_X12_record_123 : decode (mC M_X12_record) 123 = .ok (.iaload, 1) := by decide +kernel
theorem d_X12_record_124 : decode (mC M_X12_record) 124 = .ok (.aload_n 0, 1) := by decide +kernel
theorem d_X12_record_125 : decode (mC M_X12_record) 125 = .ok (.getfield 121, 3) := by decide +kernel
theorem d_X12_record_128 : decode (mC M_X12_record) 128 = .ok (.iload 4, 2) := by decide +kernel
theorem d_X12_record_130 : decode (mC M_X12_record) 130 = .ok (.iaload, 1) := by decide +kernel
theorem d_X12_record_131 : decode (mC M_X12_record) 131 = .ok (.aload_n 0, 1) := by decide +kernel
theorem d_X12_record_132 : decode (mC M_X12_record) 132 = .ok (.getfield 130, 3) := by decide +kernel
theorem d_X12_record_135 : decode (mC M_X12_record) 135 = .ok (.iload 4, 2) := by decide +kernel
theorem d_X12_record_137 : decode (mC M_X12_record) 137 = .ok (.iaload, 1) := by decide +kernel
theorem d_X12_record_138 : decode (mC M_X12_record) 138 = .ok (.invokevirtual 381, 3) := by decide +kernel
theorem d_X12_record_141 : decode (mC M_X12_record) 141 = .ok (.ireturn, 1) := by decide +kernel
theorem d_X12_record_142 : decode (mC M_X12_record) 142 = .ok (.iconst (-1), 1) := by decide +kernel
theorem d_X12_record_143 : decode (mC M_X12_record) 143 = .ok (.ireturn, 1) := by decide +kernel
theorem d_X12_retake_0 : decode (mC M_X12_retake) 0 = .ok (.aload_n 0, 1) := by decide +kernel
theorem d_X12_retake_1 : decode (mC M_X12_retake) 1 = .ok (.iconst 0, 1) := by decide +kernel
theorem d_X12_retake_2 : decode (mC M_X12_retake) 2 = .ok (.putfield 1, 3) := by decide +kernel
theorem d_X12_retake_5 : decode (mC M_X12_retake) 5 = .ok (.iload_n 1, 1) := by decide +kernel
theorem d_X12_retake_6 : decode (mC M_X12_retake) 6 = .ok (.iconst 0, 1) := by decide +kernel
theorem d_X12_retake_7 : decode (mC M_X12_retake) 7 = .ok (.bipush 19, 2) := by decide +kernel
theorem d_X12_retake_9 : decode (mC M_X12_retake) 9 = .ok (.invokestatic 154, 3) := by decide +kernel
theorem d_X12_retake_12 : decode (mC M_X12_retake) 12 = .ok (.ifCond .eq 14, 3) := by decide +kernel
theorem d_X12_retake_15 : decode (mC M_X12_retake) 15 = .ok (.iload_n 2, 1) := by decide +kernel
theorem d_X12_retake_16 : decode (mC M_X12_retake) 16 = .ok (.iconst 0, 1) := by decide +kernel
theorem d_X12_retake_17 : decode (mC M_X12_retake) 17 = .ok (.sipush 1439, 3) := by decide +kernel
theorem d_X12_retake_20 : decode (mC M_X12_retake) 20 = .ok (.invokestatic 154, 3) := by decide +kernel
theorem d_X12_retake_23 : decode (mC M_X12_retake) 23 = .ok (.ifCond .ne 5, 3) := by decide +kernel
theorem d_X12_retake_26 : decode (mC M_X12_retake) 26 = .ok (.iconst (-1), 1) := by decide +kernel
theorem d_X12_retake_27 : decode (mC M_X12_retake) 27 = .ok (.ireturn, 1) := by decide +kernel
theorem d_X12_retake_28 : decode (mC M_X12_retake) 28 = .ok (.aload_n 0, 1) := by decide +kernel
theorem d_X12_retake_29 : decode (mC M_X12_retake) 29 = .ok (.iconst 0, 1) := by decide +kernel
theorem d_X12_retake_30 : decode (mC M_X12_retake) 30 = .ok (.putfield 384, 3) := by decide +kernel
theorem d_X12_retake_33 : decode (mC M_X12_retake) 33 = .ok (.iconst 0, 1) := by decide +kernel
theorem d_X12_retake_34 : decode (mC M_X12_retake) 34 = .ok (.istore_n 3, 1) := by decide +kernel
theorem d_X12_retake_35 : decode (mC M_X12_retake) 35 = .ok (.iload_n 3, 1) := by decide +kernel
theorem d_X12_retake_36 : decode (mC M_X12_retake) 36 = .ok (.aload_n 0, 1) := by decide +kernel
theorem d_X12_retake_37 : decode (mC M_X12_retake) 37 = .ok (.getfield 151, 3) := by decide +kernel
theorem d_X12_retake_40 : decode (mC M_X12_retake) 40 = .ok (.if_icmp .ge 73, 3) := by decide +kernel
theorem d_X12_retake_43 : decode (mC M_X12_retake) 43 = .ok (.aload_n 0, 1) := by decide +kernel
theorem d_X12_retake_44 : decode (mC M_X12_retake) 44 = .ok (.iload_n 3, 1) := by decide +kernel
theorem d_X12_retake_45 : decode (mC M_X12_retake) 45 = .ok (.iload_n 1, 1) := by decide +kernel
theorem d_X12_retake_46 : decode (mC M_X12_retake) 46 = .ok (.aload_n 0, 1) := by decide +kernel
theorem d_X12_retake_47 : decode (mC M_X12_retake) 47 = .ok (.getfield 163, 3) := by decide +kernel
theorem d_X12_retake_50 : decode (mC M_X12_retake) 50 = .ok (.invokevirtual 173, 3) := by decide +kernel
theorem d_X12_retake_53 : decode (mC M_X12_retake) 53 = .ok (.ifCond .eq 54, 3) := by decide +kernel
theorem d_X12_retake_56 : decode (mC M_X12_retake) 56 = .ok (.aload_n 0, 1) := by decide +kernel
theorem d_X12_retake_57 : decode (mC M_X12_retake) 57 = .ok (.getfield 29, 3) := by decide +kernel
theorem d_X12_retake_60 : decode (mC M_X12_retake) 60 = .ok (.iload_n 3, 1) := by decide +kernel
theorem d_X12_retake_61 : decode (mC M_X12_retake) 61 = .ok (.baload, 1) := by decide +kernel
theorem d_X12_retake_62 : decode (mC M_X12_retake) 62 = .ok (.ifCond .ne 25, 3) := by decide +kernel
theorem d_X12_retake_65 : decode (mC M_X12_retake) 65 = .ok (.aload_n 0, 1) := by decide +kernel
theorem d_X12_retake_66 : decode (mC M_X12_retake) 66 = .ok (.getfield 36, 3) := by decide +kernel
theorem d_X12_retake_69 : decode (mC M_X12_retake) 69 = .ok (.iload_n 3, 1) := by decide +kernel
theorem d_X12_retake_70 : decode (mC M_X12_retake) 70 = .ok (.iaload, 1) := by decide +kernel
theorem d_X12_retake_71 : decode (mC M_X12_retake) 71 = .ok (.sipush 1440, 3) := by decide +kernel
theorem d_X12_retake_74 : decode (mC M_X12_retake) 74 = .ok (.aload_n 0, 1) := by decide +kernel
theorem d_X12_retake_75 : decode (mC M_X12_retake) 75 = .ok (.getfield 304, 3) := by decide +kernel
theorem d_X12_retake_78 : decode (mC M_X12_retake) 78 = .ok (.imul, 1) := by decide +kernel
theorem d_X12_retake_79 : decode (mC M_X12_retake) 79 = .ok (.iload_n 2, 1) := by decide +kernel
theorem d_X12_retake_80 : decode (mC M_X12_retake) 80 = .ok (.iadd, 1) := by decide +kernel
theorem d_X12_retake_81 : decode (mC M_X12_retake) 81 = .ok (.if_icmp .gt 6, 3) := by decide +kernel
theorem d_X12_retake_84 : decode (mC M_X12_retake) 84 = .ok (.goto 23, 3) := by decide +kernel
theorem d_X12_retake_87 : decode (mC M_X12_retake) 87 = .ok (.aload_n 0, 1) := by decide +kernel
theorem d_X12_retake_88 : decode (mC M_X12_retake) 88 = .ok (.getfield 148, 3) := by decide +kernel
theorem d_X12_retake_91 : decode (mC M_X12_retake) 91 = .ok (.aload_n 0, 1) := by decide +kernel
theorem d_X12_retake_92 : decode (mC M_X12_retake) 92 = .ok (.getfield 384, 3) := by decide +kernel
theorem d_X12_retake_95 : decode (mC M_X12_retake) 95 = .ok (.iload_n 3, 1) := by decide +kernel
theorem d_X12_retake_96 : decode (mC M_X12_retake) 96 = .ok (.iastore, 1) := by decide +kernel
theorem d_X12_retake_97 : decode (mC M_X12_retake) 97 = .ok (.aload_n 0, 1) := by decide +kernel
theorem d_X12_retake_98 : decode (mC M_X12_retake) 98 = .ok (.dup, 1) := by decide +kernel
theorem d_X12_retake_99 : decode (mC M_X12_retake) 99 = .ok (.getfield 384, 3) := by decide +kernel
theorem d_X12_retake_102 : decode (mC M_X12_retake) 102 = .ok (.iconst 1, 1) := by decide +kernel
theorem d_X12_retake_103 : decode (mC M_X12_retake) 103 = .ok (.iadd, 1) := by decide +kernel
theorem d_X12_retake_104 : decode (mC M_X12_retake) 104 = .ok (.putfield 384, 3) := by decide +kernel
theorem d_X12_retake_107 : decode (mC M_X12_retake) 107 = .ok (.iinc 3 1, 3) := by decide +kernel
theorem d_X12_retake_110 : decode (mC M_X12_retake) 110 = .ok (.goto (-75), 3) := by decide +kernel
theorem d_X12_retake_113 : decode (mC M_X12_retake) 113 = .ok (.aload_n 0, 1) := by decide +kernel
theorem d_X12_retake_114 : decode (mC M_X12_retake) 114 = .ok (.getfield 384, 3) := by decide +kernel
theorem d_X12_retake_117 : decode (mC M_X12_retake) 117 = .ok (.ireturn, 1) := by decide +kernel
theorem d_X12_see_0 : decode (mC M_X12_see) 0 = .ok (.iload_n 1, 1) := by decide +kernel
theorem d_X12_see_1 : decode (mC M_X12_see) 1 = .ok (.aload_n 0, 1) := by decide +kernel
theorem d_X12_see_2 : decode (mC M_X12_see) 2 = .ok (.getfield 180, 3) := by decide +kernel
theorem d_X12_see_5 : decode (mC M_X12_see) 5 = .ok (.if_icmp .ge 12, 3) := by decide +kernel
theorem d_X12_see_8 : decode (mC M_X12_see) 8 = .ok (.aload_n 0, 1) := by decide +kernel
theorem d_X12_see_9 : decode (mC M_X12_see) 9 = .ok (.getfield 183, 3) := by decide +kernel
theorem d_X12_see_12 : decode (mC M_X12_see) 12 = .ok (.iload_n 1, 1) := by decide +kernel
theorem d_X12_see_13 : decode (mC M_X12_see) 13 = .ok (.baload, 1) := by decide +kernel
theorem d_X12_see_14 : decode (mC M_X12_see) 14 = .ok (.goto 4, 3) := by decide +kernel
theorem d_X12_see_17 : decode (mC M_X12_see) 17 = .ok (.iconst 0, 1) := by decide +kernel
theorem d_X12_see_18 : decode (mC M_X12_see) 18 = .ok (.ireturn, 1) := by decide +kernel
theorem d_X12_seen_0 : decode (mC M_X12_seen) 0 = .ok (.aload_n 0, 1) := by decide +kernel
theorem d_X12_seen_1 : decode (mC M_X12_seen) 1 = .ok (.aload_n 0, 1) := by decide +kernel
theorem d_X12_seen_2 : decode (mC M_X12_seen) 2 = .ok (.iload_n 1, 1) := by decide +kernel
theorem d_X12_seen_3 : decode (mC M_X12_seen) 3 = .ok (.invokevirtual 159, 3) := by decide +kernel
theorem d_X12_seen_6 : decode (mC M_X12_seen) 6 = .ok (.ifCond .eq 29, 3) := by decide +kernel
theorem d_X12_seen_9 : decode (mC M_X12_seen) 9 = .ok (.iload_n 2, 1) := by decide +kernel
theorem d_X12_seen_10 : decode (mC M_X12_seen) 10 = .ok (.iconst 0, 1) := by decide +kernel
theorem d_X12_seen_11 : decode (mC M_X12_seen) 11 = .ok (.bipush 19, 2) := by decide +kernel
theorem d_X12_seen_13 : decode (mC M_X12_seen) 13 = .ok (.invokestatic 154, 3) := by decide +kernel
theorem d_X12_seen_16 : decode (mC M_X12_seen) 16 = .ok (.ifCond .eq 19, 3) := by decide +kernel
theorem d_X12_seen_19 : decode (mC M_X12_seen) 19 = .ok (.iload_n 3, 1) := by decide +kernel
theorem d_X12_seen_20 : decode (mC M_X12_seen) 20 = .ok (.iconst 0, 1) := by decide +kernel
theorem d_X12_seen_21 : decode (mC M_X12_seen) 21 = .ok (.aload_n 0, 1) := by decide +kernel
theorem d_X12_seen_22 : decode (mC M_X12_seen) 22 = .ok (.getfield 163, 3) := by decide +kernel
theorem d_X12_seen_25 : decode (mC M_X12_seen) 25 = .ok (.invokestatic 154, 3) := by decide +kernel
theorem d_X12_seen_28 : decode (mC M_X12_seen) 28 = .ok (.ifCond .eq 7, 3) := by decide +kernel
theorem d_X12_seen_31 : decode (mC M_X12_seen) 31 = .ok (.iconst 0, 1) := by decide +kernel
theorem d_X12_seen_32 : decode (mC M_X12_seen) 32 = .ok (.goto 4, 3) := by decide +kernel
theorem d_X12_seen_35 : decode (mC M_X12_seen) 35 = .ok (.iconst 1, 1) := by decide +kernel
theorem d_X12_seen_36 : decode (mC M_X12_seen) 36 = .ok (.putfield 1, 3) := by decide +kernel
theorem d_X12_seen_39 : decode (mC M_X12_seen) 39 = .ok (.aload_n 0, 1) := by decide +kernel
theorem d_X12_seen_40 : decode (mC M_X12_seen) 40 = .ok (.getfield 1, 3) := by decide +kernel
theorem d_X12_seen_43 : decode (mC M_X12_seen) 43 = .ok (.ifCond .le 7, 3) := by decide +kernel
theorem d_X12_seen_46 : decode (mC M_X12_seen) 46 = .ok (.iconst 0, 1) := by decide +kernel
theorem d_X12_seen_47 : decode (mC M_X12_seen) 47 = .ok (.goto 10, 3) := by decide +kernel
theorem d_X12_seen_50 : decode (mC M_X12_seen) 50 = .ok (.aload_n 0, 1) := by decide +kernel
theorem d_X12_seen_51 : decode (mC M_X12_seen) 51 = .ok (.iload_n 1, 1) := by decide +kernel
theorem d_X12_seen_52 : decode (mC M_X12_seen) 52 = .ok (.iload_n 2, 1) := by decide +kernel
theorem d_X12_seen_53 : decode (mC M_X12_seen) 53 = .ok (.iload_n 3, 1) := by decide +kernel
theorem d_X12_seen_54 : decode (mC M_X12_seen) 54 = .ok (.invokevirtual 173, 3) := by decide +kernel
theorem d_X12_seen_57 : decode (mC M_X12_seen) 57 = .ok (.ireturn, 1) := by decide +kernel
theorem d_X12_starts_0 : decode (mC M_X12_starts) 0 = .ok (.aload_n 0, 1) := by decide +kernel
theorem d_X12_starts_1 : decode (mC M_X12_starts) 1 = .ok (.aload_n 1, 1) := by decide +kernel
theorem d_X12_starts_2 : decode (mC M_X12_starts) 2 = .ok (.putfield 183, 3) := by decide +kernel
theorem d_X12_starts_5 : decode (mC M_X12_starts) 5 = .ok (.aload_n 0, 1) := by decide +kernel
theorem d_X12_starts_6 : decode (mC M_X12_starts) 6 = .ok (.iload_n 2, 1) := by decide +kernel
theorem d_X12_starts_7 : decode (mC M_X12_starts) 7 = .ok (.putfield 180, 3) := by decide +kernel
theorem d_X12_starts_10 : decode (mC M_X12_starts) 10 = .ok (.aload_n 0, 1) := by decide +kernel
theorem d_X12_starts_11 : decode (mC M_X12_starts) 11 = .ok (.iload_n 3, 1) := by decide +kernel
theorem d_X12_starts_12 : decode (mC M_X12_starts) 12 = .ok (.putfield 186, 3) := by decide +kernel
theorem d_X12_starts_15 : decode (mC M_X12_starts) 15 = .ok (.aload_n 0, 1) := by decide +kernel
theorem d_X12_starts_16 : decode (mC M_X12_starts) 16 = .ok (.invokevirtual 208, 3) := by decide +kernel
theorem d_X12_starts_19 : decode (mC M_X12_starts) 19 = .ok (.return_, 1) := by decide +kernel
theorem d_X12_step_0 : decode (mC M_X12_step) 0 = .ok (.aload_n 0, 1) := by decide +kernel
theorem d_X12_step_1 : decode (mC M_X12_step) 1 = .ok (.iconst 0, 1) := by decide +kernel
theorem d_X12_step_2 : decode (mC M_X12_step) 2 = .ok (.putfield 1, 3) := by decide +kernel
theorem d_X12_step_5 : decode (mC M_X12_step) 5 = .ok (.iconst 0, 1) := by decide +kernel
theorem d_X12_step_6 : decode (mC M_X12_step) 6 = .ok (.istore_n 3, 1) := by decide +kernel
theorem d_X12_step_7 : decode (mC M_X12_step) 7 = .ok (.iconst 0, 1) := by decide +kernel
theorem d_X12_step_8 : decode (mC M_X12_step) 8 = .ok (.istore 4, 2) := by decide +kernel
theorem d_X12_step_10 : decode (mC M_X12_step) 10 = .ok (.iload 4, 2) := by decide +kernel
theorem d_X12_step_12 : decode (mC M_X12_step) 12 = .ok (.aload_n 0, 1) := by decide +kernel
theorem d_X12_step_13 : decode (mC M_X12_step) 13 = .ok (.getfield 151, 3) := by decide +kernel
theorem d_X12_step_16 : decode (mC M_X12_step) 16 = .ok (.if_icmp .ge 30, 3) := by decide +kernel
theorem d_X12_step_19 : decode (mC M_X12_step) 19 = .ok (.iload_n 3, 1) := by decide +kernel
theorem d_X12_step_20 : decode (mC M_X12_step) 20 = .ok (.ifCond .ne 14, 3) := by decide +kernel
theorem d_X12_step_23 : decode (mC M_X12_step) 23 = .ok (.aload_n 0, 1) := by decide +kernel
theorem d_X12_step_24 : decode (mC M_X12_step) 24 = .ok (.getfield 39, 3) := by decide +kernel
theorem d_X12_step_27 : decode (mC M_X12_step) 27 = .ok (.iload 4, 2) := by decide +kernel
theorem d_X12_step_29 : decode (mC M_X12_step) 29 = .ok (.iaload, 1) := by decide +kernel
theorem d_X12_step_30 : decode (mC M_X12_step) 30 = .ok (.iconst (-1), 1) := by decide +kernel
theorem d_X12_step_31 : decode (mC M_X12_step) 31 = .ok (.if_icmp .eq 7, 3) := by decide +kernel
theorem d_X12_step_34 : decode (mC M_X12_step) 34 = .ok (.iconst 1, 1) := by decide +kernel
theorem d_X12_step_35 : decode (mC M_X12_step) 35 = .ok (.goto 4, 3) := by decide +kernel
theorem d_X12_step_38 : decode (mC M_X12_step) 38 = .ok (.iconst 0, 1) := by decide +kernel
theorem d_X12_step_39 : decode (mC M_X12_step) 39 = .ok (.istore_n 3, 1) := by decide +kernel
theorem d_X12_step_40 : decode (mC M_X12_step) 40 = .ok (.iinc 4 1, 3) := by decide +kernel
theorem d_X12_step_43 : decode (mC M_X12_step) 43 = .ok (.goto (-33), 3) := by decide +kernel
theorem d_X12_step_46 : decode (mC M_X12_step) 46 = .ok (.iload_n 1, 1) := by decide +kernel
theorem d_X12_step_47 : decode (mC M_X12_step) 47 = .ok (.iconst 1, 1) := by decide +kernel
theorem d_X12_step_48 : decode (mC M_X12_step) 48 = .ok (.iconst 5, 1) := by decide +kernel
theorem d_X12_step_49 : decode (mC M_X12_step) 49 = .ok (.invokestatic 154, 3) := by decide +kernel
theorem d_X12_step_52 : decode (mC M_X12_step) 52 = .ok (.ifCond .eq 16, 3) := by decide +kernel
theorem d_X12_step_55 : decode (mC M_X12_step) 55 = .ok (.iload_n 3, 1) := by decide +kernel
theorem d_X12_step_56 : decode (mC M_X12_step) 56 = .ok (.ifCond .eq 12, 3) := by decide +kernel
theorem d_X12_step_59 : decode (mC M_X12_step) 59 = .ok (.aload_n 0, 1) := by decide +kernel
theorem d_X12_step_60 : decode (mC M_X12_step) 60 = .ok (.getfield 304, 3) := by decide +kernel
theorem d_X12_step_63 : decode (mC M_X12_step) 63 = .ok (.bipush 60, 2) := by decide +kernel
theorem d_X12_step_65 : decode (mC M_X12_step) 65 = .ok (.if_icmp .ne 5, 3) := by decide +kernel
theorem d_X12_step_68 : decode (mC M_X12_step) 68 = .ok (.iconst (-1), 1) := by decide +kernel
theorem d_X12_step_69 : decode (mC M_X12_step) 69 = .ok (.ireturn, 1) := by decide +kernel
theorem d_X12_step_70 : decode (mC M_X12_step) 70 = .ok (.iconst 0, 1) := by decide +kernel
theorem d_X12_step_71 : decode (mC M_X12_step) 71 = .ok (.istore 4, 2) := by decide +kernel
theorem d_X12_step_73 : decode (mC M_X12_step) 73 = .ok (.iload 4, 2) := by decide +kernel
theorem d_X12_step_75 : decode (mC M_X12_step) 75 = .ok (.aload_n 0, 1) := by decide +kernel
theorem d_X12_step_76 : decode (mC M_X12_step) 76 = .ok (.getfield 151, 3) := by decide +kernel
theorem d_X12_step_79 : decode (mC M_X12_step) 79 = .ok (.if_icmp .ge 64, 3) := by decide +kernel
theorem d_X12_step_82 : decode (mC M_X12_step) 82 = .ok (.aload_n 0, 1) := by decide +kernel
theorem d_X12_step_83 : decode (mC M_X12_step) 83 = .ok (.getfield 39, 3) := by decide +kernel
theorem d_X12_step_86 : decode (mC M_X12_step) 86 = .ok (.iload 4, 2) := by decide +kernel
theorem d_X12_step_88 : decode (mC M_X12_step) 88 = .ok (.iaload, 1) := by decide +kernel
theorem d_X12_step_89 : decode (mC M_X12_step) 89 = .ok (.iconst (-1), 1) := by decide +kernel
theorem d_X12_step_90 : decode (mC M_X12_step) 90 = .ok (.if_icmp .eq 47, 3) := by decide +kernel
theorem d_X12_step_93 : decode (mC M_X12_step) 93 = .ok (.aload_n 0, 1) := by decide +kernel
theorem d_X12_step_94 : decode (mC M_X12_step) 94 = .ok (.getfield 142, 3) := by decide +kernel
theorem d_X12_step_97 : decode (mC M_X12_step) 97 = .ok (.iload 4, 2) := by decide +kernel
theorem d_X12_step_99 : decode (mC M_X12_step) 99 = .ok (.aload_n 0, 1) := by decide +kernel
theorem d_X12_step_100 : decode (mC M_X12_step) 100 = .ok (.getfield 61, 3) := by decide +kernel
theorem d_X12_step_103 : decode (mC M_X12_step) 103 = .ok (.aload_n 0, 1) := by decide +kernel
theorem d_X12_step_104 : decode (mC M_X12_step) 104 = .ok (.getfield 39, 3) := by decide +kernel
theorem d_X12_step_107 : decode (mC M_X12_step) 107 = .ok (.iload 4, 2) := by decide +kernel
theorem d_X12_step_109 : decode (mC M_X12_step) 109 = .ok (.iaload, 1) := by decide +kernel
theorem d_X12_step_110 : decode (mC M_X12_step) 110 = .ok (.iaload, 1) := by decide +kernel
theorem d_X12_step_111 : decode (mC M_X12_step) 111 = .ok (.iload_n 2, 1) := by decide +kernel
theorem d_X12_step_112 : decode (mC M_X12_step) 112 = .ok (.bipush 31, 2) := by decide +kernel
theorem d_X12_step_114 : decode (mC M_X12_step) 114 = .ok (.iload 4, 2) := by decide +kernel
theorem d_X12_step_116 : decode (mC M_X12_step) 116 = .ok (.imul, 1) := by decide +kernel
theorem d_X12_step_117 : decode (mC M_X12_step) 117 = .ok (.iadd, 1) := by decide +kernel
theorem d_X12_step_118 : decode (mC M_X12_step) 118 = .ok (.bipush 7, 2) := by decide +kernel
theorem d_X12_step_120 : decode (mC M_X12_step) 120 = .ok (.aload_n 0, 1) := by decide +kernel
theorem d_X12_step_121 : decode (mC M_X12_step) 121 = .ok (.getfield 304, 3) := by decide +kernel
theorem d_X12_step_124 : decode (mC M_X12_step) 124 = .ok (.imul, 1) := by decide +kernel
theorem d_X12_step_125 : decode (mC M_X12_step) 125 = .ok (.iadd, 1) := by decide +kernel
theorem d_X12_step_126 : decode (mC M_X12_step) 126 = .ok (.invokestatic 370, 3) := by decide +kernel
theorem d_X12_step_129 : decode (mC M_X12_step) 129 = .ok (.bipush 16, 2) := by decide +kernel
theorem d_X12_step_131 : decode (mC M_X12_step) 131 = .ok (.iushr, 1) := by decide +kernel
theorem d_X12_step_132 : decode (mC M_X12_step) 132 = .ok (.bipush 20, 2) := by decide +kernel
theorem d_X12_step_134 : decode (mC M_X12_step) 134 = .ok (.irem, 1) := by decide +kernel
theorem d_X12_step_135 : decode (mC M_X12_step) 135 = .ok (.iadd, 1) := by decide +kernel
theorem d_X12_step_136 : decode (mC M_X12_step) 136 = .ok (.iastore, 1) := by decide +kernel
theorem d_X12_step_137 : decode (mC M_X12_step) 137 = .ok (.iinc 4 1, 3) := by decide +kernel
theorem d_X12_step_140 : decode (mC M_X12_step) 140 = .ok (.goto (-67), 3) := by decide +kernel
theorem d_X12_step_143 : decode (mC M_X12_step) 143 = .ok (.aload_n 0, 1) := by decide +kernel
theorem d_X12_step_144 : decode (mC M_X12_step) 144 = .ok (.iload_n 1, 1) := by decide +kernel
theorem d_X12_step_145 : decode (mC M_X12_step) 145 = .ok (.invokevirtual 372, 3) := by decide +kernel
theorem d_X12_step_148 : decode (mC M_X12_step) 148 = .ok (.iconst 0, 1) := by decide +kernel
theorem d_X12_step_149 : decode (mC M_X12_step) 149 = .ok (.istore 4, 2) := by decide +kernel
theorem d_X12_step_151 : decode (mC M_X12_step) 151 = .ok (.iconst 0, 1) := by decide +kernel
theorem d_X12_step_152 : decode (mC M_X12_step) 152 = .ok (.istore 5, 2) := by decide +kernel
theorem d_X12_step_154 : decode (mC M_X12_step) 154 = .ok (.iload 5, 2) := by decide +kernel
theorem d_X12_step_156 : decode (mC M_X12_step) 156 = .ok (.aload_n 0, 1) := by decide +kernel
theorem d_X12_step_157 : decode (mC M_X12_step) 157 = .ok (.getfield 151, 3) := by decide +kernel
theorem d_X12_step_160 : decode (mC M_X12_step) 160 = .ok (.if_icmp .ge 263, 3) := by decide +kernel
theorem d_X12_step_163 : decode (mC M_X12_step) 163 = .ok (.bipush 40, 2) := by decide +kernel
theorem d_X12_step_165 : decode (mC M_X12_step) 165 = .ok (.aload_n 0, 1) := by decide +kernel
theorem d_X12_step_166 : decode (mC M_X12_step) 166 = .ok (.getfield 304, 3) := by decide +kernel
theorem d_X12_step_169 : decode (mC M_X12_step) 169 = .ok (.imul, 1) := by decide +kernel
theorem d_X12_step_170 : decode (mC M_X12_step) 170 = .ok (.iload 5, 2) := by decide +kernel
theorem d_X12_step_172 : decode (mC M_X12_step) 172 = .ok (.iadd, 1) := by decide +kernel
theorem d_X12_step_173 : decode (mC M_X12_step) 173 = .ok (.istore 6, 2) := by decide +kernel
theorem d_X12_step_175 : decode (mC M_X12_step) 175 = .ok (.aload_n 0, 1) := by decide +kernel
theorem d_X12_step_176 : decode (mC M_X12_step) 176 = .ok (.getfield 118, 3) := by decide +kernel
theorem d_X12_step_179 : decode (mC M_X12_step) 179 = .ok (.iload 6, 2) := by decide +kernel
theorem d_X12_step_181 : decode (mC M_X12_step) 181 = .ok (.iconst (-1), 1) := by decide +kernel
theorem d_X12_step_182 : decode (mC M_X12_step) 182 = .ok (.iastore, 1) := by decide +kernel
theorem d_X12_step_183 : decode (mC M_X12_step) 183 = .ok (.aload_n 0, 1) := by decide +kernel
theorem d_X12_step_184 : decode (mC M_X12_step) 184 = .ok (.getfield 39, 3) := by decide +kernel
theorem d_X12_step_187 : decode (mC M_X12_step) 187 = .ok (.iload 5, 2) := by decide +kernel
theorem d_X12_step_189 : decode (mC M_X12_step) 189 = .ok (.iaload, 1) := by decide +kernel
theorem d_X12_step_190 : decode (mC M_X12_step) 190 = .ok (.iconst (-1), 1) := by decide +kernel
theorem d_X12_step_191 : decode (mC M_X12_step) 191 = .ok (.if_icmp .ne 6, 3) := by decide +kernel
theorem d_X12_step_194 : decode (mC M_X12_step) 194 = .ok (.goto 223, 3) := by decide +kernel
theorem d_X12_step_197 : decode (mC M_X12_step) 197 = .ok (.iconst 0, 1) := by decide +kernel
theorem d_X12_step_198 : decode (mC M_X12_step) 198 = .ok (.istore 7, 2) := by decide +kernel
theorem d_X12_step_200 : decode (mC M_X12_step) 200 = .ok (.iconst 0, 1) := by decide +kernel
theorem d_X12_step_201 : decode (mC M_X12_step) 201 = .ok (.istore 8, 2) := by decide +kernel
theorem d_X12_step_203 : decode (mC M_X12_step) 203 = .ok (.iload 8, 2) := by decide +kernel
theorem d_X12_step_205 : decode (mC M_X12_step) 205 = .ok (.aload_n 0, 1) := by decide +kernel
theorem d_X12_step_206 : decode (mC M_X12_step) 206 = .ok (.getfield 151, 3) := by decide +kernel
theorem d_X12_step_209 : decode (mC M_X12_step) 209 = .ok (.if_icmp .ge 40, 3) := by decide +kernel
theorem d_X12_step_212 : decode (mC M_X12_step) 212 = .ok (.aload_n 0, 1) := by decide +kernel
theorem d_X12_step_213 : decode (mC M_X12_step) 213 = .ok (.getfield 39, 3) := by decide +kernel
theorem d_X12_step_216 : decode (mC M_X12_step) 216 = .ok (.iload 8, 2) := by decide +kernel
theorem d_X12_step_218 : decode (mC M_X12_step) 218 = .ok (.iaload, 1) := by decide +kernel
theorem d_X12_step_219 : decode (mC M_X12_step) 219 = .ok (.aload_n 0, 1) := by decide +kernel
theorem d_X12_step_220 : decode (mC M_X12_step) 220 = .ok (.getfield 39, 3) := by decide +kernel
theorem d_X12_step_223 : decode (mC M_X12_step) 223 = .ok (.iload 5, 2) := by decide +kernel
theorem d_X12_step_225 : decode (mC M_X12_step) 225 = .ok (.iaload, 1) := by decide +kernel
theorem d_X12_step_226 : decode (mC M_X12_step) 226 = .ok (.if_icmp .ne 17, 3) := by decide +kernel
theorem d_X12_step_229 : decode (mC M_X12_step) 229 = .ok (.iload 7, 2) := by decide +kernel
theorem d_X12_step_231 : decode (mC M_X12_step) 231 = .ok (.aload_n 0, 1) := by decide +kernel
theorem d_X12_step_232 : decode (mC M_X12_step) 232 = .ok (.getfield 145, 3) := by decide +kernel
theorem d_X12_step_235 : decode (mC M_X12_step) 235 = .ok (.iload 8, 2) := by decide +kernel
theorem d_X12_step_237 : decode (mC M_X12_step) 237 = .ok (.iaload, 1) := by decide +kernel
theorem d_X12_step_238 : decode (mC M_X12_step) 238 = .ok (.invokestatic 365, 3) := by decide +kernel
theorem d_X12_step_241 : decode (mC M_X12_step) 241 = .ok (.istore 7, 2) := by decide +kernel
theorem d_X12_step_243 : decode (mC M_X12_step) 243 = .ok (.iinc 8 1, 3) := by decide +kernel
theorem d_X12_step_246 : decode (mC M_X12_step) 246 = .ok (.goto (-43), 3) := by decide +kernel
theorem d_X12_step_249 : decode (mC M_X12_step) 249 = .ok (.aload_n 0, 1) := by decide +kernel
theorem d_X12_step_250 : decode (mC M_X12_step) 250 = .ok (.getfield 118, 3) := by decide +kernel
theorem d_X12_step_253 : decode (mC M_X12_step) 253 = .ok (.iload 6, 2) := by decide +kernel
theorem d_X12_step_255 : decode (mC M_X12_step) 255 = .ok (.aload_n 0, 1) := by decide +kernel
theorem d_X12_step_256 : decode (mC M_X12_step) 256 = .ok (.getfield 58, 3) := by decide +kernel
theorem d_X12_step_259 : decode (mC M_X12_step) 259 = .ok (.aload_n 0, 1) := by decide +kernel
theorem d_X12_step_260 : decode (mC M_X12_step) 260 = .ok (.getfield 39, 3) := by decide +kernel
theorem d_X12_step_263 : decode (mC M_X12_step) 263 = .ok (.iload 5, 2) := by decide +kernel
theorem d_X12_step_265 : decode (mC M_X12_step) 265 = .ok (.iaload, 1) := by decide +kernel
theorem d_X12_step_266 : decode (mC M_X12_step) 266 = .ok (.iaload, 1) := by decide +kernel
theorem d_X12_step_267 : decode (mC M_X12_step) 267 = .ok (.iastore, 1) := by decide +kernel
theorem d_X12_step_268 : decode (mC M_X12_step) 268 = .ok (.aload_n 0, 1) := by decide +kernel
theorem d_X12_step_269 : decode (mC M_X12_step) 269 = .ok (.getfield 121, 3) := by decide +kernel
theorem d_X12_step_272 : decode (mC M_X12_step) 272 = .ok (.iload 6, 2) := by decide +kernel
theorem d_X12_step_274 : decode (mC M_X12_step) 274 = .ok (.aload_n 0, 1) := by decide +kernel
theorem d_X12_step_275 : decode (mC M_X12_step) 275 = .ok (.getfield 142, 3) := by decide +kernel
theorem d_X12_step_278 : decode (mC M_X12_step) 278 = .ok (.iload 5, 2) := by decide +kernel
theorem d_X12_step_280 : decode (mC M_X12_step) 280 = .ok (.iaload, 1) := by decide +kernel
theorem d_X12_step_281 : decode (mC M_X12_step) 281 = .ok (.iastore, 1) := by decide +kernel
theorem d_X12_step_282 : decode (mC M_X12_step) 282 = .ok (.aload_n 0, 1) := by decide +kernel
theorem d_X12_step_283 : decode (mC M_X12_step) 283 = .ok (.getfield 124, 3) := by decide +kernel
theorem d_X12_step_286 : decode (mC M_X12_step) 286 = .ok (.iload 6, 2) := by decide +kernel
theorem d_X12_step_288 : decode (mC M_X12_step) 288 = .ok (.aload_n 0, 1) := by decide +kernel
theorem d_X12_step_289 : decode (mC M_X12_step) 289 = .ok (.getfield 145, 3) := by decide +kernel
theorem d_X12_step_292 : decode (mC M_X12_step) 292 = .ok (.iload 5, 2) := by decide +kernel
theorem d_X12_step_294 : decode (mC M_X12_step) 294 = .ok (.iaload, 1) := by decide +kernel
theorem d_X12_step_295 : decode (mC M_X12_step) 295 = .ok (.iastore, 1) := by decide +kernel
theorem d_X12_step_296 : decode (mC M_X12_step) 296 = .ok (.aload_n 0, 1) := by decide +kernel
theorem d_X12_step_297 : decode (mC M_X12_step) 297 = .ok (.getfield 127, 3) := by decide +kernel
theorem d_X12_step_300 : decode (mC M_X12_step) 300 = .ok (.iload 6, 2) := by decide +kernel
theorem d_X12_step_302 : decode (mC M_X12_step) 302 = .ok (.iload 7, 2) := by decide +kernel
theorem d_X12_step_304 : decode (mC M_X12_step) 304 = .ok (.iastore, 1) := by decide +kernel
theorem d_X12_step_305 : decode (mC M_X12_step) 305 = .ok (.aload_n 0, 1) := by decide +kernel
theorem d_X12_step_306 : decode (mC M_X12_step) 306 = .ok (.getfield 130, 3) := by decide +kernel
theorem d_X12_step_309 : decode (mC M_X12_step) 309 = .ok (.iload 6, 2) := by decide +kernel
theorem d_X12_step_311 : decode (mC M_X12_step) 311 = .ok (.iload 7, 2) := by decide +kernel
theorem d_X12_step_313 : decode (mC M_X12_step) 313 = .ok (.aload_n 0, 1) := by decide +kernel
theorem d_X12_step_314 : decode (mC M_X12_step) 314 = .ok (.getfield 64, 3) := by decide +kernel
theorem d_X12_step_317 : decode (mC M_X12_step) 317 = .ok (.aload_n 0, 1) := by decide +kernel
theorem d_X12_step_318 : decode (mC M_X12_step) 318 = .ok (.getfield 39, 3) := by decide +kernel
theorem d_X12_step_321 : decode (mC M_X12_step) 321 = .ok (.iload 5, 2) := by decide +kernel
theorem d_X12_step_323 : decode (mC M_X12_step) 323 = .ok (.iaload, 1) := by decide +kernel
theorem d_X12_step_324 : decode (mC M_X12_step) 324 = .ok (.iaload, 1) := by decide +kernel
theorem d_X12_step_325 : decode (mC M_X12_step) 325 = .ok (.iadd, 1) := by decide +kernel
theorem d_X12_step_326 : decode (mC M_X12_step) 326 = .ok (.iastore, 1) := by decide +kernel
theorem d_X12_step_327 : decode (mC M_X12_step) 327 = .ok (.aload_n 0, 1) := by decide +kernel
theorem d_X12_step_328 : decode (mC M_X12_step) 328 = .ok (.getfield 133, 3) := by decide +kernel
theorem d_X12_step_331 : decode (mC M_X12_step) 331 = .ok (.iload 6, 2) := by decide +kernel
theorem d_X12_step_333 : decode (mC M_X12_step) 333 = .ok (.aload_n 0, 1) := by decide +kernel
theorem d_X12_step_334 : decode (mC M_X12_step) 334 = .ok (.getfield 345, 3) := by decide +kernel
theorem d_X12_step_337 : decode (mC M_X12_step) 337 = .ok (.iconst 1, 1) := by decide +kernel
theorem d_X12_step_338 : decode (mC M_X12_step) 338 = .ok (.isub, 1) := by decide +kernel
theorem d_X12_step_339 : decode (mC M_X12_step) 339 = .ok (.iastore, 1) := by decide +kernel
theorem d_X12_step_340 : decode (mC M_X12_step) 340 = .ok (.iload 4, 2) := by decide +kernel
theorem d_X12_step_342 : decode (mC M_X12_step) 342 = .ok (.aload_n 0, 1) := by decide +kernel
theorem d_X12_step_343 : decode (mC M_X12_step) 343 = .ok (.getfield 130, 3) := by decide +kernel
theorem d_X12_step_346 : decode (mC M_X12_step) 346 = .ok (.iload 6, 2) := by decide +kernel
theorem d_X12_step_348 : decode (mC M_X12_step) 348 = .ok (.iaload, 1) := by decide +kernel
theorem d_X12_step_349 : decode (mC M_X12_step) 349 = .ok (.invokestatic 365, 3) := by decide +kernel
theorem d_X12_step_352 : decode (mC M_X12_step) 352 = .ok (.istore 4, 2) := by decide +kernel
theorem d_X12_step_354 : decode (mC M_X12_step) 354 = .ok (.aload_n 0, 1) := by decide +kernel
theorem d_X12_step_355 : decode (mC M_X12_step) 355 = .ok (.dup, 1) := by decide +kernel
theorem d_X12_step_356 : decode (mC M_X12_step) 356 = .ok (.getfield 375, 3) := by decide +kernel
theorem d_X12_step_359 : decode (mC M_X12_step) 359 = .ok (.iconst 1, 1) := by decide +kernel
theorem d_X12_step_360 : decode (mC M_X12_step) 360 = .ok (.iadd, 1) := by decide +kernel
theorem d_X12_step_361 : decode (mC M_X12_step) 361 = .ok (.putfield 375, 3) := by decide +kernel
theorem d_X12_step_364 : decode (mC M_X12_step) 364 = .ok (.aload_n 0, 1) := by decide +kernel
theorem d_X12_step_365 : decode (mC M_X12_step) 365 = .ok (.getfield 33, 3) := by decide +kernel
theorem d_X12_step_368 : decode (mC M_X12_step) 368 = .ok (.iload 5, 2) := by decide +kernel
theorem d_X12_step_370 : decode (mC M_X12_step) 370 = .ok (.dup2, 1) := by decide +kernel
theorem d_X12_step_371 : decode (mC M_X12_step) 371 = .ok (.iaload, 1) := by decide +kernel
theorem d_X12_step_372 : decode (mC M_X12_step) 372 = .ok (.iconst 1, 1) := by decide +kernel
theorem d_X12_step_373 : decode (mC M_X12_step) 373 = .ok (.iadd, 1) := by decide +kernel
theorem d_X12_step_374 : decode (mC M_X12_step) 374 = .ok (.iastore, 1) := by decide +kernel
theorem d_X12_step_375 : decode (mC M_X12_step) 375 = .ok (.aload_n 0, 1) := by decide +kernel
theorem d_X12_step_376 : decode (mC M_X12_step) 376 = .ok (.getfield 36, 3) := by decide +kernel
theorem d_X12_step_379 : decode (mC M_X12_step) 379 = .ok (.iload 5, 2) := by decide +kernel
theorem d_X12_step_381 : decode (mC M_X12_step) 381 = .ok (.sipush 1440, 3) := by decide +kernel
theorem d_X12_step_384 : decode (mC M_X12_step) 384 = .ok (.aload_n 0, 1) := by decide +kernel
theorem d_X12_step_385 : decode (mC M_X12_step) 385 = .ok (.getfield 304, 3) := by decide +kernel
theorem d_X12_step_388 : decode (mC M_X12_step) 388 = .ok (.imul, 1) := by decide +kernel
theorem d_X12_step_389 : decode (mC M_X12_step) 389 = .ok (.aload_n 0, 1) := by decide +kernel
theorem d_X12_step_390 : decode (mC M_X12_step) 390 = .ok (.getfield 130, 3) := by decide +kernel
theorem d_X12_step_393 : decode (mC M_X12_step) 393 = .ok (.iload 6, 2) := by decide +kernel
theorem d_X12_step_395 : decode (mC M_X12_step) 395 = .ok (.iaload, 1) := by decide +kernel
theorem d_X12_step_396 : decode (mC M_X12_step) 396 = .ok (.iadd, 1) := by decide +kernel
theorem d_X12_step_397 : decode (mC M_X12_step) 397 = .ok (.sipush 660, 3) := by decide +kernel
theorem d_X12_step_400 : decode (mC M_X12_step) 400 = .ok (.iadd, 1) := by decide +kernel
theorem d_X12_step_401 : decode (mC M_X12_step) 401 = .ok (.iastore, 1) := by decide +kernel
theorem d_X12_step_402 : decode (mC M_X12_step) 402 = .ok (.aload_n 0, 1) := by decide +kernel
theorem d_X12_step_403 : decode (mC M_X12_step) 403 = .ok (.iload 5, 2) := by decide +kernel
theorem d_X12_step_405 : decode (mC M_X12_step) 405 = .ok (.aload_n 0, 1) := by decide +kernel
theorem d_X12_step_406 : decode (mC M_X12_step) 406 = .ok (.getfield 118, 3) := by decide +kernel
theorem d_X12_step_409 : decode (mC M_X12_step) 409 = .ok (.iload 6, 2) := by decide +kernel
theorem d_X12_step_411 : decode (mC M_X12_step) 411 = .ok (.iaload, 1) := by decide +kernel
theorem d_X12_step_412 : decode (mC M_X12_step) 412 = .ok (.invokevirtual 169, 3) := by decide +kernel
theorem d_X12_step_415 : decode (mC M_X12_step) 415 = .ok (.istore 8, 2) := by decide +kernel
theorem d_X12_step_417 : decode (mC M_X12_step) 417 = .ok (.iinc 5 1, 3) := by decide +kernel

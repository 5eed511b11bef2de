theorem dX9_read_152 : decode cX9_read 152 = .ok (.iadd, 1) := by decide +kernel
theorem dX9_read_153 : decode cX9_read 153 = .ok (.putfield 170, 3) := by decide +kernel
theorem dX9_read_156 : decode cX9_read 156 = .ok (.iload_n 1, 1) := by decide +kernel
theorem dX9_read_157 : decode cX9_read 157 = .ok (.ireturn, 1) := by decide +kernel
theorem dX9_place_0 : decode cX9_place 0 = .ok (.aload_n 0, 1) := by decide +kernel
theorem dX9_place_1 : decode cX9_place 1 = .ok (.getfield 56, 3) := by decide +kernel
theorem dX9_place_4 : decode cX9_place 4 = .ok (.ireturn, 1) := by decide +kernel
theorem dX9_drop_0 : decode cX9_drop 0 = .ok (.aload_n 0, 1) := by decide +kernel
theorem dX9_drop_1 : decode cX9_drop 1 = .ok (.getfield 170, 3) := by decide +kernel
theorem dX9_drop_4 : decode cX9_drop 4 = .ok (.ifCond .ne 6, 3) := by decide +kernel
theorem dX9_drop_7 : decode cX9_drop 7 = .ok (.bipush (-2), 2) := by decide +kernel
theorem dX9_drop_9 : decode cX9_drop 9 = .ok (.ireturn, 1) := by decide +kernel
theorem dX9_drop_10 : decode cX9_drop 10 = .ok (.aload_n 0, 1) := by decide +kernel
theorem dX9_drop_11 : decode cX9_drop 11 = .ok (.dup, 1) := by decide +kernel
theorem dX9_drop_12 : decode cX9_drop 12 = .ok (.getfield 170, 3) := by decide +kernel
theorem dX9_drop_15 : decode cX9_drop 15 = .ok (.iconst 1, 1) := by decide +kernel
theorem dX9_drop_16 : decode cX9_drop 16 = .ok (.isub, 1) := by decide +kernel
theorem dX9_drop_17 : decode cX9_drop 17 = .ok (.putfield 170, 3) := by decide +kernel
theorem dX9_drop_20 : decode cX9_drop 20 = .ok (.aload_n 0, 1) := by decide +kernel
theorem dX9_drop_21 : decode cX9_drop 21 = .ok (.getfield 170, 3) := by decide +kernel
theorem dX9_drop_24 : decode cX9_drop 24 = .ok (.ireturn, 1) := by decide +kernel
theorem dX9_tapePath_0 : decode cX9_tapePath 0 = .ok (.aload_n 0, 1) := by decide +kernel
theorem dX9_tapePath_1 : decode cX9_tapePath 1 = .ok (.invokevirtual 287, 3) := by decide +kernel
theorem dX9_tapePath_4 : decode cX9_tapePath 4 = .ok (.ifCond .ge 12, 3) := by decide +kernel
theorem dX9_tapePath_7 : decode cX9_tapePath 7 = .ok (.aload_n 0, 1) := by decide +kernel
theorem dX9_tapePath_8 : decode cX9_tapePath 8 = .ok (.getfield 183, 3) := by decide +kernel
theorem dX9_tapePath_11 : decode cX9_tapePath 11 = .ok (.iconst 2, 1) := by decide +kernel
theorem dX9_tapePath_12 : decode cX9_tapePath 12 = .ok (.irem, 1) := by decide +kernel
theorem dX9_tapePath_13 : decode cX9_tapePath 13 = .ok (.ifCond .ne 5, 3) := by decide +kernel
theorem dX9_tapePath_16 : decode cX9_tapePath 16 = .ok (.iconst 0, 1) := by decide +kernel
theorem dX9_tapePath_17 : decode cX9_tapePath 17 = .ok (.ireturn, 1) := by decide +kernel
theorem dX9_tapePath_18 : decode cX9_tapePath 18 = .ok (.iconst 0, 1) := by decide +kernel
theorem dX9_tapePath_19 : decode cX9_tapePath 19 = .ok (.istore_n 1, 1) := by decide +kernel
theorem dX9_tapePath_20 : decode cX9_tapePath 20 = .ok (.iload_n 1, 1) := by decide +kernel
theorem dX9_tapePath_21 : decode cX9_tapePath 21 = .ok (.aload_n 0, 1) := by decide +kernel
theorem dX9_tapePath_22 : decode cX9_tapePath 22 = .ok (.getfield 183, 3) := by decide +kernel
theorem dX9_tapePath_25 : decode cX9_tapePath 25 = .ok (.if_icmp .ge 32, 3) := by decide +kernel
theorem dX9_tapePath_28 : decode cX9_tapePath 28 = .ok (.aload_n 0, 1) := by decide +kernel
theorem dX9_tapePath_29 : decode cX9_tapePath 29 = .ok (.getfield 119, 3) := by decide +kernel
theorem dX9_tapePath_32 : decode cX9_tapePath 32 = .ok (.iload_n 1, 1) := by decide +kernel
theorem dX9_tapePath_33 : decode cX9_tapePath 33 = .ok (.iaload, 1) := by decide +kernel
theorem dX9_tapePath_34 : decode cX9_tapePath 34 = .ok (.iload_n 1, 1) := by decide +kernel
theorem dX9_tapePath_35 : decode cX9_tapePath 35 = .ok (.iconst 2, 1) := by decide +kernel
theorem dX9_tapePath_36 : decode cX9_tapePath 36 = .ok (.irem, 1) := by decide +kernel
theorem dX9_tapePath_37 : decode cX9_tapePath 37 = .ok (.ifCond .ne 7, 3) := by decide +kernel
theorem dX9_tapePath_40 : decode cX9_tapePath 40 = .ok (.iconst 1, 1) := by decide +kernel
theorem dX9_tapePath_41 : decode cX9_tapePath 41 = .ok (.goto 5, 3) := by decide +kernel
theorem dX9_tapePath_44 : decode cX9_tapePath 44 = .ok (.bipush 46, 2) := by decide +kernel
theorem dX9_tapePath_46 : decode cX9_tapePath 46 = .ok (.if_icmp .eq 5, 3) := by decide +kernel
theorem dX9_tapePath_49 : decode cX9_tapePath 49 = .ok (.iconst 0, 1) := by decide +kernel
theorem dX9_tapePath_50 : decode cX9_tapePath 50 = .ok (.ireturn, 1) := by decide +kernel
theorem dX9_tapePath_51 : decode cX9_tapePath 51 = .ok (.iinc 1 1, 3) := by decide +kernel
theorem dX9_tapePath_54 : decode cX9_tapePath 54 = .ok (.goto (-34), 3) := by decide +kernel
theorem dX9_tapePath_57 : decode cX9_tapePath 57 = .ok (.aload_n 0, 1) := by decide +kernel
theorem dX9_tapePath_58 : decode cX9_tapePath 58 = .ok (.getfield 183, 3) := by decide +kernel
theorem dX9_tapePath_61 : decode cX9_tapePath 61 = .ok (.iconst 1, 1) := by decide +kernel
theorem dX9_tapePath_62 : decode cX9_tapePath 62 = .ok (.iadd, 1) := by decide +kernel
theorem dX9_tapePath_63 : decode cX9_tapePath 63 = .ok (.iconst 2, 1) := by decide +kernel
theorem dX9_tapePath_64 : decode cX9_tapePath 64 = .ok (.idiv, 1) := by decide +kernel
theorem dX9_tapePath_65 : decode cX9_tapePath 65 = .ok (.ireturn, 1) := by decide +kernel
theorem dX9_find_0 : decode cX9_find 0 = .ok (.aload_n 0, 1) := by decide +kernel
theorem dX9_find_1 : decode cX9_find 1 = .ok (.invokevirtual 296, 3) := by decide +kernel
theorem dX9_find_4 : decode cX9_find 4 = .ok (.istore_n 2, 1) := by decide +kernel
theorem dX9_find_5 : decode cX9_find 5 = .ok (.aload_n 0, 1) := by decide +kernel
theorem dX9_find_6 : decode cX9_find 6 = .ok (.iload_n 1, 1) := by decide +kernel
theorem dX9_find_7 : decode cX9_find 7 = .ok (.invokevirtual 299, 3) := by decide +kernel
theorem dX9_find_10 : decode cX9_find 10 = .ok (.ifCond .ne 7, 3) := by decide +kernel
theorem dX9_find_13 : decode cX9_find 13 = .ok (.iconst (-1), 1) := by decide +kernel
theorem dX9_find_14 : decode cX9_find 14 = .ok (.goto 19, 3) := by decide +kernel
theorem dX9_find_17 : decode cX9_find 17 = .ok (.iload_n 2, 1) := by decide +kernel
theorem dX9_find_18 : decode cX9_find 18 = .ok (.ifCond .ne 8, 3) := by decide +kernel
theorem dX9_find_21 : decode cX9_find 21 = .ok (.bipush (-2), 2) := by decide +kernel
theorem dX9_find_23 : decode cX9_find 23 = .ok (.goto 10, 3) := by decide +kernel
theorem dX9_find_26 : decode cX9_find 26 = .ok (.aload_n 0, 1) := by decide +kernel
theorem dX9_find_27 : decode cX9_find 27 = .ok (.iload_n 1, 1) := by decide +kernel
theorem dX9_find_28 : decode cX9_find 28 = .ok (.iconst 0, 1) := by decide +kernel
theorem dX9_find_29 : decode cX9_find 29 = .ok (.iload_n 2, 1) := by decide +kernel
theorem dX9_find_30 : decode cX9_find 30 = .ok (.invokevirtual 280, 3) := by decide +kernel
theorem dX9_find_33 : decode cX9_find 33 = .ok (.ireturn, 1) := by decide +kernel
theorem dX9_fits_0 : decode cX9_fits 0 = .ok (.aload_n 0, 1) := by decide +kernel
theorem dX9_fits_1 : decode cX9_fits 1 = .ok (.getfield 125, 3) := by decide +kernel
theorem dX9_fits_4 : decode cX9_fits 4 = .ok (.iload_n 2, 1) := by decide +kernel
theorem dX9_fits_5 : decode cX9_fits 5 = .ok (.iaload, 1) := by decide +kernel
theorem dX9_fits_6 : decode cX9_fits 6 = .ok (.istore_n 3, 1) := by decide +kernel
theorem dX9_fits_7 : decode cX9_fits 7 = .ok (.aload_n 0, 1) := by decide +kernel
theorem dX9_fits_8 : decode cX9_fits 8 = .ok (.getfield 100, 3) := by decide +kernel
theorem dX9_fits_11 : decode cX9_fits 11 = .ok (.iload_n 1, 1) := by decide +kernel
theorem dX9_fits_12 : decode cX9_fits 12 = .ok (.iaload, 1) := by decide +kernel
theorem dX9_fits_13 : decode cX9_fits 13 = .ok (.istore 4, 2) := by decide +kernel
theorem dX9_fits_15 : decode cX9_fits 15 = .ok (.aload_n 0, 1) := by decide +kernel
theorem dX9_fits_16 : decode cX9_fits 16 = .ok (.getfield 110, 3) := by decide +kernel
theorem dX9_fits_19 : decode cX9_fits 19 = .ok (.iload_n 1, 1) := by decide +kernel
theorem dX9_fits_20 : decode cX9_fits 20 = .ok (.iaload, 1) := by decide +kernel
theorem dX9_fits_21 : decode cX9_fits 21 = .ok (.istore 5, 2) := by decide +kernel
theorem dX9_fits_23 : decode cX9_fits 23 = .ok (.aload_n 0, 1) := by decide +kernel
theorem dX9_fits_24 : decode cX9_fits 24 = .ok (.getfield 106, 3) := by decide +kernel
theorem dX9_fits_27 : decode cX9_fits 27 = .ok (.iload_n 1, 1) := by decide +kernel
theorem dX9_fits_28 : decode cX9_fits 28 = .ok (.baload, 1) := by decide +kernel
theorem dX9_fits_29 : decode cX9_fits 29 = .ok (.ifCond .eq 20, 3) := by decide +kernel
theorem dX9_fits_32 : decode cX9_fits 32 = .ok (.iload_n 3, 1) := by decide +kernel
theorem dX9_fits_33 : decode cX9_fits 33 = .ok (.iload 4, 2) := by decide +kernel
theorem dX9_fits_35 : decode cX9_fits 35 = .ok (.iload 5, 2) := by decide +kernel
theorem dX9_fits_37 : decode cX9_fits 37 = .ok (.iadd, 1) := by decide +kernel
theorem dX9_fits_38 : decode cX9_fits 38 = .ok (.if_icmp .lt 7, 3) := by decide +kernel
theorem dX9_fits_41 : decode cX9_fits 41 = .ok (.iconst 1, 1) := by decide +kernel
theorem dX9_fits_42 : decode cX9_fits 42 = .ok (.goto 18, 3) := by decide +kernel
theorem dX9_fits_45 : decode cX9_fits 45 = .ok (.iconst 0, 1) := by decide +kernel
theorem dX9_fits_46 : decode cX9_fits 46 = .ok (.goto 14, 3) := by decide +kernel
theorem dX9_fits_49 : decode cX9_fits 49 = .ok (.iload_n 3, 1) := by decide +kernel
theorem dX9_fits_50 : decode cX9_fits 50 = .ok (.iload 4, 2) := by decide +kernel
theorem dX9_fits_52 : decode cX9_fits 52 = .ok (.if_icmp .ne 7, 3) := by decide +kernel
theorem dX9_fits_55 : decode cX9_fits 55 = .ok (.iconst 1, 1) := by decide +kernel
theorem dX9_fits_56 : decode cX9_fits 56 = .ok (.goto 4, 3) := by decide +kernel
theorem dX9_fits_59 : decode cX9_fits 59 = .ok (.iconst 0, 1) := by decide +kernel
theorem dX9_fits_60 : decode cX9_fits 60 = .ok (.istore 6, 2) := by decide +kernel
theorem dX9_fits_62 : decode cX9_fits 62 = .ok (.iconst 0, 1) := by decide +kernel
theorem dX9_fits_63 : decode cX9_fits 63 = .ok (.istore 7, 2) := by decide +kernel
theorem dX9_fits_65 : decode cX9_fits 65 = .ok (.iload 7, 2) := by decide +kernel
theorem dX9_fits_67 : decode cX9_fits 67 = .ok (.iload 4, 2) := by decide +kernel
theorem dX9_fits_69 : decode cX9_fits 69 = .ok (.if_icmp .ge 50, 3) := by decide +kernel
theorem dX9_fits_72 : decode cX9_fits 72 = .ok (.iload 6, 2) := by decide +kernel
theorem dX9_fits_74 : decode cX9_fits 74 = .ok (.ifCond .eq 45, 3) := by decide +kernel
theorem dX9_fits_77 : decode cX9_fits 77 = .ok (.aload_n 0, 1) := by decide +kernel
theorem dX9_fits_78 : decode cX9_fits 78 = .ok (.getfield 46, 3) := by decide +kernel
theorem dX9_fits_81 : decode cX9_fits 81 = .ok (.aload_n 0, 1) := by decide +kernel
theorem dX9_fits_82 : decode cX9_fits 82 = .ok (.getfield 122, 3) := by decide +kernel
theorem dX9_fits_85 : decode cX9_fits 85 = .ok (.iload_n 2, 1) := by decide +kernel
theorem dX9_fits_86 : decode cX9_fits 86 = .ok (.iaload, 1) := by decide +kernel
theorem dX9_fits_87 : decode cX9_fits 87 = .ok (.iload 7, 2) := by decide +kernel
theorem dX9_fits_89 : decode cX9_fits 89 = .ok (.iadd, 1) := by decide +kernel
theorem dX9_fits_90 : decode cX9_fits 90 = .ok (.baload, 1) := by decide +kernel
theorem dX9_fits_91 : decode cX9_fits 91 = .ok (.aload_n 0, 1) := by decide +kernel
theorem dX9_fits_92 : decode cX9_fits 92 = .ok (.getfield 103, 3) := by decide +kernel
theorem dX9_fits_95 : decode cX9_fits 95 = .ok (.bipush 12, 2) := by decide +kernel
theorem dX9_fits_97 : decode cX9_fits 97 = .ok (.iload_n 1, 1) := by decide +kernel
theorem dX9_fits_98 : decode cX9_fits 98 = .ok (.imul, 1) := by decide +kernel
theorem dX9_fits_99 : decode cX9_fits 99 = .ok (.iload 7, 2) := by decide +kernel
theorem dX9_fits_101 : decode cX9_fits 101 = .ok (.iadd, 1) := by decide +kernel
theorem dX9_fits_102 : decode cX9_fits 102 = .ok (.baload, 1) := by decide +kernel
theorem dX9_fits_103 : decode cX9_fits 103 = .ok (.if_icmp .ne 7, 3) := by decide +kernel
theorem dX9_fits_106 : decode cX9_fits 106 = .ok (.iconst 1, 1) := by decide +kernel
theorem dX9_fits_107 : decode cX9_fits 107 = .ok (.goto 4, 3) := by decide +kernel
theorem dX9_fits_110 : decode cX9_fits 110 = .ok (.iconst 0, 1) := by decide +kernel
theorem dX9_fits_111 : decode cX9_fits 111 = .ok (.istore 6, 2) := by decide +kernel
theorem dX9_fits_113 : decode cX9_fits 113 = .ok (.iinc 7 1, 3) := by decide +kernel
theorem dX9_fits_116 : decode cX9_fits 116 = .ok (.goto (-51), 3) := by decide +kernel
theorem dX9_fits_119 : decode cX9_fits 119 = .ok (.iconst 0, 1) := by decide +kernel
theorem dX9_fits_120 : decode cX9_fits 120 = .ok (.istore 7, 2) := by decide +kernel
theorem dX9_fits_122 : decode cX9_fits 122 = .ok (.iload 7, 2) := by decide +kernel
theorem dX9_fits_124 : decode cX9_fits 124 = .ok (.iload 5, 2) := by decide +kernel
theorem dX9_fits_126 : decode cX9_fits 126 = .ok (.if_icmp .ge 55, 3) := by decide +kernel
theorem dX9_fits_129 : decode cX9_fits 129 = .ok (.iload 6, 2) := by decide +kernel
theorem dX9_fits_131 : decode cX9_fits 131 = .ok (.ifCond .eq 50, 3) := by decide +kernel
theorem dX9_fits_134 : decode cX9_fits 134 = .ok (.aload_n 0, 1) := by decide +kernel
theorem dX9_fits_135 : decode cX9_fits 135 = .ok (.getfield 46, 3) := by decide +kernel
theorem dX9_fits_138 : decode cX9_fits 138 = .ok (.aload_n 0, 1) := by decide +kernel
theorem dX9_fits_139 : decode cX9_fits 139 = .ok (.getfield 122, 3) := by decide +kernel
theorem dX9_fits_142 : decode cX9_fits 142 = .ok (.iload_n 2, 1) := by decide +kernel
theorem dX9_fits_143 : decode cX9_fits 143 = .ok (.iaload, 1) := by decide +kernel
theorem dX9_fits_144 : decode cX9_fits 144 = .ok (.iload_n 3, 1) := by decide +kernel
theorem dX9_fits_145 : decode cX9_fits 145 = .ok (.iadd, 1) := by decide +kernel
theorem dX9_fits_146 : decode cX9_fits 146 = .ok (.iload 5, 2) := by decide +kernel
theorem dX9_fits_148 : decode cX9_fits 148 = .ok (.isub, 1) := by decide +kernel
theorem dX9_fits_149 : decode cX9_fits 149 = .ok (.iload 7, 2) := by decide +kernel
theorem dX9_fits_151 : decode cX9_fits 151 = .ok (.iadd, 1) := by decide +kernel
theorem dX9_fits_152 : decode cX9_fits 152 = .ok (.baload, 1) := by decide +kernel
theorem dX9_fits_153 : decode cX9_fits 153 = .ok (.aload_n 0, 1) := by decide +kernel
theorem dX9_fits_154 : decode cX9_fits 154 = .ok (.getfield 113, 3) := by decide +kernel
theorem dX9_fits_157 : decode cX9_fits 157 = .ok (.bipush 12, 2) := by decide +kernel
theorem dX9_fits_159 : decode cX9_fits 159 = .ok (.iload_n 1, 1) := by decide +kernel
theorem dX9_fits_160 : decode cX9_fits 160 = .ok (.imul, 1) := by decide +kernel
theorem dX9_fits_161 : decode cX9_fits 161 = .ok (.iload 7, 2) := by decide +kernel
theorem dX9_fits_163 : decode cX9_fits 163 = .ok (.iadd, 1) := by decide +kernel
theorem dX9_fits_164 : decode cX9_fits 164 = .ok (.baload, 1) := by decide +kernel
theorem dX9_fits_165 : decode cX9_fits 165 = .ok (.if_icmp .ne 7, 3) := by decide +kernel
theorem dX9_fits_168 : decode cX9_fits 168 = .ok (.iconst 1, 1) := by decide +kernel
theorem dX9_fits_169 : decode cX9_fits 169 = .ok (.goto 4, 3) := by decide +kernel
theorem dX9_fits_172 : decode cX9_fits 172 = .ok (.iconst 0, 1) := by decide +kernel
theorem dX9_fits_173 : decode cX9_fits 173 = .ok (.istore 6, 2) := by decide +kernel
theorem dX9_fits_175 : decode cX9_fits 175 = .ok (.iinc 7 1, 3) := by decide +kernel
theorem dX9_fits_178 : decode cX9_fits 178 = .ok (.goto (-56), 3) := by decide +kernel
theorem dX9_fits_181 : decode cX9_fits 181 = .ok (.iload 6, 2) := by decide +kernel
theorem dX9_fits_183 : decode cX9_fits 183 = .ok (.ireturn, 1) := by decide +kernel
theorem dX9_suits_0 : decode cX9_suits 0 = .ok (.iload_n 0, 1) := by decide +kernel
theorem dX9_suits_1 : decode cX9_suits 1 = .ok (.ifCond .ne 16, 3) := by decide +kernel
theorem dX9_suits_4 : decode cX9_suits 4 = .ok (.iload_n 1, 1) := by decide +kernel
theorem dX9_suits_5 : decode cX9_suits 5 = .ok (.iconst 2, 1) := by decide +kernel
theorem dX9_suits_6 : decode cX9_suits 6 = .ok (.if_icmp .gt 7, 3) := by decide +kernel
theorem dX9_suits_9 : decode cX9_suits 9 = .ok (.iconst 1, 1) := by decide +kernel
theorem dX9_suits_10 : decode cX9_suits 10 = .ok (.goto 81, 3) := by decide +kernel
theorem dX9_suits_13 : decode cX9_suits 13 = .ok (.iconst 0, 1) := by decide +kernel
theorem dX9_suits_14 : decode cX9_suits 14 = .ok (.goto 77, 3) := by decide +kernel
theorem dX9_suits_17 : decode cX9_suits 17 = .ok (.iload_n 0, 1) := by decide +kernel
theorem dX9_suits_18 : decode cX9_suits 18 = .ok (.iconst 1, 1) := by decide +kernel
theorem dX9_suits_19 : decode cX9_suits 19 = .ok (.if_icmp .ne 15, 3) := by decide +kernel
theorem dX9_suits_22 : decode cX9_suits 22 = .ok (.iload_n 1, 1) := by decide +kernel
theorem dX9_suits_23 : decode cX9_suits 23 = .ok (.ifCond .ne 7, 3) := by decide +kernel
theorem dX9_suits_26 : decode cX9_suits 26 = .ok (.iconst 1, 1) := by decide +kernel
theorem dX9_suits_27 : decode cX9_suits 27 = .ok (.goto 64, 3) := by decide +kernel
theorem dX9_suits_30 : decode cX9_suits 30 = .ok (.iconst 0, 1) := by decide +kernel
theorem dX9_suits_31 : decode cX9_suits 31 = .ok (.goto 60, 3) := by decide +kernel
theorem dX9_suits_34 : decode cX9_suits 34 = .ok (.iload_n 0, 1) := by decide +kernel
theorem dX9_suits_35 : decode cX9_suits 35 = .ok (.iconst 2, 1) := by decide +kernel
theorem dX9_suits_36 : decode cX9_suits 36 = .ok (.if_icmp .eq 8, 3) := by decide +kernel
theorem dX9_suits_39 : decode cX9_suits 39 = .ok (.iload_n 0, 1) := by decide +kernel
theorem dX9_suits_40 : decode cX9_suits 40 = .ok (.iconst 3, 1) := by decide +kernel
theorem dX9_suits_41 : decode cX9_suits 41 = .ok (.if_icmp .ne 16, 3) := by decide +kernel
theorem dX9_suits_44 : decode cX9_suits 44 = .ok (.iload_n 1, 1) := by decide +kernel
theorem dX9_suits_45 : decode cX9_suits 45 = .ok (.iconst 1, 1) := by decide +kernel
theorem dX9_suits_46 : decode cX9_suits 46 = .ok (.if_icmp .ne 7, 3) := by decide +kernel
theorem dX9_suits_49 : decode cX9_suits 49 = .ok (.iconst 1, 1) := by decide +kernel
theorem dX9_suits_50 : decode cX9_suits 50 = .ok (.goto 41, 3) := by decide +kernel
theorem dX9_suits_53 : decode cX9_suits 53 = .ok (.iconst 0, 1) := by decide +kernel
theorem dX9_suits_54 : decode cX9_suits 54 = .ok (.goto 37, 3) := by decide +kernel
theorem dX9_suits_57 : decode cX9_suits 57 = .ok (.iload_n 0, 1) := by decide +kernel
theorem dX9_suits_58 : decode cX9_suits 58 = .ok (.iconst 4, 1) := by decide +kernel
theorem dX9_suits_59 : decode cX9_suits 59 = .ok (.if_icmp .ne 16, 3) := by decide +kernel
theorem dX9_suits_62 : decode cX9_suits 62 = .ok (.iload_n 1, 1) := by decide +kernel
theorem dX9_suits_63 : decode cX9_suits 63 = .ok (.iconst 2, 1) := by decide +kernel
theorem dX9_suits_64 : decode cX9_suits 64 = .ok (.if_icmp .ne 7, 3) := by decide +kernel
theorem dX9_suits_67 : decode cX9_suits 67 = .ok (.iconst 1, 1) := by decide +kernel
theorem dX9_suits_68 : decode cX9_suits 68 = .ok (.goto 23, 3) := by decide +kernel
theorem dX9_suits_71 : decode cX9_suits 71 = .ok (.iconst 0, 1) := by decide +kernel
theorem dX9_suits_72 : decode cX9_suits 72 = .ok (.goto 19, 3) := by decide +kernel
theorem dX9_suits_75 : decode cX9_suits 75 = .ok (.iload_n 0, 1) := by decide +kernel
theorem dX9_suits_76 : decode cX9_suits 76 = .ok (.bipush 6, 2) := by decide +kernel
theorem dX9_suits_78 : decode cX9_suits 78 = .ok (.if_icmp .gt 12, 3) := by decide +kernel
theorem dX9_suits_81 : decode cX9_suits 81 = .ok (.iload_n 1, 1) := by decide +kernel
theorem dX9_suits_82 : decode cX9_suits 82 = .ok (.iconst 3, 1) := by decide +kernel
theorem dX9_suits_83 : decode cX9_suits 83 = .ok (.if_icmp .ne 7, 3) := by decide +kernel
theorem dX9_suits_86 : decode cX9_suits 86 = .ok (.iconst 1, 1) := by decide +kernel
theorem dX9_suits_87 : decode cX9_suits 87 = .ok (.goto 4, 3) := by decide +kernel
theorem dX9_suits_90 : decode cX9_suits 90 = .ok (.iconst 0, 1) := by decide +kernel
theorem dX9_suits_91 : decode cX9_suits 91 = .ok (.ireturn, 1) := by decide +kernel
theorem dX9_firstRule_0 : decode cX9_firstRule 0 = .ok (.iconst 0, 1) := by decide +kernel
theorem dX9_firstRule_1 : decode cX9_firstRule 1 = .ok (.istore 4, 2) := by decide +kernel
theorem dX9_firstRule_3 : decode cX9_firstRule 3 = .ok (.iload 4, 2) := by decide +kernel
theorem dX9_firstRule_5 : decode cX9_firstRule 5 = .ok (.aload_n 0, 1) := by decide +kernel
theorem dX9_firstRule_6 : decode cX9_firstRule 6 = .ok (.getfield 64, 3) := by decide +kernel
theorem dX9_firstRule_9 : decode cX9_firstRule 9 = .ok (.iload_n 1, 1) := by decide +kernel
theorem dX9_firstRule_10 : decode cX9_firstRule 10 = .ok (.iaload, 1) := by decide +kernel
theorem dX9_firstRule_11 : decode cX9_firstRule 11 = .ok (.if_icmp .ge 46, 3) := by decide +kernel
theorem dX9_firstRule_14 : decode cX9_firstRule 14 = .ok (.aload_n 0, 1) := by decide +kernel
theorem dX9_firstRule_15 : decode cX9_firstRule 15 = .ok (.bipush 8, 2) := by decide +kernel
theorem dX9_firstRule_17 : decode cX9_firstRule 17 = .ok (.iload_n 1, 1) := by decide +kernel
theorem dX9_firstRule_18 : decode cX9_firstRule 18 = .ok (.imul, 1) := by decide +kernel
theorem dX9_firstRule_19 : decode cX9_firstRule 19 = .ok (.iload 4, 2) := by decide +kernel
theorem dX9_firstRule_21 : decode cX9_firstRule 21 = .ok (.iadd, 1) := by decide +kernel
theorem dX9_firstRule_22 : decode cX9_firstRule 22 = .ok (.iload_n 2, 1) := by decide +kernel
theorem dX9_firstRule_23 : decode cX9_firstRule 23 = .ok (.invokevirtual 302, 3) := by decide +kernel
theorem dX9_firstRule_26 : decode cX9_firstRule 26 = .ok (.ifCond .eq 25, 3) := by decide +kernel
theorem dX9_firstRule_29 : decode cX9_firstRule 29 = .ok (.aload_n 0, 1) := by decide +kernel
theorem dX9_firstRule_30 : decode cX9_firstRule 30 = .ok (.getfield 116, 3) := by decide +kernel
theorem dX9_firstRule_33 : decode cX9_firstRule 33 = .ok (.bipush 8, 2) := by decide +kernel
theorem dX9_firstRule_35 : decode cX9_firstRule 35 = .ok (.iload_n 1, 1) := by decide +kernel
theorem dX9_firstRule_36 : decode cX9_firstRule 36 = .ok (.imul, 1) := by decide +kernel
theorem dX9_firstRule_37 : decode cX9_firstRule 37 = .ok (.iload 4, 2) := by decide +kernel
theorem dX9_firstRule_39 : decode cX9_firstRule 39 = .ok (.iadd, 1) := by decide +kernel
theorem dX9_firstRule_40 : decode cX9_firstRule 40 = .ok (.iaload, 1) := by decide +kernel
theorem dX9_firstRule_41 : decode cX9_firstRule 41 = .ok (.iload_n 3, 1) := by decide +kernel
theorem dX9_firstRule_42 : decode cX9_firstRule 42 = .ok (.invokestatic 305, 3) := by decide +kernel
theorem dX9_firstRule_45 : decode cX9_firstRule 45 = .ok (.ifCond .eq 6, 3) := by decide +kernel
theorem dX9_firstRule_48 : decode cX9_firstRule 48 = .ok (.iload 4, 2) := by decide +kernel
theorem dX9_firstRule_50 : decode cX9_firstRule 50 = .ok (.ireturn, 1) := by decide +kernel
theorem dX9_firstRule_51 : decode cX9_firstRule 51 = .ok (.iinc 4 1, 3) := by decide +kernel
theorem dX9_firstRule_54 : decode cX9_firstRule 54 = .ok (.goto (-51), 3) := by decide +kernel
theorem dX9_firstRule_57 : decode cX9_firstRule 57 = .ok (.bipush (-2), 2) := by decide +kernel
theorem dX9_firstRule_59 : decode cX9_firstRule 59 = .ok (.ireturn, 1) := by decide +kernel
theorem dX9_rule__0 : decode cX9_rule_ 0 = .ok (.aload_n 0, 1) := by decide +kernel
theorem dX9_rule__1 : decode cX9_rule_ 1 = .ok (.invokevirtual 296, 3) := by decide +kernel
theorem dX9_rule__4 : decode cX9_rule_ 4 = .ok (.istore_n 3, 1) := by decide +kernel
theorem dX9_rule__5 : decode cX9_rule_ 5 = .ok (.aload_n 0, 1) := by decide +kernel
theorem dX9_rule__6 : decode cX9_rule_ 6 = .ok (.iload_n 1, 1) := by decide +kernel
theorem dX9_rule__7 : decode cX9_rule_ 7 = .ok (.invokevirtual 299, 3) := by decide +kernel
theorem dX9_rule__10 : decode cX9_rule_ 10 = .ok (.ifCond .eq 12, 3) := by decide +kernel
theorem dX9_rule__13 : decode cX9_rule_ 13 = .ok (.iload_n 2, 1) := by decide +kernel
theorem dX9_rule__14 : decode cX9_rule_ 14 = .ok (.iconst 0, 1) := by decide +kernel
theorem dX9_rule__15 : decode cX9_rule_ 15 = .ok (.iconst 3, 1) := by decide +kernel
theorem dX9_rule__16 : decode cX9_rule_ 16 = .ok (.invokestatic 173, 3) := by decide +kernel
theorem dX9_rule__19 : decode cX9_rule_ 19 = .ok (.ifCond .ne 5, 3) := by decide +kernel
theorem dX9_rule__22 : decode cX9_rule_ 22 = .ok (.iconst (-1), 1) := by decide +kernel
theorem dX9_rule__23 : decode cX9_rule_ 23 = .ok (.ireturn, 1) := by decide +kernel
theorem dX9_rule__24 : decode cX9_rule_ 24 = .ok (.iload_n 3, 1) := by decide +kernel
theorem dX9_rule__25 : decode cX9_rule_ 25 = .ok (.iconst 1, 1) := by decide +kernel
theorem dX9_rule__26 : decode cX9_rule_ 26 = .ok (.if_icmp .ne 13, 3) := by decide +kernel
theorem dX9_rule__29 : decode cX9_rule_ 29 = .ok (.aload_n 0, 1) := by decide +kernel
theorem dX9_rule__30 : decode cX9_rule_ 30 = .ok (.iload_n 1, 1) := by decide +kernel
theorem dX9_rule__31 : decode cX9_rule_ 31 = .ok (.iconst 0, 1) := by decide +kernel
theorem dX9_rule__32 : decode cX9_rule_ 32 = .ok (.iload_n 2, 1) := by decide +kernel
theorem dX9_rule__33 : decode cX9_rule_ 33 = .ok (.invokevirtual 308, 3) := by decide +kernel
theorem dX9_rule__36 : decode cX9_rule_ 36 = .ok (.goto 5, 3) := by decide +kernel
theorem dX9_rule__39 : decode cX9_rule_ 39 = .ok (.bipush (-2), 2) := by decide +kernel
theorem dX9_rule__41 : decode cX9_rule_ 41 = .ok (.ireturn, 1) := by decide +kernel
theorem dX9_depthOf_0 : decode cX9_depthOf 0 = .ok (.iconst 0, 1) := by decide +kernel
theorem dX9_depthOf_1 : decode cX9_depthOf 1 = .ok (.istore_n 3, 1) := by decide +kernel
theorem dX9_depthOf_2 : decode cX9_depthOf 2 = .ok (.aload_n 0, 1) := by decide +kernel
theorem dX9_depthOf_3 : decode cX9_depthOf 3 = .ok (.getfield 97, 3) := by decide +kernel
theorem dX9_depthOf_6 : decode cX9_depthOf 6 = .ok (.bipush 40, 2) := by decide +kernel
theorem dX9_depthOf_8 : decode cX9_depthOf 8 = .ok (.iload_n 1, 1) := by decide +kernel
theorem dX9_depthOf_9 : decode cX9_depthOf 9 = .ok (.imul, 1) := by decide +kernel
theorem dX9_depthOf_10 : decode cX9_depthOf 10 = .ok (.iload_n 2, 1) := by decide +kernel
theorem dX9_depthOf_11 : decode cX9_depthOf 11 = .ok (.iadd, 1) := by decide +kernel
theorem dX9_depthOf_12 : decode cX9_depthOf 12 = .ok (.iaload, 1) := by decide +kernel
theorem dX9_depthOf_13 : decode cX9_depthOf 13 = .ok (.istore 4, 2) := by decide +kernel
theorem dX9_depthOf_15 : decode cX9_depthOf 15 = .ok (.iload 4, 2) := by decide +kernel
theorem dX9_depthOf_17 : decode cX9_depthOf 17 = .ok (.bipush (-2), 2) := by decide +kernel
theorem dX9_depthOf_19 : decode cX9_depthOf 19 = .ok (.if_icmp .eq 23, 3) := by decide +kernel
theorem dX9_depthOf_22 : decode cX9_depthOf 22 = .ok (.iinc 3 1, 3) := by decide +kernel
theorem dX9_depthOf_25 : decode cX9_depthOf 25 = .ok (.aload_n 0, 1) := by decide +kernel
theorem dX9_depthOf_26 : decode cX9_depthOf 26 = .ok (.getfield 97, 3) := by decide +kernel
theorem dX9_depthOf_29 : decode cX9_depthOf 29 = .ok (.bipush 40, 2) := by decide +kernel
theorem dX9_depthOf_31 : decode cX9_depthOf 31 = .ok (.iload_n 1, 1) := by decide +kernel
theorem dX9_depthOf_32 : decode cX9_depthOf 32 = .ok (.imul, 1) := by decide +kernel
theorem dX9_depthOf_33 : decode cX9_depthOf 33 = .ok (.iload 4, 2) := by decide +kernel
theorem dX9_depthOf_35 : decode cX9_depthOf 35 = .ok (.iadd, 1) := by decide +kernel
theorem dX9_depthOf_36 : decode cX9_depthOf 36 = .ok (.iaload, 1) := by decide +kernel
theorem dX9_depthOf_37 : decode cX9_depthOf 37 = .ok (.istore 4, 2) := by decide +kernel
theorem dX9_depthOf_39 : decode cX9_depthOf 39 = .ok (.goto (-24), 3) := by decide +kernel
theorem dX9_depthOf_42 : decode cX9_depthOf 42 = .ok (.iload_n 3, 1) := by decide +kernel
theorem dX9_depthOf_43 : decode cX9_depthOf 43 = .ok (.ireturn, 1) := by decide +kernel
theorem dX9_grow_0 : decode cX9_grow 0 = .ok (.aload_n 0, 1) := by decide +kernel
theorem dX9_grow_1 : decode cX9_grow 1 = .ok (.invokevirtual 296, 3) := by decide +kernel
theorem dX9_grow_4 : decode cX9_grow 4 = .ok (.istore_n 3, 1) := by decide +kernel
theorem dX9_grow_5 : decode cX9_grow 5 = .ok (.aload_n 0, 1) := by decide +kernel
theorem dX9_grow_6 : decode cX9_grow 6 = .ok (.iload_n 1, 1) := by decide +kernel
theorem dX9_grow_7 : decode cX9_grow 7 = .ok (.invokevirtual 299, 3) := by decide +kernel
theorem dX9_grow_10 : decode cX9_grow 10 = .ok (.ifCond .eq 12, 3) := by decide +kernel
theorem dX9_grow_13 : decode cX9_grow 13 = .ok (.iload_n 2, 1) := by decide +kernel
theorem dX9_grow_14 : decode cX9_grow 14 = .ok (.iconst 0, 1) := by decide +kernel
theorem dX9_grow_15 : decode cX9_grow 15 = .ok (.iconst 3, 1) := by decide +kernel
theorem dX9_grow_16 : decode cX9_grow 16 = .ok (.invokestatic 173, 3) := by decide +kernel
theorem dX9_grow_19 : decode cX9_grow 19 = .ok (.ifCond .ne 5, 3) := by decide +kernel
theorem dX9_grow_22 : decode cX9_grow 22 = .ok (.iconst (-1), 1) := by decide +kernel
theorem dX9_grow_23 : decode cX9_grow 23 = .ok (.ireturn, 1) := by decide +kernel
theorem dX9_grow_24 : decode cX9_grow 24 = .ok (.iload_n 3, 1) := by decide +kernel
theorem dX9_grow_25 : decode cX9_grow 25 = .ok (.ifCond .ne 6, 3) := by decide +kernel
theorem dX9_grow_28 : decode cX9_grow 28 = .ok (.bipush (-2), 2) := by decide +kernel
theorem dX9_grow_30 : decode cX9_grow 30 = .ok (.ireturn, 1) := by decide +kernel
theorem dX9_grow_31 : decode cX9_grow 31 = .ok (.aload_n 0, 1) := by decide +kernel
theorem dX9_grow_32 : decode cX9_grow 32 = .ok (.iload_n 1, 1) := by decide +kernel
theorem dX9_grow_33 : decode cX9_grow 33 = .ok (.iconst 0, 1) := by decide +kernel
theorem dX9_grow_34 : decode cX9_grow 34 = .ok (.iload_n 3, 1) := by decide +kernel
theorem dX9_grow_35 : decode cX9_grow 35 = .ok (.invokevirtual 280, 3) := by decide +kernel
theorem dX9_grow_38 : decode cX9_grow 38 = .ok (.bipush (-2), 2) := by decide +kernel
theorem dX9_grow_40 : decode cX9_grow 40 = .ok (.if_icmp .eq 5, 3) := by decide +kernel
theorem dX9_grow_43 : decode cX9_grow 43 = .ok (.iload_n 1, 1) := by decide +kernel
theorem dX9_grow_44 : decode cX9_grow 44 = .ok (.ireturn, 1) := by decide +kernel
theorem dX9_grow_45 : decode cX9_grow 45 = .ok (.iload_n 3, 1) := by decide +kernel
theorem dX9_grow_46 : decode cX9_grow 46 = .ok (.iconst 1, 1) := by decide +kernel
theorem dX9_grow_47 : decode cX9_grow 47 = .ok (.if_icmp .ne 8, 3) := by decide +kernel
theorem dX9_grow_50 : decode cX9_grow 50 = .ok (.bipush (-2), 2) := by decide +kernel
theorem dX9_grow_52 : decode cX9_grow 52 = .ok (.goto 12, 3) := by decide +kernel
theorem dX9_grow_55 : decode cX9_grow 55 = .ok (.aload_n 0, 1) := by decide +kernel
theorem dX9_grow_56 : decode cX9_grow 56 = .ok (.iload_n 1, 1) := by decide +kernel
theorem dX9_grow_57 : decode cX9_grow 57 = .ok (.iconst 0, 1) := by decide +kernel
theorem dX9_grow_58 : decode cX9_grow 58 = .ok (.iload_n 3, 1) := by decide +kernel
theorem dX9_grow_59 : decode cX9_grow 59 = .ok (.iconst 1, 1) := by decide +kernel
theorem dX9_grow_60 : decode cX9_grow 60 = .ok (.isub, 1) := by decide +kernel
theorem dX9_grow_61 : decode cX9_grow 61 = .ok (.invokevirtual 280, 3) := by decide +kernel
theorem dX9_grow_64 : decode cX9_grow 64 = .ok (.istore 4, 2) := by decide +kernel
theorem dX9_grow_66 : decode cX9_grow 66 = .ok (.iload_n 3, 1) := by decide +kernel
theorem dX9_grow_67 : decode cX9_grow 67 = .ok (.iconst 1, 1) := by decide +kernel
theorem dX9_grow_68 : decode cX9_grow 68 = .ok (.if_icmp .le 46, 3) := by decide +kernel
theorem dX9_grow_71 : decode cX9_grow 71 = .ok (.iload 4, 2) := by decide +kernel
theorem dX9_grow_73 : decode cX9_grow 73 = .ok (.bipush (-2), 2) := by decide +kernel
theorem dX9_grow_75 : decode cX9_grow 75 = .ok (.if_icmp .eq 36, 3) := by decide +kernel
theorem dX9_grow_78 : decode cX9_grow 78 = .ok (.aload_n 0, 1) := by decide +kernel
theorem dX9_grow_79 : decode cX9_grow 79 = .ok (.getfield 76, 3) := by decide +kernel
theorem dX9_grow_82 : decode cX9_grow 82 = .ok (.bipush 40, 2) := by decide +kernel
theorem dX9_grow_84 : decode cX9_grow 84 = .ok (.iload_n 1, 1) := by decide +kernel
theorem dX9_grow_85 : decode cX9_grow 85 = .ok (.imul, 1) := by decide +kernel
theorem dX9_grow_86 : decode cX9_grow 86 = .ok (.iload 4, 2) := by decide +kernel
theorem dX9_grow_88 : decode cX9_grow 88 = .ok (.iadd, 1) := by decide +kernel
theorem dX9_grow_89 : decode cX9_grow 89 = .ok (.iaload, 1) := by decide +kernel
theorem dX9_grow_90 : decode cX9_grow 90 = .ok (.iconst 5, 1) := by decide +kernel
theorem dX9_grow_91 : decode cX9_grow 91 = .ok (.if_icmp .eq 23, 3) := by decide +kernel
theorem dX9_grow_94 : decode cX9_grow 94 = .ok (.aload_n 0, 1) := by decide +kernel
theorem dX9_grow_95 : decode cX9_grow 95 = .ok (.getfield 76, 3) := by decide +kernel
theorem dX9_grow_98 : decode cX9_grow 98 = .ok (.bipush 40, 2) := by decide +kernel
theorem dX9_grow_100 : decode cX9_grow 100 = .ok (.iload_n 1, 1) := by decide +kernel
theorem dX9_grow_101 : decode cX9_grow 101 = .ok (.imul, 1) := by decide +kernel
theorem dX9_grow_102 : decode cX9_grow 102 = .ok (.iload 4, 2) := by decide +kernel
theorem dX9_grow_104 : decode cX9_grow 104 = .ok (.iadd, 1) := by decide +kernel
theorem dX9_grow_105 : decode cX9_grow 105 = .ok (.iaload, 1) := by decide +kernel
theorem dX9_grow_106 : decode cX9_grow 106 = .ok (.bipush 6, 2) := by decide +kernel
theorem dX9_grow_108 : decode cX9_grow 108 = .ok (.if_icmp .eq 6, 3) := by decide +kernel
theorem dX9_grow_111 : decode cX9_grow 111 = .ok (.bipush (-2), 2) := by decide +kernel
theorem dX9_grow_113 : decode cX9_grow 113 = .ok (.ireturn, 1) := by decide +kernel
theorem dX9_grow_114 : decode cX9_grow 114 = .ok (.aload_n 0, 1) := by decide +kernel
theorem dX9_grow_115 : decode cX9_grow 115 = .ok (.getfield 183, 3) := by decide +kernel
theorem dX9_grow_118 : decode cX9_grow 118 = .ok (.iconst 1, 1) := by decide +kernel
theorem dX9_grow_119 : decode cX9_grow 119 = .ok (.isub, 1) := by decide +kernel
theorem dX9_grow_120 : decode cX9_grow 120 = .ok (.istore 5, 2) := by decide +kernel
theorem dX9_grow_122 : decode cX9_grow 122 = .ok (.aload_n 0, 1) := by decide +kernel
theorem dX9_grow_123 : decode cX9_grow 123 = .ok (.iload_n 1, 1) := by decide +kernel
theorem dX9_grow_124 : decode cX9_grow 124 = .ok (.iload 5, 2) := by decide +kernel
theorem dX9_grow_126 : decode cX9_grow 126 = .ok (.iload_n 2, 1) := by decide +kernel
theorem dX9_grow_127 : decode cX9_grow 127 = .ok (.invokevirtual 308, 3) := by decide +kernel
theorem dX9_grow_130 : decode cX9_grow 130 = .ok (.istore 6, 2) := by decide +kernel
theorem dX9_grow_132 : decode cX9_grow 132 = .ok (.aload_n 0, 1) := by decide +kernel
theorem dX9_grow_133 : decode cX9_grow 133 = .ok (.iload 5, 2) := by decide +kernel
theorem dX9_grow_135 : decode cX9_grow 135 = .ok (.invokevirtual 212, 3) := by decide +kernel
theorem dX9_grow_138 : decode cX9_grow 138 = .ok (.ldc2_w 264, 3) := by decide +kernel
theorem dX9_grow_141 : decode cX9_grow 141 = .ok (.lcmp, 1) := by decide +kernel
theorem dX9_grow_142 : decode cX9_grow 142 = .ok (.ifCond .eq 16, 3) := by decide +kernel
theorem dX9_grow_145 : decode cX9_grow 145 = .ok (.aload_n 0, 1) := by decide +kernel
theorem dX9_grow_146 : decode cX9_grow 146 = .ok (.iload 5, 2) := by decide +kernel
theorem dX9_grow_148 : decode cX9_grow 148 = .ok (.invokevirtual 212, 3) := by decide +kernel
theorem dX9_grow_151 : decode cX9_grow 151 = .ok (.ldc2_w 266, 3) := by decide +kernel
theorem dX9_grow_154 : decode cX9_grow 154 = .ok (.lcmp, 1) := by decide +kernel
theorem dX9_grow_155 : decode cX9_grow 155 = .ok (.ifCond .ne 7, 3) := by decide +kernel
theorem dX9_grow_158 : decode cX9_grow 158 = .ok (.iconst 1, 1) := by decide +kernel
theorem dX9_grow_159 : decode cX9_grow 159 = .ok (.goto 4, 3) := by decide +kernel
theorem dX9_grow_162 : decode cX9_grow 162 = .ok (.iconst 0, 1) := by decide +kernel
theorem dX9_grow_163 : decode cX9_grow 163 = .ok (.istore 7, 2) := by decide +kernel
theorem dX9_grow_165 : decode cX9_grow 165 = .ok (.iload 7, 2) := by decide +kernel
theorem dX9_grow_167 : decode cX9_grow 167 = .ok (.ifCond .ne 43, 3) := by decide +kernel
theorem dX9_grow_170 : decode cX9_grow 170 = .ok (.iload 6, 2) := by decide +kernel
theorem dX9_grow_172 : decode cX9_grow 172 = .ok (.bipush (-2), 2) := by decide +kernel
theorem dX9_grow_174 : decode cX9_grow 174 = .ok (.if_icmp .eq 36, 3) := by decide +kernel
theorem dX9_grow_177 : decode cX9_grow 177 = .ok (.iload 4, 2) := by decide +kernel
theorem dX9_grow_179 : decode cX9_grow 179 = .ok (.bipush (-2), 2) := by decide +kernel
theorem dX9_grow_181 : decode cX9_grow 181 = .ok (.if_icmp .eq 14, 3) := by decide +kernel
theorem dX9_grow_184 : decode cX9_grow 184 = .ok (.aload_n 0, 1) := by decide +kernel
theorem dX9_grow_185 : decode cX9_grow 185 = .ok (.iload_n 1, 1) := by decide +kernel
theorem dX9_grow_186 : decode cX9_grow 186 = .ok (.iload 4, 2) := by decide +kernel
theorem dX9_grow_188 : decode cX9_grow 188 = .ok (.invokevirtual 311, 3) := by decide +kernel
theorem dX9_grow_191 : decode cX9_grow 191 = .ok (.iconst 4, 1) := by decide +kernel
theorem dX9_grow_192 : decode cX9_grow 192 = .ok (.if_icmp .eq 18, 3) := by decide +kernel
theorem dX9_grow_195 : decode cX9_grow 195 = .ok (.aload_n 0, 1) := by decide +kernel
theorem dX9_grow_196 : decode cX9_grow 196 = .ok (.getfield 60, 3) := by decide +kernel
theorem dX9_grow_199 : decode cX9_grow 199 = .ok (.iload_n 1, 1) := by decide +kernel
theorem dX9_grow_200 : decode cX9_grow 200 = .ok (.iaload, 1) := by decide +kernel
theorem dX9_grow_201 : decode cX9_grow 201 = .ok (.aload_n 0, 1) := by decide +kernel
theorem dX9_grow_202 : decode cX9_grow 202 = .ok (.getfield 67, 3) := by decide +kernel
theorem dX9_grow_205 : decode cX9_grow 205 = .ok (.iload_n 1, 1) := by decide +kernel
theorem dX9_grow_206 : decode cX9_grow 206 = .ok (.iaload, 1) := by decide +kernel
theorem dX9_grow_207 : decode cX9_grow 207 = .ok (.if_icmp .ne 6, 3) := by decide +kernel
theorem dX9_grow_210 : decode cX9_grow 210 = .ok (.bipush (-2), 2) := by decide +kernel
theorem dX9_grow_212 : decode cX9_grow 212 = .ok (.ireturn, 1) := by decide +kernel
theorem dX9_grow_213 : decode cX9_grow 213 = .ok (.aload_n 0, 1) := by decide +kernel
theorem dX9_grow_214 : decode cX9_grow 214 = .ok (.getfield 170, 3) := by decide +kernel
theorem dX9_grow_217 : decode cX9_grow 217 = .ok (.bipush 8, 2) := by decide +kernel
theorem dX9_grow_219 : decode cX9_grow 219 = .ok (.if_icmp .ne 6, 3) := by decide +kernel
theorem dX9_grow_222 : decode cX9_grow 222 = .ok (.bipush (-3), 2) := by decide +kernel
theorem dX9_grow_224 : decode cX9_grow 224 = .ok (.ireturn, 1) := by decide +kernel
theorem dX9_grow_225 : decode cX9_grow 225 = .ok (.aload_n 0, 1) := by decide +kernel
theorem dX9_grow_226 : decode cX9_grow 226 = .ok (.iload_n 1, 1) := by decide +kernel
theorem dX9_grow_227 : decode cX9_grow 227 = .ok (.iload 4, 2) := by decide +kernel
theorem dX9_grow_229 : decode cX9_grow 229 = .ok (.iload 5, 2) := by decide +kernel
theorem dX9_grow_231 : decode cX9_grow 231 = .ok (.aload_n 0, 1) := by decide +kernel
theorem dX9_grow_232 : decode cX9_grow 232 = .ok (.getfield 116, 3) := by decide +kernel
theorem dX9_grow_235 : decode cX9_grow 235 = .ok (.bipush 8, 2) := by decide +kernel
theorem dX9_grow_237 : decode cX9_grow 237 = .ok (.iload_n 1, 1) := by decide +kernel
theorem dX9_grow_238 : decode cX9_grow 238 = .ok (.imul, 1) := by decide +kernel
theorem dX9_grow_239 : decode cX9_grow 239 = .ok (.iload 6, 2) := by decide +kernel
theorem dX9_grow_241 : decode cX9_grow 241 = .ok (.iadd, 1) := by decide +kernel
theorem dX9_grow_242 : decode cX9_grow 242 = .ok (.iaload, 1) := by decide +kernel
theorem dX9_grow_243 : decode cX9_grow 243 = .ok (.invokevirtual 315, 3) := by decide +kernel
theorem dX9_grow_246 : decode cX9_grow 246 = .ok (.aload_n 0, 1) := by decide +kernel
theorem dX9_grow_247 : decode cX9_grow 247 = .ok (.dup, 1) := by decide +kernel
theorem dX9_grow_248 : decode cX9_grow 248 = .ok (.getfield 170, 3) := by decide +kernel
theorem dX9_grow_251 : decode cX9_grow 251 = .ok (.iconst 1, 1) := by decide +kernel
theorem dX9_grow_252 : decode cX9_grow 252 = .ok (.iadd, 1) := by decide +kernel
theorem dX9_grow_253 : decode cX9_grow 253 = .ok (.putfield 170, 3) := by decide +kernel
theorem dX9_grow_256 : decode cX9_grow 256 = .ok (.aload_n 0, 1) := by decide +kernel
theorem dX9_grow_257 : decode cX9_grow 257 = .ok (.getfield 170, 3) := by decide +kernel
theorem dX9_grow_260 : decode cX9_grow 260 = .ok (.iconst 1, 1) := by decide +kernel
theorem dX9_grow_261 : decode cX9_grow 261 = .ok (.isub, 1) := by decide +kernel
theorem dX9_grow_262 : decode cX9_grow 262 = .ok (.ireturn, 1) := by decide +kernel
theorem dX9_isWithin_0 : decode cX9_isWithin 0 = .ok (.iload_n 2, 1) := by decide +kernel
theorem dX9_isWithin_1 : decode cX9_isWithin 1 = .ok (.istore 4, 2) := by decide +kernel
theorem dX9_isWithin_3 : decode cX9_isWithin 3 = .ok (.iload 4, 2) := by decide +kernel
theorem dX9_isWithin_5 : decode cX9_isWithin 5 = .ok (.bipush (-2), 2) := by decide +kernel
theorem dX9_isWithin_7 : decode cX9_isWithin 7 = .ok (.if_icmp .eq 26, 3) := by decide +kernel
theorem dX9_isWithin_10 : decode cX9_isWithin 10 = .ok (.iload 4, 2) := by decide +kernel
theorem dX9_isWithin_12 : decode cX9_isWithin 12 = .ok (.iload_n 3, 1) := by decide +kernel
theorem dX9_isWithin_13 : decode cX9_isWithin 13 = .ok (.if_icmp .eq 20, 3) := by decide +kernel
theorem dX9_isWithin_16 : decode cX9_isWithin 16 = .ok (.aload_n 0, 1) := by decide +kernel
theorem dX9_isWithin_17 : decode cX9_isWithin 17 = .ok (.getfield 97, 3) := by decide +kernel
theorem dX9_isWithin_20 : decode cX9_isWithin 20 = .ok (.bipush 40, 2) := by decide +kernel
theorem dX9_isWithin_22 : decode cX9_isWithin 22 = .ok (.iload_n 1, 1) := by decide +kernel
theorem dX9_isWithin_23 : decode cX9_isWithin 23 = .ok (.imul, 1) := by decide +kernel
theorem dX9_isWithin_24 : decode cX9_isWithin 24 = .ok (.iload 4, 2) := by decide +kernel
theorem dX9_isWithin_26 : decode cX9_isWithin 26 = .ok (.iadd, 1) := by decide +kernel
theorem dX9_isWithin_27 : decode cX9_isWithin 27 = .ok (.iaload, 1) := by decide +kernel
theorem dX9_isWithin_28 : decode cX9_isWithin 28 = .ok (.istore 4, 2) := by decide +kernel
theorem dX9_isWithin_30 : decode cX9_isWithin 30 = .ok (.goto (-27), 3) := by decide +kernel
theorem dX9_isWithin_33 : decode cX9_isWithin 33 = .ok (.iload 4, 2) := by decide +kernel
theorem dX9_isWithin_35 : decode cX9_isWithin 35 = .ok (.iload_n 3, 1) := by decide +kernel
theorem dX9_isWithin_36 : decode cX9_isWithin 36 = .ok (.if_icmp .ne 7, 3) := by decide +kernel
theorem dX9_isWithin_39 : decode cX9_isWithin 39 = .ok (.iconst 1, 1) := by decide +kernel
theorem dX9_isWithin_40 : decode cX9_isWithin 40 = .ok (.goto 4, 3) := by decide +kernel
theorem dX9_isWithin_43 : decode cX9_isWithin 43 = .ok (.iconst 0, 1) := by decide +kernel
theorem dX9_isWithin_44 : decode cX9_isWithin 44 = .ok (.ireturn, 1) := by decide +kernel
theorem dX9_grown_0 : decode cX9_grown 0 = .ok (.aload_n 0, 1) := by decide +kernel
theorem dX9_grown_1 : decode cX9_grown 1 = .ok (.getfield 170, 3) := by decide +kernel
theorem dX9_grown_4 : decode cX9_grown 4 = .ok (.istore 5, 2) := by decide +kernel
theorem dX9_grown_6 : decode cX9_grown 6 = .ok (.aload_n 0, 1) := by decide +kernel
theorem dX9_grown_7 : decode cX9_grown 7 = .ok (.getfield 60, 3) := by decide +kernel
theorem dX9_grown_10 : decode cX9_grown 10 = .ok (.iload_n 1, 1) := by decide +kernel
theorem dX9_grown_11 : decode cX9_grown 11 = .ok (.iaload, 1) := by decide +kernel
theorem dX9_grown_12 : decode cX9_grown 12 = .ok (.istore 6, 2) := by decide +kernel
theorem dX9_grown_14 : decode cX9_grown 14 = .ok (.iload_n 2, 1) := by decide +kernel
theorem dX9_grown_15 : decode cX9_grown 15 = .ok (.bipush (-2), 2) := by decide +kernel
theorem dX9_grown_17 : decode cX9_grown 17 = .ok (.if_icmp .eq 36, 3) := by decide +kernel
theorem dX9_grown_20 : decode cX9_grown 20 = .ok (.iload_n 2, 1) := by decide +kernel
theorem dX9_grown_21 : decode cX9_grown 21 = .ok (.iconst 1, 1) := by decide +kernel
theorem dX9_grown_22 : decode cX9_grown 22 = .ok (.iadd, 1) := by decide +kernel
theorem dX9_grown_23 : decode cX9_grown 23 = .ok (.istore 6, 2) := by decide +kernel
theorem dX9_grown_25 : decode cX9_grown 25 = .ok (.iload 6, 2) := by decide +kernel
theorem dX9_grown_27 : decode cX9_grown 27 = .ok (.aload_n 0, 1) := by decide +kernel
theorem dX9_grown_28 : decode cX9_grown 28 = .ok (.getfield 60, 3) := by decide +kernel
theorem dX9_grown_31 : decode cX9_grown 31 = .ok (.iload_n 1, 1) := by decide +kernel
theorem dX9_grown_32 : decode cX9_grown 32 = .ok (.iaload, 1) := by decide +kernel
theorem dX9_grown_33 : decode cX9_grown 33 = .ok (.if_icmp .ge 20, 3) := by decide +kernel
theorem dX9_grown_36 : decode cX9_grown 36 = .ok (.aload_n 0, 1) := by decide +kernel
theorem dX9_grown_37 : decode cX9_grown 37 = .ok (.iload_n 1, 1) := by decide +kernel
theorem dX9_grown_38 : decode cX9_grown 38 = .ok (.iload 6, 2) := by decide +kernel
theorem dX9_grown_40 : decode cX9_grown 40 = .ok (.iload_n 2, 1) := by decide +kernel
theorem dX9_grown_41 : decode cX9_grown 41 = .ok (.invokevirtual 319, 3) := by decide +kernel
theorem dX9_grown_44 : decode cX9_grown 44 = .ok (.ifCond .eq 9, 3) := by decide +kernel
theorem dX9_grown_47 : decode cX9_grown 47 = .ok (.iinc 6 1, 3) := by decide +kernel
theorem dX9_grown_50 : decode cX9_grown 50 = .ok (.goto (-25), 3) := by decide +kernel
theorem dX9_grown_53 : decode cX9_grown 53 = .ok (.aload_n 0, 1) := by decide +kernel
theorem dX9_grown_54 : decode cX9_grown 54 = .ok (.getfield 60, 3) := by decide +kernel
theorem dX9_grown_57 : decode cX9_grown 57 = .ok (.iload 5, 2) := by decide +kernel
theorem dX9_grown_59 : decode cX9_grown 59 = .ok (.aload_n 0, 1) := by decide +kernel
theorem dX9_grown_60 : decode cX9_grown 60 = .ok (.getfield 60, 3) := by decide +kernel
theorem dX9_grown_63 : decode cX9_grown 63 = .ok (.iload_n 1, 1) := by decide +kernel
theorem dX9_grown_64 : decode cX9_grown 64 = .ok (.iaload, 1) := by decide +kernel
theorem dX9_grown_65 : decode cX9_grown 65 = .ok (.iconst 1, 1) := by decide +kernel
theorem dX9_grown_66 : decode cX9_grown 66 = .ok (.iadd, 1) := by decide +kernel
theorem dX9_grown_67 : decode cX9_grown 67 = .ok (.iastore, 1) := by decide +kernel
theorem dX9_grown_68 : decode cX9_grown 68 = .ok (.aload_n 0, 1) := by decide +kernel
theorem dX9_grown_69 : decode cX9_grown 69 = .ok (.getfield 64, 3) := by decide +kernel
theorem dX9_grown_72 : decode cX9_grown 72 = .ok (.iload 5, 2) := by decide +kernel
theorem dX9_grown_74 : decode cX9_grown 74 = .ok (.aload_n 0, 1) := by decide +kernel
theorem dX9_grown_75 : decode cX9_grown 75 = .ok (.getfield 64, 3) := by decide +kernel
theorem dX9_grown_78 : decode cX9_grown 78 = .ok (.iload_n 1, 1) := by decide +kernel
theorem dX9_grown_79 : decode cX9_grown 79 = .ok (.iaload, 1) := by decide +kernel
theorem dX9_grown_80 : decode cX9_grown 80 = .ok (.iastore, 1) := by decide +kernel
theorem dX9_grown_81 : decode cX9_grown 81 = .ok (.aload_n 0, 1) := by decide +kernel
theorem dX9_grown_82 : decode cX9_grown 82 = .ok (.getfield 67, 3) := by decide +kernel
theorem dX9_grown_85 : decode cX9_grown 85 = .ok (.iload 5, 2) := by decide +kernel
theorem dX9_grown_87 : decode cX9_grown 87 = .ok (.aload_n 0, 1) := by decide +kernel
theorem dX9_grown_88 : decode cX9_grown 88 = .ok (.getfield 67, 3) := by decide +kernel
theorem dX9_grown_91 : decode cX9_grown 91 = .ok (.iload_n 1, 1) := by decide +kernel
theorem dX9_grown_92 : decode cX9_grown 92 = .ok (.iaload, 1) := by decide +kernel
theorem dX9_grown_93 : decode cX9_grown 93 = .ok (.iastore, 1) := by decide +kernel
theorem dX9_grown_94 : decode cX9_grown 94 = .ok (.iconst 0, 1) := by decide +kernel
theorem dX9_grown_95 : decode cX9_grown 95 = .ok (.istore 7, 2) := by decide +kernel
theorem dX9_grown_97 : decode cX9_grown 97 = .ok (.iload 7, 2) := by decide +kernel
theorem dX9_grown_99 : decode cX9_grown 99 = .ok (.aload_n 0, 1) := by decide +kernel
theorem dX9_grown_100 : decode cX9_grown 100 = .ok (.getfield 60, 3) := by decide +kernel
theorem dX9_grown_103 : decode cX9_grown 103 = .ok (.iload_n 1, 1) := by decide +kernel
theorem dX9_grown_104 : decode cX9_grown 104 = .ok (.iaload, 1) := by decide +kernel
theorem dX9_grown_105 : decode cX9_grown 105 = .ok (.if_icmp .ge 98, 3) := by decide +kernel
theorem dX9_grown_108 : decode cX9_grown 108 = .ok (.bipush 40, 2) := by decide +kernel
theorem dX9_grown_110 : decode cX9_grown 110 = .ok (.iload_n 1, 1) := by decide +kernel
theorem dX9_grown_111 : decode cX9_grown 111 = .ok (.imul, 1) := by decide +kernel
theorem dX9_grown_112 : decode cX9_grown 112 = .ok (.iload 7, 2) := by decide +kernel
theorem dX9_grown_114 : decode cX9_grown 114 = .ok (.iadd, 1) := by decide +kernel
theorem dX9_grown_115 : decode cX9_grown 115 = .ok (.istore 8, 2) := by decide +kernel
theorem dX9_grown_117 : decode cX9_grown 117 = .ok (.bipush 40, 2) := by decide +kernel
theorem dX9_grown_119 : decode cX9_grown 119 = .ok (.iload 5, 2) := by decide +kernel
theorem dX9_grown_121 : decode cX9_grown 121 = .ok (.imul, 1) := by decide +kernel
theorem dX9_grown_122 : decode cX9_grown 122 = .ok (.iload 7, 2) := by decide +kernel
theorem dX9_grown_124 : decode cX9_grown 124 = .ok (.iload 6, 2) := by decide +kernel
theorem dX9_grown_126 : decode cX9_grown 126 = .ok (.invokestatic 322, 3) := by decide +kernel
theorem dX9_grown_129 : decode cX9_grown 129 = .ok (.iadd, 1) := by decide +kernel
theorem dX9_grown_130 : decode cX9_grown 130 = .ok (.istore 9, 2) := by decide +kernel
theorem dX9_grown_132 : decode cX9_grown 132 = .ok (.aload_n 0, 1) := by decide +kernel
theorem dX9_grown_133 : decode cX9_grown 133 = .ok (.iload 8, 2) := by decide +kernel
theorem dX9_grown_135 : decode cX9_grown 135 = .ok (.iload 9, 2) := by decide +kernel
theorem dX9_grown_137 : decode cX9_grown 137 = .ok (.invokevirtual 325, 3) := by decide +kernel
theorem dX9_grown_140 : decode cX9_grown 140 = .ok (.aload_n 0, 1) := by decide +kernel
theorem dX9_grown_141 : decode cX9_grown 141 = .ok (.getfield 97, 3) := by decide +kernel
theorem dX9_grown_144 : decode cX9_grown 144 = .ok (.iload 9, 2) := by decide +kernel
theorem dX9_grown_146 : decode cX9_grown 146 = .ok (.aload_n 0, 1) := by decide +kernel
theorem dX9_grown_147 : decode cX9_grown 147 = .ok (.getfield 97, 3) := by decide +kernel
theorem dX9_grown_150 : decode cX9_grown 150 = .ok (.iload 8, 2) := by decide +kernel
theorem dX9_grown_152 : decode cX9_grown 152 = .ok (.iaload, 1) := by decide +kernel
theorem dX9_grown_153 : decode cX9_grown 153 = .ok (.iload 6, 2) := by decide +kernel
theorem dX9_grown_155 : decode cX9_grown 155 = .ok (.invokestatic 322, 3) := by decide +kernel
theorem dX9_grown_158 : decode cX9_grown 158 = .ok (.iastore, 1) := by decide +kernel
theorem dX9_grown_159 : decode cX9_grown 159 = .ok (.aload_n 0, 1) := by decide +kernel
theorem dX9_grown_160 : decode cX9_grown 160 = .ok (.getfield 85, 3) := by decide +kernel
theorem dX9_grown_163 : decode cX9_grown 163 = .ok (.iload 9, 2) := by decide +kernel
theorem dX9_grown_165 : decode cX9_grown 165 = .ok (.aload_n 0, 1) := by decide +kernel
theorem dX9_grown_166 : decode cX9_grown 166 = .ok (.getfield 85, 3) := by decide +kernel
theorem dX9_grown_169 : decode cX9_grown 169 = .ok (.iload 8, 2) := by decide +kernel
theorem dX9_grown_171 : decode cX9_grown 171 = .ok (.iaload, 1) := by decide +kernel
theorem dX9_grown_172 : decode cX9_grown 172 = .ok (.iload 6, 2) := by decide +kernel
theorem dX9_grown_174 : decode cX9_grown 174 = .ok (.invokestatic 322, 3) := by decide +kernel
theorem dX9_grown_177 : decode cX9_grown 177 = .ok (.iastore, 1) := by decide +kernel
theorem dX9_grown_178 : decode cX9_grown 178 = .ok (.aload_n 0, 1) := by decide +kernel
theorem dX9_grown_179 : decode cX9_grown 179 = .ok (.getfield 88, 3) := by decide +kernel
theorem dX9_grown_182 : decode cX9_grown 182 = .ok (.iload 9, 2) := by decide +kernel
theorem dX9_grown_184 : decode cX9_grown 184 = .ok (.aload_n 0, 1) := by decide +kernel
theorem dX9_grown_185 : decode cX9_grown 185 = .ok (.getfield 88, 3) := by decide +kernel
theorem dX9_grown_188 : decode cX9_grown 188 = .ok (.iload 8, 2) := by decide +kernel
theorem dX9_grown_190 : decode cX9_grown 190 = .ok (.iaload, 1) := by decide +kernel
theorem dX9_grown_191 : decode cX9_grown 191 = .ok (.iload 6, 2) := by decide +kernel
theorem dX9_grown_193 : decode cX9_grown 193 = .ok (.invokestatic 322, 3) := by decide +kernel
theorem dX9_grown_196 : decode cX9_grown 196 = .ok (.iastore, 1) := by decide +kernel
theorem dX9_grown_197 : decode cX9_grown 197 = .ok (.iinc 7 1, 3) := by decide +kernel
theorem dX9_grown_200 : decode cX9_grown 200 = .ok (.goto (-103), 3) := by decide +kernel
theorem dX9_grown_203 : decode cX9_grown 203 = .ok (.bipush 40, 2) := by decide +kernel
theorem dX9_grown_205 : decode cX9_grown 205 = .ok (.iload 5, 2) := by decide +kernel
theorem dX9_grown_207 : decode cX9_grown 207 = .ok (.imul, 1) := by decide +kernel
theorem dX9_grown_208 : decode cX9_grown 208 = .ok (.iload 6, 2) := by decide +kernel
theorem dX9_grown_210 : decode cX9_grown 210 = .ok (.iadd, 1) := by decide +kernel
theorem dX9_grown_211 : decode cX9_grown 211 = .ok (.istore 7, 2) := by decide +kernel
theorem dX9_grown_213 : decode cX9_grown 213 = .ok (.aload_n 0, 1) := by decide +kernel
theorem dX9_grown_214 : decode cX9_grown 214 = .ok (.iload 7, 2) := by decide +kernel
theorem dX9_grown_216 : decode cX9_grown 216 = .ok (.invokevirtual 246, 3) := by decide +kernel
theorem dX9_grown_219 : decode cX9_grown 219 = .ok (.aload_n 0, 1) := by decide +kernel
theorem dX9_grown_220 : decode cX9_grown 220 = .ok (.getfield 70, 3) := by decide +kernel
theorem dX9_grown_223 : decode cX9_grown 223 = .ok (.iload 7, 2) := by decide +kernel
theorem dX9_grown_225 : decode cX9_grown 225 = .ok (.aload_n 0, 1) := by decide +kernel
theorem dX9_grown_226 : decode cX9_grown 226 = .ok (.getfield 125, 3) := by decide +kernel
theorem dX9_grown_229 : decode cX9_grown 229 = .ok (.iload_n 3, 1) := by decide +kernel
theorem dX9_grown_230 : decode cX9_grown 230 = .ok (.iaload, 1) := by decide +kernel
theorem dX9_grown_231 : decode cX9_grown 231 = .ok (.iastore, 1) := by decide +kernel
theorem dX9_grown_232 : decode cX9_grown 232 = .ok (.aload_n 0, 1) := by decide +kernel
theorem dX9_grown_233 : decode cX9_grown 233 = .ok (.iload_n 3, 1) := by decide +kernel
theorem dX9_grown_234 : decode cX9_grown 234 = .ok (.aload_n 0, 1) := by decide +kernel
theorem dX9_grown_235 : decode cX9_grown 235 = .ok (.getfield 73, 3) := by decide +kernel
theorem dX9_grown_238 : decode cX9_grown 238 = .ok (.bipush 12, 2) := by decide +kernel
theorem dX9_grown_240 : decode cX9_grown 240 = .ok (.iload 7, 2) := by decide +kernel
theorem dX9_grown_242 : decode cX9_grown 242 = .ok (.imul, 1) := by decide +kernel
theorem dX9_grown_243 : decode cX9_grown 243 = .ok (.invokevirtual 235, 3) := by decide +kernel
theorem dX9_grown_246 : decode cX9_grown 246 = .ok (.aload_n 0, 1) := by decide +kernel
theorem dX9_grown_247 : decode cX9_grown 247 = .ok (.getfield 76, 3) := by decide +kernel
theorem dX9_grown_250 : decode cX9_grown 250 = .ok (.iload 7, 2) := by decide +kernel
theorem dX9_grown_252 : decode cX9_grown 252 = .ok (.iload 4, 2) := by decide +kernel
theorem dX9_grown_254 : decode cX9_grown 254 = .ok (.iastore, 1) := by decide +kernel
theorem dX9_grown_255 : decode cX9_grown 255 = .ok (.aload_n 0, 1) := by decide +kernel
theorem dX9_grown_256 : decode cX9_grown 256 = .ok (.getfield 97, 3) := by decide +kernel
theorem dX9_grown_259 : decode cX9_grown 259 = .ok (.iload 7, 2) := by decide +kernel
theorem dX9_grown_261 : decode cX9_grown 261 = .ok (.iload_n 2, 1) := by decide +kernel
theorem dX9_grown_262 : decode cX9_grown 262 = .ok (.iastore, 1) := by decide +kernel
theorem dX9_grown_263 : decode cX9_grown 263 = .ok (.iconst 0, 1) := by decide +kernel
theorem dX9_grown_264 : decode cX9_grown 264 = .ok (.istore 8, 2) := by decide +kernel
theorem dX9_grown_266 : decode cX9_grown 266 = .ok (.iload 8, 2) := by decide +kernel
theorem dX9_grown_268 : decode cX9_grown 268 = .ok (.aload_n 0, 1) := by decide +kernel
theorem dX9_grown_269 : decode cX9_grown 269 = .ok (.getfield 64, 3) := by decide +kernel
theorem dX9_grown_272 : decode cX9_grown 272 = .ok (.iload 5, 2) := by decide +kernel
theorem dX9_grown_274 : decode cX9_grown 274 = .ok (.iaload, 1) := by decide +kernel
theorem dX9_grown_275 : decode cX9_grown 275 = .ok (.if_icmp .ge 28, 3) := by decide +kernel
theorem dX9_grown_278 : decode cX9_grown 278 = .ok (.aload_n 0, 1) := by decide +kernel
theorem dX9_grown_279 : decode cX9_grown 279 = .ok (.bipush 8, 2) := by decide +kernel
theorem dX9_grown_281 : decode cX9_grown 281 = .ok (.iload_n 1, 1) := by decide +kernel
theorem dX9_grown_282 : decode cX9_grown 282 = .ok (.imul, 1) := by decide +kernel
theorem dX9_grown_283 : decode cX9_grown 283 = .ok (.iload 8, 2) := by decide +kernel
theorem dX9_grown_285 : decode cX9_grown 285 = .ok (.iadd, 1) := by decide +kernel
theorem dX9_grown_286 : decode cX9_grown 286 = .ok (.bipush 8, 2) := by decide +kernel
theorem dX9_grown_288 : decode cX9_grown 288 = .ok (.iload 5, 2) := by decide +kernel
theorem dX9_grown_290 : decode cX9_grown 290 = .ok (.imul, 1) := by decide +kernel
theorem dX9_grown_291 : decode cX9_grown 291 = .ok (.iload 8, 2) := by decide +kernel
theorem dX9_grown_293 : decode cX9_grown 293 = .ok (.iadd, 1) := by decide +kernel
theorem dX9_grown_294 : decode cX9_grown 294 = .ok (.invokevirtual 328, 3) := by decide +kernel
theorem dX9_grown_297 : decode cX9_grown 297 = .ok (.iinc 8 1, 3) := by decide +kernel
theorem dX9_grown_300 : decode cX9_grown 300 = .ok (.goto (-34), 3) := by decide +kernel
theorem dX9_grown_303 : decode cX9_grown 303 = .ok (.return_, 1) := by decide +kernel
theorem dX9_moved_0 : decode cX9_moved 0 = .ok (.iload_n 0, 1) := by decide +kernel
theorem dX9_moved_1 : decode cX9_moved 1 = .ok (.bipush (-2), 2) := by decide +kernel
theorem dX9_moved_3 : decode cX9_moved 3 = .ok (.if_icmp .eq 14, 3) := by decide +kernel
theorem dX9_moved_6 : decode cX9_moved 6 = .ok (.iload_n 0, 1) := by decide +kernel
theorem dX9_moved_7 : decode cX9_moved 7 = .ok (.iload_n 1, 1) := by decide +kernel
theorem dX9_moved_8 : decode cX9_moved 8 = .ok (.if_icmp .lt 9, 3) := by decide +kernel
theorem dX9_moved_11 : decode cX9_moved 11 = .ok (.iload_n 0, 1) := by decide +kernel
theorem dX9_moved_12 : decode cX9_moved 12 = .ok (.iconst 1, 1) := by decide +kernel
theorem dX9_moved_13 : decode cX9_moved 13 = .ok (.iadd, 1) := by decide +kernel
theorem dX9_moved_14 : decode cX9_moved 14 = .ok (.goto 4, 3) := by decide +kernel
theorem dX9_moved_17 : decode cX9_moved 17 = .ok (.iload_n 0, 1) := by decide +kernel
theorem dX9_moved_18 : decode cX9_moved 18 = .ok (.ireturn, 1) := by decide +kernel
theorem dX9_copyField_0 : decode cX9_copyField 0 = .ok (.aload_n 0, 1) := by decide +kernel
theorem dX9_copyField_1 : decode cX9_copyField 1 = .ok (.getfield 70, 3) := by decide +kernel
theorem dX9_copyField_4 : decode cX9_copyField 4 = .ok (.iload_n 2, 1) := by decide +kernel
theorem dX9_copyField_5 : decode cX9_copyField 5 = .ok (.aload_n 0, 1) := by decide +kernel
theorem dX9_copyField_6 : decode cX9_copyField 6 = .ok (.getfield 70, 3) := by decide +kernel
theorem dX9_copyField_9 : decode cX9_copyField 9 = .ok (.iload_n 1, 1) := by decide +kernel
theorem dX9_copyField_10 : decode cX9_copyField 10 = .ok (.iaload, 1) := by decide +kernel
theorem dX9_copyField_11 : decode cX9_copyField 11 = .ok (.iastore, 1) := by decide +kernel
theorem dX9_copyField_12 : decode cX9_copyField 12 = .ok (.aload_n 0, 1) := by decide +kernel
theorem dX9_copyField_13 : decode cX9_copyField 13 = .ok (.getfield 91, 3) := by decide +kernel
theorem dX9_copyField_16 : decode cX9_copyField 16 = .ok (.iload_n 2, 1) := by decide +kernel
theorem dX9_copyField_17 : decode cX9_copyField 17 = .ok (.aload_n 0, 1) := by decide +kernel
theorem dX9_copyField_18 : decode cX9_copyField 18 = .ok (.getfield 91, 3) := by decide +kernel
theorem dX9_copyField_21 : decode cX9_copyField 21 = .ok (.iload_n 1, 1) := by decide +kernel
theorem dX9_copyField_22 : decode cX9_copyField 22 = .ok (.iaload, 1) := by decide +kernel
theorem dX9_copyField_23 : decode cX9_copyField 23 = .ok (.iastore, 1) := by decide +kernel
theorem dX9_copyField_24 : decode cX9_copyField 24 = .ok (.aload_n 0, 1) := by decide +kernel
theorem dX9_copyField_25 : decode cX9_copyField 25 = .ok (.getfield 76, 3) := by decide +kernel
theorem dX9_copyField_28 : decode cX9_copyField 28 = .ok (.iload_n 2, 1) := by decide +kernel
theorem dX9_copyField_29 : decode cX9_copyField 29 = .ok (.aload_n 0, 1) := by decide +kernel
theorem dX9_copyField_30 : decode cX9_copyField 30 = .ok (.getfield 76, 3) := by decide +kernel
theorem dX9_copyField_33 : decode cX9_copyField 33 = .ok (.iload_n 1, 1) := by decide +kernel
theorem dX9_copyField_34 : decode cX9_copyField 34 = .ok (.iaload, 1) := by decide +kernel
theorem dX9_copyField_35 : decode cX9_copyField 35 = .ok (.iastore, 1) := by decide +kernel
theorem dX9_copyField_36 : decode cX9_copyField 36 = .ok (.aload_n 0, 1) := by decide +kernel
theorem dX9_copyField_37 : decode cX9_copyField 37 = .ok (.getfield 79, 3) := by decide +kernel
theorem dX9_copyField_40 : decode cX9_copyField 40 = .ok (.iload_n 2, 1) := by decide +kernel
theorem dX9_copyField_41 : decode cX9_copyField 41 = .ok (.aload_n 0, 1) := by decide +kernel
theorem dX9_copyField_42 : decode cX9_copyField 42 = .ok (.getfield 79, 3) := by decide +kernel
theorem dX9_copyField_45 : decode cX9_copyField 45 = .ok (.iload_n 1, 1) := by decide +kernel
theorem dX9_copyField_46 : decode cX9_copyField 46 = .ok (.iaload, 1) := by decide +kernel
theorem dX9_copyField_47 : decode cX9_copyField 47 = .ok (.iastore, 1) := by decide +kernel
theorem dX9_copyField_48 : decode cX9_copyField 48 = .ok (.aload_n 0, 1) := by decide +kernel
theorem dX9_copyField_49 : decode cX9_copyField 49 = .ok (.getfield 82, 3) := by decide +kernel
theorem dX9_copyField_52 : decode cX9_copyField 52 = .ok (.iload_n 2, 1) := by decide +kernel
theorem dX9_copyField_53 : decode cX9_copyField 53 = .ok (.aload_n 0, 1) := by decide +kernel
theorem dX9_copyField_54 : decode cX9_copyField 54 = .ok (.getfield 82, 3) := by decide +kernel
theorem dX9_copyField_57 : decode cX9_copyField 57 = .ok (.iload_n 1, 1) := by decide +kernel
theorem dX9_copyField_58 : decode cX9_copyField 58 = .ok (.iaload, 1) := by decide +kernel
theorem dX9_copyField_59 : decode cX9_copyField 59 = .ok (.iastore, 1) := by decide +kernel
theorem dX9_copyField_60 : decode cX9_copyField 60 = .ok (.iconst 0, 1) := by decide +kernel
theorem dX9_copyField_61 : decode cX9_copyField 61 = .ok (.istore_n 3, 1) := by decide +kernel
theorem dX9_copyField_62 : decode cX9_copyField 62 = .ok (.iload_n 3, 1) := by decide +kernel
theorem dX9_copyField_63 : decode cX9_copyField 63 = .ok (.bipush 12, 2) := by decide +kernel
theorem dX9_copyField_65 : decode cX9_copyField 65 = .ok (.if_icmp .ge 53, 3) := by decide +kernel
theorem dX9_copyField_68 : decode cX9_copyField 68 = .ok (.aload_n 0, 1) := by decide +kernel
theorem dX9_copyField_69 : decode cX9_copyField 69 = .ok (.getfield 73, 3) := by decide +kernel
theorem dX9_copyField_72 : decode cX9_copyField 72 = .ok (.bipush 12, 2) := by decide +kernel
theorem dX9_copyField_74 : decode cX9_copyField 74 = .ok (.iload_n 2, 1) := by decide +kernel
theorem dX9_copyField_75 : decode cX9_copyField 75 = .ok (.imul, 1) := by decide +kernel
theorem dX9_copyField_76 : decode cX9_copyField 76 = .ok (.iload_n 3, 1) := by decide +kernel
theorem dX9_copyField_77 : decode cX9_copyField 77 = .ok (.iadd, 1) := by decide +kernel
theorem dX9_copyField_78 : decode cX9_copyField 78 = .ok (.aload_n 0, 1) := by decide +kernel
theorem dX9_copyField_79 : decode cX9_copyField 79 = .ok (.getfield 73, 3) := by decide +kernel
theorem dX9_copyField_82 : decode cX9_copyField 82 = .ok (.bipush 12, 2) := by decide +kernel
theorem dX9_copyField_84 : decode cX9_copyField 84 = .ok (.iload_n 1, 1) := by decide +kernel
theorem dX9_copyField_85 : decode cX9_copyField 85 = .ok (.imul, 1) := by decide +kernel
theorem dX9_copyField_86 : decode cX9_copyField 86 = .ok (.iload_n 3, 1) := by decide +kernel
theorem dX9_copyField_87 : decode cX9_copyField 87 = .ok (.iadd, 1) := by decide +kernel
theorem dX9_copyField_88 : decode cX9_copyField 88 = .ok (.baload, 1) := by decide +kernel
theorem dX9_copyField_89 : decode cX9_copyField 89 = .ok (.bastore, 1) := by decide +kernel
theorem dX9_copyField_90 : decode cX9_copyField 90 = .ok (.aload_n 0, 1) := by decide +kernel
theorem dX9_copyField_91 : decode cX9_copyField 91 = .ok (.getfield 94, 3) := by decide +kernel
theorem dX9_copyField_94 : decode cX9_copyField 94 = .ok (.bipush 12, 2) := by decide +kernel
theorem dX9_copyField_96 : decode cX9_copyField 96 = .ok (.iload_n 2, 1) := by decide +kernel
theorem dX9_copyField_97 : decode cX9_copyField 97 = .ok (.imul, 1) := by decide +kernel
theorem dX9_copyField_98 : decode cX9_copyField 98 = .ok (.iload_n 3, 1) := by decide +kernel
theorem dX9_copyField_99 : decode cX9_copyField 99 = .ok (.iadd, 1) := by decide +kernel
theorem dX9_copyField_100 : decode cX9_copyField 100 = .ok (.aload_n 0, 1) := by decide +kernel
theorem dX9_copyField_101 : decode cX9_copyField 101 = .ok (.getfield 94, 3) := by decide +kernel
theorem dX9_copyField_104 : decode cX9_copyField 104 = .ok (.bipush 12, 2) := by decide +kernel
theorem dX9_copyField_106 : decode cX9_copyField 106 = .ok (.iload_n 1, 1) := by decide +kernel
theorem dX9_copyField_107 : decode cX9_copyField 107 = .ok (.imul, 1) := by decide +kernel
theorem dX9_copyField_108 : decode cX9_copyField 108 = .ok (.iload_n 3, 1) := by decide +kernel
theorem dX9_copyField_109 : decode cX9_copyField 109 = .ok (.iadd, 1) := by decide +kernel
theorem dX9_copyField_110 : decode cX9_copyField 110 = .ok (.baload, 1) := by decide +kernel
theorem dX9_copyField_111 : decode cX9_copyField 111 = .ok (.bastore, 1) := by decide +kernel
theorem dX9_copyField_112 : decode cX9_copyField 112 = .ok (.iinc 3 1, 3) := by decide +kernel
theorem dX9_copyField_115 : decode cX9_copyField 115 = .ok (.goto (-53), 3) := by decide +kernel
theorem dX9_copyField_118 : decode cX9_copyField 118 = .ok (.return_, 1) := by decide +kernel
theorem dX9_copyRule_0 : decode cX9_copyRule 0 = .ok (.aload_n 0, 1) := by decide +kernel
theorem dX9_copyRule_1 : decode cX9_copyRule 1 = .ok (.getfield 100, 3) := by decide +kernel
theorem dX9_copyRule_4 : decode cX9_copyRule 4 = .ok (.iload_n 2, 1) := by decide +kernel
theorem dX9_copyRule_5 : decode cX9_copyRule 5 = .ok (.aload_n 0, 1) := by decide +kernel
theorem dX9_copyRule_6 : decode cX9_copyRule 6 = .ok (.getfield 100, 3) := by decide +kernel
theorem dX9_copyRule_9 : decode cX9_copyRule 9 = .ok (.iload_n 1, 1) := by decide +kernel
theorem dX9_copyRule_10 : decode cX9_copyRule 10 = .ok (.iaload, 1) := by decide +kernel
theorem dX9_copyRule_11 : decode cX9_copyRule 11 = .ok (.iastore, 1) := by decide +kernel
theorem dX9_copyRule_12 : decode cX9_copyRule 12 = .ok (.aload_n 0, 1) := by decide +kernel
theorem dX9_copyRule_13 : decode cX9_copyRule 13 = .ok (.getfield 110, 3) := by decide +kernel
theorem dX9_copyRule_16 : decode cX9_copyRule 16 = .ok (.iload_n 2, 1) := by decide +kernel
theorem dX9_copyRule_17 : decode cX9_copyRule 17 = .ok (.aload_n 0, 1) := by decide +kernel
theorem dX9_copyRule_18 : decode cX9_copyRule 18 = .ok (.getfield 110, 3) := by decide +kernel
theorem dX9_copyRule_21 : decode cX9_copyRule 21 = .ok (.iload_n 1, 1) := by decide +kernel
theorem dX9_copyRule_22 : decode cX9_copyRule 22 = .ok (.iaload, 1) := by decide +kernel
theorem dX9_copyRule_23 : decode cX9_copyRule 23 = .ok (.iastore, 1) := by decide +kernel
theorem dX9_copyRule_24 : decode cX9_copyRule 24 = .ok (.aload_n 0, 1) := by decide +kernel
theorem dX9_copyRule_25 : decode cX9_copyRule 25 = .ok (.getfield 106, 3) := by decide +kernel
theorem dX9_copyRule_28 : decode cX9_copyRule 28 = .ok (.iload_n 2, 1) := by decide +kernel
theorem dX9_copyRule_29 : decode cX9_copyRule 29 = .ok (.aload_n 0, 1) := by decide +kernel
theorem dX9_copyRule_30 : decode cX9_copyRule 30 = .ok (.getfield 106, 3) := by decide +kernel
theorem dX9_copyRule_33 : decode cX9_copyRule 33 = .ok (.iload_n 1, 1) := by decide +kernel
theorem dX9_copyRule_34 : decode cX9_copyRule 34 = .ok (.baload, 1) := by decide +kernel
theorem dX9_copyRule_35 : decode cX9_copyRule 35 = .ok (.bastore, 1) := by decide +kernel
theorem dX9_copyRule_36 : decode cX9_copyRule 36 = .ok (.aload_n 0, 1) := by decide +kernel
theorem dX9_copyRule_37 : decode cX9_copyRule 37 = .ok (.getfield 116, 3) := by decide +kernel
theorem dX9_copyRule_40 : decode cX9_copyRule 40 = .ok (.iload_n 2, 1) := by decide +kernel
theorem dX9_copyRule_41 : decode cX9_copyRule 41 = .ok (.aload_n 0, 1) := by decide +kernel
theorem dX9_copyRule_42 : decode cX9_copyRule 42 = .ok (.getfield 116, 3) := by decide +kernel
theorem dX9_copyRule_45 : decode cX9_copyRule 45 = .ok (.iload_n 1, 1) := by decide +kernel
theorem dX9_copyRule_46 : decode cX9_copyRule 46 = .ok (.iaload, 1) := by decide +kernel
theorem dX9_copyRule_47 : decode cX9_copyRule 47 = .ok (.iastore, 1) := by decide +kernel
theorem dX9_copyRule_48 : decode cX9_copyRule 48 = .ok (.iconst 0, 1) := by decide +kernel
theorem dX9_copyRule_49 : decode cX9_copyRule 49 = .ok (.istore_n 3, 1) := by decide +kernel
theorem dX9_copyRule_50 : decode cX9_copyRule 50 = .ok (.iload_n 3, 1) := by decide +kernel
theorem dX9_copyRule_51 : decode cX9_copyRule 51 = .ok (.bipush 12, 2) := by decide +kernel
theorem dX9_copyRule_53 : decode cX9_copyRule 53 = .ok (.if_icmp .ge 53, 3) := by decide +kernel
theorem dX9_copyRule_56 : decode cX9_copyRule 56 = .ok (.aload_n 0, 1) := by decide +kernel
theorem dX9_copyRule_57 : decode cX9_copyRule 57 = .ok (.getfield 103, 3) := by decide +kernel
theorem dX9_copyRule_60 : decode cX9_copyRule 60 = .ok (.bipush 12, 2) := by decide +kernel
theorem dX9_copyRule_62 : decode cX9_copyRule 62 = .ok (.iload_n 2, 1) := by decide +kernel
theorem dX9_copyRule_63 : decode cX9_copyRule 63 = .ok (.imul, 1) := by decide +kernel
theorem dX9_copyRule_64 : decode cX9_copyRule 64 = .ok (.iload_n 3, 1) := by decide +kernel
theorem dX9_copyRule_65 : decode cX9_copyRule 65 = .ok (.iadd, 1) := by decide +kernel
theorem dX9_copyRule_66 : decode cX9_copyRule 66 = .ok (.aload_n 0, 1) := by decide +kernel
theorem dX9_copyRule_67 : decode cX9_copyRule 67 = .ok (.getfield 103, 3) := by decide +kernel
theorem dX9_copyRule_70 : decode cX9_copyRule 70 = .ok (.bipush 12, 2) := by decide +kernel
theorem dX9_copyRule_72 : decode cX9_copyRule 72 = .ok (.iload_n 1, 1) := by decide +kernel
theorem dX9_copyRule_73 : decode cX9_copyRule 73 = .ok (.imul, 1) := by decide +kernel
theorem dX9_copyRule_74 : decode cX9_copyRule 74 = .ok (.iload_n 3, 1) := by decide +kernel
theorem dX9_copyRule_75 : decode cX9_copyRule 75 = .ok (.iadd, 1) := by decide +kernel
theorem dX9_copyRule_76 : decode cX9_copyRule 76 = .ok (.baload, 1) := by decide +kernel
theorem dX9_copyRule_77 : decode cX9_copyRule 77 = .ok (.bastore, 1) := by decide +kernel
theorem dX9_copyRule_78 : decode cX9_copyRule 78 = .ok (.aload_n 0, 1) := by decide +kernel
theorem dX9_copyRule_79 : decode cX9_copyRule 79 = .ok (.getfield 113, 3) := by decide +kernel
theorem dX9_copyRule_82 : decode cX9_copyRule 82 = .ok (.bipush 12, 2) := by decide +kernel
theorem dX9_copyRule_84 : decode cX9_copyRule 84 = .ok (.iload_n 2, 1) := by decide +kernel
theorem dX9_copyRule_85 : decode cX9_copyRule 85 = .ok (.imul, 1) := by decide +kernel
theorem dX9_copyRule_86 : decode cX9_copyRule 86 = .ok (.iload_n 3, 1) := by decide +kernel
theorem dX9_copyRule_87 : decode cX9_copyRule 87 = .ok (.iadd, 1) := by decide +kernel
theorem dX9_copyRule_88 : decode cX9_copyRule 88 = .ok (.aload_n 0, 1) := by decide +kernel
theorem dX9_copyRule_89 : decode cX9_copyRule 89 = .ok (.getfield 113, 3) := by decide +kernel
theorem dX9_copyRule_92 : decode cX9_copyRule 92 = .ok (.bipush 12, 2) := by decide +kernel
theorem dX9_copyRule_94 : decode cX9_copyRule 94 = .ok (.iload_n 1, 1) := by decide +kernel
theorem dX9_copyRule_95 : decode cX9_copyRule 95 = .ok (.imul, 1) := by decide +kernel
theorem dX9_copyRule_96 : decode cX9_copyRule 96 = .ok (.iload_n 3, 1) := by decide +kernel
theorem dX9_copyRule_97 : decode cX9_copyRule 97 = .ok (.iadd, 1) := by decide +kernel
theorem dX9_copyRule_98 : decode cX9_copyRule 98 = .ok (.baload, 1) := by decide +kernel
theorem dX9_copyRule_99 : decode cX9_copyRule 99 = .ok (.bastore, 1) := by decide +kernel
theorem dX9_copyRule_100 : decode cX9_copyRule 100 = .ok (.iinc 3 1, 3) := by decide +kernel
theorem dX9_copyRule_103 : decode cX9_copyRule 103 = .ok (.goto (-53), 3) := by decide +kernel
theorem dX9_copyRule_106 : decode cX9_copyRule 106 = .ok (.return_, 1) := by decide +kernel
theorem dX9_isField_0 : decode cX9_isField 0 = .ok (.aload_n 0, 1) := by decide +kernel
theorem dX9_isField_1 : decode cX9_isField 1 = .ok (.iload_n 1, 1) := by decide +kernel
theorem dX9_isField_2 : decode cX9_isField 2 = .ok (.invokevirtual 299, 3) := by decide +kernel
theorem dX9_isField_5 : decode cX9_isField 5 = .ok (.ifCond .eq 23, 3) := by decide +kernel
theorem dX9_isField_8 : decode cX9_isField 8 = .ok (.iload_n 2, 1) := by decide +kernel
theorem dX9_isField_9 : decode cX9_isField 9 = .ok (.iconst 0, 1) := by decide +kernel
theorem dX9_isField_10 : decode cX9_isField 10 = .ok (.aload_n 0, 1) := by decide +kernel
theorem dX9_isField_11 : decode cX9_isField 11 = .ok (.getfield 60, 3) := by decide +kernel
theorem dX9_isField_14 : decode cX9_isField 14 = .ok (.iload_n 1, 1) := by decide +kernel
theorem dX9_isField_15 : decode cX9_isField 15 = .ok (.iaload, 1) := by decide +kernel
theorem dX9_isField_16 : decode cX9_isField 16 = .ok (.iconst 1, 1) := by decide +kernel
theorem dX9_isField_17 : decode cX9_isField 17 = .ok (.isub, 1) := by decide +kernel
theorem dX9_isField_18 : decode cX9_isField 18 = .ok (.invokestatic 173, 3) := by decide +kernel
theorem dX9_isField_21 : decode cX9_isField 21 = .ok (.ifCond .eq 7, 3) := by decide +kernel
theorem dX9_isField_24 : decode cX9_isField 24 = .ok (.iconst 1, 1) := by decide +kernel
theorem dX9_isField_25 : decode cX9_isField 25 = .ok (.goto 4, 3) := by decide +kernel
theorem dX9_isField_28 : decode cX9_isField 28 = .ok (.iconst 0, 1) := by decide +kernel
theorem dX9_isField_29 : decode cX9_isField 29 = .ok (.ireturn, 1) := by decide +kernel
theorem dX9_field__0 : decode cX9_field_ 0 = .ok (.aload_n 0, 1) := by decide +kernel
theorem dX9_field__1 : decode cX9_field_ 1 = .ok (.iload_n 1, 1) := by decide +kernel
theorem dX9_field__2 : decode cX9_field_ 2 = .ok (.iload_n 2, 1) := by decide +kernel
theorem dX9_field__3 : decode cX9_field_ 3 = .ok (.invokevirtual 331, 3) := by decide +kernel
theorem dX9_field__6 : decode cX9_field_ 6 = .ok (.ifCond .eq 13, 3) := by decide +kernel
theorem dX9_field__9 : decode cX9_field_ 9 = .ok (.iload_n 3, 1) := by decide +kernel
theorem dX9_field__10 : decode cX9_field_ 10 = .ok (.iconst 0, 1) := by decide +kernel
theorem dX9_field__11 : decode cX9_field_ 11 = .ok (.bipush 9, 2) := by decide +kernel
theorem dX9_field__13 : decode cX9_field_ 13 = .ok (.invokestatic 173, 3) := by decide +kernel
theorem dX9_field__16 : decode cX9_field_ 16 = .ok (.ifCond .ne 5, 3) := by decide +kernel
theorem dX9_field__19 : decode cX9_field_ 19 = .ok (.iconst (-1), 1) := by decide +kernel
theorem dX9_field__20 : decode cX9_field_ 20 = .ok (.ireturn, 1) := by decide +kernel
theorem dX9_field__21 : decode cX9_field_ 21 = .ok (.bipush 40, 2) := by decide +kernel
theorem dX9_field__23 : decode cX9_field_ 23 = .ok (.iload_n 1, 1) := by decide +kernel
theorem dX9_field__24 : decode cX9_field_ 24 = .ok (.imul, 1) := by decide +kernel
theorem dX9_field__25 : decode cX9_field_ 25 = .ok (.iload_n 2, 1) := by decide +kernel
theorem dX9_field__26 : decode cX9_field_ 26 = .ok (.iadd, 1) := by decide +kernel
theorem dX9_field__27 : decode cX9_field_ 27 = .ok (.istore 4, 2) := by decide +kernel
theorem dX9_field__29 : decode cX9_field_ 29 = .ok (.iconst 0, 1) := by decide +kernel
theorem dX9_field__30 : decode cX9_field_ 30 = .ok (.istore 5, 2) := by decide +kernel
theorem dX9_field__32 : decode cX9_field_ 32 = .ok (.iload_n 3, 1) := by decide +kernel
theorem dX9_field__33 : decode cX9_field_ 33 = .ok (.tableswitch 167 0 8 #[51, 59, 67, 75, 83, 91, 99, 148, 159], 51) := by decide +kernel
theorem dX9_field__84 : decode cX9_field_ 84 = .ok (.aload_n 0, 1) := by decide +kernel
theorem dX9_field__85 : decode cX9_field_ 85 = .ok (.getfield 76, 3) := by decide +kernel
theorem dX9_field__88 : decode cX9_field_ 88 = .ok (.iload 4, 2) := by decide +kernel
theorem dX9_field__90 : decode cX9_field_ 90 = .ok (.iaload, 1) := by decide +kernel
theorem dX9_field__91 : decode cX9_field_ 91 = .ok (.ireturn, 1) := by decide +kernel
theorem dX9_field__92 : decode cX9_field_ 92 = .ok (.aload_n 0, 1) := by decide +kernel
theorem dX9_field__93 : decode cX9_field_ 93 = .ok (.getfield 79, 3) := by decide +kernel
theorem dX9_field__96 : decode cX9_field_ 96 = .ok (.iload 4, 2) := by decide +kernel
theorem dX9_field__98 : decode cX9_field_ 98 = .ok (.iaload, 1) := by decide +kernel
theorem dX9_field__99 : decode cX9_field_ 99 = .ok (.ireturn, 1) := by decide +kernel
theorem dX9_field__100 : decode cX9_field_ 100 = .ok (.aload_n 0, 1) := by decide +kernel
theorem dX9_field__101 : decode cX9_field_ 101 = .ok (.getfield 82, 3) := by decide +kernel
theorem dX9_field__104 : decode cX9_field_ 104 = .ok (.iload 4, 2) := by decide +kernel
theorem dX9_field__106 : decode cX9_field_ 106 = .ok (.iaload, 1) := by decide +kernel
theorem dX9_field__107 : decode cX9_field_ 107 = .ok (.ireturn, 1) := by decide +kernel
theorem dX9_field__108 : decode cX9_field_ 108 = .ok (.aload_n 0, 1) := by decide +kernel
theorem dX9_field__109 : decode cX9_field_ 109 = .ok (.getfield 85, 3) := by decide +kernel
theorem dX9_field__112 : decode cX9_field_ 112 = .ok (.iload 4, 2) := by decide +kernel
theorem dX9_field__114 : decode cX9_field_ 114 = .ok (.iaload, 1) := by decide +kernel
theorem dX9_field__115 : decode cX9_field_ 115 = .ok (.ireturn, 1) := by decide +kernel
theorem dX9_field__116 : decode cX9_field_ 116 = .ok (.aload_n 0, 1) := by decide +kernel
theorem dX9_field__117 : decode cX9_field_ 117 = .ok (.getfield 88, 3) := by decide +kernel
theorem dX9_field__120 : decode cX9_field_ 120 = .ok (.iload 4, 2) := by decide +kernel
theorem dX9_field__122 : decode cX9_field_ 122 = .ok (.iaload, 1) := by decide +kernel
theorem dX9_field__123 : decode cX9_field_ 123 = .ok (.ireturn, 1) := by decide +kernel
theorem dX9_field__124 : decode cX9_field_ 124 = .ok (.aload_n 0, 1) := by decide +kernel
theorem dX9_field__125 : decode cX9_field_ 125 = .ok (.getfield 97, 3) := by decide +kernel
theorem dX9_field__128 : decode cX9_field_ 128 = .ok (.iload 4, 2) := by decide +kernel
theorem dX9_field__130 : decode cX9_field_ 130 = .ok (.iaload, 1) := by decide +kernel
theorem dX9_field__131 : decode cX9_field_ 131 = .ok (.ireturn, 1) := by decide +kernel
theorem dX9_field__132 : decode cX9_field_ 132 = .ok (.iconst 0, 1) := by decide +kernel
theorem dX9_field__133 : decode cX9_field_ 133 = .ok (.istore 6, 2) := by decide +kernel
theorem dX9_field__135 : decode cX9_field_ 135 = .ok (.iload 6, 2) := by decide +kernel
theorem dX9_field__137 : decode cX9_field_ 137 = .ok (.aload_n 0, 1) := by decide +kernel
theorem dX9_field__138 : decode cX9_field_ 138 = .ok (.getfield 60, 3) := by decide +kernel
theorem dX9_field__141 : decode cX9_field_ 141 = .ok (.iload_n 1, 1) := by decide +kernel
theorem dX9_field__142 : decode cX9_field_ 142 = .ok (.iaload, 1) := by decide +kernel
theorem dX9_field__143 : decode cX9_field_ 143 = .ok (.if_icmp .ge 35, 3) := by decide +kernel
theorem dX9_field__146 : decode cX9_field_ 146 = .ok (.iload 5, 2) := by decide +kernel
theorem dX9_field__148 : decode cX9_field_ 148 = .ok (.aload_n 0, 1) := by decide +kernel
theorem dX9_field__149 : decode cX9_field_ 149 = .ok (.getfield 97, 3) := by decide +kernel
theorem dX9_field__152 : decode cX9_field_ 152 = .ok (.bipush 40, 2) := by decide +kernel
theorem dX9_field__154 : decode cX9_field_ 154 = .ok (.iload_n 1, 1) := by decide +kernel
theorem dX9_field__155 : decode cX9_field_ 155 = .ok (.imul, 1) := by decide +kernel
theorem dX9_field__156 : decode cX9_field_ 156 = .ok (.iload 6, 2) := by decide +kernel
theorem dX9_field__158 : decode cX9_field_ 158 = .ok (.iadd, 1) := by decide +kernel
theorem dX9_field__159 : decode cX9_field_ 159 = .ok (.iaload, 1) := by decide +kernel
theorem dX9_field__160 : decode cX9_field_ 160 = .ok (.iload_n 2, 1) := by decide +kernel
theorem dX9_field__161 : decode cX9_field_ 161 = .ok (.if_icmp .ne 7, 3) := by decide +kernel
theorem dX9_field__164 : decode cX9_field_ 164 = .ok (.iconst 1, 1) := by decide +kernel
theorem dX9_field__165 : decode cX9_field_ 165 = .ok (.goto 4, 3) := by decide +kernel
theorem dX9_field__168 : decode cX9_field_ 168 = .ok (.iconst 0, 1) := by decide +kernel
theorem dX9_field__169 : decode cX9_field_ 169 = .ok (.iadd, 1) := by decide +kernel
theorem dX9_field__170 : decode cX9_field_ 170 = .ok (.istore 5, 2) := by decide +kernel
theorem dX9_field__172 : decode cX9_field_ 172 = .ok (.iinc 6 1, 3) := by decide +kernel
theorem dX9_field__175 : decode cX9_field_ 175 = .ok (.goto (-40), 3) := by decide +kernel
theorem dX9_field__178 : decode cX9_field_ 178 = .ok (.iload 5, 2) := by decide +kernel
theorem dX9_field__180 : decode cX9_field_ 180 = .ok (.ireturn, 1) := by decide +kernel
theorem dX9_field__181 : decode cX9_field_ 181 = .ok (.aload_n 0, 1) := by decide +kernel
theorem dX9_field__182 : decode cX9_field_ 182 = .ok (.iload_n 1, 1) := by decide +kernel
theorem dX9_field__183 : decode cX9_field_ 183 = .ok (.iload_n 2, 1) := by decide +kernel
theorem dX9_field__184 : decode cX9_field_ 184 = .ok (.aload_n 0, 1) := by decide +kernel
theorem dX9_field__185 : decode cX9_field_ 185 = .ok (.getfield 152, 3) := by decide +kernel
theorem dX9_field__188 : decode cX9_field_ 188 = .ok (.invokevirtual 334, 3) := by decide +kernel
theorem dX9_field__191 : decode cX9_field_ 191 = .ok (.ireturn, 1) := by decide +kernel
theorem dX9_field__192 : decode cX9_field_ 192 = .ok (.aload_n 0, 1) := by decide +kernel
theorem dX9_field__193 : decode cX9_field_ 193 = .ok (.getfield 91, 3) := by decide +kernel
theorem dX9_field__196 : decode cX9_field_ 196 = .ok (.iload 4, 2) := by decide +kernel
theorem dX9_field__198 : decode cX9_field_ 198 = .ok (.iaload, 1) := by decide +kernel
theorem dX9_field__199 : decode cX9_field_ 199 = .ok (.ireturn, 1) := by decide +kernel
theorem dX9_field__200 : decode cX9_field_ 200 = .ok (.iload_n 2, 1) := by decide +kernel
theorem dX9_field__201 : decode cX9_field_ 201 = .ok (.istore 6, 2) := by decide +kernel
theorem dX9_field__203 : decode cX9_field_ 203 = .ok (.aload_n 0, 1) := by decide +kernel
theorem dX9_field__204 : decode cX9_field_ 204 = .ok (.getfield 76, 3) := by decide +kernel
theorem dX9_field__207 : decode cX9_field_ 207 = .ok (.iload 4, 2) := by decide +kernel
theorem dX9_field__209 : decode cX9_field_ 209 = .ok (.iaload, 1) := by decide +kernel
theorem dX9_field__210 : decode cX9_field_ 210 = .ok (.iconst 4, 1) := by decide +kernel
theorem dX9_field__211 : decode cX9_field_ 211 = .ok (.if_icmp .gt 30, 3) := by decide +kernel
theorem dX9_field__214 : decode cX9_field_ 214 = .ok (.iload 6, 2) := by decide +kernel
theorem dX9_field__216 : decode cX9_field_ 216 = .ok (.bipush (-2), 2) := by decide +kernel
theorem dX9_field__218 : decode cX9_field_ 218 = .ok (.if_icmp .eq 23, 3) := by decide +kernel
theorem dX9_field__221 : decode cX9_field_ 221 = .ok (.iinc 5 1, 3) := by decide +kernel
theorem dX9_field__224 : decode cX9_field_ 224 = .ok (.aload_n 0, 1) := by decide +kernel
theorem dX9_field__225 : decode cX9_field_ 225 = .ok (.getfield 85, 3) := by decide +kernel
theorem dX9_field__228 : decode cX9_field_ 228 = .ok (.bipush 40, 2) := by decide +kernel
theorem dX9_field__230 : decode cX9_field_ 230 = .ok (.iload_n 1, 1) := by decide +kernel
theorem dX9_field__231 : decode cX9_field_ 231 = .ok (.imul, 1) := by decide +kernel
theorem dX9_field__232 : decode cX9_field_ 232 = .ok (.iload 6, 2) := by decide +kernel
theorem dX9_field__234 : decode cX9_field_ 234 = .ok (.iadd, 1) := by decide +kernel
theorem dX9_field__235 : decode cX9_field_ 235 = .ok (.iaload, 1) := by decide +kernel
theorem dX9_field__236 : decode cX9_field_ 236 = .ok (.istore 6, 2) := by decide +kernel
theorem dX9_field__238 : decode cX9_field_ 238 = .ok (.goto (-35), 3) := by decide +kernel
theorem dX9_field__241 : decode cX9_field_ 241 = .ok (.iload 5, 2) := by decide +kernel
theorem dX9_field__243 : decode cX9_field_ 243 = .ok (.ireturn, 1) := by decide +kernel
theorem dX9_letter_0 : decode cX9_letter 0 = .ok (.aload_n 0, 1) := by decide +kernel
theorem dX9_letter_1 : decode cX9_letter 1 = .ok (.iload_n 1, 1) := by decide +kernel
theorem dX9_letter_2 : decode cX9_letter 2 = .ok (.iload_n 2, 1) := by decide +kernel
theorem dX9_letter_3 : decode cX9_letter 3 = .ok (.invokevirtual 331, 3) := by decide +kernel
theorem dX9_letter_6 : decode cX9_letter 6 = .ok (.ifCond .eq 23, 3) := by decide +kernel
theorem dX9_letter_9 : decode cX9_letter 9 = .ok (.iload_n 3, 1) := by decide +kernel
theorem dX9_letter_10 : decode cX9_letter 10 = .ok (.iconst 0, 1) := by decide +kernel
theorem dX9_letter_11 : decode cX9_letter 11 = .ok (.aload_n 0, 1) := by decide +kernel
theorem dX9_letter_12 : decode cX9_letter 12 = .ok (.iload_n 1, 1) := by decide +kernel
theorem dX9_letter_13 : decode cX9_letter 13 = .ok (.iload_n 2, 1) := by decide +kernel
theorem dX9_letter_14 : decode cX9_letter 14 = .ok (.aload_n 0, 1) := by decide +kernel
theorem dX9_letter_15 : decode cX9_letter 15 = .ok (.getfield 152, 3) := by decide +kernel
theorem dX9_letter_18 : decode cX9_letter 18 = .ok (.invokevirtual 334, 3) := by decide +kernel
theorem dX9_letter_21 : decode cX9_letter 21 = .ok (.iconst 1, 1) := by decide +kernel
theorem dX9_letter_22 : decode cX9_letter 22 = .ok (.isub, 1) := by decide +kernel
theorem dX9_letter_23 : decode cX9_letter 23 = .ok (.invokestatic 173, 3) := by decide +kernel
theorem dX9_letter_26 : decode cX9_letter 26 = .ok (.ifCond .ne 5, 3) := by decide +kernel
theorem dX9_letter_29 : decode cX9_letter 29 = .ok (.iconst (-1), 1) := by decide +kernel
theorem dX9_letter_30 : decode cX9_letter 30 = .ok (.ireturn, 1) := by decide +kernel
theorem dX9_letter_31 : decode cX9_letter 31 = .ok (.aload_n 0, 1) := by decide +kernel
theorem dX9_letter_32 : decode cX9_letter 32 = .ok (.getfield 152, 3) := by decide +kernel
theorem dX9_letter_35 : decode cX9_letter 35 = .ok (.iload_n 3, 1) := by decide +kernel
theorem dX9_letter_36 : decode cX9_letter 36 = .ok (.baload, 1) := by decide +kernel
theorem dX9_letter_37 : decode cX9_letter 37 = .ok (.ireturn, 1) := by decide +kernel
theorem dX9_leaf_0 : decode cX9_leaf 0 = .ok (.aload_n 0, 1) := by decide +kernel
theorem dX9_leaf_1 : decode cX9_leaf 1 = .ok (.iload_n 1, 1) := by decide +kernel
theorem dX9_leaf_2 : decode cX9_leaf 2 = .ok (.iload_n 2, 1) := by decide +kernel
theorem dX9_leaf_3 : decode cX9_leaf 3 = .ok (.invokevirtual 331, 3) := by decide +kernel
theorem dX9_leaf_6 : decode cX9_leaf 6 = .ok (.ifCond .ne 5, 3) := by decide +kernel
theorem dX9_leaf_9 : decode cX9_leaf 9 = .ok (.iconst (-1), 1) := by decide +kernel
theorem dX9_leaf_10 : decode cX9_leaf 10 = .ok (.ireturn, 1) := by decide +kernel
theorem dX9_leaf_11 : decode cX9_leaf 11 = .ok (.bipush 40, 2) := by decide +kernel
theorem dX9_leaf_13 : decode cX9_leaf 13 = .ok (.iload_n 1, 1) := by decide +kernel
theorem dX9_leaf_14 : decode cX9_leaf 14 = .ok (.imul, 1) := by decide +kernel
theorem dX9_leaf_15 : decode cX9_leaf 15 = .ok (.iload_n 2, 1) := by decide +kernel
theorem dX9_leaf_16 : decode cX9_leaf 16 = .ok (.iadd, 1) := by decide +kernel
theorem dX9_leaf_17 : decode cX9_leaf 17 = .ok (.istore_n 3, 1) := by decide +kernel
theorem dX9_leaf_18 : decode cX9_leaf 18 = .ok (.aload_n 0, 1) := by decide +kernel
theorem dX9_leaf_19 : decode cX9_leaf 19 = .ok (.getfield 76, 3) := by decide +kernel
theorem dX9_leaf_22 : decode cX9_leaf 22 = .ok (.iload_n 3, 1) := by decide +kernel
theorem dX9_leaf_23 : decode cX9_leaf 23 = .ok (.iaload, 1) := by decide +kernel
theorem dX9_leaf_24 : decode cX9_leaf 24 = .ok (.iconst 4, 1) := by decide +kernel
theorem dX9_leaf_25 : decode cX9_leaf 25 = .ok (.if_icmp .gt 7, 3) := by decide +kernel
theorem dX9_leaf_28 : decode cX9_leaf 28 = .ok (.iload_n 2, 1) := by decide +kernel
theorem dX9_leaf_29 : decode cX9_leaf 29 = .ok (.goto 25, 3) := by decide +kernel
theorem dX9_leaf_32 : decode cX9_leaf 32 = .ok (.aload_n 0, 1) := by decide +kernel
theorem dX9_leaf_33 : decode cX9_leaf 33 = .ok (.getfield 76, 3) := by decide +kernel
theorem dX9_leaf_36 : decode cX9_leaf 36 = .ok (.iload_n 3, 1) := by decide +kernel
theorem dX9_leaf_37 : decode cX9_leaf 37 = .ok (.iaload, 1) := by decide +kernel
theorem dX9_leaf_38 : decode cX9_leaf 38 = .ok (.bipush 7, 2) := by decide +kernel
theorem dX9_leaf_40 : decode cX9_leaf 40 = .ok (.if_icmp .ne 12, 3) := by decide +kernel
theorem dX9_leaf_43 : decode cX9_leaf 43 = .ok (.aload_n 0, 1) := by decide +kernel
theorem dX9_leaf_44 : decode cX9_leaf 44 = .ok (.getfield 88, 3) := by decide +kernel
theorem dX9_leaf_47 : decode cX9_leaf 47 = .ok (.iload_n 3, 1) := by decide +kernel
theorem dX9_leaf_48 : decode cX9_leaf 48 = .ok (.iaload, 1) := by decide +kernel
theorem dX9_leaf_49 : decode cX9_leaf 49 = .ok (.goto 5, 3) := by decide +kernel
theorem dX9_leaf_52 : decode cX9_leaf 52 = .ok (.bipush (-2), 2) := by decide +kernel
theorem dX9_leaf_54 : decode cX9_leaf 54 = .ok (.ireturn, 1) := by decide +kernel
theorem dX9_put_0 : decode cX9_put 0 = .ok (.aload_n 0, 1) := by decide +kernel
theorem dX9_put_1 : decode cX9_put 1 = .ok (.getfield 53, 3) := by decide +kernel
theorem dX9_put_4 : decode cX9_put 4 = .ok (.aload_n 0, 1) := by decide +kernel
theorem dX9_put_5 : decode cX9_put 5 = .ok (.getfield 338, 3) := by decide +kernel
theorem dX9_put_8 : decode cX9_put 8 = .ok (.iload_n 1, 1) := by decide +kernel
theorem dX9_put_9 : decode cX9_put 9 = .ok (.i2b, 1) := by decide +kernel
theorem dX9_put_10 : decode cX9_put 10 = .ok (.bastore, 1) := by decide +kernel
theorem dX9_put_11 : decode cX9_put 11 = .ok (.aload_n 0, 1) := by decide +kernel
theorem dX9_put_12 : decode cX9_put 12 = .ok (.dup, 1) := by decide +kernel
theorem dX9_put_13 : decode cX9_put 13 = .ok (.getfield 338, 3) := by decide +kernel
theorem dX9_put_16 : decode cX9_put 16 = .ok (.iconst 1, 1) := by decide +kernel
theorem dX9_put_17 : decode cX9_put 17 = .ok (.iadd, 1) := by decide +kernel
theorem dX9_put_18 : decode cX9_put 18 = .ok (.putfield 338, 3) := by decide +kernel
theorem dX9_put_21 : decode cX9_put 21 = .ok (.return_, 1) := by decide +kernel
theorem dX9_putWord_0 : decode cX9_putWord 0 = .ok (.bipush 56, 2) := by decide +kernel
theorem dX9_putWord_2 : decode cX9_putWord 2 = .ok (.istore_n 3, 1) := by decide +kernel
theorem dX9_putWord_3 : decode cX9_putWord 3 = .ok (.iload_n 3, 1) := by decide +kernel
theorem dX9_putWord_4 : decode cX9_putWord 4 = .ok (.ifCond .lt 30, 3) := by decide +kernel
theorem dX9_putWord_7 : decode cX9_putWord 7 = .ok (.lload_n 1, 1) := by decide +kernel
theorem dX9_putWord_8 : decode cX9_putWord 8 = .ok (.iload_n 3, 1) := by decide +kernel
theorem dX9_putWord_9 : decode cX9_putWord 9 = .ok (.lshr, 1) := by decide +kernel
theorem dX9_putWord_10 : decode cX9_putWord 10 = .ok (.ldc2_w 341, 3) := by decide +kernel
theorem dX9_putWord_13 : decode cX9_putWord 13 = .ok (.land, 1) := by decide +kernel
theorem dX9_putWord_14 : decode cX9_putWord 14 = .ok (.l2i, 1) := by decide +kernel
theorem dX9_putWord_15 : decode cX9_putWord 15 = .ok (.istore 4, 2) := by decide +kernel
theorem dX9_putWord_17 : decode cX9_putWord 17 = .ok (.iload 4, 2) := by decide +kernel
theorem dX9_putWord_19 : decode cX9_putWord 19 = .ok (.ifCond .eq 9, 3) := by decide +kernel
theorem dX9_putWord_22 : decode cX9_putWord 22 = .ok (.aload_n 0, 1) := by decide +kernel
theorem dX9_putWord_23 : decode cX9_putWord 23 = .ok (.iload 4, 2) := by decide +kernel
theorem dX9_putWord_25 : decode cX9_putWord 25 = .ok (.invokevirtual 343, 3) := by decide +kernel
theorem dX9_putWord_28 : decode cX9_putWord 28 = .ok (.iinc 3 (-8), 3) := by decide +kernel
theorem dX9_putWord_31 : decode cX9_putWord 31 = .ok (.goto (-28), 3) := by decide +kernel
theorem dX9_putWord_34 : decode cX9_putWord 34 = .ok (.return_, 1) := by decide +kernel
theorem dX9_putBytes_0 : decode cX9_putBytes 0 = .ok (.iconst 0, 1) := by decide +kernel
theorem dX9_putBytes_1 : decode cX9_putBytes 1 = .ok (.istore 4, 2) := by decide +kernel
theorem dX9_putBytes_3 : decode cX9_putBytes 3 = .ok (.iload 4, 2) := by decide +kernel
theorem dX9_putBytes_5 : decode cX9_putBytes 5 = .ok (.iload_n 3, 1) := by decide +kernel
theorem dX9_putBytes_6 : decode cX9_putBytes 6 = .ok (.if_icmp .ge 19, 3) := by decide +kernel
theorem dX9_putBytes_9 : decode cX9_putBytes 9 = .ok (.aload_n 0, 1) := by decide +kernel
theorem dX9_putBytes_10 : decode cX9_putBytes 10 = .ok (.aload_n 1, 1) := by decide +kernel
theorem dX9_putBytes_11 : decode cX9_putBytes 11 = .ok (.iload_n 2, 1) := by decide +kernel
theorem dX9_putBytes_12 : decode cX9_putBytes 12 = .ok (.iload 4, 2) := by decide +kernel
theorem dX9_putBytes_14 : decode cX9_putBytes 14 = .ok (.iadd, 1) := by decide +kernel
theorem dX9_putBytes_15 : decode cX9_putBytes 15 = .ok (.baload, 1) := by decide +kernel
theorem dX9_putBytes_16 : decode cX9_putBytes 16 = .ok (.invokevirtual 343, 3) := by decide +kernel
theorem dX9_putBytes_19 : decode cX9_putBytes 19 = .ok (.iinc 4 1, 3) := by decide +kernel
theorem dX9_putBytes_22 : decode cX9_putBytes 22 = .ok (.goto (-19), 3) := by decide +kernel
theorem dX9_putBytes_25 : decode cX9_putBytes 25 = .ok (.return_, 1) := by decide +kernel
theorem dX9_putNumber_0 : decode cX9_putNumber 0 = .ok (.ldc_w 346, 3) := by decide +kernel
theorem dX9_putNumber_3 : decode cX9_putNumber 3 = .ok (.istore_n 2, 1) := by decide +kernel
theorem dX9_putNumber_4 : decode cX9_putNumber 4 = .ok (.iload_n 2, 1) := by decide +kernel
theorem dX9_putNumber_5 : decode cX9_putNumber 5 = .ok (.iconst 1, 1) := by decide +kernel
theorem dX9_putNumber_6 : decode cX9_putNumber 6 = .ok (.if_icmp .le 16, 3) := by decide +kernel
theorem dX9_putNumber_9 : decode cX9_putNumber 9 = .ok (.iload_n 1, 1) := by decide +kernel
theorem dX9_putNumber_10 : decode cX9_putNumber 10 = .ok (.iload_n 2, 1) := by decide +kernel
theorem dX9_putNumber_11 : decode cX9_putNumber 11 = .ok (.if_icmp .ge 11, 3) := by decide +kernel
theorem dX9_putNumber_14 : decode cX9_putNumber 14 = .ok (.iload_n 2, 1) := by decide +kernel
theorem dX9_putNumber_15 : decode cX9_putNumber 15 = .ok (.bipush 10, 2) := by decide +kernel
theorem dX9_putNumber_17 : decode cX9_putNumber 17 = .ok (.idiv, 1) := by decide +kernel
theorem dX9_putNumber_18 : decode cX9_putNumber 18 = .ok (.istore_n 2, 1) := by decide +kernel
theorem dX9_putNumber_19 : decode cX9_putNumber 19 = .ok (.goto (-15), 3) := by decide +kernel
theorem dX9_putNumber_22 : decode cX9_putNumber 22 = .ok (.iload_n 2, 1) := by decide +kernel
theorem dX9_putNumber_23 : decode cX9_putNumber 23 = .ok (.ifCond .le 24, 3) := by decide +kernel
theorem dX9_putNumber_26 : decode cX9_putNumber 26 = .ok (.aload_n 0, 1) := by decide +kernel
theorem dX9_putNumber_27 : decode cX9_putNumber 27 = .ok (.bipush 48, 2) := by decide +kernel
theorem dX9_putNumber_29 : decode cX9_putNumber 29 = .ok (.iload_n 1, 1) := by decide +kernel
theorem dX9_putNumber_30 : decode cX9_putNumber 30 = .ok (.iload_n 2, 1) := by decide +kernel
theorem dX9_putNumber_31 : decode cX9_putNumber 31 = .ok (.idiv, 1) := by decide +kernel
theorem dX9_putNumber_32 : decode cX9_putNumber 32 = .ok (.bipush 10, 2) := by decide +kernel
theorem dX9_putNumber_34 : decode cX9_putNumber 34 = .ok (.irem, 1) := by decide +kernel
theorem dX9_putNumber_35 : decode cX9_putNumber 35 = .ok (.iadd, 1) := by decide +kernel
theorem dX9_putNumber_36 : decode cX9_putNumber 36 = .ok (.invokevirtual 343, 3) := by decide +kernel
theorem dX9_putNumber_39 : decode cX9_putNumber 39 = .ok (.iload_n 2, 1) := by decide +kernel
theorem dX9_putNumber_40 : decode cX9_putNumber 40 = .ok (.bipush 10, 2) := by decide +kernel
theorem dX9_putNumber_42 : decode cX9_putNumber 42 = .ok (.idiv, 1) := by decide +kernel
theorem dX9_putNumber_43 : decode cX9_putNumber 43 = .ok (.istore_n 2, 1) := by decide +kernel
theorem dX9_putNumber_44 : decode cX9_putNumber 44 = .ok (.goto (-22), 3) := by decide +kernel
theorem dX9_putNumber_47 : decode cX9_putNumber 47 = .ok (.return_, 1) := by decide +kernel
theorem dX9_putPath_0 : decode cX9_putPath 0 = .ok (.aload_n 0, 1) := by decide +kernel
theorem dX9_putPath_1 : decode cX9_putPath 1 = .ok (.aload_n 0, 1) := by decide +kernel
theorem dX9_putPath_2 : decode cX9_putPath 2 = .ok (.iload_n 1, 1) := by decide +kernel
theorem dX9_putPath_3 : decode cX9_putPath 3 = .ok (.iload_n 2, 1) := by decide +kernel
theorem dX9_putPath_4 : decode cX9_putPath 4 = .ok (.aload_n 0, 1) := by decide +kernel
theorem dX9_putPath_5 : decode cX9_putPath 5 = .ok (.getfield 152, 3) := by decide +kernel
theorem dX9_putPath_8 : decode cX9_putPath 8 = .ok (.invokevirtual 334, 3) := by decide +kernel
theorem dX9_putPath_11 : decode cX9_putPath 11 = .ok (.putfield 347, 3) := by decide +kernel
theorem dX9_putPath_14 : decode cX9_putPath 14 = .ok (.aload_n 0, 1) := by decide +kernel
theorem dX9_putPath_15 : decode cX9_putPath 15 = .ok (.aload_n 0, 1) := by decide +kernel
theorem dX9_putPath_16 : decode cX9_putPath 16 = .ok (.getfield 152, 3) := by decide +kernel
theorem dX9_putPath_19 : decode cX9_putPath 19 = .ok (.iconst 0, 1) := by decide +kernel
theorem dX9_putPath_20 : decode cX9_putPath 20 = .ok (.aload_n 0, 1) := by decide +kernel
theorem dX9_putPath_21 : decode cX9_putPath 21 = .ok (.getfield 347, 3) := by decide +kernel
theorem dX9_putPath_24 : decode cX9_putPath 24 = .ok (.invokevirtual 350, 3) := by decide +kernel
theorem dX9_putPath_27 : decode cX9_putPath 27 = .ok (.return_, 1) := by decide +kernel
theorem dX9_putOptions_0 : decode cX9_putOptions 0 = .ok (.iconst 1, 1) := by decide +kernel
theorem dX9_putOptions_1 : decode cX9_putOptions 1 = .ok (.istore_n 3, 1) := by decide +kernel
theorem dX9_putOptions_2 : decode cX9_putOptions 2 = .ok (.iconst 0, 1) := by decide +kernel
theorem dX9_putOptions_3 : decode cX9_putOptions 3 = .ok (.istore 4, 2) := by decide +kernel
theorem dX9_putOptions_5 : decode cX9_putOptions 5 = .ok (.iload 4, 2) := by decide +kernel
theorem dX9_putOptions_7 : decode cX9_putOptions 7 = .ok (.bipush 7, 2) := by decide +kernel
theorem dX9_putOptions_9 : decode cX9_putOptions 9 = .ok (.if_icmp .ge 149, 3) := by decide +kernel
theorem dX9_putOptions_12 : decode cX9_putOptions 12 = .ok (.aload_n 0, 1) := by decide +kernel
theorem dX9_putOptions_13 : decode cX9_putOptions 13 = .ok (.getfield 79, 3) := by decide +kernel
theorem dX9_putOptions_16 : decode cX9_putOptions 16 = .ok (.iload_n 2, 1) := by decide +kernel
theorem dX9_putOptions_17 : decode cX9_putOptions 17 = .ok (.iaload, 1) := by decide +kernel
theorem dX9_putOptions_18 : decode cX9_putOptions 18 = .ok (.iload 4, 2) := by decide +kernel
theorem dX9_putOptions_20 : decode cX9_putOptions 20 = .ok (.ishr, 1) := by decide +kernel
theorem dX9_putOptions_21 : decode cX9_putOptions 21 = .ok (.iconst 1, 1) := by decide +kernel
theorem dX9_putOptions_22 : decode cX9_putOptions 22 = .ok (.iand, 1) := by decide +kernel
theorem dX9_putOptions_23 : decode cX9_putOptions 23 = .ok (.iconst 1, 1) := by decide +kernel
theorem dX9_putOptions_24 : decode cX9_putOptions 24 = .ok (.if_icmp .ne 128, 3) := by decide +kernel
theorem dX9_putOptions_27 : decode cX9_putOptions 27 = .ok (.aload_n 0, 1) := by decide +kernel
theorem dX9_putOptions_28 : decode cX9_putOptions 28 = .ok (.iload_n 3, 1) := by decide +kernel
theorem dX9_putOptions_29 : decode cX9_putOptions 29 = .ok (.ifCond .eq 8, 3) := by decide +kernel
theorem dX9_putOptions_32 : decode cX9_putOptions 32 = .ok (.bipush 40, 2) := by decide +kernel
theorem dX9_putOptions_34 : decode cX9_putOptions 34 = .ok (.goto 5, 3) := by decide +kernel
theorem dX9_putOptions_37 : decode cX9_putOptions 37 = .ok (.bipush 44, 2) := by decide +kernel
theorem dX9_putOptions_39 : decode cX9_putOptions 39 = .ok (.invokevirtual 343, 3) := by decide +kernel
theorem dX9_putOptions_42 : decode cX9_putOptions 42 = .ok (.iconst 0, 1) := by decide +kernel
theorem dX9_putOptions_43 : decode cX9_putOptions 43 = .ok (.istore_n 3, 1) := by decide +kernel
theorem dX9_putOptions_44 : decode cX9_putOptions 44 = .ok (.aload_n 0, 1) := by decide +kernel
theorem dX9_putOptions_45 : decode cX9_putOptions 45 = .ok (.aload_n 0, 1) := by decide +kernel
theorem dX9_putOptions_46 : decode cX9_putOptions 46 = .ok (.getfield 43, 3) := by decide +kernel
theorem dX9_putOptions_49 : decode cX9_putOptions 49 = .ok (.iload 4, 2) := by decide +kernel
theorem dX9_putOptions_51 : decode cX9_putOptions 51 = .ok (.laload, 1) := by decide +kernel
theorem dX9_putOptions_52 : decode cX9_putOptions 52 = .ok (.invokevirtual 354, 3) := by decide +kernel
theorem dX9_putOptions_55 : decode cX9_putOptions 55 = .ok (.iload 4, 2) := by decide +kernel
theorem dX9_putOptions_57 : decode cX9_putOptions 57 = .ok (.iconst 2, 1) := by decide +kernel
theorem dX9_putOptions_58 : decode cX9_putOptions 58 = .ok (.if_icmp .le 9, 3) := by decide +kernel
theorem dX9_putOptions_61 : decode cX9_putOptions 61 = .ok (.aload_n 0, 1) := by decide +kernel
theorem dX9_putOptions_62 : decode cX9_putOptions 62 = .ok (.bipush 61, 2) := by decide +kernel
theorem dX9_putOptions_64 : decode cX9_putOptions 64 = .ok (.invokevirtual 343, 3) := by decide +kernel
theorem dX9_putOptions_67 : decode cX9_putOptions 67 = .ok (.iload 4, 2) := by decide +kernel
theorem dX9_putOptions_69 : decode cX9_putOptions 69 = .ok (.iconst 3, 1) := by decide +kernel
theorem dX9_putOptions_70 : decode cX9_putOptions 70 = .ok (.if_icmp .ne 16, 3) := by decide +kernel
theorem dX9_putOptions_73 : decode cX9_putOptions 73 = .ok (.aload_n 0, 1) := by decide +kernel
theorem dX9_putOptions_74 : decode cX9_putOptions 74 = .ok (.aload_n 0, 1) := by decide +kernel
theorem dX9_putOptions_75 : decode cX9_putOptions 75 = .ok (.getfield 82, 3) := by decide +kernel
theorem dX9_putOptions_78 : decode cX9_putOptions 78 = .ok (.iload_n 2, 1) := by decide +kernel
theorem dX9_putOptions_79 : decode cX9_putOptions 79 = .ok (.iaload, 1) := by decide +kernel
theorem dX9_putOptions_80 : decode cX9_putOptions 80 = .ok (.invokevirtual 358, 3) := by decide +kernel
theorem dX9_putOptions_83 : decode cX9_putOptions 83 = .ok (.goto 69, 3) := by decide +kernel
theorem dX9_putOptions_86 : decode cX9_putOptions 86 = .ok (.iload 4, 2) := by decide +kernel
theorem dX9_putOptions_88 : decode cX9_putOptions 88 = .ok (.iconst 4, 1) := by decide +kernel
theorem dX9_putOptions_89 : decode cX9_putOptions 89 = .ok (.if_icmp .eq 10, 3) := by decide +kernel
theorem dX9_putOptions_92 : decode cX9_putOptions 92 = .ok (.iload 4, 2) := by decide +kernel
theorem dX9_putOptions_94 : decode cX9_putOptions 94 = .ok (.bipush 6, 2) := by decide +kernel
theorem dX9_putOptions_96 : decode cX9_putOptions 96 = .ok (.if_icmp .ne 32, 3) := by decide +kernel
theorem dX9_putOptions_99 : decode cX9_putOptions 99 = .ok (.aload_n 0, 1) := by decide +kernel
theorem dX9_putOptions_100 : decode cX9_putOptions 100 = .ok (.iload_n 1, 1) := by decide +kernel
theorem dX9_putOptions_101 : decode cX9_putOptions 101 = .ok (.iload 4, 2) := by decide +kernel
theorem dX9_putOptions_103 : decode cX9_putOptions 103 = .ok (.iconst 4, 1) := by decide +kernel
theorem dX9_putOptions_104 : decode cX9_putOptions 104 = .ok (.if_icmp .ne 12, 3) := by decide +kernel
theorem dX9_putOptions_107 : decode cX9_putOptions 107 = .ok (.aload_n 0, 1) := by decide +kernel
theorem dX9_putOptions_108 : decode cX9_putOptions 108 = .ok (.getfield 85, 3) := by decide +kernel
theorem dX9_putOptions_111 : decode cX9_putOptions 111 = .ok (.iload_n 2, 1) := by decide +kernel
theorem dX9_putOptions_112 : decode cX9_putOptions 112 = .ok (.iaload, 1) := by decide +kernel
theorem dX9_putOptions_113 : decode cX9_putOptions 113 = .ok (.goto 9, 3) := by decide +kernel
theorem dX9_putOptions_116 : decode cX9_putOptions 116 = .ok (.aload_n 0, 1) := by decide +kernel
theorem dX9_putOptions_117 : decode cX9_putOptions 117 = .ok (.getfield 88, 3) := by decide +kernel
theorem dX9_putOptions_120 : decode cX9_putOptions 120 = .ok (.iload_n 2, 1) := by decide +kernel
theorem dX9_putOptions_121 : decode cX9_putOptions 121 = .ok (.iaload, 1) := by decide +kernel
theorem dX9_putOptions_122 : decode cX9_putOptions 122 = .ok (.invokevirtual 361, 3) := by decide +kernel
theorem dX9_putOptions_125 : decode cX9_putOptions 125 = .ok (.goto 27, 3) := by decide +kernel
theorem dX9_putOptions_128 : decode cX9_putOptions 128 = .ok (.iload 4, 2) := by decide +kernel
theorem dX9_putOptions_130 : decode cX9_putOptions 130 = .ok (.iconst 5, 1) := by decide +kernel
theorem dX9_putOptions_131 : decode cX9_putOptions 131 = .ok (.if_icmp .ne 21, 3) := by decide +kernel
theorem dX9_putOptions_134 : decode cX9_putOptions 134 = .ok (.aload_n 0, 1) := by decide +kernel
theorem dX9_putOptions_135 : decode cX9_putOptions 135 = .ok (.aload_n 0, 1) := by decide +kernel
theorem dX9_putOptions_136 : decode cX9_putOptions 136 = .ok (.getfield 94, 3) := by decide +kernel
theorem dX9_putOptions_139 : decode cX9_putOptions 139 = .ok (.bipush 12, 2) := by decide +kernel
theorem dX9_putOptions_141 : decode cX9_putOptions 141 = .ok (.iload_n 2, 1) := by decide +kernel
theorem dX9_putOptions_142 : decode cX9_putOptions 142 = .ok (.imul, 1) := by decide +kernel
theorem dX9_putOptions_143 : decode cX9_putOptions 143 = .ok (.aload_n 0, 1) := by decide +kernel
theorem dX9_putOptions_144 : decode cX9_putOptions 144 = .ok (.getfield 91, 3) := by decide +kernel
theorem dX9_putOptions_147 : decode cX9_putOptions 147 = .ok (.iload_n 2, 1) := by decide +kernel
theorem dX9_putOptions_148 : decode cX9_putOptions 148 = .ok (.iaload, 1) := by decide +kernel
theorem dX9_putOptions_149 : decode cX9_putOptions 149 = .ok (.invokevirtual 350, 3) := by decide +kernel
theorem dX9_putOptions_152 : decode cX9_putOptions 152 = .ok (.iinc 4 1, 3) := by decide +kernel
theorem dX9_putOptions_155 : decode cX9_putOptions 155 = .ok (.goto (-150), 3) := by decide +kernel
theorem dX9_putOptions_158 : decode cX9_putOptions 158 = .ok (.iload_n 3, 1) := by decide +kernel
theorem dX9_putOptions_159 : decode cX9_putOptions 159 = .ok (.ifCond .ne 9, 3) := by decide +kernel
theorem dX9_putOptions_162 : decode cX9_putOptions 162 = .ok (.aload_n 0, 1) := by decide +kernel
theorem dX9_putOptions_163 : decode cX9_putOptions 163 = .ok (.bipush 41, 2) := by decide +kernel
theorem dX9_putOptions_165 : decode cX9_putOptions 165 = .ok (.invokevirtual 343, 3) := by decide +kernel
theorem dX9_putOptions_168 : decode cX9_putOptions 168 = .ok (.return_, 1) := by decide +kernel
theorem dX9_print_0 : decode cX9_print 0 = .ok (.aload_n 0, 1) := by decide +kernel
theorem dX9_print_1 : decode cX9_print 1 = .ok (.iload_n 1, 1) := by decide +kernel
theorem dX9_print_2 : decode cX9_print 2 = .ok (.invokevirtual 299, 3) := by decide +kernel
theorem dX9_print_5 : decode cX9_print 5 = .ok (.ifCond .ne 5, 3) := by decide +kernel
theorem dX9_print_8 : decode cX9_print 8 = .ok (.iconst (-1), 1) := by decide +kernel
theorem dX9_print_9 : decode cX9_print 9 = .ok (.ireturn, 1) := by decide +kernel
theorem dX9_print_10 : decode cX9_print 10 = .ok (.iload_n 1, 1) := by decide +kernel
theorem dX9_print_11 : decode cX9_print 11 = .ok (.istore_n 2, 1) := by decide +kernel
theorem dX9_print_12 : decode cX9_print 12 = .ok (.aload_n 0, 1) := by decide +kernel
theorem dX9_print_13 : decode cX9_print 13 = .ok (.iconst 0, 1) := by decide +kernel
theorem dX9_print_14 : decode cX9_print 14 = .ok (.putfield 338, 3) := by decide +kernel
theorem dX9_print_17 : decode cX9_print 17 = .ok (.iconst 0, 1) := by decide +kernel
theorem dX9_print_18 : decode cX9_print 18 = .ok (.istore_n 3, 1) := by decide +kernel
theorem dX9_print_19 : decode cX9_print 19 = .ok (.iconst 0, 1) := by decide +kernel
theorem dX9_print_20 : decode cX9_print 20 = .ok (.istore 4, 2) := by decide +kernel
theorem dX9_print_22 : decode cX9_print 22 = .ok (.iload 4, 2) := by decide +kernel
theorem dX9_print_24 : decode cX9_print 24 = .ok (.aload_n 0, 1) := by decide +kernel
theorem dX9_print_25 : decode cX9_print 25 = .ok (.getfield 60, 3) := by decide +kernel
theorem dX9_print_28 : decode cX9_print 28 = .ok (.iload_n 2, 1) := by decide +kernel
theorem dX9_print_29 : decode cX9_print 29 = .ok (.iaload, 1) := by decide +kernel
theorem dX9_print_30 : decode cX9_print 30 = .ok (.if_icmp .ge 149, 3) := by decide +kernel
theorem dX9_print_33 : decode cX9_print 33 = .ok (.bipush 40, 2) := by decide +kernel
theorem dX9_print_35 : decode cX9_print 35 = .ok (.iload_n 2, 1) := by decide +kernel
theorem dX9_print_36 : decode cX9_print 36 = .ok (.imul, 1) := by decide +kernel
theorem dX9_print_37 : decode cX9_print 37 = .ok (.iload 4, 2) := by decide +kernel
theorem dX9_print_39 : decode cX9_print 39 = .ok (.iadd, 1) := by decide +kernel
theorem dX9_print_40 : decode cX9_print 40 = .ok (.istore 5, 2) := by decide +kernel
theorem dX9_print_42 : decode cX9_print 42 = .ok (.aload_n 0, 1) := by decide +kernel
theorem dX9_print_43 : decode cX9_print 43 = .ok (.aload_n 0, 1) := by decide +kernel
theorem dX9_print_44 : decode cX9_print 44 = .ok (.getfield 73, 3) := by decide +kernel
theorem dX9_print_47 : decode cX9_print 47 = .ok (.bipush 12, 2) := by decide +kernel
theorem dX9_print_49 : decode cX9_print 49 = .ok (.iload 5, 2) := by decide +kernel
theorem dX9_print_51 : decode cX9_print 51 = .ok (.imul, 1) := by decide +kernel
theorem dX9_print_52 : decode cX9_print 52 = .ok (.aload_n 0, 1) := by decide +kernel
theorem dX9_print_53 : decode cX9_print 53 = .ok (.getfield 70, 3) := by decide +kernel
theorem dX9_print_56 : decode cX9_print 56 = .ok (.iload 5, 2) := by decide +kernel
theorem dX9_print_58 : decode cX9_print 58 = .ok (.iaload, 1) := by decide +kernel
theorem dX9_print_59 : decode cX9_print 59 = .ok (.invokevirtual 350, 3) := by decide +kernel
theorem dX9_print_62 : decode cX9_print 62 = .ok (.aload_n 0, 1) := by decide +kernel
theorem dX9_print_63 : decode cX9_print 63 = .ok (.bipush 58, 2) := by decide +kernel
theorem dX9_print_65 : decode cX9_print 65 = .ok (.invokevirtual 343, 3) := by decide +kernel
theorem dX9_print_68 : decode cX9_print 68 = .ok (.aload_n 0, 1) := by decide +kernel
theorem dX9_print_69 : decode cX9_print 69 = .ok (.aload_n 0, 1) := by decide +kernel
theorem dX9_print_70 : decode cX9_print 70 = .ok (.getfield 23, 3) := by decide +kernel
theorem dX9_print_73 : decode cX9_print 73 = .ok (.aload_n 0, 1) := by decide +kernel
theorem dX9_print_74 : decode cX9_print 74 = .ok (.getfield 76, 3) := by decide +kernel
theorem dX9_print_77 : decode cX9_print 77 = .ok (.iload 5, 2) := by decide +kernel
theorem dX9_print_79 : decode cX9_print 79 = .ok (.iaload, 1) := by decide +kernel
theorem dX9_print_80 : decode cX9_print 80 = .ok (.laload, 1) := by decide +kernel
theorem dX9_print_81 : decode cX9_print 81 = .ok (.invokevirtual 354, 3) := by decide +kernel
theorem dX9_print_84 : decode cX9_print 84 = .ok (.aload_n 0, 1) := by decide +kernel
theorem dX9_print_85 : decode cX9_print 85 = .ok (.iload_n 2, 1) := by decide +kernel
theorem dX9_print_86 : decode cX9_print 86 = .ok (.iload 5, 2) := by decide +kernel
theorem dX9_print_88 : decode cX9_print 88 = .ok (.invokevirtual 364, 3) := by decide +kernel
theorem dX9_print_91 : decode cX9_print 91 = .ok (.iload 4, 2) := by decide +kernel
theorem dX9_print_93 : decode cX9_print 93 = .ok (.iconst 1, 1) := by decide +kernel
theorem dX9_print_94 : decode cX9_print 94 = .ok (.iadd, 1) := by decide +kernel
theorem dX9_print_95 : decode cX9_print 95 = .ok (.aload_n 0, 1) := by decide +kernel
theorem dX9_print_96 : decode cX9_print 96 = .ok (.getfield 60, 3) := by decide +kernel
theorem dX9_print_99 : decode cX9_print 99 = .ok (.iload_n 2, 1) := by decide +kernel
theorem dX9_print_100 : decode cX9_print 100 = .ok (.iaload, 1) := by decide +kernel
theorem dX9_print_101 : decode cX9_print 101 = .ok (.if_icmp .ge 15, 3) := by decide +kernel
theorem dX9_print_104 : decode cX9_print 104 = .ok (.aload_n 0, 1) := by decide +kernel
theorem dX9_print_105 : decode cX9_print 105 = .ok (.iload_n 2, 1) := by decide +kernel
theorem dX9_print_106 : decode cX9_print 106 = .ok (.iload 4, 2) := by decide +kernel
theorem dX9_print_108 : decode cX9_print 108 = .ok (.iconst 1, 1) := by decide +kernel
theorem dX9_print_109 : decode cX9_print 109 = .ok (.iadd, 1) := by decide +kernel
theorem dX9_print_110 : decode cX9_print 110 = .ok (.invokevirtual 311, 3) := by decide +kernel
theorem dX9_print_113 : decode cX9_print 113 = .ok (.goto 4, 3) := by decide +kernel
theorem dX9_print_116 : decode cX9_print 116 = .ok (.iconst 0, 1) := by decide +kernel
theorem dX9_print_117 : decode cX9_print 117 = .ok (.istore 6, 2) := by decide +kernel
theorem dX9_print_119 : decode cX9_print 119 = .ok (.iload 6, 2) := by decide +kernel
theorem dX9_print_121 : decode cX9_print 121 = .ok (.aload_n 0, 1) := by decide +kernel
theorem dX9_print_122 : decode cX9_print 122 = .ok (.iload_n 2, 1) := by decide +kernel
theorem dX9_print_123 : decode cX9_print 123 = .ok (.iload 4, 2) := by decide +kernel
theorem dX9_print_125 : decode cX9_print 125 = .ok (.invokevirtual 311, 3) := by decide +kernel
theorem dX9_print_128 : decode cX9_print 128 = .ok (.if_icmp .le 15, 3) := by decide +kernel
theorem dX9_print_131 : decode cX9_print 131 = .ok (.aload_n 0, 1) := by decide +kernel
theorem dX9_print_132 : decode cX9_print 132 = .ok (.bipush 123, 2) := by decide +kernel
theorem dX9_print_134 : decode cX9_print 134 = .ok (.invokevirtual 343, 3) := by decide +kernel
theorem dX9_print_137 : decode cX9_print 137 = .ok (.iinc 3 1, 3) := by decide +kernel
theorem dX9_print_140 : decode cX9_print 140 = .ok (.goto 33, 3) := by decide +kernel
theorem dX9_print_143 : decode cX9_print 143 = .ok (.aload_n 0, 1) := by decide +kernel
theorem dX9_print_144 : decode cX9_print 144 = .ok (.bipush 59, 2) := by decide +kernel
theorem dX9_print_146 : decode cX9_print 146 = .ok (.invokevirtual 343, 3) := by decide +kernel
theorem dX9_print_149 : decode cX9_print 149 = .ok (.iload_n 3, 1) := by decide +kernel
theorem dX9_print_150 : decode cX9_print 150 = .ok (.iload 6, 2) := by decide +kernel
theorem dX9_print_152 : decode cX9_print 152 = .ok (.if_icmp .le 21, 3) := by decide +kernel
theorem dX9_print_155 : decode cX9_print 155 = .ok (.aload_n 0, 1) := by decide +kernel
theorem dX9_print_156 : decode cX9_print 156 = .ok (.bipush 125, 2) := by decide +kernel
theorem dX9_print_158 : decode cX9_print 158 = .ok (.invokevirtual 343, 3) := by decide +kernel
theorem dX9_print_161 : decode cX9_print 161 = .ok (.aload_n 0, 1) := by decide +kernel
theorem dX9_print_162 : decode cX9_print 162 = .ok (.bipush 59, 2) := by decide +kernel
theorem dX9_print_164 : decode cX9_print 164 = .ok (.invokevirtual 343, 3) := by decide +kernel
theorem dX9_print_167 : decode cX9_print 167 = .ok (.iinc 3 (-1), 3) := by decide +kernel
theorem dX9_print_170 : decode cX9_print 170 = .ok (.goto (-21), 3) := by decide +kernel
theorem dX9_print_173 : decode cX9_print 173 = .ok (.iinc 4 1, 3) := by decide +kernel
theorem dX9_print_176 : decode cX9_print 176 = .ok (.goto (-154), 3) := by decide +kernel
theorem dX9_print_179 : decode cX9_print 179 = .ok (.iconst 0, 1) := by decide +kernel
theorem dX9_print_180 : decode cX9_print 180 = .ok (.istore 4, 2) := by decide +kernel
theorem dX9_print_182 : decode cX9_print 182 = .ok (.iload 4, 2) := by decide +kernel
theorem dX9_print_184 : decode cX9_print 184 = .ok (.aload_n 0, 1) := by decide +kernel
theorem dX9_print_185 : decode cX9_print 185 = .ok (.getfield 64, 3) := by decide +kernel
theorem dX9_print_188 : decode cX9_print 188 = .ok (.iload_n 2, 1) := by decide +kernel
theorem dX9_print_189 : decode cX9_print 189 = .ok (.iaload, 1) := by decide +kernel
theorem dX9_print_190 : decode cX9_print 190 = .ok (.if_icmp .ge 115, 3) := by decide +kernel
theorem dX9_print_193 : decode cX9_print 193 = .ok (.bipush 8, 2) := by decide +kernel
theorem dX9_print_195 : decode cX9_print 195 = .ok (.iload_n 2, 1) := by decide +kernel
theorem dX9_print_196 : decode cX9_print 196 = .ok (.imul, 1) := by decide +kernel
theorem dX9_print_197 : decode cX9_print 197 = .ok (.iload 4, 2) := by decide +kernel
theorem dX9_print_199 : decode cX9_print 199 = .ok (.iadd, 1) := by decide +kernel
theorem dX9_print_200 : decode cX9_print 200 = .ok (.istore 5, 2) := by decide +kernel
theorem dX9_print_202 : decode cX9_print 202 = .ok (.aload_n 0, 1) := by decide +kernel
theorem dX9_print_203 : decode cX9_print 203 = .ok (.ldc2_w 264, 3) := by decide +kernel
theorem dX9_print_206 : decode cX9_print 206 = .ok (.invokevirtual 354, 3) := by decide +kernel
theorem dX9_print_209 : decode cX9_print 209 = .ok (.aload_n 0, 1) := by decide +kernel
theorem dX9_print_210 : decode cX9_print 210 = .ok (.bipush 32, 2) := by decide +kernel
theorem dX9_print_212 : decode cX9_print 212 = .ok (.invokevirtual 343, 3) := by decide +kernel
theorem dX9_print_215 : decode cX9_print 215 = .ok (.aload_n 0, 1) := by decide +kernel
theorem dX9_print_216 : decode cX9_print 216 = .ok (.aload_n 0, 1) := by decide +kernel
theorem dX9_print_217 : decode cX9_print 217 = .ok (.getfield 103, 3) := by decide +kernel
theorem dX9_print_220 : decode cX9_print 220 = .ok (.bipush 12, 2) := by decide +kernel
theorem dX9_print_222 : decode cX9_print 222 = .ok (.iload 5, 2) := by decide +kernel
theorem dX9_print_224 : decode cX9_print 224 = .ok (.imul, 1) := by decide +kernel
theorem dX9_print_225 : decode cX9_print 225 = .ok (.aload_n 0, 1) := by decide +kernel
theorem dX9_print_226 : decode cX9_print 226 = .ok (.getfield 100, 3) := by decide +kernel
theorem dX9_print_229 : decode cX9_print 229 = .ok (.iload 5, 2) := by decide +kernel
theorem dX9_print_231 : decode cX9_print 231 = .ok (.iaload, 1) := by decide +kernel
theorem dX9_print_232 : decode cX9_print 232 = .ok (.invokevirtual 350, 3) := by decide +kernel
theorem dX9_print_235 : decode cX9_print 235 = .ok (.aload_n 0, 1) := by decide +kernel
theorem dX9_print_236 : decode cX9_print 236 = .ok (.getfield 106, 3) := by decide +kernel
theorem dX9_print_239 : decode cX9_print 239 = .ok (.iload 5, 2) := by decide +kernel
theorem dX9_print_241 : decode cX9_print 241 = .ok (.baload, 1) := by decide +kernel
theorem dX9_print_242 : decode cX9_print 242 = .ok (.ifCond .eq 9, 3) := by decide +kernel
theorem dX9_print_245 : decode cX9_print 245 = .ok (.aload_n 0, 1) := by decide +kernel
theorem dX9_print_246 : decode cX9_print 246 = .ok (.bipush 42, 2) := by decide +kernel
theorem dX9_print_248 : decode cX9_print 248 = .ok (.invokevirtual 343, 3) := by decide +kernel
theorem dX9_print_251 : decode cX9_print 251 = .ok (.aload_n 0, 1) := by decide +kernel
theorem dX9_print_252 : decode cX9_print 252 = .ok (.aload_n 0, 1) := by decide +kernel
theorem dX9_print_253 : decode cX9_print 253 = .ok (.getfield 113, 3) := by decide +kernel
theorem dX9_print_256 : decode cX9_print 256 = .ok (.bipush 12, 2) := by decide +kernel
theorem dX9_print_258 : decode cX9_print 258 = .ok (.iload 5, 2) := by decide +kernel
theorem dX9_print_260 : decode cX9_print 260 = .ok (.imul, 1) := by decide +kernel
theorem dX9_print_261 : decode cX9_print 261 = .ok (.aload_n 0, 1) := by decide +kernel
theorem dX9_print_262 : decode cX9_print 262 = .ok (.getfield 110, 3) := by decide +kernel
theorem dX9_print_265 : decode cX9_print 265 = .ok (.iload 5, 2) := by decide +kernel
theorem dX9_print_267 : decode cX9_print 267 = .ok (.iaload, 1) := by decide +kernel
theorem dX9_print_268 : decode cX9_print 268 = .ok (.invokevirtual 350, 3) := by decide +kernel
theorem dX9_print_271 : decode cX9_print 271 = .ok (.aload_n 0, 1) := by decide +kernel
theorem dX9_print_272 : decode cX9_print 272 = .ok (.bipush 58, 2) := by decide +kernel
theorem dX9_print_274 : decode cX9_print 274 = .ok (.invokevirtual 343, 3) := by decide +kernel
theorem dX9_print_277 : decode cX9_print 277 = .ok (.aload_n 0, 1) := by decide +kernel
theorem dX9_print_278 : decode cX9_print 278 = .ok (.aload_n 0, 1) := by decide +kernel
theorem dX9_print_279 : decode cX9_print 279 = .ok (.getfield 23, 3) := by decide +kernel
theorem dX9_print_282 : decode cX9_print 282 = .ok (.aload_n 0, 1) := by decide +kernel
theorem dX9_print_283 : decode cX9_print 283 = .ok (.getfield 116, 3) := by decide +kernel
theorem dX9_print_286 : decode cX9_print 286 = .ok (.iload 5, 2) := by decide +kernel
theorem dX9_print_288 : decode cX9_print 288 = .ok (.iaload, 1) := by decide +kernel
theorem dX9_print_289 : decode cX9_print 289 = .ok (.laload, 1) := by decide +kernel
theorem dX9_print_290 : decode cX9_print 290 = .ok (.invokevirtual 354, 3) := by decide +kernel
theorem dX9_print_293 : decode cX9_print 293 = .ok (.aload_n 0, 1) := by decide +kernel
theorem dX9_print_294 : decode cX9_print 294 = .ok (.bipush 59, 2) := by decide +kernel
theorem dX9_print_296 : decode cX9_print 296 = .ok (.invokevirtual 343, 3) := by decide +kernel
theorem dX9_print_299 : decode cX9_print 299 = .ok (.iinc 4 1, 3) := by decide +kernel
theorem dX9_print_302 : decode cX9_print 302 = .ok (.goto (-120), 3) := by decide +kernel
theorem dX9_print_305 : decode cX9_print 305 = .ok (.aload_n 0, 1) := by decide +kernel
theorem dX9_print_306 : decode cX9_print 306 = .ok (.getfield 67, 3) := by decide +kernel
theorem dX9_print_309 : decode cX9_print 309 = .ok (.iload_n 2, 1) := by decide +kernel
theorem dX9_print_310 : decode cX9_print 310 = .ok (.iaload, 1) := by decide +kernel
theorem dX9_print_311 : decode cX9_print 311 = .ok (.bipush 40, 2) := by decide +kernel
theorem dX9_print_313 : decode cX9_print 313 = .ok (.if_icmp .eq 32, 3) := by decide +kernel
theorem dX9_print_316 : decode cX9_print 316 = .ok (.aload_n 0, 1) := by decide +kernel
theorem dX9_print_317 : decode cX9_print 317 = .ok (.ldc2_w 266, 3) := by decide +kernel
theorem dX9_print_320 : decode cX9_print 320 = .ok (.invokevirtual 354, 3) := by decide +kernel
theorem dX9_print_323 : decode cX9_print 323 = .ok (.aload_n 0, 1) := by decide +kernel
theorem dX9_print_324 : decode cX9_print 324 = .ok (.bipush 32, 2) := by decide +kernel
theorem dX9_print_326 : decode cX9_print 326 = .ok (.invokevirtual 343, 3) := by decide +kernel
theorem dX9_print_329 : decode cX9_print 329 = .ok (.aload_n 0, 1) := by decide +kernel
theorem dX9_print_330 : decode cX9_print 330 = .ok (.aload_n 0, 1) := by decide +kernel
theorem dX9_print_331 : decode cX9_print 331 = .ok (.getfield 67, 3) := by decide +kernel
theorem dX9_print_334 : decode cX9_print 334 = .ok (.iload_n 2, 1) := by decide +kernel
theorem dX9_print_335 : decode cX9_print 335 = .ok (.iaload, 1) := by decide +kernel
theorem dX9_print_336 : decode cX9_print 336 = .ok (.invokevirtual 358, 3) := by decide +kernel
theorem dX9_print_339 : decode cX9_print 339 = .ok (.aload_n 0, 1) := by decide +kernel
theorem dX9_print_340 : decode cX9_print 340 = .ok (.bipush 59, 2) := by decide +kernel
theorem dX9_print_342 : decode cX9_print 342 = .ok (.invokevirtual 343, 3) := by decide +kernel
theorem dX9_print_345 : decode cX9_print 345 = .ok (.aload_n 0, 1) := by decide +kernel
theorem dX9_print_346 : decode cX9_print 346 = .ok (.getfield 338, 3) := by decide +kernel
theorem dX9_print_349 : decode cX9_print 349 = .ok (.sipush 4000, 3) := by decide +kernel
theorem dX9_print_352 : decode cX9_print 352 = .ok (.if_icmp .le 6, 3) := by decide +kernel
theorem dX9_print_355 : decode cX9_print 355 = .ok (.bipush (-3), 2) := by decide +kernel
theorem dX9_print_357 : decode cX9_print 357 = .ok (.ireturn, 1) := by decide +kernel
theorem dX9_print_358 : decode cX9_print 358 = .ok (.aload_n 0, 1) := by decide +kernel
theorem dX9_print_359 : decode cX9_print 359 = .ok (.aload_n 0, 1) := by decide +kernel
theorem dX9_print_360 : decode cX9_print 360 = .ok (.getfield 338, 3) := by decide +kernel
theorem dX9_print_363 : decode cX9_print 363 = .ok (.putfield 367, 3) := by decide +kernel
theorem dX9_print_366 : decode cX9_print 366 = .ok (.iconst 0, 1) := by decide +kernel
theorem dX9_print_367 : decode cX9_print 367 = .ok (.istore 4, 2) := by decide +kernel
theorem dX9_print_369 : decode cX9_print 369 = .ok (.iload 4, 2) := by decide +kernel
theorem dX9_print_371 : decode cX9_print 371 = .ok (.aload_n 0, 1) := by decide +kernel
theorem dX9_print_372 : decode cX9_print 372 = .ok (.getfield 338, 3) := by decide +kernel
theorem dX9_print_375 : decode cX9_print 375 = .ok (.if_icmp .ge 23, 3) := by decide +kernel
theorem dX9_print_378 : decode cX9_print 378 = .ok (.aload_n 0, 1) := by decide +kernel
theorem dX9_print_379 : decode cX9_print 379 = .ok (.getfield 50, 3) := by decide +kernel
theorem dX9_print_382 : decode cX9_print 382 = .ok (.iload 4, 2) := by decide +kernel
theorem dX9_print_384 : decode cX9_print 384 = .ok (.aload_n 0, 1) := by decide +kernel
theorem dX9_print_385 : decode cX9_print 385 = .ok (.getfield 53, 3) := by decide +kernel
theorem dX9_print_388 : decode cX9_print 388 = .ok (.iload 4, 2) := by decide +kernel
theorem dX9_print_390 : decode cX9_print 390 = .ok (.baload, 1) := by decide +kernel
theorem dX9_print_391 : decode cX9_print 391 = .ok (.bastore, 1) := by decide +kernel
theorem dX9_print_392 : decode cX9_print 392 = .ok (.iinc 4 1, 3) := by decide +kernel
theorem dX9_print_395 : decode cX9_print 395 = .ok (.goto (-26), 3) := by decide +kernel
theorem dX9_print_398 : decode cX9_print 398 = .ok (.aload_n 0, 1) := by decide +kernel
theorem dX9_print_399 : decode cX9_print 399 = .ok (.getfield 367, 3) := by decide +kernel
theorem dX9_print_402 : decode cX9_print 402 = .ok (.ireturn, 1) := by decide +kernel
theorem dX9_out_0 : decode cX9_out 0 = .ok (.iload_n 1, 1) := by decide +kernel
theorem dX9_out_1 : decode cX9_out 1 = .ok (.iconst 0, 1) := by decide +kernel
theorem dX9_out_2 : decode cX9_out 2 = .ok (.aload_n 0, 1) := by decide +kernel
theorem dX9_out_3 : decode cX9_out 3 = .ok (.getfield 367, 3) := by decide +kernel
theorem dX9_out_6 : decode cX9_out 6 = .ok (.iconst 1, 1) := by decide +kernel
theorem dX9_out_7 : decode cX9_out 7 = .ok (.isub, 1) := by decide +kernel
theorem dX9_out_8 : decode cX9_out 8 = .ok (.invokestatic 173, 3) := by decide +kernel
theorem dX9_out_11 : decode cX9_out 11 = .ok (.ifCond .eq 12, 3) := by decide +kernel
theorem dX9_out_14 : decode cX9_out 14 = .ok (.aload_n 0, 1) := by decide +kernel
theorem dX9_out_15 : decode cX9_out 15 = .ok (.getfield 50, 3) := by decide +kernel
theorem dX9_out_18 : decode cX9_out 18 = .ok (.iload_n 1, 1) := by decide +kernel
theorem dX9_out_19 : decode cX9_out 19 = .ok (.baload, 1) := by decide +kernel
theorem dX9_out_20 : decode cX9_out 20 = .ok (.goto 4, 3) := by decide +kernel
theorem dX9_out_23 : decode cX9_out 23 = .ok (.iconst (-1), 1) := by decide +kernel
theorem dX9_out_24 : decode cX9_out 24 = .ok (.ireturn, 1) := by decide +kernel
theorem dX9_take_0 : decode cX9_take 0 = .ok (.aload_n 0, 1) := by decide +kernel
theorem dX9_take_1 : decode cX9_take 1 = .ok (.getfield 367, 3) := by decide +kernel
theorem dX9_take_4 : decode cX9_take 4 = .ok (.sipush 2000, 3) := by decide +kernel
theorem dX9_take_7 : decode cX9_take 7 = .ok (.if_icmp .le 6, 3) := by decide +kernel
theorem dX9_take_10 : decode cX9_take 10 = .ok (.bipush (-3), 2) := by decide +kernel
theorem dX9_take_12 : decode cX9_take 12 = .ok (.ireturn, 1) := by decide +kernel
theorem dX9_take_13 : decode cX9_take 13 = .ok (.aload_n 0, 1) := by decide +kernel
theorem dX9_take_14 : decode cX9_take 14 = .ok (.aload_n 0, 1) := by decide +kernel
theorem dX9_take_15 : decode cX9_take 15 = .ok (.getfield 367, 3) := by decide +kernel
theorem dX9_take_18 : decode cX9_take 18 = .ok (.putfield 177, 3) := by decide +kernel
theorem dX9_take_21 : decode cX9_take 21 = .ok (.iconst 0, 1) := by decide +kernel
theorem dX9_take_22 : decode cX9_take 22 = .ok (.istore_n 1, 1) := by decide +kernel
theorem dX9_take_23 : decode cX9_take 23 = .ok (.iload_n 1, 1) := by decide +kernel
theorem dX9_take_24 : decode cX9_take 24 = .ok (.aload_n 0, 1) := by decide +kernel
theorem dX9_take_25 : decode cX9_take 25 = .ok (.getfield 367, 3) := by decide +kernel
theorem dX9_take_28 : decode cX9_take 28 = .ok (.if_icmp .ge 21, 3) := by decide +kernel
theorem dX9_take_31 : decode cX9_take 31 = .ok (.aload_n 0, 1) := by decide +kernel
theorem dX9_take_32 : decode cX9_take 32 = .ok (.getfield 46, 3) := by decide +kernel
theorem dX9_take_35 : decode cX9_take 35 = .ok (.iload_n 1, 1) := by decide +kernel
theorem dX9_take_36 : decode cX9_take 36 = .ok (.aload_n 0, 1) := by decide +kernel
theorem dX9_take_37 : decode cX9_take 37 = .ok (.getfield 50, 3) := by decide +kernel
theorem dX9_take_40 : decode cX9_take 40 = .ok (.iload_n 1, 1) := by decide +kernel
theorem dX9_take_41 : decode cX9_take 41 = .ok (.baload, 1) := by decide +kernel
theorem dX9_take_42 : decode cX9_take 42 = .ok (.bastore, 1) := by decide +kernel
theorem dX9_take_43 : decode cX9_take 43 = .ok (.iinc 1 1, 3) := by decide +kernel
theorem dX9_take_46 : decode cX9_take 46 = .ok (.goto (-23), 3) := by decide +kernel
theorem dX9_take_49 : decode cX9_take 49 = .ok (.aload_n 0, 1) := by decide +kernel
theorem dX9_take_50 : decode cX9_take 50 = .ok (.getfield 367, 3) := by decide +kernel
theorem dX9_take_53 : decode cX9_take 53 = .ok (.ireturn, 1) := by decide +kernel
theorem dX9_compare_0 : decode cX9_compare 0 = .ok (.aload_n 0, 1) := by decide +kernel
theorem dX9_compare_1 : decode cX9_compare 1 = .ok (.aload_n 0, 1) := by decide +kernel
theorem dX9_compare_2 : decode cX9_compare 2 = .ok (.iload_n 1, 1) := by decide +kernel
theorem dX9_compare_3 : decode cX9_compare 3 = .ok (.iload_n 2, 1) := by decide +kernel
theorem dX9_compare_4 : decode cX9_compare 4 = .ok (.aload_n 0, 1) := by decide +kernel
theorem dX9_compare_5 : decode cX9_compare 5 = .ok (.getfield 152, 3) := by decide +kernel
theorem dX9_compare_8 : decode cX9_compare 8 = .ok (.invokevirtual 334, 3) := by decide +kernel
theorem dX9_compare_11 : decode cX9_compare 11 = .ok (.putfield 347, 3) := by decide +kernel
theorem dX9_compare_14 : decode cX9_compare 14 = .ok (.aload_n 0, 1) := by decide +kernel
theorem dX9_compare_15 : decode cX9_compare 15 = .ok (.aload_n 0, 1) := by decide +kernel
theorem dX9_compare_16 : decode cX9_compare 16 = .ok (.iload_n 3, 1) := by decide +kernel
theorem dX9_compare_17 : decode cX9_compare 17 = .ok (.iload 4, 2) := by decide +kernel
theorem dX9_compare_19 : decode cX9_compare 19 = .ok (.aload_n 0, 1) := by decide +kernel
theorem dX9_compare_20 : decode cX9_compare 20 = .ok (.getfield 155, 3) := by decide +kernel
theorem dX9_compare_23 : decode cX9_compare 23 = .ok (.invokevirtual 334, 3) := by decide +kernel
theorem dX9_compare_26 : decode cX9_compare 26 = .ok (.putfield 370, 3) := by decide +kernel
theorem dX9_compare_29 : decode cX9_compare 29 = .ok (.iconst 0, 1) := by decide +kernel
theorem dX9_compare_30 : decode cX9_compare 30 = .ok (.istore 5, 2) := by decide +kernel
theorem dX9_compare_32 : decode cX9_compare 32 = .ok (.iload 5, 2) := by decide +kernel
theorem dX9_compare_34 : decode cX9_compare 34 = .ok (.aload_n 0, 1) := by decide +kernel
theorem dX9_compare_35 : decode cX9_compare 35 = .ok (.getfield 347, 3) := by decide +kernel
theorem dX9_compare_38 : decode cX9_compare 38 = .ok (.if_icmp .ge 51, 3) := by decide +kernel
theorem dX9_compare_41 : decode cX9_compare 41 = .ok (.iload 5, 2) := by decide +kernel
theorem dX9_compare_43 : decode cX9_compare 43 = .ok (.aload_n 0, 1) := by decide +kernel
theorem dX9_compare_44 : decode cX9_compare 44 = .ok (.getfield 370, 3) := by decide +kernel
theorem dX9_compare_47 : decode cX9_compare 47 = .ok (.if_icmp .ge 42, 3) := by decide +kernel
theorem dX9_compare_50 : decode cX9_compare 50 = .ok (.aload_n 0, 1) := by decide +kernel
theorem dX9_compare_51 : decode cX9_compare 51 = .ok (.getfield 152, 3) := by decide +kernel
theorem dX9_compare_54 : decode cX9_compare 54 = .ok (.iload 5, 2) := by decide +kernel
theorem dX9_compare_56 : decode cX9_compare 56 = .ok (.baload, 1) := by decide +kernel
theorem dX9_compare_57 : decode cX9_compare 57 = .ok (.aload_n 0, 1) := by decide +kernel
theorem dX9_compare_58 : decode cX9_compare 58 = .ok (.getfield 155, 3) := by decide +kernel
theorem dX9_compare_61 : decode cX9_compare 61 = .ok (.iload 5, 2) := by decide +kernel

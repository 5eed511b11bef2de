theorem dX9_compare_63 : decode cX9_compare 63 = .ok (.baload, 1) := by decide +kernel
theorem dX9_compare_64 : decode cX9_compare 64 = .ok (.if_icmp .eq 19, 3) := by decide +kernel
theorem dX9_compare_67 : decode cX9_compare 67 = .ok (.aload_n 0, 1) := by decide +kernel
theorem dX9_compare_68 : decode cX9_compare 68 = .ok (.getfield 152, 3) := by decide +kernel
theorem dX9_compare_71 : decode cX9_compare 71 = .ok (.iload 5, 2) := by decide +kernel
theorem dX9_compare_73 : decode cX9_compare 73 = .ok (.baload, 1) := by decide +kernel
theorem dX9_compare_74 : decode cX9_compare 74 = .ok (.aload_n 0, 1) := by decide +kernel
theorem dX9_compare_75 : decode cX9_compare 75 = .ok (.getfield 155, 3) := by decide +kernel
theorem dX9_compare_78 : decode cX9_compare 78 = .ok (.iload 5, 2) := by decide +kernel
theorem dX9_compare_80 : decode cX9_compare 80 = .ok (.baload, 1) := by decide +kernel
theorem dX9_compare_81 : decode cX9_compare 81 = .ok (.isub, 1) := by decide +kernel
theorem dX9_compare_82 : decode cX9_compare 82 = .ok (.ireturn, 1) := by decide +kernel
theorem dX9_compare_83 : decode cX9_compare 83 = .ok (.iinc 5 1, 3) := by decide +kernel
theorem dX9_compare_86 : decode cX9_compare 86 = .ok (.goto (-54), 3) := by decide +kernel
theorem dX9_compare_89 : decode cX9_compare 89 = .ok (.aload_n 0, 1) := by decide +kernel
theorem dX9_compare_90 : decode cX9_compare 90 = .ok (.getfield 347, 3) := by decide +kernel
theorem dX9_compare_93 : decode cX9_compare 93 = .ok (.aload_n 0, 1) := by decide +kernel
theorem dX9_compare_94 : decode cX9_compare 94 = .ok (.getfield 370, 3) := by decide +kernel
theorem dX9_compare_97 : decode cX9_compare 97 = .ok (.isub, 1) := by decide +kernel
theorem dX9_compare_98 : decode cX9_compare 98 = .ok (.ireturn, 1) := by decide +kernel
theorem dX9_twin_0 : decode cX9_twin 0 = .ok (.iconst 0, 1) := by decide +kernel
theorem dX9_twin_1 : decode cX9_twin 1 = .ok (.istore 4, 2) := by decide +kernel
theorem dX9_twin_3 : decode cX9_twin 3 = .ok (.iload 4, 2) := by decide +kernel
theorem dX9_twin_5 : decode cX9_twin 5 = .ok (.aload_n 0, 1) := by decide +kernel
theorem dX9_twin_6 : decode cX9_twin 6 = .ok (.getfield 60, 3) := by decide +kernel
theorem dX9_twin_9 : decode cX9_twin 9 = .ok (.iload_n 3, 1) := by decide +kernel
theorem dX9_twin_10 : decode cX9_twin 10 = .ok (.iaload, 1) := by decide +kernel
theorem dX9_twin_11 : decode cX9_twin 11 = .ok (.if_icmp .ge 24, 3) := by decide +kernel
theorem dX9_twin_14 : decode cX9_twin 14 = .ok (.aload_n 0, 1) := by decide +kernel
theorem dX9_twin_15 : decode cX9_twin 15 = .ok (.iload_n 1, 1) := by decide +kernel
theorem dX9_twin_16 : decode cX9_twin 16 = .ok (.iload_n 2, 1) := by decide +kernel
theorem dX9_twin_17 : decode cX9_twin 17 = .ok (.iload_n 3, 1) := by decide +kernel
theorem dX9_twin_18 : decode cX9_twin 18 = .ok (.iload 4, 2) := by decide +kernel
theorem dX9_twin_20 : decode cX9_twin 20 = .ok (.invokevirtual 373, 3) := by decide +kernel
theorem dX9_twin_23 : decode cX9_twin 23 = .ok (.ifCond .ne 6, 3) := by decide +kernel
theorem dX9_twin_26 : decode cX9_twin 26 = .ok (.iload 4, 2) := by decide +kernel
theorem dX9_twin_28 : decode cX9_twin 28 = .ok (.ireturn, 1) := by decide +kernel
theorem dX9_twin_29 : decode cX9_twin 29 = .ok (.iinc 4 1, 3) := by decide +kernel
theorem dX9_twin_32 : decode cX9_twin 32 = .ok (.goto (-29), 3) := by decide +kernel
theorem dX9_twin_35 : decode cX9_twin 35 = .ok (.bipush (-2), 2) := by decide +kernel
theorem dX9_twin_37 : decode cX9_twin 37 = .ok (.ireturn, 1) := by decide +kernel
theorem dX9_isSamePath_0 : decode cX9_isSamePath 0 = .ok (.iload_n 2, 1) := by decide +kernel
theorem dX9_isSamePath_1 : decode cX9_isSamePath 1 = .ok (.bipush (-2), 2) := by decide +kernel
theorem dX9_isSamePath_3 : decode cX9_isSamePath 3 = .ok (.if_icmp .eq 10, 3) := by decide +kernel
theorem dX9_isSamePath_6 : decode cX9_isSamePath 6 = .ok (.iload 4, 2) := by decide +kernel
theorem dX9_isSamePath_8 : decode cX9_isSamePath 8 = .ok (.bipush (-2), 2) := by decide +kernel
theorem dX9_isSamePath_10 : decode cX9_isSamePath 10 = .ok (.if_icmp .ne 17, 3) := by decide +kernel
theorem dX9_isSamePath_13 : decode cX9_isSamePath 13 = .ok (.iload_n 2, 1) := by decide +kernel
theorem dX9_isSamePath_14 : decode cX9_isSamePath 14 = .ok (.iload 4, 2) := by decide +kernel
theorem dX9_isSamePath_16 : decode cX9_isSamePath 16 = .ok (.if_icmp .ne 7, 3) := by decide +kernel
theorem dX9_isSamePath_19 : decode cX9_isSamePath 19 = .ok (.iconst 1, 1) := by decide +kernel
theorem dX9_isSamePath_20 : decode cX9_isSamePath 20 = .ok (.goto 24, 3) := by decide +kernel
theorem dX9_isSamePath_23 : decode cX9_isSamePath 23 = .ok (.iconst 0, 1) := by decide +kernel
theorem dX9_isSamePath_24 : decode cX9_isSamePath 24 = .ok (.goto 20, 3) := by decide +kernel
theorem dX9_isSamePath_27 : decode cX9_isSamePath 27 = .ok (.aload_n 0, 1) := by decide +kernel
theorem dX9_isSamePath_28 : decode cX9_isSamePath 28 = .ok (.iload_n 1, 1) := by decide +kernel
theorem dX9_isSamePath_29 : decode cX9_isSamePath 29 = .ok (.iload_n 2, 1) := by decide +kernel
theorem dX9_isSamePath_30 : decode cX9_isSamePath 30 = .ok (.iload_n 3, 1) := by decide +kernel
theorem dX9_isSamePath_31 : decode cX9_isSamePath 31 = .ok (.iload 4, 2) := by decide +kernel
theorem dX9_isSamePath_33 : decode cX9_isSamePath 33 = .ok (.invokevirtual 373, 3) := by decide +kernel
theorem dX9_isSamePath_36 : decode cX9_isSamePath 36 = .ok (.ifCond .ne 7, 3) := by decide +kernel
theorem dX9_isSamePath_39 : decode cX9_isSamePath 39 = .ok (.iconst 1, 1) := by decide +kernel
theorem dX9_isSamePath_40 : decode cX9_isSamePath 40 = .ok (.goto 4, 3) := by decide +kernel
theorem dX9_isSamePath_43 : decode cX9_isSamePath 43 = .ok (.iconst 0, 1) := by decide +kernel
theorem dX9_isSamePath_44 : decode cX9_isSamePath 44 = .ok (.ireturn, 1) := by decide +kernel
theorem dX9_isSameBy_0 : decode cX9_isSameBy 0 = .ok (.aload_n 0, 1) := by decide +kernel
theorem dX9_isSameBy_1 : decode cX9_isSameBy 1 = .ok (.getfield 91, 3) := by decide +kernel
theorem dX9_isSameBy_4 : decode cX9_isSameBy 4 = .ok (.iload_n 1, 1) := by decide +kernel
theorem dX9_isSameBy_5 : decode cX9_isSameBy 5 = .ok (.iaload, 1) := by decide +kernel
theorem dX9_isSameBy_6 : decode cX9_isSameBy 6 = .ok (.aload_n 0, 1) := by decide +kernel
theorem dX9_isSameBy_7 : decode cX9_isSameBy 7 = .ok (.getfield 91, 3) := by decide +kernel
theorem dX9_isSameBy_10 : decode cX9_isSameBy 10 = .ok (.iload_n 2, 1) := by decide +kernel
theorem dX9_isSameBy_11 : decode cX9_isSameBy 11 = .ok (.iaload, 1) := by decide +kernel
theorem dX9_isSameBy_12 : decode cX9_isSameBy 12 = .ok (.if_icmp .ne 7, 3) := by decide +kernel
theorem dX9_isSameBy_15 : decode cX9_isSameBy 15 = .ok (.iconst 1, 1) := by decide +kernel
theorem dX9_isSameBy_16 : decode cX9_isSameBy 16 = .ok (.goto 4, 3) := by decide +kernel
theorem dX9_isSameBy_19 : decode cX9_isSameBy 19 = .ok (.iconst 0, 1) := by decide +kernel
theorem dX9_isSameBy_20 : decode cX9_isSameBy 20 = .ok (.istore_n 3, 1) := by decide +kernel
theorem dX9_isSameBy_21 : decode cX9_isSameBy 21 = .ok (.iconst 0, 1) := by decide +kernel
theorem dX9_isSameBy_22 : decode cX9_isSameBy 22 = .ok (.istore 4, 2) := by decide +kernel
theorem dX9_isSameBy_24 : decode cX9_isSameBy 24 = .ok (.iload 4, 2) := by decide +kernel
theorem dX9_isSameBy_26 : decode cX9_isSameBy 26 = .ok (.aload_n 0, 1) := by decide +kernel
theorem dX9_isSameBy_27 : decode cX9_isSameBy 27 = .ok (.getfield 91, 3) := by decide +kernel
theorem dX9_isSameBy_30 : decode cX9_isSameBy 30 = .ok (.iload_n 1, 1) := by decide +kernel
theorem dX9_isSameBy_31 : decode cX9_isSameBy 31 = .ok (.iaload, 1) := by decide +kernel
theorem dX9_isSameBy_32 : decode cX9_isSameBy 32 = .ok (.if_icmp .ge 46, 3) := by decide +kernel
theorem dX9_isSameBy_35 : decode cX9_isSameBy 35 = .ok (.iload_n 3, 1) := by decide +kernel
theorem dX9_isSameBy_36 : decode cX9_isSameBy 36 = .ok (.ifCond .eq 42, 3) := by decide +kernel
theorem dX9_isSameBy_39 : decode cX9_isSameBy 39 = .ok (.aload_n 0, 1) := by decide +kernel
theorem dX9_isSameBy_40 : decode cX9_isSameBy 40 = .ok (.getfield 94, 3) := by decide +kernel
theorem dX9_isSameBy_43 : decode cX9_isSameBy 43 = .ok (.bipush 12, 2) := by decide +kernel
theorem dX9_isSameBy_45 : decode cX9_isSameBy 45 = .ok (.iload_n 1, 1) := by decide +kernel
theorem dX9_isSameBy_46 : decode cX9_isSameBy 46 = .ok (.imul, 1) := by decide +kernel
theorem dX9_isSameBy_47 : decode cX9_isSameBy 47 = .ok (.iload 4, 2) := by decide +kernel
theorem dX9_isSameBy_49 : decode cX9_isSameBy 49 = .ok (.iadd, 1) := by decide +kernel
theorem dX9_isSameBy_50 : decode cX9_isSameBy 50 = .ok (.baload, 1) := by decide +kernel
theorem dX9_isSameBy_51 : decode cX9_isSameBy 51 = .ok (.aload_n 0, 1) := by decide +kernel
theorem dX9_isSameBy_52 : decode cX9_isSameBy 52 = .ok (.getfield 94, 3) := by decide +kernel
theorem dX9_isSameBy_55 : decode cX9_isSameBy 55 = .ok (.bipush 12, 2) := by decide +kernel
theorem dX9_isSameBy_57 : decode cX9_isSameBy 57 = .ok (.iload_n 2, 1) := by decide +kernel
theorem dX9_isSameBy_58 : decode cX9_isSameBy 58 = .ok (.imul, 1) := by decide +kernel
theorem dX9_isSameBy_59 : decode cX9_isSameBy 59 = .ok (.iload 4, 2) := by decide +kernel
theorem dX9_isSameBy_61 : decode cX9_isSameBy 61 = .ok (.iadd, 1) := by decide +kernel
theorem dX9_isSameBy_62 : decode cX9_isSameBy 62 = .ok (.baload, 1) := by decide +kernel
theorem dX9_isSameBy_63 : decode cX9_isSameBy 63 = .ok (.if_icmp .ne 7, 3) := by decide +kernel
theorem dX9_isSameBy_66 : decode cX9_isSameBy 66 = .ok (.iconst 1, 1) := by decide +kernel
theorem dX9_isSameBy_67 : decode cX9_isSameBy 67 = .ok (.goto 4, 3) := by decide +kernel
theorem dX9_isSameBy_70 : decode cX9_isSameBy 70 = .ok (.iconst 0, 1) := by decide +kernel
theorem dX9_isSameBy_71 : decode cX9_isSameBy 71 = .ok (.istore_n 3, 1) := by decide +kernel
theorem dX9_isSameBy_72 : decode cX9_isSameBy 72 = .ok (.iinc 4 1, 3) := by decide +kernel
theorem dX9_isSameBy_75 : decode cX9_isSameBy 75 = .ok (.goto (-51), 3) := by decide +kernel
theorem dX9_isSameBy_78 : decode cX9_isSameBy 78 = .ok (.iload_n 3, 1) := by decide +kernel
theorem dX9_isSameBy_79 : decode cX9_isSameBy 79 = .ok (.ireturn, 1) := by decide +kernel
theorem dX9_code_0 : decode cX9_code 0 = .ok (.bipush 40, 2) := by decide +kernel
theorem dX9_code_2 : decode cX9_code 2 = .ok (.iload_n 1, 1) := by decide +kernel
theorem dX9_code_3 : decode cX9_code 3 = .ok (.imul, 1) := by decide +kernel
theorem dX9_code_4 : decode cX9_code 4 = .ok (.iload_n 2, 1) := by decide +kernel
theorem dX9_code_5 : decode cX9_code 5 = .ok (.iadd, 1) := by decide +kernel
theorem dX9_code_6 : decode cX9_code 6 = .ok (.istore 5, 2) := by decide +kernel
theorem dX9_code_8 : decode cX9_code 8 = .ok (.bipush 40, 2) := by decide +kernel
theorem dX9_code_10 : decode cX9_code 10 = .ok (.iload_n 3, 1) := by decide +kernel
theorem dX9_code_11 : decode cX9_code 11 = .ok (.imul, 1) := by decide +kernel
theorem dX9_code_12 : decode cX9_code 12 = .ok (.iload 4, 2) := by decide +kernel
theorem dX9_code_14 : decode cX9_code 14 = .ok (.iadd, 1) := by decide +kernel
theorem dX9_code_15 : decode cX9_code 15 = .ok (.istore 6, 2) := by decide +kernel
theorem dX9_code_17 : decode cX9_code 17 = .ok (.aload_n 0, 1) := by decide +kernel
theorem dX9_code_18 : decode cX9_code 18 = .ok (.getfield 76, 3) := by decide +kernel
theorem dX9_code_21 : decode cX9_code 21 = .ok (.iload 5, 2) := by decide +kernel
theorem dX9_code_23 : decode cX9_code 23 = .ok (.iaload, 1) := by decide +kernel
theorem dX9_code_24 : decode cX9_code 24 = .ok (.aload_n 0, 1) := by decide +kernel
theorem dX9_code_25 : decode cX9_code 25 = .ok (.getfield 76, 3) := by decide +kernel
theorem dX9_code_28 : decode cX9_code 28 = .ok (.iload 6, 2) := by decide +kernel
theorem dX9_code_30 : decode cX9_code 30 = .ok (.iaload, 1) := by decide +kernel
theorem dX9_code_31 : decode cX9_code 31 = .ok (.if_icmp .ne 37, 3) := by decide +kernel
theorem dX9_code_34 : decode cX9_code 34 = .ok (.aload_n 0, 1) := by decide +kernel
theorem dX9_code_35 : decode cX9_code 35 = .ok (.getfield 79, 3) := by decide +kernel
theorem dX9_code_38 : decode cX9_code 38 = .ok (.iload 5, 2) := by decide +kernel
theorem dX9_code_40 : decode cX9_code 40 = .ok (.iaload, 1) := by decide +kernel
theorem dX9_code_41 : decode cX9_code 41 = .ok (.bipush 6, 2) := by decide +kernel
theorem dX9_code_43 : decode cX9_code 43 = .ok (.iand, 1) := by decide +kernel
theorem dX9_code_44 : decode cX9_code 44 = .ok (.aload_n 0, 1) := by decide +kernel
theorem dX9_code_45 : decode cX9_code 45 = .ok (.getfield 79, 3) := by decide +kernel
theorem dX9_code_48 : decode cX9_code 48 = .ok (.iload 6, 2) := by decide +kernel
theorem dX9_code_50 : decode cX9_code 50 = .ok (.iaload, 1) := by decide +kernel
theorem dX9_code_51 : decode cX9_code 51 = .ok (.bipush 6, 2) := by decide +kernel
theorem dX9_code_53 : decode cX9_code 53 = .ok (.iand, 1) := by decide +kernel
theorem dX9_code_54 : decode cX9_code 54 = .ok (.if_icmp .ne 14, 3) := by decide +kernel
theorem dX9_code_57 : decode cX9_code 57 = .ok (.aload_n 0, 1) := by decide +kernel
theorem dX9_code_58 : decode cX9_code 58 = .ok (.iload 5, 2) := by decide +kernel
theorem dX9_code_60 : decode cX9_code 60 = .ok (.iload 6, 2) := by decide +kernel
theorem dX9_code_62 : decode cX9_code 62 = .ok (.invokevirtual 377, 3) := by decide +kernel
theorem dX9_code_65 : decode cX9_code 65 = .ok (.ifCond .ne 5, 3) := by decide +kernel
theorem dX9_code_68 : decode cX9_code 68 = .ok (.iconst 4, 1) := by decide +kernel
theorem dX9_code_69 : decode cX9_code 69 = .ok (.ireturn, 1) := by decide +kernel
theorem dX9_code_70 : decode cX9_code 70 = .ok (.aload_n 0, 1) := by decide +kernel
theorem dX9_code_71 : decode cX9_code 71 = .ok (.getfield 79, 3) := by decide +kernel
theorem dX9_code_74 : decode cX9_code 74 = .ok (.iload 5, 2) := by decide +kernel
theorem dX9_code_76 : decode cX9_code 76 = .ok (.iaload, 1) := by decide +kernel
theorem dX9_code_77 : decode cX9_code 77 = .ok (.iconst 1, 1) := by decide +kernel
theorem dX9_code_78 : decode cX9_code 78 = .ok (.iand, 1) := by decide +kernel
theorem dX9_code_79 : decode cX9_code 79 = .ok (.aload_n 0, 1) := by decide +kernel
theorem dX9_code_80 : decode cX9_code 80 = .ok (.getfield 79, 3) := by decide +kernel
theorem dX9_code_83 : decode cX9_code 83 = .ok (.iload 6, 2) := by decide +kernel
theorem dX9_code_85 : decode cX9_code 85 = .ok (.iaload, 1) := by decide +kernel
theorem dX9_code_86 : decode cX9_code 86 = .ok (.iconst 1, 1) := by decide +kernel
theorem dX9_code_87 : decode cX9_code 87 = .ok (.iand, 1) := by decide +kernel
theorem dX9_code_88 : decode cX9_code 88 = .ok (.if_icmp .ne 24, 3) := by decide +kernel
theorem dX9_code_91 : decode cX9_code 91 = .ok (.aload_n 0, 1) := by decide +kernel
theorem dX9_code_92 : decode cX9_code 92 = .ok (.getfield 82, 3) := by decide +kernel
theorem dX9_code_95 : decode cX9_code 95 = .ok (.iload 5, 2) := by decide +kernel
theorem dX9_code_97 : decode cX9_code 97 = .ok (.iaload, 1) := by decide +kernel
theorem dX9_code_98 : decode cX9_code 98 = .ok (.aload_n 0, 1) := by decide +kernel
theorem dX9_code_99 : decode cX9_code 99 = .ok (.getfield 82, 3) := by decide +kernel
theorem dX9_code_102 : decode cX9_code 102 = .ok (.iload 6, 2) := by decide +kernel
theorem dX9_code_104 : decode cX9_code 104 = .ok (.iaload, 1) := by decide +kernel
theorem dX9_code_105 : decode cX9_code 105 = .ok (.if_icmp .ne 7, 3) := by decide +kernel
theorem dX9_code_108 : decode cX9_code 108 = .ok (.iconst 1, 1) := by decide +kernel
theorem dX9_code_109 : decode cX9_code 109 = .ok (.goto 4, 3) := by decide +kernel
theorem dX9_code_112 : decode cX9_code 112 = .ok (.iconst 0, 1) := by decide +kernel
theorem dX9_code_113 : decode cX9_code 113 = .ok (.istore 7, 2) := by decide +kernel
theorem dX9_code_115 : decode cX9_code 115 = .ok (.iload 7, 2) := by decide +kernel
theorem dX9_code_117 : decode cX9_code 117 = .ok (.ifCond .eq 53, 3) := by decide +kernel
theorem dX9_code_120 : decode cX9_code 120 = .ok (.aload_n 0, 1) := by decide +kernel
theorem dX9_code_121 : decode cX9_code 121 = .ok (.iload_n 1, 1) := by decide +kernel
theorem dX9_code_122 : decode cX9_code 122 = .ok (.aload_n 0, 1) := by decide +kernel
theorem dX9_code_123 : decode cX9_code 123 = .ok (.getfield 85, 3) := by decide +kernel
theorem dX9_code_126 : decode cX9_code 126 = .ok (.iload 5, 2) := by decide +kernel
theorem dX9_code_128 : decode cX9_code 128 = .ok (.iaload, 1) := by decide +kernel
theorem dX9_code_129 : decode cX9_code 129 = .ok (.iload_n 3, 1) := by decide +kernel
theorem dX9_code_130 : decode cX9_code 130 = .ok (.aload_n 0, 1) := by decide +kernel
theorem dX9_code_131 : decode cX9_code 131 = .ok (.getfield 85, 3) := by decide +kernel
theorem dX9_code_134 : decode cX9_code 134 = .ok (.iload 6, 2) := by decide +kernel
theorem dX9_code_136 : decode cX9_code 136 = .ok (.iaload, 1) := by decide +kernel
theorem dX9_code_137 : decode cX9_code 137 = .ok (.invokevirtual 380, 3) := by decide +kernel
theorem dX9_code_140 : decode cX9_code 140 = .ok (.ifCond .eq 30, 3) := by decide +kernel
theorem dX9_code_143 : decode cX9_code 143 = .ok (.aload_n 0, 1) := by decide +kernel
theorem dX9_code_144 : decode cX9_code 144 = .ok (.iload_n 1, 1) := by decide +kernel
theorem dX9_code_145 : decode cX9_code 145 = .ok (.aload_n 0, 1) := by decide +kernel
theorem dX9_code_146 : decode cX9_code 146 = .ok (.getfield 88, 3) := by decide +kernel
theorem dX9_code_149 : decode cX9_code 149 = .ok (.iload 5, 2) := by decide +kernel
theorem dX9_code_151 : decode cX9_code 151 = .ok (.iaload, 1) := by decide +kernel
theorem dX9_code_152 : decode cX9_code 152 = .ok (.iload_n 3, 1) := by decide +kernel
theorem dX9_code_153 : decode cX9_code 153 = .ok (.aload_n 0, 1) := by decide +kernel
theorem dX9_code_154 : decode cX9_code 154 = .ok (.getfield 88, 3) := by decide +kernel
theorem dX9_code_157 : decode cX9_code 157 = .ok (.iload 6, 2) := by decide +kernel
theorem dX9_code_159 : decode cX9_code 159 = .ok (.iaload, 1) := by decide +kernel
theorem dX9_code_160 : decode cX9_code 160 = .ok (.invokevirtual 380, 3) := by decide +kernel
theorem dX9_code_163 : decode cX9_code 163 = .ok (.ifCond .eq 7, 3) := by decide +kernel
theorem dX9_code_166 : decode cX9_code 166 = .ok (.iconst 0, 1) := by decide +kernel
theorem dX9_code_167 : decode cX9_code 167 = .ok (.goto 4, 3) := by decide +kernel
theorem dX9_code_170 : decode cX9_code 170 = .ok (.iconst 3, 1) := by decide +kernel
theorem dX9_code_171 : decode cX9_code 171 = .ok (.ireturn, 1) := by decide +kernel
theorem dX9_differ_0 : decode cX9_differ 0 = .ok (.aload_n 0, 1) := by decide +kernel
theorem dX9_differ_1 : decode cX9_differ 1 = .ok (.iconst 0, 1) := by decide +kernel
theorem dX9_differ_2 : decode cX9_differ 2 = .ok (.putfield 384, 3) := by decide +kernel
theorem dX9_differ_5 : decode cX9_differ 5 = .ok (.iconst 0, 1) := by decide +kernel
theorem dX9_differ_6 : decode cX9_differ 6 = .ok (.istore_n 3, 1) := by decide +kernel
theorem dX9_differ_7 : decode cX9_differ 7 = .ok (.iload_n 3, 1) := by decide +kernel
theorem dX9_differ_8 : decode cX9_differ 8 = .ok (.aload_n 0, 1) := by decide +kernel
theorem dX9_differ_9 : decode cX9_differ 9 = .ok (.getfield 60, 3) := by decide +kernel
theorem dX9_differ_12 : decode cX9_differ 12 = .ok (.iload_n 1, 1) := by decide +kernel
theorem dX9_differ_13 : decode cX9_differ 13 = .ok (.iaload, 1) := by decide +kernel
theorem dX9_differ_14 : decode cX9_differ 14 = .ok (.if_icmp .ge 87, 3) := by decide +kernel
theorem dX9_differ_17 : decode cX9_differ 17 = .ok (.aload_n 0, 1) := by decide +kernel
theorem dX9_differ_18 : decode cX9_differ 18 = .ok (.iload_n 1, 1) := by decide +kernel
theorem dX9_differ_19 : decode cX9_differ 19 = .ok (.iload_n 3, 1) := by decide +kernel
theorem dX9_differ_20 : decode cX9_differ 20 = .ok (.iload_n 2, 1) := by decide +kernel
theorem dX9_differ_21 : decode cX9_differ 21 = .ok (.invokevirtual 387, 3) := by decide +kernel
theorem dX9_differ_24 : decode cX9_differ 24 = .ok (.istore 4, 2) := by decide +kernel
theorem dX9_differ_26 : decode cX9_differ 26 = .ok (.iload 4, 2) := by decide +kernel
theorem dX9_differ_28 : decode cX9_differ 28 = .ok (.bipush (-2), 2) := by decide +kernel
theorem dX9_differ_30 : decode cX9_differ 30 = .ok (.if_icmp .ne 7, 3) := by decide +kernel
theorem dX9_differ_33 : decode cX9_differ 33 = .ok (.iconst 2, 1) := by decide +kernel
theorem dX9_differ_34 : decode cX9_differ 34 = .ok (.goto 12, 3) := by decide +kernel
theorem dX9_differ_37 : decode cX9_differ 37 = .ok (.aload_n 0, 1) := by decide +kernel
theorem dX9_differ_38 : decode cX9_differ 38 = .ok (.iload_n 1, 1) := by decide +kernel
theorem dX9_differ_39 : decode cX9_differ 39 = .ok (.iload_n 3, 1) := by decide +kernel
theorem dX9_differ_40 : decode cX9_differ 40 = .ok (.iload_n 2, 1) := by decide +kernel
theorem dX9_differ_41 : decode cX9_differ 41 = .ok (.iload 4, 2) := by decide +kernel
theorem dX9_differ_43 : decode cX9_differ 43 = .ok (.invokevirtual 390, 3) := by decide +kernel
theorem dX9_differ_46 : decode cX9_differ 46 = .ok (.istore 5, 2) := by decide +kernel
theorem dX9_differ_48 : decode cX9_differ 48 = .ok (.iload 5, 2) := by decide +kernel
theorem dX9_differ_50 : decode cX9_differ 50 = .ok (.ifCond .eq 45, 3) := by decide +kernel
theorem dX9_differ_53 : decode cX9_differ 53 = .ok (.aload_n 0, 1) := by decide +kernel
theorem dX9_differ_54 : decode cX9_differ 54 = .ok (.getfield 161, 3) := by decide +kernel
theorem dX9_differ_57 : decode cX9_differ 57 = .ok (.aload_n 0, 1) := by decide +kernel
theorem dX9_differ_58 : decode cX9_differ 58 = .ok (.getfield 384, 3) := by decide +kernel
theorem dX9_differ_61 : decode cX9_differ 61 = .ok (.iload 5, 2) := by decide +kernel
theorem dX9_differ_63 : decode cX9_differ 63 = .ok (.iastore, 1) := by decide +kernel
theorem dX9_differ_64 : decode cX9_differ 64 = .ok (.aload_n 0, 1) := by decide +kernel
theorem dX9_differ_65 : decode cX9_differ 65 = .ok (.getfield 164, 3) := by decide +kernel
theorem dX9_differ_68 : decode cX9_differ 68 = .ok (.aload_n 0, 1) := by decide +kernel
theorem dX9_differ_69 : decode cX9_differ 69 = .ok (.getfield 384, 3) := by decide +kernel
theorem dX9_differ_72 : decode cX9_differ 72 = .ok (.iload_n 3, 1) := by decide +kernel
theorem dX9_differ_73 : decode cX9_differ 73 = .ok (.iastore, 1) := by decide +kernel
theorem dX9_differ_74 : decode cX9_differ 74 = .ok (.aload_n 0, 1) := by decide +kernel
theorem dX9_differ_75 : decode cX9_differ 75 = .ok (.getfield 167, 3) := by decide +kernel
theorem dX9_differ_78 : decode cX9_differ 78 = .ok (.aload_n 0, 1) := by decide +kernel
theorem dX9_differ_79 : decode cX9_differ 79 = .ok (.getfield 384, 3) := by decide +kernel
theorem dX9_differ_82 : decode cX9_differ 82 = .ok (.iload 4, 2) := by decide +kernel
theorem dX9_differ_84 : decode cX9_differ 84 = .ok (.iastore, 1) := by decide +kernel
theorem dX9_differ_85 : decode cX9_differ 85 = .ok (.aload_n 0, 1) := by decide +kernel
theorem dX9_differ_86 : decode cX9_differ 86 = .ok (.dup, 1) := by decide +kernel
theorem dX9_differ_87 : decode cX9_differ 87 = .ok (.getfield 384, 3) := by decide +kernel
theorem dX9_differ_90 : decode cX9_differ 90 = .ok (.iconst 1, 1) := by decide +kernel
theorem dX9_differ_91 : decode cX9_differ 91 = .ok (.iadd, 1) := by decide +kernel
theorem dX9_differ_92 : decode cX9_differ 92 = .ok (.putfield 384, 3) := by decide +kernel
theorem dX9_differ_95 : decode cX9_differ 95 = .ok (.iinc 3 1, 3) := by decide +kernel
theorem dX9_differ_98 : decode cX9_differ 98 = .ok (.goto (-91), 3) := by decide +kernel
theorem dX9_differ_101 : decode cX9_differ 101 = .ok (.iconst 0, 1) := by decide +kernel
theorem dX9_differ_102 : decode cX9_differ 102 = .ok (.istore_n 3, 1) := by decide +kernel
theorem dX9_differ_103 : decode cX9_differ 103 = .ok (.iload_n 3, 1) := by decide +kernel
theorem dX9_differ_104 : decode cX9_differ 104 = .ok (.aload_n 0, 1) := by decide +kernel
theorem dX9_differ_105 : decode cX9_differ 105 = .ok (.getfield 60, 3) := by decide +kernel
theorem dX9_differ_108 : decode cX9_differ 108 = .ok (.iload_n 2, 1) := by decide +kernel
theorem dX9_differ_109 : decode cX9_differ 109 = .ok (.iaload, 1) := by decide +kernel
theorem dX9_differ_110 : decode cX9_differ 110 = .ok (.if_icmp .ge 62, 3) := by decide +kernel
theorem dX9_differ_113 : decode cX9_differ 113 = .ok (.aload_n 0, 1) := by decide +kernel
theorem dX9_differ_114 : decode cX9_differ 114 = .ok (.iload_n 2, 1) := by decide +kernel
theorem dX9_differ_115 : decode cX9_differ 115 = .ok (.iload_n 3, 1) := by decide +kernel
theorem dX9_differ_116 : decode cX9_differ 116 = .ok (.iload_n 1, 1) := by decide +kernel
theorem dX9_differ_117 : decode cX9_differ 117 = .ok (.invokevirtual 387, 3) := by decide +kernel
theorem dX9_differ_120 : decode cX9_differ 120 = .ok (.bipush (-2), 2) := by decide +kernel
theorem dX9_differ_122 : decode cX9_differ 122 = .ok (.if_icmp .ne 44, 3) := by decide +kernel
theorem dX9_differ_125 : decode cX9_differ 125 = .ok (.aload_n 0, 1) := by decide +kernel
theorem dX9_differ_126 : decode cX9_differ 126 = .ok (.getfield 161, 3) := by decide +kernel
theorem dX9_differ_129 : decode cX9_differ 129 = .ok (.aload_n 0, 1) := by decide +kernel
theorem dX9_differ_130 : decode cX9_differ 130 = .ok (.getfield 384, 3) := by decide +kernel
theorem dX9_differ_133 : decode cX9_differ 133 = .ok (.iconst 1, 1) := by decide +kernel
theorem dX9_differ_134 : decode cX9_differ 134 = .ok (.iastore, 1) := by decide +kernel
theorem dX9_differ_135 : decode cX9_differ 135 = .ok (.aload_n 0, 1) := by decide +kernel
theorem dX9_differ_136 : decode cX9_differ 136 = .ok (.getfield 164, 3) := by decide +kernel
theorem dX9_differ_139 : decode cX9_differ 139 = .ok (.aload_n 0, 1) := by decide +kernel
theorem dX9_differ_140 : decode cX9_differ 140 = .ok (.getfield 384, 3) := by decide +kernel
theorem dX9_differ_143 : decode cX9_differ 143 = .ok (.bipush (-2), 2) := by decide +kernel
theorem dX9_differ_145 : decode cX9_differ 145 = .ok (.iastore, 1) := by decide +kernel
theorem dX9_differ_146 : decode cX9_differ 146 = .ok (.aload_n 0, 1) := by decide +kernel
theorem dX9_differ_147 : decode cX9_differ 147 = .ok (.getfield 167, 3) := by decide +kernel
theorem dX9_differ_150 : decode cX9_differ 150 = .ok (.aload_n 0, 1) := by decide +kernel
theorem dX9_differ_151 : decode cX9_differ 151 = .ok (.getfield 384, 3) := by decide +kernel
theorem dX9_differ_154 : decode cX9_differ 154 = .ok (.iload_n 3, 1) := by decide +kernel
theorem dX9_differ_155 : decode cX9_differ 155 = .ok (.iastore, 1) := by decide +kernel
theorem dX9_differ_156 : decode cX9_differ 156 = .ok (.aload_n 0, 1) := by decide +kernel
theorem dX9_differ_157 : decode cX9_differ 157 = .ok (.dup, 1) := by decide +kernel
theorem dX9_differ_158 : decode cX9_differ 158 = .ok (.getfield 384, 3) := by decide +kernel
theorem dX9_differ_161 : decode cX9_differ 161 = .ok (.iconst 1, 1) := by decide +kernel
theorem dX9_differ_162 : decode cX9_differ 162 = .ok (.iadd, 1) := by decide +kernel
theorem dX9_differ_163 : decode cX9_differ 163 = .ok (.putfield 384, 3) := by decide +kernel
theorem dX9_differ_166 : decode cX9_differ 166 = .ok (.iinc 3 1, 3) := by decide +kernel
theorem dX9_differ_169 : decode cX9_differ 169 = .ok (.goto (-66), 3) := by decide +kernel
theorem dX9_differ_172 : decode cX9_differ 172 = .ok (.return_, 1) := by decide +kernel
theorem dX9_compareRows_0 : decode cX9_compareRows 0 = .ok (.aload_n 0, 1) := by decide +kernel
theorem dX9_compareRows_1 : decode cX9_compareRows 1 = .ok (.getfield 164, 3) := by decide +kernel
theorem dX9_compareRows_4 : decode cX9_compareRows 4 = .ok (.iload_n 3, 1) := by decide +kernel
theorem dX9_compareRows_5 : decode cX9_compareRows 5 = .ok (.iaload, 1) := by decide +kernel
theorem dX9_compareRows_6 : decode cX9_compareRows 6 = .ok (.bipush (-2), 2) := by decide +kernel
theorem dX9_compareRows_8 : decode cX9_compareRows 8 = .ok (.if_icmp .ne 7, 3) := by decide +kernel
theorem dX9_compareRows_11 : decode cX9_compareRows 11 = .ok (.iload_n 2, 1) := by decide +kernel
theorem dX9_compareRows_12 : decode cX9_compareRows 12 = .ok (.goto 4, 3) := by decide +kernel
theorem dX9_compareRows_15 : decode cX9_compareRows 15 = .ok (.iload_n 1, 1) := by decide +kernel
theorem dX9_compareRows_16 : decode cX9_compareRows 16 = .ok (.istore 5, 2) := by decide +kernel
theorem dX9_compareRows_18 : decode cX9_compareRows 18 = .ok (.aload_n 0, 1) := by decide +kernel
theorem dX9_compareRows_19 : decode cX9_compareRows 19 = .ok (.getfield 164, 3) := by decide +kernel
theorem dX9_compareRows_22 : decode cX9_compareRows 22 = .ok (.iload 4, 2) := by decide +kernel
theorem dX9_compareRows_24 : decode cX9_compareRows 24 = .ok (.iaload, 1) := by decide +kernel
theorem dX9_compareRows_25 : decode cX9_compareRows 25 = .ok (.bipush (-2), 2) := by decide +kernel
theorem dX9_compareRows_27 : decode cX9_compareRows 27 = .ok (.if_icmp .ne 7, 3) := by decide +kernel
theorem dX9_compareRows_30 : decode cX9_compareRows 30 = .ok (.iload_n 2, 1) := by decide +kernel
theorem dX9_compareRows_31 : decode cX9_compareRows 31 = .ok (.goto 4, 3) := by decide +kernel
theorem dX9_compareRows_34 : decode cX9_compareRows 34 = .ok (.iload_n 1, 1) := by decide +kernel
theorem dX9_compareRows_35 : decode cX9_compareRows 35 = .ok (.istore 6, 2) := by decide +kernel
theorem dX9_compareRows_37 : decode cX9_compareRows 37 = .ok (.aload_n 0, 1) := by decide +kernel
theorem dX9_compareRows_38 : decode cX9_compareRows 38 = .ok (.iload 5, 2) := by decide +kernel
theorem dX9_compareRows_40 : decode cX9_compareRows 40 = .ok (.aload_n 0, 1) := by decide +kernel
theorem dX9_compareRows_41 : decode cX9_compareRows 41 = .ok (.getfield 164, 3) := by decide +kernel
theorem dX9_compareRows_44 : decode cX9_compareRows 44 = .ok (.iload_n 3, 1) := by decide +kernel
theorem dX9_compareRows_45 : decode cX9_compareRows 45 = .ok (.iaload, 1) := by decide +kernel
theorem dX9_compareRows_46 : decode cX9_compareRows 46 = .ok (.bipush (-2), 2) := by decide +kernel
theorem dX9_compareRows_48 : decode cX9_compareRows 48 = .ok (.if_icmp .ne 12, 3) := by decide +kernel
theorem dX9_compareRows_51 : decode cX9_compareRows 51 = .ok (.aload_n 0, 1) := by decide +kernel
theorem dX9_compareRows_52 : decode cX9_compareRows 52 = .ok (.getfield 167, 3) := by decide +kernel
theorem dX9_compareRows_55 : decode cX9_compareRows 55 = .ok (.iload_n 3, 1) := by decide +kernel
theorem dX9_compareRows_56 : decode cX9_compareRows 56 = .ok (.iaload, 1) := by decide +kernel
theorem dX9_compareRows_57 : decode cX9_compareRows 57 = .ok (.goto 9, 3) := by decide +kernel
theorem dX9_compareRows_60 : decode cX9_compareRows 60 = .ok (.aload_n 0, 1) := by decide +kernel
theorem dX9_compareRows_61 : decode cX9_compareRows 61 = .ok (.getfield 164, 3) := by decide +kernel
theorem dX9_compareRows_64 : decode cX9_compareRows 64 = .ok (.iload_n 3, 1) := by decide +kernel
theorem dX9_compareRows_65 : decode cX9_compareRows 65 = .ok (.iaload, 1) := by decide +kernel
theorem dX9_compareRows_66 : decode cX9_compareRows 66 = .ok (.iload 6, 2) := by decide +kernel
theorem dX9_compareRows_68 : decode cX9_compareRows 68 = .ok (.aload_n 0, 1) := by decide +kernel
theorem dX9_compareRows_69 : decode cX9_compareRows 69 = .ok (.getfield 164, 3) := by decide +kernel
theorem dX9_compareRows_72 : decode cX9_compareRows 72 = .ok (.iload 4, 2) := by decide +kernel
theorem dX9_compareRows_74 : decode cX9_compareRows 74 = .ok (.iaload, 1) := by decide +kernel
theorem dX9_compareRows_75 : decode cX9_compareRows 75 = .ok (.bipush (-2), 2) := by decide +kernel
theorem dX9_compareRows_77 : decode cX9_compareRows 77 = .ok (.if_icmp .ne 13, 3) := by decide +kernel
theorem dX9_compareRows_80 : decode cX9_compareRows 80 = .ok (.aload_n 0, 1) := by decide +kernel
theorem dX9_compareRows_81 : decode cX9_compareRows 81 = .ok (.getfield 167, 3) := by decide +kernel
theorem dX9_compareRows_84 : decode cX9_compareRows 84 = .ok (.iload 4, 2) := by decide +kernel
theorem dX9_compareRows_86 : decode cX9_compareRows 86 = .ok (.iaload, 1) := by decide +kernel
theorem dX9_compareRows_87 : decode cX9_compareRows 87 = .ok (.goto 10, 3) := by decide +kernel
theorem dX9_compareRows_90 : decode cX9_compareRows 90 = .ok (.aload_n 0, 1) := by decide +kernel
theorem dX9_compareRows_91 : decode cX9_compareRows 91 = .ok (.getfield 164, 3) := by decide +kernel
theorem dX9_compareRows_94 : decode cX9_compareRows 94 = .ok (.iload 4, 2) := by decide +kernel
theorem dX9_compareRows_96 : decode cX9_compareRows 96 = .ok (.iaload, 1) := by decide +kernel
theorem dX9_compareRows_97 : decode cX9_compareRows 97 = .ok (.invokevirtual 373, 3) := by decide +kernel
theorem dX9_compareRows_100 : decode cX9_compareRows 100 = .ok (.ireturn, 1) := by decide +kernel
theorem dX9_differences_0 : decode cX9_differences 0 = .ok (.aload_n 0, 1) := by decide +kernel
theorem dX9_differences_1 : decode cX9_differences 1 = .ok (.iload_n 1, 1) := by decide +kernel
theorem dX9_differences_2 : decode cX9_differences 2 = .ok (.invokevirtual 299, 3) := by decide +kernel
theorem dX9_differences_5 : decode cX9_differences 5 = .ok (.ifCond .eq 11, 3) := by decide +kernel
theorem dX9_differences_8 : decode cX9_differences 8 = .ok (.aload_n 0, 1) := by decide +kernel
theorem dX9_differences_9 : decode cX9_differences 9 = .ok (.iload_n 2, 1) := by decide +kernel
theorem dX9_differences_10 : decode cX9_differences 10 = .ok (.invokevirtual 299, 3) := by decide +kernel
theorem dX9_differences_13 : decode cX9_differences 13 = .ok (.ifCond .ne 5, 3) := by decide +kernel
theorem dX9_differences_16 : decode cX9_differences 16 = .ok (.iconst (-1), 1) := by decide +kernel
theorem dX9_differences_17 : decode cX9_differences 17 = .ok (.ireturn, 1) := by decide +kernel
theorem dX9_differences_18 : decode cX9_differences 18 = .ok (.aload_n 0, 1) := by decide +kernel
theorem dX9_differences_19 : decode cX9_differences 19 = .ok (.iload_n 1, 1) := by decide +kernel
theorem dX9_differences_20 : decode cX9_differences 20 = .ok (.iload_n 2, 1) := by decide +kernel
theorem dX9_differences_21 : decode cX9_differences 21 = .ok (.invokevirtual 393, 3) := by decide +kernel
theorem dX9_differences_24 : decode cX9_differences 24 = .ok (.aload_n 0, 1) := by decide +kernel
theorem dX9_differences_25 : decode cX9_differences 25 = .ok (.getfield 384, 3) := by decide +kernel
theorem dX9_differences_28 : decode cX9_differences 28 = .ok (.ireturn, 1) := by decide +kernel
theorem dX9_difference_0 : decode cX9_difference 0 = .ok (.aload_n 0, 1) := by decide +kernel
theorem dX9_difference_1 : decode cX9_difference 1 = .ok (.iload_n 1, 1) := by decide +kernel
theorem dX9_difference_2 : decode cX9_difference 2 = .ok (.invokevirtual 299, 3) := by decide +kernel
theorem dX9_difference_5 : decode cX9_difference 5 = .ok (.ifCond .eq 21, 3) := by decide +kernel
theorem dX9_difference_8 : decode cX9_difference 8 = .ok (.aload_n 0, 1) := by decide +kernel
theorem dX9_difference_9 : decode cX9_difference 9 = .ok (.iload_n 2, 1) := by decide +kernel
theorem dX9_difference_10 : decode cX9_difference 10 = .ok (.invokevirtual 299, 3) := by decide +kernel
theorem dX9_difference_13 : decode cX9_difference 13 = .ok (.ifCond .eq 13, 3) := by decide +kernel
theorem dX9_difference_16 : decode cX9_difference 16 = .ok (.iload 4, 2) := by decide +kernel
theorem dX9_difference_18 : decode cX9_difference 18 = .ok (.iconst 0, 1) := by decide +kernel
theorem dX9_difference_19 : decode cX9_difference 19 = .ok (.iconst 2, 1) := by decide +kernel
theorem dX9_difference_20 : decode cX9_difference 20 = .ok (.invokestatic 173, 3) := by decide +kernel
theorem dX9_difference_23 : decode cX9_difference 23 = .ok (.ifCond .ne 5, 3) := by decide +kernel
theorem dX9_difference_26 : decode cX9_difference 26 = .ok (.iconst (-1), 1) := by decide +kernel
theorem dX9_difference_27 : decode cX9_difference 27 = .ok (.ireturn, 1) := by decide +kernel
theorem dX9_difference_28 : decode cX9_difference 28 = .ok (.aload_n 0, 1) := by decide +kernel
theorem dX9_difference_29 : decode cX9_difference 29 = .ok (.iload_n 1, 1) := by decide +kernel
theorem dX9_difference_30 : decode cX9_difference 30 = .ok (.iload_n 2, 1) := by decide +kernel
theorem dX9_difference_31 : decode cX9_difference 31 = .ok (.invokevirtual 393, 3) := by decide +kernel
theorem dX9_difference_34 : decode cX9_difference 34 = .ok (.iconst 0, 1) := by decide +kernel
theorem dX9_difference_35 : decode cX9_difference 35 = .ok (.istore 5, 2) := by decide +kernel
theorem dX9_difference_37 : decode cX9_difference 37 = .ok (.iload 5, 2) := by decide +kernel
theorem dX9_difference_39 : decode cX9_difference 39 = .ok (.aload_n 0, 1) := by decide +kernel
theorem dX9_difference_40 : decode cX9_difference 40 = .ok (.getfield 384, 3) := by decide +kernel
theorem dX9_difference_43 : decode cX9_difference 43 = .ok (.if_icmp .ge 98, 3) := by decide +kernel
theorem dX9_difference_46 : decode cX9_difference 46 = .ok (.iconst 0, 1) := by decide +kernel
theorem dX9_difference_47 : decode cX9_difference 47 = .ok (.istore 6, 2) := by decide +kernel
theorem dX9_difference_49 : decode cX9_difference 49 = .ok (.iconst 0, 1) := by decide +kernel
theorem dX9_difference_50 : decode cX9_difference 50 = .ok (.istore 7, 2) := by decide +kernel
theorem dX9_difference_52 : decode cX9_difference 52 = .ok (.iload 7, 2) := by decide +kernel
theorem dX9_difference_54 : decode cX9_difference 54 = .ok (.aload_n 0, 1) := by decide +kernel
theorem dX9_difference_55 : decode cX9_difference 55 = .ok (.getfield 384, 3) := by decide +kernel
theorem dX9_difference_58 : decode cX9_difference 58 = .ok (.if_icmp .ge 32, 3) := by decide +kernel
theorem dX9_difference_61 : decode cX9_difference 61 = .ok (.iload 6, 2) := by decide +kernel
theorem dX9_difference_63 : decode cX9_difference 63 = .ok (.aload_n 0, 1) := by decide +kernel
theorem dX9_difference_64 : decode cX9_difference 64 = .ok (.iload_n 1, 1) := by decide +kernel
theorem dX9_difference_65 : decode cX9_difference 65 = .ok (.iload_n 2, 1) := by decide +kernel
theorem dX9_difference_66 : decode cX9_difference 66 = .ok (.iload 7, 2) := by decide +kernel
theorem dX9_difference_68 : decode cX9_difference 68 = .ok (.iload 5, 2) := by decide +kernel
theorem dX9_difference_70 : decode cX9_difference 70 = .ok (.invokevirtual 396, 3) := by decide +kernel
theorem dX9_difference_73 : decode cX9_difference 73 = .ok (.ifCond .ge 7, 3) := by decide +kernel
theorem dX9_difference_76 : decode cX9_difference 76 = .ok (.iconst 1, 1) := by decide +kernel
theorem dX9_difference_77 : decode cX9_difference 77 = .ok (.goto 4, 3) := by decide +kernel
theorem dX9_difference_80 : decode cX9_difference 80 = .ok (.iconst 0, 1) := by decide +kernel
theorem dX9_difference_81 : decode cX9_difference 81 = .ok (.iadd, 1) := by decide +kernel
theorem dX9_difference_82 : decode cX9_difference 82 = .ok (.istore 6, 2) := by decide +kernel
theorem dX9_difference_84 : decode cX9_difference 84 = .ok (.iinc 7 1, 3) := by decide +kernel
theorem dX9_difference_87 : decode cX9_difference 87 = .ok (.goto (-35), 3) := by decide +kernel
theorem dX9_difference_90 : decode cX9_difference 90 = .ok (.iload 6, 2) := by decide +kernel
theorem dX9_difference_92 : decode cX9_difference 92 = .ok (.iload_n 3, 1) := by decide +kernel
theorem dX9_difference_93 : decode cX9_difference 93 = .ok (.if_icmp .ne 42, 3) := by decide +kernel
theorem dX9_difference_96 : decode cX9_difference 96 = .ok (.iload 4, 2) := by decide +kernel
theorem dX9_difference_98 : decode cX9_difference 98 = .ok (.ifCond .ne 13, 3) := by decide +kernel
theorem dX9_difference_101 : decode cX9_difference 101 = .ok (.aload_n 0, 1) := by decide +kernel
theorem dX9_difference_102 : decode cX9_difference 102 = .ok (.getfield 161, 3) := by decide +kernel
theorem dX9_difference_105 : decode cX9_difference 105 = .ok (.iload 5, 2) := by decide +kernel
theorem dX9_difference_107 : decode cX9_difference 107 = .ok (.iaload, 1) := by decide +kernel
theorem dX9_difference_108 : decode cX9_difference 108 = .ok (.goto 26, 3) := by decide +kernel
theorem dX9_difference_111 : decode cX9_difference 111 = .ok (.iload 4, 2) := by decide +kernel
theorem dX9_difference_113 : decode cX9_difference 113 = .ok (.iconst 1, 1) := by decide +kernel
theorem dX9_difference_114 : decode cX9_difference 114 = .ok (.if_icmp .ne 13, 3) := by decide +kernel
theorem dX9_difference_117 : decode cX9_difference 117 = .ok (.aload_n 0, 1) := by decide +kernel
theorem dX9_difference_118 : decode cX9_difference 118 = .ok (.getfield 164, 3) := by decide +kernel
theorem dX9_difference_121 : decode cX9_difference 121 = .ok (.iload 5, 2) := by decide +kernel
theorem dX9_difference_123 : decode cX9_difference 123 = .ok (.iaload, 1) := by decide +kernel
theorem dX9_difference_124 : decode cX9_difference 124 = .ok (.goto 10, 3) := by decide +kernel
theorem dX9_difference_127 : decode cX9_difference 127 = .ok (.aload_n 0, 1) := by decide +kernel
theorem dX9_difference_128 : decode cX9_difference 128 = .ok (.getfield 167, 3) := by decide +kernel
theorem dX9_difference_131 : decode cX9_difference 131 = .ok (.iload 5, 2) := by decide +kernel
theorem dX9_difference_133 : decode cX9_difference 133 = .ok (.iaload, 1) := by decide +kernel
theorem dX9_difference_134 : decode cX9_difference 134 = .ok (.ireturn, 1) := by decide +kernel
theorem dX9_difference_135 : decode cX9_difference 135 = .ok (.iinc 5 1, 3) := by decide +kernel
theorem dX9_difference_138 : decode cX9_difference 138 = .ok (.goto (-101), 3) := by decide +kernel
theorem dX9_difference_141 : decode cX9_difference 141 = .ok (.iconst (-1), 1) := by decide +kernel
theorem dX9_difference_142 : decode cX9_difference 142 = .ok (.ireturn, 1) := by decide +kernel
theorem dX9_told_0 : decode cX9_told 0 = .ok (.iload_n 2, 1) := by decide +kernel
theorem dX9_told_1 : decode cX9_told 1 = .ok (.iconst 0, 1) := by decide +kernel
theorem dX9_told_2 : decode cX9_told 2 = .ok (.bipush 6, 2) := by decide +kernel
theorem dX9_told_4 : decode cX9_told 4 = .ok (.invokestatic 173, 3) := by decide +kernel
theorem dX9_told_7 : decode cX9_told 7 = .ok (.ifCond .eq 16, 3) := by decide +kernel
theorem dX9_told_10 : decode cX9_told 10 = .ok (.iload_n 2, 1) := by decide +kernel
theorem dX9_told_11 : decode cX9_told 11 = .ok (.iconst 2, 1) := by decide +kernel
theorem dX9_told_12 : decode cX9_told 12 = .ok (.if_icmp .le 13, 3) := by decide +kernel
theorem dX9_told_15 : decode cX9_told 15 = .ok (.aload_n 0, 1) := by decide +kernel
theorem dX9_told_16 : decode cX9_told 16 = .ok (.iload_n 1, 1) := by decide +kernel
theorem dX9_told_17 : decode cX9_told 17 = .ok (.invokevirtual 299, 3) := by decide +kernel
theorem dX9_told_20 : decode cX9_told 20 = .ok (.ifCond .ne 5, 3) := by decide +kernel
theorem dX9_told_23 : decode cX9_told 23 = .ok (.iconst (-1), 1) := by decide +kernel
theorem dX9_told_24 : decode cX9_told 24 = .ok (.ireturn, 1) := by decide +kernel
theorem dX9_told_25 : decode cX9_told 25 = .ok (.iconst 0, 1) := by decide +kernel
theorem dX9_told_26 : decode cX9_told 26 = .ok (.istore_n 3, 1) := by decide +kernel
theorem dX9_told_27 : decode cX9_told 27 = .ok (.iload_n 2, 1) := by decide +kernel
theorem dX9_told_28 : decode cX9_told 28 = .ok (.tableswitch 76 0 5 #[40, 45, 50, 55, 62, 69], 40) := by decide +kernel
theorem dX9_told_68 : decode cX9_told 68 = .ok (.aload_n 0, 1) := by decide +kernel
theorem dX9_told_69 : decode cX9_told 69 = .ok (.getfield 170, 3) := by decide +kernel
theorem dX9_told_72 : decode cX9_told 72 = .ok (.ireturn, 1) := by decide +kernel
theorem dX9_told_73 : decode cX9_told 73 = .ok (.aload_n 0, 1) := by decide +kernel
theorem dX9_told_74 : decode cX9_told 74 = .ok (.getfield 177, 3) := by decide +kernel
theorem dX9_told_77 : decode cX9_told 77 = .ok (.ireturn, 1) := by decide +kernel
theorem dX9_told_78 : decode cX9_told 78 = .ok (.aload_n 0, 1) := by decide +kernel
theorem dX9_told_79 : decode cX9_told 79 = .ok (.getfield 367, 3) := by decide +kernel
theorem dX9_told_82 : decode cX9_told 82 = .ok (.ireturn, 1) := by decide +kernel
theorem dX9_told_83 : decode cX9_told 83 = .ok (.aload_n 0, 1) := by decide +kernel
theorem dX9_told_84 : decode cX9_told 84 = .ok (.getfield 60, 3) := by decide +kernel
theorem dX9_told_87 : decode cX9_told 87 = .ok (.iload_n 1, 1) := by decide +kernel
theorem dX9_told_88 : decode cX9_told 88 = .ok (.iaload, 1) := by decide +kernel
theorem dX9_told_89 : decode cX9_told 89 = .ok (.ireturn, 1) := by decide +kernel
theorem dX9_told_90 : decode cX9_told 90 = .ok (.aload_n 0, 1) := by decide +kernel
theorem dX9_told_91 : decode cX9_told 91 = .ok (.getfield 64, 3) := by decide +kernel
theorem dX9_told_94 : decode cX9_told 94 = .ok (.iload_n 1, 1) := by decide +kernel
theorem dX9_told_95 : decode cX9_told 95 = .ok (.iaload, 1) := by decide +kernel
theorem dX9_told_96 : decode cX9_told 96 = .ok (.ireturn, 1) := by decide +kernel
theorem dX9_told_97 : decode cX9_told 97 = .ok (.aload_n 0, 1) := by decide +kernel
theorem dX9_told_98 : decode cX9_told 98 = .ok (.getfield 67, 3) := by decide +kernel
theorem dX9_told_101 : decode cX9_told 101 = .ok (.iload_n 1, 1) := by decide +kernel
theorem dX9_told_102 : decode cX9_told 102 = .ok (.iaload, 1) := by decide +kernel
theorem dX9_told_103 : decode cX9_told 103 = .ok (.ireturn, 1) := by decide +kernel
theorem dX9_told_104 : decode cX9_told 104 = .ok (.iconst 0, 1) := by decide +kernel
theorem dX9_told_105 : decode cX9_told 105 = .ok (.istore 4, 2) := by decide +kernel
theorem dX9_told_107 : decode cX9_told 107 = .ok (.iload 4, 2) := by decide +kernel
theorem dX9_told_109 : decode cX9_told 109 = .ok (.aload_n 0, 1) := by decide +kernel
theorem dX9_told_110 : decode cX9_told 110 = .ok (.getfield 60, 3) := by decide +kernel
theorem dX9_told_113 : decode cX9_told 113 = .ok (.iload_n 1, 1) := by decide +kernel
theorem dX9_told_114 : decode cX9_told 114 = .ok (.iaload, 1) := by decide +kernel
theorem dX9_told_115 : decode cX9_told 115 = .ok (.if_icmp .ge 33, 3) := by decide +kernel
theorem dX9_told_118 : decode cX9_told 118 = .ok (.iload_n 3, 1) := by decide +kernel
theorem dX9_told_119 : decode cX9_told 119 = .ok (.aload_n 0, 1) := by decide +kernel
theorem dX9_told_120 : decode cX9_told 120 = .ok (.getfield 76, 3) := by decide +kernel
theorem dX9_told_123 : decode cX9_told 123 = .ok (.bipush 40, 2) := by decide +kernel
theorem dX9_told_125 : decode cX9_told 125 = .ok (.iload_n 1, 1) := by decide +kernel
theorem dX9_told_126 : decode cX9_told 126 = .ok (.imul, 1) := by decide +kernel
theorem dX9_told_127 : decode cX9_told 127 = .ok (.iload 4, 2) := by decide +kernel
theorem dX9_told_129 : decode cX9_told 129 = .ok (.iadd, 1) := by decide +kernel
theorem dX9_told_130 : decode cX9_told 130 = .ok (.iaload, 1) := by decide +kernel
theorem dX9_told_131 : decode cX9_told 131 = .ok (.iconst 4, 1) := by decide +kernel
theorem dX9_told_132 : decode cX9_told 132 = .ok (.if_icmp .gt 7, 3) := by decide +kernel
theorem dX9_told_135 : decode cX9_told 135 = .ok (.iconst 1, 1) := by decide +kernel
theorem dX9_told_136 : decode cX9_told 136 = .ok (.goto 4, 3) := by decide +kernel
theorem dX9_told_139 : decode cX9_told 139 = .ok (.iconst 0, 1) := by decide +kernel
theorem dX9_told_140 : decode cX9_told 140 = .ok (.iadd, 1) := by decide +kernel
theorem dX9_told_141 : decode cX9_told 141 = .ok (.istore_n 3, 1) := by decide +kernel
theorem dX9_told_142 : decode cX9_told 142 = .ok (.iinc 4 1, 3) := by decide +kernel
theorem dX9_told_145 : decode cX9_told 145 = .ok (.goto (-38), 3) := by decide +kernel
theorem dX9_told_148 : decode cX9_told 148 = .ok (.iload_n 3, 1) := by decide +kernel
theorem dX9_told_149 : decode cX9_told 149 = .ok (.ireturn, 1) := by decide +kernel
theorem dJ9_max_7cf53_0 : decode cJ9_max_7cf53 0 = .ok (.iload_n 0, 1) := by decide +kernel
theorem dJ9_max_7cf53_1 : decode cJ9_max_7cf53 1 = .ok (.iload_n 1, 1) := by decide +kernel
theorem dJ9_max_7cf53_2 : decode cJ9_max_7cf53 2 = .ok (.if_icmp .lt 7, 3) := by decide +kernel
theorem dJ9_max_7cf53_5 : decode cJ9_max_7cf53 5 = .ok (.iload_n 0, 1) := by decide +kernel
theorem dJ9_max_7cf53_6 : decode cJ9_max_7cf53 6 = .ok (.goto 4, 3) := by decide +kernel
theorem dJ9_max_7cf53_9 : decode cJ9_max_7cf53 9 = .ok (.iload_n 1, 1) := by decide +kernel
theorem dJ9_max_7cf53_10 : decode cJ9_max_7cf53 10 = .ok (.ireturn, 1) := by decide +kernel
theorem dJ9_min_7cf53_0 : decode cJ9_min_7cf53 0 = .ok (.iload_n 0, 1) := by decide +kernel
theorem dJ9_min_7cf53_1 : decode cJ9_min_7cf53 1 = .ok (.iload_n 1, 1) := by decide +kernel
theorem dJ9_min_7cf53_2 : decode cJ9_min_7cf53 2 = .ok (.if_icmp .gt 7, 3) := by decide +kernel
theorem dJ9_min_7cf53_5 : decode cJ9_min_7cf53 5 = .ok (.iload_n 0, 1) := by decide +kernel
theorem dJ9_min_7cf53_6 : decode cJ9_min_7cf53 6 = .ok (.goto 4, 3) := by decide +kernel
theorem dJ9_min_7cf53_9 : decode cJ9_min_7cf53 9 = .ok (.iload_n 1, 1) := by decide +kernel
theorem dJ9_min_7cf53_10 : decode cJ9_min_7cf53 10 = .ok (.ireturn, 1) := by decide +kernel
theorem dJ0_length_8abf5_0 : decode cJ0_length_8abf5 0 = .ok (.aload_n 0, 1) := by decide +kernel
theorem dJ0_length_8abf5_1 : decode cJ0_length_8abf5 1 = .ok (.getfield 9, 3) := by decide +kernel
theorem dJ0_length_8abf5_4 : decode cJ0_length_8abf5 4 = .ok (.arraylength, 1) := by decide +kernel
theorem dJ0_length_8abf5_5 : decode cJ0_length_8abf5 5 = .ok (.aload_n 0, 1) := by decide +kernel
theorem dJ0_length_8abf5_6 : decode cJ0_length_8abf5 6 = .ok (.invokevirtual 335, 3) := by decide +kernel
theorem dJ0_length_8abf5_9 : decode cJ0_length_8abf5 9 = .ok (.ishr, 1) := by decide +kernel
theorem dJ0_length_8abf5_10 : decode cJ0_length_8abf5 10 = .ok (.ireturn, 1) := by decide +kernel
theorem dJ0_charAt_5068e_0 : decode cJ0_charAt_5068e 0 = .ok (.aload_n 0, 1) := by decide +kernel
theorem dJ0_charAt_5068e_1 : decode cJ0_charAt_5068e 1 = .ok (.invokevirtual 492, 3) := by decide +kernel
theorem dJ0_charAt_5068e_4 : decode cJ0_charAt_5068e 4 = .ok (.ifCond .eq 12, 3) := by decide +kernel
theorem dJ0_charAt_5068e_7 : decode cJ0_charAt_5068e 7 = .ok (.aload_n 0, 1) := by decide +kernel
theorem dJ0_charAt_5068e_8 : decode cJ0_charAt_5068e 8 = .ok (.getfield 9, 3) := by decide +kernel
theorem dJ0_charAt_5068e_11 : decode cJ0_charAt_5068e 11 = .ok (.iload_n 1, 1) := by decide +kernel
theorem dJ0_charAt_5068e_12 : decode cJ0_charAt_5068e 12 = .ok (.invokestatic 495, 3) := by decide +kernel
theorem dJ0_charAt_5068e_15 : decode cJ0_charAt_5068e 15 = .ok (.ireturn, 1) := by decide +kernel
theorem dJ0_charAt_5068e_16 : decode cJ0_charAt_5068e 16 = .ok (.aload_n 0, 1) := by decide +kernel
theorem dJ0_charAt_5068e_17 : decode cJ0_charAt_5068e 17 = .ok (.getfield 9, 3) := by decide +kernel
theorem dJ0_charAt_5068e_20 : decode cJ0_charAt_5068e 20 = .ok (.iload_n 1, 1) := by decide +kernel
theorem dJ0_charAt_5068e_21 : decode cJ0_charAt_5068e 21 = .ok (.invokestatic 498, 3) := by decide +kernel
theorem dJ0_charAt_5068e_24 : decode cJ0_charAt_5068e 24 = .ok (.ireturn, 1) := by decide +kernel
theorem dJ0_coder_7d493_0 : decode cJ0_coder_7d493 0 = .ok (.getstatic 38, 3) := by decide +kernel
theorem dJ0_coder_7d493_3 : decode cJ0_coder_7d493 3 = .ok (.ifCond .eq 10, 3) := by decide +kernel
theorem dJ0_coder_7d493_6 : decode cJ0_coder_7d493 6 = .ok (.aload_n 0, 1) := by decide +kernel
theorem dJ0_coder_7d493_7 : decode cJ0_coder_7d493 7 = .ok (.getfield 15, 3) := by decide +kernel
theorem dJ0_coder_7d493_10 : decode cJ0_coder_7d493 10 = .ok (.goto 4, 3) := by decide +kernel
theorem dJ0_coder_7d493_13 : decode cJ0_coder_7d493 13 = .ok (.iconst 1, 1) := by decide +kernel
theorem dJ0_coder_7d493_14 : decode cJ0_coder_7d493 14 = .ok (.ireturn, 1) := by decide +kernel
theorem dJ0_isLatin1_aae02_0 : decode cJ0_isLatin1_aae02 0 = .ok (.getstatic 38, 3) := by decide +kernel
theorem dJ0_isLatin1_aae02_3 : decode cJ0_isLatin1_aae02 3 = .ok (.ifCond .eq 14, 3) := by decide +kernel
theorem dJ0_isLatin1_aae02_6 : decode cJ0_isLatin1_aae02 6 = .ok (.aload_n 0, 1) := by decide +kernel
theorem dJ0_isLatin1_aae02_7 : decode cJ0_isLatin1_aae02 7 = .ok (.getfield 15, 3) := by decide +kernel
theorem dJ0_isLatin1_aae02_10 : decode cJ0_isLatin1_aae02 10 = .ok (.ifCond .ne 7, 3) := by decide +kernel
theorem dJ0_isLatin1_aae02_13 : decode cJ0_isLatin1_aae02 13 = .ok (.iconst 1, 1) := by decide +kernel
theorem dJ0_isLatin1_aae02_14 : decode cJ0_isLatin1_aae02 14 = .ok (.goto 4, 3) := by decide +kernel
theorem dJ0_isLatin1_aae02_17 : decode cJ0_isLatin1_aae02 17 = .ok (.iconst 0, 1) := by decide +kernel
theorem dJ0_isLatin1_aae02_18 : decode cJ0_isLatin1_aae02 18 = .ok (.ireturn, 1) := by decide +kernel
theorem dJ0_checkIndex_df160_0 : decode cJ0_checkIndex_df160 0 = .ok (.iload_n 0, 1) := by decide +kernel
theorem dJ0_checkIndex_df160_1 : decode cJ0_checkIndex_df160 1 = .ok (.iload_n 1, 1) := by decide +kernel
theorem dJ0_checkIndex_df160_2 : decode cJ0_checkIndex_df160 2 = .ok (.getstatic 1053, 3) := by decide +kernel
theorem dJ0_checkIndex_df160_5 : decode cJ0_checkIndex_df160 5 = .ok (.invokestatic 1059, 3) := by decide +kernel
theorem dJ0_checkIndex_df160_8 : decode cJ0_checkIndex_df160 8 = .ok (.pop, 1) := by decide +kernel
theorem dJ0_checkIndex_df160_9 : decode cJ0_checkIndex_df160 9 = .ok (.return_, 1) := by decide +kernel
theorem dJ1_charAt_3b067_0 : decode cJ1_charAt_3b067 0 = .ok (.iload_n 1, 1) := by decide +kernel
theorem dJ1_charAt_3b067_1 : decode cJ1_charAt_3b067 1 = .ok (.aload_n 0, 1) := by decide +kernel
theorem dJ1_charAt_3b067_2 : decode cJ1_charAt_3b067 2 = .ok (.arraylength, 1) := by decide +kernel
theorem dJ1_charAt_3b067_3 : decode cJ1_charAt_3b067 3 = .ok (.invokestatic 9, 3) := by decide +kernel
theorem dJ1_charAt_3b067_6 : decode cJ1_charAt_3b067 6 = .ok (.aload_n 0, 1) := by decide +kernel
theorem dJ1_charAt_3b067_7 : decode cJ1_charAt_3b067 7 = .ok (.iload_n 1, 1) := by decide +kernel
theorem dJ1_charAt_3b067_8 : decode cJ1_charAt_3b067 8 = .ok (.baload, 1) := by decide +kernel
theorem dJ1_charAt_3b067_9 : decode cJ1_charAt_3b067 9 = .ok (.sipush 255, 3) := by decide +kernel
theorem dJ1_charAt_3b067_12 : decode cJ1_charAt_3b067 12 = .ok (.iand, 1) := by decide +kernel
theorem dJ1_charAt_3b067_13 : decode cJ1_charAt_3b067 13 = .ok (.i2c, 1) := by decide +kernel
theorem dJ1_charAt_3b067_14 : decode cJ1_charAt_3b067 14 = .ok (.ireturn, 1) := by decide +kernel
theorem dJ2_getChar_3b067_0 : decode cJ2_getChar_3b067 0 = .ok (.getstatic 44, 3) := by decide +kernel
theorem dJ2_getChar_3b067_3 : decode cJ2_getChar_3b067 3 = .ok (.ifCond .ne 25, 3) := by decide +kernel
theorem dJ2_getChar_3b067_6 : decode cJ2_getChar_3b067 6 = .ok (.iload_n 1, 1) := by decide +kernel
theorem dJ2_getChar_3b067_7 : decode cJ2_getChar_3b067 7 = .ok (.ifCond .lt 11, 3) := by decide +kernel
theorem dJ2_getChar_3b067_10 : decode cJ2_getChar_3b067 10 = .ok (.iload_n 1, 1) := by decide +kernel
theorem dJ2_getChar_3b067_11 : decode cJ2_getChar_3b067 11 = .ok (.aload_n 0, 1) := by decide +kernel
theorem dJ2_getChar_3b067_12 : decode cJ2_getChar_3b067 12 = .ok (.invokestatic 48, 3) := by decide +kernel
theorem dJ2_getChar_3b067_15 : decode cJ2_getChar_3b067 15 = .ok (.if_icmp .lt 13, 3) := by decide +kernel
theorem dJ2_getChar_3b067_18 : decode cJ2_getChar_3b067 18 = .ok (.new 52, 3) := by decide +kernel
theorem dJ2_getChar_3b067_21 : decode cJ2_getChar_3b067 21 = .ok (.dup, 1) := by decide +kernel
theorem dJ2_getChar_3b067_22 : decode cJ2_getChar_3b067 22 = .ok (.ldc 54, 2) := by decide +kernel
theorem dJ2_getChar_3b067_24 : decode cJ2_getChar_3b067 24 = .ok (.invokespecial 56, 3) := by decide +kernel
theorem dJ2_getChar_3b067_27 : decode cJ2_getChar_3b067 27 = .ok (.athrow, 1) := by decide +kernel
theorem dJ2_getChar_3b067_28 : decode cJ2_getChar_3b067 28 = .ok (.iload_n 1, 1) := by decide +kernel
theorem dJ2_getChar_3b067_29 : decode cJ2_getChar_3b067 29 = .ok (.iconst 1, 1) := by decide +kernel
theorem dJ2_getChar_3b067_30 : decode cJ2_getChar_3b067 30 = .ok (.ishl, 1) := by decide +kernel
theorem dJ2_getChar_3b067_31 : decode cJ2_getChar_3b067 31 = .ok (.istore_n 1, 1) := by decide +kernel
theorem dJ2_getChar_3b067_32 : decode cJ2_getChar_3b067 32 = .ok (.aload_n 0, 1) := by decide +kernel
theorem dJ2_getChar_3b067_33 : decode cJ2_getChar_3b067 33 = .ok (.iload_n 1, 1) := by decide +kernel
theorem dJ2_getChar_3b067_34 : decode cJ2_getChar_3b067 34 = .ok (.iinc 1 1, 3) := by decide +kernel
theorem dJ2_getChar_3b067_37 : decode cJ2_getChar_3b067 37 = .ok (.baload, 1) := by decide +kernel
theorem dJ2_getChar_3b067_38 : decode cJ2_getChar_3b067 38 = .ok (.sipush 255, 3) := by decide +kernel
theorem dJ2_getChar_3b067_41 : decode cJ2_getChar_3b067 41 = .ok (.iand, 1) := by decide +kernel
theorem dJ2_getChar_3b067_42 : decode cJ2_getChar_3b067 42 = .ok (.getstatic 59, 3) := by decide +kernel
theorem dJ2_getChar_3b067_45 : decode cJ2_getChar_3b067 45 = .ok (.ishl, 1) := by decide +kernel
theorem dJ2_getChar_3b067_46 : decode cJ2_getChar_3b067 46 = .ok (.aload_n 0, 1) := by decide +kernel
theorem dJ2_getChar_3b067_47 : decode cJ2_getChar_3b067 47 = .ok (.iload_n 1, 1) := by decide +kernel
theorem dJ2_getChar_3b067_48 : decode cJ2_getChar_3b067 48 = .ok (.baload, 1) := by decide +kernel
theorem dJ2_getChar_3b067_49 : decode cJ2_getChar_3b067 49 = .ok (.sipush 255, 3) := by decide +kernel
theorem dJ2_getChar_3b067_52 : decode cJ2_getChar_3b067 52 = .ok (.iand, 1) := by decide +kernel
theorem dJ2_getChar_3b067_53 : decode cJ2_getChar_3b067 53 = .ok (.getstatic 63, 3) := by decide +kernel
theorem dJ2_getChar_3b067_56 : decode cJ2_getChar_3b067 56 = .ok (.ishl, 1) := by decide +kernel
theorem dJ2_getChar_3b067_57 : decode cJ2_getChar_3b067 57 = .ok (.ior, 1) := by decide +kernel
theorem dJ2_getChar_3b067_58 : decode cJ2_getChar_3b067 58 = .ok (.i2c, 1) := by decide +kernel
theorem dJ2_getChar_3b067_59 : decode cJ2_getChar_3b067 59 = .ok (.ireturn, 1) := by decide +kernel
theorem dJ2_length_9d52b_0 : decode cJ2_length_9d52b 0 = .ok (.aload_n 0, 1) := by decide +kernel
theorem dJ2_length_9d52b_1 : decode cJ2_length_9d52b 1 = .ok (.arraylength, 1) := by decide +kernel
theorem dJ2_length_9d52b_2 : decode cJ2_length_9d52b 2 = .ok (.iconst 1, 1) := by decide +kernel
theorem dJ2_length_9d52b_3 : decode cJ2_length_9d52b 3 = .ok (.ishr, 1) := by decide +kernel
theorem dJ2_length_9d52b_4 : decode cJ2_length_9d52b 4 = .ok (.ireturn, 1) := by decide +kernel
theorem dJ2_charAt_3b067_0 : decode cJ2_charAt_3b067 0 = .ok (.iload_n 1, 1) := by decide +kernel
theorem dJ2_charAt_3b067_1 : decode cJ2_charAt_3b067 1 = .ok (.aload_n 0, 1) := by decide +kernel
theorem dJ2_charAt_3b067_2 : decode cJ2_charAt_3b067 2 = .ok (.invokestatic 67, 3) := by decide +kernel
theorem dJ2_charAt_3b067_5 : decode cJ2_charAt_3b067 5 = .ok (.aload_n 0, 1) := by decide +kernel
theorem dJ2_charAt_3b067_6 : decode cJ2_charAt_3b067 6 = .ok (.iload_n 1, 1) := by decide +kernel
theorem dJ2_charAt_3b067_7 : decode cJ2_charAt_3b067 7 = .ok (.invokestatic 71, 3) := by decide +kernel
theorem dJ2_charAt_3b067_10 : decode cJ2_charAt_3b067 10 = .ok (.ireturn, 1) := by decide +kernel
theorem dJ2_checkIndex_2214a_0 : decode cJ2_checkIndex_2214a 0 = .ok (.iload_n 0, 1) := by decide +kernel
theorem dJ2_checkIndex_2214a_1 : decode cJ2_checkIndex_2214a 1 = .ok (.aload_n 1, 1) := by decide +kernel
theorem dJ2_checkIndex_2214a_2 : decode cJ2_checkIndex_2214a 2 = .ok (.invokestatic 48, 3) := by decide +kernel
theorem dJ2_checkIndex_2214a_5 : decode cJ2_checkIndex_2214a 5 = .ok (.invokestatic 414, 3) := by decide +kernel
theorem dJ2_checkIndex_2214a_8 : decode cJ2_checkIndex_2214a 8 = .ok (.return_, 1) := by decide +kernel
theorem dJ3_checkIndex_8e157_0 : decode cJ3_checkIndex_8e157 0 = .ok (.iload_n 0, 1) := by decide +kernel
theorem dJ3_checkIndex_8e157_1 : decode cJ3_checkIndex_8e157 1 = .ok (.ifCond .lt 8, 3) := by decide +kernel
theorem dJ3_checkIndex_8e157_4 : decode cJ3_checkIndex_8e157 4 = .ok (.iload_n 0, 1) := by decide +kernel
theorem dJ3_checkIndex_8e157_5 : decode cJ3_checkIndex_8e157 5 = .ok (.iload_n 1, 1) := by decide +kernel
theorem dJ3_checkIndex_8e157_6 : decode cJ3_checkIndex_8e157 6 = .ok (.if_icmp .lt 10, 3) := by decide +kernel
theorem dJ3_checkIndex_8e157_9 : decode cJ3_checkIndex_8e157 9 = .ok (.aload_n 2, 1) := by decide +kernel
theorem dJ3_checkIndex_8e157_10 : decode cJ3_checkIndex_8e157 10 = .ok (.iload_n 0, 1) := by decide +kernel
theorem dJ3_checkIndex_8e157_11 : decode cJ3_checkIndex_8e157 11 = .ok (.iload_n 1, 1) := by decide +kernel
theorem dJ3_checkIndex_8e157_12 : decode cJ3_checkIndex_8e157 12 = .ok (.invokestatic 95, 3) := by decide +kernel
theorem dJ3_checkIndex_8e157_15 : decode cJ3_checkIndex_8e157 15 = .ok (.athrow, 1) := by decide +kernel
theorem dJ3_checkIndex_8e157_16 : decode cJ3_checkIndex_8e157 16 = .ok (.iload_n 0, 1) := by decide +kernel
theorem dJ3_checkIndex_8e157_17 : decode cJ3_checkIndex_8e157 17 = .ok (.ireturn, 1) := by decide +kernel
theorem dL_law_0 : decode cL_law 0 = .ok (.new 7, 3) := by decide +kernel
theorem dL_law_3 : decode cL_law 3 = .ok (.dup, 1) := by decide +kernel
theorem dL_law_4 : decode cL_law 4 = .ok (.invokespecial 9, 3) := by decide +kernel
theorem dL_law_7 : decode cL_law 7 = .ok (.astore_n 1, 1) := by decide +kernel
theorem dL_law_8 : decode cL_law 8 = .ok (.new 10, 3) := by decide +kernel
theorem dL_law_11 : decode cL_law 11 = .ok (.dup, 1) := by decide +kernel
theorem dL_law_12 : decode cL_law 12 = .ok (.invokespecial 12, 3) := by decide +kernel
theorem dL_law_15 : decode cL_law 15 = .ok (.astore_n 2, 1) := by decide +kernel
theorem dL_law_16 : decode cL_law 16 = .ok (.iconst 0, 1) := by decide +kernel
theorem dL_law_17 : decode cL_law 17 = .ok (.istore_n 3, 1) := by decide +kernel
theorem dL_law_18 : decode cL_law 18 = .ok (.iload_n 3, 1) := by decide +kernel
theorem dL_law_19 : decode cL_law 19 = .ok (.aload_n 0, 1) := by decide +kernel
theorem dL_law_20 : decode cL_law 20 = .ok (.arraylength, 1) := by decide +kernel
theorem dL_law_21 : decode cL_law 21 = .ok (.iconst 5, 1) := by decide +kernel
theorem dL_law_22 : decode cL_law 22 = .ok (.isub, 1) := by decide +kernel
theorem dL_law_23 : decode cL_law 23 = .ok (.if_icmp .gt 583, 3) := by decide +kernel
theorem dL_law_26 : decode cL_law 26 = .ok (.aload_n 0, 1) := by decide +kernel
theorem dL_law_27 : decode cL_law 27 = .ok (.iload_n 3, 1) := by decide +kernel
theorem dL_law_28 : decode cL_law 28 = .ok (.iaload, 1) := by decide +kernel
theorem dL_law_29 : decode cL_law 29 = .ok (.bipush 15, 2) := by decide +kernel
theorem dL_law_31 : decode cL_law 31 = .ok (.iand, 1) := by decide +kernel
theorem dL_law_32 : decode cL_law 32 = .ok (.tableswitch 568 0 15 #[80, 143, 156, 169, 202, 215, 238, 281, 324, 357, 390, 413, 436, 449, 482, 535], 80) := by decide +kernel
theorem dL_law_112 : decode cL_law 112 = .ok (.aload_n 1, 1) := by decide +kernel
theorem dL_law_113 : decode cL_law 113 = .ok (.aload_n 0, 1) := by decide +kernel
theorem dL_law_114 : decode cL_law 114 = .ok (.iload_n 3, 1) := by decide +kernel
theorem dL_law_115 : decode cL_law 115 = .ok (.iconst 1, 1) := by decide +kernel
theorem dL_law_116 : decode cL_law 116 = .ok (.iadd, 1) := by decide +kernel
theorem dL_law_117 : decode cL_law 117 = .ok (.iaload, 1) := by decide +kernel
theorem dL_law_118 : decode cL_law 118 = .ok (.aload_n 0, 1) := by decide +kernel
theorem dL_law_119 : decode cL_law 119 = .ok (.iload_n 3, 1) := by decide +kernel
theorem dL_law_120 : decode cL_law 120 = .ok (.iconst 2, 1) := by decide +kernel
theorem dL_law_121 : decode cL_law 121 = .ok (.iadd, 1) := by decide +kernel
theorem dL_law_122 : decode cL_law 122 = .ok (.iaload, 1) := by decide +kernel
theorem dL_law_123 : decode cL_law 123 = .ok (.i2l, 1) := by decide +kernel
theorem dL_law_124 : decode cL_law 124 = .ok (.bipush 32, 2) := by decide +kernel
theorem dL_law_126 : decode cL_law 126 = .ok (.lshl, 1) := by decide +kernel
theorem dL_law_127 : decode cL_law 127 = .ok (.aload_n 0, 1) := by decide +kernel
theorem dL_law_128 : decode cL_law 128 = .ok (.iload_n 3, 1) := by decide +kernel
theorem dL_law_129 : decode cL_law 129 = .ok (.iconst 3, 1) := by decide +kernel
theorem dL_law_130 : decode cL_law 130 = .ok (.iadd, 1) := by decide +kernel
theorem dL_law_131 : decode cL_law 131 = .ok (.iaload, 1) := by decide +kernel
theorem dL_law_132 : decode cL_law 132 = .ok (.i2l, 1) := by decide +kernel
theorem dL_law_133 : decode cL_law 133 = .ok (.ldc2_w 13, 3) := by decide +kernel
theorem dL_law_136 : decode cL_law 136 = .ok (.land, 1) := by decide +kernel
theorem dL_law_137 : decode cL_law 137 = .ok (.lor, 1) := by decide +kernel
theorem dL_law_138 : decode cL_law 138 = .ok (.invokevirtual 15, 3) := by decide +kernel
theorem dL_law_141 : decode cL_law 141 = .ok (.aload_n 2, 1) := by decide +kernel
theorem dL_law_142 : decode cL_law 142 = .ok (.aload_n 0, 1) := by decide +kernel
theorem dL_law_143 : decode cL_law 143 = .ok (.iload_n 3, 1) := by decide +kernel
theorem dL_law_144 : decode cL_law 144 = .ok (.iconst 1, 1) := by decide +kernel
theorem dL_law_145 : decode cL_law 145 = .ok (.iadd, 1) := by decide +kernel
theorem dL_law_146 : decode cL_law 146 = .ok (.iaload, 1) := by decide +kernel
theorem dL_law_147 : decode cL_law 147 = .ok (.aload_n 0, 1) := by decide +kernel
theorem dL_law_148 : decode cL_law 148 = .ok (.iload_n 3, 1) := by decide +kernel
theorem dL_law_149 : decode cL_law 149 = .ok (.iconst 2, 1) := by decide +kernel
theorem dL_law_150 : decode cL_law 150 = .ok (.iadd, 1) := by decide +kernel
theorem dL_law_151 : decode cL_law 151 = .ok (.iaload, 1) := by decide +kernel
theorem dL_law_152 : decode cL_law 152 = .ok (.i2l, 1) := by decide +kernel
theorem dL_law_153 : decode cL_law 153 = .ok (.bipush 32, 2) := by decide +kernel
theorem dL_law_155 : decode cL_law 155 = .ok (.lshl, 1) := by decide +kernel
theorem dL_law_156 : decode cL_law 156 = .ok (.aload_n 0, 1) := by decide +kernel
theorem dL_law_157 : decode cL_law 157 = .ok (.iload_n 3, 1) := by decide +kernel
theorem dL_law_158 : decode cL_law 158 = .ok (.iconst 3, 1) := by decide +kernel
theorem dL_law_159 : decode cL_law 159 = .ok (.iadd, 1) := by decide +kernel
theorem dL_law_160 : decode cL_law 160 = .ok (.iaload, 1) := by decide +kernel
theorem dL_law_161 : decode cL_law 161 = .ok (.i2l, 1) := by decide +kernel
theorem dL_law_162 : decode cL_law 162 = .ok (.ldc2_w 13, 3) := by decide +kernel
theorem dL_law_165 : decode cL_law 165 = .ok (.land, 1) := by decide +kernel
theorem dL_law_166 : decode cL_law 166 = .ok (.lor, 1) := by decide +kernel
theorem dL_law_167 : decode cL_law 167 = .ok (.invokevirtual 19, 3) := by decide +kernel
theorem dL_law_170 : decode cL_law 170 = .ok (.if_icmp .eq 430, 3) := by decide +kernel
theorem dL_law_173 : decode cL_law 173 = .ok (.iconst 0, 1) := by decide +kernel
theorem dL_law_174 : decode cL_law 174 = .ok (.ireturn, 1) := by decide +kernel
theorem dL_law_175 : decode cL_law 175 = .ok (.aload_n 1, 1) := by decide +kernel
theorem dL_law_176 : decode cL_law 176 = .ok (.invokevirtual 20, 3) := by decide +kernel
theorem dL_law_179 : decode cL_law 179 = .ok (.aload_n 2, 1) := by decide +kernel
theorem dL_law_180 : decode cL_law 180 = .ok (.invokevirtual 24, 3) := by decide +kernel
theorem dL_law_183 : decode cL_law 183 = .ok (.if_icmp .eq 417, 3) := by decide +kernel
theorem dL_law_186 : decode cL_law 186 = .ok (.iconst 0, 1) := by decide +kernel
theorem dL_law_187 : decode cL_law 187 = .ok (.ireturn, 1) := by decide +kernel
theorem dL_law_188 : decode cL_law 188 = .ok (.aload_n 1, 1) := by decide +kernel
theorem dL_law_189 : decode cL_law 189 = .ok (.invokevirtual 25, 3) := by decide +kernel
theorem dL_law_192 : decode cL_law 192 = .ok (.aload_n 2, 1) := by decide +kernel
theorem dL_law_193 : decode cL_law 193 = .ok (.invokevirtual 28, 3) := by decide +kernel
theorem dL_law_196 : decode cL_law 196 = .ok (.if_icmp .eq 404, 3) := by decide +kernel
theorem dL_law_199 : decode cL_law 199 = .ok (.iconst 0, 1) := by decide +kernel
theorem dL_law_200 : decode cL_law 200 = .ok (.ireturn, 1) := by decide +kernel
theorem dL_law_201 : decode cL_law 201 = .ok (.aload_n 1, 1) := by decide +kernel
theorem dL_law_202 : decode cL_law 202 = .ok (.aload_n 0, 1) := by decide +kernel
theorem dL_law_203 : decode cL_law 203 = .ok (.iload_n 3, 1) := by decide +kernel
theorem dL_law_204 : decode cL_law 204 = .ok (.iconst 1, 1) := by decide +kernel
theorem dL_law_205 : decode cL_law 205 = .ok (.iadd, 1) := by decide +kernel
theorem dL_law_206 : decode cL_law 206 = .ok (.iaload, 1) := by decide +kernel
theorem dL_law_207 : decode cL_law 207 = .ok (.aload_n 0, 1) := by decide +kernel
theorem dL_law_208 : decode cL_law 208 = .ok (.iload_n 3, 1) := by decide +kernel
theorem dL_law_209 : decode cL_law 209 = .ok (.iconst 2, 1) := by decide +kernel
theorem dL_law_210 : decode cL_law 210 = .ok (.iadd, 1) := by decide +kernel
theorem dL_law_211 : decode cL_law 211 = .ok (.iaload, 1) := by decide +kernel
theorem dL_law_212 : decode cL_law 212 = .ok (.invokevirtual 29, 3) := by decide +kernel
theorem dL_law_215 : decode cL_law 215 = .ok (.aload_n 2, 1) := by decide +kernel
theorem dL_law_216 : decode cL_law 216 = .ok (.aload_n 0, 1) := by decide +kernel
theorem dL_law_217 : decode cL_law 217 = .ok (.iload_n 3, 1) := by decide +kernel
theorem dL_law_218 : decode cL_law 218 = .ok (.iconst 1, 1) := by decide +kernel
theorem dL_law_219 : decode cL_law 219 = .ok (.iadd, 1) := by decide +kernel
theorem dL_law_220 : decode cL_law 220 = .ok (.iaload, 1) := by decide +kernel
theorem dL_law_221 : decode cL_law 221 = .ok (.aload_n 0, 1) := by decide +kernel
theorem dL_law_222 : decode cL_law 222 = .ok (.iload_n 3, 1) := by decide +kernel
theorem dL_law_223 : decode cL_law 223 = .ok (.iconst 2, 1) := by decide +kernel
theorem dL_law_224 : decode cL_law 224 = .ok (.iadd, 1) := by decide +kernel
theorem dL_law_225 : decode cL_law 225 = .ok (.iaload, 1) := by decide +kernel
theorem dL_law_226 : decode cL_law 226 = .ok (.invokevirtual 33, 3) := by decide +kernel
theorem dL_law_229 : decode cL_law 229 = .ok (.if_icmp .eq 371, 3) := by decide +kernel
theorem dL_law_232 : decode cL_law 232 = .ok (.iconst 0, 1) := by decide +kernel
theorem dL_law_233 : decode cL_law 233 = .ok (.ireturn, 1) := by decide +kernel
theorem dL_law_234 : decode cL_law 234 = .ok (.aload_n 1, 1) := by decide +kernel
theorem dL_law_235 : decode cL_law 235 = .ok (.invokevirtual 34, 3) := by decide +kernel
theorem dL_law_238 : decode cL_law 238 = .ok (.aload_n 2, 1) := by decide +kernel
theorem dL_law_239 : decode cL_law 239 = .ok (.invokevirtual 37, 3) := by decide +kernel
theorem dL_law_242 : decode cL_law 242 = .ok (.if_icmp .eq 358, 3) := by decide +kernel
theorem dL_law_245 : decode cL_law 245 = .ok (.iconst 0, 1) := by decide +kernel
theorem dL_law_246 : decode cL_law 246 = .ok (.ireturn, 1) := by decide +kernel
theorem dL_law_247 : decode cL_law 247 = .ok (.aload_n 1, 1) := by decide +kernel
theorem dL_law_248 : decode cL_law 248 = .ok (.aload_n 0, 1) := by decide +kernel
theorem dL_law_249 : decode cL_law 249 = .ok (.iload_n 3, 1) := by decide +kernel
theorem dL_law_250 : decode cL_law 250 = .ok (.iconst 1, 1) := by decide +kernel
theorem dL_law_251 : decode cL_law 251 = .ok (.iadd, 1) := by decide +kernel
theorem dL_law_252 : decode cL_law 252 = .ok (.iaload, 1) := by decide +kernel
theorem dL_law_253 : decode cL_law 253 = .ok (.invokevirtual 38, 3) := by decide +kernel
theorem dL_law_256 : decode cL_law 256 = .ok (.aload_n 2, 1) := by decide +kernel
theorem dL_law_257 : decode cL_law 257 = .ok (.aload_n 0, 1) := by decide +kernel
theorem dL_law_258 : decode cL_law 258 = .ok (.iload_n 3, 1) := by decide +kernel
theorem dL_law_259 : decode cL_law 259 = .ok (.iconst 1, 1) := by decide +kernel
theorem dL_law_260 : decode cL_law 260 = .ok (.iadd, 1) := by decide +kernel
theorem dL_law_261 : decode cL_law 261 = .ok (.iaload, 1) := by decide +kernel
theorem dL_law_262 : decode cL_law 262 = .ok (.invokevirtual 42, 3) := by decide +kernel
theorem dL_law_265 : decode cL_law 265 = .ok (.if_icmp .eq 335, 3) := by decide +kernel
theorem dL_law_268 : decode cL_law 268 = .ok (.iconst 0, 1) := by decide +kernel
theorem dL_law_269 : decode cL_law 269 = .ok (.ireturn, 1) := by decide +kernel
theorem dL_law_270 : decode cL_law 270 = .ok (.aload_n 1, 1) := by decide +kernel
theorem dL_law_271 : decode cL_law 271 = .ok (.aload_n 0, 1) := by decide +kernel
theorem dL_law_272 : decode cL_law 272 = .ok (.iload_n 3, 1) := by decide +kernel
theorem dL_law_273 : decode cL_law 273 = .ok (.iconst 1, 1) := by decide +kernel
theorem dL_law_274 : decode cL_law 274 = .ok (.iadd, 1) := by decide +kernel
theorem dL_law_275 : decode cL_law 275 = .ok (.iaload, 1) := by decide +kernel
theorem dL_law_276 : decode cL_law 276 = .ok (.aload_n 0, 1) := by decide +kernel
theorem dL_law_277 : decode cL_law 277 = .ok (.iload_n 3, 1) := by decide +kernel
theorem dL_law_278 : decode cL_law 278 = .ok (.iconst 2, 1) := by decide +kernel
theorem dL_law_279 : decode cL_law 279 = .ok (.iadd, 1) := by decide +kernel
theorem dL_law_280 : decode cL_law 280 = .ok (.iaload, 1) := by decide +kernel
theorem dL_law_281 : decode cL_law 281 = .ok (.aload_n 0, 1) := by decide +kernel
theorem dL_law_282 : decode cL_law 282 = .ok (.iload_n 3, 1) := by decide +kernel
theorem dL_law_283 : decode cL_law 283 = .ok (.iconst 3, 1) := by decide +kernel
theorem dL_law_284 : decode cL_law 284 = .ok (.iadd, 1) := by decide +kernel
theorem dL_law_285 : decode cL_law 285 = .ok (.iaload, 1) := by decide +kernel
theorem dL_law_286 : decode cL_law 286 = .ok (.invokevirtual 43, 3) := by decide +kernel
theorem dL_law_289 : decode cL_law 289 = .ok (.aload_n 2, 1) := by decide +kernel
theorem dL_law_290 : decode cL_law 290 = .ok (.aload_n 0, 1) := by decide +kernel
theorem dL_law_291 : decode cL_law 291 = .ok (.iload_n 3, 1) := by decide +kernel
theorem dL_law_292 : decode cL_law 292 = .ok (.iconst 1, 1) := by decide +kernel
theorem dL_law_293 : decode cL_law 293 = .ok (.iadd, 1) := by decide +kernel
theorem dL_law_294 : decode cL_law 294 = .ok (.iaload, 1) := by decide +kernel
theorem dL_law_295 : decode cL_law 295 = .ok (.aload_n 0, 1) := by decide +kernel
theorem dL_law_296 : decode cL_law 296 = .ok (.iload_n 3, 1) := by decide +kernel
theorem dL_law_297 : decode cL_law 297 = .ok (.iconst 2, 1) := by decide +kernel
theorem dL_law_298 : decode cL_law 298 = .ok (.iadd, 1) := by decide +kernel
theorem dL_law_299 : decode cL_law 299 = .ok (.iaload, 1) := by decide +kernel
theorem dL_law_300 : decode cL_law 300 = .ok (.aload_n 0, 1) := by decide +kernel
theorem dL_law_301 : decode cL_law 301 = .ok (.iload_n 3, 1) := by decide +kernel
theorem dL_law_302 : decode cL_law 302 = .ok (.iconst 3, 1) := by decide +kernel
theorem dL_law_303 : decode cL_law 303 = .ok (.iadd, 1) := by decide +kernel
theorem dL_law_304 : decode cL_law 304 = .ok (.iaload, 1) := by decide +kernel
theorem dL_law_305 : decode cL_law 305 = .ok (.invokevirtual 47, 3) := by decide +kernel
theorem dL_law_308 : decode cL_law 308 = .ok (.if_icmp .eq 292, 3) := by decide +kernel
theorem dL_law_311 : decode cL_law 311 = .ok (.iconst 0, 1) := by decide +kernel
theorem dL_law_312 : decode cL_law 312 = .ok (.ireturn, 1) := by decide +kernel
theorem dL_law_313 : decode cL_law 313 = .ok (.aload_n 1, 1) := by decide +kernel
theorem dL_law_314 : decode cL_law 314 = .ok (.aload_n 0, 1) := by decide +kernel
theorem dL_law_315 : decode cL_law 315 = .ok (.iload_n 3, 1) := by decide +kernel
theorem dL_law_316 : decode cL_law 316 = .ok (.iconst 1, 1) := by decide +kernel
theorem dL_law_317 : decode cL_law 317 = .ok (.iadd, 1) := by decide +kernel
theorem dL_law_318 : decode cL_law 318 = .ok (.iaload, 1) := by decide +kernel
theorem dL_law_319 : decode cL_law 319 = .ok (.aload_n 0, 1) := by decide +kernel
theorem dL_law_320 : decode cL_law 320 = .ok (.iload_n 3, 1) := by decide +kernel
theorem dL_law_321 : decode cL_law 321 = .ok (.iconst 2, 1) := by decide +kernel
theorem dL_law_322 : decode cL_law 322 = .ok (.iadd, 1) := by decide +kernel
theorem dL_law_323 : decode cL_law 323 = .ok (.iaload, 1) := by decide +kernel
theorem dL_law_324 : decode cL_law 324 = .ok (.aload_n 0, 1) := by decide +kernel
theorem dL_law_325 : decode cL_law 325 = .ok (.iload_n 3, 1) := by decide +kernel
theorem dL_law_326 : decode cL_law 326 = .ok (.iconst 3, 1) := by decide +kernel
theorem dL_law_327 : decode cL_law 327 = .ok (.iadd, 1) := by decide +kernel
theorem dL_law_328 : decode cL_law 328 = .ok (.iaload, 1) := by decide +kernel
theorem dL_law_329 : decode cL_law 329 = .ok (.invokevirtual 48, 3) := by decide +kernel
theorem dL_law_332 : decode cL_law 332 = .ok (.aload_n 2, 1) := by decide +kernel
theorem dL_law_333 : decode cL_law 333 = .ok (.aload_n 0, 1) := by decide +kernel
theorem dL_law_334 : decode cL_law 334 = .ok (.iload_n 3, 1) := by decide +kernel
theorem dL_law_335 : decode cL_law 335 = .ok (.iconst 1, 1) := by decide +kernel
theorem dL_law_336 : decode cL_law 336 = .ok (.iadd, 1) := by decide +kernel
theorem dL_law_337 : decode cL_law 337 = .ok (.iaload, 1) := by decide +kernel
theorem dL_law_338 : decode cL_law 338 = .ok (.aload_n 0, 1) := by decide +kernel
theorem dL_law_339 : decode cL_law 339 = .ok (.iload_n 3, 1) := by decide +kernel
theorem dL_law_340 : decode cL_law 340 = .ok (.iconst 2, 1) := by decide +kernel
theorem dL_law_341 : decode cL_law 341 = .ok (.iadd, 1) := by decide +kernel
theorem dL_law_342 : decode cL_law 342 = .ok (.iaload, 1) := by decide +kernel
theorem dL_law_343 : decode cL_law 343 = .ok (.aload_n 0, 1) := by decide +kernel
theorem dL_law_344 : decode cL_law 344 = .ok (.iload_n 3, 1) := by decide +kernel
theorem dL_law_345 : decode cL_law 345 = .ok (.iconst 3, 1) := by decide +kernel
theorem dL_law_346 : decode cL_law 346 = .ok (.iadd, 1) := by decide +kernel
theorem dL_law_347 : decode cL_law 347 = .ok (.iaload, 1) := by decide +kernel
theorem dL_law_348 : decode cL_law 348 = .ok (.invokevirtual 51, 3) := by decide +kernel
theorem dL_law_351 : decode cL_law 351 = .ok (.if_icmp .eq 249, 3) := by decide +kernel
theorem dL_law_354 : decode cL_law 354 = .ok (.iconst 0, 1) := by decide +kernel
theorem dL_law_355 : decode cL_law 355 = .ok (.ireturn, 1) := by decide +kernel
theorem dL_law_356 : decode cL_law 356 = .ok (.aload_n 1, 1) := by decide +kernel
theorem dL_law_357 : decode cL_law 357 = .ok (.aload_n 0, 1) := by decide +kernel
theorem dL_law_358 : decode cL_law 358 = .ok (.iload_n 3, 1) := by decide +kernel
theorem dL_law_359 : decode cL_law 359 = .ok (.iconst 1, 1) := by decide +kernel
theorem dL_law_360 : decode cL_law 360 = .ok (.iadd, 1) := by decide +kernel
theorem dL_law_361 : decode cL_law 361 = .ok (.iaload, 1) := by decide +kernel
theorem dL_law_362 : decode cL_law 362 = .ok (.aload_n 0, 1) := by decide +kernel
theorem dL_law_363 : decode cL_law 363 = .ok (.iload_n 3, 1) := by decide +kernel
theorem dL_law_364 : decode cL_law 364 = .ok (.iconst 2, 1) := by decide +kernel
theorem dL_law_365 : decode cL_law 365 = .ok (.iadd, 1) := by decide +kernel
theorem dL_law_366 : decode cL_law 366 = .ok (.iaload, 1) := by decide +kernel
theorem dL_law_367 : decode cL_law 367 = .ok (.invokevirtual 52, 3) := by decide +kernel
theorem dL_law_370 : decode cL_law 370 = .ok (.aload_n 2, 1) := by decide +kernel
theorem dL_law_371 : decode cL_law 371 = .ok (.aload_n 0, 1) := by decide +kernel
theorem dL_law_372 : decode cL_law 372 = .ok (.iload_n 3, 1) := by decide +kernel
theorem dL_law_373 : decode cL_law 373 = .ok (.iconst 1, 1) := by decide +kernel
theorem dL_law_374 : decode cL_law 374 = .ok (.iadd, 1) := by decide +kernel
theorem dL_law_375 : decode cL_law 375 = .ok (.iaload, 1) := by decide +kernel
theorem dL_law_376 : decode cL_law 376 = .ok (.aload_n 0, 1) := by decide +kernel
theorem dL_law_377 : decode cL_law 377 = .ok (.iload_n 3, 1) := by decide +kernel
theorem dL_law_378 : decode cL_law 378 = .ok (.iconst 2, 1) := by decide +kernel
theorem dL_law_379 : decode cL_law 379 = .ok (.iadd, 1) := by decide +kernel
theorem dL_law_380 : decode cL_law 380 = .ok (.iaload, 1) := by decide +kernel
theorem dL_law_381 : decode cL_law 381 = .ok (.invokevirtual 55, 3) := by decide +kernel
theorem dL_law_384 : decode cL_law 384 = .ok (.if_icmp .eq 216, 3) := by decide +kernel
theorem dL_law_387 : decode cL_law 387 = .ok (.iconst 0, 1) := by decide +kernel
theorem dL_law_388 : decode cL_law 388 = .ok (.ireturn, 1) := by decide +kernel
theorem dL_law_389 : decode cL_law 389 = .ok (.aload_n 1, 1) := by decide +kernel
theorem dL_law_390 : decode cL_law 390 = .ok (.aload_n 0, 1) := by decide +kernel
theorem dL_law_391 : decode cL_law 391 = .ok (.iload_n 3, 1) := by decide +kernel
theorem dL_law_392 : decode cL_law 392 = .ok (.iconst 1, 1) := by decide +kernel
theorem dL_law_393 : decode cL_law 393 = .ok (.iadd, 1) := by decide +kernel
theorem dL_law_394 : decode cL_law 394 = .ok (.iaload, 1) := by decide +kernel
theorem dL_law_395 : decode cL_law 395 = .ok (.aload_n 0, 1) := by decide +kernel
theorem dL_law_396 : decode cL_law 396 = .ok (.iload_n 3, 1) := by decide +kernel
theorem dL_law_397 : decode cL_law 397 = .ok (.iconst 2, 1) := by decide +kernel
theorem dL_law_398 : decode cL_law 398 = .ok (.iadd, 1) := by decide +kernel
theorem dL_law_399 : decode cL_law 399 = .ok (.iaload, 1) := by decide +kernel
theorem dL_law_400 : decode cL_law 400 = .ok (.invokevirtual 56, 3) := by decide +kernel
theorem dL_law_403 : decode cL_law 403 = .ok (.aload_n 2, 1) := by decide +kernel
theorem dL_law_404 : decode cL_law 404 = .ok (.aload_n 0, 1) := by decide +kernel
theorem dL_law_405 : decode cL_law 405 = .ok (.iload_n 3, 1) := by decide +kernel
theorem dL_law_406 : decode cL_law 406 = .ok (.iconst 1, 1) := by decide +kernel
theorem dL_law_407 : decode cL_law 407 = .ok (.iadd, 1) := by decide +kernel
theorem dL_law_408 : decode cL_law 408 = .ok (.iaload, 1) := by decide +kernel
theorem dL_law_409 : decode cL_law 409 = .ok (.aload_n 0, 1) := by decide +kernel
theorem dL_law_410 : decode cL_law 410 = .ok (.iload_n 3, 1) := by decide +kernel
theorem dL_law_411 : decode cL_law 411 = .ok (.iconst 2, 1) := by decide +kernel
theorem dL_law_412 : decode cL_law 412 = .ok (.iadd, 1) := by decide +kernel
theorem dL_law_413 : decode cL_law 413 = .ok (.iaload, 1) := by decide +kernel
theorem dL_law_414 : decode cL_law 414 = .ok (.invokevirtual 59, 3) := by decide +kernel
theorem dL_law_417 : decode cL_law 417 = .ok (.if_icmp .eq 183, 3) := by decide +kernel
theorem dL_law_420 : decode cL_law 420 = .ok (.iconst 0, 1) := by decide +kernel
theorem dL_law_421 : decode cL_law 421 = .ok (.ireturn, 1) := by decide +kernel
theorem dL_law_422 : decode cL_law 422 = .ok (.aload_n 1, 1) := by decide +kernel
theorem dL_law_423 : decode cL_law 423 = .ok (.aload_n 0, 1) := by decide +kernel
theorem dL_law_424 : decode cL_law 424 = .ok (.iload_n 3, 1) := by decide +kernel
theorem dL_law_425 : decode cL_law 425 = .ok (.iconst 1, 1) := by decide +kernel
theorem dL_law_426 : decode cL_law 426 = .ok (.iadd, 1) := by decide +kernel
theorem dL_law_427 : decode cL_law 427 = .ok (.iaload, 1) := by decide +kernel
theorem dL_law_428 : decode cL_law 428 = .ok (.invokevirtual 60, 3) := by decide +kernel
theorem dL_law_431 : decode cL_law 431 = .ok (.aload_n 2, 1) := by decide +kernel
theorem dL_law_432 : decode cL_law 432 = .ok (.aload_n 0, 1) := by decide +kernel
theorem dL_law_433 : decode cL_law 433 = .ok (.iload_n 3, 1) := by decide +kernel
theorem dL_law_434 : decode cL_law 434 = .ok (.iconst 1, 1) := by decide +kernel
theorem dL_law_435 : decode cL_law 435 = .ok (.iadd, 1) := by decide +kernel
theorem dL_law_436 : decode cL_law 436 = .ok (.iaload, 1) := by decide +kernel
theorem dL_law_437 : decode cL_law 437 = .ok (.invokevirtual 63, 3) := by decide +kernel
theorem dL_law_440 : decode cL_law 440 = .ok (.if_icmp .eq 160, 3) := by decide +kernel
theorem dL_law_443 : decode cL_law 443 = .ok (.iconst 0, 1) := by decide +kernel
theorem dL_law_444 : decode cL_law 444 = .ok (.ireturn, 1) := by decide +kernel
theorem dL_law_445 : decode cL_law 445 = .ok (.aload_n 1, 1) := by decide +kernel
theorem dL_law_446 : decode cL_law 446 = .ok (.aload_n 0, 1) := by decide +kernel
theorem dL_law_447 : decode cL_law 447 = .ok (.iload_n 3, 1) := by decide +kernel
theorem dL_law_448 : decode cL_law 448 = .ok (.iconst 1, 1) := by decide +kernel
theorem dL_law_449 : decode cL_law 449 = .ok (.iadd, 1) := by decide +kernel
theorem dL_law_450 : decode cL_law 450 = .ok (.iaload, 1) := by decide +kernel
theorem dL_law_451 : decode cL_law 451 = .ok (.invokevirtual 64, 3) := by decide +kernel
theorem dL_law_454 : decode cL_law 454 = .ok (.aload_n 2, 1) := by decide +kernel
theorem dL_law_455 : decode cL_law 455 = .ok (.aload_n 0, 1) := by decide +kernel
theorem dL_law_456 : decode cL_law 456 = .ok (.iload_n 3, 1) := by decide +kernel
theorem dL_law_457 : decode cL_law 457 = .ok (.iconst 1, 1) := by decide +kernel
theorem dL_law_458 : decode cL_law 458 = .ok (.iadd, 1) := by decide +kernel
theorem dL_law_459 : decode cL_law 459 = .ok (.iaload, 1) := by decide +kernel
theorem dL_law_460 : decode cL_law 460 = .ok (.invokevirtual 67, 3) := by decide +kernel
theorem dL_law_463 : decode cL_law 463 = .ok (.if_icmp .eq 137, 3) := by decide +kernel
theorem dL_law_466 : decode cL_law 466 = .ok (.iconst 0, 1) := by decide +kernel
theorem dL_law_467 : decode cL_law 467 = .ok (.ireturn, 1) := by decide +kernel
theorem dL_law_468 : decode cL_law 468 = .ok (.aload_n 1, 1) := by decide +kernel
theorem dL_law_469 : decode cL_law 469 = .ok (.invokevirtual 68, 3) := by decide +kernel
theorem dL_law_472 : decode cL_law 472 = .ok (.aload_n 2, 1) := by decide +kernel
theorem dL_law_473 : decode cL_law 473 = .ok (.invokevirtual 71, 3) := by decide +kernel
theorem dL_law_476 : decode cL_law 476 = .ok (.if_icmp .eq 124, 3) := by decide +kernel
theorem dL_law_479 : decode cL_law 479 = .ok (.iconst 0, 1) := by decide +kernel
theorem dL_law_480 : decode cL_law 480 = .ok (.ireturn, 1) := by decide +kernel
theorem dL_law_481 : decode cL_law 481 = .ok (.aload_n 1, 1) := by decide +kernel
theorem dL_law_482 : decode cL_law 482 = .ok (.aload_n 0, 1) := by decide +kernel
theorem dL_law_483 : decode cL_law 483 = .ok (.iload_n 3, 1) := by decide +kernel
theorem dL_law_484 : decode cL_law 484 = .ok (.iconst 1, 1) := by decide +kernel
theorem dL_law_485 : decode cL_law 485 = .ok (.iadd, 1) := by decide +kernel
theorem dL_law_486 : decode cL_law 486 = .ok (.iaload, 1) := by decide +kernel
theorem dL_law_487 : decode cL_law 487 = .ok (.aload_n 0, 1) := by decide +kernel
theorem dL_law_488 : decode cL_law 488 = .ok (.iload_n 3, 1) := by decide +kernel
theorem dL_law_489 : decode cL_law 489 = .ok (.iconst 2, 1) := by decide +kernel
theorem dL_law_490 : decode cL_law 490 = .ok (.iadd, 1) := by decide +kernel
theorem dL_law_491 : decode cL_law 491 = .ok (.iaload, 1) := by decide +kernel
theorem dL_law_492 : decode cL_law 492 = .ok (.invokevirtual 72, 3) := by decide +kernel
theorem dL_law_495 : decode cL_law 495 = .ok (.aload_n 2, 1) := by decide +kernel
theorem dL_law_496 : decode cL_law 496 = .ok (.aload_n 0, 1) := by decide +kernel
theorem dL_law_497 : decode cL_law 497 = .ok (.iload_n 3, 1) := by decide +kernel
theorem dL_law_498 : decode cL_law 498 = .ok (.iconst 1, 1) := by decide +kernel
theorem dL_law_499 : decode cL_law 499 = .ok (.iadd, 1) := by decide +kernel
theorem dL_law_500 : decode cL_law 500 = .ok (.iaload, 1) := by decide +kernel
theorem dL_law_501 : decode cL_law 501 = .ok (.aload_n 0, 1) := by decide +kernel
theorem dL_law_502 : decode cL_law 502 = .ok (.iload_n 3, 1) := by decide +kernel
theorem dL_law_503 : decode cL_law 503 = .ok (.iconst 2, 1) := by decide +kernel
theorem dL_law_504 : decode cL_law 504 = .ok (.iadd, 1) := by decide +kernel
theorem dL_law_505 : decode cL_law 505 = .ok (.iaload, 1) := by decide +kernel
theorem dL_law_506 : decode cL_law 506 = .ok (.invokevirtual 75, 3) := by decide +kernel
theorem dL_law_509 : decode cL_law 509 = .ok (.if_icmp .eq 91, 3) := by decide +kernel
theorem dL_law_512 : decode cL_law 512 = .ok (.iconst 0, 1) := by decide +kernel
theorem dL_law_513 : decode cL_law 513 = .ok (.ireturn, 1) := by decide +kernel
theorem dL_law_514 : decode cL_law 514 = .ok (.aload_n 1, 1) := by decide +kernel
theorem dL_law_515 : decode cL_law 515 = .ok (.aload_n 0, 1) := by decide +kernel
theorem dL_law_516 : decode cL_law 516 = .ok (.iload_n 3, 1) := by decide +kernel
theorem dL_law_517 : decode cL_law 517 = .ok (.iconst 1, 1) := by decide +kernel
theorem dL_law_518 : decode cL_law 518 = .ok (.iadd, 1) := by decide +kernel
theorem dL_law_519 : decode cL_law 519 = .ok (.iaload, 1) := by decide +kernel
theorem dL_law_520 : decode cL_law 520 = .ok (.aload_n 0, 1) := by decide +kernel
theorem dL_law_521 : decode cL_law 521 = .ok (.iload_n 3, 1) := by decide +kernel
theorem dL_law_522 : decode cL_law 522 = .ok (.iconst 2, 1) := by decide +kernel
theorem dL_law_523 : decode cL_law 523 = .ok (.iadd, 1) := by decide +kernel
theorem dL_law_524 : decode cL_law 524 = .ok (.iaload, 1) := by decide +kernel
theorem dL_law_525 : decode cL_law 525 = .ok (.aload_n 0, 1) := by decide +kernel
theorem dL_law_526 : decode cL_law 526 = .ok (.iload_n 3, 1) := by decide +kernel
theorem dL_law_527 : decode cL_law 527 = .ok (.iconst 3, 1) := by decide +kernel
theorem dL_law_528 : decode cL_law 528 = .ok (.iadd, 1) := by decide +kernel
theorem dL_law_529 : decode cL_law 529 = .ok (.iaload, 1) := by decide +kernel
theorem dL_law_530 : decode cL_law 530 = .ok (.aload_n 0, 1) := by decide +kernel
theorem dL_law_531 : decode cL_law 531 = .ok (.iload_n 3, 1) := by decide +kernel
theorem dL_law_532 : decode cL_law 532 = .ok (.iconst 4, 1) := by decide +kernel
theorem dL_law_533 : decode cL_law 533 = .ok (.iadd, 1) := by decide +kernel
theorem dL_law_534 : decode cL_law 534 = .ok (.iaload, 1) := by decide +kernel
theorem dL_law_535 : decode cL_law 535 = .ok (.invokevirtual 76, 3) := by decide +kernel
theorem dL_law_538 : decode cL_law 538 = .ok (.aload_n 2, 1) := by decide +kernel
theorem dL_law_539 : decode cL_law 539 = .ok (.aload_n 0, 1) := by decide +kernel
theorem dL_law_540 : decode cL_law 540 = .ok (.iload_n 3, 1) := by decide +kernel
theorem dL_law_541 : decode cL_law 541 = .ok (.iconst 1, 1) := by decide +kernel
theorem dL_law_542 : decode cL_law 542 = .ok (.iadd, 1) := by decide +kernel
theorem dL_law_543 : decode cL_law 543 = .ok (.iaload, 1) := by decide +kernel
theorem dL_law_544 : decode cL_law 544 = .ok (.aload_n 0, 1) := by decide +kernel
theorem dL_law_545 : decode cL_law 545 = .ok (.iload_n 3, 1) := by decide +kernel
theorem dL_law_546 : decode cL_law 546 = .ok (.iconst 2, 1) := by decide +kernel
theorem dL_law_547 : decode cL_law 547 = .ok (.iadd, 1) := by decide +kernel
theorem dL_law_548 : decode cL_law 548 = .ok (.iaload, 1) := by decide +kernel
theorem dL_law_549 : decode cL_law 549 = .ok (.aload_n 0, 1) := by decide +kernel
theorem dL_law_550 : decode cL_law 550 = .ok (.iload_n 3, 1) := by decide +kernel
theorem dL_law_551 : decode cL_law 551 = .ok (.iconst 3, 1) := by decide +kernel
theorem dL_law_552 : decode cL_law 552 = .ok (.iadd, 1) := by decide +kernel
theorem dL_law_553 : decode cL_law 553 = .ok (.iaload, 1) := by decide +kernel
theorem dL_law_554 : decode cL_law 554 = .ok (.aload_n 0, 1) := by decide +kernel
theorem dL_law_555 : decode cL_law 555 = .ok (.iload_n 3, 1) := by decide +kernel
theorem dL_law_556 : decode cL_law 556 = .ok (.iconst 4, 1) := by decide +kernel
theorem dL_law_557 : decode cL_law 557 = .ok (.iadd, 1) := by decide +kernel
theorem dL_law_558 : decode cL_law 558 = .ok (.iaload, 1) := by decide +kernel
theorem dL_law_559 : decode cL_law 559 = .ok (.invokevirtual 80, 3) := by decide +kernel
theorem dL_law_562 : decode cL_law 562 = .ok (.if_icmp .eq 38, 3) := by decide +kernel
theorem dL_law_565 : decode cL_law 565 = .ok (.iconst 0, 1) := by decide +kernel
theorem dL_law_566 : decode cL_law 566 = .ok (.ireturn, 1) := by decide +kernel
theorem dL_law_567 : decode cL_law 567 = .ok (.aload_n 1, 1) := by decide +kernel
theorem dL_law_568 : decode cL_law 568 = .ok (.aload_n 0, 1) := by decide +kernel
theorem dL_law_569 : decode cL_law 569 = .ok (.iload_n 3, 1) := by decide +kernel
theorem dL_law_570 : decode cL_law 570 = .ok (.iconst 1, 1) := by decide +kernel
theorem dL_law_571 : decode cL_law 571 = .ok (.iadd, 1) := by decide +kernel
theorem dL_law_572 : decode cL_law 572 = .ok (.iaload, 1) := by decide +kernel
theorem dL_law_573 : decode cL_law 573 = .ok (.aload_n 0, 1) := by decide +kernel
theorem dL_law_574 : decode cL_law 574 = .ok (.iload_n 3, 1) := by decide +kernel
theorem dL_law_575 : decode cL_law 575 = .ok (.iconst 2, 1) := by decide +kernel
theorem dL_law_576 : decode cL_law 576 = .ok (.iadd, 1) := by decide +kernel
theorem dL_law_577 : decode cL_law 577 = .ok (.iaload, 1) := by decide +kernel
theorem dL_law_578 : decode cL_law 578 = .ok (.invokevirtual 81, 3) := by decide +kernel
theorem dL_law_581 : decode cL_law 581 = .ok (.aload_n 2, 1) := by decide +kernel
theorem dL_law_582 : decode cL_law 582 = .ok (.aload_n 0, 1) := by decide +kernel
theorem dL_law_583 : decode cL_law 583 = .ok (.iload_n 3, 1) := by decide +kernel
theorem dL_law_584 : decode cL_law 584 = .ok (.iconst 1, 1) := by decide +kernel
theorem dL_law_585 : decode cL_law 585 = .ok (.iadd, 1) := by decide +kernel
theorem dL_law_586 : decode cL_law 586 = .ok (.iaload, 1) := by decide +kernel
theorem dL_law_587 : decode cL_law 587 = .ok (.aload_n 0, 1) := by decide +kernel
theorem dL_law_588 : decode cL_law 588 = .ok (.iload_n 3, 1) := by decide +kernel
theorem dL_law_589 : decode cL_law 589 = .ok (.iconst 2, 1) := by decide +kernel
theorem dL_law_590 : decode cL_law 590 = .ok (.iadd, 1) := by decide +kernel
theorem dL_law_591 : decode cL_law 591 = .ok (.iaload, 1) := by decide +kernel
theorem dL_law_592 : decode cL_law 592 = .ok (.invokevirtual 84, 3) := by decide +kernel
theorem dL_law_595 : decode cL_law 595 = .ok (.if_icmp .eq 5, 3) := by decide +kernel
theorem dL_law_598 : decode cL_law 598 = .ok (.iconst 0, 1) := by decide +kernel
theorem dL_law_599 : decode cL_law 599 = .ok (.ireturn, 1) := by decide +kernel
theorem dL_law_600 : decode cL_law 600 = .ok (.iinc 3 5, 3) := by decide +kernel
theorem dL_law_603 : decode cL_law 603 = .ok (.goto (-585), 3) := by decide +kernel
theorem dL_law_606 : decode cL_law 606 = .ok (.iconst 1, 1) := by decide +kernel
theorem dL_law_607 : decode cL_law 607 = .ok (.ireturn, 1) := by decide +kernel

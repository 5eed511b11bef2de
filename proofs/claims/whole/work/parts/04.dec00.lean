theorem dX0_init_0 : decode cX0_init 0 = .ok (.aload_n 0, 1) := by decide +kernel
theorem dX0_init_1 : decode cX0_init 1 = .ok (.invokespecial 3, 3) := by decide +kernel
theorem dX0_init_4 : decode cX0_init 4 = .ok (.aload_n 0, 1) := by decide +kernel
theorem dX0_init_5 : decode cX0_init 5 = .ok (.bipush 80, 2) := by decide +kernel
theorem dX0_init_7 : decode cX0_init 7 = .ok (.newarray .int, 2) := by decide +kernel
theorem dX0_init_9 : decode cX0_init 9 = .ok (.putfield 9, 3) := by decide +kernel
theorem dX0_init_12 : decode cX0_init 12 = .ok (.aload_n 0, 1) := by decide +kernel
theorem dX0_init_13 : decode cX0_init 13 = .ok (.bipush 80, 2) := by decide +kernel
theorem dX0_init_15 : decode cX0_init 15 = .ok (.newarray .int, 2) := by decide +kernel
theorem dX0_init_17 : decode cX0_init 17 = .ok (.putfield 15, 3) := by decide +kernel
theorem dX0_init_20 : decode cX0_init 20 = .ok (.aload_n 0, 1) := by decide +kernel
theorem dX0_init_21 : decode cX0_init 21 = .ok (.bipush 80, 2) := by decide +kernel
theorem dX0_init_23 : decode cX0_init 23 = .ok (.newarray .int, 2) := by decide +kernel
theorem dX0_init_25 : decode cX0_init 25 = .ok (.putfield 18, 3) := by decide +kernel
theorem dX0_init_28 : decode cX0_init 28 = .ok (.aload_n 0, 1) := by decide +kernel
theorem dX0_init_29 : decode cX0_init 29 = .ok (.iconst 0, 1) := by decide +kernel
theorem dX0_init_30 : decode cX0_init 30 = .ok (.putfield 21, 3) := by decide +kernel
theorem dX0_init_33 : decode cX0_init 33 = .ok (.return_, 1) := by decide +kernel
theorem dX0_compare_0 : decode cX0_compare 0 = .ok (.aload_n 0, 1) := by decide +kernel
theorem dX0_compare_1 : decode cX0_compare 1 = .ok (.iconst 0, 1) := by decide +kernel
theorem dX0_compare_2 : decode cX0_compare 2 = .ok (.putfield 21, 3) := by decide +kernel
theorem dX0_compare_5 : decode cX0_compare 5 = .ok (.iconst 0, 1) := by decide +kernel
theorem dX0_compare_6 : decode cX0_compare 6 = .ok (.istore_n 3, 1) := by decide +kernel
theorem dX0_compare_7 : decode cX0_compare 7 = .ok (.iconst 0, 1) := by decide +kernel
theorem dX0_compare_8 : decode cX0_compare 8 = .ok (.istore 4, 2) := by decide +kernel
theorem dX0_compare_10 : decode cX0_compare 10 = .ok (.aload_n 1, 1) := by decide +kernel
theorem dX0_compare_11 : decode cX0_compare 11 = .ok (.getfield 25, 3) := by decide +kernel
theorem dX0_compare_14 : decode cX0_compare 14 = .ok (.aload_n 2, 1) := by decide +kernel
theorem dX0_compare_15 : decode cX0_compare 15 = .ok (.getfield 25, 3) := by decide +kernel
theorem dX0_compare_18 : decode cX0_compare 18 = .ok (.iadd, 1) := by decide +kernel
theorem dX0_compare_19 : decode cX0_compare 19 = .ok (.istore 5, 2) := by decide +kernel
theorem dX0_compare_21 : decode cX0_compare 21 = .ok (.iconst 0, 1) := by decide +kernel
theorem dX0_compare_22 : decode cX0_compare 22 = .ok (.istore 6, 2) := by decide +kernel
theorem dX0_compare_24 : decode cX0_compare 24 = .ok (.iload 6, 2) := by decide +kernel
theorem dX0_compare_26 : decode cX0_compare 26 = .ok (.iload 5, 2) := by decide +kernel
theorem dX0_compare_28 : decode cX0_compare 28 = .ok (.if_icmp .ge 118, 3) := by decide +kernel
theorem dX0_compare_31 : decode cX0_compare 31 = .ok (.iload_n 3, 1) := by decide +kernel
theorem dX0_compare_32 : decode cX0_compare 32 = .ok (.aload_n 1, 1) := by decide +kernel
theorem dX0_compare_33 : decode cX0_compare 33 = .ok (.getfield 25, 3) := by decide +kernel
theorem dX0_compare_36 : decode cX0_compare 36 = .ok (.if_icmp .lt 12, 3) := by decide +kernel
theorem dX0_compare_39 : decode cX0_compare 39 = .ok (.iload 4, 2) := by decide +kernel
theorem dX0_compare_41 : decode cX0_compare 41 = .ok (.aload_n 2, 1) := by decide +kernel
theorem dX0_compare_42 : decode cX0_compare 42 = .ok (.getfield 25, 3) := by decide +kernel
theorem dX0_compare_45 : decode cX0_compare 45 = .ok (.if_icmp .ge 101, 3) := by decide +kernel
theorem dX0_compare_48 : decode cX0_compare 48 = .ok (.aload_n 1, 1) := by decide +kernel
theorem dX0_compare_49 : decode cX0_compare 49 = .ok (.iload_n 3, 1) := by decide +kernel
theorem dX0_compare_50 : decode cX0_compare 50 = .ok (.aload_n 2, 1) := by decide +kernel
theorem dX0_compare_51 : decode cX0_compare 51 = .ok (.iload 4, 2) := by decide +kernel
theorem dX0_compare_53 : decode cX0_compare 53 = .ok (.invokestatic 30, 3) := by decide +kernel
theorem dX0_compare_56 : decode cX0_compare 56 = .ok (.istore 7, 2) := by decide +kernel
theorem dX0_compare_58 : decode cX0_compare 58 = .ok (.iload 7, 2) := by decide +kernel
theorem dX0_compare_60 : decode cX0_compare 60 = .ok (.ifCond .gt 12, 3) := by decide +kernel
theorem dX0_compare_63 : decode cX0_compare 63 = .ok (.aload_n 1, 1) := by decide +kernel
theorem dX0_compare_64 : decode cX0_compare 64 = .ok (.getfield 34, 3) := by decide +kernel
theorem dX0_compare_67 : decode cX0_compare 67 = .ok (.iload_n 3, 1) := by decide +kernel
theorem dX0_compare_68 : decode cX0_compare 68 = .ok (.iaload, 1) := by decide +kernel
theorem dX0_compare_69 : decode cX0_compare 69 = .ok (.goto 5, 3) := by decide +kernel
theorem dX0_compare_72 : decode cX0_compare 72 = .ok (.bipush (-2), 2) := by decide +kernel
theorem dX0_compare_74 : decode cX0_compare 74 = .ok (.istore 8, 2) := by decide +kernel
theorem dX0_compare_76 : decode cX0_compare 76 = .ok (.iload 7, 2) := by decide +kernel
theorem dX0_compare_78 : decode cX0_compare 78 = .ok (.ifCond .lt 13, 3) := by decide +kernel
theorem dX0_compare_81 : decode cX0_compare 81 = .ok (.aload_n 2, 1) := by decide +kernel
theorem dX0_compare_82 : decode cX0_compare 82 = .ok (.getfield 34, 3) := by decide +kernel
theorem dX0_compare_85 : decode cX0_compare 85 = .ok (.iload 4, 2) := by decide +kernel
theorem dX0_compare_87 : decode cX0_compare 87 = .ok (.iaload, 1) := by decide +kernel
theorem dX0_compare_88 : decode cX0_compare 88 = .ok (.goto 5, 3) := by decide +kernel
theorem dX0_compare_91 : decode cX0_compare 91 = .ok (.bipush (-2), 2) := by decide +kernel
theorem dX0_compare_93 : decode cX0_compare 93 = .ok (.istore 9, 2) := by decide +kernel
theorem dX0_compare_95 : decode cX0_compare 95 = .ok (.aload_n 0, 1) := by decide +kernel
theorem dX0_compare_96 : decode cX0_compare 96 = .ok (.aload_n 1, 1) := by decide +kernel
theorem dX0_compare_97 : decode cX0_compare 97 = .ok (.iload 8, 2) := by decide +kernel
theorem dX0_compare_99 : decode cX0_compare 99 = .ok (.aload_n 2, 1) := by decide +kernel
theorem dX0_compare_100 : decode cX0_compare 100 = .ok (.iload 9, 2) := by decide +kernel
theorem dX0_compare_102 : decode cX0_compare 102 = .ok (.invokestatic 37, 3) := by decide +kernel
theorem dX0_compare_105 : decode cX0_compare 105 = .ok (.iload 8, 2) := by decide +kernel
theorem dX0_compare_107 : decode cX0_compare 107 = .ok (.iload 9, 2) := by decide +kernel
theorem dX0_compare_109 : decode cX0_compare 109 = .ok (.invokevirtual 40, 3) := by decide +kernel
theorem dX0_compare_112 : decode cX0_compare 112 = .ok (.iload_n 3, 1) := by decide +kernel
theorem dX0_compare_113 : decode cX0_compare 113 = .ok (.iload 7, 2) := by decide +kernel
theorem dX0_compare_115 : decode cX0_compare 115 = .ok (.ifCond .gt 7, 3) := by decide +kernel
theorem dX0_compare_118 : decode cX0_compare 118 = .ok (.iconst 1, 1) := by decide +kernel
theorem dX0_compare_119 : decode cX0_compare 119 = .ok (.goto 4, 3) := by decide +kernel
theorem dX0_compare_122 : decode cX0_compare 122 = .ok (.iconst 0, 1) := by decide +kernel
theorem dX0_compare_123 : decode cX0_compare 123 = .ok (.iadd, 1) := by decide +kernel
theorem dX0_compare_124 : decode cX0_compare 124 = .ok (.istore_n 3, 1) := by decide +kernel
theorem dX0_compare_125 : decode cX0_compare 125 = .ok (.iload 4, 2) := by decide +kernel
theorem dX0_compare_127 : decode cX0_compare 127 = .ok (.iload 7, 2) := by decide +kernel
theorem dX0_compare_129 : decode cX0_compare 129 = .ok (.ifCond .lt 7, 3) := by decide +kernel
theorem dX0_compare_132 : decode cX0_compare 132 = .ok (.iconst 1, 1) := by decide +kernel
theorem dX0_compare_133 : decode cX0_compare 133 = .ok (.goto 4, 3) := by decide +kernel
theorem dX0_compare_136 : decode cX0_compare 136 = .ok (.iconst 0, 1) := by decide +kernel
theorem dX0_compare_137 : decode cX0_compare 137 = .ok (.iadd, 1) := by decide +kernel
theorem dX0_compare_138 : decode cX0_compare 138 = .ok (.istore 4, 2) := by decide +kernel
theorem dX0_compare_140 : decode cX0_compare 140 = .ok (.iinc 6 1, 3) := by decide +kernel
theorem dX0_compare_143 : decode cX0_compare 143 = .ok (.goto (-119), 3) := by decide +kernel
theorem dX0_compare_146 : decode cX0_compare 146 = .ok (.return_, 1) := by decide +kernel
theorem dX0_sideOfNext_0 : decode cX0_sideOfNext 0 = .ok (.iload_n 1, 1) := by decide +kernel
theorem dX0_sideOfNext_1 : decode cX0_sideOfNext 1 = .ok (.aload_n 0, 1) := by decide +kernel
theorem dX0_sideOfNext_2 : decode cX0_sideOfNext 2 = .ok (.getfield 25, 3) := by decide +kernel
theorem dX0_sideOfNext_5 : decode cX0_sideOfNext 5 = .ok (.if_icmp .lt 5, 3) := by decide +kernel
theorem dX0_sideOfNext_8 : decode cX0_sideOfNext 8 = .ok (.iconst 1, 1) := by decide +kernel
theorem dX0_sideOfNext_9 : decode cX0_sideOfNext 9 = .ok (.ireturn, 1) := by decide +kernel
theorem dX0_sideOfNext_10 : decode cX0_sideOfNext 10 = .ok (.iload_n 3, 1) := by decide +kernel
theorem dX0_sideOfNext_11 : decode cX0_sideOfNext 11 = .ok (.aload_n 2, 1) := by decide +kernel
theorem dX0_sideOfNext_12 : decode cX0_sideOfNext 12 = .ok (.getfield 25, 3) := by decide +kernel
theorem dX0_sideOfNext_15 : decode cX0_sideOfNext 15 = .ok (.if_icmp .lt 5, 3) := by decide +kernel
theorem dX0_sideOfNext_18 : decode cX0_sideOfNext 18 = .ok (.iconst (-1), 1) := by decide +kernel
theorem dX0_sideOfNext_19 : decode cX0_sideOfNext 19 = .ok (.ireturn, 1) := by decide +kernel
theorem dX0_sideOfNext_20 : decode cX0_sideOfNext 20 = .ok (.aload_n 0, 1) := by decide +kernel
theorem dX0_sideOfNext_21 : decode cX0_sideOfNext 21 = .ok (.getfield 44, 3) := by decide +kernel
theorem dX0_sideOfNext_24 : decode cX0_sideOfNext 24 = .ok (.aload_n 0, 1) := by decide +kernel
theorem dX0_sideOfNext_25 : decode cX0_sideOfNext 25 = .ok (.getfield 34, 3) := by decide +kernel
theorem dX0_sideOfNext_28 : decode cX0_sideOfNext 28 = .ok (.iload_n 1, 1) := by decide +kernel
theorem dX0_sideOfNext_29 : decode cX0_sideOfNext 29 = .ok (.iaload, 1) := by decide +kernel
theorem dX0_sideOfNext_30 : decode cX0_sideOfNext 30 = .ok (.aaload, 1) := by decide +kernel
theorem dX0_sideOfNext_31 : decode cX0_sideOfNext 31 = .ok (.getfield 48, 3) := by decide +kernel
theorem dX0_sideOfNext_34 : decode cX0_sideOfNext 34 = .ok (.astore 4, 2) := by decide +kernel
theorem dX0_sideOfNext_36 : decode cX0_sideOfNext 36 = .ok (.aload 4, 2) := by decide +kernel
theorem dX0_sideOfNext_38 : decode cX0_sideOfNext 38 = .ok (.aload_n 2, 1) := by decide +kernel
theorem dX0_sideOfNext_39 : decode cX0_sideOfNext 39 = .ok (.getfield 44, 3) := by decide +kernel
theorem dX0_sideOfNext_42 : decode cX0_sideOfNext 42 = .ok (.aload_n 2, 1) := by decide +kernel
theorem dX0_sideOfNext_43 : decode cX0_sideOfNext 43 = .ok (.getfield 34, 3) := by decide +kernel
theorem dX0_sideOfNext_46 : decode cX0_sideOfNext 46 = .ok (.iload_n 3, 1) := by decide +kernel
theorem dX0_sideOfNext_47 : decode cX0_sideOfNext 47 = .ok (.iaload, 1) := by decide +kernel
theorem dX0_sideOfNext_48 : decode cX0_sideOfNext 48 = .ok (.aaload, 1) := by decide +kernel
theorem dX0_sideOfNext_49 : decode cX0_sideOfNext 49 = .ok (.getfield 48, 3) := by decide +kernel
theorem dX0_sideOfNext_52 : decode cX0_sideOfNext 52 = .ok (.invokevirtual 54, 3) := by decide +kernel
theorem dX0_sideOfNext_55 : decode cX0_sideOfNext 55 = .ok (.ireturn, 1) := by decide +kernel
theorem dX0_addRow_0 : decode cX0_addRow 0 = .ok (.iload_n 1, 1) := by decide +kernel
theorem dX0_addRow_1 : decode cX0_addRow 1 = .ok (.ifCond .eq 55, 3) := by decide +kernel
theorem dX0_addRow_4 : decode cX0_addRow 4 = .ok (.aload_n 0, 1) := by decide +kernel
theorem dX0_addRow_5 : decode cX0_addRow 5 = .ok (.getfield 21, 3) := by decide +kernel
theorem dX0_addRow_8 : decode cX0_addRow 8 = .ok (.aload_n 0, 1) := by decide +kernel
theorem dX0_addRow_9 : decode cX0_addRow 9 = .ok (.getfield 9, 3) := by decide +kernel
theorem dX0_addRow_12 : decode cX0_addRow 12 = .ok (.arraylength, 1) := by decide +kernel
theorem dX0_addRow_13 : decode cX0_addRow 13 = .ok (.if_icmp .ge 43, 3) := by decide +kernel
theorem dX0_addRow_16 : decode cX0_addRow 16 = .ok (.aload_n 0, 1) := by decide +kernel
theorem dX0_addRow_17 : decode cX0_addRow 17 = .ok (.getfield 9, 3) := by decide +kernel
theorem dX0_addRow_20 : decode cX0_addRow 20 = .ok (.aload_n 0, 1) := by decide +kernel
theorem dX0_addRow_21 : decode cX0_addRow 21 = .ok (.getfield 21, 3) := by decide +kernel
theorem dX0_addRow_24 : decode cX0_addRow 24 = .ok (.iload_n 1, 1) := by decide +kernel
theorem dX0_addRow_25 : decode cX0_addRow 25 = .ok (.iastore, 1) := by decide +kernel
theorem dX0_addRow_26 : decode cX0_addRow 26 = .ok (.aload_n 0, 1) := by decide +kernel
theorem dX0_addRow_27 : decode cX0_addRow 27 = .ok (.getfield 15, 3) := by decide +kernel
theorem dX0_addRow_30 : decode cX0_addRow 30 = .ok (.aload_n 0, 1) := by decide +kernel
theorem dX0_addRow_31 : decode cX0_addRow 31 = .ok (.getfield 21, 3) := by decide +kernel
theorem dX0_addRow_34 : decode cX0_addRow 34 = .ok (.iload_n 2, 1) := by decide +kernel
theorem dX0_addRow_35 : decode cX0_addRow 35 = .ok (.iastore, 1) := by decide +kernel
theorem dX0_addRow_36 : decode cX0_addRow 36 = .ok (.aload_n 0, 1) := by decide +kernel
theorem dX0_addRow_37 : decode cX0_addRow 37 = .ok (.getfield 18, 3) := by decide +kernel
theorem dX0_addRow_40 : decode cX0_addRow 40 = .ok (.aload_n 0, 1) := by decide +kernel
theorem dX0_addRow_41 : decode cX0_addRow 41 = .ok (.getfield 21, 3) := by decide +kernel
theorem dX0_addRow_44 : decode cX0_addRow 44 = .ok (.iload_n 3, 1) := by decide +kernel
theorem dX0_addRow_45 : decode cX0_addRow 45 = .ok (.iastore, 1) := by decide +kernel
theorem dX0_addRow_46 : decode cX0_addRow 46 = .ok (.aload_n 0, 1) := by decide +kernel
theorem dX0_addRow_47 : decode cX0_addRow 47 = .ok (.dup, 1) := by decide +kernel
theorem dX0_addRow_48 : decode cX0_addRow 48 = .ok (.getfield 21, 3) := by decide +kernel
theorem dX0_addRow_51 : decode cX0_addRow 51 = .ok (.iconst 1, 1) := by decide +kernel
theorem dX0_addRow_52 : decode cX0_addRow 52 = .ok (.iadd, 1) := by decide +kernel
theorem dX0_addRow_53 : decode cX0_addRow 53 = .ok (.putfield 21, 3) := by decide +kernel
theorem dX0_addRow_56 : decode cX0_addRow 56 = .ok (.return_, 1) := by decide +kernel
theorem dX0_codeOf_0 : decode cX0_codeOf 0 = .ok (.iload_n 1, 1) := by decide +kernel
theorem dX0_codeOf_1 : decode cX0_codeOf 1 = .ok (.ifCond .ge 5, 3) := by decide +kernel
theorem dX0_codeOf_4 : decode cX0_codeOf 4 = .ok (.iconst 1, 1) := by decide +kernel
theorem dX0_codeOf_5 : decode cX0_codeOf 5 = .ok (.ireturn, 1) := by decide +kernel
theorem dX0_codeOf_6 : decode cX0_codeOf 6 = .ok (.iload_n 3, 1) := by decide +kernel
theorem dX0_codeOf_7 : decode cX0_codeOf 7 = .ok (.ifCond .ge 5, 3) := by decide +kernel
theorem dX0_codeOf_10 : decode cX0_codeOf 10 = .ok (.iconst 2, 1) := by decide +kernel
theorem dX0_codeOf_11 : decode cX0_codeOf 11 = .ok (.ireturn, 1) := by decide +kernel
theorem dX0_codeOf_12 : decode cX0_codeOf 12 = .ok (.aload_n 0, 1) := by decide +kernel
theorem dX0_codeOf_13 : decode cX0_codeOf 13 = .ok (.getfield 44, 3) := by decide +kernel
theorem dX0_codeOf_16 : decode cX0_codeOf 16 = .ok (.iload_n 1, 1) := by decide +kernel
theorem dX0_codeOf_17 : decode cX0_codeOf 17 = .ok (.aaload, 1) := by decide +kernel
theorem dX0_codeOf_18 : decode cX0_codeOf 18 = .ok (.astore 4, 2) := by decide +kernel
theorem dX0_codeOf_20 : decode cX0_codeOf 20 = .ok (.aload_n 2, 1) := by decide +kernel
theorem dX0_codeOf_21 : decode cX0_codeOf 21 = .ok (.getfield 44, 3) := by decide +kernel
theorem dX0_codeOf_24 : decode cX0_codeOf 24 = .ok (.iload_n 3, 1) := by decide +kernel
theorem dX0_codeOf_25 : decode cX0_codeOf 25 = .ok (.aaload, 1) := by decide +kernel
theorem dX0_codeOf_26 : decode cX0_codeOf 26 = .ok (.astore 5, 2) := by decide +kernel
theorem dX0_codeOf_28 : decode cX0_codeOf 28 = .ok (.aload 4, 2) := by decide +kernel
theorem dX0_codeOf_30 : decode cX0_codeOf 30 = .ok (.getfield 60, 3) := by decide +kernel
theorem dX0_codeOf_33 : decode cX0_codeOf 33 = .ok (.aload 5, 2) := by decide +kernel
theorem dX0_codeOf_35 : decode cX0_codeOf 35 = .ok (.getfield 60, 3) := by decide +kernel
theorem dX0_codeOf_38 : decode cX0_codeOf 38 = .ok (.ixor, 1) := by decide +kernel
theorem dX0_codeOf_39 : decode cX0_codeOf 39 = .ok (.istore 6, 2) := by decide +kernel
theorem dX0_codeOf_41 : decode cX0_codeOf 41 = .ok (.bipush 38, 2) := by decide +kernel
theorem dX0_codeOf_43 : decode cX0_codeOf 43 = .ok (.istore 7, 2) := by decide +kernel
theorem dX0_codeOf_45 : decode cX0_codeOf 45 = .ok (.aload 4, 2) := by decide +kernel
theorem dX0_codeOf_47 : decode cX0_codeOf 47 = .ok (.getfield 65, 3) := by decide +kernel
theorem dX0_codeOf_50 : decode cX0_codeOf 50 = .ok (.aload 5, 2) := by decide +kernel
theorem dX0_codeOf_52 : decode cX0_codeOf 52 = .ok (.getfield 65, 3) := by decide +kernel
theorem dX0_codeOf_55 : decode cX0_codeOf 55 = .ok (.if_icmp .ne 27, 3) := by decide +kernel
theorem dX0_codeOf_58 : decode cX0_codeOf 58 = .ok (.iload 6, 2) := by decide +kernel
theorem dX0_codeOf_60 : decode cX0_codeOf 60 = .ok (.iload 7, 2) := by decide +kernel
theorem dX0_codeOf_62 : decode cX0_codeOf 62 = .ok (.iand, 1) := by decide +kernel
theorem dX0_codeOf_63 : decode cX0_codeOf 63 = .ok (.ifCond .ne 19, 3) := by decide +kernel
theorem dX0_codeOf_66 : decode cX0_codeOf 66 = .ok (.aload 4, 2) := by decide +kernel
theorem dX0_codeOf_68 : decode cX0_codeOf 68 = .ok (.getfield 68, 3) := by decide +kernel
theorem dX0_codeOf_71 : decode cX0_codeOf 71 = .ok (.aload 5, 2) := by decide +kernel
theorem dX0_codeOf_73 : decode cX0_codeOf 73 = .ok (.getfield 68, 3) := by decide +kernel
theorem dX0_codeOf_76 : decode cX0_codeOf 76 = .ok (.invokevirtual 71, 3) := by decide +kernel
theorem dX0_codeOf_79 : decode cX0_codeOf 79 = .ok (.ifCond .ne 5, 3) := by decide +kernel
theorem dX0_codeOf_82 : decode cX0_codeOf 82 = .ok (.iconst 4, 1) := by decide +kernel
theorem dX0_codeOf_83 : decode cX0_codeOf 83 = .ok (.ireturn, 1) := by decide +kernel
theorem dX0_codeOf_84 : decode cX0_codeOf 84 = .ok (.iload 6, 2) := by decide +kernel
theorem dX0_codeOf_86 : decode cX0_codeOf 86 = .ok (.ifCond .ne 52, 3) := by decide +kernel
theorem dX0_codeOf_89 : decode cX0_codeOf 89 = .ok (.aload 4, 2) := by decide +kernel
theorem dX0_codeOf_91 : decode cX0_codeOf 91 = .ok (.getfield 75, 3) := by decide +kernel
theorem dX0_codeOf_94 : decode cX0_codeOf 94 = .ok (.aload 5, 2) := by decide +kernel
theorem dX0_codeOf_96 : decode cX0_codeOf 96 = .ok (.getfield 75, 3) := by decide +kernel
theorem dX0_codeOf_99 : decode cX0_codeOf 99 = .ok (.if_icmp .ne 39, 3) := by decide +kernel
theorem dX0_codeOf_102 : decode cX0_codeOf 102 = .ok (.aload_n 0, 1) := by decide +kernel
theorem dX0_codeOf_103 : decode cX0_codeOf 103 = .ok (.aload 4, 2) := by decide +kernel
theorem dX0_codeOf_105 : decode cX0_codeOf 105 = .ok (.getfield 78, 3) := by decide +kernel
theorem dX0_codeOf_108 : decode cX0_codeOf 108 = .ok (.aload_n 2, 1) := by decide +kernel
theorem dX0_codeOf_109 : decode cX0_codeOf 109 = .ok (.aload 5, 2) := by decide +kernel
theorem dX0_codeOf_111 : decode cX0_codeOf 111 = .ok (.getfield 78, 3) := by decide +kernel
theorem dX0_codeOf_114 : decode cX0_codeOf 114 = .ok (.invokestatic 81, 3) := by decide +kernel
theorem dX0_codeOf_117 : decode cX0_codeOf 117 = .ok (.ifCond .eq 21, 3) := by decide +kernel
theorem dX0_codeOf_120 : decode cX0_codeOf 120 = .ok (.aload_n 0, 1) := by decide +kernel
theorem dX0_codeOf_121 : decode cX0_codeOf 121 = .ok (.aload 4, 2) := by decide +kernel
theorem dX0_codeOf_123 : decode cX0_codeOf 123 = .ok (.getfield 85, 3) := by decide +kernel
theorem dX0_codeOf_126 : decode cX0_codeOf 126 = .ok (.aload_n 2, 1) := by decide +kernel
theorem dX0_codeOf_127 : decode cX0_codeOf 127 = .ok (.aload 5, 2) := by decide +kernel
theorem dX0_codeOf_129 : decode cX0_codeOf 129 = .ok (.getfield 85, 3) := by decide +kernel
theorem dX0_codeOf_132 : decode cX0_codeOf 132 = .ok (.invokestatic 81, 3) := by decide +kernel
theorem dX0_codeOf_135 : decode cX0_codeOf 135 = .ok (.ifCond .ne 7, 3) := by decide +kernel
theorem dX0_codeOf_138 : decode cX0_codeOf 138 = .ok (.iconst 1, 1) := by decide +kernel
theorem dX0_codeOf_139 : decode cX0_codeOf 139 = .ok (.goto 4, 3) := by decide +kernel
theorem dX0_codeOf_142 : decode cX0_codeOf 142 = .ok (.iconst 0, 1) := by decide +kernel
theorem dX0_codeOf_143 : decode cX0_codeOf 143 = .ok (.istore 8, 2) := by decide +kernel
theorem dX0_codeOf_145 : decode cX0_codeOf 145 = .ok (.iload 8, 2) := by decide +kernel
theorem dX0_codeOf_147 : decode cX0_codeOf 147 = .ok (.ifCond .eq 7, 3) := by decide +kernel
theorem dX0_codeOf_150 : decode cX0_codeOf 150 = .ok (.iconst 3, 1) := by decide +kernel
theorem dX0_codeOf_151 : decode cX0_codeOf 151 = .ok (.goto 4, 3) := by decide +kernel
theorem dX0_codeOf_154 : decode cX0_codeOf 154 = .ok (.iconst 0, 1) := by decide +kernel
theorem dX0_codeOf_155 : decode cX0_codeOf 155 = .ok (.ireturn, 1) := by decide +kernel
theorem dX0_isSamePath_0 : decode cX0_isSamePath 0 = .ok (.iload_n 1, 1) := by decide +kernel
theorem dX0_isSamePath_1 : decode cX0_isSamePath 1 = .ok (.ifCond .lt 7, 3) := by decide +kernel
theorem dX0_isSamePath_4 : decode cX0_isSamePath 4 = .ok (.iload_n 3, 1) := by decide +kernel
theorem dX0_isSamePath_5 : decode cX0_isSamePath 5 = .ok (.ifCond .ge 14, 3) := by decide +kernel
theorem dX0_isSamePath_8 : decode cX0_isSamePath 8 = .ok (.iload_n 1, 1) := by decide +kernel
theorem dX0_isSamePath_9 : decode cX0_isSamePath 9 = .ok (.iload_n 3, 1) := by decide +kernel
theorem dX0_isSamePath_10 : decode cX0_isSamePath 10 = .ok (.if_icmp .ne 7, 3) := by decide +kernel
theorem dX0_isSamePath_13 : decode cX0_isSamePath 13 = .ok (.iconst 1, 1) := by decide +kernel
theorem dX0_isSamePath_14 : decode cX0_isSamePath 14 = .ok (.goto 4, 3) := by decide +kernel
theorem dX0_isSamePath_17 : decode cX0_isSamePath 17 = .ok (.iconst 0, 1) := by decide +kernel
theorem dX0_isSamePath_18 : decode cX0_isSamePath 18 = .ok (.ireturn, 1) := by decide +kernel
theorem dX0_isSamePath_19 : decode cX0_isSamePath 19 = .ok (.aload_n 0, 1) := by decide +kernel
theorem dX0_isSamePath_20 : decode cX0_isSamePath 20 = .ok (.getfield 44, 3) := by decide +kernel
theorem dX0_isSamePath_23 : decode cX0_isSamePath 23 = .ok (.iload_n 1, 1) := by decide +kernel
theorem dX0_isSamePath_24 : decode cX0_isSamePath 24 = .ok (.aaload, 1) := by decide +kernel
theorem dX0_isSamePath_25 : decode cX0_isSamePath 25 = .ok (.getfield 48, 3) := by decide +kernel
theorem dX0_isSamePath_28 : decode cX0_isSamePath 28 = .ok (.aload_n 2, 1) := by decide +kernel
theorem dX0_isSamePath_29 : decode cX0_isSamePath 29 = .ok (.getfield 44, 3) := by decide +kernel
theorem dX0_isSamePath_32 : decode cX0_isSamePath 32 = .ok (.iload_n 3, 1) := by decide +kernel
theorem dX0_isSamePath_33 : decode cX0_isSamePath 33 = .ok (.aaload, 1) := by decide +kernel
theorem dX0_isSamePath_34 : decode cX0_isSamePath 34 = .ok (.getfield 48, 3) := by decide +kernel
theorem dX0_isSamePath_37 : decode cX0_isSamePath 37 = .ok (.invokevirtual 71, 3) := by decide +kernel
theorem dX0_isSamePath_40 : decode cX0_isSamePath 40 = .ok (.ireturn, 1) := by decide +kernel
theorem dX1_init_0 : decode cX1_init 0 = .ok (.aload_n 0, 1) := by decide +kernel
theorem dX1_init_1 : decode cX1_init 1 = .ok (.invokespecial 3, 3) := by decide +kernel
theorem dX1_init_4 : decode cX1_init 4 = .ok (.aload_n 0, 1) := by decide +kernel
theorem dX1_init_5 : decode cX1_init 5 = .ok (.new 9, 3) := by decide +kernel
theorem dX1_init_8 : decode cX1_init 8 = .ok (.dup, 1) := by decide +kernel
theorem dX1_init_9 : decode cX1_init 9 = .ok (.bipush 64, 2) := by decide +kernel
theorem dX1_init_11 : decode cX1_init 11 = .ok (.invokespecial 11, 3) := by decide +kernel
theorem dX1_init_14 : decode cX1_init 14 = .ok (.putfield 14, 3) := by decide +kernel
theorem dX1_init_17 : decode cX1_init 17 = .ok (.aload_n 0, 1) := by decide +kernel
theorem dX1_init_18 : decode cX1_init 18 = .ok (.new 9, 3) := by decide +kernel
theorem dX1_init_21 : decode cX1_init 21 = .ok (.dup, 1) := by decide +kernel
theorem dX1_init_22 : decode cX1_init 22 = .ok (.bipush 12, 2) := by decide +kernel
theorem dX1_init_24 : decode cX1_init 24 = .ok (.invokespecial 11, 3) := by decide +kernel
theorem dX1_init_27 : decode cX1_init 27 = .ok (.putfield 20, 3) := by decide +kernel
theorem dX1_init_30 : decode cX1_init 30 = .ok (.aload_n 0, 1) := by decide +kernel
theorem dX1_init_31 : decode cX1_init 31 = .ok (.iconst 0, 1) := by decide +kernel
theorem dX1_init_32 : decode cX1_init 32 = .ok (.putfield 23, 3) := by decide +kernel
theorem dX1_init_35 : decode cX1_init 35 = .ok (.aload_n 0, 1) := by decide +kernel
theorem dX1_init_36 : decode cX1_init 36 = .ok (.iconst 0, 1) := by decide +kernel
theorem dX1_init_37 : decode cX1_init 37 = .ok (.putfield 27, 3) := by decide +kernel
theorem dX1_init_40 : decode cX1_init 40 = .ok (.aload_n 0, 1) := by decide +kernel
theorem dX1_init_41 : decode cX1_init 41 = .ok (.bipush (-2), 2) := by decide +kernel
theorem dX1_init_43 : decode cX1_init 43 = .ok (.putfield 30, 3) := by decide +kernel
theorem dX1_init_46 : decode cX1_init 46 = .ok (.aload_n 0, 1) := by decide +kernel
theorem dX1_init_47 : decode cX1_init 47 = .ok (.bipush (-2), 2) := by decide +kernel
theorem dX1_init_49 : decode cX1_init 49 = .ok (.putfield 33, 3) := by decide +kernel
theorem dX1_init_52 : decode cX1_init 52 = .ok (.aload_n 0, 1) := by decide +kernel
theorem dX1_init_53 : decode cX1_init 53 = .ok (.bipush (-2), 2) := by decide +kernel
theorem dX1_init_55 : decode cX1_init 55 = .ok (.putfield 36, 3) := by decide +kernel
theorem dX1_init_58 : decode cX1_init 58 = .ok (.aload_n 0, 1) := by decide +kernel
theorem dX1_init_59 : decode cX1_init 59 = .ok (.bipush (-2), 2) := by decide +kernel
theorem dX1_init_61 : decode cX1_init 61 = .ok (.putfield 39, 3) := by decide +kernel
theorem dX1_init_64 : decode cX1_init 64 = .ok (.aload_n 0, 1) := by decide +kernel
theorem dX1_init_65 : decode cX1_init 65 = .ok (.iconst 0, 1) := by decide +kernel
theorem dX1_init_66 : decode cX1_init 66 = .ok (.putfield 42, 3) := by decide +kernel
theorem dX1_init_69 : decode cX1_init 69 = .ok (.return_, 1) := by decide +kernel
theorem dX1_begin_0 : decode cX1_begin 0 = .ok (.aload_n 0, 1) := by decide +kernel
theorem dX1_begin_1 : decode cX1_begin 1 = .ok (.getfield 14, 3) := by decide +kernel
theorem dX1_begin_4 : decode cX1_begin 4 = .ok (.invokevirtual 45, 3) := by decide +kernel
theorem dX1_begin_7 : decode cX1_begin 7 = .ok (.aload_n 0, 1) := by decide +kernel
theorem dX1_begin_8 : decode cX1_begin 8 = .ok (.getfield 20, 3) := by decide +kernel
theorem dX1_begin_11 : decode cX1_begin 11 = .ok (.invokevirtual 45, 3) := by decide +kernel
theorem dX1_begin_14 : decode cX1_begin 14 = .ok (.aload_n 0, 1) := by decide +kernel
theorem dX1_begin_15 : decode cX1_begin 15 = .ok (.iconst 0, 1) := by decide +kernel
theorem dX1_begin_16 : decode cX1_begin 16 = .ok (.putfield 23, 3) := by decide +kernel
theorem dX1_begin_19 : decode cX1_begin 19 = .ok (.aload_n 0, 1) := by decide +kernel
theorem dX1_begin_20 : decode cX1_begin 20 = .ok (.iconst 0, 1) := by decide +kernel
theorem dX1_begin_21 : decode cX1_begin 21 = .ok (.putfield 27, 3) := by decide +kernel
theorem dX1_begin_24 : decode cX1_begin 24 = .ok (.aload_n 0, 1) := by decide +kernel
theorem dX1_begin_25 : decode cX1_begin 25 = .ok (.bipush (-2), 2) := by decide +kernel
theorem dX1_begin_27 : decode cX1_begin 27 = .ok (.putfield 30, 3) := by decide +kernel
theorem dX1_begin_30 : decode cX1_begin 30 = .ok (.aload_n 0, 1) := by decide +kernel
theorem dX1_begin_31 : decode cX1_begin 31 = .ok (.bipush (-2), 2) := by decide +kernel
theorem dX1_begin_33 : decode cX1_begin 33 = .ok (.putfield 33, 3) := by decide +kernel
theorem dX1_begin_36 : decode cX1_begin 36 = .ok (.aload_n 0, 1) := by decide +kernel
theorem dX1_begin_37 : decode cX1_begin 37 = .ok (.bipush (-2), 2) := by decide +kernel
theorem dX1_begin_39 : decode cX1_begin 39 = .ok (.putfield 36, 3) := by decide +kernel
theorem dX1_begin_42 : decode cX1_begin 42 = .ok (.aload_n 0, 1) := by decide +kernel
theorem dX1_begin_43 : decode cX1_begin 43 = .ok (.bipush (-2), 2) := by decide +kernel
theorem dX1_begin_45 : decode cX1_begin 45 = .ok (.putfield 39, 3) := by decide +kernel
theorem dX1_begin_48 : decode cX1_begin 48 = .ok (.aload_n 0, 1) := by decide +kernel
theorem dX1_begin_49 : decode cX1_begin 49 = .ok (.iconst 0, 1) := by decide +kernel
theorem dX1_begin_50 : decode cX1_begin 50 = .ok (.putfield 42, 3) := by decide +kernel
theorem dX1_begin_53 : decode cX1_begin 53 = .ok (.return_, 1) := by decide +kernel
theorem dX1_has_0 : decode cX1_has 0 = .ok (.aload_n 0, 1) := by decide +kernel
theorem dX1_has_1 : decode cX1_has 1 = .ok (.getfield 27, 3) := by decide +kernel
theorem dX1_has_4 : decode cX1_has 4 = .ok (.iload_n 1, 1) := by decide +kernel
theorem dX1_has_5 : decode cX1_has 5 = .ok (.ishr, 1) := by decide +kernel
theorem dX1_has_6 : decode cX1_has 6 = .ok (.iconst 1, 1) := by decide +kernel
theorem dX1_has_7 : decode cX1_has 7 = .ok (.iand, 1) := by decide +kernel
theorem dX1_has_8 : decode cX1_has 8 = .ok (.ifCond .eq 7, 3) := by decide +kernel
theorem dX1_has_11 : decode cX1_has 11 = .ok (.iconst 1, 1) := by decide +kernel
theorem dX1_has_12 : decode cX1_has 12 = .ok (.goto 4, 3) := by decide +kernel
theorem dX1_has_15 : decode cX1_has 15 = .ok (.iconst 0, 1) := by decide +kernel
theorem dX1_has_16 : decode cX1_has 16 = .ok (.ireturn, 1) := by decide +kernel
theorem dX1_copyFrom_0 : decode cX1_copyFrom 0 = .ok (.aload_n 0, 1) := by decide +kernel
theorem dX1_copyFrom_1 : decode cX1_copyFrom 1 = .ok (.getfield 14, 3) := by decide +kernel
theorem dX1_copyFrom_4 : decode cX1_copyFrom 4 = .ok (.aload_n 1, 1) := by decide +kernel
theorem dX1_copyFrom_5 : decode cX1_copyFrom 5 = .ok (.getfield 14, 3) := by decide +kernel
theorem dX1_copyFrom_8 : decode cX1_copyFrom 8 = .ok (.invokevirtual 48, 3) := by decide +kernel
theorem dX1_copyFrom_11 : decode cX1_copyFrom 11 = .ok (.aload_n 0, 1) := by decide +kernel
theorem dX1_copyFrom_12 : decode cX1_copyFrom 12 = .ok (.getfield 20, 3) := by decide +kernel
theorem dX1_copyFrom_15 : decode cX1_copyFrom 15 = .ok (.aload_n 1, 1) := by decide +kernel
theorem dX1_copyFrom_16 : decode cX1_copyFrom 16 = .ok (.getfield 20, 3) := by decide +kernel
theorem dX1_copyFrom_19 : decode cX1_copyFrom 19 = .ok (.invokevirtual 48, 3) := by decide +kernel
theorem dX1_copyFrom_22 : decode cX1_copyFrom 22 = .ok (.aload_n 0, 1) := by decide +kernel
theorem dX1_copyFrom_23 : decode cX1_copyFrom 23 = .ok (.aload_n 1, 1) := by decide +kernel
theorem dX1_copyFrom_24 : decode cX1_copyFrom 24 = .ok (.getfield 23, 3) := by decide +kernel
theorem dX1_copyFrom_27 : decode cX1_copyFrom 27 = .ok (.putfield 23, 3) := by decide +kernel
theorem dX1_copyFrom_30 : decode cX1_copyFrom 30 = .ok (.aload_n 0, 1) := by decide +kernel
theorem dX1_copyFrom_31 : decode cX1_copyFrom 31 = .ok (.aload_n 1, 1) := by decide +kernel
theorem dX1_copyFrom_32 : decode cX1_copyFrom 32 = .ok (.getfield 27, 3) := by decide +kernel
theorem dX1_copyFrom_35 : decode cX1_copyFrom 35 = .ok (.putfield 27, 3) := by decide +kernel
theorem dX1_copyFrom_38 : decode cX1_copyFrom 38 = .ok (.aload_n 0, 1) := by decide +kernel
theorem dX1_copyFrom_39 : decode cX1_copyFrom 39 = .ok (.aload_n 1, 1) := by decide +kernel
theorem dX1_copyFrom_40 : decode cX1_copyFrom 40 = .ok (.getfield 30, 3) := by decide +kernel
theorem dX1_copyFrom_43 : decode cX1_copyFrom 43 = .ok (.putfield 30, 3) := by decide +kernel
theorem dX1_copyFrom_46 : decode cX1_copyFrom 46 = .ok (.aload_n 0, 1) := by decide +kernel
theorem dX1_copyFrom_47 : decode cX1_copyFrom 47 = .ok (.aload_n 1, 1) := by decide +kernel
theorem dX1_copyFrom_48 : decode cX1_copyFrom 48 = .ok (.getfield 33, 3) := by decide +kernel
theorem dX1_copyFrom_51 : decode cX1_copyFrom 51 = .ok (.iload_n 2, 1) := by decide +kernel
theorem dX1_copyFrom_52 : decode cX1_copyFrom 52 = .ok (.invokestatic 52, 3) := by decide +kernel
theorem dX1_copyFrom_55 : decode cX1_copyFrom 55 = .ok (.putfield 33, 3) := by decide +kernel
theorem dX1_copyFrom_58 : decode cX1_copyFrom 58 = .ok (.aload_n 0, 1) := by decide +kernel
theorem dX1_copyFrom_59 : decode cX1_copyFrom 59 = .ok (.aload_n 1, 1) := by decide +kernel
theorem dX1_copyFrom_60 : decode cX1_copyFrom 60 = .ok (.getfield 36, 3) := by decide +kernel
theorem dX1_copyFrom_63 : decode cX1_copyFrom 63 = .ok (.iload_n 2, 1) := by decide +kernel
theorem dX1_copyFrom_64 : decode cX1_copyFrom 64 = .ok (.invokestatic 52, 3) := by decide +kernel
theorem dX1_copyFrom_67 : decode cX1_copyFrom 67 = .ok (.putfield 36, 3) := by decide +kernel
theorem dX1_copyFrom_70 : decode cX1_copyFrom 70 = .ok (.aload_n 0, 1) := by decide +kernel
theorem dX1_copyFrom_71 : decode cX1_copyFrom 71 = .ok (.aload_n 1, 1) := by decide +kernel
theorem dX1_copyFrom_72 : decode cX1_copyFrom 72 = .ok (.getfield 39, 3) := by decide +kernel
theorem dX1_copyFrom_75 : decode cX1_copyFrom 75 = .ok (.iload_n 2, 1) := by decide +kernel
theorem dX1_copyFrom_76 : decode cX1_copyFrom 76 = .ok (.invokestatic 52, 3) := by decide +kernel
theorem dX1_copyFrom_79 : decode cX1_copyFrom 79 = .ok (.putfield 39, 3) := by decide +kernel
theorem dX1_copyFrom_82 : decode cX1_copyFrom 82 = .ok (.aload_n 0, 1) := by decide +kernel
theorem dX1_copyFrom_83 : decode cX1_copyFrom 83 = .ok (.aload_n 1, 1) := by decide +kernel
theorem dX1_copyFrom_84 : decode cX1_copyFrom 84 = .ok (.getfield 42, 3) := by decide +kernel
theorem dX1_copyFrom_87 : decode cX1_copyFrom 87 = .ok (.putfield 42, 3) := by decide +kernel
theorem dX1_copyFrom_90 : decode cX1_copyFrom 90 = .ok (.return_, 1) := by decide +kernel
theorem dX1_moved_0 : decode cX1_moved 0 = .ok (.iload_n 0, 1) := by decide +kernel
theorem dX1_moved_1 : decode cX1_moved 1 = .ok (.iload_n 1, 1) := by decide +kernel
theorem dX1_moved_2 : decode cX1_moved 2 = .ok (.if_icmp .lt 9, 3) := by decide +kernel
theorem dX1_moved_5 : decode cX1_moved 5 = .ok (.iload_n 0, 1) := by decide +kernel
theorem dX1_moved_6 : decode cX1_moved 6 = .ok (.iconst 1, 1) := by decide +kernel
theorem dX1_moved_7 : decode cX1_moved 7 = .ok (.iadd, 1) := by decide +kernel
theorem dX1_moved_8 : decode cX1_moved 8 = .ok (.goto 4, 3) := by decide +kernel
theorem dX1_moved_11 : decode cX1_moved 11 = .ok (.iload_n 0, 1) := by decide +kernel
theorem dX1_moved_12 : decode cX1_moved 12 = .ok (.ireturn, 1) := by decide +kernel
theorem dX2_kindWord_0 : decode cX2_kindWord 0 = .ok (.iload_n 0, 1) := by decide +kernel
theorem dX2_kindWord_1 : decode cX2_kindWord 1 = .ok (.tableswitch 64 0 6 #[43, 46, 49, 52, 55, 58, 61], 43) := by decide +kernel
theorem dX2_kindWord_44 : decode cX2_kindWord 44 = .ok (.ldc 7, 2) := by decide +kernel
theorem dX2_kindWord_46 : decode cX2_kindWord 46 = .ok (.areturn, 1) := by decide +kernel
theorem dX2_kindWord_47 : decode cX2_kindWord 47 = .ok (.ldc 9, 2) := by decide +kernel
theorem dX2_kindWord_49 : decode cX2_kindWord 49 = .ok (.areturn, 1) := by decide +kernel
theorem dX2_kindWord_50 : decode cX2_kindWord 50 = .ok (.ldc 11, 2) := by decide +kernel
theorem dX2_kindWord_52 : decode cX2_kindWord 52 = .ok (.areturn, 1) := by decide +kernel
theorem dX2_kindWord_53 : decode cX2_kindWord 53 = .ok (.ldc 13, 2) := by decide +kernel
theorem dX2_kindWord_55 : decode cX2_kindWord 55 = .ok (.areturn, 1) := by decide +kernel
theorem dX2_kindWord_56 : decode cX2_kindWord 56 = .ok (.ldc 15, 2) := by decide +kernel
theorem dX2_kindWord_58 : decode cX2_kindWord 58 = .ok (.areturn, 1) := by decide +kernel
theorem dX2_kindWord_59 : decode cX2_kindWord 59 = .ok (.ldc 17, 2) := by decide +kernel
theorem dX2_kindWord_61 : decode cX2_kindWord 61 = .ok (.areturn, 1) := by decide +kernel
theorem dX2_kindWord_62 : decode cX2_kindWord 62 = .ok (.ldc 19, 2) := by decide +kernel
theorem dX2_kindWord_64 : decode cX2_kindWord 64 = .ok (.areturn, 1) := by decide +kernel
theorem dX2_kindWord_65 : decode cX2_kindWord 65 = .ok (.ldc 21, 2) := by decide +kernel
theorem dX2_kindWord_67 : decode cX2_kindWord 67 = .ok (.areturn, 1) := by decide +kernel
theorem dX2_optionWord_0 : decode cX2_optionWord 0 = .ok (.iload_n 0, 1) := by decide +kernel
theorem dX2_optionWord_1 : decode cX2_optionWord 1 = .ok (.tableswitch 57 0 5 #[39, 42, 45, 48, 51, 54], 39) := by decide +kernel
theorem dX2_optionWord_40 : decode cX2_optionWord 40 = .ok (.ldc 23, 2) := by decide +kernel
theorem dX2_optionWord_42 : decode cX2_optionWord 42 = .ok (.areturn, 1) := by decide +kernel
theorem dX2_optionWord_43 : decode cX2_optionWord 43 = .ok (.ldc 25, 2) := by decide +kernel
theorem dX2_optionWord_45 : decode cX2_optionWord 45 = .ok (.areturn, 1) := by decide +kernel
theorem dX2_optionWord_46 : decode cX2_optionWord 46 = .ok (.ldc 27, 2) := by decide +kernel
theorem dX2_optionWord_48 : decode cX2_optionWord 48 = .ok (.areturn, 1) := by decide +kernel
theorem dX2_optionWord_49 : decode cX2_optionWord 49 = .ok (.ldc 29, 2) := by decide +kernel
theorem dX2_optionWord_51 : decode cX2_optionWord 51 = .ok (.areturn, 1) := by decide +kernel
theorem dX2_optionWord_52 : decode cX2_optionWord 52 = .ok (.ldc 31, 2) := by decide +kernel
theorem dX2_optionWord_54 : decode cX2_optionWord 54 = .ok (.areturn, 1) := by decide +kernel
theorem dX2_optionWord_55 : decode cX2_optionWord 55 = .ok (.ldc 33, 2) := by decide +kernel
theorem dX2_optionWord_57 : decode cX2_optionWord 57 = .ok (.areturn, 1) := by decide +kernel
theorem dX2_optionWord_58 : decode cX2_optionWord 58 = .ok (.ldc 35, 2) := by decide +kernel
theorem dX2_optionWord_60 : decode cX2_optionWord 60 = .ok (.areturn, 1) := by decide +kernel
theorem dX2_isLeaf_0 : decode cX2_isLeaf 0 = .ok (.iload_n 0, 1) := by decide +kernel
theorem dX2_isLeaf_1 : decode cX2_isLeaf 1 = .ok (.ifCond .lt 12, 3) := by decide +kernel
theorem dX2_isLeaf_4 : decode cX2_isLeaf 4 = .ok (.iload_n 0, 1) := by decide +kernel
theorem dX2_isLeaf_5 : decode cX2_isLeaf 5 = .ok (.iconst 4, 1) := by decide +kernel
theorem dX2_isLeaf_6 : decode cX2_isLeaf 6 = .ok (.if_icmp .gt 7, 3) := by decide +kernel
theorem dX2_isLeaf_9 : decode cX2_isLeaf 9 = .ok (.iconst 1, 1) := by decide +kernel
theorem dX2_isLeaf_10 : decode cX2_isLeaf 10 = .ok (.goto 4, 3) := by decide +kernel
theorem dX2_isLeaf_13 : decode cX2_isLeaf 13 = .ok (.iconst 0, 1) := by decide +kernel
theorem dX2_isLeaf_14 : decode cX2_isLeaf 14 = .ok (.ireturn, 1) := by decide +kernel
theorem dX2_isHolder_0 : decode cX2_isHolder 0 = .ok (.iload_n 0, 1) := by decide +kernel
theorem dX2_isHolder_1 : decode cX2_isHolder 1 = .ok (.iconst 5, 1) := by decide +kernel
theorem dX2_isHolder_2 : decode cX2_isHolder 2 = .ok (.if_icmp .eq 9, 3) := by decide +kernel
theorem dX2_isHolder_5 : decode cX2_isHolder 5 = .ok (.iload_n 0, 1) := by decide +kernel
theorem dX2_isHolder_6 : decode cX2_isHolder 6 = .ok (.bipush 6, 2) := by decide +kernel
theorem dX2_isHolder_8 : decode cX2_isHolder 8 = .ok (.if_icmp .ne 7, 3) := by decide +kernel
theorem dX2_isHolder_11 : decode cX2_isHolder 11 = .ok (.iconst 1, 1) := by decide +kernel
theorem dX2_isHolder_12 : decode cX2_isHolder 12 = .ok (.goto 4, 3) := by decide +kernel
theorem dX2_isHolder_15 : decode cX2_isHolder 15 = .ok (.iconst 0, 1) := by decide +kernel
theorem dX2_isHolder_16 : decode cX2_isHolder 16 = .ok (.ireturn, 1) := by decide +kernel
theorem dX2_mayHave_0 : decode cX2_mayHave 0 = .ok (.iload_n 1, 1) := by decide +kernel
theorem dX2_mayHave_1 : decode cX2_mayHave 1 = .ok (.tableswitch 74 2 6 #[35, 46, 74, 35, 62], 35) := by decide +kernel
theorem dX2_mayHave_36 : decode cX2_mayHave 36 = .ok (.iload_n 0, 1) := by decide +kernel
theorem dX2_mayHave_37 : decode cX2_mayHave 37 = .ok (.iconst 1, 1) := by decide +kernel
theorem dX2_mayHave_38 : decode cX2_mayHave 38 = .ok (.if_icmp .ne 7, 3) := by decide +kernel
theorem dX2_mayHave_41 : decode cX2_mayHave 41 = .ok (.iconst 1, 1) := by decide +kernel
theorem dX2_mayHave_42 : decode cX2_mayHave 42 = .ok (.goto 4, 3) := by decide +kernel
theorem dX2_mayHave_45 : decode cX2_mayHave 45 = .ok (.iconst 0, 1) := by decide +kernel
theorem dX2_mayHave_46 : decode cX2_mayHave 46 = .ok (.ireturn, 1) := by decide +kernel
theorem dX2_mayHave_47 : decode cX2_mayHave 47 = .ok (.iload_n 0, 1) := by decide +kernel
theorem dX2_mayHave_48 : decode cX2_mayHave 48 = .ok (.iconst 2, 1) := by decide +kernel
theorem dX2_mayHave_49 : decode cX2_mayHave 49 = .ok (.if_icmp .lt 12, 3) := by decide +kernel
theorem dX2_mayHave_52 : decode cX2_mayHave 52 = .ok (.iload_n 0, 1) := by decide +kernel
theorem dX2_mayHave_53 : decode cX2_mayHave 53 = .ok (.iconst 4, 1) := by decide +kernel
theorem dX2_mayHave_54 : decode cX2_mayHave 54 = .ok (.if_icmp .gt 7, 3) := by decide +kernel
theorem dX2_mayHave_57 : decode cX2_mayHave 57 = .ok (.iconst 1, 1) := by decide +kernel
theorem dX2_mayHave_58 : decode cX2_mayHave 58 = .ok (.goto 4, 3) := by decide +kernel
theorem dX2_mayHave_61 : decode cX2_mayHave 61 = .ok (.iconst 0, 1) := by decide +kernel
theorem dX2_mayHave_62 : decode cX2_mayHave 62 = .ok (.ireturn, 1) := by decide +kernel
theorem dX2_mayHave_63 : decode cX2_mayHave 63 = .ok (.iload_n 0, 1) := by decide +kernel
theorem dX2_mayHave_64 : decode cX2_mayHave 64 = .ok (.bipush 7, 2) := by decide +kernel
theorem dX2_mayHave_66 : decode cX2_mayHave 66 = .ok (.if_icmp .ne 7, 3) := by decide +kernel
theorem dX2_mayHave_69 : decode cX2_mayHave 69 = .ok (.iconst 1, 1) := by decide +kernel
theorem dX2_mayHave_70 : decode cX2_mayHave 70 = .ok (.goto 4, 3) := by decide +kernel
theorem dX2_mayHave_73 : decode cX2_mayHave 73 = .ok (.iconst 0, 1) := by decide +kernel
theorem dX2_mayHave_74 : decode cX2_mayHave 74 = .ok (.ireturn, 1) := by decide +kernel
theorem dX2_mayHave_75 : decode cX2_mayHave 75 = .ok (.iload_n 0, 1) := by decide +kernel
theorem dX2_mayHave_76 : decode cX2_mayHave 76 = .ok (.invokestatic 39, 3) := by decide +kernel
theorem dX2_mayHave_79 : decode cX2_mayHave 79 = .ok (.ireturn, 1) := by decide +kernel
theorem dX2_mayBeMeant_0 : decode cX2_mayBeMeant 0 = .ok (.iload_n 1, 1) := by decide +kernel
theorem dX2_mayBeMeant_1 : decode cX2_mayBeMeant 1 = .ok (.iconst 4, 1) := by decide +kernel
theorem dX2_mayBeMeant_2 : decode cX2_mayBeMeant 2 = .ok (.if_icmp .ne 20, 3) := by decide +kernel
theorem dX2_mayBeMeant_5 : decode cX2_mayBeMeant 5 = .ok (.iload_n 0, 1) := by decide +kernel
theorem dX2_mayBeMeant_6 : decode cX2_mayBeMeant 6 = .ok (.ifCond .eq 8, 3) := by decide +kernel
theorem dX2_mayBeMeant_9 : decode cX2_mayBeMeant 9 = .ok (.iload_n 0, 1) := by decide +kernel
theorem dX2_mayBeMeant_10 : decode cX2_mayBeMeant 10 = .ok (.iconst 1, 1) := by decide +kernel
theorem dX2_mayBeMeant_11 : decode cX2_mayBeMeant 11 = .ok (.if_icmp .ne 7, 3) := by decide +kernel
theorem dX2_mayBeMeant_14 : decode cX2_mayBeMeant 14 = .ok (.iconst 1, 1) := by decide +kernel
theorem dX2_mayBeMeant_15 : decode cX2_mayBeMeant 15 = .ok (.goto 11, 3) := by decide +kernel
theorem dX2_mayBeMeant_18 : decode cX2_mayBeMeant 18 = .ok (.iconst 0, 1) := by decide +kernel
theorem dX2_mayBeMeant_19 : decode cX2_mayBeMeant 19 = .ok (.goto 7, 3) := by decide +kernel
theorem dX2_mayBeMeant_22 : decode cX2_mayBeMeant 22 = .ok (.iload_n 0, 1) := by decide +kernel
theorem dX2_mayBeMeant_23 : decode cX2_mayBeMeant 23 = .ok (.invokestatic 39, 3) := by decide +kernel
theorem dX2_mayBeMeant_26 : decode cX2_mayBeMeant 26 = .ok (.ireturn, 1) := by decide +kernel
theorem dX2_fits_0 : decode cX2_fits 0 = .ok (.iload_n 0, 1) := by decide +kernel
theorem dX2_fits_1 : decode cX2_fits 1 = .ok (.tableswitch 101 0 6 #[43, 58, 68, 68, 79, 90, 90], 43) := by decide +kernel
theorem dX2_fits_44 : decode cX2_fits 44 = .ok (.iload_n 1, 1) := by decide +kernel
theorem dX2_fits_45 : decode cX2_fits 45 = .ok (.ifCond .lt 12, 3) := by decide +kernel
theorem dX2_fits_48 : decode cX2_fits 48 = .ok (.iload_n 1, 1) := by decide +kernel
theorem dX2_fits_49 : decode cX2_fits 49 = .ok (.iconst 2, 1) := by decide +kernel
theorem dX2_fits_50 : decode cX2_fits 50 = .ok (.if_icmp .gt 7, 3) := by decide +kernel
theorem dX2_fits_53 : decode cX2_fits 53 = .ok (.iconst 1, 1) := by decide +kernel
theorem dX2_fits_54 : decode cX2_fits 54 = .ok (.goto 4, 3) := by decide +kernel
theorem dX2_fits_57 : decode cX2_fits 57 = .ok (.iconst 0, 1) := by decide +kernel
theorem dX2_fits_58 : decode cX2_fits 58 = .ok (.ireturn, 1) := by decide +kernel
theorem dX2_fits_59 : decode cX2_fits 59 = .ok (.iload_n 1, 1) := by decide +kernel
theorem dX2_fits_60 : decode cX2_fits 60 = .ok (.ifCond .ne 7, 3) := by decide +kernel
theorem dX2_fits_63 : decode cX2_fits 63 = .ok (.iconst 1, 1) := by decide +kernel
theorem dX2_fits_64 : decode cX2_fits 64 = .ok (.goto 4, 3) := by decide +kernel
theorem dX2_fits_67 : decode cX2_fits 67 = .ok (.iconst 0, 1) := by decide +kernel
theorem dX2_fits_68 : decode cX2_fits 68 = .ok (.ireturn, 1) := by decide +kernel
theorem dX2_fits_69 : decode cX2_fits 69 = .ok (.iload_n 1, 1) := by decide +kernel
theorem dX2_fits_70 : decode cX2_fits 70 = .ok (.iconst 1, 1) := by decide +kernel
theorem dX2_fits_71 : decode cX2_fits 71 = .ok (.if_icmp .ne 7, 3) := by decide +kernel
theorem dX2_fits_74 : decode cX2_fits 74 = .ok (.iconst 1, 1) := by decide +kernel
theorem dX2_fits_75 : decode cX2_fits 75 = .ok (.goto 4, 3) := by decide +kernel
theorem dX2_fits_78 : decode cX2_fits 78 = .ok (.iconst 0, 1) := by decide +kernel
theorem dX2_fits_79 : decode cX2_fits 79 = .ok (.ireturn, 1) := by decide +kernel
theorem dX2_fits_80 : decode cX2_fits 80 = .ok (.iload_n 1, 1) := by decide +kernel
theorem dX2_fits_81 : decode cX2_fits 81 = .ok (.iconst 2, 1) := by decide +kernel
theorem dX2_fits_82 : decode cX2_fits 82 = .ok (.if_icmp .ne 7, 3) := by decide +kernel
theorem dX2_fits_85 : decode cX2_fits 85 = .ok (.iconst 1, 1) := by decide +kernel
theorem dX2_fits_86 : decode cX2_fits 86 = .ok (.goto 4, 3) := by decide +kernel
theorem dX2_fits_89 : decode cX2_fits 89 = .ok (.iconst 0, 1) := by decide +kernel
theorem dX2_fits_90 : decode cX2_fits 90 = .ok (.ireturn, 1) := by decide +kernel
theorem dX2_fits_91 : decode cX2_fits 91 = .ok (.iload_n 1, 1) := by decide +kernel
theorem dX2_fits_92 : decode cX2_fits 92 = .ok (.iconst 3, 1) := by decide +kernel
theorem dX2_fits_93 : decode cX2_fits 93 = .ok (.if_icmp .ne 7, 3) := by decide +kernel
theorem dX2_fits_96 : decode cX2_fits 96 = .ok (.iconst 1, 1) := by decide +kernel
theorem dX2_fits_97 : decode cX2_fits 97 = .ok (.goto 4, 3) := by decide +kernel
theorem dX2_fits_100 : decode cX2_fits 100 = .ok (.iconst 0, 1) := by decide +kernel
theorem dX2_fits_101 : decode cX2_fits 101 = .ok (.ireturn, 1) := by decide +kernel
theorem dX2_fits_102 : decode cX2_fits 102 = .ok (.iconst 0, 1) := by decide +kernel
theorem dX2_fits_103 : decode cX2_fits 103 = .ok (.ireturn, 1) := by decide +kernel
theorem dX3_init_0 : decode cX3_init 0 = .ok (.aload_n 0, 1) := by decide +kernel
theorem dX3_init_1 : decode cX3_init 1 = .ok (.invokespecial 3, 3) := by decide +kernel
theorem dX3_init_4 : decode cX3_init 4 = .ok (.aload_n 0, 1) := by decide +kernel
theorem dX3_init_5 : decode cX3_init 5 = .ok (.iconst 0, 1) := by decide +kernel
theorem dX3_init_6 : decode cX3_init 6 = .ok (.putfield 9, 3) := by decide +kernel
theorem dX3_init_9 : decode cX3_init 9 = .ok (.aload_n 0, 1) := by decide +kernel
theorem dX3_init_10 : decode cX3_init 10 = .ok (.iconst 0, 1) := by decide +kernel
theorem dX3_init_11 : decode cX3_init 11 = .ok (.putfield 15, 3) := by decide +kernel
theorem dX3_init_14 : decode cX3_init 14 = .ok (.aload_n 0, 1) := by decide +kernel
theorem dX3_init_15 : decode cX3_init 15 = .ok (.iload_n 1, 1) := by decide +kernel
theorem dX3_init_16 : decode cX3_init 16 = .ok (.iconst 0, 1) := by decide +kernel
theorem dX3_init_17 : decode cX3_init 17 = .ok (.invokestatic 19, 3) := by decide +kernel
theorem dX3_init_20 : decode cX3_init 20 = .ok (.newarray .byte, 2) := by decide +kernel
theorem dX3_init_22 : decode cX3_init 22 = .ok (.putfield 25, 3) := by decide +kernel
theorem dX3_init_25 : decode cX3_init 25 = .ok (.return_, 1) := by decide +kernel
theorem dX3_length_0 : decode cX3_length 0 = .ok (.aload_n 0, 1) := by decide +kernel
theorem dX3_length_1 : decode cX3_length 1 = .ok (.getfield 9, 3) := by decide +kernel
theorem dX3_length_4 : decode cX3_length 4 = .ok (.ireturn, 1) := by decide +kernel
theorem dX3_isOver_0 : decode cX3_isOver 0 = .ok (.aload_n 0, 1) := by decide +kernel
theorem dX3_isOver_1 : decode cX3_isOver 1 = .ok (.getfield 15, 3) := by decide +kernel
theorem dX3_isOver_4 : decode cX3_isOver 4 = .ok (.ireturn, 1) := by decide +kernel
theorem dX3_hasRoomFor_0 : decode cX3_hasRoomFor 0 = .ok (.iload_n 1, 1) := by decide +kernel
theorem dX3_hasRoomFor_1 : decode cX3_hasRoomFor 1 = .ok (.aload_n 0, 1) := by decide +kernel
theorem dX3_hasRoomFor_2 : decode cX3_hasRoomFor 2 = .ok (.getfield 25, 3) := by decide +kernel
theorem dX3_hasRoomFor_5 : decode cX3_hasRoomFor 5 = .ok (.arraylength, 1) := by decide +kernel
theorem dX3_hasRoomFor_6 : decode cX3_hasRoomFor 6 = .ok (.aload_n 0, 1) := by decide +kernel
theorem dX3_hasRoomFor_7 : decode cX3_hasRoomFor 7 = .ok (.getfield 9, 3) := by decide +kernel
theorem dX3_hasRoomFor_10 : decode cX3_hasRoomFor 10 = .ok (.isub, 1) := by decide +kernel
theorem dX3_hasRoomFor_11 : decode cX3_hasRoomFor 11 = .ok (.if_icmp .gt 7, 3) := by decide +kernel
theorem dX3_hasRoomFor_14 : decode cX3_hasRoomFor 14 = .ok (.iconst 1, 1) := by decide +kernel
theorem dX3_hasRoomFor_15 : decode cX3_hasRoomFor 15 = .ok (.goto 4, 3) := by decide +kernel
theorem dX3_hasRoomFor_18 : decode cX3_hasRoomFor 18 = .ok (.iconst 0, 1) := by decide +kernel
theorem dX3_hasRoomFor_19 : decode cX3_hasRoomFor 19 = .ok (.ireturn, 1) := by decide +kernel
theorem dX3_at_0 : decode cX3_at 0 = .ok (.iload_n 1, 1) := by decide +kernel
theorem dX3_at_1 : decode cX3_at 1 = .ok (.ifCond .lt 24, 3) := by decide +kernel
theorem dX3_at_4 : decode cX3_at 4 = .ok (.iload_n 1, 1) := by decide +kernel
theorem dX3_at_5 : decode cX3_at 5 = .ok (.aload_n 0, 1) := by decide +kernel
theorem dX3_at_6 : decode cX3_at 6 = .ok (.getfield 9, 3) := by decide +kernel
theorem dX3_at_9 : decode cX3_at 9 = .ok (.if_icmp .ge 16, 3) := by decide +kernel
theorem dX3_at_12 : decode cX3_at 12 = .ok (.aload_n 0, 1) := by decide +kernel
theorem dX3_at_13 : decode cX3_at 13 = .ok (.getfield 25, 3) := by decide +kernel
theorem dX3_at_16 : decode cX3_at 16 = .ok (.iload_n 1, 1) := by decide +kernel
theorem dX3_at_17 : decode cX3_at 17 = .ok (.baload, 1) := by decide +kernel
theorem dX3_at_18 : decode cX3_at 18 = .ok (.sipush 255, 3) := by decide +kernel
theorem dX3_at_21 : decode cX3_at 21 = .ok (.iand, 1) := by decide +kernel
theorem dX3_at_22 : decode cX3_at 22 = .ok (.goto 4, 3) := by decide +kernel
theorem dX3_at_25 : decode cX3_at 25 = .ok (.iconst (-1), 1) := by decide +kernel
theorem dX3_at_26 : decode cX3_at 26 = .ok (.ireturn, 1) := by decide +kernel
theorem dX3_clear_0 : decode cX3_clear 0 = .ok (.aload_n 0, 1) := by decide +kernel
theorem dX3_clear_1 : decode cX3_clear 1 = .ok (.iconst 0, 1) := by decide +kernel
theorem dX3_clear_2 : decode cX3_clear 2 = .ok (.putfield 9, 3) := by decide +kernel
theorem dX3_clear_5 : decode cX3_clear 5 = .ok (.aload_n 0, 1) := by decide +kernel
theorem dX3_clear_6 : decode cX3_clear 6 = .ok (.iconst 0, 1) := by decide +kernel
theorem dX3_clear_7 : decode cX3_clear 7 = .ok (.putfield 15, 3) := by decide +kernel
theorem dX3_clear_10 : decode cX3_clear 10 = .ok (.return_, 1) := by decide +kernel
theorem dX3_add_0 : decode cX3_add 0 = .ok (.aload_n 0, 1) := by decide +kernel
theorem dX3_add_1 : decode cX3_add 1 = .ok (.getfield 9, 3) := by decide +kernel
theorem dX3_add_4 : decode cX3_add 4 = .ok (.aload_n 0, 1) := by decide +kernel
theorem dX3_add_5 : decode cX3_add 5 = .ok (.getfield 25, 3) := by decide +kernel
theorem dX3_add_8 : decode cX3_add 8 = .ok (.arraylength, 1) := by decide +kernel
theorem dX3_add_9 : decode cX3_add 9 = .ok (.if_icmp .lt 9, 3) := by decide +kernel
theorem dX3_add_12 : decode cX3_add 12 = .ok (.aload_n 0, 1) := by decide +kernel
theorem dX3_add_13 : decode cX3_add 13 = .ok (.iconst 1, 1) := by decide +kernel
theorem dX3_add_14 : decode cX3_add 14 = .ok (.putfield 15, 3) := by decide +kernel
theorem dX3_add_17 : decode cX3_add 17 = .ok (.return_, 1) := by decide +kernel
theorem dX3_add_18 : decode cX3_add 18 = .ok (.aload_n 0, 1) := by decide +kernel
theorem dX3_add_19 : decode cX3_add 19 = .ok (.getfield 25, 3) := by decide +kernel
theorem dX3_add_22 : decode cX3_add 22 = .ok (.aload_n 0, 1) := by decide +kernel
theorem dX3_add_23 : decode cX3_add 23 = .ok (.getfield 9, 3) := by decide +kernel
theorem dX3_add_26 : decode cX3_add 26 = .ok (.iload_n 1, 1) := by decide +kernel
theorem dX3_add_27 : decode cX3_add 27 = .ok (.i2b, 1) := by decide +kernel
theorem dX3_add_28 : decode cX3_add 28 = .ok (.bastore, 1) := by decide +kernel
theorem dX3_add_29 : decode cX3_add 29 = .ok (.aload_n 0, 1) := by decide +kernel
theorem dX3_add_30 : decode cX3_add 30 = .ok (.dup, 1) := by decide +kernel
theorem dX3_add_31 : decode cX3_add 31 = .ok (.getfield 9, 3) := by decide +kernel
theorem dX3_add_34 : decode cX3_add 34 = .ok (.iconst 1, 1) := by decide +kernel
theorem dX3_add_35 : decode cX3_add 35 = .ok (.iadd, 1) := by decide +kernel
theorem dX3_add_36 : decode cX3_add 36 = .ok (.putfield 9, 3) := by decide +kernel
theorem dX3_add_39 : decode cX3_add 39 = .ok (.return_, 1) := by decide +kernel
theorem dX3_addWord_0 : decode cX3_addWord 0 = .ok (.iconst 0, 1) := by decide +kernel
theorem dX3_addWord_1 : decode cX3_addWord 1 = .ok (.istore_n 2, 1) := by decide +kernel
theorem dX3_addWord_2 : decode cX3_addWord 2 = .ok (.iload_n 2, 1) := by decide +kernel
theorem dX3_addWord_3 : decode cX3_addWord 3 = .ok (.aload_n 1, 1) := by decide +kernel
theorem dX3_addWord_4 : decode cX3_addWord 4 = .ok (.invokevirtual 29, 3) := by decide +kernel
theorem dX3_addWord_7 : decode cX3_addWord 7 = .ok (.if_icmp .ge 18, 3) := by decide +kernel
theorem dX3_addWord_10 : decode cX3_addWord 10 = .ok (.aload_n 0, 1) := by decide +kernel
theorem dX3_addWord_11 : decode cX3_addWord 11 = .ok (.aload_n 1, 1) := by decide +kernel
theorem dX3_addWord_12 : decode cX3_addWord 12 = .ok (.iload_n 2, 1) := by decide +kernel
theorem dX3_addWord_13 : decode cX3_addWord 13 = .ok (.invokevirtual 34, 3) := by decide +kernel
theorem dX3_addWord_16 : decode cX3_addWord 16 = .ok (.invokevirtual 38, 3) := by decide +kernel
theorem dX3_addWord_19 : decode cX3_addWord 19 = .ok (.iinc 2 1, 3) := by decide +kernel
theorem dX3_addWord_22 : decode cX3_addWord 22 = .ok (.goto (-20), 3) := by decide +kernel
theorem dX3_addWord_25 : decode cX3_addWord 25 = .ok (.return_, 1) := by decide +kernel
theorem dX3_addPart_0 : decode cX3_addPart 0 = .ok (.iload_n 2, 1) := by decide +kernel
theorem dX3_addPart_1 : decode cX3_addPart 1 = .ok (.ifCond .lt 17, 3) := by decide +kernel
theorem dX3_addPart_4 : decode cX3_addPart 4 = .ok (.iload_n 3, 1) := by decide +kernel
theorem dX3_addPart_5 : decode cX3_addPart 5 = .ok (.ifCond .lt 13, 3) := by decide +kernel
theorem dX3_addPart_8 : decode cX3_addPart 8 = .ok (.iload_n 2, 1) := by decide +kernel
theorem dX3_addPart_9 : decode cX3_addPart 9 = .ok (.aload_n 1, 1) := by decide +kernel
theorem dX3_addPart_10 : decode cX3_addPart 10 = .ok (.getfield 9, 3) := by decide +kernel
theorem dX3_addPart_13 : decode cX3_addPart 13 = .ok (.iload_n 3, 1) := by decide +kernel
theorem dX3_addPart_14 : decode cX3_addPart 14 = .ok (.isub, 1) := by decide +kernel
theorem dX3_addPart_15 : decode cX3_addPart 15 = .ok (.if_icmp .le 4, 3) := by decide +kernel
theorem dX3_addPart_18 : decode cX3_addPart 18 = .ok (.return_, 1) := by decide +kernel
theorem dX3_addPart_19 : decode cX3_addPart 19 = .ok (.iload_n 3, 1) := by decide +kernel
theorem dX3_addPart_20 : decode cX3_addPart 20 = .ok (.aload_n 0, 1) := by decide +kernel
theorem dX3_addPart_21 : decode cX3_addPart 21 = .ok (.getfield 25, 3) := by decide +kernel
theorem dX3_addPart_24 : decode cX3_addPart 24 = .ok (.arraylength, 1) := by decide +kernel
theorem dX3_addPart_25 : decode cX3_addPart 25 = .ok (.aload_n 0, 1) := by decide +kernel
theorem dX3_addPart_26 : decode cX3_addPart 26 = .ok (.getfield 9, 3) := by decide +kernel
theorem dX3_addPart_29 : decode cX3_addPart 29 = .ok (.isub, 1) := by decide +kernel
theorem dX3_addPart_30 : decode cX3_addPart 30 = .ok (.if_icmp .le 9, 3) := by decide +kernel
theorem dX3_addPart_33 : decode cX3_addPart 33 = .ok (.aload_n 0, 1) := by decide +kernel
theorem dX3_addPart_34 : decode cX3_addPart 34 = .ok (.iconst 1, 1) := by decide +kernel
theorem dX3_addPart_35 : decode cX3_addPart 35 = .ok (.putfield 15, 3) := by decide +kernel
theorem dX3_addPart_38 : decode cX3_addPart 38 = .ok (.return_, 1) := by decide +kernel
theorem dX3_addPart_39 : decode cX3_addPart 39 = .ok (.aload_n 1, 1) := by decide +kernel
theorem dX3_addPart_40 : decode cX3_addPart 40 = .ok (.getfield 25, 3) := by decide +kernel
theorem dX3_addPart_43 : decode cX3_addPart 43 = .ok (.iload_n 2, 1) := by decide +kernel
theorem dX3_addPart_44 : decode cX3_addPart 44 = .ok (.aload_n 0, 1) := by decide +kernel
theorem dX3_addPart_45 : decode cX3_addPart 45 = .ok (.getfield 25, 3) := by decide +kernel
theorem dX3_addPart_48 : decode cX3_addPart 48 = .ok (.aload_n 0, 1) := by decide +kernel
theorem dX3_addPart_49 : decode cX3_addPart 49 = .ok (.getfield 9, 3) := by decide +kernel
theorem dX3_addPart_52 : decode cX3_addPart 52 = .ok (.iload_n 3, 1) := by decide +kernel
theorem dX3_addPart_53 : decode cX3_addPart 53 = .ok (.invokestatic 42, 3) := by decide +kernel
theorem dX3_addPart_56 : decode cX3_addPart 56 = .ok (.aload_n 0, 1) := by decide +kernel
theorem dX3_addPart_57 : decode cX3_addPart 57 = .ok (.dup, 1) := by decide +kernel
theorem dX3_addPart_58 : decode cX3_addPart 58 = .ok (.getfield 9, 3) := by decide +kernel
theorem dX3_addPart_61 : decode cX3_addPart 61 = .ok (.iload_n 3, 1) := by decide +kernel
theorem dX3_addPart_62 : decode cX3_addPart 62 = .ok (.iadd, 1) := by decide +kernel
theorem dX3_addPart_63 : decode cX3_addPart 63 = .ok (.putfield 9, 3) := by decide +kernel
theorem dX3_addPart_66 : decode cX3_addPart 66 = .ok (.return_, 1) := by decide +kernel
theorem dX3_addAll_0 : decode cX3_addAll 0 = .ok (.aload_n 0, 1) := by decide +kernel
theorem dX3_addAll_1 : decode cX3_addAll 1 = .ok (.aload_n 1, 1) := by decide +kernel
theorem dX3_addAll_2 : decode cX3_addAll 2 = .ok (.iconst 0, 1) := by decide +kernel
theorem dX3_addAll_3 : decode cX3_addAll 3 = .ok (.aload_n 1, 1) := by decide +kernel
theorem dX3_addAll_4 : decode cX3_addAll 4 = .ok (.getfield 9, 3) := by decide +kernel
theorem dX3_addAll_7 : decode cX3_addAll 7 = .ok (.invokevirtual 48, 3) := by decide +kernel
theorem dX3_addAll_10 : decode cX3_addAll 10 = .ok (.return_, 1) := by decide +kernel
theorem dX3_addNumber_0 : decode cX3_addNumber 0 = .ok (.iconst 1, 1) := by decide +kernel
theorem dX3_addNumber_1 : decode cX3_addNumber 1 = .ok (.istore_n 2, 1) := by decide +kernel
theorem dX3_addNumber_2 : decode cX3_addNumber 2 = .ok (.iconst 1, 1) := by decide +kernel
theorem dX3_addNumber_3 : decode cX3_addNumber 3 = .ok (.istore_n 3, 1) := by decide +kernel
theorem dX3_addNumber_4 : decode cX3_addNumber 4 = .ok (.iload_n 3, 1) := by decide +kernel
theorem dX3_addNumber_5 : decode cX3_addNumber 5 = .ok (.bipush 6, 2) := by decide +kernel
theorem dX3_addNumber_7 : decode cX3_addNumber 7 = .ok (.if_icmp .ge 26, 3) := by decide +kernel
theorem dX3_addNumber_10 : decode cX3_addNumber 10 = .ok (.iload_n 1, 1) := by decide +kernel
theorem dX3_addNumber_11 : decode cX3_addNumber 11 = .ok (.iload_n 2, 1) := by decide +kernel
theorem dX3_addNumber_12 : decode cX3_addNumber 12 = .ok (.idiv, 1) := by decide +kernel
theorem dX3_addNumber_13 : decode cX3_addNumber 13 = .ok (.bipush 10, 2) := by decide +kernel
theorem dX3_addNumber_15 : decode cX3_addNumber 15 = .ok (.if_icmp .lt 10, 3) := by decide +kernel
theorem dX3_addNumber_18 : decode cX3_addNumber 18 = .ok (.iload_n 2, 1) := by decide +kernel
theorem dX3_addNumber_19 : decode cX3_addNumber 19 = .ok (.bipush 10, 2) := by decide +kernel
theorem dX3_addNumber_21 : decode cX3_addNumber 21 = .ok (.imul, 1) := by decide +kernel
theorem dX3_addNumber_22 : decode cX3_addNumber 22 = .ok (.goto 4, 3) := by decide +kernel
theorem dX3_addNumber_25 : decode cX3_addNumber 25 = .ok (.iload_n 2, 1) := by decide +kernel
theorem dX3_addNumber_26 : decode cX3_addNumber 26 = .ok (.istore_n 2, 1) := by decide +kernel
theorem dX3_addNumber_27 : decode cX3_addNumber 27 = .ok (.iinc 3 1, 3) := by decide +kernel
theorem dX3_addNumber_30 : decode cX3_addNumber 30 = .ok (.goto (-26), 3) := by decide +kernel
theorem dX3_addNumber_33 : decode cX3_addNumber 33 = .ok (.iload_n 2, 1) := by decide +kernel
theorem dX3_addNumber_34 : decode cX3_addNumber 34 = .ok (.istore_n 3, 1) := by decide +kernel
theorem dX3_addNumber_35 : decode cX3_addNumber 35 = .ok (.iload_n 3, 1) := by decide +kernel
theorem dX3_addNumber_36 : decode cX3_addNumber 36 = .ok (.ifCond .le 24, 3) := by decide +kernel
theorem dX3_addNumber_39 : decode cX3_addNumber 39 = .ok (.aload_n 0, 1) := by decide +kernel
theorem dX3_addNumber_40 : decode cX3_addNumber 40 = .ok (.bipush 48, 2) := by decide +kernel
theorem dX3_addNumber_42 : decode cX3_addNumber 42 = .ok (.iload_n 1, 1) := by decide +kernel
theorem dX3_addNumber_43 : decode cX3_addNumber 43 = .ok (.iload_n 3, 1) := by decide +kernel
theorem dX3_addNumber_44 : decode cX3_addNumber 44 = .ok (.idiv, 1) := by decide +kernel
theorem dX3_addNumber_45 : decode cX3_addNumber 45 = .ok (.bipush 10, 2) := by decide +kernel
theorem dX3_addNumber_47 : decode cX3_addNumber 47 = .ok (.irem, 1) := by decide +kernel
theorem dX3_addNumber_48 : decode cX3_addNumber 48 = .ok (.iadd, 1) := by decide +kernel
theorem dX3_addNumber_49 : decode cX3_addNumber 49 = .ok (.invokevirtual 38, 3) := by decide +kernel
theorem dX3_addNumber_52 : decode cX3_addNumber 52 = .ok (.iload_n 3, 1) := by decide +kernel
theorem dX3_addNumber_53 : decode cX3_addNumber 53 = .ok (.bipush 10, 2) := by decide +kernel
theorem dX3_addNumber_55 : decode cX3_addNumber 55 = .ok (.idiv, 1) := by decide +kernel
theorem dX3_addNumber_56 : decode cX3_addNumber 56 = .ok (.istore_n 3, 1) := by decide +kernel
theorem dX3_addNumber_57 : decode cX3_addNumber 57 = .ok (.goto (-22), 3) := by decide +kernel
theorem dX3_addNumber_60 : decode cX3_addNumber 60 = .ok (.return_, 1) := by decide +kernel
theorem dX3_copyFrom_0 : decode cX3_copyFrom 0 = .ok (.aload_n 0, 1) := by decide +kernel
theorem dX3_copyFrom_1 : decode cX3_copyFrom 1 = .ok (.invokevirtual 52, 3) := by decide +kernel
theorem dX3_copyFrom_4 : decode cX3_copyFrom 4 = .ok (.aload_n 0, 1) := by decide +kernel
theorem dX3_copyFrom_5 : decode cX3_copyFrom 5 = .ok (.aload_n 1, 1) := by decide +kernel
theorem dX3_copyFrom_6 : decode cX3_copyFrom 6 = .ok (.iconst 0, 1) := by decide +kernel
theorem dX3_copyFrom_7 : decode cX3_copyFrom 7 = .ok (.aload_n 1, 1) := by decide +kernel
theorem dX3_copyFrom_8 : decode cX3_copyFrom 8 = .ok (.getfield 9, 3) := by decide +kernel
theorem dX3_copyFrom_11 : decode cX3_copyFrom 11 = .ok (.invokevirtual 48, 3) := by decide +kernel
theorem dX3_copyFrom_14 : decode cX3_copyFrom 14 = .ok (.return_, 1) := by decide +kernel
theorem dX3_holdsAt_0 : decode cX3_holdsAt 0 = .ok (.iload_n 1, 1) := by decide +kernel
theorem dX3_holdsAt_1 : decode cX3_holdsAt 1 = .ok (.ifCond .lt 16, 3) := by decide +kernel
theorem dX3_holdsAt_4 : decode cX3_holdsAt 4 = .ok (.iload_n 1, 1) := by decide +kernel
theorem dX3_holdsAt_5 : decode cX3_holdsAt 5 = .ok (.aload_n 0, 1) := by decide +kernel
theorem dX3_holdsAt_6 : decode cX3_holdsAt 6 = .ok (.getfield 9, 3) := by decide +kernel
theorem dX3_holdsAt_9 : decode cX3_holdsAt 9 = .ok (.aload_n 2, 1) := by decide +kernel
theorem dX3_holdsAt_10 : decode cX3_holdsAt 10 = .ok (.getfield 9, 3) := by decide +kernel
theorem dX3_holdsAt_13 : decode cX3_holdsAt 13 = .ok (.isub, 1) := by decide +kernel
theorem dX3_holdsAt_14 : decode cX3_holdsAt 14 = .ok (.if_icmp .le 5, 3) := by decide +kernel
theorem dX3_holdsAt_17 : decode cX3_holdsAt 17 = .ok (.iconst 0, 1) := by decide +kernel
theorem dX3_holdsAt_18 : decode cX3_holdsAt 18 = .ok (.ireturn, 1) := by decide +kernel
theorem dX3_holdsAt_19 : decode cX3_holdsAt 19 = .ok (.iconst 0, 1) := by decide +kernel
theorem dX3_holdsAt_20 : decode cX3_holdsAt 20 = .ok (.istore_n 3, 1) := by decide +kernel
theorem dX3_holdsAt_21 : decode cX3_holdsAt 21 = .ok (.iload_n 3, 1) := by decide +kernel
theorem dX3_holdsAt_22 : decode cX3_holdsAt 22 = .ok (.aload_n 2, 1) := by decide +kernel
theorem dX3_holdsAt_23 : decode cX3_holdsAt 23 = .ok (.getfield 9, 3) := by decide +kernel
theorem dX3_holdsAt_26 : decode cX3_holdsAt 26 = .ok (.if_icmp .ge 28, 3) := by decide +kernel
theorem dX3_holdsAt_29 : decode cX3_holdsAt 29 = .ok (.aload_n 0, 1) := by decide +kernel
theorem dX3_holdsAt_30 : decode cX3_holdsAt 30 = .ok (.getfield 25, 3) := by decide +kernel
theorem dX3_holdsAt_33 : decode cX3_holdsAt 33 = .ok (.iload_n 1, 1) := by decide +kernel
theorem dX3_holdsAt_34 : decode cX3_holdsAt 34 = .ok (.iload_n 3, 1) := by decide +kernel
theorem dX3_holdsAt_35 : decode cX3_holdsAt 35 = .ok (.iadd, 1) := by decide +kernel
theorem dX3_holdsAt_36 : decode cX3_holdsAt 36 = .ok (.baload, 1) := by decide +kernel
theorem dX3_holdsAt_37 : decode cX3_holdsAt 37 = .ok (.aload_n 2, 1) := by decide +kernel
theorem dX3_holdsAt_38 : decode cX3_holdsAt 38 = .ok (.getfield 25, 3) := by decide +kernel
theorem dX3_holdsAt_41 : decode cX3_holdsAt 41 = .ok (.iload_n 3, 1) := by decide +kernel
theorem dX3_holdsAt_42 : decode cX3_holdsAt 42 = .ok (.baload, 1) := by decide +kernel
theorem dX3_holdsAt_43 : decode cX3_holdsAt 43 = .ok (.if_icmp .eq 5, 3) := by decide +kernel
theorem dX3_holdsAt_46 : decode cX3_holdsAt 46 = .ok (.iconst 0, 1) := by decide +kernel
theorem dX3_holdsAt_47 : decode cX3_holdsAt 47 = .ok (.ireturn, 1) := by decide +kernel
theorem dX3_holdsAt_48 : decode cX3_holdsAt 48 = .ok (.iinc 3 1, 3) := by decide +kernel
theorem dX3_holdsAt_51 : decode cX3_holdsAt 51 = .ok (.goto (-30), 3) := by decide +kernel
theorem dX3_holdsAt_54 : decode cX3_holdsAt 54 = .ok (.iconst 1, 1) := by decide +kernel
theorem dX3_holdsAt_55 : decode cX3_holdsAt 55 = .ok (.ireturn, 1) := by decide +kernel
theorem dX3_isStartOf_0 : decode cX3_isStartOf 0 = .ok (.aload_n 0, 1) := by decide +kernel
theorem dX3_isStartOf_1 : decode cX3_isStartOf 1 = .ok (.getfield 9, 3) := by decide +kernel
theorem dX3_isStartOf_4 : decode cX3_isStartOf 4 = .ok (.iload_n 2, 1) := by decide +kernel
theorem dX3_isStartOf_5 : decode cX3_isStartOf 5 = .ok (.if_icmp .ne 16, 3) := by decide +kernel
theorem dX3_isStartOf_8 : decode cX3_isStartOf 8 = .ok (.aload_n 1, 1) := by decide +kernel
theorem dX3_isStartOf_9 : decode cX3_isStartOf 9 = .ok (.iconst 0, 1) := by decide +kernel
theorem dX3_isStartOf_10 : decode cX3_isStartOf 10 = .ok (.aload_n 0, 1) := by decide +kernel
theorem dX3_isStartOf_11 : decode cX3_isStartOf 11 = .ok (.invokevirtual 55, 3) := by decide +kernel
theorem dX3_isStartOf_14 : decode cX3_isStartOf 14 = .ok (.ifCond .eq 7, 3) := by decide +kernel
theorem dX3_isStartOf_17 : decode cX3_isStartOf 17 = .ok (.iconst 1, 1) := by decide +kernel
theorem dX3_isStartOf_18 : decode cX3_isStartOf 18 = .ok (.goto 4, 3) := by decide +kernel
theorem dX3_isStartOf_21 : decode cX3_isStartOf 21 = .ok (.iconst 0, 1) := by decide +kernel
theorem dX3_isStartOf_22 : decode cX3_isStartOf 22 = .ok (.ireturn, 1) := by decide +kernel
theorem dX3_sameAs_0 : decode cX3_sameAs 0 = .ok (.aload_n 0, 1) := by decide +kernel
theorem dX3_sameAs_1 : decode cX3_sameAs 1 = .ok (.getfield 9, 3) := by decide +kernel
theorem dX3_sameAs_4 : decode cX3_sameAs 4 = .ok (.aload_n 1, 1) := by decide +kernel
theorem dX3_sameAs_5 : decode cX3_sameAs 5 = .ok (.getfield 9, 3) := by decide +kernel
theorem dX3_sameAs_8 : decode cX3_sameAs 8 = .ok (.if_icmp .ne 16, 3) := by decide +kernel
theorem dX3_sameAs_11 : decode cX3_sameAs 11 = .ok (.aload_n 1, 1) := by decide +kernel
theorem dX3_sameAs_12 : decode cX3_sameAs 12 = .ok (.iconst 0, 1) := by decide +kernel
theorem dX3_sameAs_13 : decode cX3_sameAs 13 = .ok (.aload_n 0, 1) := by decide +kernel
theorem dX3_sameAs_14 : decode cX3_sameAs 14 = .ok (.invokevirtual 55, 3) := by decide +kernel
theorem dX3_sameAs_17 : decode cX3_sameAs 17 = .ok (.ifCond .eq 7, 3) := by decide +kernel
theorem dX3_sameAs_20 : decode cX3_sameAs 20 = .ok (.iconst 1, 1) := by decide +kernel
theorem dX3_sameAs_21 : decode cX3_sameAs 21 = .ok (.goto 4, 3) := by decide +kernel
theorem dX3_sameAs_24 : decode cX3_sameAs 24 = .ok (.iconst 0, 1) := by decide +kernel
theorem dX3_sameAs_25 : decode cX3_sameAs 25 = .ok (.ireturn, 1) := by decide +kernel
theorem dX3_isWordAt_0 : decode cX3_isWordAt 0 = .ok (.iload_n 2, 1) := by decide +kernel
theorem dX3_isWordAt_1 : decode cX3_isWordAt 1 = .ok (.aload_n 3, 1) := by decide +kernel
theorem dX3_isWordAt_2 : decode cX3_isWordAt 2 = .ok (.invokevirtual 29, 3) := by decide +kernel
theorem dX3_isWordAt_5 : decode cX3_isWordAt 5 = .ok (.if_icmp .eq 5, 3) := by decide +kernel
theorem dX3_isWordAt_8 : decode cX3_isWordAt 8 = .ok (.iconst 0, 1) := by decide +kernel
theorem dX3_isWordAt_9 : decode cX3_isWordAt 9 = .ok (.ireturn, 1) := by decide +kernel
theorem dX3_isWordAt_10 : decode cX3_isWordAt 10 = .ok (.iconst 0, 1) := by decide +kernel
theorem dX3_isWordAt_11 : decode cX3_isWordAt 11 = .ok (.istore 4, 2) := by decide +kernel
theorem dX3_isWordAt_13 : decode cX3_isWordAt 13 = .ok (.iload 4, 2) := by decide +kernel
theorem dX3_isWordAt_15 : decode cX3_isWordAt 15 = .ok (.iload_n 2, 1) := by decide +kernel
theorem dX3_isWordAt_16 : decode cX3_isWordAt 16 = .ok (.if_icmp .ge 28, 3) := by decide +kernel
theorem dX3_isWordAt_19 : decode cX3_isWordAt 19 = .ok (.aload_n 0, 1) := by decide +kernel
theorem dX3_isWordAt_20 : decode cX3_isWordAt 20 = .ok (.iload_n 1, 1) := by decide +kernel
theorem dX3_isWordAt_21 : decode cX3_isWordAt 21 = .ok (.iload 4, 2) := by decide +kernel
theorem dX3_isWordAt_23 : decode cX3_isWordAt 23 = .ok (.iadd, 1) := by decide +kernel
theorem dX3_isWordAt_24 : decode cX3_isWordAt 24 = .ok (.invokevirtual 59, 3) := by decide +kernel
theorem dX3_isWordAt_27 : decode cX3_isWordAt 27 = .ok (.aload_n 3, 1) := by decide +kernel
theorem dX3_isWordAt_28 : decode cX3_isWordAt 28 = .ok (.iload 4, 2) := by decide +kernel
theorem dX3_isWordAt_30 : decode cX3_isWordAt 30 = .ok (.invokevirtual 34, 3) := by decide +kernel
theorem dX3_isWordAt_33 : decode cX3_isWordAt 33 = .ok (.if_icmp .eq 5, 3) := by decide +kernel
theorem dX3_isWordAt_36 : decode cX3_isWordAt 36 = .ok (.iconst 0, 1) := by decide +kernel
theorem dX3_isWordAt_37 : decode cX3_isWordAt 37 = .ok (.ireturn, 1) := by decide +kernel
theorem dX3_isWordAt_38 : decode cX3_isWordAt 38 = .ok (.iinc 4 1, 3) := by decide +kernel
theorem dX3_isWordAt_41 : decode cX3_isWordAt 41 = .ok (.goto (-28), 3) := by decide +kernel
theorem dX3_isWordAt_44 : decode cX3_isWordAt 44 = .ok (.iconst 1, 1) := by decide +kernel
theorem dX3_isWordAt_45 : decode cX3_isWordAt 45 = .ok (.ireturn, 1) := by decide +kernel
theorem dX3_lastPoint_0 : decode cX3_lastPoint 0 = .ok (.aload_n 0, 1) := by decide +kernel
theorem dX3_lastPoint_1 : decode cX3_lastPoint 1 = .ok (.getfield 9, 3) := by decide +kernel
theorem dX3_lastPoint_4 : decode cX3_lastPoint 4 = .ok (.iconst 1, 1) := by decide +kernel
theorem dX3_lastPoint_5 : decode cX3_lastPoint 5 = .ok (.isub, 1) := by decide +kernel
theorem dX3_lastPoint_6 : decode cX3_lastPoint 6 = .ok (.istore_n 1, 1) := by decide +kernel
theorem dX3_lastPoint_7 : decode cX3_lastPoint 7 = .ok (.iload_n 1, 1) := by decide +kernel
theorem dX3_lastPoint_8 : decode cX3_lastPoint 8 = .ok (.ifCond .lt 22, 3) := by decide +kernel
theorem dX3_lastPoint_11 : decode cX3_lastPoint 11 = .ok (.aload_n 0, 1) := by decide +kernel
theorem dX3_lastPoint_12 : decode cX3_lastPoint 12 = .ok (.getfield 25, 3) := by decide +kernel
theorem dX3_lastPoint_15 : decode cX3_lastPoint 15 = .ok (.iload_n 1, 1) := by decide +kernel
theorem dX3_lastPoint_16 : decode cX3_lastPoint 16 = .ok (.baload, 1) := by decide +kernel
theorem dX3_lastPoint_17 : decode cX3_lastPoint 17 = .ok (.bipush 46, 2) := by decide +kernel
theorem dX3_lastPoint_19 : decode cX3_lastPoint 19 = .ok (.if_icmp .ne 5, 3) := by decide +kernel
theorem dX3_lastPoint_22 : decode cX3_lastPoint 22 = .ok (.iload_n 1, 1) := by decide +kernel
theorem dX3_lastPoint_23 : decode cX3_lastPoint 23 = .ok (.ireturn, 1) := by decide +kernel
theorem dX3_lastPoint_24 : decode cX3_lastPoint 24 = .ok (.iinc 1 (-1), 3) := by decide +kernel
theorem dX3_lastPoint_27 : decode cX3_lastPoint 27 = .ok (.goto (-20), 3) := by decide +kernel
theorem dX3_lastPoint_30 : decode cX3_lastPoint 30 = .ok (.bipush (-2), 2) := by decide +kernel
theorem dX3_lastPoint_32 : decode cX3_lastPoint 32 = .ok (.ireturn, 1) := by decide +kernel
theorem dX3_nameStart_0 : decode cX3_nameStart 0 = .ok (.aload_n 0, 1) := by decide +kernel
theorem dX3_nameStart_1 : decode cX3_nameStart 1 = .ok (.invokevirtual 63, 3) := by decide +kernel
theorem dX3_nameStart_4 : decode cX3_nameStart 4 = .ok (.iconst (-1), 1) := by decide +kernel
theorem dX3_nameStart_5 : decode cX3_nameStart 5 = .ok (.invokestatic 19, 3) := by decide +kernel
theorem dX3_nameStart_8 : decode cX3_nameStart 8 = .ok (.iconst 1, 1) := by decide +kernel
theorem dX3_nameStart_9 : decode cX3_nameStart 9 = .ok (.iadd, 1) := by decide +kernel
theorem dX3_nameStart_10 : decode cX3_nameStart 10 = .ok (.ireturn, 1) := by decide +kernel
theorem dX3_compareWith_0 : decode cX3_compareWith 0 = .ok (.aload_n 0, 1) := by decide +kernel
theorem dX3_compareWith_1 : decode cX3_compareWith 1 = .ok (.getfield 9, 3) := by decide +kernel
theorem dX3_compareWith_4 : decode cX3_compareWith 4 = .ok (.aload_n 1, 1) := by decide +kernel
theorem dX3_compareWith_5 : decode cX3_compareWith 5 = .ok (.getfield 9, 3) := by decide +kernel
theorem dX3_compareWith_8 : decode cX3_compareWith 8 = .ok (.invokestatic 66, 3) := by decide +kernel
theorem dX3_compareWith_11 : decode cX3_compareWith 11 = .ok (.istore_n 2, 1) := by decide +kernel
theorem dX3_compareWith_12 : decode cX3_compareWith 12 = .ok (.iconst 0, 1) := by decide +kernel
theorem dX3_compareWith_13 : decode cX3_compareWith 13 = .ok (.istore_n 3, 1) := by decide +kernel
theorem dX3_compareWith_14 : decode cX3_compareWith 14 = .ok (.iload_n 3, 1) := by decide +kernel
theorem dX3_compareWith_15 : decode cX3_compareWith 15 = .ok (.iload_n 2, 1) := by decide +kernel
theorem dX3_compareWith_16 : decode cX3_compareWith 16 = .ok (.if_icmp .ge 46, 3) := by decide +kernel
theorem dX3_compareWith_19 : decode cX3_compareWith 19 = .ok (.aload_n 0, 1) := by decide +kernel
theorem dX3_compareWith_20 : decode cX3_compareWith 20 = .ok (.getfield 25, 3) := by decide +kernel
theorem dX3_compareWith_23 : decode cX3_compareWith 23 = .ok (.iload_n 3, 1) := by decide +kernel
theorem dX3_compareWith_24 : decode cX3_compareWith 24 = .ok (.baload, 1) := by decide +kernel
theorem dX3_compareWith_25 : decode cX3_compareWith 25 = .ok (.aload_n 1, 1) := by decide +kernel
theorem dX3_compareWith_26 : decode cX3_compareWith 26 = .ok (.getfield 25, 3) := by decide +kernel
theorem dX3_compareWith_29 : decode cX3_compareWith 29 = .ok (.iload_n 3, 1) := by decide +kernel
theorem dX3_compareWith_30 : decode cX3_compareWith 30 = .ok (.baload, 1) := by decide +kernel
theorem dX3_compareWith_31 : decode cX3_compareWith 31 = .ok (.if_icmp .eq 25, 3) := by decide +kernel
theorem dX3_compareWith_34 : decode cX3_compareWith 34 = .ok (.aload_n 0, 1) := by decide +kernel
theorem dX3_compareWith_35 : decode cX3_compareWith 35 = .ok (.getfield 25, 3) := by decide +kernel
theorem dX3_compareWith_38 : decode cX3_compareWith 38 = .ok (.iload_n 3, 1) := by decide +kernel
theorem dX3_compareWith_39 : decode cX3_compareWith 39 = .ok (.baload, 1) := by decide +kernel
theorem dX3_compareWith_40 : decode cX3_compareWith 40 = .ok (.sipush 255, 3) := by decide +kernel
theorem dX3_compareWith_43 : decode cX3_compareWith 43 = .ok (.iand, 1) := by decide +kernel
theorem dX3_compareWith_44 : decode cX3_compareWith 44 = .ok (.aload_n 1, 1) := by decide +kernel
theorem dX3_compareWith_45 : decode cX3_compareWith 45 = .ok (.getfield 25, 3) := by decide +kernel
theorem dX3_compareWith_48 : decode cX3_compareWith 48 = .ok (.iload_n 3, 1) := by decide +kernel
theorem dX3_compareWith_49 : decode cX3_compareWith 49 = .ok (.baload, 1) := by decide +kernel
theorem dX3_compareWith_50 : decode cX3_compareWith 50 = .ok (.sipush 255, 3) := by decide +kernel
theorem dX3_compareWith_53 : decode cX3_compareWith 53 = .ok (.iand, 1) := by decide +kernel
theorem dX3_compareWith_54 : decode cX3_compareWith 54 = .ok (.isub, 1) := by decide +kernel
theorem dX3_compareWith_55 : decode cX3_compareWith 55 = .ok (.ireturn, 1) := by decide +kernel
theorem dX3_compareWith_56 : decode cX3_compareWith 56 = .ok (.iinc 3 1, 3) := by decide +kernel
theorem dX3_compareWith_59 : decode cX3_compareWith 59 = .ok (.goto (-45), 3) := by decide +kernel
theorem dX3_compareWith_62 : decode cX3_compareWith 62 = .ok (.aload_n 0, 1) := by decide +kernel
theorem dX3_compareWith_63 : decode cX3_compareWith 63 = .ok (.getfield 9, 3) := by decide +kernel
theorem dX3_compareWith_66 : decode cX3_compareWith 66 = .ok (.aload_n 1, 1) := by decide +kernel
theorem dX3_compareWith_67 : decode cX3_compareWith 67 = .ok (.getfield 9, 3) := by decide +kernel
theorem dX3_compareWith_70 : decode cX3_compareWith 70 = .ok (.isub, 1) := by decide +kernel
theorem dX3_compareWith_71 : decode cX3_compareWith 71 = .ok (.ireturn, 1) := by decide +kernel
theorem dX4_init_0 : decode cX4_init 0 = .ok (.aload_n 0, 1) := by decide +kernel
theorem dX4_init_1 : decode cX4_init 1 = .ok (.invokespecial 3, 3) := by decide +kernel
theorem dX4_init_4 : decode cX4_init 4 = .ok (.aload_n 0, 1) := by decide +kernel
theorem dX4_init_5 : decode cX4_init 5 = .ok (.new 9, 3) := by decide +kernel
theorem dX4_init_8 : decode cX4_init 8 = .ok (.dup, 1) := by decide +kernel
theorem dX4_init_9 : decode cX4_init 9 = .ok (.bipush 12, 2) := by decide +kernel
theorem dX4_init_11 : decode cX4_init 11 = .ok (.invokespecial 11, 3) := by decide +kernel
theorem dX4_init_14 : decode cX4_init 14 = .ok (.putfield 14, 3) := by decide +kernel
theorem dX4_init_17 : decode cX4_init 17 = .ok (.aload_n 0, 1) := by decide +kernel
theorem dX4_init_18 : decode cX4_init 18 = .ok (.new 9, 3) := by decide +kernel
theorem dX4_init_21 : decode cX4_init 21 = .ok (.dup, 1) := by decide +kernel
theorem dX4_init_22 : decode cX4_init 22 = .ok (.bipush 12, 2) := by decide +kernel
theorem dX4_init_24 : decode cX4_init 24 = .ok (.invokespecial 11, 3) := by decide +kernel
theorem dX4_init_27 : decode cX4_init 27 = .ok (.putfield 20, 3) := by decide +kernel
theorem dX4_init_30 : decode cX4_init 30 = .ok (.aload_n 0, 1) := by decide +kernel
theorem dX4_init_31 : decode cX4_init 31 = .ok (.iconst 0, 1) := by decide +kernel
theorem dX4_init_32 : decode cX4_init 32 = .ok (.putfield 23, 3) := by decide +kernel
theorem dX4_init_35 : decode cX4_init 35 = .ok (.aload_n 0, 1) := by decide +kernel
theorem dX4_init_36 : decode cX4_init 36 = .ok (.iconst 0, 1) := by decide +kernel
theorem dX4_init_37 : decode cX4_init 37 = .ok (.putfield 27, 3) := by decide +kernel
theorem dX4_init_40 : decode cX4_init 40 = .ok (.return_, 1) := by decide +kernel
theorem dX4_begin_0 : decode cX4_begin 0 = .ok (.aload_n 0, 1) := by decide +kernel
theorem dX4_begin_1 : decode cX4_begin 1 = .ok (.getfield 14, 3) := by decide +kernel
theorem dX4_begin_4 : decode cX4_begin 4 = .ok (.invokevirtual 31, 3) := by decide +kernel
theorem dX4_begin_7 : decode cX4_begin 7 = .ok (.aload_n 0, 1) := by decide +kernel
theorem dX4_begin_8 : decode cX4_begin 8 = .ok (.getfield 20, 3) := by decide +kernel
theorem dX4_begin_11 : decode cX4_begin 11 = .ok (.invokevirtual 31, 3) := by decide +kernel
theorem dX4_begin_14 : decode cX4_begin 14 = .ok (.aload_n 0, 1) := by decide +kernel
theorem dX4_begin_15 : decode cX4_begin 15 = .ok (.iconst 0, 1) := by decide +kernel
theorem dX4_begin_16 : decode cX4_begin 16 = .ok (.putfield 23, 3) := by decide +kernel
theorem dX4_begin_19 : decode cX4_begin 19 = .ok (.aload_n 0, 1) := by decide +kernel
theorem dX4_begin_20 : decode cX4_begin 20 = .ok (.iconst 0, 1) := by decide +kernel
theorem dX4_begin_21 : decode cX4_begin 21 = .ok (.putfield 27, 3) := by decide +kernel
theorem dX4_begin_24 : decode cX4_begin 24 = .ok (.return_, 1) := by decide +kernel
theorem dX4_copyFrom_0 : decode cX4_copyFrom 0 = .ok (.aload_n 0, 1) := by decide +kernel
theorem dX4_copyFrom_1 : decode cX4_copyFrom 1 = .ok (.getfield 14, 3) := by decide +kernel
theorem dX4_copyFrom_4 : decode cX4_copyFrom 4 = .ok (.aload_n 1, 1) := by decide +kernel
theorem dX4_copyFrom_5 : decode cX4_copyFrom 5 = .ok (.getfield 14, 3) := by decide +kernel
theorem dX4_copyFrom_8 : decode cX4_copyFrom 8 = .ok (.invokevirtual 34, 3) := by decide +kernel
theorem dX4_copyFrom_11 : decode cX4_copyFrom 11 = .ok (.aload_n 0, 1) := by decide +kernel
theorem dX4_copyFrom_12 : decode cX4_copyFrom 12 = .ok (.getfield 20, 3) := by decide +kernel
theorem dX4_copyFrom_15 : decode cX4_copyFrom 15 = .ok (.aload_n 1, 1) := by decide +kernel
theorem dX4_copyFrom_16 : decode cX4_copyFrom 16 = .ok (.getfield 20, 3) := by decide +kernel
theorem dX4_copyFrom_19 : decode cX4_copyFrom 19 = .ok (.invokevirtual 34, 3) := by decide +kernel
theorem dX4_copyFrom_22 : decode cX4_copyFrom 22 = .ok (.aload_n 0, 1) := by decide +kernel
theorem dX4_copyFrom_23 : decode cX4_copyFrom 23 = .ok (.aload_n 1, 1) := by decide +kernel
theorem dX4_copyFrom_24 : decode cX4_copyFrom 24 = .ok (.getfield 23, 3) := by decide +kernel
theorem dX4_copyFrom_27 : decode cX4_copyFrom 27 = .ok (.putfield 23, 3) := by decide +kernel
theorem dX4_copyFrom_30 : decode cX4_copyFrom 30 = .ok (.aload_n 0, 1) := by decide +kernel
theorem dX4_copyFrom_31 : decode cX4_copyFrom 31 = .ok (.aload_n 1, 1) := by decide +kernel
theorem dX4_copyFrom_32 : decode cX4_copyFrom 32 = .ok (.getfield 27, 3) := by decide +kernel
theorem dX4_copyFrom_35 : decode cX4_copyFrom 35 = .ok (.putfield 27, 3) := by decide +kernel
theorem dX4_copyFrom_38 : decode cX4_copyFrom 38 = .ok (.return_, 1) := by decide +kernel
theorem dX4_fits_0 : decode cX4_fits 0 = .ok (.aload_n 1, 1) := by decide +kernel
theorem dX4_fits_1 : decode cX4_fits 1 = .ok (.invokevirtual 38, 3) := by decide +kernel
theorem dX4_fits_4 : decode cX4_fits 4 = .ok (.iload_n 2, 1) := by decide +kernel
theorem dX4_fits_5 : decode cX4_fits 5 = .ok (.isub, 1) := by decide +kernel
theorem dX4_fits_6 : decode cX4_fits 6 = .ok (.istore 4, 2) := by decide +kernel
theorem dX4_fits_8 : decode cX4_fits 8 = .ok (.aload_n 0, 1) := by decide +kernel
theorem dX4_fits_9 : decode cX4_fits 9 = .ok (.getfield 14, 3) := by decide +kernel
theorem dX4_fits_12 : decode cX4_fits 12 = .ok (.invokevirtual 38, 3) := by decide +kernel
theorem dX4_fits_15 : decode cX4_fits 15 = .ok (.aload_n 0, 1) := by decide +kernel
theorem dX4_fits_16 : decode cX4_fits 16 = .ok (.getfield 20, 3) := by decide +kernel
theorem dX4_fits_19 : decode cX4_fits 19 = .ok (.invokevirtual 38, 3) := by decide +kernel
theorem dX4_fits_22 : decode cX4_fits 22 = .ok (.iadd, 1) := by decide +kernel
theorem dX4_fits_23 : decode cX4_fits 23 = .ok (.istore 5, 2) := by decide +kernel
theorem dX4_fits_25 : decode cX4_fits 25 = .ok (.iload 4, 2) := by decide +kernel
theorem dX4_fits_27 : decode cX4_fits 27 = .ok (.iload 5, 2) := by decide +kernel
theorem dX4_fits_29 : decode cX4_fits 29 = .ok (.if_icmp .lt 17, 3) := by decide +kernel
theorem dX4_fits_32 : decode cX4_fits 32 = .ok (.iload 4, 2) := by decide +kernel
theorem dX4_fits_34 : decode cX4_fits 34 = .ok (.iload 5, 2) := by decide +kernel
theorem dX4_fits_36 : decode cX4_fits 36 = .ok (.if_icmp .le 12, 3) := by decide +kernel
theorem dX4_fits_39 : decode cX4_fits 39 = .ok (.aload_n 0, 1) := by decide +kernel
theorem dX4_fits_40 : decode cX4_fits 40 = .ok (.getfield 23, 3) := by decide +kernel
theorem dX4_fits_43 : decode cX4_fits 43 = .ok (.ifCond .ne 5, 3) := by decide +kernel
theorem dX4_fits_46 : decode cX4_fits 46 = .ok (.iconst 0, 1) := by decide +kernel
theorem dX4_fits_47 : decode cX4_fits 47 = .ok (.ireturn, 1) := by decide +kernel
theorem dX4_fits_48 : decode cX4_fits 48 = .ok (.aload_n 0, 1) := by decide +kernel
theorem dX4_fits_49 : decode cX4_fits 49 = .ok (.getfield 27, 3) := by decide +kernel
theorem dX4_fits_52 : decode cX4_fits 52 = .ok (.iload_n 3, 1) := by decide +kernel
theorem dX4_fits_53 : decode cX4_fits 53 = .ok (.invokestatic 42, 3) := by decide +kernel
theorem dX4_fits_56 : decode cX4_fits 56 = .ok (.ifCond .eq 42, 3) := by decide +kernel
theorem dX4_fits_59 : decode cX4_fits 59 = .ok (.aload_n 1, 1) := by decide +kernel
theorem dX4_fits_60 : decode cX4_fits 60 = .ok (.iload_n 2, 1) := by decide +kernel
theorem dX4_fits_61 : decode cX4_fits 61 = .ok (.aload_n 0, 1) := by decide +kernel
theorem dX4_fits_62 : decode cX4_fits 62 = .ok (.getfield 14, 3) := by decide +kernel
theorem dX4_fits_65 : decode cX4_fits 65 = .ok (.invokevirtual 48, 3) := by decide +kernel
theorem dX4_fits_68 : decode cX4_fits 68 = .ok (.ifCond .eq 30, 3) := by decide +kernel
theorem dX4_fits_71 : decode cX4_fits 71 = .ok (.aload_n 1, 1) := by decide +kernel
theorem dX4_fits_72 : decode cX4_fits 72 = .ok (.aload_n 1, 1) := by decide +kernel
theorem dX4_fits_73 : decode cX4_fits 73 = .ok (.invokevirtual 38, 3) := by decide +kernel
theorem dX4_fits_76 : decode cX4_fits 76 = .ok (.aload_n 0, 1) := by decide +kernel
theorem dX4_fits_77 : decode cX4_fits 77 = .ok (.getfield 20, 3) := by decide +kernel
theorem dX4_fits_80 : decode cX4_fits 80 = .ok (.invokevirtual 38, 3) := by decide +kernel
theorem dX4_fits_83 : decode cX4_fits 83 = .ok (.isub, 1) := by decide +kernel
theorem dX4_fits_84 : decode cX4_fits 84 = .ok (.aload_n 0, 1) := by decide +kernel
theorem dX4_fits_85 : decode cX4_fits 85 = .ok (.getfield 20, 3) := by decide +kernel
theorem dX4_fits_88 : decode cX4_fits 88 = .ok (.invokevirtual 48, 3) := by decide +kernel
theorem dX4_fits_91 : decode cX4_fits 91 = .ok (.ifCond .eq 7, 3) := by decide +kernel
theorem dX4_fits_94 : decode cX4_fits 94 = .ok (.iconst 1, 1) := by decide +kernel
theorem dX4_fits_95 : decode cX4_fits 95 = .ok (.goto 4, 3) := by decide +kernel
theorem dX4_fits_98 : decode cX4_fits 98 = .ok (.iconst 0, 1) := by decide +kernel
theorem dX4_fits_99 : decode cX4_fits 99 = .ok (.ireturn, 1) := by decide +kernel
theorem dX4_printTo_0 : decode cX4_printTo 0 = .ok (.aload_n 1, 1) := by decide +kernel
theorem dX4_printTo_1 : decode cX4_printTo 1 = .ok (.ldc 52, 2) := by decide +kernel
theorem dX4_printTo_3 : decode cX4_printTo 3 = .ok (.invokevirtual 54, 3) := by decide +kernel
theorem dX4_printTo_6 : decode cX4_printTo 6 = .ok (.aload_n 1, 1) := by decide +kernel
theorem dX4_printTo_7 : decode cX4_printTo 7 = .ok (.aload_n 0, 1) := by decide +kernel
theorem dX4_printTo_8 : decode cX4_printTo 8 = .ok (.getfield 14, 3) := by decide +kernel
theorem dX4_printTo_11 : decode cX4_printTo 11 = .ok (.invokevirtual 58, 3) := by decide +kernel
theorem dX4_printTo_14 : decode cX4_printTo 14 = .ok (.aload_n 0, 1) := by decide +kernel
theorem dX4_printTo_15 : decode cX4_printTo 15 = .ok (.getfield 23, 3) := by decide +kernel
theorem dX4_printTo_18 : decode cX4_printTo 18 = .ok (.ifCond .eq 9, 3) := by decide +kernel
theorem dX4_printTo_21 : decode cX4_printTo 21 = .ok (.aload_n 1, 1) := by decide +kernel
theorem dX4_printTo_22 : decode cX4_printTo 22 = .ok (.bipush 42, 2) := by decide +kernel
theorem dX4_printTo_24 : decode cX4_printTo 24 = .ok (.invokevirtual 61, 3) := by decide +kernel
theorem dX4_printTo_27 : decode cX4_printTo 27 = .ok (.aload_n 1, 1) := by decide +kernel
theorem dX4_printTo_28 : decode cX4_printTo 28 = .ok (.aload_n 0, 1) := by decide +kernel
theorem dX4_printTo_29 : decode cX4_printTo 29 = .ok (.getfield 20, 3) := by decide +kernel
theorem dX4_printTo_32 : decode cX4_printTo 32 = .ok (.invokevirtual 58, 3) := by decide +kernel
theorem dX4_printTo_35 : decode cX4_printTo 35 = .ok (.aload_n 1, 1) := by decide +kernel
theorem dX4_printTo_36 : decode cX4_printTo 36 = .ok (.bipush 58, 2) := by decide +kernel
theorem dX4_printTo_38 : decode cX4_printTo 38 = .ok (.invokevirtual 61, 3) := by decide +kernel
theorem dX4_printTo_41 : decode cX4_printTo 41 = .ok (.aload_n 1, 1) := by decide +kernel
theorem dX4_printTo_42 : decode cX4_printTo 42 = .ok (.aload_n 0, 1) := by decide +kernel
theorem dX4_printTo_43 : decode cX4_printTo 43 = .ok (.getfield 27, 3) := by decide +kernel
theorem dX4_printTo_46 : decode cX4_printTo 46 = .ok (.invokestatic 64, 3) := by decide +kernel
theorem dX4_printTo_49 : decode cX4_printTo 49 = .ok (.invokevirtual 54, 3) := by decide +kernel
theorem dX4_printTo_52 : decode cX4_printTo 52 = .ok (.aload_n 1, 1) := by decide +kernel
theorem dX4_printTo_53 : decode cX4_printTo 53 = .ok (.bipush 59, 2) := by decide +kernel
theorem dX4_printTo_55 : decode cX4_printTo 55 = .ok (.invokevirtual 61, 3) := by decide +kernel
theorem dX4_printTo_58 : decode cX4_printTo 58 = .ok (.return_, 1) := by decide +kernel
theorem dX5_init_0 : decode cX5_init 0 = .ok (.aload_n 0, 1) := by decide +kernel
theorem dX5_init_1 : decode cX5_init 1 = .ok (.invokespecial 3, 3) := by decide +kernel
theorem dX5_init_4 : decode cX5_init 4 = .ok (.aload_n 0, 1) := by decide +kernel
theorem dX5_init_5 : decode cX5_init 5 = .ok (.new 9, 3) := by decide +kernel
theorem dX5_init_8 : decode cX5_init 8 = .ok (.dup, 1) := by decide +kernel
theorem dX5_init_9 : decode cX5_init 9 = .ok (.bipush 64, 2) := by decide +kernel
theorem dX5_init_11 : decode cX5_init 11 = .ok (.invokespecial 11, 3) := by decide +kernel
theorem dX5_init_14 : decode cX5_init 14 = .ok (.putfield 14, 3) := by decide +kernel
theorem dX5_init_17 : decode cX5_init 17 = .ok (.aload_n 0, 1) := by decide +kernel
theorem dX5_init_18 : decode cX5_init 18 = .ok (.iconst 4, 1) := by decide +kernel
theorem dX5_init_19 : decode cX5_init 19 = .ok (.newarray .int, 2) := by decide +kernel
theorem dX5_init_21 : decode cX5_init 21 = .ok (.putfield 20, 3) := by decide +kernel
theorem dX5_init_24 : decode cX5_init 24 = .ok (.aload_n 0, 1) := by decide +kernel
theorem dX5_init_25 : decode cX5_init 25 = .ok (.bipush 40, 2) := by decide +kernel
theorem dX5_init_27 : decode cX5_init 27 = .ok (.newarray .int, 2) := by decide +kernel
theorem dX5_init_29 : decode cX5_init 29 = .ok (.putfield 24, 3) := by decide +kernel
theorem dX5_init_32 : decode cX5_init 32 = .ok (.aload_n 0, 1) := by decide +kernel
theorem dX5_init_33 : decode cX5_init 33 = .ok (.bipush 40, 2) := by decide +kernel
theorem dX5_init_35 : decode cX5_init 35 = .ok (.newarray .int, 2) := by decide +kernel
theorem dX5_init_37 : decode cX5_init 37 = .ok (.putfield 27, 3) := by decide +kernel
theorem dX5_init_40 : decode cX5_init 40 = .ok (.aload_n 0, 1) := by decide +kernel
theorem dX5_init_41 : decode cX5_init 41 = .ok (.bipush 40, 2) := by decide +kernel
theorem dX5_init_43 : decode cX5_init 43 = .ok (.newarray .int, 2) := by decide +kernel
theorem dX5_init_45 : decode cX5_init 45 = .ok (.putfield 30, 3) := by decide +kernel
theorem dX5_init_48 : decode cX5_init 48 = .ok (.aload_n 0, 1) := by decide +kernel
theorem dX5_init_49 : decode cX5_init 49 = .ok (.iconst 0, 1) := by decide +kernel
theorem dX5_init_50 : decode cX5_init 50 = .ok (.putfield 33, 3) := by decide +kernel
theorem dX5_init_53 : decode cX5_init 53 = .ok (.aload_n 0, 1) := by decide +kernel
theorem dX5_init_54 : decode cX5_init 54 = .ok (.iconst 0, 1) := by decide +kernel
theorem dX5_init_55 : decode cX5_init 55 = .ok (.putfield 37, 3) := by decide +kernel
theorem dX5_init_58 : decode cX5_init 58 = .ok (.aload_n 0, 1) := by decide +kernel
theorem dX5_init_59 : decode cX5_init 59 = .ok (.iconst 0, 1) := by decide +kernel
theorem dX5_init_60 : decode cX5_init 60 = .ok (.putfield 40, 3) := by decide +kernel
theorem dX5_init_63 : decode cX5_init 63 = .ok (.aload_n 0, 1) := by decide +kernel
theorem dX5_init_64 : decode cX5_init 64 = .ok (.iconst 0, 1) := by decide +kernel
theorem dX5_init_65 : decode cX5_init 65 = .ok (.putfield 43, 3) := by decide +kernel
theorem dX5_init_68 : decode cX5_init 68 = .ok (.aload_n 0, 1) := by decide +kernel
theorem dX5_init_69 : decode cX5_init 69 = .ok (.iconst 0, 1) := by decide +kernel
theorem dX5_init_70 : decode cX5_init 70 = .ok (.putfield 46, 3) := by decide +kernel
theorem dX5_init_73 : decode cX5_init 73 = .ok (.aload_n 0, 1) := by decide +kernel
theorem dX5_init_74 : decode cX5_init 74 = .ok (.bipush (-2), 2) := by decide +kernel
theorem dX5_init_76 : decode cX5_init 76 = .ok (.putfield 50, 3) := by decide +kernel
theorem dX5_init_79 : decode cX5_init 79 = .ok (.aload_n 0, 1) := by decide +kernel
theorem dX5_init_80 : decode cX5_init 80 = .ok (.iconst 0, 1) := by decide +kernel
theorem dX5_init_81 : decode cX5_init 81 = .ok (.putfield 53, 3) := by decide +kernel
theorem dX5_init_84 : decode cX5_init 84 = .ok (.aload_n 0, 1) := by decide +kernel
theorem dX5_init_85 : decode cX5_init 85 = .ok (.bipush (-2), 2) := by decide +kernel
theorem dX5_init_87 : decode cX5_init 87 = .ok (.putfield 56, 3) := by decide +kernel
theorem dX5_init_90 : decode cX5_init 90 = .ok (.aload_n 0, 1) := by decide +kernel
theorem dX5_init_91 : decode cX5_init 91 = .ok (.aload_n 1, 1) := by decide +kernel
theorem dX5_init_92 : decode cX5_init 92 = .ok (.putfield 59, 3) := by decide +kernel
theorem dX5_init_95 : decode cX5_init 95 = .ok (.aload_n 0, 1) := by decide +kernel
theorem dX5_init_96 : decode cX5_init 96 = .ok (.aload_n 2, 1) := by decide +kernel
theorem dX5_init_97 : decode cX5_init 97 = .ok (.putfield 63, 3) := by decide +kernel
theorem dX5_init_100 : decode cX5_init 100 = .ok (.aload_n 0, 1) := by decide +kernel
theorem dX5_init_101 : decode cX5_init 101 = .ok (.aload_n 2, 1) := by decide +kernel
theorem dX5_init_102 : decode cX5_init 102 = .ok (.getfield 67, 3) := by decide +kernel
theorem dX5_init_105 : decode cX5_init 105 = .ok (.iconst 0, 1) := by decide +kernel
theorem dX5_init_106 : decode cX5_init 106 = .ok (.aaload, 1) := by decide +kernel
theorem dX5_init_107 : decode cX5_init 107 = .ok (.putfield 73, 3) := by decide +kernel
theorem dX5_init_110 : decode cX5_init 110 = .ok (.aload_n 0, 1) := by decide +kernel
theorem dX5_init_111 : decode cX5_init 111 = .ok (.aload_n 2, 1) := by decide +kernel
theorem dX5_init_112 : decode cX5_init 112 = .ok (.getfield 77, 3) := by decide +kernel
theorem dX5_init_115 : decode cX5_init 115 = .ok (.iconst 0, 1) := by decide +kernel
theorem dX5_init_116 : decode cX5_init 116 = .ok (.aaload, 1) := by decide +kernel
theorem dX5_init_117 : decode cX5_init 117 = .ok (.putfield 81, 3) := by decide +kernel
theorem dX5_init_120 : decode cX5_init 120 = .ok (.return_, 1) := by decide +kernel
theorem dX5_placeOfFault_0 : decode cX5_placeOfFault 0 = .ok (.aload_n 0, 1) := by decide +kernel
theorem dX5_placeOfFault_1 : decode cX5_placeOfFault 1 = .ok (.getfield 56, 3) := by decide +kernel
theorem dX5_placeOfFault_4 : decode cX5_placeOfFault 4 = .ok (.ireturn, 1) := by decide +kernel
theorem dX5_readInto_0 : decode cX5_readInto 0 = .ok (.aload_n 0, 1) := by decide +kernel
theorem dX5_readInto_1 : decode cX5_readInto 1 = .ok (.aload_n 1, 1) := by decide +kernel
theorem dX5_readInto_2 : decode cX5_readInto 2 = .ok (.invokevirtual 85, 3) := by decide +kernel
theorem dX5_readInto_5 : decode cX5_readInto 5 = .ok (.aload_n 0, 1) := by decide +kernel
theorem dX5_readInto_6 : decode cX5_readInto 6 = .ok (.getfield 59, 3) := by decide +kernel
theorem dX5_readInto_9 : decode cX5_readInto 9 = .ok (.invokevirtual 89, 3) := by decide +kernel
theorem dX5_readInto_12 : decode cX5_readInto 12 = .ok (.istore_n 2, 1) := by decide +kernel
theorem dX5_readInto_13 : decode cX5_readInto 13 = .ok (.iload_n 2, 1) := by decide +kernel
theorem dX5_readInto_14 : decode cX5_readInto 14 = .ok (.iconst (-1), 1) := by decide +kernel
theorem dX5_readInto_15 : decode cX5_readInto 15 = .ok (.if_icmp .eq 10, 3) := by decide +kernel
theorem dX5_readInto_18 : decode cX5_readInto 18 = .ok (.aload_n 0, 1) := by decide +kernel
theorem dX5_readInto_19 : decode cX5_readInto 19 = .ok (.iconst 1, 1) := by decide +kernel
theorem dX5_readInto_20 : decode cX5_readInto 20 = .ok (.iload_n 2, 1) := by decide +kernel
theorem dX5_readInto_21 : decode cX5_readInto 21 = .ok (.invokevirtual 95, 3) := by decide +kernel
theorem dX5_readInto_24 : decode cX5_readInto 24 = .ok (.ireturn, 1) := by decide +kernel
theorem dX5_readInto_25 : decode cX5_readInto 25 = .ok (.iconst 0, 1) := by decide +kernel
theorem dX5_readInto_26 : decode cX5_readInto 26 = .ok (.istore_n 3, 1) := by decide +kernel
theorem dX5_readInto_27 : decode cX5_readInto 27 = .ok (.iload_n 3, 1) := by decide +kernel
theorem dX5_readInto_28 : decode cX5_readInto 28 = .ok (.aload_n 0, 1) := by decide +kernel
theorem dX5_readInto_29 : decode cX5_readInto 29 = .ok (.getfield 59, 3) := by decide +kernel
theorem dX5_readInto_32 : decode cX5_readInto 32 = .ok (.invokevirtual 99, 3) := by decide +kernel
theorem dX5_readInto_35 : decode cX5_readInto 35 = .ok (.if_icmp .ge 36, 3) := by decide +kernel
theorem dX5_readInto_38 : decode cX5_readInto 38 = .ok (.aload_n 0, 1) := by decide +kernel
theorem dX5_readInto_39 : decode cX5_readInto 39 = .ok (.iload_n 3, 1) := by decide +kernel
theorem dX5_readInto_40 : decode cX5_readInto 40 = .ok (.invokevirtual 102, 3) := by decide +kernel
theorem dX5_readInto_43 : decode cX5_readInto 43 = .ok (.istore 4, 2) := by decide +kernel
theorem dX5_readInto_45 : decode cX5_readInto 45 = .ok (.iload 4, 2) := by decide +kernel
theorem dX5_readInto_47 : decode cX5_readInto 47 = .ok (.ifCond .eq 18, 3) := by decide +kernel
theorem dX5_readInto_50 : decode cX5_readInto 50 = .ok (.aload_n 0, 1) := by decide +kernel
theorem dX5_readInto_51 : decode cX5_readInto 51 = .ok (.iload 4, 2) := by decide +kernel
theorem dX5_readInto_53 : decode cX5_readInto 53 = .ok (.aload_n 0, 1) := by decide +kernel
theorem dX5_readInto_54 : decode cX5_readInto 54 = .ok (.getfield 59, 3) := by decide +kernel
theorem dX5_readInto_57 : decode cX5_readInto 57 = .ok (.iload_n 3, 1) := by decide +kernel
theorem dX5_readInto_58 : decode cX5_readInto 58 = .ok (.invokevirtual 106, 3) := by decide +kernel
theorem dX5_readInto_61 : decode cX5_readInto 61 = .ok (.invokevirtual 95, 3) := by decide +kernel
theorem dX5_readInto_64 : decode cX5_readInto 64 = .ok (.ireturn, 1) := by decide +kernel
theorem dX5_readInto_65 : decode cX5_readInto 65 = .ok (.iinc 3 1, 3) := by decide +kernel
theorem dX5_readInto_68 : decode cX5_readInto 68 = .ok (.goto (-41), 3) := by decide +kernel
theorem dX5_readInto_71 : decode cX5_readInto 71 = .ok (.aload_n 0, 1) := by decide +kernel
theorem dX5_readInto_72 : decode cX5_readInto 72 = .ok (.getfield 33, 3) := by decide +kernel
theorem dX5_readInto_75 : decode cX5_readInto 75 = .ok (.ifCond .ne 10, 3) := by decide +kernel
theorem dX5_readInto_78 : decode cX5_readInto 78 = .ok (.aload_n 0, 1) := by decide +kernel
theorem dX5_readInto_79 : decode cX5_readInto 79 = .ok (.getfield 37, 3) := by decide +kernel
theorem dX5_readInto_82 : decode cX5_readInto 82 = .ok (.ifCond .le 16, 3) := by decide +kernel
theorem dX5_readInto_85 : decode cX5_readInto 85 = .ok (.aload_n 0, 1) := by decide +kernel
theorem dX5_readInto_86 : decode cX5_readInto 86 = .ok (.iconst 2, 1) := by decide +kernel
theorem dX5_readInto_87 : decode cX5_readInto 87 = .ok (.aload_n 0, 1) := by decide +kernel
theorem dX5_readInto_88 : decode cX5_readInto 88 = .ok (.getfield 59, 3) := by decide +kernel
theorem dX5_readInto_91 : decode cX5_readInto 91 = .ok (.invokevirtual 109, 3) := by decide +kernel
theorem dX5_readInto_94 : decode cX5_readInto 94 = .ok (.invokevirtual 95, 3) := by decide +kernel
theorem dX5_readInto_97 : decode cX5_readInto 97 = .ok (.ireturn, 1) := by decide +kernel
theorem dX5_readInto_98 : decode cX5_readInto 98 = .ok (.aload_n 0, 1) := by decide +kernel
theorem dX5_readInto_99 : decode cX5_readInto 99 = .ok (.invokevirtual 112, 3) := by decide +kernel
theorem dX5_readInto_102 : decode cX5_readInto 102 = .ok (.aload_n 0, 1) := by decide +kernel
theorem dX5_readInto_103 : decode cX5_readInto 103 = .ok (.invokevirtual 115, 3) := by decide +kernel
theorem dX5_readInto_106 : decode cX5_readInto 106 = .ok (.aload_n 0, 1) := by decide +kernel
theorem dX5_readInto_107 : decode cX5_readInto 107 = .ok (.invokevirtual 118, 3) := by decide +kernel
theorem dX5_readInto_110 : decode cX5_readInto 110 = .ok (.aload_n 0, 1) := by decide +kernel
theorem dX5_readInto_111 : decode cX5_readInto 111 = .ok (.getfield 53, 3) := by decide +kernel
theorem dX5_readInto_114 : decode cX5_readInto 114 = .ok (.ireturn, 1) := by decide +kernel
theorem dX5_begin_0 : decode cX5_begin 0 = .ok (.aload_n 0, 1) := by decide +kernel
theorem dX5_begin_1 : decode cX5_begin 1 = .ok (.aload_n 1, 1) := by decide +kernel
theorem dX5_begin_2 : decode cX5_begin 2 = .ok (.putfield 63, 3) := by decide +kernel
theorem dX5_begin_5 : decode cX5_begin 5 = .ok (.aload_n 0, 1) := by decide +kernel
theorem dX5_begin_6 : decode cX5_begin 6 = .ok (.getfield 63, 3) := by decide +kernel
theorem dX5_begin_9 : decode cX5_begin 9 = .ok (.invokevirtual 121, 3) := by decide +kernel
theorem dX5_begin_12 : decode cX5_begin 12 = .ok (.aload_n 0, 1) := by decide +kernel
theorem dX5_begin_13 : decode cX5_begin 13 = .ok (.iconst 0, 1) := by decide +kernel
theorem dX5_begin_14 : decode cX5_begin 14 = .ok (.putfield 33, 3) := by decide +kernel
theorem dX5_begin_17 : decode cX5_begin 17 = .ok (.aload_n 0, 1) := by decide +kernel
theorem dX5_begin_18 : decode cX5_begin 18 = .ok (.iconst 0, 1) := by decide +kernel
theorem dX5_begin_19 : decode cX5_begin 19 = .ok (.putfield 37, 3) := by decide +kernel
theorem dX5_begin_22 : decode cX5_begin 22 = .ok (.aload_n 0, 1) := by decide +kernel
theorem dX5_begin_23 : decode cX5_begin 23 = .ok (.bipush (-2), 2) := by decide +kernel
theorem dX5_begin_25 : decode cX5_begin 25 = .ok (.putfield 50, 3) := by decide +kernel
theorem dX5_begin_28 : decode cX5_begin 28 = .ok (.aload_n 0, 1) := by decide +kernel
theorem dX5_begin_29 : decode cX5_begin 29 = .ok (.iconst 0, 1) := by decide +kernel
theorem dX5_begin_30 : decode cX5_begin 30 = .ok (.putfield 53, 3) := by decide +kernel
theorem dX5_begin_33 : decode cX5_begin 33 = .ok (.aload_n 0, 1) := by decide +kernel
theorem dX5_begin_34 : decode cX5_begin 34 = .ok (.bipush (-2), 2) := by decide +kernel
theorem dX5_begin_36 : decode cX5_begin 36 = .ok (.putfield 56, 3) := by decide +kernel
theorem dX5_begin_39 : decode cX5_begin 39 = .ok (.return_, 1) := by decide +kernel
theorem dX5_stop_0 : decode cX5_stop 0 = .ok (.aload_n 0, 1) := by decide +kernel
theorem dX5_stop_1 : decode cX5_stop 1 = .ok (.iload_n 1, 1) := by decide +kernel
theorem dX5_stop_2 : decode cX5_stop 2 = .ok (.putfield 53, 3) := by decide +kernel
theorem dX5_stop_5 : decode cX5_stop 5 = .ok (.aload_n 0, 1) := by decide +kernel
theorem dX5_stop_6 : decode cX5_stop 6 = .ok (.iload_n 2, 1) := by decide +kernel
theorem dX5_stop_7 : decode cX5_stop 7 = .ok (.putfield 56, 3) := by decide +kernel
theorem dX5_stop_10 : decode cX5_stop 10 = .ok (.iload_n 1, 1) := by decide +kernel
theorem dX5_stop_11 : decode cX5_stop 11 = .ok (.ireturn, 1) := by decide +kernel
theorem dX5_blame_0 : decode cX5_blame 0 = .ok (.aload_n 0, 1) := by decide +kernel
theorem dX5_blame_1 : decode cX5_blame 1 = .ok (.getfield 53, 3) := by decide +kernel
theorem dX5_blame_4 : decode cX5_blame 4 = .ok (.ifCond .eq 27, 3) := by decide +kernel
theorem dX5_blame_7 : decode cX5_blame 7 = .ok (.iload_n 2, 1) := by decide +kernel
theorem dX5_blame_8 : decode cX5_blame 8 = .ok (.aload_n 0, 1) := by decide +kernel
theorem dX5_blame_9 : decode cX5_blame 9 = .ok (.getfield 56, 3) := by decide +kernel
theorem dX5_blame_12 : decode cX5_blame 12 = .ok (.if_icmp .lt 19, 3) := by decide +kernel
theorem dX5_blame_15 : decode cX5_blame 15 = .ok (.iload_n 2, 1) := by decide +kernel
theorem dX5_blame_16 : decode cX5_blame 16 = .ok (.aload_n 0, 1) := by decide +kernel
theorem dX5_blame_17 : decode cX5_blame 17 = .ok (.getfield 56, 3) := by decide +kernel
theorem dX5_blame_20 : decode cX5_blame 20 = .ok (.if_icmp .ne 21, 3) := by decide +kernel
theorem dX5_blame_23 : decode cX5_blame 23 = .ok (.iload_n 1, 1) := by decide +kernel
theorem dX5_blame_24 : decode cX5_blame 24 = .ok (.aload_n 0, 1) := by decide +kernel
theorem dX5_blame_25 : decode cX5_blame 25 = .ok (.getfield 53, 3) := by decide +kernel
theorem dX5_blame_28 : decode cX5_blame 28 = .ok (.if_icmp .ge 13, 3) := by decide +kernel
theorem dX5_blame_31 : decode cX5_blame 31 = .ok (.aload_n 0, 1) := by decide +kernel
theorem dX5_blame_32 : decode cX5_blame 32 = .ok (.iload_n 1, 1) := by decide +kernel
theorem dX5_blame_33 : decode cX5_blame 33 = .ok (.putfield 53, 3) := by decide +kernel
theorem dX5_blame_36 : decode cX5_blame 36 = .ok (.aload_n 0, 1) := by decide +kernel
theorem dX5_blame_37 : decode cX5_blame 37 = .ok (.iload_n 2, 1) := by decide +kernel
theorem dX5_blame_38 : decode cX5_blame 38 = .ok (.putfield 56, 3) := by decide +kernel
theorem dX5_blame_41 : decode cX5_blame 41 = .ok (.return_, 1) := by decide +kernel
theorem dX5_step_0 : decode cX5_step 0 = .ok (.aload_n 0, 1) := by decide +kernel
theorem dX5_step_1 : decode cX5_step 1 = .ok (.getfield 33, 3) := by decide +kernel
theorem dX5_step_4 : decode cX5_step 4 = .ok (.tableswitch 216 0 16 #[84, 106, 115, 121, 127, 133, 143, 149, 155, 164, 170, 176, 182, 188, 194, 204, 210], 84) := by decide +kernel
theorem dX5_step_88 : decode cX5_step 88 = .ok (.aload_n 0, 1) := by decide +kernel
theorem dX5_step_89 : decode cX5_step 89 = .ok (.iload_n 1, 1) := by decide +kernel
theorem dX5_step_90 : decode cX5_step 90 = .ok (.invokevirtual 123, 3) := by decide +kernel
theorem dX5_step_93 : decode cX5_step 93 = .ok (.ifCond .eq 11, 3) := by decide +kernel
theorem dX5_step_96 : decode cX5_step 96 = .ok (.aload_n 0, 1) := by decide +kernel
theorem dX5_step_97 : decode cX5_step 97 = .ok (.iload_n 1, 1) := by decide +kernel
theorem dX5_step_98 : decode cX5_step 98 = .ok (.invokevirtual 127, 3) := by decide +kernel
theorem dX5_step_101 : decode cX5_step 101 = .ok (.goto 8, 3) := by decide +kernel
theorem dX5_step_104 : decode cX5_step 104 = .ok (.aload_n 0, 1) := by decide +kernel
theorem dX5_step_105 : decode cX5_step 105 = .ok (.iload_n 1, 1) := by decide +kernel
theorem dX5_step_106 : decode cX5_step 106 = .ok (.invokevirtual 130, 3) := by decide +kernel
theorem dX5_step_109 : decode cX5_step 109 = .ok (.ireturn, 1) := by decide +kernel
theorem dX5_step_110 : decode cX5_step 110 = .ok (.aload_n 0, 1) := by decide +kernel
theorem dX5_step_111 : decode cX5_step 111 = .ok (.iload_n 1, 1) := by decide +kernel
theorem dX5_step_112 : decode cX5_step 112 = .ok (.bipush 58, 2) := by decide +kernel
theorem dX5_step_114 : decode cX5_step 114 = .ok (.iconst 2, 1) := by decide +kernel
theorem dX5_step_115 : decode cX5_step 115 = .ok (.invokevirtual 133, 3) := by decide +kernel
theorem dX5_step_118 : decode cX5_step 118 = .ok (.ireturn, 1) := by decide +kernel
theorem dX5_step_119 : decode cX5_step 119 = .ok (.aload_n 0, 1) := by decide +kernel
theorem dX5_step_120 : decode cX5_step 120 = .ok (.iload_n 1, 1) := by decide +kernel
theorem dX5_step_121 : decode cX5_step 121 = .ok (.invokevirtual 137, 3) := by decide +kernel
theorem dX5_step_124 : decode cX5_step 124 = .ok (.ireturn, 1) := by decide +kernel
theorem dX5_step_125 : decode cX5_step 125 = .ok (.aload_n 0, 1) := by decide +kernel
theorem dX5_step_126 : decode cX5_step 126 = .ok (.iload_n 1, 1) := by decide +kernel
theorem dX5_step_127 : decode cX5_step 127 = .ok (.invokevirtual 140, 3) := by decide +kernel
theorem dX5_step_130 : decode cX5_step 130 = .ok (.ireturn, 1) := by decide +kernel
theorem dX5_step_131 : decode cX5_step 131 = .ok (.aload_n 0, 1) := by decide +kernel
theorem dX5_step_132 : decode cX5_step 132 = .ok (.iload_n 1, 1) := by decide +kernel
theorem dX5_step_133 : decode cX5_step 133 = .ok (.invokevirtual 143, 3) := by decide +kernel
theorem dX5_step_136 : decode cX5_step 136 = .ok (.ireturn, 1) := by decide +kernel
theorem dX5_step_137 : decode cX5_step 137 = .ok (.aload_n 0, 1) := by decide +kernel
theorem dX5_step_138 : decode cX5_step 138 = .ok (.iload_n 1, 1) := by decide +kernel
theorem dX5_step_139 : decode cX5_step 139 = .ok (.bipush 61, 2) := by decide +kernel
theorem dX5_step_141 : decode cX5_step 141 = .ok (.bipush 6, 2) := by decide +kernel
theorem dX5_step_143 : decode cX5_step 143 = .ok (.invokevirtual 133, 3) := by decide +kernel
theorem dX5_step_146 : decode cX5_step 146 = .ok (.ireturn, 1) := by decide +kernel
theorem dX5_step_147 : decode cX5_step 147 = .ok (.aload_n 0, 1) := by decide +kernel
theorem dX5_step_148 : decode cX5_step 148 = .ok (.iload_n 1, 1) := by decide +kernel
theorem dX5_step_149 : decode cX5_step 149 = .ok (.invokevirtual 146, 3) := by decide +kernel
theorem dX5_step_152 : decode cX5_step 152 = .ok (.ireturn, 1) := by decide +kernel
theorem dX5_step_153 : decode cX5_step 153 = .ok (.aload_n 0, 1) := by decide +kernel
theorem dX5_step_154 : decode cX5_step 154 = .ok (.iload_n 1, 1) := by decide +kernel
theorem dX5_step_155 : decode cX5_step 155 = .ok (.invokevirtual 149, 3) := by decide +kernel
theorem dX5_step_158 : decode cX5_step 158 = .ok (.ireturn, 1) := by decide +kernel
theorem dX5_step_159 : decode cX5_step 159 = .ok (.aload_n 0, 1) := by decide +kernel
theorem dX5_step_160 : decode cX5_step 160 = .ok (.iload_n 1, 1) := by decide +kernel
theorem dX5_step_161 : decode cX5_step 161 = .ok (.iconst 1, 1) := by decide +kernel
theorem dX5_step_162 : decode cX5_step 162 = .ok (.bipush 9, 2) := by decide +kernel
theorem dX5_step_164 : decode cX5_step 164 = .ok (.invokevirtual 133, 3) := by decide +kernel
theorem dX5_step_167 : decode cX5_step 167 = .ok (.ireturn, 1) := by decide +kernel
theorem dX5_step_168 : decode cX5_step 168 = .ok (.aload_n 0, 1) := by decide +kernel
theorem dX5_step_169 : decode cX5_step 169 = .ok (.iload_n 1, 1) := by decide +kernel
theorem dX5_step_170 : decode cX5_step 170 = .ok (.invokevirtual 152, 3) := by decide +kernel
theorem dX5_step_173 : decode cX5_step 173 = .ok (.ireturn, 1) := by decide +kernel
theorem dX5_step_174 : decode cX5_step 174 = .ok (.aload_n 0, 1) := by decide +kernel
theorem dX5_step_175 : decode cX5_step 175 = .ok (.iload_n 1, 1) := by decide +kernel
theorem dX5_step_176 : decode cX5_step 176 = .ok (.invokevirtual 155, 3) := by decide +kernel
theorem dX5_step_179 : decode cX5_step 179 = .ok (.ireturn, 1) := by decide +kernel
theorem dX5_step_180 : decode cX5_step 180 = .ok (.aload_n 0, 1) := by decide +kernel
theorem dX5_step_181 : decode cX5_step 181 = .ok (.iload_n 1, 1) := by decide +kernel
theorem dX5_step_182 : decode cX5_step 182 = .ok (.invokevirtual 158, 3) := by decide +kernel
theorem dX5_step_185 : decode cX5_step 185 = .ok (.ireturn, 1) := by decide +kernel
theorem dX5_step_186 : decode cX5_step 186 = .ok (.aload_n 0, 1) := by decide +kernel
theorem dX5_step_187 : decode cX5_step 187 = .ok (.iload_n 1, 1) := by decide +kernel
theorem dX5_step_188 : decode cX5_step 188 = .ok (.invokevirtual 161, 3) := by decide +kernel
theorem dX5_step_191 : decode cX5_step 191 = .ok (.ireturn, 1) := by decide +kernel
theorem dX5_step_192 : decode cX5_step 192 = .ok (.aload_n 0, 1) := by decide +kernel
theorem dX5_step_193 : decode cX5_step 193 = .ok (.iload_n 1, 1) := by decide +kernel
theorem dX5_step_194 : decode cX5_step 194 = .ok (.invokevirtual 164, 3) := by decide +kernel
theorem dX5_step_197 : decode cX5_step 197 = .ok (.ireturn, 1) := by decide +kernel
theorem dX5_step_198 : decode cX5_step 198 = .ok (.aload_n 0, 1) := by decide +kernel
theorem dX5_step_199 : decode cX5_step 199 = .ok (.iload_n 1, 1) := by decide +kernel
theorem dX5_step_200 : decode cX5_step 200 = .ok (.bipush 58, 2) := by decide +kernel
theorem dX5_step_202 : decode cX5_step 202 = .ok (.bipush 15, 2) := by decide +kernel
theorem dX5_step_204 : decode cX5_step 204 = .ok (.invokevirtual 133, 3) := by decide +kernel
theorem dX5_step_207 : decode cX5_step 207 = .ok (.ireturn, 1) := by decide +kernel
theorem dX5_step_208 : decode cX5_step 208 = .ok (.aload_n 0, 1) := by decide +kernel
theorem dX5_step_209 : decode cX5_step 209 = .ok (.iload_n 1, 1) := by decide +kernel
theorem dX5_step_210 : decode cX5_step 210 = .ok (.invokevirtual 167, 3) := by decide +kernel
theorem dX5_step_213 : decode cX5_step 213 = .ok (.ireturn, 1) := by decide +kernel
theorem dX5_step_214 : decode cX5_step 214 = .ok (.aload_n 0, 1) := by decide +kernel
theorem dX5_step_215 : decode cX5_step 215 = .ok (.iload_n 1, 1) := by decide +kernel
theorem dX5_step_216 : decode cX5_step 216 = .ok (.invokevirtual 170, 3) := by decide +kernel
theorem dX5_step_219 : decode cX5_step 219 = .ok (.ireturn, 1) := by decide +kernel
theorem dX5_step_220 : decode cX5_step 220 = .ok (.aload_n 0, 1) := by decide +kernel
theorem dX5_step_221 : decode cX5_step 221 = .ok (.iload_n 1, 1) := by decide +kernel
theorem dX5_step_222 : decode cX5_step 222 = .ok (.bipush 59, 2) := by decide +kernel
theorem dX5_step_224 : decode cX5_step 224 = .ok (.iconst 0, 1) := by decide +kernel
theorem dX5_step_225 : decode cX5_step 225 = .ok (.invokevirtual 133, 3) := by decide +kernel
theorem dX5_step_228 : decode cX5_step 228 = .ok (.ireturn, 1) := by decide +kernel
theorem dX5_expect_0 : decode cX5_expect 0 = .ok (.aload_n 0, 1) := by decide +kernel
theorem dX5_expect_1 : decode cX5_expect 1 = .ok (.getfield 59, 3) := by decide +kernel
theorem dX5_expect_4 : decode cX5_expect 4 = .ok (.iload_n 1, 1) := by decide +kernel
theorem dX5_expect_5 : decode cX5_expect 5 = .ok (.invokevirtual 173, 3) := by decide +kernel
theorem dX5_expect_8 : decode cX5_expect 8 = .ok (.iload_n 2, 1) := by decide +kernel
theorem dX5_expect_9 : decode cX5_expect 9 = .ok (.if_icmp .eq 5, 3) := by decide +kernel
theorem dX5_expect_12 : decode cX5_expect 12 = .ok (.iconst 2, 1) := by decide +kernel
theorem dX5_expect_13 : decode cX5_expect 13 = .ok (.ireturn, 1) := by decide +kernel
theorem dX5_expect_14 : decode cX5_expect 14 = .ok (.aload_n 0, 1) := by decide +kernel
theorem dX5_expect_15 : decode cX5_expect 15 = .ok (.iload_n 3, 1) := by decide +kernel
theorem dX5_expect_16 : decode cX5_expect 16 = .ok (.putfield 33, 3) := by decide +kernel
theorem dX5_expect_19 : decode cX5_expect 19 = .ok (.iconst 0, 1) := by decide +kernel
theorem dX5_expect_20 : decode cX5_expect 20 = .ok (.ireturn, 1) := by decide +kernel
theorem dX5_isFieldName_0 : decode cX5_isFieldName 0 = .ok (.aload_n 0, 1) := by decide +kernel
theorem dX5_isFieldName_1 : decode cX5_isFieldName 1 = .ok (.getfield 59, 3) := by decide +kernel
theorem dX5_isFieldName_4 : decode cX5_isFieldName 4 = .ok (.iload_n 1, 1) := by decide +kernel
theorem dX5_isFieldName_5 : decode cX5_isFieldName 5 = .ok (.invokevirtual 173, 3) := by decide +kernel
theorem dX5_isFieldName_8 : decode cX5_isFieldName 8 = .ok (.iconst 1, 1) := by decide +kernel
theorem dX5_isFieldName_9 : decode cX5_isFieldName 9 = .ok (.if_icmp .ne 33, 3) := by decide +kernel
theorem dX5_isFieldName_12 : decode cX5_isFieldName 12 = .ok (.aload_n 0, 1) := by decide +kernel
theorem dX5_isFieldName_13 : decode cX5_isFieldName 13 = .ok (.getfield 59, 3) := by decide +kernel
theorem dX5_isFieldName_16 : decode cX5_isFieldName 16 = .ok (.iload_n 1, 1) := by decide +kernel
theorem dX5_isFieldName_17 : decode cX5_isFieldName 17 = .ok (.ldc 176, 2) := by decide +kernel
theorem dX5_isFieldName_19 : decode cX5_isFieldName 19 = .ok (.invokevirtual 177, 3) := by decide +kernel
theorem dX5_isFieldName_22 : decode cX5_isFieldName 22 = .ok (.ifCond .ne 20, 3) := by decide +kernel
theorem dX5_isFieldName_25 : decode cX5_isFieldName 25 = .ok (.aload_n 0, 1) := by decide +kernel
theorem dX5_isFieldName_26 : decode cX5_isFieldName 26 = .ok (.getfield 59, 3) := by decide +kernel
theorem dX5_isFieldName_29 : decode cX5_isFieldName 29 = .ok (.iload_n 1, 1) := by decide +kernel
theorem dX5_isFieldName_30 : decode cX5_isFieldName 30 = .ok (.ldc 181, 2) := by decide +kernel
theorem dX5_isFieldName_32 : decode cX5_isFieldName 32 = .ok (.invokevirtual 177, 3) := by decide +kernel
theorem dX5_isFieldName_35 : decode cX5_isFieldName 35 = .ok (.ifCond .ne 7, 3) := by decide +kernel
theorem dX5_isFieldName_38 : decode cX5_isFieldName 38 = .ok (.iconst 1, 1) := by decide +kernel
theorem dX5_isFieldName_39 : decode cX5_isFieldName 39 = .ok (.goto 4, 3) := by decide +kernel
theorem dX5_isFieldName_42 : decode cX5_isFieldName 42 = .ok (.iconst 0, 1) := by decide +kernel
theorem dX5_isFieldName_43 : decode cX5_isFieldName 43 = .ok (.ireturn, 1) := by decide +kernel
theorem dX5_stepItem_0 : decode cX5_stepItem 0 = .ok (.aload_n 0, 1) := by decide +kernel
theorem dX5_stepItem_1 : decode cX5_stepItem 1 = .ok (.getfield 37, 3) := by decide +kernel
theorem dX5_stepItem_4 : decode cX5_stepItem 4 = .ok (.ifCond .le 33, 3) := by decide +kernel
theorem dX5_stepItem_7 : decode cX5_stepItem 7 = .ok (.aload_n 0, 1) := by decide +kernel
theorem dX5_stepItem_8 : decode cX5_stepItem 8 = .ok (.iload_n 1, 1) := by decide +kernel
theorem dX5_stepItem_9 : decode cX5_stepItem 9 = .ok (.bipush 125, 2) := by decide +kernel
theorem dX5_stepItem_11 : decode cX5_stepItem 11 = .ok (.bipush 17, 2) := by decide +kernel
theorem dX5_stepItem_13 : decode cX5_stepItem 13 = .ok (.invokevirtual 133, 3) := by decide +kernel
theorem dX5_stepItem_16 : decode cX5_stepItem 16 = .ok (.istore_n 2, 1) := by decide +kernel
theorem dX5_stepItem_17 : decode cX5_stepItem 17 = .ok (.aload_n 0, 1) := by decide +kernel
theorem dX5_stepItem_18 : decode cX5_stepItem 18 = .ok (.dup, 1) := by decide +kernel
theorem dX5_stepItem_19 : decode cX5_stepItem 19 = .ok (.getfield 37, 3) := by decide +kernel
theorem dX5_stepItem_22 : decode cX5_stepItem 22 = .ok (.iload_n 2, 1) := by decide +kernel
theorem dX5_stepItem_23 : decode cX5_stepItem 23 = .ok (.ifCond .ne 7, 3) := by decide +kernel
theorem dX5_stepItem_26 : decode cX5_stepItem 26 = .ok (.iconst 1, 1) := by decide +kernel
theorem dX5_stepItem_27 : decode cX5_stepItem 27 = .ok (.goto 4, 3) := by decide +kernel
theorem dX5_stepItem_30 : decode cX5_stepItem 30 = .ok (.iconst 0, 1) := by decide +kernel
theorem dX5_stepItem_31 : decode cX5_stepItem 31 = .ok (.isub, 1) := by decide +kernel
theorem dX5_stepItem_32 : decode cX5_stepItem 32 = .ok (.putfield 37, 3) := by decide +kernel
theorem dX5_stepItem_35 : decode cX5_stepItem 35 = .ok (.iload_n 2, 1) := by decide +kernel
theorem dX5_stepItem_36 : decode cX5_stepItem 36 = .ok (.ireturn, 1) := by decide +kernel
theorem dX5_stepItem_37 : decode cX5_stepItem 37 = .ok (.aload_n 0, 1) := by decide +kernel
theorem dX5_stepItem_38 : decode cX5_stepItem 38 = .ok (.getfield 59, 3) := by decide +kernel
theorem dX5_stepItem_41 : decode cX5_stepItem 41 = .ok (.iload_n 1, 1) := by decide +kernel
theorem dX5_stepItem_42 : decode cX5_stepItem 42 = .ok (.invokevirtual 173, 3) := by decide +kernel
theorem dX5_stepItem_45 : decode cX5_stepItem 45 = .ok (.iconst 1, 1) := by decide +kernel
theorem dX5_stepItem_46 : decode cX5_stepItem 46 = .ok (.if_icmp .eq 5, 3) := by decide +kernel
theorem dX5_stepItem_49 : decode cX5_stepItem 49 = .ok (.iconst 2, 1) := by decide +kernel
theorem dX5_stepItem_50 : decode cX5_stepItem 50 = .ok (.ireturn, 1) := by decide +kernel
theorem dX5_stepItem_51 : decode cX5_stepItem 51 = .ok (.aload_n 0, 1) := by decide +kernel
theorem dX5_stepItem_52 : decode cX5_stepItem 52 = .ok (.getfield 59, 3) := by decide +kernel
theorem dX5_stepItem_55 : decode cX5_stepItem 55 = .ok (.iload_n 1, 1) := by decide +kernel
theorem dX5_stepItem_56 : decode cX5_stepItem 56 = .ok (.ldc 176, 2) := by decide +kernel
theorem dX5_stepItem_58 : decode cX5_stepItem 58 = .ok (.invokevirtual 177, 3) := by decide +kernel
theorem dX5_stepItem_61 : decode cX5_stepItem 61 = .ok (.ifCond .eq 10, 3) := by decide +kernel
theorem dX5_stepItem_64 : decode cX5_stepItem 64 = .ok (.aload_n 0, 1) := by decide +kernel
theorem dX5_stepItem_65 : decode cX5_stepItem 65 = .ok (.invokevirtual 183, 3) := by decide +kernel
theorem dX5_stepItem_68 : decode cX5_stepItem 68 = .ok (.goto 8, 3) := by decide +kernel
theorem dX5_stepItem_71 : decode cX5_stepItem 71 = .ok (.aload_n 0, 1) := by decide +kernel
theorem dX5_stepItem_72 : decode cX5_stepItem 72 = .ok (.iload_n 1, 1) := by decide +kernel
theorem dX5_stepItem_73 : decode cX5_stepItem 73 = .ok (.invokevirtual 186, 3) := by decide +kernel
theorem dX5_stepItem_76 : decode cX5_stepItem 76 = .ok (.ireturn, 1) := by decide +kernel
theorem dX5_stepFieldName_0 : decode cX5_stepFieldName 0 = .ok (.aload_n 0, 1) := by decide +kernel
theorem dX5_stepFieldName_1 : decode cX5_stepFieldName 1 = .ok (.getfield 63, 3) := by decide +kernel
theorem dX5_stepFieldName_4 : decode cX5_stepFieldName 4 = .ok (.getfield 189, 3) := by decide +kernel
theorem dX5_stepFieldName_7 : decode cX5_stepFieldName 7 = .ok (.istore_n 2, 1) := by decide +kernel
theorem dX5_stepFieldName_8 : decode cX5_stepFieldName 8 = .ok (.iload_n 2, 1) := by decide +kernel
theorem dX5_stepFieldName_9 : decode cX5_stepFieldName 9 = .ok (.bipush 40, 2) := by decide +kernel
theorem dX5_stepFieldName_11 : decode cX5_stepFieldName 11 = .ok (.if_icmp .lt 5, 3) := by decide +kernel
theorem dX5_stepFieldName_14 : decode cX5_stepFieldName 14 = .ok (.iconst 3, 1) := by decide +kernel
theorem dX5_stepFieldName_15 : decode cX5_stepFieldName 15 = .ok (.ireturn, 1) := by decide +kernel
theorem dX5_stepFieldName_16 : decode cX5_stepFieldName 16 = .ok (.aload_n 0, 1) := by decide +kernel
theorem dX5_stepFieldName_17 : decode cX5_stepFieldName 17 = .ok (.getfield 63, 3) := by decide +kernel
theorem dX5_stepFieldName_20 : decode cX5_stepFieldName 20 = .ok (.iload_n 2, 1) := by decide +kernel
theorem dX5_stepFieldName_21 : decode cX5_stepFieldName 21 = .ok (.aload_n 0, 1) := by decide +kernel
theorem dX5_stepFieldName_22 : decode cX5_stepFieldName 22 = .ok (.getfield 37, 3) := by decide +kernel
theorem dX5_stepFieldName_25 : decode cX5_stepFieldName 25 = .ok (.ifCond .le 17, 3) := by decide +kernel
theorem dX5_stepFieldName_28 : decode cX5_stepFieldName 28 = .ok (.aload_n 0, 1) := by decide +kernel
theorem dX5_stepFieldName_29 : decode cX5_stepFieldName 29 = .ok (.getfield 20, 3) := by decide +kernel
theorem dX5_stepFieldName_32 : decode cX5_stepFieldName 32 = .ok (.aload_n 0, 1) := by decide +kernel
theorem dX5_stepFieldName_33 : decode cX5_stepFieldName 33 = .ok (.getfield 37, 3) := by decide +kernel
theorem dX5_stepFieldName_36 : decode cX5_stepFieldName 36 = .ok (.iconst 1, 1) := by decide +kernel
theorem dX5_stepFieldName_37 : decode cX5_stepFieldName 37 = .ok (.isub, 1) := by decide +kernel
theorem dX5_stepFieldName_38 : decode cX5_stepFieldName 38 = .ok (.iaload, 1) := by decide +kernel
theorem dX5_stepFieldName_39 : decode cX5_stepFieldName 39 = .ok (.goto 5, 3) := by decide +kernel
theorem dX5_stepFieldName_42 : decode cX5_stepFieldName 42 = .ok (.bipush (-2), 2) := by decide +kernel
theorem dX5_stepFieldName_44 : decode cX5_stepFieldName 44 = .ok (.invokevirtual 192, 3) := by decide +kernel
theorem dX5_stepFieldName_47 : decode cX5_stepFieldName 47 = .ok (.aload_n 0, 1) := by decide +kernel
theorem dX5_stepFieldName_48 : decode cX5_stepFieldName 48 = .ok (.aload_n 0, 1) := by decide +kernel
theorem dX5_stepFieldName_49 : decode cX5_stepFieldName 49 = .ok (.getfield 63, 3) := by decide +kernel
theorem dX5_stepFieldName_52 : decode cX5_stepFieldName 52 = .ok (.getfield 67, 3) := by decide +kernel
theorem dX5_stepFieldName_55 : decode cX5_stepFieldName 55 = .ok (.iload_n 2, 1) := by decide +kernel
theorem dX5_stepFieldName_56 : decode cX5_stepFieldName 56 = .ok (.aaload, 1) := by decide +kernel
theorem dX5_stepFieldName_57 : decode cX5_stepFieldName 57 = .ok (.putfield 73, 3) := by decide +kernel
theorem dX5_stepFieldName_60 : decode cX5_stepFieldName 60 = .ok (.aload_n 0, 1) := by decide +kernel
theorem dX5_stepFieldName_61 : decode cX5_stepFieldName 61 = .ok (.iload_n 1, 1) := by decide +kernel
theorem dX5_stepFieldName_62 : decode cX5_stepFieldName 62 = .ok (.putfield 40, 3) := by decide +kernel
theorem dX5_stepFieldName_65 : decode cX5_stepFieldName 65 = .ok (.aload_n 0, 1) := by decide +kernel
theorem dX5_stepFieldName_66 : decode cX5_stepFieldName 66 = .ok (.getfield 59, 3) := by decide +kernel
theorem dX5_stepFieldName_69 : decode cX5_stepFieldName 69 = .ok (.aload_n 0, 1) := by decide +kernel
theorem dX5_stepFieldName_70 : decode cX5_stepFieldName 70 = .ok (.getfield 73, 3) := by decide +kernel
theorem dX5_stepFieldName_73 : decode cX5_stepFieldName 73 = .ok (.getfield 196, 3) := by decide +kernel
theorem dX5_stepFieldName_76 : decode cX5_stepFieldName 76 = .ok (.iload_n 1, 1) := by decide +kernel
theorem dX5_stepFieldName_77 : decode cX5_stepFieldName 77 = .ok (.invokevirtual 199, 3) := by decide +kernel
theorem dX5_stepFieldName_80 : decode cX5_stepFieldName 80 = .ok (.aload_n 0, 1) := by decide +kernel
theorem dX5_stepFieldName_81 : decode cX5_stepFieldName 81 = .ok (.iload_n 2, 1) := by decide +kernel
theorem dX5_stepFieldName_82 : decode cX5_stepFieldName 82 = .ok (.invokevirtual 203, 3) := by decide +kernel
theorem dX5_stepFieldName_85 : decode cX5_stepFieldName 85 = .ok (.ifCond .eq 16, 3) := by decide +kernel
theorem dX5_stepFieldName_88 : decode cX5_stepFieldName 88 = .ok (.aload_n 0, 1) := by decide +kernel
theorem dX5_stepFieldName_89 : decode cX5_stepFieldName 89 = .ok (.iconst 4, 1) := by decide +kernel
theorem dX5_stepFieldName_90 : decode cX5_stepFieldName 90 = .ok (.aload_n 0, 1) := by decide +kernel
theorem dX5_stepFieldName_91 : decode cX5_stepFieldName 91 = .ok (.getfield 59, 3) := by decide +kernel
theorem dX5_stepFieldName_94 : decode cX5_stepFieldName 94 = .ok (.iload_n 1, 1) := by decide +kernel
theorem dX5_stepFieldName_95 : decode cX5_stepFieldName 95 = .ok (.invokevirtual 106, 3) := by decide +kernel
theorem dX5_stepFieldName_98 : decode cX5_stepFieldName 98 = .ok (.invokevirtual 206, 3) := by decide +kernel
theorem dX5_stepFieldName_101 : decode cX5_stepFieldName 101 = .ok (.aload_n 0, 1) := by decide +kernel
theorem dX5_stepFieldName_102 : decode cX5_stepFieldName 102 = .ok (.getfield 63, 3) := by decide +kernel
theorem dX5_stepFieldName_105 : decode cX5_stepFieldName 105 = .ok (.dup, 1) := by decide +kernel
theorem dX5_stepFieldName_106 : decode cX5_stepFieldName 106 = .ok (.getfield 189, 3) := by decide +kernel
theorem dX5_stepFieldName_109 : decode cX5_stepFieldName 109 = .ok (.iconst 1, 1) := by decide +kernel
theorem dX5_stepFieldName_110 : decode cX5_stepFieldName 110 = .ok (.iadd, 1) := by decide +kernel
theorem dX5_stepFieldName_111 : decode cX5_stepFieldName 111 = .ok (.putfield 189, 3) := by decide +kernel
theorem dX5_stepFieldName_114 : decode cX5_stepFieldName 114 = .ok (.aload_n 0, 1) := by decide +kernel
theorem dX5_stepFieldName_115 : decode cX5_stepFieldName 115 = .ok (.iconst 1, 1) := by decide +kernel
theorem dX5_stepFieldName_116 : decode cX5_stepFieldName 116 = .ok (.putfield 33, 3) := by decide +kernel
theorem dX5_stepFieldName_119 : decode cX5_stepFieldName 119 = .ok (.iconst 0, 1) := by decide +kernel
theorem dX5_stepFieldName_120 : decode cX5_stepFieldName 120 = .ok (.ireturn, 1) := by decide +kernel
theorem dX5_isNameTwice_0 : decode cX5_isNameTwice 0 = .ok (.iconst 0, 1) := by decide +kernel
theorem dX5_isNameTwice_1 : decode cX5_isNameTwice 1 = .ok (.istore_n 2, 1) := by decide +kernel
theorem dX5_isNameTwice_2 : decode cX5_isNameTwice 2 = .ok (.iload_n 2, 1) := by decide +kernel
theorem dX5_isNameTwice_3 : decode cX5_isNameTwice 3 = .ok (.iload_n 1, 1) := by decide +kernel
theorem dX5_isNameTwice_4 : decode cX5_isNameTwice 4 = .ok (.if_icmp .ge 52, 3) := by decide +kernel
theorem dX5_isNameTwice_7 : decode cX5_isNameTwice 7 = .ok (.aload_n 0, 1) := by decide +kernel
theorem dX5_isNameTwice_8 : decode cX5_isNameTwice 8 = .ok (.getfield 63, 3) := by decide +kernel
theorem dX5_isNameTwice_11 : decode cX5_isNameTwice 11 = .ok (.getfield 67, 3) := by decide +kernel
theorem dX5_isNameTwice_14 : decode cX5_isNameTwice 14 = .ok (.iload_n 2, 1) := by decide +kernel
theorem dX5_isNameTwice_15 : decode cX5_isNameTwice 15 = .ok (.aaload, 1) := by decide +kernel
theorem dX5_isNameTwice_16 : decode cX5_isNameTwice 16 = .ok (.astore_n 3, 1) := by decide +kernel
theorem dX5_isNameTwice_17 : decode cX5_isNameTwice 17 = .ok (.aload_n 3, 1) := by decide +kernel
theorem dX5_isNameTwice_18 : decode cX5_isNameTwice 18 = .ok (.getfield 209, 3) := by decide +kernel
theorem dX5_isNameTwice_21 : decode cX5_isNameTwice 21 = .ok (.aload_n 0, 1) := by decide +kernel
theorem dX5_isNameTwice_22 : decode cX5_isNameTwice 22 = .ok (.getfield 73, 3) := by decide +kernel
theorem dX5_isNameTwice_25 : decode cX5_isNameTwice 25 = .ok (.getfield 209, 3) := by decide +kernel
theorem dX5_isNameTwice_28 : decode cX5_isNameTwice 28 = .ok (.if_icmp .ne 22, 3) := by decide +kernel
theorem dX5_isNameTwice_31 : decode cX5_isNameTwice 31 = .ok (.aload_n 3, 1) := by decide +kernel
theorem dX5_isNameTwice_32 : decode cX5_isNameTwice 32 = .ok (.getfield 196, 3) := by decide +kernel
theorem dX5_isNameTwice_35 : decode cX5_isNameTwice 35 = .ok (.aload_n 0, 1) := by decide +kernel
theorem dX5_isNameTwice_36 : decode cX5_isNameTwice 36 = .ok (.getfield 73, 3) := by decide +kernel
theorem dX5_isNameTwice_39 : decode cX5_isNameTwice 39 = .ok (.getfield 196, 3) := by decide +kernel
theorem dX5_isNameTwice_42 : decode cX5_isNameTwice 42 = .ok (.invokevirtual 212, 3) := by decide +kernel
theorem dX5_isNameTwice_45 : decode cX5_isNameTwice 45 = .ok (.ifCond .eq 5, 3) := by decide +kernel
theorem dX5_isNameTwice_48 : decode cX5_isNameTwice 48 = .ok (.iconst 1, 1) := by decide +kernel
theorem dX5_isNameTwice_49 : decode cX5_isNameTwice 49 = .ok (.ireturn, 1) := by decide +kernel
theorem dX5_isNameTwice_50 : decode cX5_isNameTwice 50 = .ok (.iinc 2 1, 3) := by decide +kernel
theorem dX5_isNameTwice_53 : decode cX5_isNameTwice 53 = .ok (.goto (-51), 3) := by decide +kernel
theorem dX5_isNameTwice_56 : decode cX5_isNameTwice 56 = .ok (.iconst 0, 1) := by decide +kernel
theorem dX5_isNameTwice_57 : decode cX5_isNameTwice 57 = .ok (.ireturn, 1) := by decide +kernel
theorem dX5_kindOf_0 : decode cX5_kindOf 0 = .ok (.iconst 0, 1) := by decide +kernel
theorem dX5_kindOf_1 : decode cX5_kindOf 1 = .ok (.istore_n 2, 1) := by decide +kernel
theorem dX5_kindOf_2 : decode cX5_kindOf 2 = .ok (.iload_n 2, 1) := by decide +kernel
theorem dX5_kindOf_3 : decode cX5_kindOf 3 = .ok (.bipush 8, 2) := by decide +kernel
theorem dX5_kindOf_5 : decode cX5_kindOf 5 = .ok (.if_icmp .ge 26, 3) := by decide +kernel
theorem dX5_kindOf_8 : decode cX5_kindOf 8 = .ok (.aload_n 0, 1) := by decide +kernel
theorem dX5_kindOf_9 : decode cX5_kindOf 9 = .ok (.getfield 59, 3) := by decide +kernel
theorem dX5_kindOf_12 : decode cX5_kindOf 12 = .ok (.iload_n 1, 1) := by decide +kernel
theorem dX5_kindOf_13 : decode cX5_kindOf 13 = .ok (.iload_n 2, 1) := by decide +kernel
theorem dX5_kindOf_14 : decode cX5_kindOf 14 = .ok (.invokestatic 218, 3) := by decide +kernel
theorem dX5_kindOf_17 : decode cX5_kindOf 17 = .ok (.invokevirtual 177, 3) := by decide +kernel
theorem dX5_kindOf_20 : decode cX5_kindOf 20 = .ok (.ifCond .eq 5, 3) := by decide +kernel
theorem dX5_kindOf_23 : decode cX5_kindOf 23 = .ok (.iload_n 2, 1) := by decide +kernel
theorem dX5_kindOf_24 : decode cX5_kindOf 24 = .ok (.ireturn, 1) := by decide +kernel
theorem dX5_kindOf_25 : decode cX5_kindOf 25 = .ok (.iinc 2 1, 3) := by decide +kernel
theorem dX5_kindOf_28 : decode cX5_kindOf 28 = .ok (.goto (-26), 3) := by decide +kernel
theorem dX5_kindOf_31 : decode cX5_kindOf 31 = .ok (.bipush (-2), 2) := by decide +kernel
theorem dX5_kindOf_33 : decode cX5_kindOf 33 = .ok (.ireturn, 1) := by decide +kernel
theorem dX5_optionOf_0 : decode cX5_optionOf 0 = .ok (.iconst 0, 1) := by decide +kernel
theorem dX5_optionOf_1 : decode cX5_optionOf 1 = .ok (.istore_n 2, 1) := by decide +kernel
theorem dX5_optionOf_2 : decode cX5_optionOf 2 = .ok (.iload_n 2, 1) := by decide +kernel
theorem dX5_optionOf_3 : decode cX5_optionOf 3 = .ok (.bipush 7, 2) := by decide +kernel
theorem dX5_optionOf_5 : decode cX5_optionOf 5 = .ok (.if_icmp .ge 26, 3) := by decide +kernel
theorem dX5_optionOf_8 : decode cX5_optionOf 8 = .ok (.aload_n 0, 1) := by decide +kernel
theorem dX5_optionOf_9 : decode cX5_optionOf 9 = .ok (.getfield 59, 3) := by decide +kernel
theorem dX5_optionOf_12 : decode cX5_optionOf 12 = .ok (.iload_n 1, 1) := by decide +kernel
theorem dX5_optionOf_13 : decode cX5_optionOf 13 = .ok (.iload_n 2, 1) := by decide +kernel
theorem dX5_optionOf_14 : decode cX5_optionOf 14 = .ok (.invokestatic 222, 3) := by decide +kernel
theorem dX5_optionOf_17 : decode cX5_optionOf 17 = .ok (.invokevirtual 177, 3) := by decide +kernel
theorem dX5_optionOf_20 : decode cX5_optionOf 20 = .ok (.ifCond .eq 5, 3) := by decide +kernel
theorem dX5_optionOf_23 : decode cX5_optionOf 23 = .ok (.iload_n 2, 1) := by decide +kernel
theorem dX5_optionOf_24 : decode cX5_optionOf 24 = .ok (.ireturn, 1) := by decide +kernel
theorem dX5_optionOf_25 : decode cX5_optionOf 25 = .ok (.iinc 2 1, 3) := by decide +kernel
theorem dX5_optionOf_28 : decode cX5_optionOf 28 = .ok (.goto (-26), 3) := by decide +kernel
theorem dX5_optionOf_31 : decode cX5_optionOf 31 = .ok (.bipush (-2), 2) := by decide +kernel
theorem dX5_optionOf_33 : decode cX5_optionOf 33 = .ok (.ireturn, 1) := by decide +kernel
theorem dX5_stepKind_0 : decode cX5_stepKind 0 = .ok (.aload_n 0, 1) := by decide +kernel
theorem dX5_stepKind_1 : decode cX5_stepKind 1 = .ok (.iload_n 1, 1) := by decide +kernel
theorem dX5_stepKind_2 : decode cX5_stepKind 2 = .ok (.invokevirtual 225, 3) := by decide +kernel
theorem dX5_stepKind_5 : decode cX5_stepKind 5 = .ok (.istore_n 2, 1) := by decide +kernel
theorem dX5_stepKind_6 : decode cX5_stepKind 6 = .ok (.iload_n 2, 1) := by decide +kernel
theorem dX5_stepKind_7 : decode cX5_stepKind 7 = .ok (.ifCond .ge 5, 3) := by decide +kernel
theorem dX5_stepKind_10 : decode cX5_stepKind 10 = .ok (.iconst 2, 1) := by decide +kernel
theorem dX5_stepKind_11 : decode cX5_stepKind 11 = .ok (.ireturn, 1) := by decide +kernel
theorem dX5_stepKind_12 : decode cX5_stepKind 12 = .ok (.aload_n 0, 1) := by decide +kernel
theorem dX5_stepKind_13 : decode cX5_stepKind 13 = .ok (.getfield 73, 3) := by decide +kernel
theorem dX5_stepKind_16 : decode cX5_stepKind 16 = .ok (.iload_n 2, 1) := by decide +kernel
theorem dX5_stepKind_17 : decode cX5_stepKind 17 = .ok (.putfield 228, 3) := by decide +kernel
theorem dX5_stepKind_20 : decode cX5_stepKind 20 = .ok (.aload_n 0, 1) := by decide +kernel
theorem dX5_stepKind_21 : decode cX5_stepKind 21 = .ok (.iconst 3, 1) := by decide +kernel
theorem dX5_stepKind_22 : decode cX5_stepKind 22 = .ok (.putfield 33, 3) := by decide +kernel
theorem dX5_stepKind_25 : decode cX5_stepKind 25 = .ok (.iconst 0, 1) := by decide +kernel
theorem dX5_stepKind_26 : decode cX5_stepKind 26 = .ok (.ireturn, 1) := by decide +kernel

theorem dX5_stepBehindKind_0 : decode cX5_stepBehindKind 0 = .ok (.aload_n 0, 1) := by decide +kernel
theorem dX5_stepBehindKind_1 : decode cX5_stepBehindKind 1 = .ok (.getfield 59, 3) := by decide +kernel
theorem dX5_stepBehindKind_4 : decode cX5_stepBehindKind 4 = .ok (.iload_n 1, 1) := by decide +kernel
theorem dX5_stepBehindKind_5 : decode cX5_stepBehindKind 5 = .ok (.invokevirtual 173, 3) := by decide +kernel
theorem dX5_stepBehindKind_8 : decode cX5_stepBehindKind 8 = .ok (.bipush 40, 2) := by decide +kernel
theorem dX5_stepBehindKind_10 : decode cX5_stepBehindKind 10 = .ok (.if_icmp .ne 10, 3) := by decide +kernel
theorem dX5_stepBehindKind_13 : decode cX5_stepBehindKind 13 = .ok (.aload_n 0, 1) := by decide +kernel
theorem dX5_stepBehindKind_14 : decode cX5_stepBehindKind 14 = .ok (.iconst 4, 1) := by decide +kernel
theorem dX5_stepBehindKind_15 : decode cX5_stepBehindKind 15 = .ok (.putfield 33, 3) := by decide +kernel
theorem dX5_stepBehindKind_18 : decode cX5_stepBehindKind 18 = .ok (.iconst 0, 1) := by decide +kernel
theorem dX5_stepBehindKind_19 : decode cX5_stepBehindKind 19 = .ok (.ireturn, 1) := by decide +kernel
theorem dX5_stepBehindKind_20 : decode cX5_stepBehindKind 20 = .ok (.aload_n 0, 1) := by decide +kernel
theorem dX5_stepBehindKind_21 : decode cX5_stepBehindKind 21 = .ok (.iload_n 1, 1) := by decide +kernel
theorem dX5_stepBehindKind_22 : decode cX5_stepBehindKind 22 = .ok (.invokevirtual 155, 3) := by decide +kernel
theorem dX5_stepBehindKind_25 : decode cX5_stepBehindKind 25 = .ok (.ireturn, 1) := by decide +kernel
theorem dX5_stepHeadEnd_0 : decode cX5_stepHeadEnd 0 = .ok (.aload_n 0, 1) := by decide +kernel
theorem dX5_stepHeadEnd_1 : decode cX5_stepHeadEnd 1 = .ok (.getfield 59, 3) := by decide +kernel
theorem dX5_stepHeadEnd_4 : decode cX5_stepHeadEnd 4 = .ok (.iload_n 1, 1) := by decide +kernel
theorem dX5_stepHeadEnd_5 : decode cX5_stepHeadEnd 5 = .ok (.invokevirtual 173, 3) := by decide +kernel
theorem dX5_stepHeadEnd_8 : decode cX5_stepHeadEnd 8 = .ok (.istore_n 2, 1) := by decide +kernel
theorem dX5_stepHeadEnd_9 : decode cX5_stepHeadEnd 9 = .ok (.iload_n 2, 1) := by decide +kernel
theorem dX5_stepHeadEnd_10 : decode cX5_stepHeadEnd 10 = .ok (.bipush 123, 2) := by decide +kernel
theorem dX5_stepHeadEnd_12 : decode cX5_stepHeadEnd 12 = .ok (.if_icmp .eq 11, 3) := by decide +kernel
theorem dX5_stepHeadEnd_15 : decode cX5_stepHeadEnd 15 = .ok (.iload_n 2, 1) := by decide +kernel
theorem dX5_stepHeadEnd_16 : decode cX5_stepHeadEnd 16 = .ok (.bipush 59, 2) := by decide +kernel
theorem dX5_stepHeadEnd_18 : decode cX5_stepHeadEnd 18 = .ok (.if_icmp .eq 5, 3) := by decide +kernel
theorem dX5_stepHeadEnd_21 : decode cX5_stepHeadEnd 21 = .ok (.iconst 2, 1) := by decide +kernel
theorem dX5_stepHeadEnd_22 : decode cX5_stepHeadEnd 22 = .ok (.ireturn, 1) := by decide +kernel
theorem dX5_stepHeadEnd_23 : decode cX5_stepHeadEnd 23 = .ok (.iload_n 2, 1) := by decide +kernel
theorem dX5_stepHeadEnd_24 : decode cX5_stepHeadEnd 24 = .ok (.bipush 123, 2) := by decide +kernel
theorem dX5_stepHeadEnd_26 : decode cX5_stepHeadEnd 26 = .ok (.if_icmp .ne 13, 3) := by decide +kernel
theorem dX5_stepHeadEnd_29 : decode cX5_stepHeadEnd 29 = .ok (.aload_n 0, 1) := by decide +kernel
theorem dX5_stepHeadEnd_30 : decode cX5_stepHeadEnd 30 = .ok (.getfield 37, 3) := by decide +kernel
theorem dX5_stepHeadEnd_33 : decode cX5_stepHeadEnd 33 = .ok (.iconst 4, 1) := by decide +kernel
theorem dX5_stepHeadEnd_34 : decode cX5_stepHeadEnd 34 = .ok (.if_icmp .lt 5, 3) := by decide +kernel
theorem dX5_stepHeadEnd_37 : decode cX5_stepHeadEnd 37 = .ok (.iconst 3, 1) := by decide +kernel
theorem dX5_stepHeadEnd_38 : decode cX5_stepHeadEnd 38 = .ok (.ireturn, 1) := by decide +kernel
theorem dX5_stepHeadEnd_39 : decode cX5_stepHeadEnd 39 = .ok (.aload_n 0, 1) := by decide +kernel
theorem dX5_stepHeadEnd_40 : decode cX5_stepHeadEnd 40 = .ok (.getfield 73, 3) := by decide +kernel
theorem dX5_stepHeadEnd_43 : decode cX5_stepHeadEnd 43 = .ok (.getfield 228, 3) := by decide +kernel
theorem dX5_stepHeadEnd_46 : decode cX5_stepHeadEnd 46 = .ok (.bipush 7, 2) := by decide +kernel
theorem dX5_stepHeadEnd_48 : decode cX5_stepHeadEnd 48 = .ok (.if_icmp .ne 32, 3) := by decide +kernel
theorem dX5_stepHeadEnd_51 : decode cX5_stepHeadEnd 51 = .ok (.aload_n 0, 1) := by decide +kernel
theorem dX5_stepHeadEnd_52 : decode cX5_stepHeadEnd 52 = .ok (.getfield 73, 3) := by decide +kernel
theorem dX5_stepHeadEnd_55 : decode cX5_stepHeadEnd 55 = .ok (.bipush 6, 2) := by decide +kernel
theorem dX5_stepHeadEnd_57 : decode cX5_stepHeadEnd 57 = .ok (.invokevirtual 231, 3) := by decide +kernel
theorem dX5_stepHeadEnd_60 : decode cX5_stepHeadEnd 60 = .ok (.ifCond .ne 20, 3) := by decide +kernel
theorem dX5_stepHeadEnd_63 : decode cX5_stepHeadEnd 63 = .ok (.aload_n 0, 1) := by decide +kernel
theorem dX5_stepHeadEnd_64 : decode cX5_stepHeadEnd 64 = .ok (.bipush 7, 2) := by decide +kernel
theorem dX5_stepHeadEnd_66 : decode cX5_stepHeadEnd 66 = .ok (.aload_n 0, 1) := by decide +kernel
theorem dX5_stepHeadEnd_67 : decode cX5_stepHeadEnd 67 = .ok (.getfield 59, 3) := by decide +kernel
theorem dX5_stepHeadEnd_70 : decode cX5_stepHeadEnd 70 = .ok (.aload_n 0, 1) := by decide +kernel
theorem dX5_stepHeadEnd_71 : decode cX5_stepHeadEnd 71 = .ok (.getfield 40, 3) := by decide +kernel
theorem dX5_stepHeadEnd_74 : decode cX5_stepHeadEnd 74 = .ok (.invokevirtual 106, 3) := by decide +kernel
theorem dX5_stepHeadEnd_77 : decode cX5_stepHeadEnd 77 = .ok (.invokevirtual 206, 3) := by decide +kernel
theorem dX5_stepHeadEnd_80 : decode cX5_stepHeadEnd 80 = .ok (.iload_n 2, 1) := by decide +kernel
theorem dX5_stepHeadEnd_81 : decode cX5_stepHeadEnd 81 = .ok (.bipush 123, 2) := by decide +kernel
theorem dX5_stepHeadEnd_83 : decode cX5_stepHeadEnd 83 = .ok (.if_icmp .ne 8, 3) := by decide +kernel
theorem dX5_stepHeadEnd_86 : decode cX5_stepHeadEnd 86 = .ok (.aload_n 0, 1) := by decide +kernel
theorem dX5_stepHeadEnd_87 : decode cX5_stepHeadEnd 87 = .ok (.iload_n 1, 1) := by decide +kernel
theorem dX5_stepHeadEnd_88 : decode cX5_stepHeadEnd 88 = .ok (.invokevirtual 234, 3) := by decide +kernel
theorem dX5_stepHeadEnd_91 : decode cX5_stepHeadEnd 91 = .ok (.aload_n 0, 1) := by decide +kernel
theorem dX5_stepHeadEnd_92 : decode cX5_stepHeadEnd 92 = .ok (.iconst 0, 1) := by decide +kernel
theorem dX5_stepHeadEnd_93 : decode cX5_stepHeadEnd 93 = .ok (.putfield 33, 3) := by decide +kernel
theorem dX5_stepHeadEnd_96 : decode cX5_stepHeadEnd 96 = .ok (.iconst 0, 1) := by decide +kernel
theorem dX5_stepHeadEnd_97 : decode cX5_stepHeadEnd 97 = .ok (.ireturn, 1) := by decide +kernel
theorem dX5_openHolder_0 : decode cX5_openHolder 0 = .ok (.aload_n 0, 1) := by decide +kernel
theorem dX5_openHolder_1 : decode cX5_openHolder 1 = .ok (.getfield 73, 3) := by decide +kernel
theorem dX5_openHolder_4 : decode cX5_openHolder 4 = .ok (.getfield 228, 3) := by decide +kernel
theorem dX5_openHolder_7 : decode cX5_openHolder 7 = .ok (.invokestatic 237, 3) := by decide +kernel
theorem dX5_openHolder_10 : decode cX5_openHolder 10 = .ok (.ifCond .ne 17, 3) := by decide +kernel
theorem dX5_openHolder_13 : decode cX5_openHolder 13 = .ok (.aload_n 0, 1) := by decide +kernel
theorem dX5_openHolder_14 : decode cX5_openHolder 14 = .ok (.bipush 6, 2) := by decide +kernel
theorem dX5_openHolder_16 : decode cX5_openHolder 16 = .ok (.aload_n 0, 1) := by decide +kernel
theorem dX5_openHolder_17 : decode cX5_openHolder 17 = .ok (.getfield 59, 3) := by decide +kernel
theorem dX5_openHolder_20 : decode cX5_openHolder 20 = .ok (.iload_n 1, 1) := by decide +kernel
theorem dX5_openHolder_21 : decode cX5_openHolder 21 = .ok (.invokevirtual 106, 3) := by decide +kernel
theorem dX5_openHolder_24 : decode cX5_openHolder 24 = .ok (.invokevirtual 206, 3) := by decide +kernel
theorem dX5_openHolder_27 : decode cX5_openHolder 27 = .ok (.aload_n 0, 1) := by decide +kernel
theorem dX5_openHolder_28 : decode cX5_openHolder 28 = .ok (.getfield 37, 3) := by decide +kernel
theorem dX5_openHolder_31 : decode cX5_openHolder 31 = .ok (.iconst 4, 1) := by decide +kernel
theorem dX5_openHolder_32 : decode cX5_openHolder 32 = .ok (.if_icmp .ge 31, 3) := by decide +kernel
theorem dX5_openHolder_35 : decode cX5_openHolder 35 = .ok (.aload_n 0, 1) := by decide +kernel
theorem dX5_openHolder_36 : decode cX5_openHolder 36 = .ok (.getfield 20, 3) := by decide +kernel
theorem dX5_openHolder_39 : decode cX5_openHolder 39 = .ok (.aload_n 0, 1) := by decide +kernel
theorem dX5_openHolder_40 : decode cX5_openHolder 40 = .ok (.getfield 37, 3) := by decide +kernel
theorem dX5_openHolder_43 : decode cX5_openHolder 43 = .ok (.aload_n 0, 1) := by decide +kernel
theorem dX5_openHolder_44 : decode cX5_openHolder 44 = .ok (.getfield 63, 3) := by decide +kernel
theorem dX5_openHolder_47 : decode cX5_openHolder 47 = .ok (.getfield 189, 3) := by decide +kernel
theorem dX5_openHolder_50 : decode cX5_openHolder 50 = .ok (.iconst 1, 1) := by decide +kernel
theorem dX5_openHolder_51 : decode cX5_openHolder 51 = .ok (.isub, 1) := by decide +kernel
theorem dX5_openHolder_52 : decode cX5_openHolder 52 = .ok (.iastore, 1) := by decide +kernel
theorem dX5_openHolder_53 : decode cX5_openHolder 53 = .ok (.aload_n 0, 1) := by decide +kernel
theorem dX5_openHolder_54 : decode cX5_openHolder 54 = .ok (.dup, 1) := by decide +kernel
theorem dX5_openHolder_55 : decode cX5_openHolder 55 = .ok (.getfield 37, 3) := by decide +kernel
theorem dX5_openHolder_58 : decode cX5_openHolder 58 = .ok (.iconst 1, 1) := by decide +kernel
theorem dX5_openHolder_59 : decode cX5_openHolder 59 = .ok (.iadd, 1) := by decide +kernel
theorem dX5_openHolder_60 : decode cX5_openHolder 60 = .ok (.putfield 37, 3) := by decide +kernel
theorem dX5_openHolder_63 : decode cX5_openHolder 63 = .ok (.return_, 1) := by decide +kernel
theorem dX5_stepOption_0 : decode cX5_stepOption 0 = .ok (.aload_n 0, 1) := by decide +kernel
theorem dX5_stepOption_1 : decode cX5_stepOption 1 = .ok (.aload_n 0, 1) := by decide +kernel
theorem dX5_stepOption_2 : decode cX5_stepOption 2 = .ok (.iload_n 1, 1) := by decide +kernel
theorem dX5_stepOption_3 : decode cX5_stepOption 3 = .ok (.invokevirtual 240, 3) := by decide +kernel
theorem dX5_stepOption_6 : decode cX5_stepOption 6 = .ok (.putfield 43, 3) := by decide +kernel
theorem dX5_stepOption_9 : decode cX5_stepOption 9 = .ok (.aload_n 0, 1) := by decide +kernel
theorem dX5_stepOption_10 : decode cX5_stepOption 10 = .ok (.getfield 43, 3) := by decide +kernel
theorem dX5_stepOption_13 : decode cX5_stepOption 13 = .ok (.ifCond .ge 5, 3) := by decide +kernel
theorem dX5_stepOption_16 : decode cX5_stepOption 16 = .ok (.iconst 2, 1) := by decide +kernel
theorem dX5_stepOption_17 : decode cX5_stepOption 17 = .ok (.ireturn, 1) := by decide +kernel
theorem dX5_stepOption_18 : decode cX5_stepOption 18 = .ok (.aload_n 0, 1) := by decide +kernel
theorem dX5_stepOption_19 : decode cX5_stepOption 19 = .ok (.aload_n 0, 1) := by decide +kernel
theorem dX5_stepOption_20 : decode cX5_stepOption 20 = .ok (.getfield 73, 3) := by decide +kernel
theorem dX5_stepOption_23 : decode cX5_stepOption 23 = .ok (.aload_n 0, 1) := by decide +kernel
theorem dX5_stepOption_24 : decode cX5_stepOption 24 = .ok (.getfield 43, 3) := by decide +kernel
theorem dX5_stepOption_27 : decode cX5_stepOption 27 = .ok (.invokevirtual 231, 3) := by decide +kernel
theorem dX5_stepOption_30 : decode cX5_stepOption 30 = .ok (.putfield 46, 3) := by decide +kernel
theorem dX5_stepOption_33 : decode cX5_stepOption 33 = .ok (.aload_n 0, 1) := by decide +kernel
theorem dX5_stepOption_34 : decode cX5_stepOption 34 = .ok (.getfield 46, 3) := by decide +kernel
theorem dX5_stepOption_37 : decode cX5_stepOption 37 = .ok (.ifCond .ne 20, 3) := by decide +kernel
theorem dX5_stepOption_40 : decode cX5_stepOption 40 = .ok (.aload_n 0, 1) := by decide +kernel
theorem dX5_stepOption_41 : decode cX5_stepOption 41 = .ok (.getfield 73, 3) := by decide +kernel
theorem dX5_stepOption_44 : decode cX5_stepOption 44 = .ok (.getfield 228, 3) := by decide +kernel
theorem dX5_stepOption_47 : decode cX5_stepOption 47 = .ok (.aload_n 0, 1) := by decide +kernel
theorem dX5_stepOption_48 : decode cX5_stepOption 48 = .ok (.getfield 43, 3) := by decide +kernel
theorem dX5_stepOption_51 : decode cX5_stepOption 51 = .ok (.invokestatic 243, 3) := by decide +kernel
theorem dX5_stepOption_54 : decode cX5_stepOption 54 = .ok (.ifCond .ne 16, 3) := by decide +kernel
theorem dX5_stepOption_57 : decode cX5_stepOption 57 = .ok (.aload_n 0, 1) := by decide +kernel
theorem dX5_stepOption_58 : decode cX5_stepOption 58 = .ok (.iconst 5, 1) := by decide +kernel
theorem dX5_stepOption_59 : decode cX5_stepOption 59 = .ok (.aload_n 0, 1) := by decide +kernel
theorem dX5_stepOption_60 : decode cX5_stepOption 60 = .ok (.getfield 59, 3) := by decide +kernel
theorem dX5_stepOption_63 : decode cX5_stepOption 63 = .ok (.iload_n 1, 1) := by decide +kernel
theorem dX5_stepOption_64 : decode cX5_stepOption 64 = .ok (.invokevirtual 106, 3) := by decide +kernel
theorem dX5_stepOption_67 : decode cX5_stepOption 67 = .ok (.invokevirtual 206, 3) := by decide +kernel
theorem dX5_stepOption_70 : decode cX5_stepOption 70 = .ok (.aload_n 0, 1) := by decide +kernel
theorem dX5_stepOption_71 : decode cX5_stepOption 71 = .ok (.getfield 73, 3) := by decide +kernel
theorem dX5_stepOption_74 : decode cX5_stepOption 74 = .ok (.dup, 1) := by decide +kernel
theorem dX5_stepOption_75 : decode cX5_stepOption 75 = .ok (.getfield 247, 3) := by decide +kernel
theorem dX5_stepOption_78 : decode cX5_stepOption 78 = .ok (.iconst 1, 1) := by decide +kernel
theorem dX5_stepOption_79 : decode cX5_stepOption 79 = .ok (.aload_n 0, 1) := by decide +kernel
theorem dX5_stepOption_80 : decode cX5_stepOption 80 = .ok (.getfield 43, 3) := by decide +kernel
theorem dX5_stepOption_83 : decode cX5_stepOption 83 = .ok (.ishl, 1) := by decide +kernel
theorem dX5_stepOption_84 : decode cX5_stepOption 84 = .ok (.ior, 1) := by decide +kernel
theorem dX5_stepOption_85 : decode cX5_stepOption 85 = .ok (.putfield 247, 3) := by decide +kernel
theorem dX5_stepOption_88 : decode cX5_stepOption 88 = .ok (.aload_n 0, 1) := by decide +kernel
theorem dX5_stepOption_89 : decode cX5_stepOption 89 = .ok (.aload_n 0, 1) := by decide +kernel
theorem dX5_stepOption_90 : decode cX5_stepOption 90 = .ok (.getfield 43, 3) := by decide +kernel
theorem dX5_stepOption_93 : decode cX5_stepOption 93 = .ok (.iconst 4, 1) := by decide +kernel
theorem dX5_stepOption_94 : decode cX5_stepOption 94 = .ok (.if_icmp .ne 7, 3) := by decide +kernel
theorem dX5_stepOption_97 : decode cX5_stepOption 97 = .ok (.iconst 1, 1) := by decide +kernel
theorem dX5_stepOption_98 : decode cX5_stepOption 98 = .ok (.goto 4, 3) := by decide +kernel
theorem dX5_stepOption_101 : decode cX5_stepOption 101 = .ok (.iconst 0, 1) := by decide +kernel
theorem dX5_stepOption_102 : decode cX5_stepOption 102 = .ok (.aload_n 0, 1) := by decide +kernel
theorem dX5_stepOption_103 : decode cX5_stepOption 103 = .ok (.getfield 24, 3) := by decide +kernel
theorem dX5_stepOption_106 : decode cX5_stepOption 106 = .ok (.iload_n 1, 1) := by decide +kernel
theorem dX5_stepOption_107 : decode cX5_stepOption 107 = .ok (.invokevirtual 250, 3) := by decide +kernel
theorem dX5_stepOption_110 : decode cX5_stepOption 110 = .ok (.aload_n 0, 1) := by decide +kernel
theorem dX5_stepOption_111 : decode cX5_stepOption 111 = .ok (.aload_n 0, 1) := by decide +kernel
theorem dX5_stepOption_112 : decode cX5_stepOption 112 = .ok (.getfield 43, 3) := by decide +kernel
theorem dX5_stepOption_115 : decode cX5_stepOption 115 = .ok (.iconst 3, 1) := by decide +kernel
theorem dX5_stepOption_116 : decode cX5_stepOption 116 = .ok (.if_icmp .ge 8, 3) := by decide +kernel
theorem dX5_stepOption_119 : decode cX5_stepOption 119 = .ok (.bipush 7, 2) := by decide +kernel
theorem dX5_stepOption_121 : decode cX5_stepOption 121 = .ok (.goto 4, 3) := by decide +kernel
theorem dX5_stepOption_124 : decode cX5_stepOption 124 = .ok (.iconst 5, 1) := by decide +kernel
theorem dX5_stepOption_125 : decode cX5_stepOption 125 = .ok (.putfield 33, 3) := by decide +kernel
theorem dX5_stepOption_128 : decode cX5_stepOption 128 = .ok (.iconst 0, 1) := by decide +kernel
theorem dX5_stepOption_129 : decode cX5_stepOption 129 = .ok (.ireturn, 1) := by decide +kernel
theorem dX5_noteToken_0 : decode cX5_noteToken 0 = .ok (.aload_n 0, 1) := by decide +kernel
theorem dX5_noteToken_1 : decode cX5_noteToken 1 = .ok (.getfield 63, 3) := by decide +kernel
theorem dX5_noteToken_4 : decode cX5_noteToken 4 = .ok (.getfield 189, 3) := by decide +kernel
theorem dX5_noteToken_7 : decode cX5_noteToken 7 = .ok (.iconst 1, 1) := by decide +kernel
theorem dX5_noteToken_8 : decode cX5_noteToken 8 = .ok (.isub, 1) := by decide +kernel
theorem dX5_noteToken_9 : decode cX5_noteToken 9 = .ok (.istore 4, 2) := by decide +kernel
theorem dX5_noteToken_11 : decode cX5_noteToken 11 = .ok (.iload_n 1, 1) := by decide +kernel
theorem dX5_noteToken_12 : decode cX5_noteToken 12 = .ok (.ifCond .eq 27, 3) := by decide +kernel
theorem dX5_noteToken_15 : decode cX5_noteToken 15 = .ok (.aload_n 0, 1) := by decide +kernel
theorem dX5_noteToken_16 : decode cX5_noteToken 16 = .ok (.getfield 46, 3) := by decide +kernel
theorem dX5_noteToken_19 : decode cX5_noteToken 19 = .ok (.ifCond .ne 20, 3) := by decide +kernel
theorem dX5_noteToken_22 : decode cX5_noteToken 22 = .ok (.iload 4, 2) := by decide +kernel
theorem dX5_noteToken_24 : decode cX5_noteToken 24 = .ok (.ifCond .lt 15, 3) := by decide +kernel
theorem dX5_noteToken_27 : decode cX5_noteToken 27 = .ok (.iload 4, 2) := by decide +kernel
theorem dX5_noteToken_29 : decode cX5_noteToken 29 = .ok (.aload_n 2, 1) := by decide +kernel
theorem dX5_noteToken_30 : decode cX5_noteToken 30 = .ok (.arraylength, 1) := by decide +kernel
theorem dX5_noteToken_31 : decode cX5_noteToken 31 = .ok (.if_icmp .ge 8, 3) := by decide +kernel
theorem dX5_noteToken_34 : decode cX5_noteToken 34 = .ok (.aload_n 2, 1) := by decide +kernel
theorem dX5_noteToken_35 : decode cX5_noteToken 35 = .ok (.iload 4, 2) := by decide +kernel
theorem dX5_noteToken_37 : decode cX5_noteToken 37 = .ok (.iload_n 3, 1) := by decide +kernel
theorem dX5_noteToken_38 : decode cX5_noteToken 38 = .ok (.iastore, 1) := by decide +kernel
theorem dX5_noteToken_39 : decode cX5_noteToken 39 = .ok (.return_, 1) := by decide +kernel
theorem dX5_stepValue_0 : decode cX5_stepValue 0 = .ok (.aload_n 0, 1) := by decide +kernel
theorem dX5_stepValue_1 : decode cX5_stepValue 1 = .ok (.getfield 59, 3) := by decide +kernel
theorem dX5_stepValue_4 : decode cX5_stepValue 4 = .ok (.iload_n 1, 1) := by decide +kernel
theorem dX5_stepValue_5 : decode cX5_stepValue 5 = .ok (.invokevirtual 173, 3) := by decide +kernel
theorem dX5_stepValue_8 : decode cX5_stepValue 8 = .ok (.aload_n 0, 1) := by decide +kernel
theorem dX5_stepValue_9 : decode cX5_stepValue 9 = .ok (.getfield 43, 3) := by decide +kernel
theorem dX5_stepValue_12 : decode cX5_stepValue 12 = .ok (.iconst 3, 1) := by decide +kernel
theorem dX5_stepValue_13 : decode cX5_stepValue 13 = .ok (.if_icmp .ne 7, 3) := by decide +kernel
theorem dX5_stepValue_16 : decode cX5_stepValue 16 = .ok (.iconst 2, 1) := by decide +kernel
theorem dX5_stepValue_17 : decode cX5_stepValue 17 = .ok (.goto 4, 3) := by decide +kernel
theorem dX5_stepValue_20 : decode cX5_stepValue 20 = .ok (.iconst 1, 1) := by decide +kernel
theorem dX5_stepValue_21 : decode cX5_stepValue 21 = .ok (.if_icmp .eq 5, 3) := by decide +kernel
theorem dX5_stepValue_24 : decode cX5_stepValue 24 = .ok (.iconst 2, 1) := by decide +kernel
theorem dX5_stepValue_25 : decode cX5_stepValue 25 = .ok (.ireturn, 1) := by decide +kernel
theorem dX5_stepValue_26 : decode cX5_stepValue 26 = .ok (.aload_n 0, 1) := by decide +kernel
theorem dX5_stepValue_27 : decode cX5_stepValue 27 = .ok (.bipush 7, 2) := by decide +kernel
theorem dX5_stepValue_29 : decode cX5_stepValue 29 = .ok (.putfield 33, 3) := by decide +kernel
theorem dX5_stepValue_32 : decode cX5_stepValue 32 = .ok (.aload_n 0, 1) := by decide +kernel
theorem dX5_stepValue_33 : decode cX5_stepValue 33 = .ok (.getfield 43, 3) := by decide +kernel
theorem dX5_stepValue_36 : decode cX5_stepValue 36 = .ok (.iconst 3, 1) := by decide +kernel
theorem dX5_stepValue_37 : decode cX5_stepValue 37 = .ok (.if_icmp .ne 11, 3) := by decide +kernel
theorem dX5_stepValue_40 : decode cX5_stepValue 40 = .ok (.aload_n 0, 1) := by decide +kernel
theorem dX5_stepValue_41 : decode cX5_stepValue 41 = .ok (.iload_n 1, 1) := by decide +kernel
theorem dX5_stepValue_42 : decode cX5_stepValue 42 = .ok (.invokevirtual 254, 3) := by decide +kernel
theorem dX5_stepValue_45 : decode cX5_stepValue 45 = .ok (.goto 90, 3) := by decide +kernel
theorem dX5_stepValue_48 : decode cX5_stepValue 48 = .ok (.aload_n 0, 1) := by decide +kernel
theorem dX5_stepValue_49 : decode cX5_stepValue 49 = .ok (.getfield 43, 3) := by decide +kernel
theorem dX5_stepValue_52 : decode cX5_stepValue 52 = .ok (.iconst 5, 1) := by decide +kernel
theorem dX5_stepValue_53 : decode cX5_stepValue 53 = .ok (.if_icmp .ne 31, 3) := by decide +kernel
theorem dX5_stepValue_56 : decode cX5_stepValue 56 = .ok (.aload_n 0, 1) := by decide +kernel
theorem dX5_stepValue_57 : decode cX5_stepValue 57 = .ok (.getfield 73, 3) := by decide +kernel
theorem dX5_stepValue_60 : decode cX5_stepValue 60 = .ok (.getfield 257, 3) := by decide +kernel
theorem dX5_stepValue_63 : decode cX5_stepValue 63 = .ok (.invokevirtual 260, 3) := by decide +kernel
theorem dX5_stepValue_66 : decode cX5_stepValue 66 = .ok (.aload_n 0, 1) := by decide +kernel
theorem dX5_stepValue_67 : decode cX5_stepValue 67 = .ok (.getfield 59, 3) := by decide +kernel
theorem dX5_stepValue_70 : decode cX5_stepValue 70 = .ok (.aload_n 0, 1) := by decide +kernel
theorem dX5_stepValue_71 : decode cX5_stepValue 71 = .ok (.getfield 73, 3) := by decide +kernel
theorem dX5_stepValue_74 : decode cX5_stepValue 74 = .ok (.getfield 257, 3) := by decide +kernel
theorem dX5_stepValue_77 : decode cX5_stepValue 77 = .ok (.iload_n 1, 1) := by decide +kernel
theorem dX5_stepValue_78 : decode cX5_stepValue 78 = .ok (.invokevirtual 199, 3) := by decide +kernel
theorem dX5_stepValue_81 : decode cX5_stepValue 81 = .ok (.goto 54, 3) := by decide +kernel
theorem dX5_stepValue_84 : decode cX5_stepValue 84 = .ok (.aload_n 0, 1) := by decide +kernel
theorem dX5_stepValue_85 : decode cX5_stepValue 85 = .ok (.aload_n 0, 1) := by decide +kernel
theorem dX5_stepValue_86 : decode cX5_stepValue 86 = .ok (.getfield 43, 3) := by decide +kernel
theorem dX5_stepValue_89 : decode cX5_stepValue 89 = .ok (.iconst 4, 1) := by decide +kernel
theorem dX5_stepValue_90 : decode cX5_stepValue 90 = .ok (.if_icmp .ne 7, 3) := by decide +kernel
theorem dX5_stepValue_93 : decode cX5_stepValue 93 = .ok (.iconst 1, 1) := by decide +kernel
theorem dX5_stepValue_94 : decode cX5_stepValue 94 = .ok (.goto 4, 3) := by decide +kernel
theorem dX5_stepValue_97 : decode cX5_stepValue 97 = .ok (.iconst 0, 1) := by decide +kernel
theorem dX5_stepValue_98 : decode cX5_stepValue 98 = .ok (.aload_n 0, 1) := by decide +kernel
theorem dX5_stepValue_99 : decode cX5_stepValue 99 = .ok (.getfield 27, 3) := by decide +kernel
theorem dX5_stepValue_102 : decode cX5_stepValue 102 = .ok (.iload_n 1, 1) := by decide +kernel
theorem dX5_stepValue_103 : decode cX5_stepValue 103 = .ok (.invokevirtual 250, 3) := by decide +kernel
theorem dX5_stepValue_106 : decode cX5_stepValue 106 = .ok (.aload_n 0, 1) := by decide +kernel
theorem dX5_stepValue_107 : decode cX5_stepValue 107 = .ok (.aload_n 0, 1) := by decide +kernel
theorem dX5_stepValue_108 : decode cX5_stepValue 108 = .ok (.getfield 43, 3) := by decide +kernel
theorem dX5_stepValue_111 : decode cX5_stepValue 111 = .ok (.bipush 6, 2) := by decide +kernel
theorem dX5_stepValue_113 : decode cX5_stepValue 113 = .ok (.if_icmp .ne 7, 3) := by decide +kernel
theorem dX5_stepValue_116 : decode cX5_stepValue 116 = .ok (.iconst 1, 1) := by decide +kernel
theorem dX5_stepValue_117 : decode cX5_stepValue 117 = .ok (.goto 4, 3) := by decide +kernel
theorem dX5_stepValue_120 : decode cX5_stepValue 120 = .ok (.iconst 0, 1) := by decide +kernel
theorem dX5_stepValue_121 : decode cX5_stepValue 121 = .ok (.aload_n 0, 1) := by decide +kernel
theorem dX5_stepValue_122 : decode cX5_stepValue 122 = .ok (.getfield 30, 3) := by decide +kernel
theorem dX5_stepValue_125 : decode cX5_stepValue 125 = .ok (.iload_n 1, 1) := by decide +kernel
theorem dX5_stepValue_126 : decode cX5_stepValue 126 = .ok (.invokevirtual 250, 3) := by decide +kernel
theorem dX5_stepValue_129 : decode cX5_stepValue 129 = .ok (.aload_n 0, 1) := by decide +kernel
theorem dX5_stepValue_130 : decode cX5_stepValue 130 = .ok (.bipush 9, 2) := by decide +kernel
theorem dX5_stepValue_132 : decode cX5_stepValue 132 = .ok (.putfield 33, 3) := by decide +kernel
theorem dX5_stepValue_135 : decode cX5_stepValue 135 = .ok (.iconst 0, 1) := by decide +kernel
theorem dX5_stepValue_136 : decode cX5_stepValue 136 = .ok (.ireturn, 1) := by decide +kernel
theorem dX5_takeNull_0 : decode cX5_takeNull 0 = .ok (.aload_n 0, 1) := by decide +kernel
theorem dX5_takeNull_1 : decode cX5_takeNull 1 = .ok (.getfield 73, 3) := by decide +kernel
theorem dX5_takeNull_4 : decode cX5_takeNull 4 = .ok (.aload_n 0, 1) := by decide +kernel
theorem dX5_takeNull_5 : decode cX5_takeNull 5 = .ok (.getfield 59, 3) := by decide +kernel
theorem dX5_takeNull_8 : decode cX5_takeNull 8 = .ok (.iload_n 1, 1) := by decide +kernel
theorem dX5_takeNull_9 : decode cX5_takeNull 9 = .ok (.invokevirtual 263, 3) := by decide +kernel
theorem dX5_takeNull_12 : decode cX5_takeNull 12 = .ok (.putfield 266, 3) := by decide +kernel
theorem dX5_takeNull_15 : decode cX5_takeNull 15 = .ok (.aload_n 0, 1) := by decide +kernel
theorem dX5_takeNull_16 : decode cX5_takeNull 16 = .ok (.getfield 73, 3) := by decide +kernel
theorem dX5_takeNull_19 : decode cX5_takeNull 19 = .ok (.getfield 228, 3) := by decide +kernel
theorem dX5_takeNull_22 : decode cX5_takeNull 22 = .ok (.iconst 4, 1) := by decide +kernel
theorem dX5_takeNull_23 : decode cX5_takeNull 23 = .ok (.if_icmp .ne 27, 3) := by decide +kernel
theorem dX5_takeNull_26 : decode cX5_takeNull 26 = .ok (.aload_n 0, 1) := by decide +kernel
theorem dX5_takeNull_27 : decode cX5_takeNull 27 = .ok (.getfield 73, 3) := by decide +kernel
theorem dX5_takeNull_30 : decode cX5_takeNull 30 = .ok (.getfield 266, 3) := by decide +kernel
theorem dX5_takeNull_33 : decode cX5_takeNull 33 = .ok (.iconst 1, 1) := by decide +kernel
theorem dX5_takeNull_34 : decode cX5_takeNull 34 = .ok (.if_icmp .le 16, 3) := by decide +kernel
theorem dX5_takeNull_37 : decode cX5_takeNull 37 = .ok (.aload_n 0, 1) := by decide +kernel
theorem dX5_takeNull_38 : decode cX5_takeNull 38 = .ok (.iconst 5, 1) := by decide +kernel
theorem dX5_takeNull_39 : decode cX5_takeNull 39 = .ok (.aload_n 0, 1) := by decide +kernel
theorem dX5_takeNull_40 : decode cX5_takeNull 40 = .ok (.getfield 59, 3) := by decide +kernel
theorem dX5_takeNull_43 : decode cX5_takeNull 43 = .ok (.iload_n 1, 1) := by decide +kernel
theorem dX5_takeNull_44 : decode cX5_takeNull 44 = .ok (.invokevirtual 106, 3) := by decide +kernel
theorem dX5_takeNull_47 : decode cX5_takeNull 47 = .ok (.invokevirtual 206, 3) := by decide +kernel
theorem dX5_takeNull_50 : decode cX5_takeNull 50 = .ok (.return_, 1) := by decide +kernel
theorem dX5_stepBehindValue_0 : decode cX5_stepBehindValue 0 = .ok (.aload_n 0, 1) := by decide +kernel
theorem dX5_stepBehindValue_1 : decode cX5_stepBehindValue 1 = .ok (.getfield 59, 3) := by decide +kernel
theorem dX5_stepBehindValue_4 : decode cX5_stepBehindValue 4 = .ok (.iload_n 1, 1) := by decide +kernel
theorem dX5_stepBehindValue_5 : decode cX5_stepBehindValue 5 = .ok (.invokevirtual 173, 3) := by decide +kernel
theorem dX5_stepBehindValue_8 : decode cX5_stepBehindValue 8 = .ok (.bipush 44, 2) := by decide +kernel
theorem dX5_stepBehindValue_10 : decode cX5_stepBehindValue 10 = .ok (.if_icmp .ne 10, 3) := by decide +kernel
theorem dX5_stepBehindValue_13 : decode cX5_stepBehindValue 13 = .ok (.aload_n 0, 1) := by decide +kernel
theorem dX5_stepBehindValue_14 : decode cX5_stepBehindValue 14 = .ok (.iconst 4, 1) := by decide +kernel
theorem dX5_stepBehindValue_15 : decode cX5_stepBehindValue 15 = .ok (.putfield 33, 3) := by decide +kernel
theorem dX5_stepBehindValue_18 : decode cX5_stepBehindValue 18 = .ok (.iconst 0, 1) := by decide +kernel
theorem dX5_stepBehindValue_19 : decode cX5_stepBehindValue 19 = .ok (.ireturn, 1) := by decide +kernel
theorem dX5_stepBehindValue_20 : decode cX5_stepBehindValue 20 = .ok (.aload_n 0, 1) := by decide +kernel
theorem dX5_stepBehindValue_21 : decode cX5_stepBehindValue 21 = .ok (.iload_n 1, 1) := by decide +kernel
theorem dX5_stepBehindValue_22 : decode cX5_stepBehindValue 22 = .ok (.bipush 41, 2) := by decide +kernel
theorem dX5_stepBehindValue_24 : decode cX5_stepBehindValue 24 = .ok (.bipush 10, 2) := by decide +kernel
theorem dX5_stepBehindValue_26 : decode cX5_stepBehindValue 26 = .ok (.invokevirtual 133, 3) := by decide +kernel
theorem dX5_stepBehindValue_29 : decode cX5_stepBehindValue 29 = .ok (.ireturn, 1) := by decide +kernel
theorem dX5_stepInPath_0 : decode cX5_stepInPath 0 = .ok (.aload_n 0, 1) := by decide +kernel
theorem dX5_stepInPath_1 : decode cX5_stepInPath 1 = .ok (.getfield 59, 3) := by decide +kernel
theorem dX5_stepInPath_4 : decode cX5_stepInPath 4 = .ok (.iload_n 1, 1) := by decide +kernel
theorem dX5_stepInPath_5 : decode cX5_stepInPath 5 = .ok (.invokevirtual 173, 3) := by decide +kernel
theorem dX5_stepInPath_8 : decode cX5_stepInPath 8 = .ok (.bipush 46, 2) := by decide +kernel
theorem dX5_stepInPath_10 : decode cX5_stepInPath 10 = .ok (.if_icmp .ne 11, 3) := by decide +kernel
theorem dX5_stepInPath_13 : decode cX5_stepInPath 13 = .ok (.aload_n 0, 1) := by decide +kernel
theorem dX5_stepInPath_14 : decode cX5_stepInPath 14 = .ok (.bipush 8, 2) := by decide +kernel
theorem dX5_stepInPath_16 : decode cX5_stepInPath 16 = .ok (.putfield 33, 3) := by decide +kernel
theorem dX5_stepInPath_19 : decode cX5_stepInPath 19 = .ok (.iconst 0, 1) := by decide +kernel
theorem dX5_stepInPath_20 : decode cX5_stepInPath 20 = .ok (.ireturn, 1) := by decide +kernel
theorem dX5_stepInPath_21 : decode cX5_stepInPath 21 = .ok (.aload_n 0, 1) := by decide +kernel
theorem dX5_stepInPath_22 : decode cX5_stepInPath 22 = .ok (.iload_n 1, 1) := by decide +kernel
theorem dX5_stepInPath_23 : decode cX5_stepInPath 23 = .ok (.invokevirtual 149, 3) := by decide +kernel
theorem dX5_stepInPath_26 : decode cX5_stepInPath 26 = .ok (.ireturn, 1) := by decide +kernel
theorem dX5_stepRuleWord_0 : decode cX5_stepRuleWord 0 = .ok (.aload_n 0, 1) := by decide +kernel
theorem dX5_stepRuleWord_1 : decode cX5_stepRuleWord 1 = .ok (.getfield 63, 3) := by decide +kernel
theorem dX5_stepRuleWord_4 : decode cX5_stepRuleWord 4 = .ok (.getfield 269, 3) := by decide +kernel
theorem dX5_stepRuleWord_7 : decode cX5_stepRuleWord 7 = .ok (.bipush 8, 2) := by decide +kernel
theorem dX5_stepRuleWord_9 : decode cX5_stepRuleWord 9 = .ok (.if_icmp .lt 5, 3) := by decide +kernel
theorem dX5_stepRuleWord_12 : decode cX5_stepRuleWord 12 = .ok (.iconst 3, 1) := by decide +kernel
theorem dX5_stepRuleWord_13 : decode cX5_stepRuleWord 13 = .ok (.ireturn, 1) := by decide +kernel
theorem dX5_stepRuleWord_14 : decode cX5_stepRuleWord 14 = .ok (.aload_n 0, 1) := by decide +kernel
theorem dX5_stepRuleWord_15 : decode cX5_stepRuleWord 15 = .ok (.aload_n 0, 1) := by decide +kernel
theorem dX5_stepRuleWord_16 : decode cX5_stepRuleWord 16 = .ok (.getfield 63, 3) := by decide +kernel
theorem dX5_stepRuleWord_19 : decode cX5_stepRuleWord 19 = .ok (.getfield 77, 3) := by decide +kernel
theorem dX5_stepRuleWord_22 : decode cX5_stepRuleWord 22 = .ok (.aload_n 0, 1) := by decide +kernel
theorem dX5_stepRuleWord_23 : decode cX5_stepRuleWord 23 = .ok (.getfield 63, 3) := by decide +kernel
theorem dX5_stepRuleWord_26 : decode cX5_stepRuleWord 26 = .ok (.getfield 269, 3) := by decide +kernel
theorem dX5_stepRuleWord_29 : decode cX5_stepRuleWord 29 = .ok (.aaload, 1) := by decide +kernel
theorem dX5_stepRuleWord_30 : decode cX5_stepRuleWord 30 = .ok (.putfield 81, 3) := by decide +kernel
theorem dX5_stepRuleWord_33 : decode cX5_stepRuleWord 33 = .ok (.aload_n 0, 1) := by decide +kernel
theorem dX5_stepRuleWord_34 : decode cX5_stepRuleWord 34 = .ok (.getfield 81, 3) := by decide +kernel
theorem dX5_stepRuleWord_37 : decode cX5_stepRuleWord 37 = .ok (.invokevirtual 272, 3) := by decide +kernel
theorem dX5_stepRuleWord_40 : decode cX5_stepRuleWord 40 = .ok (.aload_n 0, 1) := by decide +kernel
theorem dX5_stepRuleWord_41 : decode cX5_stepRuleWord 41 = .ok (.getfield 63, 3) := by decide +kernel
theorem dX5_stepRuleWord_44 : decode cX5_stepRuleWord 44 = .ok (.dup, 1) := by decide +kernel
theorem dX5_stepRuleWord_45 : decode cX5_stepRuleWord 45 = .ok (.getfield 269, 3) := by decide +kernel
theorem dX5_stepRuleWord_48 : decode cX5_stepRuleWord 48 = .ok (.iconst 1, 1) := by decide +kernel
theorem dX5_stepRuleWord_49 : decode cX5_stepRuleWord 49 = .ok (.iadd, 1) := by decide +kernel
theorem dX5_stepRuleWord_50 : decode cX5_stepRuleWord 50 = .ok (.putfield 269, 3) := by decide +kernel
theorem dX5_stepRuleWord_53 : decode cX5_stepRuleWord 53 = .ok (.aload_n 0, 1) := by decide +kernel
theorem dX5_stepRuleWord_54 : decode cX5_stepRuleWord 54 = .ok (.bipush 11, 2) := by decide +kernel
theorem dX5_stepRuleWord_56 : decode cX5_stepRuleWord 56 = .ok (.putfield 33, 3) := by decide +kernel
theorem dX5_stepRuleWord_59 : decode cX5_stepRuleWord 59 = .ok (.iconst 0, 1) := by decide +kernel
theorem dX5_stepRuleWord_60 : decode cX5_stepRuleWord 60 = .ok (.ireturn, 1) := by decide +kernel
theorem dX5_stepPattern_0 : decode cX5_stepPattern 0 = .ok (.aload_n 0, 1) := by decide +kernel
theorem dX5_stepPattern_1 : decode cX5_stepPattern 1 = .ok (.getfield 59, 3) := by decide +kernel
theorem dX5_stepPattern_4 : decode cX5_stepPattern 4 = .ok (.iload_n 1, 1) := by decide +kernel
theorem dX5_stepPattern_5 : decode cX5_stepPattern 5 = .ok (.invokevirtual 173, 3) := by decide +kernel
theorem dX5_stepPattern_8 : decode cX5_stepPattern 8 = .ok (.iconst 1, 1) := by decide +kernel
theorem dX5_stepPattern_9 : decode cX5_stepPattern 9 = .ok (.if_icmp .ne 26, 3) := by decide +kernel
theorem dX5_stepPattern_12 : decode cX5_stepPattern 12 = .ok (.aload_n 0, 1) := by decide +kernel
theorem dX5_stepPattern_13 : decode cX5_stepPattern 13 = .ok (.getfield 59, 3) := by decide +kernel
theorem dX5_stepPattern_16 : decode cX5_stepPattern 16 = .ok (.aload_n 0, 1) := by decide +kernel
theorem dX5_stepPattern_17 : decode cX5_stepPattern 17 = .ok (.getfield 81, 3) := by decide +kernel
theorem dX5_stepPattern_20 : decode cX5_stepPattern 20 = .ok (.getfield 275, 3) := by decide +kernel
theorem dX5_stepPattern_23 : decode cX5_stepPattern 23 = .ok (.iload_n 1, 1) := by decide +kernel
theorem dX5_stepPattern_24 : decode cX5_stepPattern 24 = .ok (.invokevirtual 199, 3) := by decide +kernel
theorem dX5_stepPattern_27 : decode cX5_stepPattern 27 = .ok (.aload_n 0, 1) := by decide +kernel
theorem dX5_stepPattern_28 : decode cX5_stepPattern 28 = .ok (.bipush 12, 2) := by decide +kernel
theorem dX5_stepPattern_30 : decode cX5_stepPattern 30 = .ok (.putfield 33, 3) := by decide +kernel
theorem dX5_stepPattern_33 : decode cX5_stepPattern 33 = .ok (.iconst 0, 1) := by decide +kernel
theorem dX5_stepPattern_34 : decode cX5_stepPattern 34 = .ok (.ireturn, 1) := by decide +kernel
theorem dX5_stepPattern_35 : decode cX5_stepPattern 35 = .ok (.aload_n 0, 1) := by decide +kernel
theorem dX5_stepPattern_36 : decode cX5_stepPattern 36 = .ok (.iload_n 1, 1) := by decide +kernel
theorem dX5_stepPattern_37 : decode cX5_stepPattern 37 = .ok (.invokevirtual 278, 3) := by decide +kernel
theorem dX5_stepPattern_40 : decode cX5_stepPattern 40 = .ok (.ireturn, 1) := by decide +kernel
theorem dX5_stepStar_0 : decode cX5_stepStar 0 = .ok (.aload_n 0, 1) := by decide +kernel
theorem dX5_stepStar_1 : decode cX5_stepStar 1 = .ok (.iload_n 1, 1) := by decide +kernel
theorem dX5_stepStar_2 : decode cX5_stepStar 2 = .ok (.bipush 42, 2) := by decide +kernel
theorem dX5_stepStar_4 : decode cX5_stepStar 4 = .ok (.bipush 13, 2) := by decide +kernel
theorem dX5_stepStar_6 : decode cX5_stepStar 6 = .ok (.invokevirtual 133, 3) := by decide +kernel
theorem dX5_stepStar_9 : decode cX5_stepStar 9 = .ok (.istore_n 2, 1) := by decide +kernel
theorem dX5_stepStar_10 : decode cX5_stepStar 10 = .ok (.aload_n 0, 1) := by decide +kernel
theorem dX5_stepStar_11 : decode cX5_stepStar 11 = .ok (.getfield 81, 3) := by decide +kernel
theorem dX5_stepStar_14 : decode cX5_stepStar 14 = .ok (.iload_n 2, 1) := by decide +kernel
theorem dX5_stepStar_15 : decode cX5_stepStar 15 = .ok (.ifCond .ne 7, 3) := by decide +kernel
theorem dX5_stepStar_18 : decode cX5_stepStar 18 = .ok (.iconst 1, 1) := by decide +kernel
theorem dX5_stepStar_19 : decode cX5_stepStar 19 = .ok (.goto 4, 3) := by decide +kernel
theorem dX5_stepStar_22 : decode cX5_stepStar 22 = .ok (.iconst 0, 1) := by decide +kernel
theorem dX5_stepStar_23 : decode cX5_stepStar 23 = .ok (.putfield 281, 3) := by decide +kernel
theorem dX5_stepStar_26 : decode cX5_stepStar 26 = .ok (.iload_n 2, 1) := by decide +kernel
theorem dX5_stepStar_27 : decode cX5_stepStar 27 = .ok (.ireturn, 1) := by decide +kernel
theorem dX5_stepBehindHead_0 : decode cX5_stepBehindHead 0 = .ok (.aload_n 0, 1) := by decide +kernel
theorem dX5_stepBehindHead_1 : decode cX5_stepBehindHead 1 = .ok (.getfield 59, 3) := by decide +kernel
theorem dX5_stepBehindHead_4 : decode cX5_stepBehindHead 4 = .ok (.iload_n 1, 1) := by decide +kernel
theorem dX5_stepBehindHead_5 : decode cX5_stepBehindHead 5 = .ok (.invokevirtual 173, 3) := by decide +kernel
theorem dX5_stepBehindHead_8 : decode cX5_stepBehindHead 8 = .ok (.bipush 42, 2) := by decide +kernel
theorem dX5_stepBehindHead_10 : decode cX5_stepBehindHead 10 = .ok (.if_icmp .ne 11, 3) := by decide +kernel
theorem dX5_stepBehindHead_13 : decode cX5_stepBehindHead 13 = .ok (.aload_n 0, 1) := by decide +kernel
theorem dX5_stepBehindHead_14 : decode cX5_stepBehindHead 14 = .ok (.iload_n 1, 1) := by decide +kernel
theorem dX5_stepBehindHead_15 : decode cX5_stepBehindHead 15 = .ok (.invokevirtual 278, 3) := by decide +kernel
theorem dX5_stepBehindHead_18 : decode cX5_stepBehindHead 18 = .ok (.goto 12, 3) := by decide +kernel
theorem dX5_stepBehindHead_21 : decode cX5_stepBehindHead 21 = .ok (.aload_n 0, 1) := by decide +kernel
theorem dX5_stepBehindHead_22 : decode cX5_stepBehindHead 22 = .ok (.iload_n 1, 1) := by decide +kernel
theorem dX5_stepBehindHead_23 : decode cX5_stepBehindHead 23 = .ok (.bipush 58, 2) := by decide +kernel
theorem dX5_stepBehindHead_25 : decode cX5_stepBehindHead 25 = .ok (.bipush 15, 2) := by decide +kernel
theorem dX5_stepBehindHead_27 : decode cX5_stepBehindHead 27 = .ok (.invokevirtual 133, 3) := by decide +kernel
theorem dX5_stepBehindHead_30 : decode cX5_stepBehindHead 30 = .ok (.ireturn, 1) := by decide +kernel
theorem dX5_stepBehindStar_0 : decode cX5_stepBehindStar 0 = .ok (.aload_n 0, 1) := by decide +kernel
theorem dX5_stepBehindStar_1 : decode cX5_stepBehindStar 1 = .ok (.getfield 59, 3) := by decide +kernel
theorem dX5_stepBehindStar_4 : decode cX5_stepBehindStar 4 = .ok (.iload_n 1, 1) := by decide +kernel
theorem dX5_stepBehindStar_5 : decode cX5_stepBehindStar 5 = .ok (.invokevirtual 173, 3) := by decide +kernel
theorem dX5_stepBehindStar_8 : decode cX5_stepBehindStar 8 = .ok (.iconst 1, 1) := by decide +kernel
theorem dX5_stepBehindStar_9 : decode cX5_stepBehindStar 9 = .ok (.if_icmp .ne 26, 3) := by decide +kernel
theorem dX5_stepBehindStar_12 : decode cX5_stepBehindStar 12 = .ok (.aload_n 0, 1) := by decide +kernel
theorem dX5_stepBehindStar_13 : decode cX5_stepBehindStar 13 = .ok (.getfield 59, 3) := by decide +kernel
theorem dX5_stepBehindStar_16 : decode cX5_stepBehindStar 16 = .ok (.aload_n 0, 1) := by decide +kernel
theorem dX5_stepBehindStar_17 : decode cX5_stepBehindStar 17 = .ok (.getfield 81, 3) := by decide +kernel
theorem dX5_stepBehindStar_20 : decode cX5_stepBehindStar 20 = .ok (.getfield 284, 3) := by decide +kernel
theorem dX5_stepBehindStar_23 : decode cX5_stepBehindStar 23 = .ok (.iload_n 1, 1) := by decide +kernel
theorem dX5_stepBehindStar_24 : decode cX5_stepBehindStar 24 = .ok (.invokevirtual 199, 3) := by decide +kernel
theorem dX5_stepBehindStar_27 : decode cX5_stepBehindStar 27 = .ok (.aload_n 0, 1) := by decide +kernel
theorem dX5_stepBehindStar_28 : decode cX5_stepBehindStar 28 = .ok (.bipush 14, 2) := by decide +kernel
theorem dX5_stepBehindStar_30 : decode cX5_stepBehindStar 30 = .ok (.putfield 33, 3) := by decide +kernel
theorem dX5_stepBehindStar_33 : decode cX5_stepBehindStar 33 = .ok (.iconst 0, 1) := by decide +kernel
theorem dX5_stepBehindStar_34 : decode cX5_stepBehindStar 34 = .ok (.ireturn, 1) := by decide +kernel
theorem dX5_stepBehindStar_35 : decode cX5_stepBehindStar 35 = .ok (.aload_n 0, 1) := by decide +kernel
theorem dX5_stepBehindStar_36 : decode cX5_stepBehindStar 36 = .ok (.iload_n 1, 1) := by decide +kernel
theorem dX5_stepBehindStar_37 : decode cX5_stepBehindStar 37 = .ok (.bipush 58, 2) := by decide +kernel
theorem dX5_stepBehindStar_39 : decode cX5_stepBehindStar 39 = .ok (.bipush 15, 2) := by decide +kernel
theorem dX5_stepBehindStar_41 : decode cX5_stepBehindStar 41 = .ok (.invokevirtual 133, 3) := by decide +kernel
theorem dX5_stepBehindStar_44 : decode cX5_stepBehindStar 44 = .ok (.ireturn, 1) := by decide +kernel
theorem dX5_stepRuleKind_0 : decode cX5_stepRuleKind 0 = .ok (.aload_n 0, 1) := by decide +kernel
theorem dX5_stepRuleKind_1 : decode cX5_stepRuleKind 1 = .ok (.iload_n 1, 1) := by decide +kernel
theorem dX5_stepRuleKind_2 : decode cX5_stepRuleKind 2 = .ok (.invokevirtual 225, 3) := by decide +kernel
theorem dX5_stepRuleKind_5 : decode cX5_stepRuleKind 5 = .ok (.istore_n 2, 1) := by decide +kernel
theorem dX5_stepRuleKind_6 : decode cX5_stepRuleKind 6 = .ok (.iload_n 2, 1) := by decide +kernel
theorem dX5_stepRuleKind_7 : decode cX5_stepRuleKind 7 = .ok (.ifCond .ge 5, 3) := by decide +kernel
theorem dX5_stepRuleKind_10 : decode cX5_stepRuleKind 10 = .ok (.iconst 2, 1) := by decide +kernel
theorem dX5_stepRuleKind_11 : decode cX5_stepRuleKind 11 = .ok (.ireturn, 1) := by decide +kernel
theorem dX5_stepRuleKind_12 : decode cX5_stepRuleKind 12 = .ok (.aload_n 0, 1) := by decide +kernel
theorem dX5_stepRuleKind_13 : decode cX5_stepRuleKind 13 = .ok (.getfield 81, 3) := by decide +kernel
theorem dX5_stepRuleKind_16 : decode cX5_stepRuleKind 16 = .ok (.iload_n 2, 1) := by decide +kernel
theorem dX5_stepRuleKind_17 : decode cX5_stepRuleKind 17 = .ok (.putfield 287, 3) := by decide +kernel
theorem dX5_stepRuleKind_20 : decode cX5_stepRuleKind 20 = .ok (.aload_n 0, 1) := by decide +kernel
theorem dX5_stepRuleKind_21 : decode cX5_stepRuleKind 21 = .ok (.bipush 17, 2) := by decide +kernel
theorem dX5_stepRuleKind_23 : decode cX5_stepRuleKind 23 = .ok (.putfield 33, 3) := by decide +kernel
theorem dX5_stepRuleKind_26 : decode cX5_stepRuleKind 26 = .ok (.iconst 0, 1) := by decide +kernel
theorem dX5_stepRuleKind_27 : decode cX5_stepRuleKind 27 = .ok (.ireturn, 1) := by decide +kernel
theorem dX5_stepLimitWord_0 : decode cX5_stepLimitWord 0 = .ok (.aload_n 0, 1) := by decide +kernel
theorem dX5_stepLimitWord_1 : decode cX5_stepLimitWord 1 = .ok (.getfield 50, 3) := by decide +kernel
theorem dX5_stepLimitWord_4 : decode cX5_stepLimitWord 4 = .ok (.ifCond .lt 17, 3) := by decide +kernel
theorem dX5_stepLimitWord_7 : decode cX5_stepLimitWord 7 = .ok (.aload_n 0, 1) := by decide +kernel
theorem dX5_stepLimitWord_8 : decode cX5_stepLimitWord 8 = .ok (.bipush 10, 2) := by decide +kernel
theorem dX5_stepLimitWord_10 : decode cX5_stepLimitWord 10 = .ok (.aload_n 0, 1) := by decide +kernel
theorem dX5_stepLimitWord_11 : decode cX5_stepLimitWord 11 = .ok (.getfield 59, 3) := by decide +kernel
theorem dX5_stepLimitWord_14 : decode cX5_stepLimitWord 14 = .ok (.iload_n 1, 1) := by decide +kernel
theorem dX5_stepLimitWord_15 : decode cX5_stepLimitWord 15 = .ok (.invokevirtual 106, 3) := by decide +kernel
theorem dX5_stepLimitWord_18 : decode cX5_stepLimitWord 18 = .ok (.invokevirtual 206, 3) := by decide +kernel
theorem dX5_stepLimitWord_21 : decode cX5_stepLimitWord 21 = .ok (.aload_n 0, 1) := by decide +kernel
theorem dX5_stepLimitWord_22 : decode cX5_stepLimitWord 22 = .ok (.bipush 16, 2) := by decide +kernel
theorem dX5_stepLimitWord_24 : decode cX5_stepLimitWord 24 = .ok (.putfield 33, 3) := by decide +kernel
theorem dX5_stepLimitWord_27 : decode cX5_stepLimitWord 27 = .ok (.iconst 0, 1) := by decide +kernel
theorem dX5_stepLimitWord_28 : decode cX5_stepLimitWord 28 = .ok (.ireturn, 1) := by decide +kernel
theorem dX5_stepLimitNumber_0 : decode cX5_stepLimitNumber 0 = .ok (.aload_n 0, 1) := by decide +kernel
theorem dX5_stepLimitNumber_1 : decode cX5_stepLimitNumber 1 = .ok (.getfield 50, 3) := by decide +kernel
theorem dX5_stepLimitNumber_4 : decode cX5_stepLimitNumber 4 = .ok (.ifCond .ge 8, 3) := by decide +kernel
theorem dX5_stepLimitNumber_7 : decode cX5_stepLimitNumber 7 = .ok (.aload_n 0, 1) := by decide +kernel
theorem dX5_stepLimitNumber_8 : decode cX5_stepLimitNumber 8 = .ok (.iload_n 1, 1) := by decide +kernel
theorem dX5_stepLimitNumber_9 : decode cX5_stepLimitNumber 9 = .ok (.putfield 50, 3) := by decide +kernel
theorem dX5_stepLimitNumber_12 : decode cX5_stepLimitNumber 12 = .ok (.aload_n 0, 1) := by decide +kernel
theorem dX5_stepLimitNumber_13 : decode cX5_stepLimitNumber 13 = .ok (.iload_n 1, 1) := by decide +kernel
theorem dX5_stepLimitNumber_14 : decode cX5_stepLimitNumber 14 = .ok (.iconst 2, 1) := by decide +kernel
theorem dX5_stepLimitNumber_15 : decode cX5_stepLimitNumber 15 = .ok (.bipush 17, 2) := by decide +kernel
theorem dX5_stepLimitNumber_17 : decode cX5_stepLimitNumber 17 = .ok (.invokevirtual 133, 3) := by decide +kernel
theorem dX5_stepLimitNumber_20 : decode cX5_stepLimitNumber 20 = .ok (.ireturn, 1) := by decide +kernel
theorem dX5_lookAtPaths_0 : decode cX5_lookAtPaths 0 = .ok (.iconst 0, 1) := by decide +kernel
theorem dX5_lookAtPaths_1 : decode cX5_lookAtPaths 1 = .ok (.istore_n 1, 1) := by decide +kernel
theorem dX5_lookAtPaths_2 : decode cX5_lookAtPaths 2 = .ok (.iload_n 1, 1) := by decide +kernel
theorem dX5_lookAtPaths_3 : decode cX5_lookAtPaths 3 = .ok (.aload_n 0, 1) := by decide +kernel
theorem dX5_lookAtPaths_4 : decode cX5_lookAtPaths 4 = .ok (.getfield 63, 3) := by decide +kernel
theorem dX5_lookAtPaths_7 : decode cX5_lookAtPaths 7 = .ok (.getfield 189, 3) := by decide +kernel
theorem dX5_lookAtPaths_10 : decode cX5_lookAtPaths 10 = .ok (.if_icmp .ge 67, 3) := by decide +kernel
theorem dX5_lookAtPaths_13 : decode cX5_lookAtPaths 13 = .ok (.aload_n 0, 1) := by decide +kernel
theorem dX5_lookAtPaths_14 : decode cX5_lookAtPaths 14 = .ok (.getfield 63, 3) := by decide +kernel
theorem dX5_lookAtPaths_17 : decode cX5_lookAtPaths 17 = .ok (.getfield 67, 3) := by decide +kernel
theorem dX5_lookAtPaths_20 : decode cX5_lookAtPaths 20 = .ok (.iload_n 1, 1) := by decide +kernel
theorem dX5_lookAtPaths_21 : decode cX5_lookAtPaths 21 = .ok (.aaload, 1) := by decide +kernel
theorem dX5_lookAtPaths_22 : decode cX5_lookAtPaths 22 = .ok (.astore_n 2, 1) := by decide +kernel
theorem dX5_lookAtPaths_23 : decode cX5_lookAtPaths 23 = .ok (.aload_n 2, 1) := by decide +kernel
theorem dX5_lookAtPaths_24 : decode cX5_lookAtPaths 24 = .ok (.iconst 4, 1) := by decide +kernel
theorem dX5_lookAtPaths_25 : decode cX5_lookAtPaths 25 = .ok (.invokevirtual 231, 3) := by decide +kernel
theorem dX5_lookAtPaths_28 : decode cX5_lookAtPaths 28 = .ok (.ifCond .eq 18, 3) := by decide +kernel
theorem dX5_lookAtPaths_31 : decode cX5_lookAtPaths 31 = .ok (.aload_n 2, 1) := by decide +kernel
theorem dX5_lookAtPaths_32 : decode cX5_lookAtPaths 32 = .ok (.aload_n 0, 1) := by decide +kernel
theorem dX5_lookAtPaths_33 : decode cX5_lookAtPaths 33 = .ok (.aload_n 0, 1) := by decide +kernel
theorem dX5_lookAtPaths_34 : decode cX5_lookAtPaths 34 = .ok (.getfield 27, 3) := by decide +kernel
theorem dX5_lookAtPaths_37 : decode cX5_lookAtPaths 37 = .ok (.iload_n 1, 1) := by decide +kernel
theorem dX5_lookAtPaths_38 : decode cX5_lookAtPaths 38 = .ok (.iaload, 1) := by decide +kernel
theorem dX5_lookAtPaths_39 : decode cX5_lookAtPaths 39 = .ok (.iconst 4, 1) := by decide +kernel
theorem dX5_lookAtPaths_40 : decode cX5_lookAtPaths 40 = .ok (.invokevirtual 288, 3) := by decide +kernel
theorem dX5_lookAtPaths_43 : decode cX5_lookAtPaths 43 = .ok (.putfield 291, 3) := by decide +kernel
theorem dX5_lookAtPaths_46 : decode cX5_lookAtPaths 46 = .ok (.aload_n 2, 1) := by decide +kernel
theorem dX5_lookAtPaths_47 : decode cX5_lookAtPaths 47 = .ok (.bipush 6, 2) := by decide +kernel
theorem dX5_lookAtPaths_49 : decode cX5_lookAtPaths 49 = .ok (.invokevirtual 231, 3) := by decide +kernel
theorem dX5_lookAtPaths_52 : decode cX5_lookAtPaths 52 = .ok (.ifCond .eq 19, 3) := by decide +kernel
theorem dX5_lookAtPaths_55 : decode cX5_lookAtPaths 55 = .ok (.aload_n 2, 1) := by decide +kernel
theorem dX5_lookAtPaths_56 : decode cX5_lookAtPaths 56 = .ok (.aload_n 0, 1) := by decide +kernel
theorem dX5_lookAtPaths_57 : decode cX5_lookAtPaths 57 = .ok (.aload_n 0, 1) := by decide +kernel
theorem dX5_lookAtPaths_58 : decode cX5_lookAtPaths 58 = .ok (.getfield 30, 3) := by decide +kernel
theorem dX5_lookAtPaths_61 : decode cX5_lookAtPaths 61 = .ok (.iload_n 1, 1) := by decide +kernel
theorem dX5_lookAtPaths_62 : decode cX5_lookAtPaths 62 = .ok (.iaload, 1) := by decide +kernel
theorem dX5_lookAtPaths_63 : decode cX5_lookAtPaths 63 = .ok (.bipush 6, 2) := by decide +kernel
theorem dX5_lookAtPaths_65 : decode cX5_lookAtPaths 65 = .ok (.invokevirtual 288, 3) := by decide +kernel
theorem dX5_lookAtPaths_68 : decode cX5_lookAtPaths 68 = .ok (.putfield 294, 3) := by decide +kernel
theorem dX5_lookAtPaths_71 : decode cX5_lookAtPaths 71 = .ok (.iinc 1 1, 3) := by decide +kernel
theorem dX5_lookAtPaths_74 : decode cX5_lookAtPaths 74 = .ok (.goto (-72), 3) := by decide +kernel
theorem dX5_lookAtPaths_77 : decode cX5_lookAtPaths 77 = .ok (.return_, 1) := by decide +kernel
theorem dX5_fieldMeant_0 : decode cX5_fieldMeant 0 = .ok (.aload_n 0, 1) := by decide +kernel
theorem dX5_fieldMeant_1 : decode cX5_fieldMeant 1 = .ok (.getfield 14, 3) := by decide +kernel
theorem dX5_fieldMeant_4 : decode cX5_fieldMeant 4 = .ok (.invokevirtual 260, 3) := by decide +kernel
theorem dX5_fieldMeant_7 : decode cX5_fieldMeant 7 = .ok (.aload_n 0, 1) := by decide +kernel
theorem dX5_fieldMeant_8 : decode cX5_fieldMeant 8 = .ok (.getfield 59, 3) := by decide +kernel
theorem dX5_fieldMeant_11 : decode cX5_fieldMeant 11 = .ok (.iload_n 1, 1) := by decide +kernel
theorem dX5_fieldMeant_12 : decode cX5_fieldMeant 12 = .ok (.aload_n 0, 1) := by decide +kernel
theorem dX5_fieldMeant_13 : decode cX5_fieldMeant 13 = .ok (.getfield 14, 3) := by decide +kernel
theorem dX5_fieldMeant_16 : decode cX5_fieldMeant 16 = .ok (.invokevirtual 297, 3) := by decide +kernel
theorem dX5_fieldMeant_19 : decode cX5_fieldMeant 19 = .ok (.aload_n 0, 1) := by decide +kernel
theorem dX5_fieldMeant_20 : decode cX5_fieldMeant 20 = .ok (.getfield 14, 3) := by decide +kernel
theorem dX5_fieldMeant_23 : decode cX5_fieldMeant 23 = .ok (.invokevirtual 301, 3) := by decide +kernel
theorem dX5_fieldMeant_26 : decode cX5_fieldMeant 26 = .ok (.ifCond .eq 8, 3) := by decide +kernel
theorem dX5_fieldMeant_29 : decode cX5_fieldMeant 29 = .ok (.bipush (-2), 2) := by decide +kernel
theorem dX5_fieldMeant_31 : decode cX5_fieldMeant 31 = .ok (.goto 21, 3) := by decide +kernel
theorem dX5_fieldMeant_34 : decode cX5_fieldMeant 34 = .ok (.aload_n 0, 1) := by decide +kernel
theorem dX5_fieldMeant_35 : decode cX5_fieldMeant 35 = .ok (.getfield 63, 3) := by decide +kernel
theorem dX5_fieldMeant_38 : decode cX5_fieldMeant 38 = .ok (.aload_n 0, 1) := by decide +kernel
theorem dX5_fieldMeant_39 : decode cX5_fieldMeant 39 = .ok (.getfield 14, 3) := by decide +kernel
theorem dX5_fieldMeant_42 : decode cX5_fieldMeant 42 = .ok (.aload_n 0, 1) := by decide +kernel
theorem dX5_fieldMeant_43 : decode cX5_fieldMeant 43 = .ok (.getfield 14, 3) := by decide +kernel
theorem dX5_fieldMeant_46 : decode cX5_fieldMeant 46 = .ok (.invokevirtual 305, 3) := by decide +kernel
theorem dX5_fieldMeant_49 : decode cX5_fieldMeant 49 = .ok (.invokevirtual 308, 3) := by decide +kernel
theorem dX5_fieldMeant_52 : decode cX5_fieldMeant 52 = .ok (.istore_n 3, 1) := by decide +kernel
theorem dX5_fieldMeant_53 : decode cX5_fieldMeant 53 = .ok (.iload_n 3, 1) := by decide +kernel
theorem dX5_fieldMeant_54 : decode cX5_fieldMeant 54 = .ok (.ifCond .lt 22, 3) := by decide +kernel
theorem dX5_fieldMeant_57 : decode cX5_fieldMeant 57 = .ok (.aload_n 0, 1) := by decide +kernel
theorem dX5_fieldMeant_58 : decode cX5_fieldMeant 58 = .ok (.getfield 63, 3) := by decide +kernel
theorem dX5_fieldMeant_61 : decode cX5_fieldMeant 61 = .ok (.getfield 67, 3) := by decide +kernel
theorem dX5_fieldMeant_64 : decode cX5_fieldMeant 64 = .ok (.iload_n 3, 1) := by decide +kernel
theorem dX5_fieldMeant_65 : decode cX5_fieldMeant 65 = .ok (.aaload, 1) := by decide +kernel
theorem dX5_fieldMeant_66 : decode cX5_fieldMeant 66 = .ok (.getfield 228, 3) := by decide +kernel
theorem dX5_fieldMeant_69 : decode cX5_fieldMeant 69 = .ok (.iload_n 2, 1) := by decide +kernel
theorem dX5_fieldMeant_70 : decode cX5_fieldMeant 70 = .ok (.invokestatic 312, 3) := by decide +kernel
theorem dX5_fieldMeant_73 : decode cX5_fieldMeant 73 = .ok (.ifCond .ne 17, 3) := by decide +kernel
theorem dX5_fieldMeant_76 : decode cX5_fieldMeant 76 = .ok (.aload_n 0, 1) := by decide +kernel
theorem dX5_fieldMeant_77 : decode cX5_fieldMeant 77 = .ok (.bipush 8, 2) := by decide +kernel
theorem dX5_fieldMeant_79 : decode cX5_fieldMeant 79 = .ok (.aload_n 0, 1) := by decide +kernel
theorem dX5_fieldMeant_80 : decode cX5_fieldMeant 80 = .ok (.getfield 59, 3) := by decide +kernel
theorem dX5_fieldMeant_83 : decode cX5_fieldMeant 83 = .ok (.iload_n 1, 1) := by decide +kernel
theorem dX5_fieldMeant_84 : decode cX5_fieldMeant 84 = .ok (.invokevirtual 106, 3) := by decide +kernel
theorem dX5_fieldMeant_87 : decode cX5_fieldMeant 87 = .ok (.invokevirtual 206, 3) := by decide +kernel
theorem dX5_fieldMeant_90 : decode cX5_fieldMeant 90 = .ok (.iload_n 3, 1) := by decide +kernel
theorem dX5_fieldMeant_91 : decode cX5_fieldMeant 91 = .ok (.ireturn, 1) := by decide +kernel
theorem dX5_lookAtCircles_0 : decode cX5_lookAtCircles 0 = .ok (.iconst 0, 1) := by decide +kernel
theorem dX5_lookAtCircles_1 : decode cX5_lookAtCircles 1 = .ok (.istore_n 1, 1) := by decide +kernel
theorem dX5_lookAtCircles_2 : decode cX5_lookAtCircles 2 = .ok (.iload_n 1, 1) := by decide +kernel
theorem dX5_lookAtCircles_3 : decode cX5_lookAtCircles 3 = .ok (.aload_n 0, 1) := by decide +kernel
theorem dX5_lookAtCircles_4 : decode cX5_lookAtCircles 4 = .ok (.getfield 63, 3) := by decide +kernel
theorem dX5_lookAtCircles_7 : decode cX5_lookAtCircles 7 = .ok (.getfield 189, 3) := by decide +kernel
theorem dX5_lookAtCircles_10 : decode cX5_lookAtCircles 10 = .ok (.if_icmp .ge 36, 3) := by decide +kernel
theorem dX5_lookAtCircles_13 : decode cX5_lookAtCircles 13 = .ok (.aload_n 0, 1) := by decide +kernel
theorem dX5_lookAtCircles_14 : decode cX5_lookAtCircles 14 = .ok (.iload_n 1, 1) := by decide +kernel
theorem dX5_lookAtCircles_15 : decode cX5_lookAtCircles 15 = .ok (.invokevirtual 315, 3) := by decide +kernel
theorem dX5_lookAtCircles_18 : decode cX5_lookAtCircles 18 = .ok (.ifCond .eq 22, 3) := by decide +kernel
theorem dX5_lookAtCircles_21 : decode cX5_lookAtCircles 21 = .ok (.aload_n 0, 1) := by decide +kernel
theorem dX5_lookAtCircles_22 : decode cX5_lookAtCircles 22 = .ok (.bipush 9, 2) := by decide +kernel
theorem dX5_lookAtCircles_24 : decode cX5_lookAtCircles 24 = .ok (.aload_n 0, 1) := by decide +kernel
theorem dX5_lookAtCircles_25 : decode cX5_lookAtCircles 25 = .ok (.getfield 59, 3) := by decide +kernel
theorem dX5_lookAtCircles_28 : decode cX5_lookAtCircles 28 = .ok (.aload_n 0, 1) := by decide +kernel
theorem dX5_lookAtCircles_29 : decode cX5_lookAtCircles 29 = .ok (.getfield 24, 3) := by decide +kernel
theorem dX5_lookAtCircles_32 : decode cX5_lookAtCircles 32 = .ok (.iload_n 1, 1) := by decide +kernel
theorem dX5_lookAtCircles_33 : decode cX5_lookAtCircles 33 = .ok (.iaload, 1) := by decide +kernel
theorem dX5_lookAtCircles_34 : decode cX5_lookAtCircles 34 = .ok (.invokevirtual 106, 3) := by decide +kernel
theorem dX5_lookAtCircles_37 : decode cX5_lookAtCircles 37 = .ok (.invokevirtual 206, 3) := by decide +kernel
theorem dX5_lookAtCircles_40 : decode cX5_lookAtCircles 40 = .ok (.iinc 1 1, 3) := by decide +kernel
theorem dX5_lookAtCircles_43 : decode cX5_lookAtCircles 43 = .ok (.goto (-41), 3) := by decide +kernel
theorem dX5_lookAtCircles_46 : decode cX5_lookAtCircles 46 = .ok (.return_, 1) := by decide +kernel
theorem dX5_isInCircle_0 : decode cX5_isInCircle 0 = .ok (.iload_n 1, 1) := by decide +kernel
theorem dX5_isInCircle_1 : decode cX5_isInCircle 1 = .ok (.istore_n 2, 1) := by decide +kernel
theorem dX5_isInCircle_2 : decode cX5_isInCircle 2 = .ok (.iconst 0, 1) := by decide +kernel
theorem dX5_isInCircle_3 : decode cX5_isInCircle 3 = .ok (.istore_n 3, 1) := by decide +kernel
theorem dX5_isInCircle_4 : decode cX5_isInCircle 4 = .ok (.iload_n 3, 1) := by decide +kernel
theorem dX5_isInCircle_5 : decode cX5_isInCircle 5 = .ok (.aload_n 0, 1) := by decide +kernel
theorem dX5_isInCircle_6 : decode cX5_isInCircle 6 = .ok (.getfield 63, 3) := by decide +kernel
theorem dX5_isInCircle_9 : decode cX5_isInCircle 9 = .ok (.getfield 189, 3) := by decide +kernel
theorem dX5_isInCircle_12 : decode cX5_isInCircle 12 = .ok (.if_icmp .ge 42, 3) := by decide +kernel
theorem dX5_isInCircle_15 : decode cX5_isInCircle 15 = .ok (.aload_n 0, 1) := by decide +kernel
theorem dX5_isInCircle_16 : decode cX5_isInCircle 16 = .ok (.getfield 63, 3) := by decide +kernel
theorem dX5_isInCircle_19 : decode cX5_isInCircle 19 = .ok (.getfield 67, 3) := by decide +kernel
theorem dX5_isInCircle_22 : decode cX5_isInCircle 22 = .ok (.iload_n 2, 1) := by decide +kernel
theorem dX5_isInCircle_23 : decode cX5_isInCircle 23 = .ok (.aaload, 1) := by decide +kernel
theorem dX5_isInCircle_24 : decode cX5_isInCircle 24 = .ok (.getfield 291, 3) := by decide +kernel
theorem dX5_isInCircle_27 : decode cX5_isInCircle 27 = .ok (.istore_n 2, 1) := by decide +kernel
theorem dX5_isInCircle_28 : decode cX5_isInCircle 28 = .ok (.iload_n 2, 1) := by decide +kernel
theorem dX5_isInCircle_29 : decode cX5_isInCircle 29 = .ok (.ifCond .lt 8, 3) := by decide +kernel
theorem dX5_isInCircle_32 : decode cX5_isInCircle 32 = .ok (.iload_n 2, 1) := by decide +kernel
theorem dX5_isInCircle_33 : decode cX5_isInCircle 33 = .ok (.iload_n 1, 1) := by decide +kernel
theorem dX5_isInCircle_34 : decode cX5_isInCircle 34 = .ok (.if_icmp .ne 14, 3) := by decide +kernel
theorem dX5_isInCircle_37 : decode cX5_isInCircle 37 = .ok (.iload_n 2, 1) := by decide +kernel
theorem dX5_isInCircle_38 : decode cX5_isInCircle 38 = .ok (.iload_n 1, 1) := by decide +kernel
theorem dX5_isInCircle_39 : decode cX5_isInCircle 39 = .ok (.if_icmp .ne 7, 3) := by decide +kernel
theorem dX5_isInCircle_42 : decode cX5_isInCircle 42 = .ok (.iconst 1, 1) := by decide +kernel
theorem dX5_isInCircle_43 : decode cX5_isInCircle 43 = .ok (.goto 4, 3) := by decide +kernel
theorem dX5_isInCircle_46 : decode cX5_isInCircle 46 = .ok (.iconst 0, 1) := by decide +kernel
theorem dX5_isInCircle_47 : decode cX5_isInCircle 47 = .ok (.ireturn, 1) := by decide +kernel
theorem dX5_isInCircle_48 : decode cX5_isInCircle 48 = .ok (.iinc 3 1, 3) := by decide +kernel
theorem dX5_isInCircle_51 : decode cX5_isInCircle 51 = .ok (.goto (-47), 3) := by decide +kernel
theorem dX5_isInCircle_54 : decode cX5_isInCircle 54 = .ok (.iconst 0, 1) := by decide +kernel
theorem dX5_isInCircle_55 : decode cX5_isInCircle 55 = .ok (.ireturn, 1) := by decide +kernel
theorem dX5_lookAtLimit_0 : decode cX5_lookAtLimit 0 = .ok (.aload_n 0, 1) := by decide +kernel
theorem dX5_lookAtLimit_1 : decode cX5_lookAtLimit 1 = .ok (.getfield 50, 3) := by decide +kernel
theorem dX5_lookAtLimit_4 : decode cX5_lookAtLimit 4 = .ok (.ifCond .ge 4, 3) := by decide +kernel
theorem dX5_lookAtLimit_7 : decode cX5_lookAtLimit 7 = .ok (.return_, 1) := by decide +kernel
theorem dX5_lookAtLimit_8 : decode cX5_lookAtLimit 8 = .ok (.aload_n 0, 1) := by decide +kernel
theorem dX5_lookAtLimit_9 : decode cX5_lookAtLimit 9 = .ok (.getfield 63, 3) := by decide +kernel
theorem dX5_lookAtLimit_12 : decode cX5_lookAtLimit 12 = .ok (.aload_n 0, 1) := by decide +kernel
theorem dX5_lookAtLimit_13 : decode cX5_lookAtLimit 13 = .ok (.getfield 59, 3) := by decide +kernel
theorem dX5_lookAtLimit_16 : decode cX5_lookAtLimit 16 = .ok (.aload_n 0, 1) := by decide +kernel
theorem dX5_lookAtLimit_17 : decode cX5_lookAtLimit 17 = .ok (.getfield 50, 3) := by decide +kernel
theorem dX5_lookAtLimit_20 : decode cX5_lookAtLimit 20 = .ok (.invokevirtual 263, 3) := by decide +kernel
theorem dX5_lookAtLimit_23 : decode cX5_lookAtLimit 23 = .ok (.putfield 318, 3) := by decide +kernel
theorem dX5_lookAtLimit_26 : decode cX5_lookAtLimit 26 = .ok (.aload_n 0, 1) := by decide +kernel
theorem dX5_lookAtLimit_27 : decode cX5_lookAtLimit 27 = .ok (.getfield 63, 3) := by decide +kernel
theorem dX5_lookAtLimit_30 : decode cX5_lookAtLimit 30 = .ok (.getfield 318, 3) := by decide +kernel
theorem dX5_lookAtLimit_33 : decode cX5_lookAtLimit 33 = .ok (.bipush 40, 2) := by decide +kernel
theorem dX5_lookAtLimit_35 : decode cX5_lookAtLimit 35 = .ok (.if_icmp .gt 20, 3) := by decide +kernel
theorem dX5_lookAtLimit_38 : decode cX5_lookAtLimit 38 = .ok (.aload_n 0, 1) := by decide +kernel
theorem dX5_lookAtLimit_39 : decode cX5_lookAtLimit 39 = .ok (.getfield 63, 3) := by decide +kernel
theorem dX5_lookAtLimit_42 : decode cX5_lookAtLimit 42 = .ok (.getfield 318, 3) := by decide +kernel
theorem dX5_lookAtLimit_45 : decode cX5_lookAtLimit 45 = .ok (.aload_n 0, 1) := by decide +kernel
theorem dX5_lookAtLimit_46 : decode cX5_lookAtLimit 46 = .ok (.getfield 63, 3) := by decide +kernel
theorem dX5_lookAtLimit_49 : decode cX5_lookAtLimit 49 = .ok (.getfield 189, 3) := by decide +kernel
theorem dX5_lookAtLimit_52 : decode cX5_lookAtLimit 52 = .ok (.if_icmp .ge 20, 3) := by decide +kernel
theorem dX5_lookAtLimit_55 : decode cX5_lookAtLimit 55 = .ok (.aload_n 0, 1) := by decide +kernel
theorem dX5_lookAtLimit_56 : decode cX5_lookAtLimit 56 = .ok (.bipush 10, 2) := by decide +kernel
theorem dX5_lookAtLimit_58 : decode cX5_lookAtLimit 58 = .ok (.aload_n 0, 1) := by decide +kernel
theorem dX5_lookAtLimit_59 : decode cX5_lookAtLimit 59 = .ok (.getfield 59, 3) := by decide +kernel
theorem dX5_lookAtLimit_62 : decode cX5_lookAtLimit 62 = .ok (.aload_n 0, 1) := by decide +kernel
theorem dX5_lookAtLimit_63 : decode cX5_lookAtLimit 63 = .ok (.getfield 50, 3) := by decide +kernel
theorem dX5_lookAtLimit_66 : decode cX5_lookAtLimit 66 = .ok (.invokevirtual 106, 3) := by decide +kernel
theorem dX5_lookAtLimit_69 : decode cX5_lookAtLimit 69 = .ok (.invokevirtual 206, 3) := by decide +kernel
theorem dX5_lookAtLimit_72 : decode cX5_lookAtLimit 72 = .ok (.return_, 1) := by decide +kernel
theorem dX6_init_0 : decode cX6_init 0 = .ok (.aload_n 0, 1) := by decide +kernel
theorem dX6_init_1 : decode cX6_init 1 = .ok (.invokespecial 3, 3) := by decide +kernel
theorem dX6_init_4 : decode cX6_init 4 = .ok (.aload_n 0, 1) := by decide +kernel
theorem dX6_init_5 : decode cX6_init 5 = .ok (.sipush 2000, 3) := by decide +kernel
theorem dX6_init_8 : decode cX6_init 8 = .ok (.newarray .int, 2) := by decide +kernel
theorem dX6_init_10 : decode cX6_init 10 = .ok (.putfield 9, 3) := by decide +kernel
theorem dX6_init_13 : decode cX6_init 13 = .ok (.aload_n 0, 1) := by decide +kernel
theorem dX6_init_14 : decode cX6_init 14 = .ok (.sipush 2000, 3) := by decide +kernel
theorem dX6_init_17 : decode cX6_init 17 = .ok (.newarray .int, 2) := by decide +kernel
theorem dX6_init_19 : decode cX6_init 19 = .ok (.putfield 15, 3) := by decide +kernel
theorem dX6_init_22 : decode cX6_init 22 = .ok (.aload_n 0, 1) := by decide +kernel
theorem dX6_init_23 : decode cX6_init 23 = .ok (.sipush 2000, 3) := by decide +kernel
theorem dX6_init_26 : decode cX6_init 26 = .ok (.newarray .int, 2) := by decide +kernel
theorem dX6_init_28 : decode cX6_init 28 = .ok (.putfield 18, 3) := by decide +kernel
theorem dX6_init_31 : decode cX6_init 31 = .ok (.aload_n 0, 1) := by decide +kernel
theorem dX6_init_32 : decode cX6_init 32 = .ok (.iconst 0, 1) := by decide +kernel
theorem dX6_init_33 : decode cX6_init 33 = .ok (.putfield 21, 3) := by decide +kernel
theorem dX6_init_36 : decode cX6_init 36 = .ok (.aload_n 0, 1) := by decide +kernel
theorem dX6_init_37 : decode cX6_init 37 = .ok (.aload_n 1, 1) := by decide +kernel
theorem dX6_init_38 : decode cX6_init 38 = .ok (.putfield 25, 3) := by decide +kernel
theorem dX6_init_41 : decode cX6_init 41 = .ok (.return_, 1) := by decide +kernel
theorem dX6_count_0 : decode cX6_count 0 = .ok (.aload_n 0, 1) := by decide +kernel
theorem dX6_count_1 : decode cX6_count 1 = .ok (.getfield 21, 3) := by decide +kernel
theorem dX6_count_4 : decode cX6_count 4 = .ok (.ireturn, 1) := by decide +kernel
theorem dX6_textLength_0 : decode cX6_textLength 0 = .ok (.aload_n 0, 1) := by decide +kernel
theorem dX6_textLength_1 : decode cX6_textLength 1 = .ok (.getfield 25, 3) := by decide +kernel
theorem dX6_textLength_4 : decode cX6_textLength 4 = .ok (.invokevirtual 29, 3) := by decide +kernel
theorem dX6_textLength_7 : decode cX6_textLength 7 = .ok (.ireturn, 1) := by decide +kernel
theorem dX6_kindAt_0 : decode cX6_kindAt 0 = .ok (.iload_n 1, 1) := by decide +kernel
theorem dX6_kindAt_1 : decode cX6_kindAt 1 = .ok (.ifCond .lt 20, 3) := by decide +kernel
theorem dX6_kindAt_4 : decode cX6_kindAt 4 = .ok (.iload_n 1, 1) := by decide +kernel
theorem dX6_kindAt_5 : decode cX6_kindAt 5 = .ok (.aload_n 0, 1) := by decide +kernel
theorem dX6_kindAt_6 : decode cX6_kindAt 6 = .ok (.getfield 21, 3) := by decide +kernel
theorem dX6_kindAt_9 : decode cX6_kindAt 9 = .ok (.if_icmp .ge 12, 3) := by decide +kernel
theorem dX6_kindAt_12 : decode cX6_kindAt 12 = .ok (.aload_n 0, 1) := by decide +kernel
theorem dX6_kindAt_13 : decode cX6_kindAt 13 = .ok (.getfield 9, 3) := by decide +kernel
theorem dX6_kindAt_16 : decode cX6_kindAt 16 = .ok (.iload_n 1, 1) := by decide +kernel
theorem dX6_kindAt_17 : decode cX6_kindAt 17 = .ok (.iaload, 1) := by decide +kernel
theorem dX6_kindAt_18 : decode cX6_kindAt 18 = .ok (.goto 4, 3) := by decide +kernel
theorem dX6_kindAt_21 : decode cX6_kindAt 21 = .ok (.iconst 0, 1) := by decide +kernel
theorem dX6_kindAt_22 : decode cX6_kindAt 22 = .ok (.ireturn, 1) := by decide +kernel
theorem dX6_placeAt_0 : decode cX6_placeAt 0 = .ok (.iload_n 1, 1) := by decide +kernel
theorem dX6_placeAt_1 : decode cX6_placeAt 1 = .ok (.ifCond .lt 20, 3) := by decide +kernel
theorem dX6_placeAt_4 : decode cX6_placeAt 4 = .ok (.iload_n 1, 1) := by decide +kernel
theorem dX6_placeAt_5 : decode cX6_placeAt 5 = .ok (.aload_n 0, 1) := by decide +kernel
theorem dX6_placeAt_6 : decode cX6_placeAt 6 = .ok (.getfield 21, 3) := by decide +kernel
theorem dX6_placeAt_9 : decode cX6_placeAt 9 = .ok (.if_icmp .ge 12, 3) := by decide +kernel
theorem dX6_placeAt_12 : decode cX6_placeAt 12 = .ok (.aload_n 0, 1) := by decide +kernel
theorem dX6_placeAt_13 : decode cX6_placeAt 13 = .ok (.getfield 15, 3) := by decide +kernel
theorem dX6_placeAt_16 : decode cX6_placeAt 16 = .ok (.iload_n 1, 1) := by decide +kernel
theorem dX6_placeAt_17 : decode cX6_placeAt 17 = .ok (.iaload, 1) := by decide +kernel
theorem dX6_placeAt_18 : decode cX6_placeAt 18 = .ok (.goto 10, 3) := by decide +kernel
theorem dX6_placeAt_21 : decode cX6_placeAt 21 = .ok (.aload_n 0, 1) := by decide +kernel
theorem dX6_placeAt_22 : decode cX6_placeAt 22 = .ok (.getfield 25, 3) := by decide +kernel
theorem dX6_placeAt_25 : decode cX6_placeAt 25 = .ok (.invokevirtual 29, 3) := by decide +kernel
theorem dX6_placeAt_28 : decode cX6_placeAt 28 = .ok (.ireturn, 1) := by decide +kernel
theorem dX6_readAll_0 : decode cX6_readAll 0 = .ok (.aload_n 0, 1) := by decide +kernel
theorem dX6_readAll_1 : decode cX6_readAll 1 = .ok (.iconst 0, 1) := by decide +kernel
theorem dX6_readAll_2 : decode cX6_readAll 2 = .ok (.putfield 21, 3) := by decide +kernel
theorem dX6_readAll_5 : decode cX6_readAll 5 = .ok (.iconst 0, 1) := by decide +kernel
theorem dX6_readAll_6 : decode cX6_readAll 6 = .ok (.istore_n 1, 1) := by decide +kernel
theorem dX6_readAll_7 : decode cX6_readAll 7 = .ok (.iconst 0, 1) := by decide +kernel
theorem dX6_readAll_8 : decode cX6_readAll 8 = .ok (.istore_n 2, 1) := by decide +kernel
theorem dX6_readAll_9 : decode cX6_readAll 9 = .ok (.iload_n 2, 1) := by decide +kernel
theorem dX6_readAll_10 : decode cX6_readAll 10 = .ok (.aload_n 0, 1) := by decide +kernel
theorem dX6_readAll_11 : decode cX6_readAll 11 = .ok (.getfield 25, 3) := by decide +kernel
theorem dX6_readAll_14 : decode cX6_readAll 14 = .ok (.invokevirtual 29, 3) := by decide +kernel
theorem dX6_readAll_17 : decode cX6_readAll 17 = .ok (.if_icmp .ge 79, 3) := by decide +kernel
theorem dX6_readAll_20 : decode cX6_readAll 20 = .ok (.aload_n 0, 1) := by decide +kernel
theorem dX6_readAll_21 : decode cX6_readAll 21 = .ok (.getfield 25, 3) := by decide +kernel
theorem dX6_readAll_24 : decode cX6_readAll 24 = .ok (.iload_n 2, 1) := by decide +kernel
theorem dX6_readAll_25 : decode cX6_readAll 25 = .ok (.invokevirtual 35, 3) := by decide +kernel
theorem dX6_readAll_28 : decode cX6_readAll 28 = .ok (.istore_n 3, 1) := by decide +kernel
theorem dX6_readAll_29 : decode cX6_readAll 29 = .ok (.iload_n 1, 1) := by decide +kernel
theorem dX6_readAll_30 : decode cX6_readAll 30 = .ok (.iload_n 3, 1) := by decide +kernel
theorem dX6_readAll_31 : decode cX6_readAll 31 = .ok (.invokestatic 39, 3) := by decide +kernel
theorem dX6_readAll_34 : decode cX6_readAll 34 = .ok (.ifCond .eq 22, 3) := by decide +kernel
theorem dX6_readAll_37 : decode cX6_readAll 37 = .ok (.aload_n 0, 1) := by decide +kernel
theorem dX6_readAll_38 : decode cX6_readAll 38 = .ok (.iload_n 1, 1) := by decide +kernel
theorem dX6_readAll_39 : decode cX6_readAll 39 = .ok (.invokevirtual 43, 3) := by decide +kernel
theorem dX6_readAll_42 : decode cX6_readAll 42 = .ok (.ifCond .ne 48, 3) := by decide +kernel
theorem dX6_readAll_45 : decode cX6_readAll 45 = .ok (.aload_n 0, 1) := by decide +kernel
theorem dX6_readAll_46 : decode cX6_readAll 46 = .ok (.aload_n 0, 1) := by decide +kernel
theorem dX6_readAll_47 : decode cX6_readAll 47 = .ok (.getfield 21, 3) := by decide +kernel
theorem dX6_readAll_50 : decode cX6_readAll 50 = .ok (.iconst 1, 1) := by decide +kernel
theorem dX6_readAll_51 : decode cX6_readAll 51 = .ok (.isub, 1) := by decide +kernel
theorem dX6_readAll_52 : decode cX6_readAll 52 = .ok (.invokevirtual 47, 3) := by decide +kernel
theorem dX6_readAll_55 : decode cX6_readAll 55 = .ok (.ireturn, 1) := by decide +kernel
theorem dX6_readAll_56 : decode cX6_readAll 56 = .ok (.iload_n 3, 1) := by decide +kernel
theorem dX6_readAll_57 : decode cX6_readAll 57 = .ok (.bipush 32, 2) := by decide +kernel
theorem dX6_readAll_59 : decode cX6_readAll 59 = .ok (.if_icmp .eq 9, 3) := by decide +kernel
theorem dX6_readAll_62 : decode cX6_readAll 62 = .ok (.iload_n 3, 1) := by decide +kernel
theorem dX6_readAll_63 : decode cX6_readAll 63 = .ok (.bipush 10, 2) := by decide +kernel
theorem dX6_readAll_65 : decode cX6_readAll 65 = .ok (.if_icmp .ne 8, 3) := by decide +kernel
theorem dX6_readAll_68 : decode cX6_readAll 68 = .ok (.iconst 0, 1) := by decide +kernel
theorem dX6_readAll_69 : decode cX6_readAll 69 = .ok (.istore_n 1, 1) := by decide +kernel
theorem dX6_readAll_70 : decode cX6_readAll 70 = .ok (.goto 20, 3) := by decide +kernel
theorem dX6_readAll_73 : decode cX6_readAll 73 = .ok (.iload_n 3, 1) := by decide +kernel
theorem dX6_readAll_74 : decode cX6_readAll 74 = .ok (.invokestatic 50, 3) := by decide +kernel
theorem dX6_readAll_77 : decode cX6_readAll 77 = .ok (.istore_n 1, 1) := by decide +kernel
theorem dX6_readAll_78 : decode cX6_readAll 78 = .ok (.iload_n 1, 1) := by decide +kernel
theorem dX6_readAll_79 : decode cX6_readAll 79 = .ok (.ifCond .ne 5, 3) := by decide +kernel
theorem dX6_readAll_82 : decode cX6_readAll 82 = .ok (.iload_n 2, 1) := by decide +kernel
theorem dX6_readAll_83 : decode cX6_readAll 83 = .ok (.ireturn, 1) := by decide +kernel
theorem dX6_readAll_84 : decode cX6_readAll 84 = .ok (.aload_n 0, 1) := by decide +kernel
theorem dX6_readAll_85 : decode cX6_readAll 85 = .ok (.iload_n 1, 1) := by decide +kernel
theorem dX6_readAll_86 : decode cX6_readAll 86 = .ok (.iload_n 2, 1) := by decide +kernel
theorem dX6_readAll_87 : decode cX6_readAll 87 = .ok (.invokevirtual 53, 3) := by decide +kernel
theorem dX6_readAll_90 : decode cX6_readAll 90 = .ok (.iinc 2 1, 3) := by decide +kernel
theorem dX6_readAll_93 : decode cX6_readAll 93 = .ok (.goto (-84), 3) := by decide +kernel
theorem dX6_readAll_96 : decode cX6_readAll 96 = .ok (.iconst (-1), 1) := by decide +kernel
theorem dX6_readAll_97 : decode cX6_readAll 97 = .ok (.ireturn, 1) := by decide +kernel
theorem dX6_begin_0 : decode cX6_begin 0 = .ok (.aload_n 0, 1) := by decide +kernel
theorem dX6_begin_1 : decode cX6_begin 1 = .ok (.getfield 21, 3) := by decide +kernel
theorem dX6_begin_4 : decode cX6_begin 4 = .ok (.sipush 2000, 3) := by decide +kernel
theorem dX6_begin_7 : decode cX6_begin 7 = .ok (.if_icmp .ge 43, 3) := by decide +kernel
theorem dX6_begin_10 : decode cX6_begin 10 = .ok (.aload_n 0, 1) := by decide +kernel
theorem dX6_begin_11 : decode cX6_begin 11 = .ok (.getfield 9, 3) := by decide +kernel
theorem dX6_begin_14 : decode cX6_begin 14 = .ok (.aload_n 0, 1) := by decide +kernel
theorem dX6_begin_15 : decode cX6_begin 15 = .ok (.getfield 21, 3) := by decide +kernel
theorem dX6_begin_18 : decode cX6_begin 18 = .ok (.iload_n 1, 1) := by decide +kernel
theorem dX6_begin_19 : decode cX6_begin 19 = .ok (.iastore, 1) := by decide +kernel
theorem dX6_begin_20 : decode cX6_begin 20 = .ok (.aload_n 0, 1) := by decide +kernel
theorem dX6_begin_21 : decode cX6_begin 21 = .ok (.getfield 15, 3) := by decide +kernel
theorem dX6_begin_24 : decode cX6_begin 24 = .ok (.aload_n 0, 1) := by decide +kernel
theorem dX6_begin_25 : decode cX6_begin 25 = .ok (.getfield 21, 3) := by decide +kernel
theorem dX6_begin_28 : decode cX6_begin 28 = .ok (.iload_n 2, 1) := by decide +kernel
theorem dX6_begin_29 : decode cX6_begin 29 = .ok (.iastore, 1) := by decide +kernel
theorem dX6_begin_30 : decode cX6_begin 30 = .ok (.aload_n 0, 1) := by decide +kernel
theorem dX6_begin_31 : decode cX6_begin 31 = .ok (.getfield 18, 3) := by decide +kernel
theorem dX6_begin_34 : decode cX6_begin 34 = .ok (.aload_n 0, 1) := by decide +kernel
theorem dX6_begin_35 : decode cX6_begin 35 = .ok (.getfield 21, 3) := by decide +kernel
theorem dX6_begin_38 : decode cX6_begin 38 = .ok (.iconst 1, 1) := by decide +kernel
theorem dX6_begin_39 : decode cX6_begin 39 = .ok (.iastore, 1) := by decide +kernel
theorem dX6_begin_40 : decode cX6_begin 40 = .ok (.aload_n 0, 1) := by decide +kernel
theorem dX6_begin_41 : decode cX6_begin 41 = .ok (.dup, 1) := by decide +kernel
theorem dX6_begin_42 : decode cX6_begin 42 = .ok (.getfield 21, 3) := by decide +kernel
theorem dX6_begin_45 : decode cX6_begin 45 = .ok (.iconst 1, 1) := by decide +kernel
theorem dX6_begin_46 : decode cX6_begin 46 = .ok (.iadd, 1) := by decide +kernel
theorem dX6_begin_47 : decode cX6_begin 47 = .ok (.putfield 21, 3) := by decide +kernel
theorem dX6_begin_50 : decode cX6_begin 50 = .ok (.return_, 1) := by decide +kernel
theorem dX6_lengthenLast_0 : decode cX6_lengthenLast 0 = .ok (.aload_n 0, 1) := by decide +kernel
theorem dX6_lengthenLast_1 : decode cX6_lengthenLast 1 = .ok (.getfield 21, 3) := by decide +kernel
theorem dX6_lengthenLast_4 : decode cX6_lengthenLast 4 = .ok (.iconst 1, 1) := by decide +kernel
theorem dX6_lengthenLast_5 : decode cX6_lengthenLast 5 = .ok (.if_icmp .ge 5, 3) := by decide +kernel
theorem dX6_lengthenLast_8 : decode cX6_lengthenLast 8 = .ok (.iconst 0, 1) := by decide +kernel
theorem dX6_lengthenLast_9 : decode cX6_lengthenLast 9 = .ok (.ireturn, 1) := by decide +kernel
theorem dX6_lengthenLast_10 : decode cX6_lengthenLast 10 = .ok (.aload_n 0, 1) := by decide +kernel
theorem dX6_lengthenLast_11 : decode cX6_lengthenLast 11 = .ok (.getfield 18, 3) := by decide +kernel
theorem dX6_lengthenLast_14 : decode cX6_lengthenLast 14 = .ok (.aload_n 0, 1) := by decide +kernel
theorem dX6_lengthenLast_15 : decode cX6_lengthenLast 15 = .ok (.getfield 21, 3) := by decide +kernel
theorem dX6_lengthenLast_18 : decode cX6_lengthenLast 18 = .ok (.iconst 1, 1) := by decide +kernel
theorem dX6_lengthenLast_19 : decode cX6_lengthenLast 19 = .ok (.isub, 1) := by decide +kernel
theorem dX6_lengthenLast_20 : decode cX6_lengthenLast 20 = .ok (.dup2, 1) := by decide +kernel
theorem dX6_lengthenLast_21 : decode cX6_lengthenLast 21 = .ok (.iaload, 1) := by decide +kernel
theorem dX6_lengthenLast_22 : decode cX6_lengthenLast 22 = .ok (.iconst 1, 1) := by decide +kernel
theorem dX6_lengthenLast_23 : decode cX6_lengthenLast 23 = .ok (.iadd, 1) := by decide +kernel
theorem dX6_lengthenLast_24 : decode cX6_lengthenLast 24 = .ok (.iastore, 1) := by decide +kernel
theorem dX6_lengthenLast_25 : decode cX6_lengthenLast 25 = .ok (.aload_n 0, 1) := by decide +kernel
theorem dX6_lengthenLast_26 : decode cX6_lengthenLast 26 = .ok (.getfield 18, 3) := by decide +kernel
theorem dX6_lengthenLast_29 : decode cX6_lengthenLast 29 = .ok (.aload_n 0, 1) := by decide +kernel
theorem dX6_lengthenLast_30 : decode cX6_lengthenLast 30 = .ok (.getfield 21, 3) := by decide +kernel
theorem dX6_lengthenLast_33 : decode cX6_lengthenLast 33 = .ok (.iconst 1, 1) := by decide +kernel
theorem dX6_lengthenLast_34 : decode cX6_lengthenLast 34 = .ok (.isub, 1) := by decide +kernel
theorem dX6_lengthenLast_35 : decode cX6_lengthenLast 35 = .ok (.iaload, 1) := by decide +kernel
theorem dX6_lengthenLast_36 : decode cX6_lengthenLast 36 = .ok (.iload_n 1, 1) := by decide +kernel
theorem dX6_lengthenLast_37 : decode cX6_lengthenLast 37 = .ok (.iconst 1, 1) := by decide +kernel
theorem dX6_lengthenLast_38 : decode cX6_lengthenLast 38 = .ok (.if_icmp .ne 8, 3) := by decide +kernel
theorem dX6_lengthenLast_41 : decode cX6_lengthenLast 41 = .ok (.bipush 12, 2) := by decide +kernel
theorem dX6_lengthenLast_43 : decode cX6_lengthenLast 43 = .ok (.goto 5, 3) := by decide +kernel
theorem dX6_lengthenLast_46 : decode cX6_lengthenLast 46 = .ok (.bipush 6, 2) := by decide +kernel
theorem dX6_lengthenLast_48 : decode cX6_lengthenLast 48 = .ok (.if_icmp .gt 7, 3) := by decide +kernel
theorem dX6_lengthenLast_51 : decode cX6_lengthenLast 51 = .ok (.iconst 1, 1) := by decide +kernel
theorem dX6_lengthenLast_52 : decode cX6_lengthenLast 52 = .ok (.goto 4, 3) := by decide +kernel
theorem dX6_lengthenLast_55 : decode cX6_lengthenLast 55 = .ok (.iconst 0, 1) := by decide +kernel
theorem dX6_lengthenLast_56 : decode cX6_lengthenLast 56 = .ok (.ireturn, 1) := by decide +kernel
theorem dX6_goesOn_0 : decode cX6_goesOn 0 = .ok (.iload_n 0, 1) := by decide +kernel
theorem dX6_goesOn_1 : decode cX6_goesOn 1 = .ok (.iconst 1, 1) := by decide +kernel
theorem dX6_goesOn_2 : decode cX6_goesOn 2 = .ok (.if_icmp .ne 23, 3) := by decide +kernel
theorem dX6_goesOn_5 : decode cX6_goesOn 5 = .ok (.iload_n 1, 1) := by decide +kernel
theorem dX6_goesOn_6 : decode cX6_goesOn 6 = .ok (.invokestatic 57, 3) := by decide +kernel
theorem dX6_goesOn_9 : decode cX6_goesOn 9 = .ok (.ifCond .ne 28, 3) := by decide +kernel
theorem dX6_goesOn_12 : decode cX6_goesOn 12 = .ok (.iload_n 1, 1) := by decide +kernel
theorem dX6_goesOn_13 : decode cX6_goesOn 13 = .ok (.invokestatic 60, 3) := by decide +kernel
theorem dX6_goesOn_16 : decode cX6_goesOn 16 = .ok (.ifCond .ne 21, 3) := by decide +kernel
theorem dX6_goesOn_19 : decode cX6_goesOn 19 = .ok (.iload_n 1, 1) := by decide +kernel
theorem dX6_goesOn_20 : decode cX6_goesOn 20 = .ok (.bipush 95, 2) := by decide +kernel
theorem dX6_goesOn_22 : decode cX6_goesOn 22 = .ok (.if_icmp .eq 15, 3) := by decide +kernel
theorem dX6_goesOn_25 : decode cX6_goesOn 25 = .ok (.iload_n 0, 1) := by decide +kernel
theorem dX6_goesOn_26 : decode cX6_goesOn 26 = .ok (.iconst 2, 1) := by decide +kernel
theorem dX6_goesOn_27 : decode cX6_goesOn 27 = .ok (.if_icmp .ne 14, 3) := by decide +kernel
theorem dX6_goesOn_30 : decode cX6_goesOn 30 = .ok (.iload_n 1, 1) := by decide +kernel
theorem dX6_goesOn_31 : decode cX6_goesOn 31 = .ok (.invokestatic 60, 3) := by decide +kernel
theorem dX6_goesOn_34 : decode cX6_goesOn 34 = .ok (.ifCond .eq 7, 3) := by decide +kernel
theorem dX6_goesOn_37 : decode cX6_goesOn 37 = .ok (.iconst 1, 1) := by decide +kernel
theorem dX6_goesOn_38 : decode cX6_goesOn 38 = .ok (.goto 4, 3) := by decide +kernel
theorem dX6_goesOn_41 : decode cX6_goesOn 41 = .ok (.iconst 0, 1) := by decide +kernel
theorem dX6_goesOn_42 : decode cX6_goesOn 42 = .ok (.ireturn, 1) := by decide +kernel
theorem dX6_kindBegunBy_0 : decode cX6_kindBegunBy 0 = .ok (.iload_n 0, 1) := by decide +kernel
theorem dX6_kindBegunBy_1 : decode cX6_kindBegunBy 1 = .ok (.invokestatic 57, 3) := by decide +kernel
theorem dX6_kindBegunBy_4 : decode cX6_kindBegunBy 4 = .ok (.ifCond .eq 5, 3) := by decide +kernel
theorem dX6_kindBegunBy_7 : decode cX6_kindBegunBy 7 = .ok (.iconst 1, 1) := by decide +kernel
theorem dX6_kindBegunBy_8 : decode cX6_kindBegunBy 8 = .ok (.ireturn, 1) := by decide +kernel
theorem dX6_kindBegunBy_9 : decode cX6_kindBegunBy 9 = .ok (.iload_n 0, 1) := by decide +kernel
theorem dX6_kindBegunBy_10 : decode cX6_kindBegunBy 10 = .ok (.invokestatic 60, 3) := by decide +kernel
theorem dX6_kindBegunBy_13 : decode cX6_kindBegunBy 13 = .ok (.ifCond .eq 5, 3) := by decide +kernel
theorem dX6_kindBegunBy_16 : decode cX6_kindBegunBy 16 = .ok (.iconst 2, 1) := by decide +kernel
theorem dX6_kindBegunBy_17 : decode cX6_kindBegunBy 17 = .ok (.ireturn, 1) := by decide +kernel
theorem dX6_kindBegunBy_18 : decode cX6_kindBegunBy 18 = .ok (.iload_n 0, 1) := by decide +kernel
theorem dX6_kindBegunBy_19 : decode cX6_kindBegunBy 19 = .ok (.lookupswitch 91 #[(40, 89), (41, 89), (42, 89), (44, 89), (46, 89), (58, 89), (59, 89), (61, 89), (123, 89), (125, 89)], 89) := by decide +kernel
theorem dX6_kindBegunBy_108 : decode cX6_kindBegunBy 108 = .ok (.iload_n 0, 1) := by decide +kernel
theorem dX6_kindBegunBy_109 : decode cX6_kindBegunBy 109 = .ok (.ireturn, 1) := by decide +kernel
theorem dX6_kindBegunBy_110 : decode cX6_kindBegunBy 110 = .ok (.iconst 0, 1) := by decide +kernel
theorem dX6_kindBegunBy_111 : decode cX6_kindBegunBy 111 = .ok (.ireturn, 1) := by decide +kernel
theorem dX6_isSmall_0 : decode cX6_isSmall 0 = .ok (.iload_n 0, 1) := by decide +kernel
theorem dX6_isSmall_1 : decode cX6_isSmall 1 = .ok (.bipush 97, 2) := by decide +kernel
theorem dX6_isSmall_3 : decode cX6_isSmall 3 = .ok (.if_icmp .lt 13, 3) := by decide +kernel
theorem dX6_isSmall_6 : decode cX6_isSmall 6 = .ok (.iload_n 0, 1) := by decide +kernel
theorem dX6_isSmall_7 : decode cX6_isSmall 7 = .ok (.bipush 122, 2) := by decide +kernel
theorem dX6_isSmall_9 : decode cX6_isSmall 9 = .ok (.if_icmp .gt 7, 3) := by decide +kernel
theorem dX6_isSmall_12 : decode cX6_isSmall 12 = .ok (.iconst 1, 1) := by decide +kernel
theorem dX6_isSmall_13 : decode cX6_isSmall 13 = .ok (.goto 4, 3) := by decide +kernel
theorem dX6_isSmall_16 : decode cX6_isSmall 16 = .ok (.iconst 0, 1) := by decide +kernel
theorem dX6_isSmall_17 : decode cX6_isSmall 17 = .ok (.ireturn, 1) := by decide +kernel
theorem dX6_isDigit_0 : decode cX6_isDigit 0 = .ok (.iload_n 0, 1) := by decide +kernel
theorem dX6_isDigit_1 : decode cX6_isDigit 1 = .ok (.bipush 48, 2) := by decide +kernel
theorem dX6_isDigit_3 : decode cX6_isDigit 3 = .ok (.if_icmp .lt 13, 3) := by decide +kernel
theorem dX6_isDigit_6 : decode cX6_isDigit 6 = .ok (.iload_n 0, 1) := by decide +kernel
theorem dX6_isDigit_7 : decode cX6_isDigit 7 = .ok (.bipush 57, 2) := by decide +kernel
theorem dX6_isDigit_9 : decode cX6_isDigit 9 = .ok (.if_icmp .gt 7, 3) := by decide +kernel
theorem dX6_isDigit_12 : decode cX6_isDigit 12 = .ok (.iconst 1, 1) := by decide +kernel
theorem dX6_isDigit_13 : decode cX6_isDigit 13 = .ok (.goto 4, 3) := by decide +kernel
theorem dX6_isDigit_16 : decode cX6_isDigit 16 = .ok (.iconst 0, 1) := by decide +kernel
theorem dX6_isDigit_17 : decode cX6_isDigit 17 = .ok (.ireturn, 1) := by decide +kernel
theorem dX6_isWord_0 : decode cX6_isWord 0 = .ok (.aload_n 0, 1) := by decide +kernel
theorem dX6_isWord_1 : decode cX6_isWord 1 = .ok (.iload_n 1, 1) := by decide +kernel
theorem dX6_isWord_2 : decode cX6_isWord 2 = .ok (.invokevirtual 63, 3) := by decide +kernel
theorem dX6_isWord_5 : decode cX6_isWord 5 = .ok (.iconst 1, 1) := by decide +kernel
theorem dX6_isWord_6 : decode cX6_isWord 6 = .ok (.if_icmp .ne 30, 3) := by decide +kernel
theorem dX6_isWord_9 : decode cX6_isWord 9 = .ok (.aload_n 0, 1) := by decide +kernel
theorem dX6_isWord_10 : decode cX6_isWord 10 = .ok (.getfield 25, 3) := by decide +kernel
theorem dX6_isWord_13 : decode cX6_isWord 13 = .ok (.aload_n 0, 1) := by decide +kernel
theorem dX6_isWord_14 : decode cX6_isWord 14 = .ok (.getfield 15, 3) := by decide +kernel
theorem dX6_isWord_17 : decode cX6_isWord 17 = .ok (.iload_n 1, 1) := by decide +kernel
theorem dX6_isWord_18 : decode cX6_isWord 18 = .ok (.iaload, 1) := by decide +kernel
theorem dX6_isWord_19 : decode cX6_isWord 19 = .ok (.aload_n 0, 1) := by decide +kernel
theorem dX6_isWord_20 : decode cX6_isWord 20 = .ok (.getfield 18, 3) := by decide +kernel
theorem dX6_isWord_23 : decode cX6_isWord 23 = .ok (.iload_n 1, 1) := by decide +kernel
theorem dX6_isWord_24 : decode cX6_isWord 24 = .ok (.iaload, 1) := by decide +kernel
theorem dX6_isWord_25 : decode cX6_isWord 25 = .ok (.aload_n 2, 1) := by decide +kernel
theorem dX6_isWord_26 : decode cX6_isWord 26 = .ok (.invokevirtual 66, 3) := by decide +kernel
theorem dX6_isWord_29 : decode cX6_isWord 29 = .ok (.ifCond .eq 7, 3) := by decide +kernel
theorem dX6_isWord_32 : decode cX6_isWord 32 = .ok (.iconst 1, 1) := by decide +kernel
theorem dX6_isWord_33 : decode cX6_isWord 33 = .ok (.goto 4, 3) := by decide +kernel
theorem dX6_isWord_36 : decode cX6_isWord 36 = .ok (.iconst 0, 1) := by decide +kernel
theorem dX6_isWord_37 : decode cX6_isWord 37 = .ok (.ireturn, 1) := by decide +kernel
theorem dX6_numberAt_0 : decode cX6_numberAt 0 = .ok (.iconst 0, 1) := by decide +kernel
theorem dX6_numberAt_1 : decode cX6_numberAt 1 = .ok (.istore_n 2, 1) := by decide +kernel
theorem dX6_numberAt_2 : decode cX6_numberAt 2 = .ok (.iconst 0, 1) := by decide +kernel
theorem dX6_numberAt_3 : decode cX6_numberAt 3 = .ok (.istore_n 3, 1) := by decide +kernel
theorem dX6_numberAt_4 : decode cX6_numberAt 4 = .ok (.aload_n 0, 1) := by decide +kernel
theorem dX6_numberAt_5 : decode cX6_numberAt 5 = .ok (.iload_n 1, 1) := by decide +kernel
theorem dX6_numberAt_6 : decode cX6_numberAt 6 = .ok (.invokevirtual 63, 3) := by decide +kernel
theorem dX6_numberAt_9 : decode cX6_numberAt 9 = .ok (.iconst 2, 1) := by decide +kernel
theorem dX6_numberAt_10 : decode cX6_numberAt 10 = .ok (.if_icmp .ne 43, 3) := by decide +kernel
theorem dX6_numberAt_13 : decode cX6_numberAt 13 = .ok (.iload_n 3, 1) := by decide +kernel
theorem dX6_numberAt_14 : decode cX6_numberAt 14 = .ok (.aload_n 0, 1) := by decide +kernel
theorem dX6_numberAt_15 : decode cX6_numberAt 15 = .ok (.getfield 18, 3) := by decide +kernel
theorem dX6_numberAt_18 : decode cX6_numberAt 18 = .ok (.iload_n 1, 1) := by decide +kernel
theorem dX6_numberAt_19 : decode cX6_numberAt 19 = .ok (.iaload, 1) := by decide +kernel
theorem dX6_numberAt_20 : decode cX6_numberAt 20 = .ok (.if_icmp .ge 33, 3) := by decide +kernel
theorem dX6_numberAt_23 : decode cX6_numberAt 23 = .ok (.iload_n 2, 1) := by decide +kernel
theorem dX6_numberAt_24 : decode cX6_numberAt 24 = .ok (.bipush 10, 2) := by decide +kernel
theorem dX6_numberAt_26 : decode cX6_numberAt 26 = .ok (.imul, 1) := by decide +kernel
theorem dX6_numberAt_27 : decode cX6_numberAt 27 = .ok (.aload_n 0, 1) := by decide +kernel
theorem dX6_numberAt_28 : decode cX6_numberAt 28 = .ok (.getfield 25, 3) := by decide +kernel
theorem dX6_numberAt_31 : decode cX6_numberAt 31 = .ok (.aload_n 0, 1) := by decide +kernel
theorem dX6_numberAt_32 : decode cX6_numberAt 32 = .ok (.getfield 15, 3) := by decide +kernel
theorem dX6_numberAt_35 : decode cX6_numberAt 35 = .ok (.iload_n 1, 1) := by decide +kernel
theorem dX6_numberAt_36 : decode cX6_numberAt 36 = .ok (.iaload, 1) := by decide +kernel
theorem dX6_numberAt_37 : decode cX6_numberAt 37 = .ok (.iload_n 3, 1) := by decide +kernel
theorem dX6_numberAt_38 : decode cX6_numberAt 38 = .ok (.iadd, 1) := by decide +kernel
theorem dX6_numberAt_39 : decode cX6_numberAt 39 = .ok (.invokevirtual 35, 3) := by decide +kernel
theorem dX6_numberAt_42 : decode cX6_numberAt 42 = .ok (.iadd, 1) := by decide +kernel
theorem dX6_numberAt_43 : decode cX6_numberAt 43 = .ok (.bipush 48, 2) := by decide +kernel
theorem dX6_numberAt_45 : decode cX6_numberAt 45 = .ok (.isub, 1) := by decide +kernel
theorem dX6_numberAt_46 : decode cX6_numberAt 46 = .ok (.istore_n 2, 1) := by decide +kernel
theorem dX6_numberAt_47 : decode cX6_numberAt 47 = .ok (.iinc 3 1, 3) := by decide +kernel
theorem dX6_numberAt_50 : decode cX6_numberAt 50 = .ok (.goto (-46), 3) := by decide +kernel
theorem dX6_numberAt_53 : decode cX6_numberAt 53 = .ok (.iload_n 2, 1) := by decide +kernel
theorem dX6_numberAt_54 : decode cX6_numberAt 54 = .ok (.ireturn, 1) := by decide +kernel
theorem dX6_addTo_0 : decode cX6_addTo 0 = .ok (.iload_n 2, 1) := by decide +kernel
theorem dX6_addTo_1 : decode cX6_addTo 1 = .ok (.ifCond .lt 31, 3) := by decide +kernel
theorem dX6_addTo_4 : decode cX6_addTo 4 = .ok (.iload_n 2, 1) := by decide +kernel
theorem dX6_addTo_5 : decode cX6_addTo 5 = .ok (.aload_n 0, 1) := by decide +kernel
theorem dX6_addTo_6 : decode cX6_addTo 6 = .ok (.getfield 21, 3) := by decide +kernel
theorem dX6_addTo_9 : decode cX6_addTo 9 = .ok (.if_icmp .ge 23, 3) := by decide +kernel
theorem dX6_addTo_12 : decode cX6_addTo 12 = .ok (.aload_n 1, 1) := by decide +kernel
theorem dX6_addTo_13 : decode cX6_addTo 13 = .ok (.aload_n 0, 1) := by decide +kernel
theorem dX6_addTo_14 : decode cX6_addTo 14 = .ok (.getfield 25, 3) := by decide +kernel
theorem dX6_addTo_17 : decode cX6_addTo 17 = .ok (.aload_n 0, 1) := by decide +kernel
theorem dX6_addTo_18 : decode cX6_addTo 18 = .ok (.getfield 15, 3) := by decide +kernel
theorem dX6_addTo_21 : decode cX6_addTo 21 = .ok (.iload_n 2, 1) := by decide +kernel
theorem dX6_addTo_22 : decode cX6_addTo 22 = .ok (.iaload, 1) := by decide +kernel
theorem dX6_addTo_23 : decode cX6_addTo 23 = .ok (.aload_n 0, 1) := by decide +kernel
theorem dX6_addTo_24 : decode cX6_addTo 24 = .ok (.getfield 18, 3) := by decide +kernel
theorem dX6_addTo_27 : decode cX6_addTo 27 = .ok (.iload_n 2, 1) := by decide +kernel
theorem dX6_addTo_28 : decode cX6_addTo 28 = .ok (.iaload, 1) := by decide +kernel
theorem dX6_addTo_29 : decode cX6_addTo 29 = .ok (.invokevirtual 70, 3) := by decide +kernel
theorem dX6_addTo_32 : decode cX6_addTo 32 = .ok (.return_, 1) := by decide +kernel
theorem dX6_arePath_0 : decode cX6_arePath 0 = .ok (.iconst 0, 1) := by decide +kernel
theorem dX6_arePath_1 : decode cX6_arePath 1 = .ok (.istore_n 1, 1) := by decide +kernel
theorem dX6_arePath_2 : decode cX6_arePath 2 = .ok (.iload_n 1, 1) := by decide +kernel
theorem dX6_arePath_3 : decode cX6_arePath 3 = .ok (.aload_n 0, 1) := by decide +kernel
theorem dX6_arePath_4 : decode cX6_arePath 4 = .ok (.getfield 21, 3) := by decide +kernel
theorem dX6_arePath_7 : decode cX6_arePath 7 = .ok (.if_icmp .ge 32, 3) := by decide +kernel
theorem dX6_arePath_10 : decode cX6_arePath 10 = .ok (.aload_n 0, 1) := by decide +kernel
theorem dX6_arePath_11 : decode cX6_arePath 11 = .ok (.getfield 9, 3) := by decide +kernel
theorem dX6_arePath_14 : decode cX6_arePath 14 = .ok (.iload_n 1, 1) := by decide +kernel
theorem dX6_arePath_15 : decode cX6_arePath 15 = .ok (.iaload, 1) := by decide +kernel
theorem dX6_arePath_16 : decode cX6_arePath 16 = .ok (.iload_n 1, 1) := by decide +kernel
theorem dX6_arePath_17 : decode cX6_arePath 17 = .ok (.iconst 2, 1) := by decide +kernel
theorem dX6_arePath_18 : decode cX6_arePath 18 = .ok (.irem, 1) := by decide +kernel
theorem dX6_arePath_19 : decode cX6_arePath 19 = .ok (.ifCond .ne 7, 3) := by decide +kernel
theorem dX6_arePath_22 : decode cX6_arePath 22 = .ok (.iconst 1, 1) := by decide +kernel
theorem dX6_arePath_23 : decode cX6_arePath 23 = .ok (.goto 5, 3) := by decide +kernel
theorem dX6_arePath_26 : decode cX6_arePath 26 = .ok (.bipush 46, 2) := by decide +kernel
theorem dX6_arePath_28 : decode cX6_arePath 28 = .ok (.if_icmp .eq 5, 3) := by decide +kernel
theorem dX6_arePath_31 : decode cX6_arePath 31 = .ok (.iconst 0, 1) := by decide +kernel
theorem dX6_arePath_32 : decode cX6_arePath 32 = .ok (.ireturn, 1) := by decide +kernel
theorem dX6_arePath_33 : decode cX6_arePath 33 = .ok (.iinc 1 1, 3) := by decide +kernel
theorem dX6_arePath_36 : decode cX6_arePath 36 = .ok (.goto (-34), 3) := by decide +kernel
theorem dX6_arePath_39 : decode cX6_arePath 39 = .ok (.aload_n 0, 1) := by decide +kernel
theorem dX6_arePath_40 : decode cX6_arePath 40 = .ok (.getfield 21, 3) := by decide +kernel
theorem dX6_arePath_43 : decode cX6_arePath 43 = .ok (.iconst 2, 1) := by decide +kernel
theorem dX6_arePath_44 : decode cX6_arePath 44 = .ok (.irem, 1) := by decide +kernel
theorem dX6_arePath_45 : decode cX6_arePath 45 = .ok (.iconst 1, 1) := by decide +kernel
theorem dX6_arePath_46 : decode cX6_arePath 46 = .ok (.if_icmp .ne 7, 3) := by decide +kernel
theorem dX6_arePath_49 : decode cX6_arePath 49 = .ok (.iconst 1, 1) := by decide +kernel
theorem dX6_arePath_50 : decode cX6_arePath 50 = .ok (.goto 4, 3) := by decide +kernel
theorem dX6_arePath_53 : decode cX6_arePath 53 = .ok (.iconst 0, 1) := by decide +kernel
theorem dX6_arePath_54 : decode cX6_arePath 54 = .ok (.ireturn, 1) := by decide +kernel
theorem dX6_joinPath_0 : decode cX6_joinPath 0 = .ok (.iload_n 1, 1) := by decide +kernel
theorem dX6_joinPath_1 : decode cX6_joinPath 1 = .ok (.istore_n 3, 1) := by decide +kernel
theorem dX6_joinPath_2 : decode cX6_joinPath 2 = .ok (.iload_n 3, 1) := by decide +kernel
theorem dX6_joinPath_3 : decode cX6_joinPath 3 = .ok (.aload_n 0, 1) := by decide +kernel
theorem dX6_joinPath_4 : decode cX6_joinPath 4 = .ok (.getfield 21, 3) := by decide +kernel
theorem dX6_joinPath_7 : decode cX6_joinPath 7 = .ok (.if_icmp .ge 34, 3) := by decide +kernel
theorem dX6_joinPath_10 : decode cX6_joinPath 10 = .ok (.aload_n 0, 1) := by decide +kernel
theorem dX6_joinPath_11 : decode cX6_joinPath 11 = .ok (.aload_n 2, 1) := by decide +kernel
theorem dX6_joinPath_12 : decode cX6_joinPath 12 = .ok (.iload_n 3, 1) := by decide +kernel
theorem dX6_joinPath_13 : decode cX6_joinPath 13 = .ok (.invokevirtual 74, 3) := by decide +kernel
theorem dX6_joinPath_16 : decode cX6_joinPath 16 = .ok (.aload_n 0, 1) := by decide +kernel
theorem dX6_joinPath_17 : decode cX6_joinPath 17 = .ok (.iload_n 3, 1) := by decide +kernel
theorem dX6_joinPath_18 : decode cX6_joinPath 18 = .ok (.iconst 1, 1) := by decide +kernel
theorem dX6_joinPath_19 : decode cX6_joinPath 19 = .ok (.iadd, 1) := by decide +kernel
theorem dX6_joinPath_20 : decode cX6_joinPath 20 = .ok (.invokevirtual 63, 3) := by decide +kernel
theorem dX6_joinPath_23 : decode cX6_joinPath 23 = .ok (.bipush 46, 2) := by decide +kernel
theorem dX6_joinPath_25 : decode cX6_joinPath 25 = .ok (.if_icmp .eq 4, 3) := by decide +kernel
theorem dX6_joinPath_28 : decode cX6_joinPath 28 = .ok (.return_, 1) := by decide +kernel
theorem dX6_joinPath_29 : decode cX6_joinPath 29 = .ok (.aload_n 2, 1) := by decide +kernel
theorem dX6_joinPath_30 : decode cX6_joinPath 30 = .ok (.bipush 46, 2) := by decide +kernel
theorem dX6_joinPath_32 : decode cX6_joinPath 32 = .ok (.invokevirtual 78, 3) := by decide +kernel
theorem dX6_joinPath_35 : decode cX6_joinPath 35 = .ok (.iinc 3 2, 3) := by decide +kernel
theorem dX6_joinPath_38 : decode cX6_joinPath 38 = .ok (.goto (-36), 3) := by decide +kernel
theorem dX6_joinPath_41 : decode cX6_joinPath 41 = .ok (.return_, 1) := by decide +kernel
theorem dX7_init_0 : decode cX7_init 0 = .ok (.aload_n 0, 1) := by decide +kernel
theorem dX7_init_1 : decode cX7_init 1 = .ok (.invokespecial 3, 3) := by decide +kernel
theorem dX7_init_4 : decode cX7_init 4 = .ok (.aload_n 0, 1) := by decide +kernel
theorem dX7_init_5 : decode cX7_init 5 = .ok (.bipush 40, 2) := by decide +kernel
theorem dX7_init_7 : decode cX7_init 7 = .ok (.anewarray 9, 3) := by decide +kernel
theorem dX7_init_10 : decode cX7_init 10 = .ok (.putfield 11, 3) := by decide +kernel
theorem dX7_init_13 : decode cX7_init 13 = .ok (.aload_n 0, 1) := by decide +kernel
theorem dX7_init_14 : decode cX7_init 14 = .ok (.bipush 8, 2) := by decide +kernel
theorem dX7_init_16 : decode cX7_init 16 = .ok (.anewarray 17, 3) := by decide +kernel
theorem dX7_init_19 : decode cX7_init 19 = .ok (.putfield 19, 3) := by decide +kernel
theorem dX7_init_22 : decode cX7_init 22 = .ok (.aload_n 0, 1) := by decide +kernel
theorem dX7_init_23 : decode cX7_init 23 = .ok (.bipush 40, 2) := by decide +kernel
theorem dX7_init_25 : decode cX7_init 25 = .ok (.newarray .int, 2) := by decide +kernel
theorem dX7_init_27 : decode cX7_init 27 = .ok (.putfield 23, 3) := by decide +kernel
theorem dX7_init_30 : decode cX7_init 30 = .ok (.aload_n 0, 1) := by decide +kernel
theorem dX7_init_31 : decode cX7_init 31 = .ok (.iconst 0, 1) := by decide +kernel
theorem dX7_init_32 : decode cX7_init 32 = .ok (.putfield 27, 3) := by decide +kernel
theorem dX7_init_35 : decode cX7_init 35 = .ok (.aload_n 0, 1) := by decide +kernel
theorem dX7_init_36 : decode cX7_init 36 = .ok (.iconst 0, 1) := by decide +kernel
theorem dX7_init_37 : decode cX7_init 37 = .ok (.putfield 31, 3) := by decide +kernel
theorem dX7_init_40 : decode cX7_init 40 = .ok (.aload_n 0, 1) := by decide +kernel
theorem dX7_init_41 : decode cX7_init 41 = .ok (.bipush 40, 2) := by decide +kernel
theorem dX7_init_43 : decode cX7_init 43 = .ok (.putfield 34, 3) := by decide +kernel
theorem dX7_init_46 : decode cX7_init 46 = .ok (.iconst 0, 1) := by decide +kernel
theorem dX7_init_47 : decode cX7_init 47 = .ok (.istore_n 1, 1) := by decide +kernel
theorem dX7_init_48 : decode cX7_init 48 = .ok (.iload_n 1, 1) := by decide +kernel
theorem dX7_init_49 : decode cX7_init 49 = .ok (.bipush 40, 2) := by decide +kernel
theorem dX7_init_51 : decode cX7_init 51 = .ok (.if_icmp .ge 22, 3) := by decide +kernel
theorem dX7_init_54 : decode cX7_init 54 = .ok (.aload_n 0, 1) := by decide +kernel
theorem dX7_init_55 : decode cX7_init 55 = .ok (.getfield 11, 3) := by decide +kernel
theorem dX7_init_58 : decode cX7_init 58 = .ok (.iload_n 1, 1) := by decide +kernel
theorem dX7_init_59 : decode cX7_init 59 = .ok (.new 9, 3) := by decide +kernel
theorem dX7_init_62 : decode cX7_init 62 = .ok (.dup, 1) := by decide +kernel
theorem dX7_init_63 : decode cX7_init 63 = .ok (.invokespecial 37, 3) := by decide +kernel
theorem dX7_init_66 : decode cX7_init 66 = .ok (.aastore, 1) := by decide +kernel
theorem dX7_init_67 : decode cX7_init 67 = .ok (.iinc 1 1, 3) := by decide +kernel
theorem dX7_init_70 : decode cX7_init 70 = .ok (.goto (-22), 3) := by decide +kernel
theorem dX7_init_73 : decode cX7_init 73 = .ok (.iconst 0, 1) := by decide +kernel
theorem dX7_init_74 : decode cX7_init 74 = .ok (.istore_n 1, 1) := by decide +kernel
theorem dX7_init_75 : decode cX7_init 75 = .ok (.iload_n 1, 1) := by decide +kernel
theorem dX7_init_76 : decode cX7_init 76 = .ok (.bipush 8, 2) := by decide +kernel
theorem dX7_init_78 : decode cX7_init 78 = .ok (.if_icmp .ge 22, 3) := by decide +kernel
theorem dX7_init_81 : decode cX7_init 81 = .ok (.aload_n 0, 1) := by decide +kernel
theorem dX7_init_82 : decode cX7_init 82 = .ok (.getfield 19, 3) := by decide +kernel
theorem dX7_init_85 : decode cX7_init 85 = .ok (.iload_n 1, 1) := by decide +kernel
theorem dX7_init_86 : decode cX7_init 86 = .ok (.new 17, 3) := by decide +kernel
theorem dX7_init_89 : decode cX7_init 89 = .ok (.dup, 1) := by decide +kernel
theorem dX7_init_90 : decode cX7_init 90 = .ok (.invokespecial 38, 3) := by decide +kernel
theorem dX7_init_93 : decode cX7_init 93 = .ok (.aastore, 1) := by decide +kernel
theorem dX7_init_94 : decode cX7_init 94 = .ok (.iinc 1 1, 3) := by decide +kernel
theorem dX7_init_97 : decode cX7_init 97 = .ok (.goto (-22), 3) := by decide +kernel
theorem dX7_init_100 : decode cX7_init 100 = .ok (.return_, 1) := by decide +kernel
theorem dX7_begin_0 : decode cX7_begin 0 = .ok (.aload_n 0, 1) := by decide +kernel
theorem dX7_begin_1 : decode cX7_begin 1 = .ok (.iconst 0, 1) := by decide +kernel
theorem dX7_begin_2 : decode cX7_begin 2 = .ok (.putfield 27, 3) := by decide +kernel
theorem dX7_begin_5 : decode cX7_begin 5 = .ok (.aload_n 0, 1) := by decide +kernel
theorem dX7_begin_6 : decode cX7_begin 6 = .ok (.iconst 0, 1) := by decide +kernel
theorem dX7_begin_7 : decode cX7_begin 7 = .ok (.putfield 31, 3) := by decide +kernel
theorem dX7_begin_10 : decode cX7_begin 10 = .ok (.aload_n 0, 1) := by decide +kernel
theorem dX7_begin_11 : decode cX7_begin 11 = .ok (.bipush 40, 2) := by decide +kernel
theorem dX7_begin_13 : decode cX7_begin 13 = .ok (.putfield 34, 3) := by decide +kernel
theorem dX7_begin_16 : decode cX7_begin 16 = .ok (.return_, 1) := by decide +kernel
theorem dX7_fieldOf_0 : decode cX7_fieldOf 0 = .ok (.iconst 0, 1) := by decide +kernel
theorem dX7_fieldOf_1 : decode cX7_fieldOf 1 = .ok (.istore_n 3, 1) := by decide +kernel
theorem dX7_fieldOf_2 : decode cX7_fieldOf 2 = .ok (.iload_n 3, 1) := by decide +kernel
theorem dX7_fieldOf_3 : decode cX7_fieldOf 3 = .ok (.aload_n 0, 1) := by decide +kernel
theorem dX7_fieldOf_4 : decode cX7_fieldOf 4 = .ok (.getfield 27, 3) := by decide +kernel
theorem dX7_fieldOf_7 : decode cX7_fieldOf 7 = .ok (.if_icmp .ge 28, 3) := by decide +kernel
theorem dX7_fieldOf_10 : decode cX7_fieldOf 10 = .ok (.aload_n 0, 1) := by decide +kernel
theorem dX7_fieldOf_11 : decode cX7_fieldOf 11 = .ok (.getfield 11, 3) := by decide +kernel
theorem dX7_fieldOf_14 : decode cX7_fieldOf 14 = .ok (.iload_n 3, 1) := by decide +kernel
theorem dX7_fieldOf_15 : decode cX7_fieldOf 15 = .ok (.aaload, 1) := by decide +kernel
theorem dX7_fieldOf_16 : decode cX7_fieldOf 16 = .ok (.getfield 39, 3) := by decide +kernel
theorem dX7_fieldOf_19 : decode cX7_fieldOf 19 = .ok (.aload_n 1, 1) := by decide +kernel
theorem dX7_fieldOf_20 : decode cX7_fieldOf 20 = .ok (.iload_n 2, 1) := by decide +kernel
theorem dX7_fieldOf_21 : decode cX7_fieldOf 21 = .ok (.invokevirtual 43, 3) := by decide +kernel
theorem dX7_fieldOf_24 : decode cX7_fieldOf 24 = .ok (.ifCond .eq 5, 3) := by decide +kernel
theorem dX7_fieldOf_27 : decode cX7_fieldOf 27 = .ok (.iload_n 3, 1) := by decide +kernel
theorem dX7_fieldOf_28 : decode cX7_fieldOf 28 = .ok (.ireturn, 1) := by decide +kernel
theorem dX7_fieldOf_29 : decode cX7_fieldOf 29 = .ok (.iinc 3 1, 3) := by decide +kernel
theorem dX7_fieldOf_32 : decode cX7_fieldOf 32 = .ok (.goto (-30), 3) := by decide +kernel
theorem dX7_fieldOf_35 : decode cX7_fieldOf 35 = .ok (.bipush (-2), 2) := by decide +kernel
theorem dX7_fieldOf_37 : decode cX7_fieldOf 37 = .ok (.ireturn, 1) := by decide +kernel
theorem dX7_ruleFor_0 : decode cX7_ruleFor 0 = .ok (.iconst 0, 1) := by decide +kernel
theorem dX7_ruleFor_1 : decode cX7_ruleFor 1 = .ok (.istore 4, 2) := by decide +kernel
theorem dX7_ruleFor_3 : decode cX7_ruleFor 3 = .ok (.iload 4, 2) := by decide +kernel
theorem dX7_ruleFor_5 : decode cX7_ruleFor 5 = .ok (.aload_n 0, 1) := by decide +kernel
theorem dX7_ruleFor_6 : decode cX7_ruleFor 6 = .ok (.getfield 31, 3) := by decide +kernel
theorem dX7_ruleFor_9 : decode cX7_ruleFor 9 = .ok (.if_icmp .ge 28, 3) := by decide +kernel
theorem dX7_ruleFor_12 : decode cX7_ruleFor 12 = .ok (.aload_n 0, 1) := by decide +kernel
theorem dX7_ruleFor_13 : decode cX7_ruleFor 13 = .ok (.getfield 19, 3) := by decide +kernel
theorem dX7_ruleFor_16 : decode cX7_ruleFor 16 = .ok (.iload 4, 2) := by decide +kernel
theorem dX7_ruleFor_18 : decode cX7_ruleFor 18 = .ok (.aaload, 1) := by decide +kernel
theorem dX7_ruleFor_19 : decode cX7_ruleFor 19 = .ok (.aload_n 1, 1) := by decide +kernel
theorem dX7_ruleFor_20 : decode cX7_ruleFor 20 = .ok (.iload_n 2, 1) := by decide +kernel
theorem dX7_ruleFor_21 : decode cX7_ruleFor 21 = .ok (.iload_n 3, 1) := by decide +kernel
theorem dX7_ruleFor_22 : decode cX7_ruleFor 22 = .ok (.invokevirtual 49, 3) := by decide +kernel
theorem dX7_ruleFor_25 : decode cX7_ruleFor 25 = .ok (.ifCond .eq 6, 3) := by decide +kernel
theorem dX7_ruleFor_28 : decode cX7_ruleFor 28 = .ok (.iload 4, 2) := by decide +kernel
theorem dX7_ruleFor_30 : decode cX7_ruleFor 30 = .ok (.ireturn, 1) := by decide +kernel
theorem dX7_ruleFor_31 : decode cX7_ruleFor 31 = .ok (.iinc 4 1, 3) := by decide +kernel
theorem dX7_ruleFor_34 : decode cX7_ruleFor 34 = .ok (.goto (-31), 3) := by decide +kernel
theorem dX7_ruleFor_37 : decode cX7_ruleFor 37 = .ok (.bipush (-2), 2) := by decide +kernel
theorem dX7_ruleFor_39 : decode cX7_ruleFor 39 = .ok (.ireturn, 1) := by decide +kernel
theorem dX7_countWithin_0 : decode cX7_countWithin 0 = .ok (.iconst 0, 1) := by decide +kernel
theorem dX7_countWithin_1 : decode cX7_countWithin 1 = .ok (.istore_n 2, 1) := by decide +kernel
theorem dX7_countWithin_2 : decode cX7_countWithin 2 = .ok (.iconst 0, 1) := by decide +kernel
theorem dX7_countWithin_3 : decode cX7_countWithin 3 = .ok (.istore_n 3, 1) := by decide +kernel
theorem dX7_countWithin_4 : decode cX7_countWithin 4 = .ok (.iload_n 3, 1) := by decide +kernel
theorem dX7_countWithin_5 : decode cX7_countWithin 5 = .ok (.aload_n 0, 1) := by decide +kernel
theorem dX7_countWithin_6 : decode cX7_countWithin 6 = .ok (.getfield 27, 3) := by decide +kernel
theorem dX7_countWithin_9 : decode cX7_countWithin 9 = .ok (.if_icmp .ge 30, 3) := by decide +kernel
theorem dX7_countWithin_12 : decode cX7_countWithin 12 = .ok (.iload_n 2, 1) := by decide +kernel
theorem dX7_countWithin_13 : decode cX7_countWithin 13 = .ok (.aload_n 0, 1) := by decide +kernel
theorem dX7_countWithin_14 : decode cX7_countWithin 14 = .ok (.getfield 11, 3) := by decide +kernel
theorem dX7_countWithin_17 : decode cX7_countWithin 17 = .ok (.iload_n 3, 1) := by decide +kernel
theorem dX7_countWithin_18 : decode cX7_countWithin 18 = .ok (.aaload, 1) := by decide +kernel
theorem dX7_countWithin_19 : decode cX7_countWithin 19 = .ok (.getfield 53, 3) := by decide +kernel
theorem dX7_countWithin_22 : decode cX7_countWithin 22 = .ok (.iload_n 1, 1) := by decide +kernel
theorem dX7_countWithin_23 : decode cX7_countWithin 23 = .ok (.if_icmp .ne 7, 3) := by decide +kernel
theorem dX7_countWithin_26 : decode cX7_countWithin 26 = .ok (.iconst 1, 1) := by decide +kernel
theorem dX7_countWithin_27 : decode cX7_countWithin 27 = .ok (.goto 4, 3) := by decide +kernel
theorem dX7_countWithin_30 : decode cX7_countWithin 30 = .ok (.iconst 0, 1) := by decide +kernel
theorem dX7_countWithin_31 : decode cX7_countWithin 31 = .ok (.iadd, 1) := by decide +kernel
theorem dX7_countWithin_32 : decode cX7_countWithin 32 = .ok (.istore_n 2, 1) := by decide +kernel
theorem dX7_countWithin_33 : decode cX7_countWithin 33 = .ok (.iinc 3 1, 3) := by decide +kernel
theorem dX7_countWithin_36 : decode cX7_countWithin 36 = .ok (.goto (-32), 3) := by decide +kernel
theorem dX7_countWithin_39 : decode cX7_countWithin 39 = .ok (.iload_n 2, 1) := by decide +kernel
theorem dX7_countWithin_40 : decode cX7_countWithin 40 = .ok (.ireturn, 1) := by decide +kernel
theorem dX7_countLeaves_0 : decode cX7_countLeaves 0 = .ok (.iconst 0, 1) := by decide +kernel
theorem dX7_countLeaves_1 : decode cX7_countLeaves 1 = .ok (.istore_n 1, 1) := by decide +kernel
theorem dX7_countLeaves_2 : decode cX7_countLeaves 2 = .ok (.iconst 0, 1) := by decide +kernel
theorem dX7_countLeaves_3 : decode cX7_countLeaves 3 = .ok (.istore_n 2, 1) := by decide +kernel
theorem dX7_countLeaves_4 : decode cX7_countLeaves 4 = .ok (.iload_n 2, 1) := by decide +kernel
theorem dX7_countLeaves_5 : decode cX7_countLeaves 5 = .ok (.aload_n 0, 1) := by decide +kernel
theorem dX7_countLeaves_6 : decode cX7_countLeaves 6 = .ok (.getfield 27, 3) := by decide +kernel
theorem dX7_countLeaves_9 : decode cX7_countLeaves 9 = .ok (.if_icmp .ge 32, 3) := by decide +kernel
theorem dX7_countLeaves_12 : decode cX7_countLeaves 12 = .ok (.iload_n 1, 1) := by decide +kernel
theorem dX7_countLeaves_13 : decode cX7_countLeaves 13 = .ok (.aload_n 0, 1) := by decide +kernel
theorem dX7_countLeaves_14 : decode cX7_countLeaves 14 = .ok (.getfield 11, 3) := by decide +kernel
theorem dX7_countLeaves_17 : decode cX7_countLeaves 17 = .ok (.iload_n 2, 1) := by decide +kernel
theorem dX7_countLeaves_18 : decode cX7_countLeaves 18 = .ok (.aaload, 1) := by decide +kernel
theorem dX7_countLeaves_19 : decode cX7_countLeaves 19 = .ok (.getfield 56, 3) := by decide +kernel
theorem dX7_countLeaves_22 : decode cX7_countLeaves 22 = .ok (.invokestatic 59, 3) := by decide +kernel
theorem dX7_countLeaves_25 : decode cX7_countLeaves 25 = .ok (.ifCond .eq 7, 3) := by decide +kernel
theorem dX7_countLeaves_28 : decode cX7_countLeaves 28 = .ok (.iconst 1, 1) := by decide +kernel
theorem dX7_countLeaves_29 : decode cX7_countLeaves 29 = .ok (.goto 4, 3) := by decide +kernel
theorem dX7_countLeaves_32 : decode cX7_countLeaves 32 = .ok (.iconst 0, 1) := by decide +kernel
theorem dX7_countLeaves_33 : decode cX7_countLeaves 33 = .ok (.iadd, 1) := by decide +kernel
theorem dX7_countLeaves_34 : decode cX7_countLeaves 34 = .ok (.istore_n 1, 1) := by decide +kernel
theorem dX7_countLeaves_35 : decode cX7_countLeaves 35 = .ok (.iinc 2 1, 3) := by decide +kernel
theorem dX7_countLeaves_38 : decode cX7_countLeaves 38 = .ok (.goto (-34), 3) := by decide +kernel
theorem dX7_countLeaves_41 : decode cX7_countLeaves 41 = .ok (.iload_n 1, 1) := by decide +kernel
theorem dX7_countLeaves_42 : decode cX7_countLeaves 42 = .ok (.ireturn, 1) := by decide +kernel
theorem dX7_countReached_0 : decode cX7_countReached 0 = .ok (.iload_n 1, 1) := by decide +kernel
theorem dX7_countReached_1 : decode cX7_countReached 1 = .ok (.ifCond .lt 26, 3) := by decide +kernel
theorem dX7_countReached_4 : decode cX7_countReached 4 = .ok (.iload_n 1, 1) := by decide +kernel
theorem dX7_countReached_5 : decode cX7_countReached 5 = .ok (.aload_n 0, 1) := by decide +kernel
theorem dX7_countReached_6 : decode cX7_countReached 6 = .ok (.getfield 27, 3) := by decide +kernel
theorem dX7_countReached_9 : decode cX7_countReached 9 = .ok (.if_icmp .ge 18, 3) := by decide +kernel
theorem dX7_countReached_12 : decode cX7_countReached 12 = .ok (.aload_n 0, 1) := by decide +kernel
theorem dX7_countReached_13 : decode cX7_countReached 13 = .ok (.getfield 11, 3) := by decide +kernel
theorem dX7_countReached_16 : decode cX7_countReached 16 = .ok (.iload_n 1, 1) := by decide +kernel
theorem dX7_countReached_17 : decode cX7_countReached 17 = .ok (.aaload, 1) := by decide +kernel
theorem dX7_countReached_18 : decode cX7_countReached 18 = .ok (.getfield 56, 3) := by decide +kernel
theorem dX7_countReached_21 : decode cX7_countReached 21 = .ok (.invokestatic 59, 3) := by decide +kernel
theorem dX7_countReached_24 : decode cX7_countReached 24 = .ok (.ifCond .ne 5, 3) := by decide +kernel
theorem dX7_countReached_27 : decode cX7_countReached 27 = .ok (.iconst 0, 1) := by decide +kernel
theorem dX7_countReached_28 : decode cX7_countReached 28 = .ok (.ireturn, 1) := by decide +kernel
theorem dX7_countReached_29 : decode cX7_countReached 29 = .ok (.iload_n 1, 1) := by decide +kernel
theorem dX7_countReached_30 : decode cX7_countReached 30 = .ok (.istore_n 2, 1) := by decide +kernel
theorem dX7_countReached_31 : decode cX7_countReached 31 = .ok (.iconst 1, 1) := by decide +kernel
theorem dX7_countReached_32 : decode cX7_countReached 32 = .ok (.istore_n 3, 1) := by decide +kernel
theorem dX7_countReached_33 : decode cX7_countReached 33 = .ok (.iload_n 3, 1) := by decide +kernel
theorem dX7_countReached_34 : decode cX7_countReached 34 = .ok (.aload_n 0, 1) := by decide +kernel
theorem dX7_countReached_35 : decode cX7_countReached 35 = .ok (.getfield 27, 3) := by decide +kernel
theorem dX7_countReached_38 : decode cX7_countReached 38 = .ok (.if_icmp .ge 33, 3) := by decide +kernel
theorem dX7_countReached_41 : decode cX7_countReached 41 = .ok (.aload_n 0, 1) := by decide +kernel
theorem dX7_countReached_42 : decode cX7_countReached 42 = .ok (.getfield 11, 3) := by decide +kernel
theorem dX7_countReached_45 : decode cX7_countReached 45 = .ok (.iload_n 2, 1) := by decide +kernel
theorem dX7_countReached_46 : decode cX7_countReached 46 = .ok (.aaload, 1) := by decide +kernel
theorem dX7_countReached_47 : decode cX7_countReached 47 = .ok (.getfield 65, 3) := by decide +kernel
theorem dX7_countReached_50 : decode cX7_countReached 50 = .ok (.istore_n 2, 1) := by decide +kernel
theorem dX7_countReached_51 : decode cX7_countReached 51 = .ok (.iload_n 2, 1) := by decide +kernel
theorem dX7_countReached_52 : decode cX7_countReached 52 = .ok (.ifCond .lt 11, 3) := by decide +kernel
theorem dX7_countReached_55 : decode cX7_countReached 55 = .ok (.iload_n 2, 1) := by decide +kernel
theorem dX7_countReached_56 : decode cX7_countReached 56 = .ok (.aload_n 0, 1) := by decide +kernel
theorem dX7_countReached_57 : decode cX7_countReached 57 = .ok (.getfield 27, 3) := by decide +kernel
theorem dX7_countReached_60 : decode cX7_countReached 60 = .ok (.if_icmp .lt 5, 3) := by decide +kernel
theorem dX7_countReached_63 : decode cX7_countReached 63 = .ok (.iload_n 3, 1) := by decide +kernel
theorem dX7_countReached_64 : decode cX7_countReached 64 = .ok (.ireturn, 1) := by decide +kernel
theorem dX7_countReached_65 : decode cX7_countReached 65 = .ok (.iinc 3 1, 3) := by decide +kernel
theorem dX7_countReached_68 : decode cX7_countReached 68 = .ok (.goto (-35), 3) := by decide +kernel
theorem dX7_countReached_71 : decode cX7_countReached 71 = .ok (.aload_n 0, 1) := by decide +kernel
theorem dX7_countReached_72 : decode cX7_countReached 72 = .ok (.getfield 27, 3) := by decide +kernel
theorem dX7_countReached_75 : decode cX7_countReached 75 = .ok (.ireturn, 1) := by decide +kernel
theorem dX7_kindToCome_0 : decode cX7_kindToCome 0 = .ok (.aload_n 1, 1) := by decide +kernel
theorem dX7_kindToCome_1 : decode cX7_kindToCome 1 = .ok (.invokevirtual 68, 3) := by decide +kernel
theorem dX7_kindToCome_4 : decode cX7_kindToCome 4 = .ok (.istore_n 3, 1) := by decide +kernel
theorem dX7_kindToCome_5 : decode cX7_kindToCome 5 = .ok (.aload_n 1, 1) := by decide +kernel
theorem dX7_kindToCome_6 : decode cX7_kindToCome 6 = .ok (.invokevirtual 72, 3) := by decide +kernel
theorem dX7_kindToCome_9 : decode cX7_kindToCome 9 = .ok (.iload_n 3, 1) := by decide +kernel
theorem dX7_kindToCome_10 : decode cX7_kindToCome 10 = .ok (.isub, 1) := by decide +kernel
theorem dX7_kindToCome_11 : decode cX7_kindToCome 11 = .ok (.istore 4, 2) := by decide +kernel
theorem dX7_kindToCome_13 : decode cX7_kindToCome 13 = .ok (.aload_n 1, 1) := by decide +kernel
theorem dX7_kindToCome_14 : decode cX7_kindToCome 14 = .ok (.iload_n 3, 1) := by decide +kernel
theorem dX7_kindToCome_15 : decode cX7_kindToCome 15 = .ok (.iload 4, 2) := by decide +kernel
theorem dX7_kindToCome_17 : decode cX7_kindToCome 17 = .ok (.ldc 75, 2) := by decide +kernel
theorem dX7_kindToCome_19 : decode cX7_kindToCome 19 = .ok (.invokevirtual 77, 3) := by decide +kernel
theorem dX7_kindToCome_22 : decode cX7_kindToCome 22 = .ok (.ifCond .ne 15, 3) := by decide +kernel
theorem dX7_kindToCome_25 : decode cX7_kindToCome 25 = .ok (.aload_n 1, 1) := by decide +kernel
theorem dX7_kindToCome_26 : decode cX7_kindToCome 26 = .ok (.iload_n 3, 1) := by decide +kernel
theorem dX7_kindToCome_27 : decode cX7_kindToCome 27 = .ok (.iload 4, 2) := by decide +kernel
theorem dX7_kindToCome_29 : decode cX7_kindToCome 29 = .ok (.ldc 81, 2) := by decide +kernel
theorem dX7_kindToCome_31 : decode cX7_kindToCome 31 = .ok (.invokevirtual 77, 3) := by decide +kernel
theorem dX7_kindToCome_34 : decode cX7_kindToCome 34 = .ok (.ifCond .eq 7, 3) := by decide +kernel
theorem dX7_kindToCome_37 : decode cX7_kindToCome 37 = .ok (.iconst 1, 1) := by decide +kernel
theorem dX7_kindToCome_38 : decode cX7_kindToCome 38 = .ok (.goto 4, 3) := by decide +kernel
theorem dX7_kindToCome_41 : decode cX7_kindToCome 41 = .ok (.iconst 0, 1) := by decide +kernel
theorem dX7_kindToCome_42 : decode cX7_kindToCome 42 = .ok (.istore 5, 2) := by decide +kernel
theorem dX7_kindToCome_44 : decode cX7_kindToCome 44 = .ok (.iload 5, 2) := by decide +kernel
theorem dX7_kindToCome_46 : decode cX7_kindToCome 46 = .ok (.ifCond .ne 31, 3) := by decide +kernel
theorem dX7_kindToCome_49 : decode cX7_kindToCome 49 = .ok (.aload_n 0, 1) := by decide +kernel
theorem dX7_kindToCome_50 : decode cX7_kindToCome 50 = .ok (.getfield 27, 3) := by decide +kernel
theorem dX7_kindToCome_53 : decode cX7_kindToCome 53 = .ok (.aload_n 0, 1) := by decide +kernel
theorem dX7_kindToCome_54 : decode cX7_kindToCome 54 = .ok (.getfield 34, 3) := by decide +kernel
theorem dX7_kindToCome_57 : decode cX7_kindToCome 57 = .ok (.if_icmp .ge 20, 3) := by decide +kernel
theorem dX7_kindToCome_60 : decode cX7_kindToCome 60 = .ok (.aload_n 0, 1) := by decide +kernel
theorem dX7_kindToCome_61 : decode cX7_kindToCome 61 = .ok (.getfield 27, 3) := by decide +kernel
theorem dX7_kindToCome_64 : decode cX7_kindToCome 64 = .ok (.bipush 40, 2) := by decide +kernel
theorem dX7_kindToCome_66 : decode cX7_kindToCome 66 = .ok (.if_icmp .ge 11, 3) := by decide +kernel
theorem dX7_kindToCome_69 : decode cX7_kindToCome 69 = .ok (.aload_n 0, 1) := by decide +kernel
theorem dX7_kindToCome_70 : decode cX7_kindToCome 70 = .ok (.aload_n 1, 1) := by decide +kernel
theorem dX7_kindToCome_71 : decode cX7_kindToCome 71 = .ok (.invokevirtual 82, 3) := by decide +kernel
theorem dX7_kindToCome_74 : decode cX7_kindToCome 74 = .ok (.ifCond .ne 6, 3) := by decide +kernel
theorem dX7_kindToCome_77 : decode cX7_kindToCome 77 = .ok (.bipush (-2), 2) := by decide +kernel
theorem dX7_kindToCome_79 : decode cX7_kindToCome 79 = .ok (.ireturn, 1) := by decide +kernel
theorem dX7_kindToCome_80 : decode cX7_kindToCome 80 = .ok (.aload_n 0, 1) := by decide +kernel
theorem dX7_kindToCome_81 : decode cX7_kindToCome 81 = .ok (.aload_n 1, 1) := by decide +kernel
theorem dX7_kindToCome_82 : decode cX7_kindToCome 82 = .ok (.iload_n 3, 1) := by decide +kernel
theorem dX7_kindToCome_83 : decode cX7_kindToCome 83 = .ok (.iload_n 2, 1) := by decide +kernel
theorem dX7_kindToCome_84 : decode cX7_kindToCome 84 = .ok (.invokevirtual 86, 3) := by decide +kernel
theorem dX7_kindToCome_87 : decode cX7_kindToCome 87 = .ok (.istore 6, 2) := by decide +kernel
theorem dX7_kindToCome_89 : decode cX7_kindToCome 89 = .ok (.iload 6, 2) := by decide +kernel
theorem dX7_kindToCome_91 : decode cX7_kindToCome 91 = .ok (.ifCond .ge 8, 3) := by decide +kernel
theorem dX7_kindToCome_94 : decode cX7_kindToCome 94 = .ok (.bipush (-2), 2) := by decide +kernel
theorem dX7_kindToCome_96 : decode cX7_kindToCome 96 = .ok (.goto 13, 3) := by decide +kernel
theorem dX7_kindToCome_99 : decode cX7_kindToCome 99 = .ok (.aload_n 0, 1) := by decide +kernel
theorem dX7_kindToCome_100 : decode cX7_kindToCome 100 = .ok (.getfield 19, 3) := by decide +kernel
theorem dX7_kindToCome_103 : decode cX7_kindToCome 103 = .ok (.iload 6, 2) := by decide +kernel
theorem dX7_kindToCome_105 : decode cX7_kindToCome 105 = .ok (.aaload, 1) := by decide +kernel
theorem dX7_kindToCome_106 : decode cX7_kindToCome 106 = .ok (.getfield 90, 3) := by decide +kernel
theorem dX7_kindToCome_109 : decode cX7_kindToCome 109 = .ok (.ireturn, 1) := by decide +kernel
theorem dX7_hasPlaceFor_0 : decode cX7_hasPlaceFor 0 = .ok (.aload_n 1, 1) := by decide +kernel
theorem dX7_hasPlaceFor_1 : decode cX7_hasPlaceFor 1 = .ok (.invokevirtual 91, 3) := by decide +kernel
theorem dX7_hasPlaceFor_4 : decode cX7_hasPlaceFor 4 = .ok (.istore_n 2, 1) := by decide +kernel
theorem dX7_hasPlaceFor_5 : decode cX7_hasPlaceFor 5 = .ok (.iload_n 2, 1) := by decide +kernel
theorem dX7_hasPlaceFor_6 : decode cX7_hasPlaceFor 6 = .ok (.ifCond .ge 5, 3) := by decide +kernel
theorem dX7_hasPlaceFor_9 : decode cX7_hasPlaceFor 9 = .ok (.iconst 1, 1) := by decide +kernel
theorem dX7_hasPlaceFor_10 : decode cX7_hasPlaceFor 10 = .ok (.ireturn, 1) := by decide +kernel
theorem dX7_hasPlaceFor_11 : decode cX7_hasPlaceFor 11 = .ok (.aload_n 0, 1) := by decide +kernel
theorem dX7_hasPlaceFor_12 : decode cX7_hasPlaceFor 12 = .ok (.aload_n 1, 1) := by decide +kernel
theorem dX7_hasPlaceFor_13 : decode cX7_hasPlaceFor 13 = .ok (.iload_n 2, 1) := by decide +kernel
theorem dX7_hasPlaceFor_14 : decode cX7_hasPlaceFor 14 = .ok (.invokevirtual 94, 3) := by decide +kernel
theorem dX7_hasPlaceFor_17 : decode cX7_hasPlaceFor 17 = .ok (.istore_n 3, 1) := by decide +kernel
theorem dX7_hasPlaceFor_18 : decode cX7_hasPlaceFor 18 = .ok (.iload_n 3, 1) := by decide +kernel
theorem dX7_hasPlaceFor_19 : decode cX7_hasPlaceFor 19 = .ok (.ifCond .lt 35, 3) := by decide +kernel
theorem dX7_hasPlaceFor_22 : decode cX7_hasPlaceFor 22 = .ok (.aload_n 0, 1) := by decide +kernel
theorem dX7_hasPlaceFor_23 : decode cX7_hasPlaceFor 23 = .ok (.getfield 11, 3) := by decide +kernel
theorem dX7_hasPlaceFor_26 : decode cX7_hasPlaceFor 26 = .ok (.iload_n 3, 1) := by decide +kernel
theorem dX7_hasPlaceFor_27 : decode cX7_hasPlaceFor 27 = .ok (.aaload, 1) := by decide +kernel
theorem dX7_hasPlaceFor_28 : decode cX7_hasPlaceFor 28 = .ok (.getfield 56, 3) := by decide +kernel
theorem dX7_hasPlaceFor_31 : decode cX7_hasPlaceFor 31 = .ok (.invokestatic 98, 3) := by decide +kernel
theorem dX7_hasPlaceFor_34 : decode cX7_hasPlaceFor 34 = .ok (.ifCond .eq 20, 3) := by decide +kernel
theorem dX7_hasPlaceFor_37 : decode cX7_hasPlaceFor 37 = .ok (.aload_n 0, 1) := by decide +kernel
theorem dX7_hasPlaceFor_38 : decode cX7_hasPlaceFor 38 = .ok (.getfield 11, 3) := by decide +kernel
theorem dX7_hasPlaceFor_41 : decode cX7_hasPlaceFor 41 = .ok (.iload_n 3, 1) := by decide +kernel
theorem dX7_hasPlaceFor_42 : decode cX7_hasPlaceFor 42 = .ok (.aaload, 1) := by decide +kernel
theorem dX7_hasPlaceFor_43 : decode cX7_hasPlaceFor 43 = .ok (.getfield 101, 3) := by decide +kernel
theorem dX7_hasPlaceFor_46 : decode cX7_hasPlaceFor 46 = .ok (.iconst 4, 1) := by decide +kernel
theorem dX7_hasPlaceFor_47 : decode cX7_hasPlaceFor 47 = .ok (.if_icmp .ge 7, 3) := by decide +kernel
theorem dX7_hasPlaceFor_50 : decode cX7_hasPlaceFor 50 = .ok (.iconst 1, 1) := by decide +kernel
theorem dX7_hasPlaceFor_51 : decode cX7_hasPlaceFor 51 = .ok (.goto 4, 3) := by decide +kernel
theorem dX7_hasPlaceFor_54 : decode cX7_hasPlaceFor 54 = .ok (.iconst 0, 1) := by decide +kernel
theorem dX7_hasPlaceFor_55 : decode cX7_hasPlaceFor 55 = .ok (.ireturn, 1) := by decide +kernel
theorem dX7_endOf_0 : decode cX7_endOf 0 = .ok (.iload_n 1, 1) := by decide +kernel
theorem dX7_endOf_1 : decode cX7_endOf 1 = .ok (.ifCond .lt 11, 3) := by decide +kernel
theorem dX7_endOf_4 : decode cX7_endOf 4 = .ok (.iload_n 1, 1) := by decide +kernel
theorem dX7_endOf_5 : decode cX7_endOf 5 = .ok (.aload_n 0, 1) := by decide +kernel
theorem dX7_endOf_6 : decode cX7_endOf 6 = .ok (.getfield 27, 3) := by decide +kernel
theorem dX7_endOf_9 : decode cX7_endOf 9 = .ok (.if_icmp .lt 8, 3) := by decide +kernel
theorem dX7_endOf_12 : decode cX7_endOf 12 = .ok (.aload_n 0, 1) := by decide +kernel
theorem dX7_endOf_13 : decode cX7_endOf 13 = .ok (.getfield 27, 3) := by decide +kernel
theorem dX7_endOf_16 : decode cX7_endOf 16 = .ok (.ireturn, 1) := by decide +kernel
theorem dX7_endOf_17 : decode cX7_endOf 17 = .ok (.iload_n 1, 1) := by decide +kernel
theorem dX7_endOf_18 : decode cX7_endOf 18 = .ok (.iconst 1, 1) := by decide +kernel
theorem dX7_endOf_19 : decode cX7_endOf 19 = .ok (.iadd, 1) := by decide +kernel
theorem dX7_endOf_20 : decode cX7_endOf 20 = .ok (.istore_n 2, 1) := by decide +kernel
theorem dX7_endOf_21 : decode cX7_endOf 21 = .ok (.iload_n 2, 1) := by decide +kernel
theorem dX7_endOf_22 : decode cX7_endOf 22 = .ok (.aload_n 0, 1) := by decide +kernel
theorem dX7_endOf_23 : decode cX7_endOf 23 = .ok (.getfield 27, 3) := by decide +kernel
theorem dX7_endOf_26 : decode cX7_endOf 26 = .ok (.if_icmp .ge 32, 3) := by decide +kernel
theorem dX7_endOf_29 : decode cX7_endOf 29 = .ok (.aload_n 0, 1) := by decide +kernel
theorem dX7_endOf_30 : decode cX7_endOf 30 = .ok (.getfield 11, 3) := by decide +kernel
theorem dX7_endOf_33 : decode cX7_endOf 33 = .ok (.iload_n 2, 1) := by decide +kernel
theorem dX7_endOf_34 : decode cX7_endOf 34 = .ok (.aaload, 1) := by decide +kernel
theorem dX7_endOf_35 : decode cX7_endOf 35 = .ok (.getfield 101, 3) := by decide +kernel
theorem dX7_endOf_38 : decode cX7_endOf 38 = .ok (.aload_n 0, 1) := by decide +kernel
theorem dX7_endOf_39 : decode cX7_endOf 39 = .ok (.getfield 11, 3) := by decide +kernel
theorem dX7_endOf_42 : decode cX7_endOf 42 = .ok (.iload_n 1, 1) := by decide +kernel
theorem dX7_endOf_43 : decode cX7_endOf 43 = .ok (.aaload, 1) := by decide +kernel
theorem dX7_endOf_44 : decode cX7_endOf 44 = .ok (.getfield 101, 3) := by decide +kernel
theorem dX7_endOf_47 : decode cX7_endOf 47 = .ok (.if_icmp .gt 5, 3) := by decide +kernel
theorem dX7_endOf_50 : decode cX7_endOf 50 = .ok (.iload_n 2, 1) := by decide +kernel
theorem dX7_endOf_51 : decode cX7_endOf 51 = .ok (.ireturn, 1) := by decide +kernel
theorem dX7_endOf_52 : decode cX7_endOf 52 = .ok (.iinc 2 1, 3) := by decide +kernel
theorem dX7_endOf_55 : decode cX7_endOf 55 = .ok (.goto (-34), 3) := by decide +kernel
theorem dX7_endOf_58 : decode cX7_endOf 58 = .ok (.aload_n 0, 1) := by decide +kernel
theorem dX7_endOf_59 : decode cX7_endOf 59 = .ok (.getfield 27, 3) := by decide +kernel
theorem dX7_endOf_62 : decode cX7_endOf 62 = .ok (.ireturn, 1) := by decide +kernel
theorem dX7_growFrom_0 : decode cX7_growFrom 0 = .ok (.aload_n 1, 1) := by decide +kernel
theorem dX7_growFrom_1 : decode cX7_growFrom 1 = .ok (.aload_n 2, 1) := by decide +kernel
theorem dX7_growFrom_2 : decode cX7_growFrom 2 = .ok (.aload_n 2, 1) := by decide +kernel
theorem dX7_growFrom_3 : decode cX7_growFrom 3 = .ok (.invokevirtual 91, 3) := by decide +kernel
theorem dX7_growFrom_6 : decode cX7_growFrom 6 = .ok (.invokevirtual 94, 3) := by decide +kernel
theorem dX7_growFrom_9 : decode cX7_growFrom 9 = .ok (.istore 4, 2) := by decide +kernel
theorem dX7_growFrom_11 : decode cX7_growFrom 11 = .ok (.aload_n 1, 1) := by decide +kernel
theorem dX7_growFrom_12 : decode cX7_growFrom 12 = .ok (.iload 4, 2) := by decide +kernel
theorem dX7_growFrom_14 : decode cX7_growFrom 14 = .ok (.invokevirtual 104, 3) := by decide +kernel
theorem dX7_growFrom_17 : decode cX7_growFrom 17 = .ok (.istore 5, 2) := by decide +kernel
theorem dX7_growFrom_19 : decode cX7_growFrom 19 = .ok (.aload_n 0, 1) := by decide +kernel
theorem dX7_growFrom_20 : decode cX7_growFrom 20 = .ok (.aload_n 1, 1) := by decide +kernel
theorem dX7_growFrom_21 : decode cX7_growFrom 21 = .ok (.getfield 27, 3) := by decide +kernel
theorem dX7_growFrom_24 : decode cX7_growFrom 24 = .ok (.iconst 1, 1) := by decide +kernel
theorem dX7_growFrom_25 : decode cX7_growFrom 25 = .ok (.iadd, 1) := by decide +kernel
theorem dX7_growFrom_26 : decode cX7_growFrom 26 = .ok (.bipush 40, 2) := by decide +kernel
theorem dX7_growFrom_28 : decode cX7_growFrom 28 = .ok (.invokestatic 108, 3) := by decide +kernel
theorem dX7_growFrom_31 : decode cX7_growFrom 31 = .ok (.putfield 27, 3) := by decide +kernel
theorem dX7_growFrom_34 : decode cX7_growFrom 34 = .ok (.iconst 0, 1) := by decide +kernel
theorem dX7_growFrom_35 : decode cX7_growFrom 35 = .ok (.istore 6, 2) := by decide +kernel
theorem dX7_growFrom_37 : decode cX7_growFrom 37 = .ok (.iload 6, 2) := by decide +kernel
theorem dX7_growFrom_39 : decode cX7_growFrom 39 = .ok (.aload_n 0, 1) := by decide +kernel
theorem dX7_growFrom_40 : decode cX7_growFrom 40 = .ok (.getfield 27, 3) := by decide +kernel
theorem dX7_growFrom_43 : decode cX7_growFrom 43 = .ok (.if_icmp .ge 102, 3) := by decide +kernel
theorem dX7_growFrom_46 : decode cX7_growFrom 46 = .ok (.iload 6, 2) := by decide +kernel
theorem dX7_growFrom_48 : decode cX7_growFrom 48 = .ok (.iload 5, 2) := by decide +kernel
theorem dX7_growFrom_50 : decode cX7_growFrom 50 = .ok (.if_icmp .ge 25, 3) := by decide +kernel
theorem dX7_growFrom_53 : decode cX7_growFrom 53 = .ok (.aload_n 0, 1) := by decide +kernel
theorem dX7_growFrom_54 : decode cX7_growFrom 54 = .ok (.getfield 11, 3) := by decide +kernel
theorem dX7_growFrom_57 : decode cX7_growFrom 57 = .ok (.iload 6, 2) := by decide +kernel
theorem dX7_growFrom_59 : decode cX7_growFrom 59 = .ok (.aaload, 1) := by decide +kernel
theorem dX7_growFrom_60 : decode cX7_growFrom 60 = .ok (.aload_n 1, 1) := by decide +kernel
theorem dX7_growFrom_61 : decode cX7_growFrom 61 = .ok (.getfield 11, 3) := by decide +kernel
theorem dX7_growFrom_64 : decode cX7_growFrom 64 = .ok (.iload 6, 2) := by decide +kernel
theorem dX7_growFrom_66 : decode cX7_growFrom 66 = .ok (.aaload, 1) := by decide +kernel
theorem dX7_growFrom_67 : decode cX7_growFrom 67 = .ok (.iload 5, 2) := by decide +kernel
theorem dX7_growFrom_69 : decode cX7_growFrom 69 = .ok (.invokevirtual 114, 3) := by decide +kernel
theorem dX7_growFrom_72 : decode cX7_growFrom 72 = .ok (.goto 67, 3) := by decide +kernel
theorem dX7_growFrom_75 : decode cX7_growFrom 75 = .ok (.iload 6, 2) := by decide +kernel
theorem dX7_growFrom_77 : decode cX7_growFrom 77 = .ok (.iload 5, 2) := by decide +kernel
theorem dX7_growFrom_79 : decode cX7_growFrom 79 = .ok (.if_icmp .le 27, 3) := by decide +kernel
theorem dX7_growFrom_82 : decode cX7_growFrom 82 = .ok (.aload_n 0, 1) := by decide +kernel
theorem dX7_growFrom_83 : decode cX7_growFrom 83 = .ok (.getfield 11, 3) := by decide +kernel
theorem dX7_growFrom_86 : decode cX7_growFrom 86 = .ok (.iload 6, 2) := by decide +kernel
theorem dX7_growFrom_88 : decode cX7_growFrom 88 = .ok (.aaload, 1) := by decide +kernel
theorem dX7_growFrom_89 : decode cX7_growFrom 89 = .ok (.aload_n 1, 1) := by decide +kernel
theorem dX7_growFrom_90 : decode cX7_growFrom 90 = .ok (.getfield 11, 3) := by decide +kernel
theorem dX7_growFrom_93 : decode cX7_growFrom 93 = .ok (.iload 6, 2) := by decide +kernel
theorem dX7_growFrom_95 : decode cX7_growFrom 95 = .ok (.iconst 1, 1) := by decide +kernel
theorem dX7_growFrom_96 : decode cX7_growFrom 96 = .ok (.isub, 1) := by decide +kernel
theorem dX7_growFrom_97 : decode cX7_growFrom 97 = .ok (.aaload, 1) := by decide +kernel
theorem dX7_growFrom_98 : decode cX7_growFrom 98 = .ok (.iload 5, 2) := by decide +kernel
theorem dX7_growFrom_100 : decode cX7_growFrom 100 = .ok (.invokevirtual 114, 3) := by decide +kernel
theorem dX7_growFrom_103 : decode cX7_growFrom 103 = .ok (.goto 36, 3) := by decide +kernel
theorem dX7_growFrom_106 : decode cX7_growFrom 106 = .ok (.aload_n 0, 1) := by decide +kernel
theorem dX7_growFrom_107 : decode cX7_growFrom 107 = .ok (.iload 6, 2) := by decide +kernel
theorem dX7_growFrom_109 : decode cX7_growFrom 109 = .ok (.iload 4, 2) := by decide +kernel
theorem dX7_growFrom_111 : decode cX7_growFrom 111 = .ok (.invokevirtual 118, 3) := by decide +kernel
theorem dX7_growFrom_114 : decode cX7_growFrom 114 = .ok (.aload_n 0, 1) := by decide +kernel
theorem dX7_growFrom_115 : decode cX7_growFrom 115 = .ok (.getfield 11, 3) := by decide +kernel
theorem dX7_growFrom_118 : decode cX7_growFrom 118 = .ok (.iload 6, 2) := by decide +kernel
theorem dX7_growFrom_120 : decode cX7_growFrom 120 = .ok (.aaload, 1) := by decide +kernel
theorem dX7_growFrom_121 : decode cX7_growFrom 121 = .ok (.getfield 39, 3) := by decide +kernel
theorem dX7_growFrom_124 : decode cX7_growFrom 124 = .ok (.aload_n 2, 1) := by decide +kernel
theorem dX7_growFrom_125 : decode cX7_growFrom 125 = .ok (.invokevirtual 122, 3) := by decide +kernel
theorem dX7_growFrom_128 : decode cX7_growFrom 128 = .ok (.aload_n 0, 1) := by decide +kernel
theorem dX7_growFrom_129 : decode cX7_growFrom 129 = .ok (.getfield 11, 3) := by decide +kernel
theorem dX7_growFrom_132 : decode cX7_growFrom 132 = .ok (.iload 6, 2) := by decide +kernel
theorem dX7_growFrom_134 : decode cX7_growFrom 134 = .ok (.aaload, 1) := by decide +kernel
theorem dX7_growFrom_135 : decode cX7_growFrom 135 = .ok (.iload_n 3, 1) := by decide +kernel
theorem dX7_growFrom_136 : decode cX7_growFrom 136 = .ok (.putfield 56, 3) := by decide +kernel
theorem dX7_growFrom_139 : decode cX7_growFrom 139 = .ok (.iinc 6 1, 3) := by decide +kernel
theorem dX7_growFrom_142 : decode cX7_growFrom 142 = .ok (.goto (-105), 3) := by decide +kernel
theorem dX7_growFrom_145 : decode cX7_growFrom 145 = .ok (.aload_n 0, 1) := by decide +kernel
theorem dX7_growFrom_146 : decode cX7_growFrom 146 = .ok (.aload_n 1, 1) := by decide +kernel
theorem dX7_growFrom_147 : decode cX7_growFrom 147 = .ok (.getfield 31, 3) := by decide +kernel
theorem dX7_growFrom_150 : decode cX7_growFrom 150 = .ok (.putfield 31, 3) := by decide +kernel
theorem dX7_growFrom_153 : decode cX7_growFrom 153 = .ok (.iconst 0, 1) := by decide +kernel
theorem dX7_growFrom_154 : decode cX7_growFrom 154 = .ok (.istore 6, 2) := by decide +kernel
theorem dX7_growFrom_156 : decode cX7_growFrom 156 = .ok (.iload 6, 2) := by decide +kernel
theorem dX7_growFrom_158 : decode cX7_growFrom 158 = .ok (.aload_n 0, 1) := by decide +kernel
theorem dX7_growFrom_159 : decode cX7_growFrom 159 = .ok (.getfield 31, 3) := by decide +kernel
theorem dX7_growFrom_162 : decode cX7_growFrom 162 = .ok (.if_icmp .ge 26, 3) := by decide +kernel
theorem dX7_growFrom_165 : decode cX7_growFrom 165 = .ok (.aload_n 0, 1) := by decide +kernel
theorem dX7_growFrom_166 : decode cX7_growFrom 166 = .ok (.getfield 19, 3) := by decide +kernel
theorem dX7_growFrom_169 : decode cX7_growFrom 169 = .ok (.iload 6, 2) := by decide +kernel
theorem dX7_growFrom_171 : decode cX7_growFrom 171 = .ok (.aaload, 1) := by decide +kernel
theorem dX7_growFrom_172 : decode cX7_growFrom 172 = .ok (.aload_n 1, 1) := by decide +kernel
theorem dX7_growFrom_173 : decode cX7_growFrom 173 = .ok (.getfield 19, 3) := by decide +kernel
theorem dX7_growFrom_176 : decode cX7_growFrom 176 = .ok (.iload 6, 2) := by decide +kernel
theorem dX7_growFrom_178 : decode cX7_growFrom 178 = .ok (.aaload, 1) := by decide +kernel
theorem dX7_growFrom_179 : decode cX7_growFrom 179 = .ok (.invokevirtual 125, 3) := by decide +kernel
theorem dX7_growFrom_182 : decode cX7_growFrom 182 = .ok (.iinc 6 1, 3) := by decide +kernel
theorem dX7_growFrom_185 : decode cX7_growFrom 185 = .ok (.goto (-29), 3) := by decide +kernel
theorem dX7_growFrom_188 : decode cX7_growFrom 188 = .ok (.aload_n 0, 1) := by decide +kernel
theorem dX7_growFrom_189 : decode cX7_growFrom 189 = .ok (.aload_n 1, 1) := by decide +kernel
theorem dX7_growFrom_190 : decode cX7_growFrom 190 = .ok (.getfield 34, 3) := by decide +kernel
theorem dX7_growFrom_193 : decode cX7_growFrom 193 = .ok (.putfield 34, 3) := by decide +kernel
theorem dX7_growFrom_196 : decode cX7_growFrom 196 = .ok (.return_, 1) := by decide +kernel
theorem dX7_beginField_0 : decode cX7_beginField 0 = .ok (.aload_n 0, 1) := by decide +kernel
theorem dX7_beginField_1 : decode cX7_beginField 1 = .ok (.getfield 11, 3) := by decide +kernel
theorem dX7_beginField_4 : decode cX7_beginField 4 = .ok (.iload_n 1, 1) := by decide +kernel
theorem dX7_beginField_5 : decode cX7_beginField 5 = .ok (.aaload, 1) := by decide +kernel
theorem dX7_beginField_6 : decode cX7_beginField 6 = .ok (.invokevirtual 128, 3) := by decide +kernel
theorem dX7_beginField_9 : decode cX7_beginField 9 = .ok (.iload_n 2, 1) := by decide +kernel
theorem dX7_beginField_10 : decode cX7_beginField 10 = .ok (.ifCond .lt 86, 3) := by decide +kernel
theorem dX7_beginField_13 : decode cX7_beginField 13 = .ok (.iload_n 2, 1) := by decide +kernel
theorem dX7_beginField_14 : decode cX7_beginField 14 = .ok (.iload_n 1, 1) := by decide +kernel
theorem dX7_beginField_15 : decode cX7_beginField 15 = .ok (.if_icmp .ge 81, 3) := by decide +kernel
theorem dX7_beginField_18 : decode cX7_beginField 18 = .ok (.aload_n 0, 1) := by decide +kernel
theorem dX7_beginField_19 : decode cX7_beginField 19 = .ok (.getfield 11, 3) := by decide +kernel
theorem dX7_beginField_22 : decode cX7_beginField 22 = .ok (.iload_n 1, 1) := by decide +kernel
theorem dX7_beginField_23 : decode cX7_beginField 23 = .ok (.aaload, 1) := by decide +kernel
theorem dX7_beginField_24 : decode cX7_beginField 24 = .ok (.iload_n 2, 1) := by decide +kernel
theorem dX7_beginField_25 : decode cX7_beginField 25 = .ok (.putfield 53, 3) := by decide +kernel
theorem dX7_beginField_28 : decode cX7_beginField 28 = .ok (.aload_n 0, 1) := by decide +kernel
theorem dX7_beginField_29 : decode cX7_beginField 29 = .ok (.getfield 11, 3) := by decide +kernel
theorem dX7_beginField_32 : decode cX7_beginField 32 = .ok (.iload_n 1, 1) := by decide +kernel
theorem dX7_beginField_33 : decode cX7_beginField 33 = .ok (.aaload, 1) := by decide +kernel
theorem dX7_beginField_34 : decode cX7_beginField 34 = .ok (.aload_n 0, 1) := by decide +kernel
theorem dX7_beginField_35 : decode cX7_beginField 35 = .ok (.getfield 11, 3) := by decide +kernel
theorem dX7_beginField_38 : decode cX7_beginField 38 = .ok (.iload_n 2, 1) := by decide +kernel
theorem dX7_beginField_39 : decode cX7_beginField 39 = .ok (.aaload, 1) := by decide +kernel
theorem dX7_beginField_40 : decode cX7_beginField 40 = .ok (.getfield 101, 3) := by decide +kernel
theorem dX7_beginField_43 : decode cX7_beginField 43 = .ok (.iconst 1, 1) := by decide +kernel
theorem dX7_beginField_44 : decode cX7_beginField 44 = .ok (.iadd, 1) := by decide +kernel
theorem dX7_beginField_45 : decode cX7_beginField 45 = .ok (.putfield 101, 3) := by decide +kernel
theorem dX7_beginField_48 : decode cX7_beginField 48 = .ok (.aload_n 0, 1) := by decide +kernel
theorem dX7_beginField_49 : decode cX7_beginField 49 = .ok (.getfield 11, 3) := by decide +kernel
theorem dX7_beginField_52 : decode cX7_beginField 52 = .ok (.iload_n 1, 1) := by decide +kernel
theorem dX7_beginField_53 : decode cX7_beginField 53 = .ok (.aaload, 1) := by decide +kernel
theorem dX7_beginField_54 : decode cX7_beginField 54 = .ok (.getfield 39, 3) := by decide +kernel
theorem dX7_beginField_57 : decode cX7_beginField 57 = .ok (.aload_n 0, 1) := by decide +kernel
theorem dX7_beginField_58 : decode cX7_beginField 58 = .ok (.getfield 11, 3) := by decide +kernel
theorem dX7_beginField_61 : decode cX7_beginField 61 = .ok (.iload_n 2, 1) := by decide +kernel
theorem dX7_beginField_62 : decode cX7_beginField 62 = .ok (.aaload, 1) := by decide +kernel
theorem dX7_beginField_63 : decode cX7_beginField 63 = .ok (.getfield 39, 3) := by decide +kernel
theorem dX7_beginField_66 : decode cX7_beginField 66 = .ok (.iconst 0, 1) := by decide +kernel
theorem dX7_beginField_67 : decode cX7_beginField 67 = .ok (.aload_n 0, 1) := by decide +kernel
theorem dX7_beginField_68 : decode cX7_beginField 68 = .ok (.getfield 11, 3) := by decide +kernel
theorem dX7_beginField_71 : decode cX7_beginField 71 = .ok (.iload_n 2, 1) := by decide +kernel
theorem dX7_beginField_72 : decode cX7_beginField 72 = .ok (.aaload, 1) := by decide +kernel
theorem dX7_beginField_73 : decode cX7_beginField 73 = .ok (.getfield 39, 3) := by decide +kernel
theorem dX7_beginField_76 : decode cX7_beginField 76 = .ok (.invokevirtual 72, 3) := by decide +kernel
theorem dX7_beginField_79 : decode cX7_beginField 79 = .ok (.invokevirtual 131, 3) := by decide +kernel
theorem dX7_beginField_82 : decode cX7_beginField 82 = .ok (.aload_n 0, 1) := by decide +kernel
theorem dX7_beginField_83 : decode cX7_beginField 83 = .ok (.getfield 11, 3) := by decide +kernel
theorem dX7_beginField_86 : decode cX7_beginField 86 = .ok (.iload_n 1, 1) := by decide +kernel
theorem dX7_beginField_87 : decode cX7_beginField 87 = .ok (.aaload, 1) := by decide +kernel
theorem dX7_beginField_88 : decode cX7_beginField 88 = .ok (.getfield 39, 3) := by decide +kernel
theorem dX7_beginField_91 : decode cX7_beginField 91 = .ok (.bipush 46, 2) := by decide +kernel
theorem dX7_beginField_93 : decode cX7_beginField 93 = .ok (.invokevirtual 135, 3) := by decide +kernel
theorem dX7_beginField_96 : decode cX7_beginField 96 = .ok (.return_, 1) := by decide +kernel
theorem dX7_sortByPath_0 : decode cX7_sortByPath 0 = .ok (.iconst 0, 1) := by decide +kernel
theorem dX7_sortByPath_1 : decode cX7_sortByPath 1 = .ok (.istore_n 1, 1) := by decide +kernel
theorem dX7_sortByPath_2 : decode cX7_sortByPath 2 = .ok (.iload_n 1, 1) := by decide +kernel
theorem dX7_sortByPath_3 : decode cX7_sortByPath 3 = .ok (.aload_n 0, 1) := by decide +kernel
theorem dX7_sortByPath_4 : decode cX7_sortByPath 4 = .ok (.getfield 27, 3) := by decide +kernel
theorem dX7_sortByPath_7 : decode cX7_sortByPath 7 = .ok (.if_icmp .ge 64, 3) := by decide +kernel
theorem dX7_sortByPath_10 : decode cX7_sortByPath 10 = .ok (.iload_n 1, 1) := by decide +kernel
theorem dX7_sortByPath_11 : decode cX7_sortByPath 11 = .ok (.istore_n 2, 1) := by decide +kernel
theorem dX7_sortByPath_12 : decode cX7_sortByPath 12 = .ok (.iload_n 1, 1) := by decide +kernel
theorem dX7_sortByPath_13 : decode cX7_sortByPath 13 = .ok (.istore_n 3, 1) := by decide +kernel
theorem dX7_sortByPath_14 : decode cX7_sortByPath 14 = .ok (.iload_n 3, 1) := by decide +kernel
theorem dX7_sortByPath_15 : decode cX7_sortByPath 15 = .ok (.ifCond .le 43, 3) := by decide +kernel
theorem dX7_sortByPath_18 : decode cX7_sortByPath 18 = .ok (.aload_n 0, 1) := by decide +kernel
theorem dX7_sortByPath_19 : decode cX7_sortByPath 19 = .ok (.iload_n 1, 1) := by decide +kernel
theorem dX7_sortByPath_20 : decode cX7_sortByPath 20 = .ok (.aload_n 0, 1) := by decide +kernel
theorem dX7_sortByPath_21 : decode cX7_sortByPath 21 = .ok (.getfield 23, 3) := by decide +kernel
theorem dX7_sortByPath_24 : decode cX7_sortByPath 24 = .ok (.iload_n 3, 1) := by decide +kernel
theorem dX7_sortByPath_25 : decode cX7_sortByPath 25 = .ok (.iconst 1, 1) := by decide +kernel

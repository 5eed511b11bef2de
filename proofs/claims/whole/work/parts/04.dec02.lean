theorem dX7_sortByPath_26 : decode cX7_sortByPath 26 = .ok (.isub, 1) := by decide +kernel
theorem dX7_sortByPath_27 : decode cX7_sortByPath 27 = .ok (.iaload, 1) := by decide +kernel
theorem dX7_sortByPath_28 : decode cX7_sortByPath 28 = .ok (.invokevirtual 139, 3) := by decide +kernel
theorem dX7_sortByPath_31 : decode cX7_sortByPath 31 = .ok (.ifCond .eq 27, 3) := by decide +kernel
theorem dX7_sortByPath_34 : decode cX7_sortByPath 34 = .ok (.aload_n 0, 1) := by decide +kernel
theorem dX7_sortByPath_35 : decode cX7_sortByPath 35 = .ok (.getfield 23, 3) := by decide +kernel
theorem dX7_sortByPath_38 : decode cX7_sortByPath 38 = .ok (.iload_n 3, 1) := by decide +kernel
theorem dX7_sortByPath_39 : decode cX7_sortByPath 39 = .ok (.aload_n 0, 1) := by decide +kernel
theorem dX7_sortByPath_40 : decode cX7_sortByPath 40 = .ok (.getfield 23, 3) := by decide +kernel
theorem dX7_sortByPath_43 : decode cX7_sortByPath 43 = .ok (.iload_n 3, 1) := by decide +kernel
theorem dX7_sortByPath_44 : decode cX7_sortByPath 44 = .ok (.iconst 1, 1) := by decide +kernel
theorem dX7_sortByPath_45 : decode cX7_sortByPath 45 = .ok (.isub, 1) := by decide +kernel
theorem dX7_sortByPath_46 : decode cX7_sortByPath 46 = .ok (.iaload, 1) := by decide +kernel
theorem dX7_sortByPath_47 : decode cX7_sortByPath 47 = .ok (.iastore, 1) := by decide +kernel
theorem dX7_sortByPath_48 : decode cX7_sortByPath 48 = .ok (.iload_n 3, 1) := by decide +kernel
theorem dX7_sortByPath_49 : decode cX7_sortByPath 49 = .ok (.iconst 1, 1) := by decide +kernel
theorem dX7_sortByPath_50 : decode cX7_sortByPath 50 = .ok (.isub, 1) := by decide +kernel
theorem dX7_sortByPath_51 : decode cX7_sortByPath 51 = .ok (.istore_n 2, 1) := by decide +kernel
theorem dX7_sortByPath_52 : decode cX7_sortByPath 52 = .ok (.iinc 3 (-1), 3) := by decide +kernel
theorem dX7_sortByPath_55 : decode cX7_sortByPath 55 = .ok (.goto (-41), 3) := by decide +kernel
theorem dX7_sortByPath_58 : decode cX7_sortByPath 58 = .ok (.aload_n 0, 1) := by decide +kernel
theorem dX7_sortByPath_59 : decode cX7_sortByPath 59 = .ok (.getfield 23, 3) := by decide +kernel
theorem dX7_sortByPath_62 : decode cX7_sortByPath 62 = .ok (.iload_n 2, 1) := by decide +kernel
theorem dX7_sortByPath_63 : decode cX7_sortByPath 63 = .ok (.iload_n 1, 1) := by decide +kernel
theorem dX7_sortByPath_64 : decode cX7_sortByPath 64 = .ok (.iastore, 1) := by decide +kernel
theorem dX7_sortByPath_65 : decode cX7_sortByPath 65 = .ok (.iinc 1 1, 3) := by decide +kernel
theorem dX7_sortByPath_68 : decode cX7_sortByPath 68 = .ok (.goto (-66), 3) := by decide +kernel
theorem dX7_sortByPath_71 : decode cX7_sortByPath 71 = .ok (.return_, 1) := by decide +kernel
theorem dX7_comesBefore_0 : decode cX7_comesBefore 0 = .ok (.aload_n 0, 1) := by decide +kernel
theorem dX7_comesBefore_1 : decode cX7_comesBefore 1 = .ok (.getfield 11, 3) := by decide +kernel
theorem dX7_comesBefore_4 : decode cX7_comesBefore 4 = .ok (.iload_n 1, 1) := by decide +kernel
theorem dX7_comesBefore_5 : decode cX7_comesBefore 5 = .ok (.aaload, 1) := by decide +kernel
theorem dX7_comesBefore_6 : decode cX7_comesBefore 6 = .ok (.getfield 39, 3) := by decide +kernel
theorem dX7_comesBefore_9 : decode cX7_comesBefore 9 = .ok (.aload_n 0, 1) := by decide +kernel
theorem dX7_comesBefore_10 : decode cX7_comesBefore 10 = .ok (.getfield 11, 3) := by decide +kernel
theorem dX7_comesBefore_13 : decode cX7_comesBefore 13 = .ok (.iload_n 2, 1) := by decide +kernel
theorem dX7_comesBefore_14 : decode cX7_comesBefore 14 = .ok (.aaload, 1) := by decide +kernel
theorem dX7_comesBefore_15 : decode cX7_comesBefore 15 = .ok (.getfield 39, 3) := by decide +kernel
theorem dX7_comesBefore_18 : decode cX7_comesBefore 18 = .ok (.invokevirtual 143, 3) := by decide +kernel
theorem dX7_comesBefore_21 : decode cX7_comesBefore 21 = .ok (.ifCond .ge 7, 3) := by decide +kernel
theorem dX7_comesBefore_24 : decode cX7_comesBefore 24 = .ok (.iconst 1, 1) := by decide +kernel
theorem dX7_comesBefore_25 : decode cX7_comesBefore 25 = .ok (.goto 4, 3) := by decide +kernel
theorem dX7_comesBefore_28 : decode cX7_comesBefore 28 = .ok (.iconst 0, 1) := by decide +kernel
theorem dX7_comesBefore_29 : decode cX7_comesBefore 29 = .ok (.ireturn, 1) := by decide +kernel
theorem dX7_printTo_0 : decode cX7_printTo 0 = .ok (.iconst 0, 1) := by decide +kernel
theorem dX7_printTo_1 : decode cX7_printTo 1 = .ok (.istore_n 2, 1) := by decide +kernel
theorem dX7_printTo_2 : decode cX7_printTo 2 = .ok (.iconst 0, 1) := by decide +kernel
theorem dX7_printTo_3 : decode cX7_printTo 3 = .ok (.istore_n 3, 1) := by decide +kernel
theorem dX7_printTo_4 : decode cX7_printTo 4 = .ok (.iload_n 3, 1) := by decide +kernel
theorem dX7_printTo_5 : decode cX7_printTo 5 = .ok (.aload_n 0, 1) := by decide +kernel
theorem dX7_printTo_6 : decode cX7_printTo 6 = .ok (.getfield 27, 3) := by decide +kernel
theorem dX7_printTo_9 : decode cX7_printTo 9 = .ok (.if_icmp .ge 48, 3) := by decide +kernel
theorem dX7_printTo_12 : decode cX7_printTo 12 = .ok (.iload_n 3, 1) := by decide +kernel
theorem dX7_printTo_13 : decode cX7_printTo 13 = .ok (.ifCond .le 17, 3) := by decide +kernel
theorem dX7_printTo_16 : decode cX7_printTo 16 = .ok (.aload_n 1, 1) := by decide +kernel
theorem dX7_printTo_17 : decode cX7_printTo 17 = .ok (.iload_n 2, 1) := by decide +kernel
theorem dX7_printTo_18 : decode cX7_printTo 18 = .ok (.aload_n 0, 1) := by decide +kernel
theorem dX7_printTo_19 : decode cX7_printTo 19 = .ok (.getfield 11, 3) := by decide +kernel
theorem dX7_printTo_22 : decode cX7_printTo 22 = .ok (.iload_n 3, 1) := by decide +kernel
theorem dX7_printTo_23 : decode cX7_printTo 23 = .ok (.aaload, 1) := by decide +kernel
theorem dX7_printTo_24 : decode cX7_printTo 24 = .ok (.getfield 101, 3) := by decide +kernel
theorem dX7_printTo_27 : decode cX7_printTo 27 = .ok (.invokestatic 147, 3) := by decide +kernel
theorem dX7_printTo_30 : decode cX7_printTo 30 = .ok (.aload_n 0, 1) := by decide +kernel
theorem dX7_printTo_31 : decode cX7_printTo 31 = .ok (.getfield 11, 3) := by decide +kernel
theorem dX7_printTo_34 : decode cX7_printTo 34 = .ok (.iload_n 3, 1) := by decide +kernel
theorem dX7_printTo_35 : decode cX7_printTo 35 = .ok (.aaload, 1) := by decide +kernel
theorem dX7_printTo_36 : decode cX7_printTo 36 = .ok (.getfield 101, 3) := by decide +kernel
theorem dX7_printTo_39 : decode cX7_printTo 39 = .ok (.istore_n 2, 1) := by decide +kernel
theorem dX7_printTo_40 : decode cX7_printTo 40 = .ok (.aload_n 0, 1) := by decide +kernel
theorem dX7_printTo_41 : decode cX7_printTo 41 = .ok (.aload_n 1, 1) := by decide +kernel
theorem dX7_printTo_42 : decode cX7_printTo 42 = .ok (.aload_n 0, 1) := by decide +kernel
theorem dX7_printTo_43 : decode cX7_printTo 43 = .ok (.getfield 11, 3) := by decide +kernel
theorem dX7_printTo_46 : decode cX7_printTo 46 = .ok (.iload_n 3, 1) := by decide +kernel
theorem dX7_printTo_47 : decode cX7_printTo 47 = .ok (.aaload, 1) := by decide +kernel
theorem dX7_printTo_48 : decode cX7_printTo 48 = .ok (.invokevirtual 150, 3) := by decide +kernel
theorem dX7_printTo_51 : decode cX7_printTo 51 = .ok (.iinc 3 1, 3) := by decide +kernel
theorem dX7_printTo_54 : decode cX7_printTo 54 = .ok (.goto (-50), 3) := by decide +kernel
theorem dX7_printTo_57 : decode cX7_printTo 57 = .ok (.aload_n 0, 1) := by decide +kernel
theorem dX7_printTo_58 : decode cX7_printTo 58 = .ok (.getfield 27, 3) := by decide +kernel
theorem dX7_printTo_61 : decode cX7_printTo 61 = .ok (.ifCond .le 9, 3) := by decide +kernel
theorem dX7_printTo_64 : decode cX7_printTo 64 = .ok (.aload_n 1, 1) := by decide +kernel
theorem dX7_printTo_65 : decode cX7_printTo 65 = .ok (.iload_n 2, 1) := by decide +kernel
theorem dX7_printTo_66 : decode cX7_printTo 66 = .ok (.iconst 0, 1) := by decide +kernel
theorem dX7_printTo_67 : decode cX7_printTo 67 = .ok (.invokestatic 147, 3) := by decide +kernel
theorem dX7_printTo_70 : decode cX7_printTo 70 = .ok (.iconst 0, 1) := by decide +kernel
theorem dX7_printTo_71 : decode cX7_printTo 71 = .ok (.istore_n 3, 1) := by decide +kernel
theorem dX7_printTo_72 : decode cX7_printTo 72 = .ok (.iload_n 3, 1) := by decide +kernel
theorem dX7_printTo_73 : decode cX7_printTo 73 = .ok (.aload_n 0, 1) := by decide +kernel
theorem dX7_printTo_74 : decode cX7_printTo 74 = .ok (.getfield 31, 3) := by decide +kernel
theorem dX7_printTo_77 : decode cX7_printTo 77 = .ok (.if_icmp .ge 19, 3) := by decide +kernel
theorem dX7_printTo_80 : decode cX7_printTo 80 = .ok (.aload_n 0, 1) := by decide +kernel
theorem dX7_printTo_81 : decode cX7_printTo 81 = .ok (.getfield 19, 3) := by decide +kernel
theorem dX7_printTo_84 : decode cX7_printTo 84 = .ok (.iload_n 3, 1) := by decide +kernel
theorem dX7_printTo_85 : decode cX7_printTo 85 = .ok (.aaload, 1) := by decide +kernel
theorem dX7_printTo_86 : decode cX7_printTo 86 = .ok (.aload_n 1, 1) := by decide +kernel
theorem dX7_printTo_87 : decode cX7_printTo 87 = .ok (.invokevirtual 154, 3) := by decide +kernel
theorem dX7_printTo_90 : decode cX7_printTo 90 = .ok (.iinc 3 1, 3) := by decide +kernel
theorem dX7_printTo_93 : decode cX7_printTo 93 = .ok (.goto (-21), 3) := by decide +kernel
theorem dX7_printTo_96 : decode cX7_printTo 96 = .ok (.aload_n 0, 1) := by decide +kernel
theorem dX7_printTo_97 : decode cX7_printTo 97 = .ok (.getfield 34, 3) := by decide +kernel
theorem dX7_printTo_100 : decode cX7_printTo 100 = .ok (.bipush 40, 2) := by decide +kernel
theorem dX7_printTo_102 : decode cX7_printTo 102 = .ok (.if_icmp .eq 23, 3) := by decide +kernel
theorem dX7_printTo_105 : decode cX7_printTo 105 = .ok (.aload_n 1, 1) := by decide +kernel
theorem dX7_printTo_106 : decode cX7_printTo 106 = .ok (.ldc 157, 2) := by decide +kernel
theorem dX7_printTo_108 : decode cX7_printTo 108 = .ok (.invokevirtual 159, 3) := by decide +kernel
theorem dX7_printTo_111 : decode cX7_printTo 111 = .ok (.aload_n 1, 1) := by decide +kernel
theorem dX7_printTo_112 : decode cX7_printTo 112 = .ok (.aload_n 0, 1) := by decide +kernel
theorem dX7_printTo_113 : decode cX7_printTo 113 = .ok (.getfield 34, 3) := by decide +kernel
theorem dX7_printTo_116 : decode cX7_printTo 116 = .ok (.invokevirtual 163, 3) := by decide +kernel
theorem dX7_printTo_119 : decode cX7_printTo 119 = .ok (.aload_n 1, 1) := by decide +kernel
theorem dX7_printTo_120 : decode cX7_printTo 120 = .ok (.bipush 59, 2) := by decide +kernel
theorem dX7_printTo_122 : decode cX7_printTo 122 = .ok (.invokevirtual 135, 3) := by decide +kernel
theorem dX7_printTo_125 : decode cX7_printTo 125 = .ok (.return_, 1) := by decide +kernel
theorem dX7_printBetween_0 : decode cX7_printBetween 0 = .ok (.iload_n 2, 1) := by decide +kernel
theorem dX7_printBetween_1 : decode cX7_printBetween 1 = .ok (.iload_n 1, 1) := by decide +kernel
theorem dX7_printBetween_2 : decode cX7_printBetween 2 = .ok (.if_icmp .le 10, 3) := by decide +kernel
theorem dX7_printBetween_5 : decode cX7_printBetween 5 = .ok (.aload_n 0, 1) := by decide +kernel
theorem dX7_printBetween_6 : decode cX7_printBetween 6 = .ok (.bipush 123, 2) := by decide +kernel
theorem dX7_printBetween_8 : decode cX7_printBetween 8 = .ok (.invokevirtual 135, 3) := by decide +kernel
theorem dX7_printBetween_11 : decode cX7_printBetween 11 = .ok (.return_, 1) := by decide +kernel
theorem dX7_printBetween_12 : decode cX7_printBetween 12 = .ok (.aload_n 0, 1) := by decide +kernel
theorem dX7_printBetween_13 : decode cX7_printBetween 13 = .ok (.bipush 59, 2) := by decide +kernel
theorem dX7_printBetween_15 : decode cX7_printBetween 15 = .ok (.invokevirtual 135, 3) := by decide +kernel
theorem dX7_printBetween_18 : decode cX7_printBetween 18 = .ok (.iload_n 2, 1) := by decide +kernel
theorem dX7_printBetween_19 : decode cX7_printBetween 19 = .ok (.istore_n 3, 1) := by decide +kernel
theorem dX7_printBetween_20 : decode cX7_printBetween 20 = .ok (.iload_n 3, 1) := by decide +kernel
theorem dX7_printBetween_21 : decode cX7_printBetween 21 = .ok (.iload_n 1, 1) := by decide +kernel
theorem dX7_printBetween_22 : decode cX7_printBetween 22 = .ok (.if_icmp .ge 15, 3) := by decide +kernel
theorem dX7_printBetween_25 : decode cX7_printBetween 25 = .ok (.aload_n 0, 1) := by decide +kernel
theorem dX7_printBetween_26 : decode cX7_printBetween 26 = .ok (.ldc 166, 2) := by decide +kernel
theorem dX7_printBetween_28 : decode cX7_printBetween 28 = .ok (.invokevirtual 159, 3) := by decide +kernel
theorem dX7_printBetween_31 : decode cX7_printBetween 31 = .ok (.iinc 3 1, 3) := by decide +kernel
theorem dX7_printBetween_34 : decode cX7_printBetween 34 = .ok (.goto (-14), 3) := by decide +kernel
theorem dX7_printBetween_37 : decode cX7_printBetween 37 = .ok (.return_, 1) := by decide +kernel
theorem dX7_printHead_0 : decode cX7_printHead 0 = .ok (.aload_n 2, 1) := by decide +kernel
theorem dX7_printHead_1 : decode cX7_printHead 1 = .ok (.getfield 39, 3) := by decide +kernel
theorem dX7_printHead_4 : decode cX7_printHead 4 = .ok (.invokevirtual 68, 3) := by decide +kernel
theorem dX7_printHead_7 : decode cX7_printHead 7 = .ok (.istore_n 3, 1) := by decide +kernel
theorem dX7_printHead_8 : decode cX7_printHead 8 = .ok (.aload_n 1, 1) := by decide +kernel
theorem dX7_printHead_9 : decode cX7_printHead 9 = .ok (.aload_n 2, 1) := by decide +kernel
theorem dX7_printHead_10 : decode cX7_printHead 10 = .ok (.getfield 39, 3) := by decide +kernel
theorem dX7_printHead_13 : decode cX7_printHead 13 = .ok (.iload_n 3, 1) := by decide +kernel
theorem dX7_printHead_14 : decode cX7_printHead 14 = .ok (.aload_n 2, 1) := by decide +kernel
theorem dX7_printHead_15 : decode cX7_printHead 15 = .ok (.getfield 39, 3) := by decide +kernel
theorem dX7_printHead_18 : decode cX7_printHead 18 = .ok (.invokevirtual 72, 3) := by decide +kernel
theorem dX7_printHead_21 : decode cX7_printHead 21 = .ok (.iload_n 3, 1) := by decide +kernel
theorem dX7_printHead_22 : decode cX7_printHead 22 = .ok (.isub, 1) := by decide +kernel
theorem dX7_printHead_23 : decode cX7_printHead 23 = .ok (.invokevirtual 131, 3) := by decide +kernel
theorem dX7_printHead_26 : decode cX7_printHead 26 = .ok (.aload_n 1, 1) := by decide +kernel
theorem dX7_printHead_27 : decode cX7_printHead 27 = .ok (.bipush 58, 2) := by decide +kernel
theorem dX7_printHead_29 : decode cX7_printHead 29 = .ok (.invokevirtual 135, 3) := by decide +kernel
theorem dX7_printHead_32 : decode cX7_printHead 32 = .ok (.aload_n 1, 1) := by decide +kernel
theorem dX7_printHead_33 : decode cX7_printHead 33 = .ok (.aload_n 2, 1) := by decide +kernel
theorem dX7_printHead_34 : decode cX7_printHead 34 = .ok (.getfield 56, 3) := by decide +kernel
theorem dX7_printHead_37 : decode cX7_printHead 37 = .ok (.invokestatic 168, 3) := by decide +kernel
theorem dX7_printHead_40 : decode cX7_printHead 40 = .ok (.invokevirtual 159, 3) := by decide +kernel
theorem dX7_printHead_43 : decode cX7_printHead 43 = .ok (.bipush 40, 2) := by decide +kernel
theorem dX7_printHead_45 : decode cX7_printHead 45 = .ok (.istore 4, 2) := by decide +kernel
theorem dX7_printHead_47 : decode cX7_printHead 47 = .ok (.iconst 0, 1) := by decide +kernel
theorem dX7_printHead_48 : decode cX7_printHead 48 = .ok (.istore 5, 2) := by decide +kernel
theorem dX7_printHead_50 : decode cX7_printHead 50 = .ok (.iload 5, 2) := by decide +kernel
theorem dX7_printHead_52 : decode cX7_printHead 52 = .ok (.bipush 7, 2) := by decide +kernel
theorem dX7_printHead_54 : decode cX7_printHead 54 = .ok (.if_icmp .ge 36, 3) := by decide +kernel
theorem dX7_printHead_57 : decode cX7_printHead 57 = .ok (.aload_n 2, 1) := by decide +kernel
theorem dX7_printHead_58 : decode cX7_printHead 58 = .ok (.iload 5, 2) := by decide +kernel
theorem dX7_printHead_60 : decode cX7_printHead 60 = .ok (.invokevirtual 172, 3) := by decide +kernel
theorem dX7_printHead_63 : decode cX7_printHead 63 = .ok (.ifCond .eq 21, 3) := by decide +kernel
theorem dX7_printHead_66 : decode cX7_printHead 66 = .ok (.aload_n 1, 1) := by decide +kernel
theorem dX7_printHead_67 : decode cX7_printHead 67 = .ok (.iload 4, 2) := by decide +kernel
theorem dX7_printHead_69 : decode cX7_printHead 69 = .ok (.invokevirtual 135, 3) := by decide +kernel
theorem dX7_printHead_72 : decode cX7_printHead 72 = .ok (.aload_n 0, 1) := by decide +kernel
theorem dX7_printHead_73 : decode cX7_printHead 73 = .ok (.aload_n 1, 1) := by decide +kernel
theorem dX7_printHead_74 : decode cX7_printHead 74 = .ok (.aload_n 2, 1) := by decide +kernel
theorem dX7_printHead_75 : decode cX7_printHead 75 = .ok (.iload 5, 2) := by decide +kernel
theorem dX7_printHead_77 : decode cX7_printHead 77 = .ok (.invokevirtual 175, 3) := by decide +kernel
theorem dX7_printHead_80 : decode cX7_printHead 80 = .ok (.bipush 44, 2) := by decide +kernel
theorem dX7_printHead_82 : decode cX7_printHead 82 = .ok (.istore 4, 2) := by decide +kernel
theorem dX7_printHead_84 : decode cX7_printHead 84 = .ok (.iinc 5 1, 3) := by decide +kernel
theorem dX7_printHead_87 : decode cX7_printHead 87 = .ok (.goto (-37), 3) := by decide +kernel
theorem dX7_printHead_90 : decode cX7_printHead 90 = .ok (.iload 4, 2) := by decide +kernel
theorem dX7_printHead_92 : decode cX7_printHead 92 = .ok (.bipush 44, 2) := by decide +kernel
theorem dX7_printHead_94 : decode cX7_printHead 94 = .ok (.if_icmp .ne 9, 3) := by decide +kernel
theorem dX7_printHead_97 : decode cX7_printHead 97 = .ok (.aload_n 1, 1) := by decide +kernel
theorem dX7_printHead_98 : decode cX7_printHead 98 = .ok (.bipush 41, 2) := by decide +kernel
theorem dX7_printHead_100 : decode cX7_printHead 100 = .ok (.invokevirtual 135, 3) := by decide +kernel
theorem dX7_printHead_103 : decode cX7_printHead 103 = .ok (.return_, 1) := by decide +kernel
theorem dX7_printOption_0 : decode cX7_printOption 0 = .ok (.aload_n 1, 1) := by decide +kernel
theorem dX7_printOption_1 : decode cX7_printOption 1 = .ok (.iload_n 3, 1) := by decide +kernel
theorem dX7_printOption_2 : decode cX7_printOption 2 = .ok (.invokestatic 179, 3) := by decide +kernel
theorem dX7_printOption_5 : decode cX7_printOption 5 = .ok (.invokevirtual 159, 3) := by decide +kernel
theorem dX7_printOption_8 : decode cX7_printOption 8 = .ok (.iload_n 3, 1) := by decide +kernel
theorem dX7_printOption_9 : decode cX7_printOption 9 = .ok (.iconst 3, 1) := by decide +kernel
theorem dX7_printOption_10 : decode cX7_printOption 10 = .ok (.if_icmp .ge 4, 3) := by decide +kernel
theorem dX7_printOption_13 : decode cX7_printOption 13 = .ok (.return_, 1) := by decide +kernel
theorem dX7_printOption_14 : decode cX7_printOption 14 = .ok (.aload_n 1, 1) := by decide +kernel
theorem dX7_printOption_15 : decode cX7_printOption 15 = .ok (.bipush 61, 2) := by decide +kernel
theorem dX7_printOption_17 : decode cX7_printOption 17 = .ok (.invokevirtual 135, 3) := by decide +kernel
theorem dX7_printOption_20 : decode cX7_printOption 20 = .ok (.iload_n 3, 1) := by decide +kernel
theorem dX7_printOption_21 : decode cX7_printOption 21 = .ok (.tableswitch 61 3 5 #[27, 49, 38], 27) := by decide +kernel
theorem dX7_printOption_48 : decode cX7_printOption 48 = .ok (.aload_n 1, 1) := by decide +kernel
theorem dX7_printOption_49 : decode cX7_printOption 49 = .ok (.aload_n 2, 1) := by decide +kernel
theorem dX7_printOption_50 : decode cX7_printOption 50 = .ok (.getfield 182, 3) := by decide +kernel
theorem dX7_printOption_53 : decode cX7_printOption 53 = .ok (.invokevirtual 163, 3) := by decide +kernel
theorem dX7_printOption_56 : decode cX7_printOption 56 = .ok (.goto 35, 3) := by decide +kernel
theorem dX7_printOption_59 : decode cX7_printOption 59 = .ok (.aload_n 1, 1) := by decide +kernel
theorem dX7_printOption_60 : decode cX7_printOption 60 = .ok (.aload_n 2, 1) := by decide +kernel
theorem dX7_printOption_61 : decode cX7_printOption 61 = .ok (.getfield 185, 3) := by decide +kernel
theorem dX7_printOption_64 : decode cX7_printOption 64 = .ok (.invokevirtual 188, 3) := by decide +kernel
theorem dX7_printOption_67 : decode cX7_printOption 67 = .ok (.goto 24, 3) := by decide +kernel
theorem dX7_printOption_70 : decode cX7_printOption 70 = .ok (.aload_n 0, 1) := by decide +kernel
theorem dX7_printOption_71 : decode cX7_printOption 71 = .ok (.aload_n 1, 1) := by decide +kernel
theorem dX7_printOption_72 : decode cX7_printOption 72 = .ok (.aload_n 2, 1) := by decide +kernel
theorem dX7_printOption_73 : decode cX7_printOption 73 = .ok (.getfield 65, 3) := by decide +kernel
theorem dX7_printOption_76 : decode cX7_printOption 76 = .ok (.invokevirtual 191, 3) := by decide +kernel
theorem dX7_printOption_79 : decode cX7_printOption 79 = .ok (.goto 12, 3) := by decide +kernel
theorem dX7_printOption_82 : decode cX7_printOption 82 = .ok (.aload_n 0, 1) := by decide +kernel
theorem dX7_printOption_83 : decode cX7_printOption 83 = .ok (.aload_n 1, 1) := by decide +kernel
theorem dX7_printOption_84 : decode cX7_printOption 84 = .ok (.aload_n 2, 1) := by decide +kernel
theorem dX7_printOption_85 : decode cX7_printOption 85 = .ok (.getfield 195, 3) := by decide +kernel
theorem dX7_printOption_88 : decode cX7_printOption 88 = .ok (.invokevirtual 191, 3) := by decide +kernel
theorem dX7_printOption_91 : decode cX7_printOption 91 = .ok (.return_, 1) := by decide +kernel
theorem dX7_printPath_0 : decode cX7_printPath 0 = .ok (.iload_n 2, 1) := by decide +kernel
theorem dX7_printPath_1 : decode cX7_printPath 1 = .ok (.ifCond .lt 37, 3) := by decide +kernel
theorem dX7_printPath_4 : decode cX7_printPath 4 = .ok (.iload_n 2, 1) := by decide +kernel
theorem dX7_printPath_5 : decode cX7_printPath 5 = .ok (.aload_n 0, 1) := by decide +kernel
theorem dX7_printPath_6 : decode cX7_printPath 6 = .ok (.getfield 27, 3) := by decide +kernel
theorem dX7_printPath_9 : decode cX7_printPath 9 = .ok (.if_icmp .ge 29, 3) := by decide +kernel
theorem dX7_printPath_12 : decode cX7_printPath 12 = .ok (.aload_n 1, 1) := by decide +kernel
theorem dX7_printPath_13 : decode cX7_printPath 13 = .ok (.aload_n 0, 1) := by decide +kernel
theorem dX7_printPath_14 : decode cX7_printPath 14 = .ok (.getfield 11, 3) := by decide +kernel
theorem dX7_printPath_17 : decode cX7_printPath 17 = .ok (.iload_n 2, 1) := by decide +kernel
theorem dX7_printPath_18 : decode cX7_printPath 18 = .ok (.aaload, 1) := by decide +kernel
theorem dX7_printPath_19 : decode cX7_printPath 19 = .ok (.getfield 39, 3) := by decide +kernel
theorem dX7_printPath_22 : decode cX7_printPath 22 = .ok (.iconst 0, 1) := by decide +kernel
theorem dX7_printPath_23 : decode cX7_printPath 23 = .ok (.aload_n 0, 1) := by decide +kernel
theorem dX7_printPath_24 : decode cX7_printPath 24 = .ok (.getfield 11, 3) := by decide +kernel
theorem dX7_printPath_27 : decode cX7_printPath 27 = .ok (.iload_n 2, 1) := by decide +kernel
theorem dX7_printPath_28 : decode cX7_printPath 28 = .ok (.aaload, 1) := by decide +kernel
theorem dX7_printPath_29 : decode cX7_printPath 29 = .ok (.getfield 39, 3) := by decide +kernel
theorem dX7_printPath_32 : decode cX7_printPath 32 = .ok (.invokevirtual 72, 3) := by decide +kernel
theorem dX7_printPath_35 : decode cX7_printPath 35 = .ok (.invokevirtual 131, 3) := by decide +kernel
theorem dX7_printPath_38 : decode cX7_printPath 38 = .ok (.return_, 1) := by decide +kernel
theorem dX8_init_0 : decode cX8_init 0 = .ok (.aload_n 0, 1) := by decide +kernel
theorem dX8_init_1 : decode cX8_init 1 = .ok (.invokespecial 3, 3) := by decide +kernel
theorem dX8_init_4 : decode cX8_init 4 = .ok (.aload_n 0, 1) := by decide +kernel
theorem dX8_init_5 : decode cX8_init 5 = .ok (.new 9, 3) := by decide +kernel
theorem dX8_init_8 : decode cX8_init 8 = .ok (.dup, 1) := by decide +kernel
theorem dX8_init_9 : decode cX8_init 9 = .ok (.sipush 2000, 3) := by decide +kernel
theorem dX8_init_12 : decode cX8_init 12 = .ok (.invokespecial 11, 3) := by decide +kernel
theorem dX8_init_15 : decode cX8_init 15 = .ok (.putfield 14, 3) := by decide +kernel
theorem dX8_init_18 : decode cX8_init 18 = .ok (.aload_n 0, 1) := by decide +kernel
theorem dX8_init_19 : decode cX8_init 19 = .ok (.new 9, 3) := by decide +kernel
theorem dX8_init_22 : decode cX8_init 22 = .ok (.dup, 1) := by decide +kernel
theorem dX8_init_23 : decode cX8_init 23 = .ok (.bipush 64, 2) := by decide +kernel
theorem dX8_init_25 : decode cX8_init 25 = .ok (.invokespecial 11, 3) := by decide +kernel
theorem dX8_init_28 : decode cX8_init 28 = .ok (.putfield 18, 3) := by decide +kernel
theorem dX8_init_31 : decode cX8_init 31 = .ok (.aload_n 0, 1) := by decide +kernel
theorem dX8_init_32 : decode cX8_init 32 = .ok (.new 21, 3) := by decide +kernel
theorem dX8_init_35 : decode cX8_init 35 = .ok (.dup, 1) := by decide +kernel
theorem dX8_init_36 : decode cX8_init 36 = .ok (.aload_n 0, 1) := by decide +kernel
theorem dX8_init_37 : decode cX8_init 37 = .ok (.getfield 14, 3) := by decide +kernel
theorem dX8_init_40 : decode cX8_init 40 = .ok (.invokespecial 23, 3) := by decide +kernel
theorem dX8_init_43 : decode cX8_init 43 = .ok (.putfield 26, 3) := by decide +kernel
theorem dX8_init_46 : decode cX8_init 46 = .ok (.aload_n 0, 1) := by decide +kernel
theorem dX8_init_47 : decode cX8_init 47 = .ok (.bipush 8, 2) := by decide +kernel
theorem dX8_init_49 : decode cX8_init 49 = .ok (.anewarray 30, 3) := by decide +kernel
theorem dX8_init_52 : decode cX8_init 52 = .ok (.putfield 32, 3) := by decide +kernel
theorem dX8_init_55 : decode cX8_init 55 = .ok (.aload_n 0, 1) := by decide +kernel
theorem dX8_init_56 : decode cX8_init 56 = .ok (.new 36, 3) := by decide +kernel
theorem dX8_init_59 : decode cX8_init 59 = .ok (.dup, 1) := by decide +kernel
theorem dX8_init_60 : decode cX8_init 60 = .ok (.invokespecial 38, 3) := by decide +kernel
theorem dX8_init_63 : decode cX8_init 63 = .ok (.putfield 39, 3) := by decide +kernel
theorem dX8_init_66 : decode cX8_init 66 = .ok (.aload_n 0, 1) := by decide +kernel
theorem dX8_init_67 : decode cX8_init 67 = .ok (.new 9, 3) := by decide +kernel
theorem dX8_init_70 : decode cX8_init 70 = .ok (.dup, 1) := by decide +kernel
theorem dX8_init_71 : decode cX8_init 71 = .ok (.sipush 4000, 3) := by decide +kernel
theorem dX8_init_74 : decode cX8_init 74 = .ok (.invokespecial 11, 3) := by decide +kernel
theorem dX8_init_77 : decode cX8_init 77 = .ok (.putfield 43, 3) := by decide +kernel
theorem dX8_init_80 : decode cX8_init 80 = .ok (.aload_n 0, 1) := by decide +kernel
theorem dX8_init_81 : decode cX8_init 81 = .ok (.new 9, 3) := by decide +kernel
theorem dX8_init_84 : decode cX8_init 84 = .ok (.dup, 1) := by decide +kernel
theorem dX8_init_85 : decode cX8_init 85 = .ok (.sipush 4000, 3) := by decide +kernel
theorem dX8_init_88 : decode cX8_init 88 = .ok (.invokespecial 11, 3) := by decide +kernel
theorem dX8_init_91 : decode cX8_init 91 = .ok (.putfield 46, 3) := by decide +kernel
theorem dX8_init_94 : decode cX8_init 94 = .ok (.aload_n 0, 1) := by decide +kernel
theorem dX8_init_95 : decode cX8_init 95 = .ok (.iconst 0, 1) := by decide +kernel
theorem dX8_init_96 : decode cX8_init 96 = .ok (.putfield 49, 3) := by decide +kernel
theorem dX8_init_99 : decode cX8_init 99 = .ok (.aload_n 0, 1) := by decide +kernel
theorem dX8_init_100 : decode cX8_init 100 = .ok (.bipush (-2), 2) := by decide +kernel
theorem dX8_init_102 : decode cX8_init 102 = .ok (.putfield 53, 3) := by decide +kernel
theorem dX8_init_105 : decode cX8_init 105 = .ok (.iconst 0, 1) := by decide +kernel
theorem dX8_init_106 : decode cX8_init 106 = .ok (.istore_n 1, 1) := by decide +kernel
theorem dX8_init_107 : decode cX8_init 107 = .ok (.iload_n 1, 1) := by decide +kernel
theorem dX8_init_108 : decode cX8_init 108 = .ok (.bipush 8, 2) := by decide +kernel
theorem dX8_init_110 : decode cX8_init 110 = .ok (.if_icmp .ge 22, 3) := by decide +kernel
theorem dX8_init_113 : decode cX8_init 113 = .ok (.aload_n 0, 1) := by decide +kernel
theorem dX8_init_114 : decode cX8_init 114 = .ok (.getfield 32, 3) := by decide +kernel
theorem dX8_init_117 : decode cX8_init 117 = .ok (.iload_n 1, 1) := by decide +kernel
theorem dX8_init_118 : decode cX8_init 118 = .ok (.new 30, 3) := by decide +kernel
theorem dX8_init_121 : decode cX8_init 121 = .ok (.dup, 1) := by decide +kernel
theorem dX8_init_122 : decode cX8_init 122 = .ok (.invokespecial 56, 3) := by decide +kernel
theorem dX8_init_125 : decode cX8_init 125 = .ok (.aastore, 1) := by decide +kernel
theorem dX8_init_126 : decode cX8_init 126 = .ok (.iinc 1 1, 3) := by decide +kernel
theorem dX8_init_129 : decode cX8_init 129 = .ok (.goto (-22), 3) := by decide +kernel
theorem dX8_init_132 : decode cX8_init 132 = .ok (.aload_n 0, 1) := by decide +kernel
theorem dX8_init_133 : decode cX8_init 133 = .ok (.new 57, 3) := by decide +kernel
theorem dX8_init_136 : decode cX8_init 136 = .ok (.dup, 1) := by decide +kernel
theorem dX8_init_137 : decode cX8_init 137 = .ok (.aload_n 0, 1) := by decide +kernel
theorem dX8_init_138 : decode cX8_init 138 = .ok (.getfield 26, 3) := by decide +kernel
theorem dX8_init_141 : decode cX8_init 141 = .ok (.aload_n 0, 1) := by decide +kernel
theorem dX8_init_142 : decode cX8_init 142 = .ok (.getfield 32, 3) := by decide +kernel
theorem dX8_init_145 : decode cX8_init 145 = .ok (.iconst 0, 1) := by decide +kernel
theorem dX8_init_146 : decode cX8_init 146 = .ok (.aaload, 1) := by decide +kernel
theorem dX8_init_147 : decode cX8_init 147 = .ok (.invokespecial 59, 3) := by decide +kernel
theorem dX8_init_150 : decode cX8_init 150 = .ok (.putfield 62, 3) := by decide +kernel
theorem dX8_init_153 : decode cX8_init 153 = .ok (.return_, 1) := by decide +kernel
theorem dX8_feed_0 : decode cX8_feed 0 = .ok (.iload_n 1, 1) := by decide +kernel
theorem dX8_feed_1 : decode cX8_feed 1 = .ok (.iconst 1, 1) := by decide +kernel
theorem dX8_feed_2 : decode cX8_feed 2 = .ok (.if_icmp .lt 9, 3) := by decide +kernel
theorem dX8_feed_5 : decode cX8_feed 5 = .ok (.iload_n 1, 1) := by decide +kernel
theorem dX8_feed_6 : decode cX8_feed 6 = .ok (.bipush 8, 2) := by decide +kernel
theorem dX8_feed_8 : decode cX8_feed 8 = .ok (.if_icmp .le 5, 3) := by decide +kernel
theorem dX8_feed_11 : decode cX8_feed 11 = .ok (.iconst (-1), 1) := by decide +kernel
theorem dX8_feed_12 : decode cX8_feed 12 = .ok (.ireturn, 1) := by decide +kernel
theorem dX8_feed_13 : decode cX8_feed 13 = .ok (.aload_n 0, 1) := by decide +kernel
theorem dX8_feed_14 : decode cX8_feed 14 = .ok (.getfield 14, 3) := by decide +kernel
theorem dX8_feed_17 : decode cX8_feed 17 = .ok (.iload_n 1, 1) := by decide +kernel
theorem dX8_feed_18 : decode cX8_feed 18 = .ok (.invokevirtual 66, 3) := by decide +kernel
theorem dX8_feed_21 : decode cX8_feed 21 = .ok (.ifCond .ne 6, 3) := by decide +kernel
theorem dX8_feed_24 : decode cX8_feed 24 = .ok (.bipush (-3), 2) := by decide +kernel
theorem dX8_feed_26 : decode cX8_feed 26 = .ok (.ireturn, 1) := by decide +kernel
theorem dX8_feed_27 : decode cX8_feed 27 = .ok (.iconst 0, 1) := by decide +kernel
theorem dX8_feed_28 : decode cX8_feed 28 = .ok (.istore 4, 2) := by decide +kernel
theorem dX8_feed_30 : decode cX8_feed 30 = .ok (.iload 4, 2) := by decide +kernel
theorem dX8_feed_32 : decode cX8_feed 32 = .ok (.iload_n 1, 1) := by decide +kernel
theorem dX8_feed_33 : decode cX8_feed 33 = .ok (.if_icmp .ge 28, 3) := by decide +kernel
theorem dX8_feed_36 : decode cX8_feed 36 = .ok (.aload_n 0, 1) := by decide +kernel
theorem dX8_feed_37 : decode cX8_feed 37 = .ok (.getfield 14, 3) := by decide +kernel
theorem dX8_feed_40 : decode cX8_feed 40 = .ok (.lload_n 2, 1) := by decide +kernel
theorem dX8_feed_41 : decode cX8_feed 41 = .ok (.bipush 8, 2) := by decide +kernel
theorem dX8_feed_43 : decode cX8_feed 43 = .ok (.iload 4, 2) := by decide +kernel
theorem dX8_feed_45 : decode cX8_feed 45 = .ok (.imul, 1) := by decide +kernel
theorem dX8_feed_46 : decode cX8_feed 46 = .ok (.lushr, 1) := by decide +kernel
theorem dX8_feed_47 : decode cX8_feed 47 = .ok (.l2i, 1) := by decide +kernel
theorem dX8_feed_48 : decode cX8_feed 48 = .ok (.sipush 255, 3) := by decide +kernel
theorem dX8_feed_51 : decode cX8_feed 51 = .ok (.iand, 1) := by decide +kernel
theorem dX8_feed_52 : decode cX8_feed 52 = .ok (.invokevirtual 70, 3) := by decide +kernel
theorem dX8_feed_55 : decode cX8_feed 55 = .ok (.iinc 4 1, 3) := by decide +kernel
theorem dX8_feed_58 : decode cX8_feed 58 = .ok (.goto (-28), 3) := by decide +kernel
theorem dX8_feed_61 : decode cX8_feed 61 = .ok (.aload_n 0, 1) := by decide +kernel
theorem dX8_feed_62 : decode cX8_feed 62 = .ok (.getfield 14, 3) := by decide +kernel
theorem dX8_feed_65 : decode cX8_feed 65 = .ok (.invokevirtual 73, 3) := by decide +kernel
theorem dX8_feed_68 : decode cX8_feed 68 = .ok (.ireturn, 1) := by decide +kernel
theorem dX8_read_0 : decode cX8_read 0 = .ok (.aload_n 0, 1) := by decide +kernel
theorem dX8_read_1 : decode cX8_read 1 = .ok (.getfield 49, 3) := by decide +kernel
theorem dX8_read_4 : decode cX8_read 4 = .ok (.bipush 8, 2) := by decide +kernel
theorem dX8_read_6 : decode cX8_read 6 = .ok (.if_icmp .lt 19, 3) := by decide +kernel
theorem dX8_read_9 : decode cX8_read 9 = .ok (.aload_n 0, 1) := by decide +kernel
theorem dX8_read_10 : decode cX8_read 10 = .ok (.bipush (-2), 2) := by decide +kernel
theorem dX8_read_12 : decode cX8_read 12 = .ok (.putfield 53, 3) := by decide +kernel
theorem dX8_read_15 : decode cX8_read 15 = .ok (.aload_n 0, 1) := by decide +kernel
theorem dX8_read_16 : decode cX8_read 16 = .ok (.getfield 14, 3) := by decide +kernel
theorem dX8_read_19 : decode cX8_read 19 = .ok (.invokevirtual 77, 3) := by decide +kernel
theorem dX8_read_22 : decode cX8_read 22 = .ok (.bipush (-3), 2) := by decide +kernel
theorem dX8_read_24 : decode cX8_read 24 = .ok (.ireturn, 1) := by decide +kernel
theorem dX8_read_25 : decode cX8_read 25 = .ok (.aload_n 0, 1) := by decide +kernel
theorem dX8_read_26 : decode cX8_read 26 = .ok (.getfield 32, 3) := by decide +kernel
theorem dX8_read_29 : decode cX8_read 29 = .ok (.aload_n 0, 1) := by decide +kernel
theorem dX8_read_30 : decode cX8_read 30 = .ok (.getfield 49, 3) := by decide +kernel
theorem dX8_read_33 : decode cX8_read 33 = .ok (.aaload, 1) := by decide +kernel
theorem dX8_read_34 : decode cX8_read 34 = .ok (.astore_n 1, 1) := by decide +kernel
theorem dX8_read_35 : decode cX8_read 35 = .ok (.aload_n 0, 1) := by decide +kernel
theorem dX8_read_36 : decode cX8_read 36 = .ok (.getfield 62, 3) := by decide +kernel
theorem dX8_read_39 : decode cX8_read 39 = .ok (.aload_n 1, 1) := by decide +kernel
theorem dX8_read_40 : decode cX8_read 40 = .ok (.invokevirtual 80, 3) := by decide +kernel
theorem dX8_read_43 : decode cX8_read 43 = .ok (.istore_n 2, 1) := by decide +kernel
theorem dX8_read_44 : decode cX8_read 44 = .ok (.aload_n 0, 1) := by decide +kernel
theorem dX8_read_45 : decode cX8_read 45 = .ok (.aload_n 0, 1) := by decide +kernel
theorem dX8_read_46 : decode cX8_read 46 = .ok (.getfield 62, 3) := by decide +kernel
theorem dX8_read_49 : decode cX8_read 49 = .ok (.invokevirtual 84, 3) := by decide +kernel
theorem dX8_read_52 : decode cX8_read 52 = .ok (.putfield 53, 3) := by decide +kernel
theorem dX8_read_55 : decode cX8_read 55 = .ok (.aload_n 0, 1) := by decide +kernel
theorem dX8_read_56 : decode cX8_read 56 = .ok (.getfield 14, 3) := by decide +kernel
theorem dX8_read_59 : decode cX8_read 59 = .ok (.invokevirtual 77, 3) := by decide +kernel
theorem dX8_read_62 : decode cX8_read 62 = .ok (.iload_n 2, 1) := by decide +kernel
theorem dX8_read_63 : decode cX8_read 63 = .ok (.ifCond .eq 8, 3) := by decide +kernel
theorem dX8_read_66 : decode cX8_read 66 = .ok (.bipush (-10), 2) := by decide +kernel
theorem dX8_read_68 : decode cX8_read 68 = .ok (.iload_n 2, 1) := by decide +kernel
theorem dX8_read_69 : decode cX8_read 69 = .ok (.isub, 1) := by decide +kernel
theorem dX8_read_70 : decode cX8_read 70 = .ok (.ireturn, 1) := by decide +kernel
theorem dX8_read_71 : decode cX8_read 71 = .ok (.aload_n 0, 1) := by decide +kernel
theorem dX8_read_72 : decode cX8_read 72 = .ok (.aload_n 1, 1) := by decide +kernel
theorem dX8_read_73 : decode cX8_read 73 = .ok (.invokevirtual 87, 3) := by decide +kernel
theorem dX8_read_76 : decode cX8_read 76 = .ok (.ireturn, 1) := by decide +kernel
theorem dX8_place_0 : decode cX8_place 0 = .ok (.aload_n 0, 1) := by decide +kernel
theorem dX8_place_1 : decode cX8_place 1 = .ok (.getfield 53, 3) := by decide +kernel
theorem dX8_place_4 : decode cX8_place 4 = .ok (.ireturn, 1) := by decide +kernel
theorem dX8_grow_0 : decode cX8_grow 0 = .ok (.aload_n 0, 1) := by decide +kernel
theorem dX8_grow_1 : decode cX8_grow 1 = .ok (.invokevirtual 90, 3) := by decide +kernel
theorem dX8_grow_4 : decode cX8_grow 4 = .ok (.istore_n 3, 1) := by decide +kernel
theorem dX8_grow_5 : decode cX8_grow 5 = .ok (.aload_n 0, 1) := by decide +kernel
theorem dX8_grow_6 : decode cX8_grow 6 = .ok (.iload_n 1, 1) := by decide +kernel
theorem dX8_grow_7 : decode cX8_grow 7 = .ok (.invokevirtual 94, 3) := by decide +kernel
theorem dX8_grow_10 : decode cX8_grow 10 = .ok (.ifCond .eq 10, 3) := by decide +kernel
theorem dX8_grow_13 : decode cX8_grow 13 = .ok (.iload_n 2, 1) := by decide +kernel
theorem dX8_grow_14 : decode cX8_grow 14 = .ok (.invokestatic 97, 3) := by decide +kernel
theorem dX8_grow_17 : decode cX8_grow 17 = .ok (.ifCond .ne 5, 3) := by decide +kernel
theorem dX8_grow_20 : decode cX8_grow 20 = .ok (.iconst (-1), 1) := by decide +kernel
theorem dX8_grow_21 : decode cX8_grow 21 = .ok (.ireturn, 1) := by decide +kernel
theorem dX8_grow_22 : decode cX8_grow 22 = .ok (.iload_n 3, 1) := by decide +kernel
theorem dX8_grow_23 : decode cX8_grow 23 = .ok (.ifCond .eq 12, 3) := by decide +kernel
theorem dX8_grow_26 : decode cX8_grow 26 = .ok (.aload_n 0, 1) := by decide +kernel
theorem dX8_grow_27 : decode cX8_grow 27 = .ok (.iload_n 1, 1) := by decide +kernel
theorem dX8_grow_28 : decode cX8_grow 28 = .ok (.iload_n 2, 1) := by decide +kernel
theorem dX8_grow_29 : decode cX8_grow 29 = .ok (.invokevirtual 100, 3) := by decide +kernel
theorem dX8_grow_32 : decode cX8_grow 32 = .ok (.goto 5, 3) := by decide +kernel
theorem dX8_grow_35 : decode cX8_grow 35 = .ok (.bipush (-2), 2) := by decide +kernel
theorem dX8_grow_37 : decode cX8_grow 37 = .ok (.ireturn, 1) := by decide +kernel
theorem dX8_drop_0 : decode cX8_drop 0 = .ok (.aload_n 0, 1) := by decide +kernel
theorem dX8_drop_1 : decode cX8_drop 1 = .ok (.getfield 49, 3) := by decide +kernel
theorem dX8_drop_4 : decode cX8_drop 4 = .ok (.ifCond .ne 6, 3) := by decide +kernel
theorem dX8_drop_7 : decode cX8_drop 7 = .ok (.bipush (-2), 2) := by decide +kernel
theorem dX8_drop_9 : decode cX8_drop 9 = .ok (.ireturn, 1) := by decide +kernel
theorem dX8_drop_10 : decode cX8_drop 10 = .ok (.aload_n 0, 1) := by decide +kernel
theorem dX8_drop_11 : decode cX8_drop 11 = .ok (.dup, 1) := by decide +kernel
theorem dX8_drop_12 : decode cX8_drop 12 = .ok (.getfield 49, 3) := by decide +kernel
theorem dX8_drop_15 : decode cX8_drop 15 = .ok (.iconst 1, 1) := by decide +kernel
theorem dX8_drop_16 : decode cX8_drop 16 = .ok (.isub, 1) := by decide +kernel
theorem dX8_drop_17 : decode cX8_drop 17 = .ok (.putfield 49, 3) := by decide +kernel
theorem dX8_drop_20 : decode cX8_drop 20 = .ok (.aload_n 0, 1) := by decide +kernel
theorem dX8_drop_21 : decode cX8_drop 21 = .ok (.getfield 49, 3) := by decide +kernel
theorem dX8_drop_24 : decode cX8_drop 24 = .ok (.ireturn, 1) := by decide +kernel
theorem dX8_find_0 : decode cX8_find 0 = .ok (.aload_n 0, 1) := by decide +kernel
theorem dX8_find_1 : decode cX8_find 1 = .ok (.invokevirtual 90, 3) := by decide +kernel
theorem dX8_find_4 : decode cX8_find 4 = .ok (.istore_n 2, 1) := by decide +kernel
theorem dX8_find_5 : decode cX8_find 5 = .ok (.aload_n 0, 1) := by decide +kernel
theorem dX8_find_6 : decode cX8_find 6 = .ok (.iload_n 1, 1) := by decide +kernel
theorem dX8_find_7 : decode cX8_find 7 = .ok (.invokevirtual 94, 3) := by decide +kernel
theorem dX8_find_10 : decode cX8_find 10 = .ok (.ifCond .ne 5, 3) := by decide +kernel
theorem dX8_find_13 : decode cX8_find 13 = .ok (.iconst (-1), 1) := by decide +kernel
theorem dX8_find_14 : decode cX8_find 14 = .ok (.ireturn, 1) := by decide +kernel
theorem dX8_find_15 : decode cX8_find 15 = .ok (.iload_n 2, 1) := by decide +kernel
theorem dX8_find_16 : decode cX8_find 16 = .ok (.ifCond .eq 26, 3) := by decide +kernel
theorem dX8_find_19 : decode cX8_find 19 = .ok (.aload_n 0, 1) := by decide +kernel
theorem dX8_find_20 : decode cX8_find 20 = .ok (.getfield 32, 3) := by decide +kernel
theorem dX8_find_23 : decode cX8_find 23 = .ok (.iload_n 1, 1) := by decide +kernel
theorem dX8_find_24 : decode cX8_find 24 = .ok (.aaload, 1) := by decide +kernel
theorem dX8_find_25 : decode cX8_find 25 = .ok (.aload_n 0, 1) := by decide +kernel
theorem dX8_find_26 : decode cX8_find 26 = .ok (.getfield 18, 3) := by decide +kernel
theorem dX8_find_29 : decode cX8_find 29 = .ok (.aload_n 0, 1) := by decide +kernel
theorem dX8_find_30 : decode cX8_find 30 = .ok (.getfield 18, 3) := by decide +kernel
theorem dX8_find_33 : decode cX8_find 33 = .ok (.invokevirtual 73, 3) := by decide +kernel
theorem dX8_find_36 : decode cX8_find 36 = .ok (.invokevirtual 104, 3) := by decide +kernel
theorem dX8_find_39 : decode cX8_find 39 = .ok (.goto 5, 3) := by decide +kernel
theorem dX8_find_42 : decode cX8_find 42 = .ok (.bipush (-2), 2) := by decide +kernel
theorem dX8_find_44 : decode cX8_find 44 = .ok (.ireturn, 1) := by decide +kernel
theorem dX8_field_0 : decode cX8_field 0 = .ok (.aload_n 0, 1) := by decide +kernel
theorem dX8_field_1 : decode cX8_field 1 = .ok (.iload_n 1, 1) := by decide +kernel
theorem dX8_field_2 : decode cX8_field 2 = .ok (.iload_n 2, 1) := by decide +kernel
theorem dX8_field_3 : decode cX8_field 3 = .ok (.invokevirtual 108, 3) := by decide +kernel
theorem dX8_field_6 : decode cX8_field 6 = .ok (.ifCond .ne 5, 3) := by decide +kernel
theorem dX8_field_9 : decode cX8_field 9 = .ok (.iconst (-1), 1) := by decide +kernel
theorem dX8_field_10 : decode cX8_field 10 = .ok (.ireturn, 1) := by decide +kernel
theorem dX8_field_11 : decode cX8_field 11 = .ok (.aload_n 0, 1) := by decide +kernel
theorem dX8_field_12 : decode cX8_field 12 = .ok (.getfield 32, 3) := by decide +kernel
theorem dX8_field_15 : decode cX8_field 15 = .ok (.iload_n 1, 1) := by decide +kernel
theorem dX8_field_16 : decode cX8_field 16 = .ok (.aaload, 1) := by decide +kernel
theorem dX8_field_17 : decode cX8_field 17 = .ok (.astore 4, 2) := by decide +kernel
theorem dX8_field_19 : decode cX8_field 19 = .ok (.aload 4, 2) := by decide +kernel
theorem dX8_field_21 : decode cX8_field 21 = .ok (.getfield 112, 3) := by decide +kernel
theorem dX8_field_24 : decode cX8_field 24 = .ok (.iload_n 2, 1) := by decide +kernel
theorem dX8_field_25 : decode cX8_field 25 = .ok (.aaload, 1) := by decide +kernel
theorem dX8_field_26 : decode cX8_field 26 = .ok (.astore 5, 2) := by decide +kernel
theorem dX8_field_28 : decode cX8_field 28 = .ok (.iload_n 3, 1) := by decide +kernel
theorem dX8_field_29 : decode cX8_field 29 = .ok (.tableswitch 123 0 9 #[55, 61, 67, 73, 79, 85, 91, 98, 107, 116], 55) := by decide +kernel
theorem dX8_field_84 : decode cX8_field 84 = .ok (.aload 5, 2) := by decide +kernel
theorem dX8_field_86 : decode cX8_field 86 = .ok (.getfield 116, 3) := by decide +kernel
theorem dX8_field_89 : decode cX8_field 89 = .ok (.ireturn, 1) := by decide +kernel
theorem dX8_field_90 : decode cX8_field 90 = .ok (.aload 5, 2) := by decide +kernel
theorem dX8_field_92 : decode cX8_field 92 = .ok (.getfield 121, 3) := by decide +kernel
theorem dX8_field_95 : decode cX8_field 95 = .ok (.ireturn, 1) := by decide +kernel
theorem dX8_field_96 : decode cX8_field 96 = .ok (.aload 5, 2) := by decide +kernel
theorem dX8_field_98 : decode cX8_field 98 = .ok (.getfield 124, 3) := by decide +kernel
theorem dX8_field_101 : decode cX8_field 101 = .ok (.ireturn, 1) := by decide +kernel
theorem dX8_field_102 : decode cX8_field 102 = .ok (.aload 5, 2) := by decide +kernel
theorem dX8_field_104 : decode cX8_field 104 = .ok (.getfield 127, 3) := by decide +kernel
theorem dX8_field_107 : decode cX8_field 107 = .ok (.ireturn, 1) := by decide +kernel
theorem dX8_field_108 : decode cX8_field 108 = .ok (.aload 5, 2) := by decide +kernel
theorem dX8_field_110 : decode cX8_field 110 = .ok (.getfield 130, 3) := by decide +kernel
theorem dX8_field_113 : decode cX8_field 113 = .ok (.ireturn, 1) := by decide +kernel
theorem dX8_field_114 : decode cX8_field 114 = .ok (.aload 5, 2) := by decide +kernel
theorem dX8_field_116 : decode cX8_field 116 = .ok (.getfield 133, 3) := by decide +kernel
theorem dX8_field_119 : decode cX8_field 119 = .ok (.ireturn, 1) := by decide +kernel
theorem dX8_field_120 : decode cX8_field 120 = .ok (.aload 4, 2) := by decide +kernel
theorem dX8_field_122 : decode cX8_field 122 = .ok (.iload_n 2, 1) := by decide +kernel
theorem dX8_field_123 : decode cX8_field 123 = .ok (.invokevirtual 136, 3) := by decide +kernel
theorem dX8_field_126 : decode cX8_field 126 = .ok (.ireturn, 1) := by decide +kernel
theorem dX8_field_127 : decode cX8_field 127 = .ok (.aload 5, 2) := by decide +kernel
theorem dX8_field_129 : decode cX8_field 129 = .ok (.getfield 140, 3) := by decide +kernel
theorem dX8_field_132 : decode cX8_field 132 = .ok (.invokevirtual 73, 3) := by decide +kernel
theorem dX8_field_135 : decode cX8_field 135 = .ok (.ireturn, 1) := by decide +kernel
theorem dX8_field_136 : decode cX8_field 136 = .ok (.aload 5, 2) := by decide +kernel
theorem dX8_field_138 : decode cX8_field 138 = .ok (.getfield 141, 3) := by decide +kernel
theorem dX8_field_141 : decode cX8_field 141 = .ok (.invokevirtual 73, 3) := by decide +kernel
theorem dX8_field_144 : decode cX8_field 144 = .ok (.ireturn, 1) := by decide +kernel
theorem dX8_field_145 : decode cX8_field 145 = .ok (.aload 4, 2) := by decide +kernel
theorem dX8_field_147 : decode cX8_field 147 = .ok (.iload_n 2, 1) := by decide +kernel
theorem dX8_field_148 : decode cX8_field 148 = .ok (.invokevirtual 144, 3) := by decide +kernel
theorem dX8_field_151 : decode cX8_field 151 = .ok (.ireturn, 1) := by decide +kernel
theorem dX8_field_152 : decode cX8_field 152 = .ok (.iconst (-1), 1) := by decide +kernel
theorem dX8_field_153 : decode cX8_field 153 = .ok (.ireturn, 1) := by decide +kernel
theorem dX8_letter_0 : decode cX8_letter 0 = .ok (.aload_n 0, 1) := by decide +kernel
theorem dX8_letter_1 : decode cX8_letter 1 = .ok (.iload_n 1, 1) := by decide +kernel
theorem dX8_letter_2 : decode cX8_letter 2 = .ok (.iload_n 2, 1) := by decide +kernel
theorem dX8_letter_3 : decode cX8_letter 3 = .ok (.invokevirtual 108, 3) := by decide +kernel
theorem dX8_letter_6 : decode cX8_letter 6 = .ok (.ifCond .ne 5, 3) := by decide +kernel
theorem dX8_letter_9 : decode cX8_letter 9 = .ok (.iconst (-1), 1) := by decide +kernel
theorem dX8_letter_10 : decode cX8_letter 10 = .ok (.ireturn, 1) := by decide +kernel
theorem dX8_letter_11 : decode cX8_letter 11 = .ok (.aload_n 0, 1) := by decide +kernel
theorem dX8_letter_12 : decode cX8_letter 12 = .ok (.getfield 32, 3) := by decide +kernel
theorem dX8_letter_15 : decode cX8_letter 15 = .ok (.iload_n 1, 1) := by decide +kernel
theorem dX8_letter_16 : decode cX8_letter 16 = .ok (.aaload, 1) := by decide +kernel
theorem dX8_letter_17 : decode cX8_letter 17 = .ok (.getfield 112, 3) := by decide +kernel
theorem dX8_letter_20 : decode cX8_letter 20 = .ok (.iload_n 2, 1) := by decide +kernel
theorem dX8_letter_21 : decode cX8_letter 21 = .ok (.aaload, 1) := by decide +kernel
theorem dX8_letter_22 : decode cX8_letter 22 = .ok (.getfield 140, 3) := by decide +kernel
theorem dX8_letter_25 : decode cX8_letter 25 = .ok (.iload_n 3, 1) := by decide +kernel
theorem dX8_letter_26 : decode cX8_letter 26 = .ok (.invokevirtual 147, 3) := by decide +kernel
theorem dX8_letter_29 : decode cX8_letter 29 = .ok (.ireturn, 1) := by decide +kernel
theorem dX8_leaf_0 : decode cX8_leaf 0 = .ok (.aload_n 0, 1) := by decide +kernel
theorem dX8_leaf_1 : decode cX8_leaf 1 = .ok (.iload_n 1, 1) := by decide +kernel
theorem dX8_leaf_2 : decode cX8_leaf 2 = .ok (.iload_n 2, 1) := by decide +kernel
theorem dX8_leaf_3 : decode cX8_leaf 3 = .ok (.invokevirtual 108, 3) := by decide +kernel
theorem dX8_leaf_6 : decode cX8_leaf 6 = .ok (.ifCond .ne 5, 3) := by decide +kernel
theorem dX8_leaf_9 : decode cX8_leaf 9 = .ok (.iconst (-1), 1) := by decide +kernel
theorem dX8_leaf_10 : decode cX8_leaf 10 = .ok (.ireturn, 1) := by decide +kernel
theorem dX8_leaf_11 : decode cX8_leaf 11 = .ok (.aload_n 0, 1) := by decide +kernel
theorem dX8_leaf_12 : decode cX8_leaf 12 = .ok (.getfield 32, 3) := by decide +kernel
theorem dX8_leaf_15 : decode cX8_leaf 15 = .ok (.iload_n 1, 1) := by decide +kernel
theorem dX8_leaf_16 : decode cX8_leaf 16 = .ok (.aaload, 1) := by decide +kernel
theorem dX8_leaf_17 : decode cX8_leaf 17 = .ok (.getfield 112, 3) := by decide +kernel
theorem dX8_leaf_20 : decode cX8_leaf 20 = .ok (.iload_n 2, 1) := by decide +kernel
theorem dX8_leaf_21 : decode cX8_leaf 21 = .ok (.aaload, 1) := by decide +kernel
theorem dX8_leaf_22 : decode cX8_leaf 22 = .ok (.astore_n 3, 1) := by decide +kernel
theorem dX8_leaf_23 : decode cX8_leaf 23 = .ok (.aload_n 3, 1) := by decide +kernel
theorem dX8_leaf_24 : decode cX8_leaf 24 = .ok (.getfield 116, 3) := by decide +kernel
theorem dX8_leaf_27 : decode cX8_leaf 27 = .ok (.invokestatic 150, 3) := by decide +kernel
theorem dX8_leaf_30 : decode cX8_leaf 30 = .ok (.ifCond .eq 7, 3) := by decide +kernel
theorem dX8_leaf_33 : decode cX8_leaf 33 = .ok (.iload_n 2, 1) := by decide +kernel
theorem dX8_leaf_34 : decode cX8_leaf 34 = .ok (.goto 7, 3) := by decide +kernel
theorem dX8_leaf_37 : decode cX8_leaf 37 = .ok (.aload_n 3, 1) := by decide +kernel
theorem dX8_leaf_38 : decode cX8_leaf 38 = .ok (.getfield 130, 3) := by decide +kernel
theorem dX8_leaf_41 : decode cX8_leaf 41 = .ok (.ireturn, 1) := by decide +kernel
theorem dX8_rule_0 : decode cX8_rule 0 = .ok (.aload_n 0, 1) := by decide +kernel
theorem dX8_rule_1 : decode cX8_rule 1 = .ok (.invokevirtual 90, 3) := by decide +kernel
theorem dX8_rule_4 : decode cX8_rule 4 = .ok (.ifCond .eq 18, 3) := by decide +kernel
theorem dX8_rule_7 : decode cX8_rule 7 = .ok (.aload_n 0, 1) := by decide +kernel
theorem dX8_rule_8 : decode cX8_rule 8 = .ok (.getfield 26, 3) := by decide +kernel
theorem dX8_rule_11 : decode cX8_rule 11 = .ok (.invokevirtual 155, 3) := by decide +kernel
theorem dX8_rule_14 : decode cX8_rule 14 = .ok (.iconst 1, 1) := by decide +kernel
theorem dX8_rule_15 : decode cX8_rule 15 = .ok (.if_icmp .ne 7, 3) := by decide +kernel
theorem dX8_rule_18 : decode cX8_rule 18 = .ok (.iconst 1, 1) := by decide +kernel
theorem dX8_rule_19 : decode cX8_rule 19 = .ok (.goto 4, 3) := by decide +kernel
theorem dX8_rule_22 : decode cX8_rule 22 = .ok (.iconst 0, 1) := by decide +kernel
theorem dX8_rule_23 : decode cX8_rule 23 = .ok (.istore_n 3, 1) := by decide +kernel
theorem dX8_rule_24 : decode cX8_rule 24 = .ok (.aload_n 0, 1) := by decide +kernel
theorem dX8_rule_25 : decode cX8_rule 25 = .ok (.iload_n 1, 1) := by decide +kernel
theorem dX8_rule_26 : decode cX8_rule 26 = .ok (.invokevirtual 94, 3) := by decide +kernel
theorem dX8_rule_29 : decode cX8_rule 29 = .ok (.ifCond .eq 10, 3) := by decide +kernel
theorem dX8_rule_32 : decode cX8_rule 32 = .ok (.iload_n 2, 1) := by decide +kernel
theorem dX8_rule_33 : decode cX8_rule 33 = .ok (.invokestatic 97, 3) := by decide +kernel
theorem dX8_rule_36 : decode cX8_rule 36 = .ok (.ifCond .ne 5, 3) := by decide +kernel
theorem dX8_rule_39 : decode cX8_rule 39 = .ok (.iconst (-1), 1) := by decide +kernel
theorem dX8_rule_40 : decode cX8_rule 40 = .ok (.ireturn, 1) := by decide +kernel
theorem dX8_rule_41 : decode cX8_rule 41 = .ok (.iload_n 3, 1) := by decide +kernel
theorem dX8_rule_42 : decode cX8_rule 42 = .ok (.ifCond .eq 21, 3) := by decide +kernel
theorem dX8_rule_45 : decode cX8_rule 45 = .ok (.aload_n 0, 1) := by decide +kernel
theorem dX8_rule_46 : decode cX8_rule 46 = .ok (.getfield 32, 3) := by decide +kernel
theorem dX8_rule_49 : decode cX8_rule 49 = .ok (.iload_n 1, 1) := by decide +kernel
theorem dX8_rule_50 : decode cX8_rule 50 = .ok (.aaload, 1) := by decide +kernel
theorem dX8_rule_51 : decode cX8_rule 51 = .ok (.aload_n 0, 1) := by decide +kernel
theorem dX8_rule_52 : decode cX8_rule 52 = .ok (.getfield 18, 3) := by decide +kernel
theorem dX8_rule_55 : decode cX8_rule 55 = .ok (.iconst 0, 1) := by decide +kernel
theorem dX8_rule_56 : decode cX8_rule 56 = .ok (.iload_n 2, 1) := by decide +kernel
theorem dX8_rule_57 : decode cX8_rule 57 = .ok (.invokevirtual 158, 3) := by decide +kernel
theorem dX8_rule_60 : decode cX8_rule 60 = .ok (.goto 5, 3) := by decide +kernel
theorem dX8_rule_63 : decode cX8_rule 63 = .ok (.bipush (-2), 2) := by decide +kernel
theorem dX8_rule_65 : decode cX8_rule 65 = .ok (.ireturn, 1) := by decide +kernel
theorem dX8_print_0 : decode cX8_print 0 = .ok (.aload_n 0, 1) := by decide +kernel
theorem dX8_print_1 : decode cX8_print 1 = .ok (.iload_n 1, 1) := by decide +kernel
theorem dX8_print_2 : decode cX8_print 2 = .ok (.invokevirtual 94, 3) := by decide +kernel
theorem dX8_print_5 : decode cX8_print 5 = .ok (.ifCond .ne 5, 3) := by decide +kernel
theorem dX8_print_8 : decode cX8_print 8 = .ok (.iconst (-1), 1) := by decide +kernel
theorem dX8_print_9 : decode cX8_print 9 = .ok (.ireturn, 1) := by decide +kernel
theorem dX8_print_10 : decode cX8_print 10 = .ok (.aload_n 0, 1) := by decide +kernel
theorem dX8_print_11 : decode cX8_print 11 = .ok (.getfield 46, 3) := by decide +kernel
theorem dX8_print_14 : decode cX8_print 14 = .ok (.invokevirtual 77, 3) := by decide +kernel
theorem dX8_print_17 : decode cX8_print 17 = .ok (.aload_n 0, 1) := by decide +kernel
theorem dX8_print_18 : decode cX8_print 18 = .ok (.getfield 32, 3) := by decide +kernel
theorem dX8_print_21 : decode cX8_print 21 = .ok (.iload_n 1, 1) := by decide +kernel
theorem dX8_print_22 : decode cX8_print 22 = .ok (.aaload, 1) := by decide +kernel
theorem dX8_print_23 : decode cX8_print 23 = .ok (.aload_n 0, 1) := by decide +kernel
theorem dX8_print_24 : decode cX8_print 24 = .ok (.getfield 46, 3) := by decide +kernel
theorem dX8_print_27 : decode cX8_print 27 = .ok (.invokevirtual 162, 3) := by decide +kernel
theorem dX8_print_30 : decode cX8_print 30 = .ok (.aload_n 0, 1) := by decide +kernel
theorem dX8_print_31 : decode cX8_print 31 = .ok (.getfield 46, 3) := by decide +kernel
theorem dX8_print_34 : decode cX8_print 34 = .ok (.invokevirtual 165, 3) := by decide +kernel
theorem dX8_print_37 : decode cX8_print 37 = .ok (.ifCond .eq 6, 3) := by decide +kernel
theorem dX8_print_40 : decode cX8_print 40 = .ok (.bipush (-3), 2) := by decide +kernel
theorem dX8_print_42 : decode cX8_print 42 = .ok (.ireturn, 1) := by decide +kernel
theorem dX8_print_43 : decode cX8_print 43 = .ok (.aload_n 0, 1) := by decide +kernel
theorem dX8_print_44 : decode cX8_print 44 = .ok (.getfield 43, 3) := by decide +kernel
theorem dX8_print_47 : decode cX8_print 47 = .ok (.astore_n 2, 1) := by decide +kernel
theorem dX8_print_48 : decode cX8_print 48 = .ok (.aload_n 0, 1) := by decide +kernel
theorem dX8_print_49 : decode cX8_print 49 = .ok (.aload_n 0, 1) := by decide +kernel
theorem dX8_print_50 : decode cX8_print 50 = .ok (.getfield 46, 3) := by decide +kernel
theorem dX8_print_53 : decode cX8_print 53 = .ok (.putfield 43, 3) := by decide +kernel
theorem dX8_print_56 : decode cX8_print 56 = .ok (.aload_n 0, 1) := by decide +kernel
theorem dX8_print_57 : decode cX8_print 57 = .ok (.aload_n 2, 1) := by decide +kernel
theorem dX8_print_58 : decode cX8_print 58 = .ok (.putfield 46, 3) := by decide +kernel
theorem dX8_print_61 : decode cX8_print 61 = .ok (.aload_n 0, 1) := by decide +kernel
theorem dX8_print_62 : decode cX8_print 62 = .ok (.getfield 43, 3) := by decide +kernel
theorem dX8_print_65 : decode cX8_print 65 = .ok (.invokevirtual 73, 3) := by decide +kernel
theorem dX8_print_68 : decode cX8_print 68 = .ok (.ireturn, 1) := by decide +kernel
theorem dX8_out_0 : decode cX8_out 0 = .ok (.aload_n 0, 1) := by decide +kernel
theorem dX8_out_1 : decode cX8_out 1 = .ok (.getfield 43, 3) := by decide +kernel
theorem dX8_out_4 : decode cX8_out 4 = .ok (.iload_n 1, 1) := by decide +kernel
theorem dX8_out_5 : decode cX8_out 5 = .ok (.invokevirtual 147, 3) := by decide +kernel
theorem dX8_out_8 : decode cX8_out 8 = .ok (.ireturn, 1) := by decide +kernel
theorem dX8_take_0 : decode cX8_take 0 = .ok (.aload_n 0, 1) := by decide +kernel
theorem dX8_take_1 : decode cX8_take 1 = .ok (.getfield 43, 3) := by decide +kernel
theorem dX8_take_4 : decode cX8_take 4 = .ok (.invokevirtual 73, 3) := by decide +kernel
theorem dX8_take_7 : decode cX8_take 7 = .ok (.sipush 2000, 3) := by decide +kernel
theorem dX8_take_10 : decode cX8_take 10 = .ok (.if_icmp .le 6, 3) := by decide +kernel
theorem dX8_take_13 : decode cX8_take 13 = .ok (.bipush (-3), 2) := by decide +kernel
theorem dX8_take_15 : decode cX8_take 15 = .ok (.ireturn, 1) := by decide +kernel
theorem dX8_take_16 : decode cX8_take 16 = .ok (.aload_n 0, 1) := by decide +kernel
theorem dX8_take_17 : decode cX8_take 17 = .ok (.getfield 14, 3) := by decide +kernel
theorem dX8_take_20 : decode cX8_take 20 = .ok (.aload_n 0, 1) := by decide +kernel
theorem dX8_take_21 : decode cX8_take 21 = .ok (.getfield 43, 3) := by decide +kernel
theorem dX8_take_24 : decode cX8_take 24 = .ok (.invokevirtual 168, 3) := by decide +kernel
theorem dX8_take_27 : decode cX8_take 27 = .ok (.aload_n 0, 1) := by decide +kernel
theorem dX8_take_28 : decode cX8_take 28 = .ok (.getfield 14, 3) := by decide +kernel
theorem dX8_take_31 : decode cX8_take 31 = .ok (.invokevirtual 73, 3) := by decide +kernel
theorem dX8_take_34 : decode cX8_take 34 = .ok (.ireturn, 1) := by decide +kernel
theorem dX8_differences_0 : decode cX8_differences 0 = .ok (.aload_n 0, 1) := by decide +kernel
theorem dX8_differences_1 : decode cX8_differences 1 = .ok (.iload_n 1, 1) := by decide +kernel
theorem dX8_differences_2 : decode cX8_differences 2 = .ok (.invokevirtual 94, 3) := by decide +kernel
theorem dX8_differences_5 : decode cX8_differences 5 = .ok (.ifCond .eq 11, 3) := by decide +kernel
theorem dX8_differences_8 : decode cX8_differences 8 = .ok (.aload_n 0, 1) := by decide +kernel
theorem dX8_differences_9 : decode cX8_differences 9 = .ok (.iload_n 2, 1) := by decide +kernel
theorem dX8_differences_10 : decode cX8_differences 10 = .ok (.invokevirtual 94, 3) := by decide +kernel
theorem dX8_differences_13 : decode cX8_differences 13 = .ok (.ifCond .ne 5, 3) := by decide +kernel
theorem dX8_differences_16 : decode cX8_differences 16 = .ok (.iconst (-1), 1) := by decide +kernel
theorem dX8_differences_17 : decode cX8_differences 17 = .ok (.ireturn, 1) := by decide +kernel
theorem dX8_differences_18 : decode cX8_differences 18 = .ok (.aload_n 0, 1) := by decide +kernel
theorem dX8_differences_19 : decode cX8_differences 19 = .ok (.getfield 39, 3) := by decide +kernel
theorem dX8_differences_22 : decode cX8_differences 22 = .ok (.aload_n 0, 1) := by decide +kernel
theorem dX8_differences_23 : decode cX8_differences 23 = .ok (.getfield 32, 3) := by decide +kernel
theorem dX8_differences_26 : decode cX8_differences 26 = .ok (.iload_n 1, 1) := by decide +kernel
theorem dX8_differences_27 : decode cX8_differences 27 = .ok (.aaload, 1) := by decide +kernel
theorem dX8_differences_28 : decode cX8_differences 28 = .ok (.aload_n 0, 1) := by decide +kernel
theorem dX8_differences_29 : decode cX8_differences 29 = .ok (.getfield 32, 3) := by decide +kernel
theorem dX8_differences_32 : decode cX8_differences 32 = .ok (.iload_n 2, 1) := by decide +kernel
theorem dX8_differences_33 : decode cX8_differences 33 = .ok (.aaload, 1) := by decide +kernel
theorem dX8_differences_34 : decode cX8_differences 34 = .ok (.invokevirtual 171, 3) := by decide +kernel
theorem dX8_differences_37 : decode cX8_differences 37 = .ok (.aload_n 0, 1) := by decide +kernel
theorem dX8_differences_38 : decode cX8_differences 38 = .ok (.getfield 39, 3) := by decide +kernel
theorem dX8_differences_41 : decode cX8_differences 41 = .ok (.getfield 175, 3) := by decide +kernel
theorem dX8_differences_44 : decode cX8_differences 44 = .ok (.ireturn, 1) := by decide +kernel
theorem dX8_difference_0 : decode cX8_difference 0 = .ok (.aload_n 0, 1) := by decide +kernel
theorem dX8_difference_1 : decode cX8_difference 1 = .ok (.iload_n 1, 1) := by decide +kernel
theorem dX8_difference_2 : decode cX8_difference 2 = .ok (.iload_n 2, 1) := by decide +kernel
theorem dX8_difference_3 : decode cX8_difference 3 = .ok (.invokevirtual 177, 3) := by decide +kernel
theorem dX8_difference_6 : decode cX8_difference 6 = .ok (.istore 5, 2) := by decide +kernel
theorem dX8_difference_8 : decode cX8_difference 8 = .ok (.iload 5, 2) := by decide +kernel
theorem dX8_difference_10 : decode cX8_difference 10 = .ok (.ifCond .lt 13, 3) := by decide +kernel
theorem dX8_difference_13 : decode cX8_difference 13 = .ok (.iload_n 3, 1) := by decide +kernel
theorem dX8_difference_14 : decode cX8_difference 14 = .ok (.ifCond .lt 9, 3) := by decide +kernel
theorem dX8_difference_17 : decode cX8_difference 17 = .ok (.iload_n 3, 1) := by decide +kernel
theorem dX8_difference_18 : decode cX8_difference 18 = .ok (.iload 5, 2) := by decide +kernel
theorem dX8_difference_20 : decode cX8_difference 20 = .ok (.if_icmp .lt 5, 3) := by decide +kernel
theorem dX8_difference_23 : decode cX8_difference 23 = .ok (.iconst (-1), 1) := by decide +kernel
theorem dX8_difference_24 : decode cX8_difference 24 = .ok (.ireturn, 1) := by decide +kernel
theorem dX8_difference_25 : decode cX8_difference 25 = .ok (.iload 4, 2) := by decide +kernel
theorem dX8_difference_27 : decode cX8_difference 27 = .ok (.tableswitch 55 0 2 #[25, 35, 45], 25) := by decide +kernel
theorem dX8_difference_52 : decode cX8_difference 52 = .ok (.aload_n 0, 1) := by decide +kernel
theorem dX8_difference_53 : decode cX8_difference 53 = .ok (.getfield 39, 3) := by decide +kernel
theorem dX8_difference_56 : decode cX8_difference 56 = .ok (.getfield 180, 3) := by decide +kernel
theorem dX8_difference_59 : decode cX8_difference 59 = .ok (.iload_n 3, 1) := by decide +kernel
theorem dX8_difference_60 : decode cX8_difference 60 = .ok (.iaload, 1) := by decide +kernel
theorem dX8_difference_61 : decode cX8_difference 61 = .ok (.ireturn, 1) := by decide +kernel
theorem dX8_difference_62 : decode cX8_difference 62 = .ok (.aload_n 0, 1) := by decide +kernel
theorem dX8_difference_63 : decode cX8_difference 63 = .ok (.getfield 39, 3) := by decide +kernel
theorem dX8_difference_66 : decode cX8_difference 66 = .ok (.getfield 184, 3) := by decide +kernel
theorem dX8_difference_69 : decode cX8_difference 69 = .ok (.iload_n 3, 1) := by decide +kernel
theorem dX8_difference_70 : decode cX8_difference 70 = .ok (.iaload, 1) := by decide +kernel
theorem dX8_difference_71 : decode cX8_difference 71 = .ok (.ireturn, 1) := by decide +kernel
theorem dX8_difference_72 : decode cX8_difference 72 = .ok (.aload_n 0, 1) := by decide +kernel
theorem dX8_difference_73 : decode cX8_difference 73 = .ok (.getfield 39, 3) := by decide +kernel
theorem dX8_difference_76 : decode cX8_difference 76 = .ok (.getfield 187, 3) := by decide +kernel
theorem dX8_difference_79 : decode cX8_difference 79 = .ok (.iload_n 3, 1) := by decide +kernel
theorem dX8_difference_80 : decode cX8_difference 80 = .ok (.iaload, 1) := by decide +kernel
theorem dX8_difference_81 : decode cX8_difference 81 = .ok (.ireturn, 1) := by decide +kernel
theorem dX8_difference_82 : decode cX8_difference 82 = .ok (.iconst (-1), 1) := by decide +kernel
theorem dX8_difference_83 : decode cX8_difference 83 = .ok (.ireturn, 1) := by decide +kernel
theorem dX8_told_0 : decode cX8_told 0 = .ok (.iload_n 2, 1) := by decide +kernel
theorem dX8_told_1 : decode cX8_told 1 = .ok (.tableswitch 48 0 2 #[27, 32, 40], 27) := by decide +kernel
theorem dX8_told_28 : decode cX8_told 28 = .ok (.aload_n 0, 1) := by decide +kernel
theorem dX8_told_29 : decode cX8_told 29 = .ok (.getfield 49, 3) := by decide +kernel
theorem dX8_told_32 : decode cX8_told 32 = .ok (.ireturn, 1) := by decide +kernel
theorem dX8_told_33 : decode cX8_told 33 = .ok (.aload_n 0, 1) := by decide +kernel
theorem dX8_told_34 : decode cX8_told 34 = .ok (.getfield 14, 3) := by decide +kernel
theorem dX8_told_37 : decode cX8_told 37 = .ok (.invokevirtual 73, 3) := by decide +kernel
theorem dX8_told_40 : decode cX8_told 40 = .ok (.ireturn, 1) := by decide +kernel
theorem dX8_told_41 : decode cX8_told 41 = .ok (.aload_n 0, 1) := by decide +kernel
theorem dX8_told_42 : decode cX8_told 42 = .ok (.getfield 43, 3) := by decide +kernel
theorem dX8_told_45 : decode cX8_told 45 = .ok (.invokevirtual 73, 3) := by decide +kernel
theorem dX8_told_48 : decode cX8_told 48 = .ok (.ireturn, 1) := by decide +kernel
theorem dX8_told_49 : decode cX8_told 49 = .ok (.aload_n 0, 1) := by decide +kernel
theorem dX8_told_50 : decode cX8_told 50 = .ok (.iload_n 1, 1) := by decide +kernel
theorem dX8_told_51 : decode cX8_told 51 = .ok (.invokevirtual 94, 3) := by decide +kernel
theorem dX8_told_54 : decode cX8_told 54 = .ok (.ifCond .eq 16, 3) := by decide +kernel
theorem dX8_told_57 : decode cX8_told 57 = .ok (.aload_n 0, 1) := by decide +kernel
theorem dX8_told_58 : decode cX8_told 58 = .ok (.getfield 32, 3) := by decide +kernel
theorem dX8_told_61 : decode cX8_told 61 = .ok (.iload_n 1, 1) := by decide +kernel
theorem dX8_told_62 : decode cX8_told 62 = .ok (.aaload, 1) := by decide +kernel
theorem dX8_told_63 : decode cX8_told 63 = .ok (.iload_n 2, 1) := by decide +kernel
theorem dX8_told_64 : decode cX8_told 64 = .ok (.invokestatic 190, 3) := by decide +kernel
theorem dX8_told_67 : decode cX8_told 67 = .ok (.goto 4, 3) := by decide +kernel
theorem dX8_told_70 : decode cX8_told 70 = .ok (.iconst (-1), 1) := by decide +kernel
theorem dX8_told_71 : decode cX8_told 71 = .ok (.ireturn, 1) := by decide +kernel
theorem dX8_toldOf_0 : decode cX8_toldOf 0 = .ok (.iload_n 1, 1) := by decide +kernel
theorem dX8_toldOf_1 : decode cX8_toldOf 1 = .ok (.tableswitch 51 3 6 #[31, 36, 41, 46], 31) := by decide +kernel
theorem dX8_toldOf_32 : decode cX8_toldOf 32 = .ok (.aload_n 0, 1) := by decide +kernel
theorem dX8_toldOf_33 : decode cX8_toldOf 33 = .ok (.getfield 194, 3) := by decide +kernel
theorem dX8_toldOf_36 : decode cX8_toldOf 36 = .ok (.ireturn, 1) := by decide +kernel
theorem dX8_toldOf_37 : decode cX8_toldOf 37 = .ok (.aload_n 0, 1) := by decide +kernel
theorem dX8_toldOf_38 : decode cX8_toldOf 38 = .ok (.getfield 197, 3) := by decide +kernel
theorem dX8_toldOf_41 : decode cX8_toldOf 41 = .ok (.ireturn, 1) := by decide +kernel
theorem dX8_toldOf_42 : decode cX8_toldOf 42 = .ok (.aload_n 0, 1) := by decide +kernel
theorem dX8_toldOf_43 : decode cX8_toldOf 43 = .ok (.getfield 200, 3) := by decide +kernel
theorem dX8_toldOf_46 : decode cX8_toldOf 46 = .ok (.ireturn, 1) := by decide +kernel
theorem dX8_toldOf_47 : decode cX8_toldOf 47 = .ok (.aload_n 0, 1) := by decide +kernel
theorem dX8_toldOf_48 : decode cX8_toldOf 48 = .ok (.invokevirtual 203, 3) := by decide +kernel
theorem dX8_toldOf_51 : decode cX8_toldOf 51 = .ok (.ireturn, 1) := by decide +kernel
theorem dX8_toldOf_52 : decode cX8_toldOf 52 = .ok (.iconst (-1), 1) := by decide +kernel
theorem dX8_toldOf_53 : decode cX8_toldOf 53 = .ok (.ireturn, 1) := by decide +kernel
theorem dX8_isVersion_0 : decode cX8_isVersion 0 = .ok (.iload_n 1, 1) := by decide +kernel
theorem dX8_isVersion_1 : decode cX8_isVersion 1 = .ok (.ifCond .lt 15, 3) := by decide +kernel
theorem dX8_isVersion_4 : decode cX8_isVersion 4 = .ok (.iload_n 1, 1) := by decide +kernel
theorem dX8_isVersion_5 : decode cX8_isVersion 5 = .ok (.aload_n 0, 1) := by decide +kernel
theorem dX8_isVersion_6 : decode cX8_isVersion 6 = .ok (.getfield 49, 3) := by decide +kernel
theorem dX8_isVersion_9 : decode cX8_isVersion 9 = .ok (.if_icmp .ge 7, 3) := by decide +kernel
theorem dX8_isVersion_12 : decode cX8_isVersion 12 = .ok (.iconst 1, 1) := by decide +kernel
theorem dX8_isVersion_13 : decode cX8_isVersion 13 = .ok (.goto 4, 3) := by decide +kernel
theorem dX8_isVersion_16 : decode cX8_isVersion 16 = .ok (.iconst 0, 1) := by decide +kernel
theorem dX8_isVersion_17 : decode cX8_isVersion 17 = .ok (.ireturn, 1) := by decide +kernel
theorem dX8_isField_0 : decode cX8_isField 0 = .ok (.aload_n 0, 1) := by decide +kernel
theorem dX8_isField_1 : decode cX8_isField 1 = .ok (.iload_n 1, 1) := by decide +kernel
theorem dX8_isField_2 : decode cX8_isField 2 = .ok (.invokevirtual 94, 3) := by decide +kernel
theorem dX8_isField_5 : decode cX8_isField 5 = .ok (.ifCond .eq 24, 3) := by decide +kernel
theorem dX8_isField_8 : decode cX8_isField 8 = .ok (.iload_n 2, 1) := by decide +kernel
theorem dX8_isField_9 : decode cX8_isField 9 = .ok (.ifCond .lt 20, 3) := by decide +kernel
theorem dX8_isField_12 : decode cX8_isField 12 = .ok (.iload_n 2, 1) := by decide +kernel
theorem dX8_isField_13 : decode cX8_isField 13 = .ok (.aload_n 0, 1) := by decide +kernel
theorem dX8_isField_14 : decode cX8_isField 14 = .ok (.getfield 32, 3) := by decide +kernel
theorem dX8_isField_17 : decode cX8_isField 17 = .ok (.iload_n 1, 1) := by decide +kernel
theorem dX8_isField_18 : decode cX8_isField 18 = .ok (.aaload, 1) := by decide +kernel
theorem dX8_isField_19 : decode cX8_isField 19 = .ok (.getfield 194, 3) := by decide +kernel
theorem dX8_isField_22 : decode cX8_isField 22 = .ok (.if_icmp .ge 7, 3) := by decide +kernel
theorem dX8_isField_25 : decode cX8_isField 25 = .ok (.iconst 1, 1) := by decide +kernel
theorem dX8_isField_26 : decode cX8_isField 26 = .ok (.goto 4, 3) := by decide +kernel
theorem dX8_isField_29 : decode cX8_isField 29 = .ok (.iconst 0, 1) := by decide +kernel
theorem dX8_isField_30 : decode cX8_isField 30 = .ok (.ireturn, 1) := by decide +kernel
theorem dX8_isMet_0 : decode cX8_isMet 0 = .ok (.iload_n 0, 1) := by decide +kernel
theorem dX8_isMet_1 : decode cX8_isMet 1 = .ok (.ifCond .lt 12, 3) := by decide +kernel
theorem dX8_isMet_4 : decode cX8_isMet 4 = .ok (.iload_n 0, 1) := by decide +kernel
theorem dX8_isMet_5 : decode cX8_isMet 5 = .ok (.iconst 3, 1) := by decide +kernel
theorem dX8_isMet_6 : decode cX8_isMet 6 = .ok (.if_icmp .gt 7, 3) := by decide +kernel
theorem dX8_isMet_9 : decode cX8_isMet 9 = .ok (.iconst 1, 1) := by decide +kernel
theorem dX8_isMet_10 : decode cX8_isMet 10 = .ok (.goto 4, 3) := by decide +kernel
theorem dX8_isMet_13 : decode cX8_isMet 13 = .ok (.iconst 0, 1) := by decide +kernel
theorem dX8_isMet_14 : decode cX8_isMet 14 = .ok (.ireturn, 1) := by decide +kernel
theorem dX8_keep_0 : decode cX8_keep 0 = .ok (.aload_n 1, 1) := by decide +kernel
theorem dX8_keep_1 : decode cX8_keep 1 = .ok (.invokevirtual 206, 3) := by decide +kernel
theorem dX8_keep_4 : decode cX8_keep 4 = .ok (.aload_n 0, 1) := by decide +kernel
theorem dX8_keep_5 : decode cX8_keep 5 = .ok (.dup, 1) := by decide +kernel
theorem dX8_keep_6 : decode cX8_keep 6 = .ok (.getfield 49, 3) := by decide +kernel
theorem dX8_keep_9 : decode cX8_keep 9 = .ok (.iconst 1, 1) := by decide +kernel
theorem dX8_keep_10 : decode cX8_keep 10 = .ok (.iadd, 1) := by decide +kernel
theorem dX8_keep_11 : decode cX8_keep 11 = .ok (.putfield 49, 3) := by decide +kernel
theorem dX8_keep_14 : decode cX8_keep 14 = .ok (.aload_n 0, 1) := by decide +kernel
theorem dX8_keep_15 : decode cX8_keep 15 = .ok (.getfield 49, 3) := by decide +kernel
theorem dX8_keep_18 : decode cX8_keep 18 = .ok (.iconst 1, 1) := by decide +kernel
theorem dX8_keep_19 : decode cX8_keep 19 = .ok (.isub, 1) := by decide +kernel
theorem dX8_keep_20 : decode cX8_keep 20 = .ok (.ireturn, 1) := by decide +kernel
theorem dX8_takePath_0 : decode cX8_takePath 0 = .ok (.aload_n 0, 1) := by decide +kernel
theorem dX8_takePath_1 : decode cX8_takePath 1 = .ok (.getfield 26, 3) := by decide +kernel
theorem dX8_takePath_4 : decode cX8_takePath 4 = .ok (.invokevirtual 209, 3) := by decide +kernel
theorem dX8_takePath_7 : decode cX8_takePath 7 = .ok (.iconst (-1), 1) := by decide +kernel
theorem dX8_takePath_8 : decode cX8_takePath 8 = .ok (.if_icmp .ne 17, 3) := by decide +kernel
theorem dX8_takePath_11 : decode cX8_takePath 11 = .ok (.aload_n 0, 1) := by decide +kernel
theorem dX8_takePath_12 : decode cX8_takePath 12 = .ok (.getfield 26, 3) := by decide +kernel
theorem dX8_takePath_15 : decode cX8_takePath 15 = .ok (.invokevirtual 212, 3) := by decide +kernel
theorem dX8_takePath_18 : decode cX8_takePath 18 = .ok (.ifCond .eq 7, 3) := by decide +kernel
theorem dX8_takePath_21 : decode cX8_takePath 21 = .ok (.iconst 1, 1) := by decide +kernel
theorem dX8_takePath_22 : decode cX8_takePath 22 = .ok (.goto 4, 3) := by decide +kernel
theorem dX8_takePath_25 : decode cX8_takePath 25 = .ok (.iconst 0, 1) := by decide +kernel
theorem dX8_takePath_26 : decode cX8_takePath 26 = .ok (.istore_n 1, 1) := by decide +kernel
theorem dX8_takePath_27 : decode cX8_takePath 27 = .ok (.aload_n 0, 1) := by decide +kernel
theorem dX8_takePath_28 : decode cX8_takePath 28 = .ok (.getfield 18, 3) := by decide +kernel
theorem dX8_takePath_31 : decode cX8_takePath 31 = .ok (.invokevirtual 77, 3) := by decide +kernel
theorem dX8_takePath_34 : decode cX8_takePath 34 = .ok (.iload_n 1, 1) := by decide +kernel
theorem dX8_takePath_35 : decode cX8_takePath 35 = .ok (.ifCond .eq 15, 3) := by decide +kernel
theorem dX8_takePath_38 : decode cX8_takePath 38 = .ok (.aload_n 0, 1) := by decide +kernel
theorem dX8_takePath_39 : decode cX8_takePath 39 = .ok (.getfield 26, 3) := by decide +kernel
theorem dX8_takePath_42 : decode cX8_takePath 42 = .ok (.iconst 0, 1) := by decide +kernel
theorem dX8_takePath_43 : decode cX8_takePath 43 = .ok (.aload_n 0, 1) := by decide +kernel
theorem dX8_takePath_44 : decode cX8_takePath 44 = .ok (.getfield 18, 3) := by decide +kernel
theorem dX8_takePath_47 : decode cX8_takePath 47 = .ok (.invokevirtual 215, 3) := by decide +kernel
theorem dX8_takePath_50 : decode cX8_takePath 50 = .ok (.aload_n 0, 1) := by decide +kernel
theorem dX8_takePath_51 : decode cX8_takePath 51 = .ok (.getfield 14, 3) := by decide +kernel
theorem dX8_takePath_54 : decode cX8_takePath 54 = .ok (.invokevirtual 77, 3) := by decide +kernel
theorem dX8_takePath_57 : decode cX8_takePath 57 = .ok (.iload_n 1, 1) := by decide +kernel
theorem dX8_takePath_58 : decode cX8_takePath 58 = .ok (.ifCond .eq 17, 3) := by decide +kernel
theorem dX8_takePath_61 : decode cX8_takePath 61 = .ok (.aload_n 0, 1) := by decide +kernel
theorem dX8_takePath_62 : decode cX8_takePath 62 = .ok (.getfield 18, 3) := by decide +kernel
theorem dX8_takePath_65 : decode cX8_takePath 65 = .ok (.invokevirtual 165, 3) := by decide +kernel
theorem dX8_takePath_68 : decode cX8_takePath 68 = .ok (.ifCond .ne 7, 3) := by decide +kernel
theorem dX8_takePath_71 : decode cX8_takePath 71 = .ok (.iconst 1, 1) := by decide +kernel
theorem dX8_takePath_72 : decode cX8_takePath 72 = .ok (.goto 4, 3) := by decide +kernel
theorem dX8_takePath_75 : decode cX8_takePath 75 = .ok (.iconst 0, 1) := by decide +kernel
theorem dX8_takePath_76 : decode cX8_takePath 76 = .ok (.ireturn, 1) := by decide +kernel
theorem dX8_growByPath_0 : decode cX8_growByPath 0 = .ok (.aload_n 0, 1) := by decide +kernel
theorem dX8_growByPath_1 : decode cX8_growByPath 1 = .ok (.getfield 32, 3) := by decide +kernel
theorem dX8_growByPath_4 : decode cX8_growByPath 4 = .ok (.iload_n 1, 1) := by decide +kernel
theorem dX8_growByPath_5 : decode cX8_growByPath 5 = .ok (.aaload, 1) := by decide +kernel
theorem dX8_growByPath_6 : decode cX8_growByPath 6 = .ok (.astore_n 3, 1) := by decide +kernel
theorem dX8_growByPath_7 : decode cX8_growByPath 7 = .ok (.aload_n 3, 1) := by decide +kernel
theorem dX8_growByPath_8 : decode cX8_growByPath 8 = .ok (.aload_n 0, 1) := by decide +kernel
theorem dX8_growByPath_9 : decode cX8_growByPath 9 = .ok (.getfield 18, 3) := by decide +kernel
theorem dX8_growByPath_12 : decode cX8_growByPath 12 = .ok (.aload_n 0, 1) := by decide +kernel
theorem dX8_growByPath_13 : decode cX8_growByPath 13 = .ok (.getfield 18, 3) := by decide +kernel
theorem dX8_growByPath_16 : decode cX8_growByPath 16 = .ok (.invokevirtual 73, 3) := by decide +kernel
theorem dX8_growByPath_19 : decode cX8_growByPath 19 = .ok (.invokevirtual 104, 3) := by decide +kernel
theorem dX8_growByPath_22 : decode cX8_growByPath 22 = .ok (.ifCond .lt 5, 3) := by decide +kernel
theorem dX8_growByPath_25 : decode cX8_growByPath 25 = .ok (.iload_n 1, 1) := by decide +kernel
theorem dX8_growByPath_26 : decode cX8_growByPath 26 = .ok (.ireturn, 1) := by decide +kernel
theorem dX8_growByPath_27 : decode cX8_growByPath 27 = .ok (.aload_n 3, 1) := by decide +kernel
theorem dX8_growByPath_28 : decode cX8_growByPath 28 = .ok (.aload_n 0, 1) := by decide +kernel
theorem dX8_growByPath_29 : decode cX8_growByPath 29 = .ok (.getfield 18, 3) := by decide +kernel
theorem dX8_growByPath_32 : decode cX8_growByPath 32 = .ok (.iload_n 2, 1) := by decide +kernel
theorem dX8_growByPath_33 : decode cX8_growByPath 33 = .ok (.invokevirtual 219, 3) := by decide +kernel
theorem dX8_growByPath_36 : decode cX8_growByPath 36 = .ok (.istore 4, 2) := by decide +kernel
theorem dX8_growByPath_38 : decode cX8_growByPath 38 = .ok (.iload 4, 2) := by decide +kernel
theorem dX8_growByPath_40 : decode cX8_growByPath 40 = .ok (.ifCond .ge 6, 3) := by decide +kernel
theorem dX8_growByPath_43 : decode cX8_growByPath 43 = .ok (.bipush (-2), 2) := by decide +kernel
theorem dX8_growByPath_45 : decode cX8_growByPath 45 = .ok (.ireturn, 1) := by decide +kernel
theorem dX8_growByPath_46 : decode cX8_growByPath 46 = .ok (.aload_n 0, 1) := by decide +kernel
theorem dX8_growByPath_47 : decode cX8_growByPath 47 = .ok (.getfield 49, 3) := by decide +kernel
theorem dX8_growByPath_50 : decode cX8_growByPath 50 = .ok (.bipush 8, 2) := by decide +kernel
theorem dX8_growByPath_52 : decode cX8_growByPath 52 = .ok (.if_icmp .lt 6, 3) := by decide +kernel
theorem dX8_growByPath_55 : decode cX8_growByPath 55 = .ok (.bipush (-3), 2) := by decide +kernel
theorem dX8_growByPath_57 : decode cX8_growByPath 57 = .ok (.ireturn, 1) := by decide +kernel
theorem dX8_growByPath_58 : decode cX8_growByPath 58 = .ok (.aload_n 0, 1) := by decide +kernel
theorem dX8_growByPath_59 : decode cX8_growByPath 59 = .ok (.getfield 32, 3) := by decide +kernel
theorem dX8_growByPath_62 : decode cX8_growByPath 62 = .ok (.aload_n 0, 1) := by decide +kernel
theorem dX8_growByPath_63 : decode cX8_growByPath 63 = .ok (.getfield 49, 3) := by decide +kernel
theorem dX8_growByPath_66 : decode cX8_growByPath 66 = .ok (.aaload, 1) := by decide +kernel
theorem dX8_growByPath_67 : decode cX8_growByPath 67 = .ok (.astore 5, 2) := by decide +kernel
theorem dX8_growByPath_69 : decode cX8_growByPath 69 = .ok (.aload 5, 2) := by decide +kernel
theorem dX8_growByPath_71 : decode cX8_growByPath 71 = .ok (.aload_n 3, 1) := by decide +kernel
theorem dX8_growByPath_72 : decode cX8_growByPath 72 = .ok (.aload_n 0, 1) := by decide +kernel
theorem dX8_growByPath_73 : decode cX8_growByPath 73 = .ok (.getfield 18, 3) := by decide +kernel
theorem dX8_growByPath_76 : decode cX8_growByPath 76 = .ok (.iload 4, 2) := by decide +kernel
theorem dX8_growByPath_78 : decode cX8_growByPath 78 = .ok (.invokevirtual 222, 3) := by decide +kernel
theorem dX8_growByPath_81 : decode cX8_growByPath 81 = .ok (.aload_n 0, 1) := by decide +kernel
theorem dX8_growByPath_82 : decode cX8_growByPath 82 = .ok (.aload 5, 2) := by decide +kernel
theorem dX8_growByPath_84 : decode cX8_growByPath 84 = .ok (.invokevirtual 87, 3) := by decide +kernel
theorem dX8_growByPath_87 : decode cX8_growByPath 87 = .ok (.ireturn, 1) := by decide +kernel
theorem dX9_init_0 : decode cX9_init 0 = .ok (.aload_n 0, 1) := by decide +kernel
theorem dX9_init_1 : decode cX9_init 1 = .ok (.invokespecial 1, 3) := by decide +kernel
theorem dX9_init_4 : decode cX9_init 4 = .ok (.aload_n 0, 1) := by decide +kernel
theorem dX9_init_5 : decode cX9_init 5 = .ok (.bipush 8, 2) := by decide +kernel
theorem dX9_init_7 : decode cX9_init 7 = .ok (.newarray .long, 2) := by decide +kernel
theorem dX9_init_9 : decode cX9_init 9 = .ok (.dup, 1) := by decide +kernel
theorem dX9_init_10 : decode cX9_init 10 = .ok (.iconst 0, 1) := by decide +kernel
theorem dX9_init_11 : decode cX9_init 11 = .ok (.ldc2_w 7, 3) := by decide +kernel
theorem dX9_init_14 : decode cX9_init 14 = .ok (.lastore, 1) := by decide +kernel
theorem dX9_init_15 : decode cX9_init 15 = .ok (.dup, 1) := by decide +kernel
theorem dX9_init_16 : decode cX9_init 16 = .ok (.iconst 1, 1) := by decide +kernel
theorem dX9_init_17 : decode cX9_init 17 = .ok (.ldc2_w 9, 3) := by decide +kernel
theorem dX9_init_20 : decode cX9_init 20 = .ok (.lastore, 1) := by decide +kernel
theorem dX9_init_21 : decode cX9_init 21 = .ok (.dup, 1) := by decide +kernel
theorem dX9_init_22 : decode cX9_init 22 = .ok (.iconst 2, 1) := by decide +kernel
theorem dX9_init_23 : decode cX9_init 23 = .ok (.ldc2_w 11, 3) := by decide +kernel
theorem dX9_init_26 : decode cX9_init 26 = .ok (.lastore, 1) := by decide +kernel
theorem dX9_init_27 : decode cX9_init 27 = .ok (.dup, 1) := by decide +kernel
theorem dX9_init_28 : decode cX9_init 28 = .ok (.iconst 3, 1) := by decide +kernel
theorem dX9_init_29 : decode cX9_init 29 = .ok (.ldc2_w 13, 3) := by decide +kernel
theorem dX9_init_32 : decode cX9_init 32 = .ok (.lastore, 1) := by decide +kernel
theorem dX9_init_33 : decode cX9_init 33 = .ok (.dup, 1) := by decide +kernel
theorem dX9_init_34 : decode cX9_init 34 = .ok (.iconst 4, 1) := by decide +kernel
theorem dX9_init_35 : decode cX9_init 35 = .ok (.ldc2_w 15, 3) := by decide +kernel
theorem dX9_init_38 : decode cX9_init 38 = .ok (.lastore, 1) := by decide +kernel
theorem dX9_init_39 : decode cX9_init 39 = .ok (.dup, 1) := by decide +kernel
theorem dX9_init_40 : decode cX9_init 40 = .ok (.iconst 5, 1) := by decide +kernel
theorem dX9_init_41 : decode cX9_init 41 = .ok (.ldc2_w 17, 3) := by decide +kernel
theorem dX9_init_44 : decode cX9_init 44 = .ok (.lastore, 1) := by decide +kernel
theorem dX9_init_45 : decode cX9_init 45 = .ok (.dup, 1) := by decide +kernel
theorem dX9_init_46 : decode cX9_init 46 = .ok (.bipush 6, 2) := by decide +kernel
theorem dX9_init_48 : decode cX9_init 48 = .ok (.ldc2_w 19, 3) := by decide +kernel
theorem dX9_init_51 : decode cX9_init 51 = .ok (.lastore, 1) := by decide +kernel
theorem dX9_init_52 : decode cX9_init 52 = .ok (.dup, 1) := by decide +kernel
theorem dX9_init_53 : decode cX9_init 53 = .ok (.bipush 7, 2) := by decide +kernel
theorem dX9_init_55 : decode cX9_init 55 = .ok (.ldc2_w 21, 3) := by decide +kernel
theorem dX9_init_58 : decode cX9_init 58 = .ok (.lastore, 1) := by decide +kernel
theorem dX9_init_59 : decode cX9_init 59 = .ok (.putfield 23, 3) := by decide +kernel
theorem dX9_init_62 : decode cX9_init 62 = .ok (.aload_n 0, 1) := by decide +kernel
theorem dX9_init_63 : decode cX9_init 63 = .ok (.bipush 7, 2) := by decide +kernel
theorem dX9_init_65 : decode cX9_init 65 = .ok (.newarray .long, 2) := by decide +kernel
theorem dX9_init_67 : decode cX9_init 67 = .ok (.dup, 1) := by decide +kernel
theorem dX9_init_68 : decode cX9_init 68 = .ok (.iconst 0, 1) := by decide +kernel
theorem dX9_init_69 : decode cX9_init 69 = .ok (.ldc2_w 29, 3) := by decide +kernel
theorem dX9_init_72 : decode cX9_init 72 = .ok (.lastore, 1) := by decide +kernel
theorem dX9_init_73 : decode cX9_init 73 = .ok (.dup, 1) := by decide +kernel
theorem dX9_init_74 : decode cX9_init 74 = .ok (.iconst 1, 1) := by decide +kernel
theorem dX9_init_75 : decode cX9_init 75 = .ok (.ldc2_w 31, 3) := by decide +kernel
theorem dX9_init_78 : decode cX9_init 78 = .ok (.lastore, 1) := by decide +kernel
theorem dX9_init_79 : decode cX9_init 79 = .ok (.dup, 1) := by decide +kernel
theorem dX9_init_80 : decode cX9_init 80 = .ok (.iconst 2, 1) := by decide +kernel
theorem dX9_init_81 : decode cX9_init 81 = .ok (.ldc2_w 33, 3) := by decide +kernel
theorem dX9_init_84 : decode cX9_init 84 = .ok (.lastore, 1) := by decide +kernel
theorem dX9_init_85 : decode cX9_init 85 = .ok (.dup, 1) := by decide +kernel
theorem dX9_init_86 : decode cX9_init 86 = .ok (.iconst 3, 1) := by decide +kernel
theorem dX9_init_87 : decode cX9_init 87 = .ok (.ldc2_w 35, 3) := by decide +kernel
theorem dX9_init_90 : decode cX9_init 90 = .ok (.lastore, 1) := by decide +kernel
theorem dX9_init_91 : decode cX9_init 91 = .ok (.dup, 1) := by decide +kernel
theorem dX9_init_92 : decode cX9_init 92 = .ok (.iconst 4, 1) := by decide +kernel
theorem dX9_init_93 : decode cX9_init 93 = .ok (.ldc2_w 37, 3) := by decide +kernel
theorem dX9_init_96 : decode cX9_init 96 = .ok (.lastore, 1) := by decide +kernel
theorem dX9_init_97 : decode cX9_init 97 = .ok (.dup, 1) := by decide +kernel
theorem dX9_init_98 : decode cX9_init 98 = .ok (.iconst 5, 1) := by decide +kernel
theorem dX9_init_99 : decode cX9_init 99 = .ok (.ldc2_w 39, 3) := by decide +kernel
theorem dX9_init_102 : decode cX9_init 102 = .ok (.lastore, 1) := by decide +kernel
theorem dX9_init_103 : decode cX9_init 103 = .ok (.dup, 1) := by decide +kernel
theorem dX9_init_104 : decode cX9_init 104 = .ok (.bipush 6, 2) := by decide +kernel
theorem dX9_init_106 : decode cX9_init 106 = .ok (.ldc2_w 41, 3) := by decide +kernel
theorem dX9_init_109 : decode cX9_init 109 = .ok (.lastore, 1) := by decide +kernel
theorem dX9_init_110 : decode cX9_init 110 = .ok (.putfield 43, 3) := by decide +kernel
theorem dX9_init_113 : decode cX9_init 113 = .ok (.aload_n 0, 1) := by decide +kernel
theorem dX9_init_114 : decode cX9_init 114 = .ok (.sipush 2000, 3) := by decide +kernel
theorem dX9_init_117 : decode cX9_init 117 = .ok (.newarray .byte, 2) := by decide +kernel
theorem dX9_init_119 : decode cX9_init 119 = .ok (.putfield 46, 3) := by decide +kernel
theorem dX9_init_122 : decode cX9_init 122 = .ok (.aload_n 0, 1) := by decide +kernel
theorem dX9_init_123 : decode cX9_init 123 = .ok (.sipush 4000, 3) := by decide +kernel
theorem dX9_init_126 : decode cX9_init 126 = .ok (.newarray .byte, 2) := by decide +kernel
theorem dX9_init_128 : decode cX9_init 128 = .ok (.putfield 50, 3) := by decide +kernel
theorem dX9_init_131 : decode cX9_init 131 = .ok (.aload_n 0, 1) := by decide +kernel
theorem dX9_init_132 : decode cX9_init 132 = .ok (.sipush 20000, 3) := by decide +kernel
theorem dX9_init_135 : decode cX9_init 135 = .ok (.newarray .byte, 2) := by decide +kernel
theorem dX9_init_137 : decode cX9_init 137 = .ok (.putfield 53, 3) := by decide +kernel
theorem dX9_init_140 : decode cX9_init 140 = .ok (.aload_n 0, 1) := by decide +kernel
theorem dX9_init_141 : decode cX9_init 141 = .ok (.bipush (-2), 2) := by decide +kernel
theorem dX9_init_143 : decode cX9_init 143 = .ok (.putfield 56, 3) := by decide +kernel
theorem dX9_init_146 : decode cX9_init 146 = .ok (.aload_n 0, 1) := by decide +kernel
theorem dX9_init_147 : decode cX9_init 147 = .ok (.bipush 8, 2) := by decide +kernel
theorem dX9_init_149 : decode cX9_init 149 = .ok (.newarray .int, 2) := by decide +kernel
theorem dX9_init_151 : decode cX9_init 151 = .ok (.putfield 60, 3) := by decide +kernel
theorem dX9_init_154 : decode cX9_init 154 = .ok (.aload_n 0, 1) := by decide +kernel
theorem dX9_init_155 : decode cX9_init 155 = .ok (.bipush 8, 2) := by decide +kernel
theorem dX9_init_157 : decode cX9_init 157 = .ok (.newarray .int, 2) := by decide +kernel
theorem dX9_init_159 : decode cX9_init 159 = .ok (.putfield 64, 3) := by decide +kernel
theorem dX9_init_162 : decode cX9_init 162 = .ok (.aload_n 0, 1) := by decide +kernel
theorem dX9_init_163 : decode cX9_init 163 = .ok (.bipush 8, 2) := by decide +kernel
theorem dX9_init_165 : decode cX9_init 165 = .ok (.newarray .int, 2) := by decide +kernel
theorem dX9_init_167 : decode cX9_init 167 = .ok (.putfield 67, 3) := by decide +kernel
theorem dX9_init_170 : decode cX9_init 170 = .ok (.aload_n 0, 1) := by decide +kernel
theorem dX9_init_171 : decode cX9_init 171 = .ok (.sipush 320, 3) := by decide +kernel
theorem dX9_init_174 : decode cX9_init 174 = .ok (.newarray .int, 2) := by decide +kernel
theorem dX9_init_176 : decode cX9_init 176 = .ok (.putfield 70, 3) := by decide +kernel
theorem dX9_init_179 : decode cX9_init 179 = .ok (.aload_n 0, 1) := by decide +kernel
theorem dX9_init_180 : decode cX9_init 180 = .ok (.sipush 3840, 3) := by decide +kernel
theorem dX9_init_183 : decode cX9_init 183 = .ok (.newarray .byte, 2) := by decide +kernel
theorem dX9_init_185 : decode cX9_init 185 = .ok (.putfield 73, 3) := by decide +kernel
theorem dX9_init_188 : decode cX9_init 188 = .ok (.aload_n 0, 1) := by decide +kernel
theorem dX9_init_189 : decode cX9_init 189 = .ok (.sipush 320, 3) := by decide +kernel
theorem dX9_init_192 : decode cX9_init 192 = .ok (.newarray .int, 2) := by decide +kernel
theorem dX9_init_194 : decode cX9_init 194 = .ok (.putfield 76, 3) := by decide +kernel
theorem dX9_init_197 : decode cX9_init 197 = .ok (.aload_n 0, 1) := by decide +kernel
theorem dX9_init_198 : decode cX9_init 198 = .ok (.sipush 320, 3) := by decide +kernel
theorem dX9_init_201 : decode cX9_init 201 = .ok (.newarray .int, 2) := by decide +kernel
theorem dX9_init_203 : decode cX9_init 203 = .ok (.putfield 79, 3) := by decide +kernel
theorem dX9_init_206 : decode cX9_init 206 = .ok (.aload_n 0, 1) := by decide +kernel
theorem dX9_init_207 : decode cX9_init 207 = .ok (.sipush 320, 3) := by decide +kernel
theorem dX9_init_210 : decode cX9_init 210 = .ok (.newarray .int, 2) := by decide +kernel
theorem dX9_init_212 : decode cX9_init 212 = .ok (.putfield 82, 3) := by decide +kernel
theorem dX9_init_215 : decode cX9_init 215 = .ok (.aload_n 0, 1) := by decide +kernel
theorem dX9_init_216 : decode cX9_init 216 = .ok (.sipush 320, 3) := by decide +kernel
theorem dX9_init_219 : decode cX9_init 219 = .ok (.newarray .int, 2) := by decide +kernel
theorem dX9_init_221 : decode cX9_init 221 = .ok (.putfield 85, 3) := by decide +kernel
theorem dX9_init_224 : decode cX9_init 224 = .ok (.aload_n 0, 1) := by decide +kernel
theorem dX9_init_225 : decode cX9_init 225 = .ok (.sipush 320, 3) := by decide +kernel
theorem dX9_init_228 : decode cX9_init 228 = .ok (.newarray .int, 2) := by decide +kernel
theorem dX9_init_230 : decode cX9_init 230 = .ok (.putfield 88, 3) := by decide +kernel
theorem dX9_init_233 : decode cX9_init 233 = .ok (.aload_n 0, 1) := by decide +kernel
theorem dX9_init_234 : decode cX9_init 234 = .ok (.sipush 320, 3) := by decide +kernel
theorem dX9_init_237 : decode cX9_init 237 = .ok (.newarray .int, 2) := by decide +kernel
theorem dX9_init_239 : decode cX9_init 239 = .ok (.putfield 91, 3) := by decide +kernel
theorem dX9_init_242 : decode cX9_init 242 = .ok (.aload_n 0, 1) := by decide +kernel
theorem dX9_init_243 : decode cX9_init 243 = .ok (.sipush 3840, 3) := by decide +kernel
theorem dX9_init_246 : decode cX9_init 246 = .ok (.newarray .byte, 2) := by decide +kernel
theorem dX9_init_248 : decode cX9_init 248 = .ok (.putfield 94, 3) := by decide +kernel
theorem dX9_init_251 : decode cX9_init 251 = .ok (.aload_n 0, 1) := by decide +kernel
theorem dX9_init_252 : decode cX9_init 252 = .ok (.sipush 320, 3) := by decide +kernel
theorem dX9_init_255 : decode cX9_init 255 = .ok (.newarray .int, 2) := by decide +kernel
theorem dX9_init_257 : decode cX9_init 257 = .ok (.putfield 97, 3) := by decide +kernel
theorem dX9_init_260 : decode cX9_init 260 = .ok (.aload_n 0, 1) := by decide +kernel
theorem dX9_init_261 : decode cX9_init 261 = .ok (.bipush 64, 2) := by decide +kernel
theorem dX9_init_263 : decode cX9_init 263 = .ok (.newarray .int, 2) := by decide +kernel
theorem dX9_init_265 : decode cX9_init 265 = .ok (.putfield 100, 3) := by decide +kernel
theorem dX9_init_268 : decode cX9_init 268 = .ok (.aload_n 0, 1) := by decide +kernel
theorem dX9_init_269 : decode cX9_init 269 = .ok (.sipush 768, 3) := by decide +kernel
theorem dX9_init_272 : decode cX9_init 272 = .ok (.newarray .byte, 2) := by decide +kernel
theorem dX9_init_274 : decode cX9_init 274 = .ok (.putfield 103, 3) := by decide +kernel
theorem dX9_init_277 : decode cX9_init 277 = .ok (.aload_n 0, 1) := by decide +kernel
theorem dX9_init_278 : decode cX9_init 278 = .ok (.bipush 64, 2) := by decide +kernel
theorem dX9_init_280 : decode cX9_init 280 = .ok (.newarray .boolean, 2) := by decide +kernel
theorem dX9_init_282 : decode cX9_init 282 = .ok (.putfield 106, 3) := by decide +kernel
theorem dX9_init_285 : decode cX9_init 285 = .ok (.aload_n 0, 1) := by decide +kernel
theorem dX9_init_286 : decode cX9_init 286 = .ok (.bipush 64, 2) := by decide +kernel
theorem dX9_init_288 : decode cX9_init 288 = .ok (.newarray .int, 2) := by decide +kernel
theorem dX9_init_290 : decode cX9_init 290 = .ok (.putfield 110, 3) := by decide +kernel
theorem dX9_init_293 : decode cX9_init 293 = .ok (.aload_n 0, 1) := by decide +kernel
theorem dX9_init_294 : decode cX9_init 294 = .ok (.sipush 768, 3) := by decide +kernel
theorem dX9_init_297 : decode cX9_init 297 = .ok (.newarray .byte, 2) := by decide +kernel
theorem dX9_init_299 : decode cX9_init 299 = .ok (.putfield 113, 3) := by decide +kernel
theorem dX9_init_302 : decode cX9_init 302 = .ok (.aload_n 0, 1) := by decide +kernel
theorem dX9_init_303 : decode cX9_init 303 = .ok (.bipush 64, 2) := by decide +kernel
theorem dX9_init_305 : decode cX9_init 305 = .ok (.newarray .int, 2) := by decide +kernel
theorem dX9_init_307 : decode cX9_init 307 = .ok (.putfield 116, 3) := by decide +kernel
theorem dX9_init_310 : decode cX9_init 310 = .ok (.aload_n 0, 1) := by decide +kernel
theorem dX9_init_311 : decode cX9_init 311 = .ok (.sipush 2001, 3) := by decide +kernel
theorem dX9_init_314 : decode cX9_init 314 = .ok (.newarray .int, 2) := by decide +kernel
theorem dX9_init_316 : decode cX9_init 316 = .ok (.putfield 119, 3) := by decide +kernel
theorem dX9_init_319 : decode cX9_init 319 = .ok (.aload_n 0, 1) := by decide +kernel
theorem dX9_init_320 : decode cX9_init 320 = .ok (.sipush 2001, 3) := by decide +kernel
theorem dX9_init_323 : decode cX9_init 323 = .ok (.newarray .int, 2) := by decide +kernel
theorem dX9_init_325 : decode cX9_init 325 = .ok (.putfield 122, 3) := by decide +kernel
theorem dX9_init_328 : decode cX9_init 328 = .ok (.aload_n 0, 1) := by decide +kernel
theorem dX9_init_329 : decode cX9_init 329 = .ok (.sipush 2001, 3) := by decide +kernel
theorem dX9_init_332 : decode cX9_init 332 = .ok (.newarray .int, 2) := by decide +kernel
theorem dX9_init_334 : decode cX9_init 334 = .ok (.putfield 125, 3) := by decide +kernel
theorem dX9_init_337 : decode cX9_init 337 = .ok (.aload_n 0, 1) := by decide +kernel
theorem dX9_init_338 : decode cX9_init 338 = .ok (.sipush 700, 3) := by decide +kernel
theorem dX9_init_341 : decode cX9_init 341 = .ok (.newarray .int, 2) := by decide +kernel
theorem dX9_init_343 : decode cX9_init 343 = .ok (.putfield 128, 3) := by decide +kernel
theorem dX9_init_346 : decode cX9_init 346 = .ok (.aload_n 0, 1) := by decide +kernel
theorem dX9_init_347 : decode cX9_init 347 = .ok (.sipush 700, 3) := by decide +kernel
theorem dX9_init_350 : decode cX9_init 350 = .ok (.newarray .int, 2) := by decide +kernel
theorem dX9_init_352 : decode cX9_init 352 = .ok (.putfield 131, 3) := by decide +kernel
theorem dX9_init_355 : decode cX9_init 355 = .ok (.aload_n 0, 1) := by decide +kernel
theorem dX9_init_356 : decode cX9_init 356 = .ok (.sipush 700, 3) := by decide +kernel
theorem dX9_init_359 : decode cX9_init 359 = .ok (.newarray .int, 2) := by decide +kernel
theorem dX9_init_361 : decode cX9_init 361 = .ok (.putfield 134, 3) := by decide +kernel
theorem dX9_init_364 : decode cX9_init 364 = .ok (.aload_n 0, 1) := by decide +kernel
theorem dX9_init_365 : decode cX9_init 365 = .ok (.sipush 700, 3) := by decide +kernel
theorem dX9_init_368 : decode cX9_init 368 = .ok (.newarray .int, 2) := by decide +kernel
theorem dX9_init_370 : decode cX9_init 370 = .ok (.putfield 137, 3) := by decide +kernel
theorem dX9_init_373 : decode cX9_init 373 = .ok (.aload_n 0, 1) := by decide +kernel
theorem dX9_init_374 : decode cX9_init 374 = .ok (.sipush 700, 3) := by decide +kernel
theorem dX9_init_377 : decode cX9_init 377 = .ok (.newarray .int, 2) := by decide +kernel
theorem dX9_init_379 : decode cX9_init 379 = .ok (.putfield 140, 3) := by decide +kernel
theorem dX9_init_382 : decode cX9_init 382 = .ok (.aload_n 0, 1) := by decide +kernel
theorem dX9_init_383 : decode cX9_init 383 = .ok (.sipush 700, 3) := by decide +kernel
theorem dX9_init_386 : decode cX9_init 386 = .ok (.newarray .int, 2) := by decide +kernel
theorem dX9_init_388 : decode cX9_init 388 = .ok (.putfield 143, 3) := by decide +kernel
theorem dX9_init_391 : decode cX9_init 391 = .ok (.aload_n 0, 1) := by decide +kernel
theorem dX9_init_392 : decode cX9_init 392 = .ok (.bipush 40, 2) := by decide +kernel
theorem dX9_init_394 : decode cX9_init 394 = .ok (.newarray .int, 2) := by decide +kernel
theorem dX9_init_396 : decode cX9_init 396 = .ok (.putfield 146, 3) := by decide +kernel
theorem dX9_init_399 : decode cX9_init 399 = .ok (.aload_n 0, 1) := by decide +kernel
theorem dX9_init_400 : decode cX9_init 400 = .ok (.iconst 5, 1) := by decide +kernel
theorem dX9_init_401 : decode cX9_init 401 = .ok (.newarray .int, 2) := by decide +kernel
theorem dX9_init_403 : decode cX9_init 403 = .ok (.putfield 149, 3) := by decide +kernel
theorem dX9_init_406 : decode cX9_init 406 = .ok (.aload_n 0, 1) := by decide +kernel
theorem dX9_init_407 : decode cX9_init 407 = .ok (.sipush 128, 3) := by decide +kernel
theorem dX9_init_410 : decode cX9_init 410 = .ok (.newarray .byte, 2) := by decide +kernel
theorem dX9_init_412 : decode cX9_init 412 = .ok (.putfield 152, 3) := by decide +kernel
theorem dX9_init_415 : decode cX9_init 415 = .ok (.aload_n 0, 1) := by decide +kernel
theorem dX9_init_416 : decode cX9_init 416 = .ok (.sipush 128, 3) := by decide +kernel
theorem dX9_init_419 : decode cX9_init 419 = .ok (.newarray .byte, 2) := by decide +kernel
theorem dX9_init_421 : decode cX9_init 421 = .ok (.putfield 155, 3) := by decide +kernel
theorem dX9_init_424 : decode cX9_init 424 = .ok (.aload_n 0, 1) := by decide +kernel
theorem dX9_init_425 : decode cX9_init 425 = .ok (.bipush 6, 2) := by decide +kernel
theorem dX9_init_427 : decode cX9_init 427 = .ok (.newarray .int, 2) := by decide +kernel
theorem dX9_init_429 : decode cX9_init 429 = .ok (.putfield 158, 3) := by decide +kernel
theorem dX9_init_432 : decode cX9_init 432 = .ok (.aload_n 0, 1) := by decide +kernel
theorem dX9_init_433 : decode cX9_init 433 = .ok (.bipush 80, 2) := by decide +kernel
theorem dX9_init_435 : decode cX9_init 435 = .ok (.newarray .int, 2) := by decide +kernel
theorem dX9_init_437 : decode cX9_init 437 = .ok (.putfield 161, 3) := by decide +kernel
theorem dX9_init_440 : decode cX9_init 440 = .ok (.aload_n 0, 1) := by decide +kernel
theorem dX9_init_441 : decode cX9_init 441 = .ok (.bipush 80, 2) := by decide +kernel
theorem dX9_init_443 : decode cX9_init 443 = .ok (.newarray .int, 2) := by decide +kernel
theorem dX9_init_445 : decode cX9_init 445 = .ok (.putfield 164, 3) := by decide +kernel
theorem dX9_init_448 : decode cX9_init 448 = .ok (.aload_n 0, 1) := by decide +kernel
theorem dX9_init_449 : decode cX9_init 449 = .ok (.bipush 80, 2) := by decide +kernel
theorem dX9_init_451 : decode cX9_init 451 = .ok (.newarray .int, 2) := by decide +kernel
theorem dX9_init_453 : decode cX9_init 453 = .ok (.putfield 167, 3) := by decide +kernel
theorem dX9_init_456 : decode cX9_init 456 = .ok (.return_, 1) := by decide +kernel
theorem dX9_in_0 : decode cX9_in 0 = .ok (.iload_n 0, 1) := by decide +kernel
theorem dX9_in_1 : decode cX9_in 1 = .ok (.iload_n 1, 1) := by decide +kernel
theorem dX9_in_2 : decode cX9_in 2 = .ok (.if_icmp .lt 12, 3) := by decide +kernel
theorem dX9_in_5 : decode cX9_in 5 = .ok (.iload_n 0, 1) := by decide +kernel
theorem dX9_in_6 : decode cX9_in 6 = .ok (.iload_n 2, 1) := by decide +kernel
theorem dX9_in_7 : decode cX9_in 7 = .ok (.if_icmp .gt 7, 3) := by decide +kernel
theorem dX9_in_10 : decode cX9_in 10 = .ok (.iconst 1, 1) := by decide +kernel
theorem dX9_in_11 : decode cX9_in 11 = .ok (.goto 4, 3) := by decide +kernel
theorem dX9_in_14 : decode cX9_in 14 = .ok (.iconst 0, 1) := by decide +kernel
theorem dX9_in_15 : decode cX9_in 15 = .ok (.ireturn, 1) := by decide +kernel
theorem dX9_isVersion_0 : decode cX9_isVersion 0 = .ok (.iload_n 1, 1) := by decide +kernel
theorem dX9_isVersion_1 : decode cX9_isVersion 1 = .ok (.iconst 0, 1) := by decide +kernel
theorem dX9_isVersion_2 : decode cX9_isVersion 2 = .ok (.aload_n 0, 1) := by decide +kernel
theorem dX9_isVersion_3 : decode cX9_isVersion 3 = .ok (.getfield 170, 3) := by decide +kernel
theorem dX9_isVersion_6 : decode cX9_isVersion 6 = .ok (.iconst 1, 1) := by decide +kernel
theorem dX9_isVersion_7 : decode cX9_isVersion 7 = .ok (.isub, 1) := by decide +kernel
theorem dX9_isVersion_8 : decode cX9_isVersion 8 = .ok (.invokestatic 173, 3) := by decide +kernel
theorem dX9_isVersion_11 : decode cX9_isVersion 11 = .ok (.ireturn, 1) := by decide +kernel
theorem dX9_feed_0 : decode cX9_feed 0 = .ok (.iload_n 1, 1) := by decide +kernel
theorem dX9_feed_1 : decode cX9_feed 1 = .ok (.iconst 1, 1) := by decide +kernel
theorem dX9_feed_2 : decode cX9_feed 2 = .ok (.bipush 8, 2) := by decide +kernel
theorem dX9_feed_4 : decode cX9_feed 4 = .ok (.invokestatic 173, 3) := by decide +kernel
theorem dX9_feed_7 : decode cX9_feed 7 = .ok (.ifCond .ne 5, 3) := by decide +kernel
theorem dX9_feed_10 : decode cX9_feed 10 = .ok (.iconst (-1), 1) := by decide +kernel
theorem dX9_feed_11 : decode cX9_feed 11 = .ok (.ireturn, 1) := by decide +kernel
theorem dX9_feed_12 : decode cX9_feed 12 = .ok (.aload_n 0, 1) := by decide +kernel
theorem dX9_feed_13 : decode cX9_feed 13 = .ok (.getfield 177, 3) := by decide +kernel
theorem dX9_feed_16 : decode cX9_feed 16 = .ok (.iload_n 1, 1) := by decide +kernel
theorem dX9_feed_17 : decode cX9_feed 17 = .ok (.iadd, 1) := by decide +kernel
theorem dX9_feed_18 : decode cX9_feed 18 = .ok (.sipush 2000, 3) := by decide +kernel
theorem dX9_feed_21 : decode cX9_feed 21 = .ok (.if_icmp .le 6, 3) := by decide +kernel
theorem dX9_feed_24 : decode cX9_feed 24 = .ok (.bipush (-3), 2) := by decide +kernel
theorem dX9_feed_26 : decode cX9_feed 26 = .ok (.ireturn, 1) := by decide +kernel
theorem dX9_feed_27 : decode cX9_feed 27 = .ok (.iconst 0, 1) := by decide +kernel
theorem dX9_feed_28 : decode cX9_feed 28 = .ok (.istore 4, 2) := by decide +kernel
theorem dX9_feed_30 : decode cX9_feed 30 = .ok (.iload 4, 2) := by decide +kernel
theorem dX9_feed_32 : decode cX9_feed 32 = .ok (.iload_n 1, 1) := by decide +kernel
theorem dX9_feed_33 : decode cX9_feed 33 = .ok (.if_icmp .ge 37, 3) := by decide +kernel
theorem dX9_feed_36 : decode cX9_feed 36 = .ok (.aload_n 0, 1) := by decide +kernel
theorem dX9_feed_37 : decode cX9_feed 37 = .ok (.getfield 46, 3) := by decide +kernel
theorem dX9_feed_40 : decode cX9_feed 40 = .ok (.aload_n 0, 1) := by decide +kernel
theorem dX9_feed_41 : decode cX9_feed 41 = .ok (.getfield 177, 3) := by decide +kernel
theorem dX9_feed_44 : decode cX9_feed 44 = .ok (.lload_n 2, 1) := by decide +kernel
theorem dX9_feed_45 : decode cX9_feed 45 = .ok (.bipush 8, 2) := by decide +kernel
theorem dX9_feed_47 : decode cX9_feed 47 = .ok (.iload 4, 2) := by decide +kernel
theorem dX9_feed_49 : decode cX9_feed 49 = .ok (.imul, 1) := by decide +kernel
theorem dX9_feed_50 : decode cX9_feed 50 = .ok (.lshr, 1) := by decide +kernel
theorem dX9_feed_51 : decode cX9_feed 51 = .ok (.l2i, 1) := by decide +kernel
theorem dX9_feed_52 : decode cX9_feed 52 = .ok (.i2b, 1) := by decide +kernel
theorem dX9_feed_53 : decode cX9_feed 53 = .ok (.bastore, 1) := by decide +kernel
theorem dX9_feed_54 : decode cX9_feed 54 = .ok (.aload_n 0, 1) := by decide +kernel
theorem dX9_feed_55 : decode cX9_feed 55 = .ok (.dup, 1) := by decide +kernel
theorem dX9_feed_56 : decode cX9_feed 56 = .ok (.getfield 177, 3) := by decide +kernel
theorem dX9_feed_59 : decode cX9_feed 59 = .ok (.iconst 1, 1) := by decide +kernel
theorem dX9_feed_60 : decode cX9_feed 60 = .ok (.iadd, 1) := by decide +kernel
theorem dX9_feed_61 : decode cX9_feed 61 = .ok (.putfield 177, 3) := by decide +kernel
theorem dX9_feed_64 : decode cX9_feed 64 = .ok (.iinc 4 1, 3) := by decide +kernel
theorem dX9_feed_67 : decode cX9_feed 67 = .ok (.goto (-37), 3) := by decide +kernel
theorem dX9_feed_70 : decode cX9_feed 70 = .ok (.aload_n 0, 1) := by decide +kernel
theorem dX9_feed_71 : decode cX9_feed 71 = .ok (.getfield 177, 3) := by decide +kernel
theorem dX9_feed_74 : decode cX9_feed 74 = .ok (.ireturn, 1) := by decide +kernel
theorem dX9_isLetter_0 : decode cX9_isLetter 0 = .ok (.iload_n 0, 1) := by decide +kernel
theorem dX9_isLetter_1 : decode cX9_isLetter 1 = .ok (.bipush 97, 2) := by decide +kernel
theorem dX9_isLetter_3 : decode cX9_isLetter 3 = .ok (.bipush 122, 2) := by decide +kernel
theorem dX9_isLetter_5 : decode cX9_isLetter 5 = .ok (.invokestatic 173, 3) := by decide +kernel
theorem dX9_isLetter_8 : decode cX9_isLetter 8 = .ok (.ireturn, 1) := by decide +kernel
theorem dX9_isDigit_0 : decode cX9_isDigit 0 = .ok (.iload_n 0, 1) := by decide +kernel
theorem dX9_isDigit_1 : decode cX9_isDigit 1 = .ok (.bipush 48, 2) := by decide +kernel
theorem dX9_isDigit_3 : decode cX9_isDigit 3 = .ok (.bipush 57, 2) := by decide +kernel
theorem dX9_isDigit_5 : decode cX9_isDigit 5 = .ok (.invokestatic 173, 3) := by decide +kernel
theorem dX9_isDigit_8 : decode cX9_isDigit 8 = .ok (.ireturn, 1) := by decide +kernel
theorem dX9_isMark_0 : decode cX9_isMark 0 = .ok (.iload_n 0, 1) := by decide +kernel
theorem dX9_isMark_1 : decode cX9_isMark 1 = .ok (.bipush 123, 2) := by decide +kernel
theorem dX9_isMark_3 : decode cX9_isMark 3 = .ok (.if_icmp .eq 57, 3) := by decide +kernel
theorem dX9_isMark_6 : decode cX9_isMark 6 = .ok (.iload_n 0, 1) := by decide +kernel
theorem dX9_isMark_7 : decode cX9_isMark 7 = .ok (.bipush 125, 2) := by decide +kernel
theorem dX9_isMark_9 : decode cX9_isMark 9 = .ok (.if_icmp .eq 51, 3) := by decide +kernel
theorem dX9_isMark_12 : decode cX9_isMark 12 = .ok (.iload_n 0, 1) := by decide +kernel
theorem dX9_isMark_13 : decode cX9_isMark 13 = .ok (.bipush 40, 2) := by decide +kernel
theorem dX9_isMark_15 : decode cX9_isMark 15 = .ok (.if_icmp .eq 45, 3) := by decide +kernel
theorem dX9_isMark_18 : decode cX9_isMark 18 = .ok (.iload_n 0, 1) := by decide +kernel
theorem dX9_isMark_19 : decode cX9_isMark 19 = .ok (.bipush 41, 2) := by decide +kernel
theorem dX9_isMark_21 : decode cX9_isMark 21 = .ok (.if_icmp .eq 39, 3) := by decide +kernel
theorem dX9_isMark_24 : decode cX9_isMark 24 = .ok (.iload_n 0, 1) := by decide +kernel
theorem dX9_isMark_25 : decode cX9_isMark 25 = .ok (.bipush 58, 2) := by decide +kernel
theorem dX9_isMark_27 : decode cX9_isMark 27 = .ok (.if_icmp .eq 33, 3) := by decide +kernel
theorem dX9_isMark_30 : decode cX9_isMark 30 = .ok (.iload_n 0, 1) := by decide +kernel
theorem dX9_isMark_31 : decode cX9_isMark 31 = .ok (.bipush 59, 2) := by decide +kernel
theorem dX9_isMark_33 : decode cX9_isMark 33 = .ok (.if_icmp .eq 27, 3) := by decide +kernel
theorem dX9_isMark_36 : decode cX9_isMark 36 = .ok (.iload_n 0, 1) := by decide +kernel
theorem dX9_isMark_37 : decode cX9_isMark 37 = .ok (.bipush 44, 2) := by decide +kernel
theorem dX9_isMark_39 : decode cX9_isMark 39 = .ok (.if_icmp .eq 21, 3) := by decide +kernel
theorem dX9_isMark_42 : decode cX9_isMark 42 = .ok (.iload_n 0, 1) := by decide +kernel
theorem dX9_isMark_43 : decode cX9_isMark 43 = .ok (.bipush 61, 2) := by decide +kernel
theorem dX9_isMark_45 : decode cX9_isMark 45 = .ok (.if_icmp .eq 15, 3) := by decide +kernel
theorem dX9_isMark_48 : decode cX9_isMark 48 = .ok (.iload_n 0, 1) := by decide +kernel
theorem dX9_isMark_49 : decode cX9_isMark 49 = .ok (.bipush 42, 2) := by decide +kernel
theorem dX9_isMark_51 : decode cX9_isMark 51 = .ok (.if_icmp .eq 9, 3) := by decide +kernel
theorem dX9_isMark_54 : decode cX9_isMark 54 = .ok (.iload_n 0, 1) := by decide +kernel
theorem dX9_isMark_55 : decode cX9_isMark 55 = .ok (.bipush 46, 2) := by decide +kernel
theorem dX9_isMark_57 : decode cX9_isMark 57 = .ok (.if_icmp .ne 7, 3) := by decide +kernel
theorem dX9_isMark_60 : decode cX9_isMark 60 = .ok (.iconst 1, 1) := by decide +kernel
theorem dX9_isMark_61 : decode cX9_isMark 61 = .ok (.goto 4, 3) := by decide +kernel
theorem dX9_isMark_64 : decode cX9_isMark 64 = .ok (.iconst 0, 1) := by decide +kernel
theorem dX9_isMark_65 : decode cX9_isMark 65 = .ok (.ireturn, 1) := by decide +kernel
theorem dX9_cut_0 : decode cX9_cut 0 = .ok (.aload_n 0, 1) := by decide +kernel
theorem dX9_cut_1 : decode cX9_cut 1 = .ok (.aload_n 0, 1) := by decide +kernel
theorem dX9_cut_2 : decode cX9_cut 2 = .ok (.getfield 177, 3) := by decide +kernel
theorem dX9_cut_5 : decode cX9_cut 5 = .ok (.putfield 180, 3) := by decide +kernel
theorem dX9_cut_8 : decode cX9_cut 8 = .ok (.aload_n 0, 1) := by decide +kernel
theorem dX9_cut_9 : decode cX9_cut 9 = .ok (.iconst 0, 1) := by decide +kernel
theorem dX9_cut_10 : decode cX9_cut 10 = .ok (.putfield 177, 3) := by decide +kernel
theorem dX9_cut_13 : decode cX9_cut 13 = .ok (.aload_n 0, 1) := by decide +kernel
theorem dX9_cut_14 : decode cX9_cut 14 = .ok (.iconst 0, 1) := by decide +kernel
theorem dX9_cut_15 : decode cX9_cut 15 = .ok (.putfield 183, 3) := by decide +kernel
theorem dX9_cut_18 : decode cX9_cut 18 = .ok (.iconst 0, 1) := by decide +kernel
theorem dX9_cut_19 : decode cX9_cut 19 = .ok (.istore_n 1, 1) := by decide +kernel
theorem dX9_cut_20 : decode cX9_cut 20 = .ok (.iload_n 1, 1) := by decide +kernel
theorem dX9_cut_21 : decode cX9_cut 21 = .ok (.aload_n 0, 1) := by decide +kernel
theorem dX9_cut_22 : decode cX9_cut 22 = .ok (.getfield 180, 3) := by decide +kernel
theorem dX9_cut_25 : decode cX9_cut 25 = .ok (.if_icmp .ge 241, 3) := by decide +kernel
theorem dX9_cut_28 : decode cX9_cut 28 = .ok (.aload_n 0, 1) := by decide +kernel
theorem dX9_cut_29 : decode cX9_cut 29 = .ok (.getfield 46, 3) := by decide +kernel
theorem dX9_cut_32 : decode cX9_cut 32 = .ok (.iload_n 1, 1) := by decide +kernel
theorem dX9_cut_33 : decode cX9_cut 33 = .ok (.baload, 1) := by decide +kernel
theorem dX9_cut_34 : decode cX9_cut 34 = .ok (.istore_n 2, 1) := by decide +kernel
theorem dX9_cut_35 : decode cX9_cut 35 = .ok (.iload_n 2, 1) := by decide +kernel
theorem dX9_cut_36 : decode cX9_cut 36 = .ok (.bipush 10, 2) := by decide +kernel
theorem dX9_cut_38 : decode cX9_cut 38 = .ok (.if_icmp .eq 9, 3) := by decide +kernel
theorem dX9_cut_41 : decode cX9_cut 41 = .ok (.iload_n 2, 1) := by decide +kernel
theorem dX9_cut_42 : decode cX9_cut 42 = .ok (.bipush 32, 2) := by decide +kernel
theorem dX9_cut_44 : decode cX9_cut 44 = .ok (.if_icmp .ne 9, 3) := by decide +kernel
theorem dX9_cut_47 : decode cX9_cut 47 = .ok (.iinc 1 1, 3) := by decide +kernel
theorem dX9_cut_50 : decode cX9_cut 50 = .ok (.goto 213, 3) := by decide +kernel
theorem dX9_cut_53 : decode cX9_cut 53 = .ok (.iload_n 1, 1) := by decide +kernel
theorem dX9_cut_54 : decode cX9_cut 54 = .ok (.iconst 1, 1) := by decide +kernel
theorem dX9_cut_55 : decode cX9_cut 55 = .ok (.iadd, 1) := by decide +kernel
theorem dX9_cut_56 : decode cX9_cut 56 = .ok (.istore_n 3, 1) := by decide +kernel
theorem dX9_cut_57 : decode cX9_cut 57 = .ok (.iload_n 2, 1) := by decide +kernel
theorem dX9_cut_58 : decode cX9_cut 58 = .ok (.invokestatic 186, 3) := by decide +kernel
theorem dX9_cut_61 : decode cX9_cut 61 = .ok (.ifCond .eq 52, 3) := by decide +kernel
theorem dX9_cut_64 : decode cX9_cut 64 = .ok (.iload_n 3, 1) := by decide +kernel
theorem dX9_cut_65 : decode cX9_cut 65 = .ok (.aload_n 0, 1) := by decide +kernel
theorem dX9_cut_66 : decode cX9_cut 66 = .ok (.getfield 180, 3) := by decide +kernel
theorem dX9_cut_69 : decode cX9_cut 69 = .ok (.if_icmp .ge 77, 3) := by decide +kernel
theorem dX9_cut_72 : decode cX9_cut 72 = .ok (.aload_n 0, 1) := by decide +kernel
theorem dX9_cut_73 : decode cX9_cut 73 = .ok (.getfield 46, 3) := by decide +kernel
theorem dX9_cut_76 : decode cX9_cut 76 = .ok (.iload_n 3, 1) := by decide +kernel
theorem dX9_cut_77 : decode cX9_cut 77 = .ok (.baload, 1) := by decide +kernel
theorem dX9_cut_78 : decode cX9_cut 78 = .ok (.invokestatic 186, 3) := by decide +kernel
theorem dX9_cut_81 : decode cX9_cut 81 = .ok (.ifCond .ne 26, 3) := by decide +kernel
theorem dX9_cut_84 : decode cX9_cut 84 = .ok (.aload_n 0, 1) := by decide +kernel
theorem dX9_cut_85 : decode cX9_cut 85 = .ok (.getfield 46, 3) := by decide +kernel
theorem dX9_cut_88 : decode cX9_cut 88 = .ok (.iload_n 3, 1) := by decide +kernel
theorem dX9_cut_89 : decode cX9_cut 89 = .ok (.baload, 1) := by decide +kernel
theorem dX9_cut_90 : decode cX9_cut 90 = .ok (.invokestatic 190, 3) := by decide +kernel
theorem dX9_cut_93 : decode cX9_cut 93 = .ok (.ifCond .ne 14, 3) := by decide +kernel
theorem dX9_cut_96 : decode cX9_cut 96 = .ok (.aload_n 0, 1) := by decide +kernel
theorem dX9_cut_97 : decode cX9_cut 97 = .ok (.getfield 46, 3) := by decide +kernel
theorem dX9_cut_100 : decode cX9_cut 100 = .ok (.iload_n 3, 1) := by decide +kernel
theorem dX9_cut_101 : decode cX9_cut 101 = .ok (.baload, 1) := by decide +kernel
theorem dX9_cut_102 : decode cX9_cut 102 = .ok (.bipush 95, 2) := by decide +kernel
theorem dX9_cut_104 : decode cX9_cut 104 = .ok (.if_icmp .ne 42, 3) := by decide +kernel
theorem dX9_cut_107 : decode cX9_cut 107 = .ok (.iinc 3 1, 3) := by decide +kernel
theorem dX9_cut_110 : decode cX9_cut 110 = .ok (.goto (-46), 3) := by decide +kernel
theorem dX9_cut_113 : decode cX9_cut 113 = .ok (.iload_n 2, 1) := by decide +kernel
theorem dX9_cut_114 : decode cX9_cut 114 = .ok (.invokestatic 190, 3) := by decide +kernel
theorem dX9_cut_117 : decode cX9_cut 117 = .ok (.ifCond .eq 29, 3) := by decide +kernel
theorem dX9_cut_120 : decode cX9_cut 120 = .ok (.iload_n 3, 1) := by decide +kernel
theorem dX9_cut_121 : decode cX9_cut 121 = .ok (.aload_n 0, 1) := by decide +kernel
theorem dX9_cut_122 : decode cX9_cut 122 = .ok (.getfield 180, 3) := by decide +kernel
theorem dX9_cut_125 : decode cX9_cut 125 = .ok (.if_icmp .ge 21, 3) := by decide +kernel
theorem dX9_cut_128 : decode cX9_cut 128 = .ok (.aload_n 0, 1) := by decide +kernel
theorem dX9_cut_129 : decode cX9_cut 129 = .ok (.getfield 46, 3) := by decide +kernel
theorem dX9_cut_132 : decode cX9_cut 132 = .ok (.iload_n 3, 1) := by decide +kernel
theorem dX9_cut_133 : decode cX9_cut 133 = .ok (.baload, 1) := by decide +kernel
theorem dX9_cut_134 : decode cX9_cut 134 = .ok (.invokestatic 190, 3) := by decide +kernel
theorem dX9_cut_137 : decode cX9_cut 137 = .ok (.ifCond .eq 9, 3) := by decide +kernel
theorem dX9_cut_140 : decode cX9_cut 140 = .ok (.iinc 3 1, 3) := by decide +kernel
theorem dX9_cut_143 : decode cX9_cut 143 = .ok (.goto (-23), 3) := by decide +kernel
theorem dX9_cut_146 : decode cX9_cut 146 = .ok (.iload_n 2, 1) := by decide +kernel
theorem dX9_cut_147 : decode cX9_cut 147 = .ok (.invokestatic 186, 3) := by decide +kernel
theorem dX9_cut_150 : decode cX9_cut 150 = .ok (.ifCond .eq 11, 3) := by decide +kernel
theorem dX9_cut_153 : decode cX9_cut 153 = .ok (.iload_n 3, 1) := by decide +kernel
theorem dX9_cut_154 : decode cX9_cut 154 = .ok (.iload_n 1, 1) := by decide +kernel
theorem dX9_cut_155 : decode cX9_cut 155 = .ok (.isub, 1) := by decide +kernel
theorem dX9_cut_156 : decode cX9_cut 156 = .ok (.bipush 12, 2) := by decide +kernel
theorem dX9_cut_158 : decode cX9_cut 158 = .ok (.if_icmp .le 25, 3) := by decide +kernel
theorem dX9_cut_161 : decode cX9_cut 161 = .ok (.iload_n 2, 1) := by decide +kernel
theorem dX9_cut_162 : decode cX9_cut 162 = .ok (.invokestatic 190, 3) := by decide +kernel
theorem dX9_cut_165 : decode cX9_cut 165 = .ok (.ifCond .eq 11, 3) := by decide +kernel
theorem dX9_cut_168 : decode cX9_cut 168 = .ok (.iload_n 3, 1) := by decide +kernel
theorem dX9_cut_169 : decode cX9_cut 169 = .ok (.iload_n 1, 1) := by decide +kernel
theorem dX9_cut_170 : decode cX9_cut 170 = .ok (.isub, 1) := by decide +kernel
theorem dX9_cut_171 : decode cX9_cut 171 = .ok (.bipush 6, 2) := by decide +kernel
theorem dX9_cut_173 : decode cX9_cut 173 = .ok (.if_icmp .le 10, 3) := by decide +kernel
theorem dX9_cut_176 : decode cX9_cut 176 = .ok (.iload_n 2, 1) := by decide +kernel
theorem dX9_cut_177 : decode cX9_cut 177 = .ok (.invokestatic 193, 3) := by decide +kernel
theorem dX9_cut_180 : decode cX9_cut 180 = .ok (.ifCond .eq 7, 3) := by decide +kernel
theorem dX9_cut_183 : decode cX9_cut 183 = .ok (.iconst 1, 1) := by decide +kernel
theorem dX9_cut_184 : decode cX9_cut 184 = .ok (.goto 4, 3) := by decide +kernel
theorem dX9_cut_187 : decode cX9_cut 187 = .ok (.iconst 0, 1) := by decide +kernel
theorem dX9_cut_188 : decode cX9_cut 188 = .ok (.istore 4, 2) := by decide +kernel
theorem dX9_cut_190 : decode cX9_cut 190 = .ok (.iload 4, 2) := by decide +kernel
theorem dX9_cut_192 : decode cX9_cut 192 = .ok (.ifCond .ne 5, 3) := by decide +kernel
theorem dX9_cut_195 : decode cX9_cut 195 = .ok (.iload_n 1, 1) := by decide +kernel
theorem dX9_cut_196 : decode cX9_cut 196 = .ok (.ireturn, 1) := by decide +kernel
theorem dX9_cut_197 : decode cX9_cut 197 = .ok (.aload_n 0, 1) := by decide +kernel
theorem dX9_cut_198 : decode cX9_cut 198 = .ok (.getfield 119, 3) := by decide +kernel
theorem dX9_cut_201 : decode cX9_cut 201 = .ok (.aload_n 0, 1) := by decide +kernel
theorem dX9_cut_202 : decode cX9_cut 202 = .ok (.getfield 183, 3) := by decide +kernel
theorem dX9_cut_205 : decode cX9_cut 205 = .ok (.iload_n 2, 1) := by decide +kernel
theorem dX9_cut_206 : decode cX9_cut 206 = .ok (.invokestatic 186, 3) := by decide +kernel
theorem dX9_cut_209 : decode cX9_cut 209 = .ok (.ifCond .eq 7, 3) := by decide +kernel
theorem dX9_cut_212 : decode cX9_cut 212 = .ok (.iconst 1, 1) := by decide +kernel
theorem dX9_cut_213 : decode cX9_cut 213 = .ok (.goto 15, 3) := by decide +kernel
theorem dX9_cut_216 : decode cX9_cut 216 = .ok (.iload_n 2, 1) := by decide +kernel
theorem dX9_cut_217 : decode cX9_cut 217 = .ok (.invokestatic 190, 3) := by decide +kernel
theorem dX9_cut_220 : decode cX9_cut 220 = .ok (.ifCond .eq 7, 3) := by decide +kernel
theorem dX9_cut_223 : decode cX9_cut 223 = .ok (.iconst 2, 1) := by decide +kernel
theorem dX9_cut_224 : decode cX9_cut 224 = .ok (.goto 4, 3) := by decide +kernel
theorem dX9_cut_227 : decode cX9_cut 227 = .ok (.iload_n 2, 1) := by decide +kernel
theorem dX9_cut_228 : decode cX9_cut 228 = .ok (.iastore, 1) := by decide +kernel
theorem dX9_cut_229 : decode cX9_cut 229 = .ok (.aload_n 0, 1) := by decide +kernel
theorem dX9_cut_230 : decode cX9_cut 230 = .ok (.getfield 122, 3) := by decide +kernel
theorem dX9_cut_233 : decode cX9_cut 233 = .ok (.aload_n 0, 1) := by decide +kernel
theorem dX9_cut_234 : decode cX9_cut 234 = .ok (.getfield 183, 3) := by decide +kernel
theorem dX9_cut_237 : decode cX9_cut 237 = .ok (.iload_n 1, 1) := by decide +kernel
theorem dX9_cut_238 : decode cX9_cut 238 = .ok (.iastore, 1) := by decide +kernel
theorem dX9_cut_239 : decode cX9_cut 239 = .ok (.aload_n 0, 1) := by decide +kernel
theorem dX9_cut_240 : decode cX9_cut 240 = .ok (.getfield 125, 3) := by decide +kernel
theorem dX9_cut_243 : decode cX9_cut 243 = .ok (.aload_n 0, 1) := by decide +kernel
theorem dX9_cut_244 : decode cX9_cut 244 = .ok (.getfield 183, 3) := by decide +kernel
theorem dX9_cut_247 : decode cX9_cut 247 = .ok (.iload_n 3, 1) := by decide +kernel
theorem dX9_cut_248 : decode cX9_cut 248 = .ok (.iload_n 1, 1) := by decide +kernel
theorem dX9_cut_249 : decode cX9_cut 249 = .ok (.isub, 1) := by decide +kernel
theorem dX9_cut_250 : decode cX9_cut 250 = .ok (.iastore, 1) := by decide +kernel
theorem dX9_cut_251 : decode cX9_cut 251 = .ok (.aload_n 0, 1) := by decide +kernel
theorem dX9_cut_252 : decode cX9_cut 252 = .ok (.dup, 1) := by decide +kernel
theorem dX9_cut_253 : decode cX9_cut 253 = .ok (.getfield 183, 3) := by decide +kernel
theorem dX9_cut_256 : decode cX9_cut 256 = .ok (.iconst 1, 1) := by decide +kernel
theorem dX9_cut_257 : decode cX9_cut 257 = .ok (.iadd, 1) := by decide +kernel
theorem dX9_cut_258 : decode cX9_cut 258 = .ok (.putfield 183, 3) := by decide +kernel
theorem dX9_cut_261 : decode cX9_cut 261 = .ok (.iload_n 3, 1) := by decide +kernel
theorem dX9_cut_262 : decode cX9_cut 262 = .ok (.istore_n 1, 1) := by decide +kernel
theorem dX9_cut_263 : decode cX9_cut 263 = .ok (.goto (-243), 3) := by decide +kernel
theorem dX9_cut_266 : decode cX9_cut 266 = .ok (.aload_n 0, 1) := by decide +kernel
theorem dX9_cut_267 : decode cX9_cut 267 = .ok (.getfield 119, 3) := by decide +kernel
theorem dX9_cut_270 : decode cX9_cut 270 = .ok (.aload_n 0, 1) := by decide +kernel
theorem dX9_cut_271 : decode cX9_cut 271 = .ok (.getfield 183, 3) := by decide +kernel
theorem dX9_cut_274 : decode cX9_cut 274 = .ok (.iconst 0, 1) := by decide +kernel
theorem dX9_cut_275 : decode cX9_cut 275 = .ok (.iastore, 1) := by decide +kernel
theorem dX9_cut_276 : decode cX9_cut 276 = .ok (.aload_n 0, 1) := by decide +kernel
theorem dX9_cut_277 : decode cX9_cut 277 = .ok (.getfield 122, 3) := by decide +kernel
theorem dX9_cut_280 : decode cX9_cut 280 = .ok (.aload_n 0, 1) := by decide +kernel
theorem dX9_cut_281 : decode cX9_cut 281 = .ok (.getfield 183, 3) := by decide +kernel
theorem dX9_cut_284 : decode cX9_cut 284 = .ok (.aload_n 0, 1) := by decide +kernel
theorem dX9_cut_285 : decode cX9_cut 285 = .ok (.getfield 180, 3) := by decide +kernel
theorem dX9_cut_288 : decode cX9_cut 288 = .ok (.iastore, 1) := by decide +kernel
theorem dX9_cut_289 : decode cX9_cut 289 = .ok (.aload_n 0, 1) := by decide +kernel
theorem dX9_cut_290 : decode cX9_cut 290 = .ok (.getfield 125, 3) := by decide +kernel
theorem dX9_cut_293 : decode cX9_cut 293 = .ok (.aload_n 0, 1) := by decide +kernel
theorem dX9_cut_294 : decode cX9_cut 294 = .ok (.getfield 183, 3) := by decide +kernel
theorem dX9_cut_297 : decode cX9_cut 297 = .ok (.iconst 0, 1) := by decide +kernel
theorem dX9_cut_298 : decode cX9_cut 298 = .ok (.iastore, 1) := by decide +kernel
theorem dX9_cut_299 : decode cX9_cut 299 = .ok (.iconst (-1), 1) := by decide +kernel
theorem dX9_cut_300 : decode cX9_cut 300 = .ok (.ireturn, 1) := by decide +kernel
theorem dX9_word_0 : decode cX9_word 0 = .ok (.aload_n 0, 1) := by decide +kernel
theorem dX9_word_1 : decode cX9_word 1 = .ok (.getfield 119, 3) := by decide +kernel
theorem dX9_word_4 : decode cX9_word 4 = .ok (.iload_n 1, 1) := by decide +kernel
theorem dX9_word_5 : decode cX9_word 5 = .ok (.iaload, 1) := by decide +kernel
theorem dX9_word_6 : decode cX9_word 6 = .ok (.iconst 1, 1) := by decide +kernel
theorem dX9_word_7 : decode cX9_word 7 = .ok (.if_icmp .ne 14, 3) := by decide +kernel
theorem dX9_word_10 : decode cX9_word 10 = .ok (.aload_n 0, 1) := by decide +kernel
theorem dX9_word_11 : decode cX9_word 11 = .ok (.getfield 125, 3) := by decide +kernel
theorem dX9_word_14 : decode cX9_word 14 = .ok (.iload_n 1, 1) := by decide +kernel
theorem dX9_word_15 : decode cX9_word 15 = .ok (.iaload, 1) := by decide +kernel
theorem dX9_word_16 : decode cX9_word 16 = .ok (.bipush 7, 2) := by decide +kernel
theorem dX9_word_18 : decode cX9_word 18 = .ok (.if_icmp .le 5, 3) := by decide +kernel
theorem dX9_word_21 : decode cX9_word 21 = .ok (.lconst 0, 1) := by decide +kernel
theorem dX9_word_22 : decode cX9_word 22 = .ok (.lreturn, 1) := by decide +kernel
theorem dX9_word_23 : decode cX9_word 23 = .ok (.lconst 0, 1) := by decide +kernel
theorem dX9_word_24 : decode cX9_word 24 = .ok (.lstore_n 2, 1) := by decide +kernel
theorem dX9_word_25 : decode cX9_word 25 = .ok (.iconst 0, 1) := by decide +kernel
theorem dX9_word_26 : decode cX9_word 26 = .ok (.istore 4, 2) := by decide +kernel
theorem dX9_word_28 : decode cX9_word 28 = .ok (.iload 4, 2) := by decide +kernel
theorem dX9_word_30 : decode cX9_word 30 = .ok (.aload_n 0, 1) := by decide +kernel
theorem dX9_word_31 : decode cX9_word 31 = .ok (.getfield 125, 3) := by decide +kernel
theorem dX9_word_34 : decode cX9_word 34 = .ok (.iload_n 1, 1) := by decide +kernel
theorem dX9_word_35 : decode cX9_word 35 = .ok (.iaload, 1) := by decide +kernel
theorem dX9_word_36 : decode cX9_word 36 = .ok (.if_icmp .ge 30, 3) := by decide +kernel
theorem dX9_word_39 : decode cX9_word 39 = .ok (.lload_n 2, 1) := by decide +kernel
theorem dX9_word_40 : decode cX9_word 40 = .ok (.bipush 8, 2) := by decide +kernel
theorem dX9_word_42 : decode cX9_word 42 = .ok (.lshl, 1) := by decide +kernel
theorem dX9_word_43 : decode cX9_word 43 = .ok (.aload_n 0, 1) := by decide +kernel
theorem dX9_word_44 : decode cX9_word 44 = .ok (.getfield 46, 3) := by decide +kernel
theorem dX9_word_47 : decode cX9_word 47 = .ok (.aload_n 0, 1) := by decide +kernel
theorem dX9_word_48 : decode cX9_word 48 = .ok (.getfield 122, 3) := by decide +kernel
theorem dX9_word_51 : decode cX9_word 51 = .ok (.iload_n 1, 1) := by decide +kernel
theorem dX9_word_52 : decode cX9_word 52 = .ok (.iaload, 1) := by decide +kernel
theorem dX9_word_53 : decode cX9_word 53 = .ok (.iload 4, 2) := by decide +kernel
theorem dX9_word_55 : decode cX9_word 55 = .ok (.iadd, 1) := by decide +kernel
theorem dX9_word_56 : decode cX9_word 56 = .ok (.baload, 1) := by decide +kernel
theorem dX9_word_57 : decode cX9_word 57 = .ok (.i2l, 1) := by decide +kernel
theorem dX9_word_58 : decode cX9_word 58 = .ok (.lor, 1) := by decide +kernel
theorem dX9_word_59 : decode cX9_word 59 = .ok (.lstore_n 2, 1) := by decide +kernel
theorem dX9_word_60 : decode cX9_word 60 = .ok (.iinc 4 1, 3) := by decide +kernel
theorem dX9_word_63 : decode cX9_word 63 = .ok (.goto (-35), 3) := by decide +kernel
theorem dX9_word_66 : decode cX9_word 66 = .ok (.lload_n 2, 1) := by decide +kernel
theorem dX9_word_67 : decode cX9_word 67 = .ok (.lreturn, 1) := by decide +kernel
theorem dX9_number_0 : decode cX9_number 0 = .ok (.iconst 0, 1) := by decide +kernel
theorem dX9_number_1 : decode cX9_number 1 = .ok (.istore_n 2, 1) := by decide +kernel
theorem dX9_number_2 : decode cX9_number 2 = .ok (.iconst 0, 1) := by decide +kernel
theorem dX9_number_3 : decode cX9_number 3 = .ok (.istore_n 3, 1) := by decide +kernel
theorem dX9_number_4 : decode cX9_number 4 = .ok (.iload_n 3, 1) := by decide +kernel
theorem dX9_number_5 : decode cX9_number 5 = .ok (.aload_n 0, 1) := by decide +kernel
theorem dX9_number_6 : decode cX9_number 6 = .ok (.getfield 125, 3) := by decide +kernel
theorem dX9_number_9 : decode cX9_number 9 = .ok (.iload_n 1, 1) := by decide +kernel
theorem dX9_number_10 : decode cX9_number 10 = .ok (.iaload, 1) := by decide +kernel
theorem dX9_number_11 : decode cX9_number 11 = .ok (.if_icmp .ge 31, 3) := by decide +kernel
theorem dX9_number_14 : decode cX9_number 14 = .ok (.bipush 10, 2) := by decide +kernel
theorem dX9_number_16 : decode cX9_number 16 = .ok (.iload_n 2, 1) := by decide +kernel
theorem dX9_number_17 : decode cX9_number 17 = .ok (.imul, 1) := by decide +kernel
theorem dX9_number_18 : decode cX9_number 18 = .ok (.aload_n 0, 1) := by decide +kernel
theorem dX9_number_19 : decode cX9_number 19 = .ok (.getfield 46, 3) := by decide +kernel
theorem dX9_number_22 : decode cX9_number 22 = .ok (.aload_n 0, 1) := by decide +kernel
theorem dX9_number_23 : decode cX9_number 23 = .ok (.getfield 122, 3) := by decide +kernel
theorem dX9_number_26 : decode cX9_number 26 = .ok (.iload_n 1, 1) := by decide +kernel
theorem dX9_number_27 : decode cX9_number 27 = .ok (.iaload, 1) := by decide +kernel
theorem dX9_number_28 : decode cX9_number 28 = .ok (.iload_n 3, 1) := by decide +kernel
theorem dX9_number_29 : decode cX9_number 29 = .ok (.iadd, 1) := by decide +kernel
theorem dX9_number_30 : decode cX9_number 30 = .ok (.baload, 1) := by decide +kernel
theorem dX9_number_31 : decode cX9_number 31 = .ok (.iadd, 1) := by decide +kernel
theorem dX9_number_32 : decode cX9_number 32 = .ok (.bipush 48, 2) := by decide +kernel
theorem dX9_number_34 : decode cX9_number 34 = .ok (.isub, 1) := by decide +kernel
theorem dX9_number_35 : decode cX9_number 35 = .ok (.istore_n 2, 1) := by decide +kernel
theorem dX9_number_36 : decode cX9_number 36 = .ok (.iinc 3 1, 3) := by decide +kernel
theorem dX9_number_39 : decode cX9_number 39 = .ok (.goto (-35), 3) := by decide +kernel
theorem dX9_number_42 : decode cX9_number 42 = .ok (.iload_n 2, 1) := by decide +kernel
theorem dX9_number_43 : decode cX9_number 43 = .ok (.ireturn, 1) := by decide +kernel
theorem dX9_among_0 : decode cX9_among 0 = .ok (.iconst 0, 1) := by decide +kernel
theorem dX9_among_1 : decode cX9_among 1 = .ok (.istore_n 3, 1) := by decide +kernel
theorem dX9_among_2 : decode cX9_among 2 = .ok (.iload_n 3, 1) := by decide +kernel
theorem dX9_among_3 : decode cX9_among 3 = .ok (.aload_n 0, 1) := by decide +kernel
theorem dX9_among_4 : decode cX9_among 4 = .ok (.arraylength, 1) := by decide +kernel
theorem dX9_among_5 : decode cX9_among 5 = .ok (.if_icmp .ge 19, 3) := by decide +kernel
theorem dX9_among_8 : decode cX9_among 8 = .ok (.aload_n 0, 1) := by decide +kernel
theorem dX9_among_9 : decode cX9_among 9 = .ok (.iload_n 3, 1) := by decide +kernel
theorem dX9_among_10 : decode cX9_among 10 = .ok (.laload, 1) := by decide +kernel
theorem dX9_among_11 : decode cX9_among 11 = .ok (.lload_n 1, 1) := by decide +kernel
theorem dX9_among_12 : decode cX9_among 12 = .ok (.lcmp, 1) := by decide +kernel
theorem dX9_among_13 : decode cX9_among 13 = .ok (.ifCond .ne 5, 3) := by decide +kernel
theorem dX9_among_16 : decode cX9_among 16 = .ok (.iload_n 3, 1) := by decide +kernel
theorem dX9_among_17 : decode cX9_among 17 = .ok (.ireturn, 1) := by decide +kernel
theorem dX9_among_18 : decode cX9_among 18 = .ok (.iinc 3 1, 3) := by decide +kernel
theorem dX9_among_21 : decode cX9_among 21 = .ok (.goto (-19), 3) := by decide +kernel
theorem dX9_among_24 : decode cX9_among 24 = .ok (.iconst (-1), 1) := by decide +kernel
theorem dX9_among_25 : decode cX9_among 25 = .ok (.ireturn, 1) := by decide +kernel
theorem dX9_fails_0 : decode cX9_fails 0 = .ok (.aload_n 0, 1) := by decide +kernel
theorem dX9_fails_1 : decode cX9_fails 1 = .ok (.getfield 196, 3) := by decide +kernel
theorem dX9_fails_4 : decode cX9_fails 4 = .ok (.ifCond .ne 13, 3) := by decide +kernel
theorem dX9_fails_7 : decode cX9_fails 7 = .ok (.aload_n 0, 1) := by decide +kernel
theorem dX9_fails_8 : decode cX9_fails 8 = .ok (.iload_n 1, 1) := by decide +kernel
theorem dX9_fails_9 : decode cX9_fails 9 = .ok (.putfield 196, 3) := by decide +kernel
theorem dX9_fails_12 : decode cX9_fails 12 = .ok (.aload_n 0, 1) := by decide +kernel
theorem dX9_fails_13 : decode cX9_fails 13 = .ok (.iload_n 2, 1) := by decide +kernel
theorem dX9_fails_14 : decode cX9_fails 14 = .ok (.putfield 56, 3) := by decide +kernel
theorem dX9_fails_17 : decode cX9_fails 17 = .ok (.return_, 1) := by decide +kernel
theorem dX9_note_0 : decode cX9_note 0 = .ok (.aload_n 0, 1) := by decide +kernel
theorem dX9_note_1 : decode cX9_note 1 = .ok (.getfield 199, 3) := by decide +kernel
theorem dX9_note_4 : decode cX9_note 4 = .ok (.ifCond .eq 27, 3) := by decide +kernel
theorem dX9_note_7 : decode cX9_note 7 = .ok (.iload_n 2, 1) := by decide +kernel
theorem dX9_note_8 : decode cX9_note 8 = .ok (.aload_n 0, 1) := by decide +kernel
theorem dX9_note_9 : decode cX9_note 9 = .ok (.getfield 202, 3) := by decide +kernel
theorem dX9_note_12 : decode cX9_note 12 = .ok (.if_icmp .lt 19, 3) := by decide +kernel
theorem dX9_note_15 : decode cX9_note 15 = .ok (.iload_n 2, 1) := by decide +kernel
theorem dX9_note_16 : decode cX9_note 16 = .ok (.aload_n 0, 1) := by decide +kernel
theorem dX9_note_17 : decode cX9_note 17 = .ok (.getfield 202, 3) := by decide +kernel
theorem dX9_note_20 : decode cX9_note 20 = .ok (.if_icmp .ne 21, 3) := by decide +kernel
theorem dX9_note_23 : decode cX9_note 23 = .ok (.iload_n 1, 1) := by decide +kernel
theorem dX9_note_24 : decode cX9_note 24 = .ok (.aload_n 0, 1) := by decide +kernel
theorem dX9_note_25 : decode cX9_note 25 = .ok (.getfield 199, 3) := by decide +kernel
theorem dX9_note_28 : decode cX9_note 28 = .ok (.if_icmp .ge 13, 3) := by decide +kernel
theorem dX9_note_31 : decode cX9_note 31 = .ok (.aload_n 0, 1) := by decide +kernel
theorem dX9_note_32 : decode cX9_note 32 = .ok (.iload_n 1, 1) := by decide +kernel
theorem dX9_note_33 : decode cX9_note 33 = .ok (.putfield 199, 3) := by decide +kernel
theorem dX9_note_36 : decode cX9_note 36 = .ok (.aload_n 0, 1) := by decide +kernel
theorem dX9_note_37 : decode cX9_note 37 = .ok (.iload_n 2, 1) := by decide +kernel
theorem dX9_note_38 : decode cX9_note 38 = .ok (.putfield 202, 3) := by decide +kernel

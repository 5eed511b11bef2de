theorem dX9_note_41 : decode cX9_note 41 = .ok (.return_, 1) := by decide +kernel
theorem dX9_want_0 : decode cX9_want 0 = .ok (.aload_n 0, 1) := by decide +kernel
theorem dX9_want_1 : decode cX9_want 1 = .ok (.getfield 196, 3) := by decide +kernel
theorem dX9_want_4 : decode cX9_want 4 = .ok (.ifCond .ne 30, 3) := by decide +kernel
theorem dX9_want_7 : decode cX9_want 7 = .ok (.aload_n 0, 1) := by decide +kernel
theorem dX9_want_8 : decode cX9_want 8 = .ok (.getfield 119, 3) := by decide +kernel
theorem dX9_want_11 : decode cX9_want 11 = .ok (.aload_n 0, 1) := by decide +kernel
theorem dX9_want_12 : decode cX9_want 12 = .ok (.getfield 205, 3) := by decide +kernel
theorem dX9_want_15 : decode cX9_want 15 = .ok (.iaload, 1) := by decide +kernel
theorem dX9_want_16 : decode cX9_want 16 = .ok (.iload_n 1, 1) := by decide +kernel
theorem dX9_want_17 : decode cX9_want 17 = .ok (.if_icmp .eq 17, 3) := by decide +kernel
theorem dX9_want_20 : decode cX9_want 20 = .ok (.aload_n 0, 1) := by decide +kernel
theorem dX9_want_21 : decode cX9_want 21 = .ok (.iconst 2, 1) := by decide +kernel
theorem dX9_want_22 : decode cX9_want 22 = .ok (.aload_n 0, 1) := by decide +kernel
theorem dX9_want_23 : decode cX9_want 23 = .ok (.getfield 122, 3) := by decide +kernel
theorem dX9_want_26 : decode cX9_want 26 = .ok (.aload_n 0, 1) := by decide +kernel
theorem dX9_want_27 : decode cX9_want 27 = .ok (.getfield 205, 3) := by decide +kernel
theorem dX9_want_30 : decode cX9_want 30 = .ok (.iaload, 1) := by decide +kernel
theorem dX9_want_31 : decode cX9_want 31 = .ok (.invokevirtual 208, 3) := by decide +kernel
theorem dX9_want_34 : decode cX9_want 34 = .ok (.aload_n 0, 1) := by decide +kernel
theorem dX9_want_35 : decode cX9_want 35 = .ok (.getfield 196, 3) := by decide +kernel
theorem dX9_want_38 : decode cX9_want 38 = .ok (.ifCond .ne 13, 3) := by decide +kernel
theorem dX9_want_41 : decode cX9_want 41 = .ok (.aload_n 0, 1) := by decide +kernel
theorem dX9_want_42 : decode cX9_want 42 = .ok (.dup, 1) := by decide +kernel
theorem dX9_want_43 : decode cX9_want 43 = .ok (.getfield 205, 3) := by decide +kernel
theorem dX9_want_46 : decode cX9_want 46 = .ok (.iconst 1, 1) := by decide +kernel
theorem dX9_want_47 : decode cX9_want 47 = .ok (.iadd, 1) := by decide +kernel
theorem dX9_want_48 : decode cX9_want 48 = .ok (.putfield 205, 3) := by decide +kernel
theorem dX9_want_51 : decode cX9_want 51 = .ok (.return_, 1) := by decide +kernel
theorem dX9_wantKind_0 : decode cX9_wantKind 0 = .ok (.aload_n 0, 1) := by decide +kernel
theorem dX9_wantKind_1 : decode cX9_wantKind 1 = .ok (.getfield 196, 3) := by decide +kernel
theorem dX9_wantKind_4 : decode cX9_wantKind 4 = .ok (.ifCond .ne 21, 3) := by decide +kernel
theorem dX9_wantKind_7 : decode cX9_wantKind 7 = .ok (.aload_n 0, 1) := by decide +kernel
theorem dX9_wantKind_8 : decode cX9_wantKind 8 = .ok (.getfield 23, 3) := by decide +kernel
theorem dX9_wantKind_11 : decode cX9_wantKind 11 = .ok (.aload_n 0, 1) := by decide +kernel
theorem dX9_wantKind_12 : decode cX9_wantKind 12 = .ok (.aload_n 0, 1) := by decide +kernel
theorem dX9_wantKind_13 : decode cX9_wantKind 13 = .ok (.getfield 205, 3) := by decide +kernel
theorem dX9_wantKind_16 : decode cX9_wantKind 16 = .ok (.invokevirtual 212, 3) := by decide +kernel
theorem dX9_wantKind_19 : decode cX9_wantKind 19 = .ok (.invokestatic 216, 3) := by decide +kernel
theorem dX9_wantKind_22 : decode cX9_wantKind 22 = .ok (.goto 4, 3) := by decide +kernel
theorem dX9_wantKind_25 : decode cX9_wantKind 25 = .ok (.iconst (-1), 1) := by decide +kernel
theorem dX9_wantKind_26 : decode cX9_wantKind 26 = .ok (.istore_n 1, 1) := by decide +kernel
theorem dX9_wantKind_27 : decode cX9_wantKind 27 = .ok (.aload_n 0, 1) := by decide +kernel
theorem dX9_wantKind_28 : decode cX9_wantKind 28 = .ok (.getfield 196, 3) := by decide +kernel
theorem dX9_wantKind_31 : decode cX9_wantKind 31 = .ok (.ifCond .ne 21, 3) := by decide +kernel
theorem dX9_wantKind_34 : decode cX9_wantKind 34 = .ok (.iload_n 1, 1) := by decide +kernel
theorem dX9_wantKind_35 : decode cX9_wantKind 35 = .ok (.ifCond .ge 17, 3) := by decide +kernel
theorem dX9_wantKind_38 : decode cX9_wantKind 38 = .ok (.aload_n 0, 1) := by decide +kernel
theorem dX9_wantKind_39 : decode cX9_wantKind 39 = .ok (.iconst 2, 1) := by decide +kernel
theorem dX9_wantKind_40 : decode cX9_wantKind 40 = .ok (.aload_n 0, 1) := by decide +kernel
theorem dX9_wantKind_41 : decode cX9_wantKind 41 = .ok (.getfield 122, 3) := by decide +kernel
theorem dX9_wantKind_44 : decode cX9_wantKind 44 = .ok (.aload_n 0, 1) := by decide +kernel
theorem dX9_wantKind_45 : decode cX9_wantKind 45 = .ok (.getfield 205, 3) := by decide +kernel
theorem dX9_wantKind_48 : decode cX9_wantKind 48 = .ok (.iaload, 1) := by decide +kernel
theorem dX9_wantKind_49 : decode cX9_wantKind 49 = .ok (.invokevirtual 208, 3) := by decide +kernel
theorem dX9_wantKind_52 : decode cX9_wantKind 52 = .ok (.aload_n 0, 1) := by decide +kernel
theorem dX9_wantKind_53 : decode cX9_wantKind 53 = .ok (.getfield 196, 3) := by decide +kernel
theorem dX9_wantKind_56 : decode cX9_wantKind 56 = .ok (.ifCond .ne 13, 3) := by decide +kernel
theorem dX9_wantKind_59 : decode cX9_wantKind 59 = .ok (.aload_n 0, 1) := by decide +kernel
theorem dX9_wantKind_60 : decode cX9_wantKind 60 = .ok (.dup, 1) := by decide +kernel
theorem dX9_wantKind_61 : decode cX9_wantKind 61 = .ok (.getfield 205, 3) := by decide +kernel
theorem dX9_wantKind_64 : decode cX9_wantKind 64 = .ok (.iconst 1, 1) := by decide +kernel
theorem dX9_wantKind_65 : decode cX9_wantKind 65 = .ok (.iadd, 1) := by decide +kernel
theorem dX9_wantKind_66 : decode cX9_wantKind 66 = .ok (.putfield 205, 3) := by decide +kernel
theorem dX9_wantKind_69 : decode cX9_wantKind 69 = .ok (.iload_n 1, 1) := by decide +kernel
theorem dX9_wantKind_70 : decode cX9_wantKind 70 = .ok (.ireturn, 1) := by decide +kernel
theorem dX9_copyName_0 : decode cX9_copyName 0 = .ok (.iconst 0, 1) := by decide +kernel
theorem dX9_copyName_1 : decode cX9_copyName 1 = .ok (.istore 4, 2) := by decide +kernel
theorem dX9_copyName_3 : decode cX9_copyName 3 = .ok (.iload 4, 2) := by decide +kernel
theorem dX9_copyName_5 : decode cX9_copyName 5 = .ok (.aload_n 0, 1) := by decide +kernel
theorem dX9_copyName_6 : decode cX9_copyName 6 = .ok (.getfield 125, 3) := by decide +kernel
theorem dX9_copyName_9 : decode cX9_copyName 9 = .ok (.iload_n 1, 1) := by decide +kernel
theorem dX9_copyName_10 : decode cX9_copyName 10 = .ok (.iaload, 1) := by decide +kernel
theorem dX9_copyName_11 : decode cX9_copyName 11 = .ok (.if_icmp .ge 29, 3) := by decide +kernel
theorem dX9_copyName_14 : decode cX9_copyName 14 = .ok (.aload_n 2, 1) := by decide +kernel
theorem dX9_copyName_15 : decode cX9_copyName 15 = .ok (.iload_n 3, 1) := by decide +kernel
theorem dX9_copyName_16 : decode cX9_copyName 16 = .ok (.iload 4, 2) := by decide +kernel
theorem dX9_copyName_18 : decode cX9_copyName 18 = .ok (.iadd, 1) := by decide +kernel
theorem dX9_copyName_19 : decode cX9_copyName 19 = .ok (.aload_n 0, 1) := by decide +kernel
theorem dX9_copyName_20 : decode cX9_copyName 20 = .ok (.getfield 46, 3) := by decide +kernel
theorem dX9_copyName_23 : decode cX9_copyName 23 = .ok (.aload_n 0, 1) := by decide +kernel
theorem dX9_copyName_24 : decode cX9_copyName 24 = .ok (.getfield 122, 3) := by decide +kernel
theorem dX9_copyName_27 : decode cX9_copyName 27 = .ok (.iload_n 1, 1) := by decide +kernel
theorem dX9_copyName_28 : decode cX9_copyName 28 = .ok (.iaload, 1) := by decide +kernel
theorem dX9_copyName_29 : decode cX9_copyName 29 = .ok (.iload 4, 2) := by decide +kernel
theorem dX9_copyName_31 : decode cX9_copyName 31 = .ok (.iadd, 1) := by decide +kernel
theorem dX9_copyName_32 : decode cX9_copyName 32 = .ok (.baload, 1) := by decide +kernel
theorem dX9_copyName_33 : decode cX9_copyName 33 = .ok (.bastore, 1) := by decide +kernel
theorem dX9_copyName_34 : decode cX9_copyName 34 = .ok (.iinc 4 1, 3) := by decide +kernel
theorem dX9_copyName_37 : decode cX9_copyName 37 = .ok (.goto (-34), 3) := by decide +kernel
theorem dX9_copyName_40 : decode cX9_copyName 40 = .ok (.return_, 1) := by decide +kernel
theorem dX9_wantPath_0 : decode cX9_wantPath 0 = .ok (.iconst 0, 1) := by decide +kernel
theorem dX9_wantPath_1 : decode cX9_wantPath 1 = .ok (.istore_n 1, 1) := by decide +kernel
theorem dX9_wantPath_2 : decode cX9_wantPath 2 = .ok (.iconst 1, 1) := by decide +kernel
theorem dX9_wantPath_3 : decode cX9_wantPath 3 = .ok (.istore_n 2, 1) := by decide +kernel
theorem dX9_wantPath_4 : decode cX9_wantPath 4 = .ok (.iload_n 2, 1) := by decide +kernel
theorem dX9_wantPath_5 : decode cX9_wantPath 5 = .ok (.ifCond .eq 62, 3) := by decide +kernel
theorem dX9_wantPath_8 : decode cX9_wantPath 8 = .ok (.aload_n 0, 1) := by decide +kernel
theorem dX9_wantPath_9 : decode cX9_wantPath 9 = .ok (.getfield 196, 3) := by decide +kernel
theorem dX9_wantPath_12 : decode cX9_wantPath 12 = .ok (.ifCond .ne 55, 3) := by decide +kernel
theorem dX9_wantPath_15 : decode cX9_wantPath 15 = .ok (.aload_n 0, 1) := by decide +kernel
theorem dX9_wantPath_16 : decode cX9_wantPath 16 = .ok (.iconst 1, 1) := by decide +kernel
theorem dX9_wantPath_17 : decode cX9_wantPath 17 = .ok (.invokevirtual 220, 3) := by decide +kernel
theorem dX9_wantPath_20 : decode cX9_wantPath 20 = .ok (.iinc 1 1, 3) := by decide +kernel
theorem dX9_wantPath_23 : decode cX9_wantPath 23 = .ok (.aload_n 0, 1) := by decide +kernel
theorem dX9_wantPath_24 : decode cX9_wantPath 24 = .ok (.getfield 196, 3) := by decide +kernel
theorem dX9_wantPath_27 : decode cX9_wantPath 27 = .ok (.ifCond .ne 21, 3) := by decide +kernel
theorem dX9_wantPath_30 : decode cX9_wantPath 30 = .ok (.aload_n 0, 1) := by decide +kernel
theorem dX9_wantPath_31 : decode cX9_wantPath 31 = .ok (.getfield 119, 3) := by decide +kernel
theorem dX9_wantPath_34 : decode cX9_wantPath 34 = .ok (.aload_n 0, 1) := by decide +kernel
theorem dX9_wantPath_35 : decode cX9_wantPath 35 = .ok (.getfield 205, 3) := by decide +kernel
theorem dX9_wantPath_38 : decode cX9_wantPath 38 = .ok (.iaload, 1) := by decide +kernel
theorem dX9_wantPath_39 : decode cX9_wantPath 39 = .ok (.bipush 46, 2) := by decide +kernel
theorem dX9_wantPath_41 : decode cX9_wantPath 41 = .ok (.if_icmp .ne 7, 3) := by decide +kernel
theorem dX9_wantPath_44 : decode cX9_wantPath 44 = .ok (.iconst 1, 1) := by decide +kernel
theorem dX9_wantPath_45 : decode cX9_wantPath 45 = .ok (.goto 4, 3) := by decide +kernel
theorem dX9_wantPath_48 : decode cX9_wantPath 48 = .ok (.iconst 0, 1) := by decide +kernel
theorem dX9_wantPath_49 : decode cX9_wantPath 49 = .ok (.istore_n 2, 1) := by decide +kernel
theorem dX9_wantPath_50 : decode cX9_wantPath 50 = .ok (.iload_n 2, 1) := by decide +kernel
theorem dX9_wantPath_51 : decode cX9_wantPath 51 = .ok (.ifCond .eq (-47), 3) := by decide +kernel
theorem dX9_wantPath_54 : decode cX9_wantPath 54 = .ok (.aload_n 0, 1) := by decide +kernel
theorem dX9_wantPath_55 : decode cX9_wantPath 55 = .ok (.dup, 1) := by decide +kernel
theorem dX9_wantPath_56 : decode cX9_wantPath 56 = .ok (.getfield 205, 3) := by decide +kernel
theorem dX9_wantPath_59 : decode cX9_wantPath 59 = .ok (.iconst 1, 1) := by decide +kernel
theorem dX9_wantPath_60 : decode cX9_wantPath 60 = .ok (.iadd, 1) := by decide +kernel
theorem dX9_wantPath_61 : decode cX9_wantPath 61 = .ok (.putfield 205, 3) := by decide +kernel
theorem dX9_wantPath_64 : decode cX9_wantPath 64 = .ok (.goto (-60), 3) := by decide +kernel
theorem dX9_wantPath_67 : decode cX9_wantPath 67 = .ok (.iload_n 1, 1) := by decide +kernel
theorem dX9_wantPath_68 : decode cX9_wantPath 68 = .ok (.ireturn, 1) := by decide +kernel
theorem dX9_mayHave_0 : decode cX9_mayHave 0 = .ok (.iload_n 2, 1) := by decide +kernel
theorem dX9_mayHave_1 : decode cX9_mayHave 1 = .ok (.tableswitch 68 0 5 #[39, 39, 50, 61, 39, 50], 39) := by decide +kernel
theorem dX9_mayHave_40 : decode cX9_mayHave 40 = .ok (.iload_n 1, 1) := by decide +kernel
theorem dX9_mayHave_41 : decode cX9_mayHave 41 = .ok (.iconst 4, 1) := by decide +kernel
theorem dX9_mayHave_42 : decode cX9_mayHave 42 = .ok (.if_icmp .gt 7, 3) := by decide +kernel
theorem dX9_mayHave_45 : decode cX9_mayHave 45 = .ok (.iconst 1, 1) := by decide +kernel
theorem dX9_mayHave_46 : decode cX9_mayHave 46 = .ok (.goto 4, 3) := by decide +kernel
theorem dX9_mayHave_49 : decode cX9_mayHave 49 = .ok (.iconst 0, 1) := by decide +kernel
theorem dX9_mayHave_50 : decode cX9_mayHave 50 = .ok (.ireturn, 1) := by decide +kernel
theorem dX9_mayHave_51 : decode cX9_mayHave 51 = .ok (.iload_n 1, 1) := by decide +kernel
theorem dX9_mayHave_52 : decode cX9_mayHave 52 = .ok (.iconst 1, 1) := by decide +kernel
theorem dX9_mayHave_53 : decode cX9_mayHave 53 = .ok (.if_icmp .ne 7, 3) := by decide +kernel
theorem dX9_mayHave_56 : decode cX9_mayHave 56 = .ok (.iconst 1, 1) := by decide +kernel
theorem dX9_mayHave_57 : decode cX9_mayHave 57 = .ok (.goto 4, 3) := by decide +kernel
theorem dX9_mayHave_60 : decode cX9_mayHave 60 = .ok (.iconst 0, 1) := by decide +kernel
theorem dX9_mayHave_61 : decode cX9_mayHave 61 = .ok (.ireturn, 1) := by decide +kernel
theorem dX9_mayHave_62 : decode cX9_mayHave 62 = .ok (.iload_n 1, 1) := by decide +kernel
theorem dX9_mayHave_63 : decode cX9_mayHave 63 = .ok (.iconst 2, 1) := by decide +kernel
theorem dX9_mayHave_64 : decode cX9_mayHave 64 = .ok (.iconst 4, 1) := by decide +kernel
theorem dX9_mayHave_65 : decode cX9_mayHave 65 = .ok (.invokestatic 173, 3) := by decide +kernel
theorem dX9_mayHave_68 : decode cX9_mayHave 68 = .ok (.ireturn, 1) := by decide +kernel
theorem dX9_mayHave_69 : decode cX9_mayHave 69 = .ok (.iload_n 1, 1) := by decide +kernel
theorem dX9_mayHave_70 : decode cX9_mayHave 70 = .ok (.bipush 7, 2) := by decide +kernel
theorem dX9_mayHave_72 : decode cX9_mayHave 72 = .ok (.if_icmp .ne 7, 3) := by decide +kernel
theorem dX9_mayHave_75 : decode cX9_mayHave 75 = .ok (.iconst 1, 1) := by decide +kernel
theorem dX9_mayHave_76 : decode cX9_mayHave 76 = .ok (.goto 4, 3) := by decide +kernel
theorem dX9_mayHave_79 : decode cX9_mayHave 79 = .ok (.iconst 0, 1) := by decide +kernel
theorem dX9_mayHave_80 : decode cX9_mayHave 80 = .ok (.ireturn, 1) := by decide +kernel
theorem dX9_option_0 : decode cX9_option 0 = .ok (.aload_n 0, 1) := by decide +kernel
theorem dX9_option_1 : decode cX9_option 1 = .ok (.getfield 43, 3) := by decide +kernel
theorem dX9_option_4 : decode cX9_option 4 = .ok (.aload_n 0, 1) := by decide +kernel
theorem dX9_option_5 : decode cX9_option 5 = .ok (.aload_n 0, 1) := by decide +kernel
theorem dX9_option_6 : decode cX9_option 6 = .ok (.getfield 205, 3) := by decide +kernel
theorem dX9_option_9 : decode cX9_option 9 = .ok (.invokevirtual 212, 3) := by decide +kernel
theorem dX9_option_12 : decode cX9_option 12 = .ok (.invokestatic 216, 3) := by decide +kernel
theorem dX9_option_15 : decode cX9_option 15 = .ok (.istore_n 3, 1) := by decide +kernel
theorem dX9_option_16 : decode cX9_option 16 = .ok (.iload_n 3, 1) := by decide +kernel
theorem dX9_option_17 : decode cX9_option 17 = .ok (.ifCond .ge 18, 3) := by decide +kernel
theorem dX9_option_20 : decode cX9_option 20 = .ok (.aload_n 0, 1) := by decide +kernel
theorem dX9_option_21 : decode cX9_option 21 = .ok (.iconst 2, 1) := by decide +kernel
theorem dX9_option_22 : decode cX9_option 22 = .ok (.aload_n 0, 1) := by decide +kernel
theorem dX9_option_23 : decode cX9_option 23 = .ok (.getfield 122, 3) := by decide +kernel
theorem dX9_option_26 : decode cX9_option 26 = .ok (.aload_n 0, 1) := by decide +kernel
theorem dX9_option_27 : decode cX9_option 27 = .ok (.getfield 205, 3) := by decide +kernel
theorem dX9_option_30 : decode cX9_option 30 = .ok (.iaload, 1) := by decide +kernel
theorem dX9_option_31 : decode cX9_option 31 = .ok (.invokevirtual 208, 3) := by decide +kernel
theorem dX9_option_34 : decode cX9_option 34 = .ok (.return_, 1) := by decide +kernel
theorem dX9_option_35 : decode cX9_option 35 = .ok (.aload_n 0, 1) := by decide +kernel
theorem dX9_option_36 : decode cX9_option 36 = .ok (.getfield 205, 3) := by decide +kernel
theorem dX9_option_39 : decode cX9_option 39 = .ok (.istore 4, 2) := by decide +kernel
theorem dX9_option_41 : decode cX9_option 41 = .ok (.aload_n 0, 1) := by decide +kernel
theorem dX9_option_42 : decode cX9_option 42 = .ok (.getfield 79, 3) := by decide +kernel
theorem dX9_option_45 : decode cX9_option 45 = .ok (.iload_n 1, 1) := by decide +kernel
theorem dX9_option_46 : decode cX9_option 46 = .ok (.iaload, 1) := by decide +kernel
theorem dX9_option_47 : decode cX9_option 47 = .ok (.iload_n 3, 1) := by decide +kernel
theorem dX9_option_48 : decode cX9_option 48 = .ok (.ishr, 1) := by decide +kernel
theorem dX9_option_49 : decode cX9_option 49 = .ok (.iconst 1, 1) := by decide +kernel
theorem dX9_option_50 : decode cX9_option 50 = .ok (.iand, 1) := by decide +kernel
theorem dX9_option_51 : decode cX9_option 51 = .ok (.iconst 1, 1) := by decide +kernel
theorem dX9_option_52 : decode cX9_option 52 = .ok (.if_icmp .ne 7, 3) := by decide +kernel
theorem dX9_option_55 : decode cX9_option 55 = .ok (.iconst 1, 1) := by decide +kernel
theorem dX9_option_56 : decode cX9_option 56 = .ok (.goto 4, 3) := by decide +kernel
theorem dX9_option_59 : decode cX9_option 59 = .ok (.iconst 0, 1) := by decide +kernel
theorem dX9_option_60 : decode cX9_option 60 = .ok (.istore 5, 2) := by decide +kernel
theorem dX9_option_62 : decode cX9_option 62 = .ok (.iload 5, 2) := by decide +kernel
theorem dX9_option_64 : decode cX9_option 64 = .ok (.ifCond .ne 17, 3) := by decide +kernel
theorem dX9_option_67 : decode cX9_option 67 = .ok (.aload_n 0, 1) := by decide +kernel
theorem dX9_option_68 : decode cX9_option 68 = .ok (.aload_n 0, 1) := by decide +kernel
theorem dX9_option_69 : decode cX9_option 69 = .ok (.getfield 76, 3) := by decide +kernel
theorem dX9_option_72 : decode cX9_option 72 = .ok (.iload_n 1, 1) := by decide +kernel
theorem dX9_option_73 : decode cX9_option 73 = .ok (.iaload, 1) := by decide +kernel
theorem dX9_option_74 : decode cX9_option 74 = .ok (.iload_n 3, 1) := by decide +kernel
theorem dX9_option_75 : decode cX9_option 75 = .ok (.invokevirtual 224, 3) := by decide +kernel
theorem dX9_option_78 : decode cX9_option 78 = .ok (.ifCond .ne 15, 3) := by decide +kernel
theorem dX9_option_81 : decode cX9_option 81 = .ok (.aload_n 0, 1) := by decide +kernel
theorem dX9_option_82 : decode cX9_option 82 = .ok (.iconst 5, 1) := by decide +kernel
theorem dX9_option_83 : decode cX9_option 83 = .ok (.aload_n 0, 1) := by decide +kernel
theorem dX9_option_84 : decode cX9_option 84 = .ok (.getfield 122, 3) := by decide +kernel
theorem dX9_option_87 : decode cX9_option 87 = .ok (.iload 4, 2) := by decide +kernel
theorem dX9_option_89 : decode cX9_option 89 = .ok (.iaload, 1) := by decide +kernel
theorem dX9_option_90 : decode cX9_option 90 = .ok (.invokevirtual 228, 3) := by decide +kernel
theorem dX9_option_93 : decode cX9_option 93 = .ok (.aload_n 0, 1) := by decide +kernel
theorem dX9_option_94 : decode cX9_option 94 = .ok (.getfield 79, 3) := by decide +kernel
theorem dX9_option_97 : decode cX9_option 97 = .ok (.iload_n 1, 1) := by decide +kernel
theorem dX9_option_98 : decode cX9_option 98 = .ok (.aload_n 0, 1) := by decide +kernel
theorem dX9_option_99 : decode cX9_option 99 = .ok (.getfield 79, 3) := by decide +kernel
theorem dX9_option_102 : decode cX9_option 102 = .ok (.iload_n 1, 1) := by decide +kernel
theorem dX9_option_103 : decode cX9_option 103 = .ok (.iaload, 1) := by decide +kernel
theorem dX9_option_104 : decode cX9_option 104 = .ok (.iconst 1, 1) := by decide +kernel
theorem dX9_option_105 : decode cX9_option 105 = .ok (.iload_n 3, 1) := by decide +kernel
theorem dX9_option_106 : decode cX9_option 106 = .ok (.ishl, 1) := by decide +kernel
theorem dX9_option_107 : decode cX9_option 107 = .ok (.ior, 1) := by decide +kernel
theorem dX9_option_108 : decode cX9_option 108 = .ok (.iastore, 1) := by decide +kernel
theorem dX9_option_109 : decode cX9_option 109 = .ok (.aload_n 0, 1) := by decide +kernel
theorem dX9_option_110 : decode cX9_option 110 = .ok (.dup, 1) := by decide +kernel
theorem dX9_option_111 : decode cX9_option 111 = .ok (.getfield 205, 3) := by decide +kernel
theorem dX9_option_114 : decode cX9_option 114 = .ok (.iconst 1, 1) := by decide +kernel
theorem dX9_option_115 : decode cX9_option 115 = .ok (.iadd, 1) := by decide +kernel
theorem dX9_option_116 : decode cX9_option 116 = .ok (.putfield 205, 3) := by decide +kernel
theorem dX9_option_119 : decode cX9_option 119 = .ok (.iload_n 3, 1) := by decide +kernel
theorem dX9_option_120 : decode cX9_option 120 = .ok (.iconst 3, 1) := by decide +kernel
theorem dX9_option_121 : decode cX9_option 121 = .ok (.if_icmp .ge 4, 3) := by decide +kernel
theorem dX9_option_124 : decode cX9_option 124 = .ok (.return_, 1) := by decide +kernel
theorem dX9_option_125 : decode cX9_option 125 = .ok (.aload_n 0, 1) := by decide +kernel
theorem dX9_option_126 : decode cX9_option 126 = .ok (.bipush 61, 2) := by decide +kernel
theorem dX9_option_128 : decode cX9_option 128 = .ok (.invokevirtual 220, 3) := by decide +kernel
theorem dX9_option_131 : decode cX9_option 131 = .ok (.aload_n 0, 1) := by decide +kernel
theorem dX9_option_132 : decode cX9_option 132 = .ok (.getfield 205, 3) := by decide +kernel
theorem dX9_option_135 : decode cX9_option 135 = .ok (.istore 6, 2) := by decide +kernel
theorem dX9_option_137 : decode cX9_option 137 = .ok (.iload_n 3, 1) := by decide +kernel
theorem dX9_option_138 : decode cX9_option 138 = .ok (.iconst 3, 1) := by decide +kernel
theorem dX9_option_139 : decode cX9_option 139 = .ok (.if_icmp .ne 62, 3) := by decide +kernel
theorem dX9_option_142 : decode cX9_option 142 = .ok (.aload_n 0, 1) := by decide +kernel
theorem dX9_option_143 : decode cX9_option 143 = .ok (.iconst 2, 1) := by decide +kernel
theorem dX9_option_144 : decode cX9_option 144 = .ok (.invokevirtual 220, 3) := by decide +kernel
theorem dX9_option_147 : decode cX9_option 147 = .ok (.aload_n 0, 1) := by decide +kernel
theorem dX9_option_148 : decode cX9_option 148 = .ok (.getfield 196, 3) := by decide +kernel
theorem dX9_option_151 : decode cX9_option 151 = .ok (.ifCond .ne 173, 3) := by decide +kernel
theorem dX9_option_154 : decode cX9_option 154 = .ok (.aload_n 0, 1) := by decide +kernel
theorem dX9_option_155 : decode cX9_option 155 = .ok (.getfield 82, 3) := by decide +kernel
theorem dX9_option_158 : decode cX9_option 158 = .ok (.iload_n 1, 1) := by decide +kernel
theorem dX9_option_159 : decode cX9_option 159 = .ok (.aload_n 0, 1) := by decide +kernel
theorem dX9_option_160 : decode cX9_option 160 = .ok (.iload 6, 2) := by decide +kernel
theorem dX9_option_162 : decode cX9_option 162 = .ok (.invokevirtual 231, 3) := by decide +kernel
theorem dX9_option_165 : decode cX9_option 165 = .ok (.iastore, 1) := by decide +kernel
theorem dX9_option_166 : decode cX9_option 166 = .ok (.aload_n 0, 1) := by decide +kernel
theorem dX9_option_167 : decode cX9_option 167 = .ok (.getfield 76, 3) := by decide +kernel
theorem dX9_option_170 : decode cX9_option 170 = .ok (.iload_n 1, 1) := by decide +kernel
theorem dX9_option_171 : decode cX9_option 171 = .ok (.iaload, 1) := by decide +kernel
theorem dX9_option_172 : decode cX9_option 172 = .ok (.iconst 4, 1) := by decide +kernel
theorem dX9_option_173 : decode cX9_option 173 = .ok (.if_icmp .ne 151, 3) := by decide +kernel
theorem dX9_option_176 : decode cX9_option 176 = .ok (.aload_n 0, 1) := by decide +kernel
theorem dX9_option_177 : decode cX9_option 177 = .ok (.getfield 82, 3) := by decide +kernel
theorem dX9_option_180 : decode cX9_option 180 = .ok (.iload_n 1, 1) := by decide +kernel
theorem dX9_option_181 : decode cX9_option 181 = .ok (.iaload, 1) := by decide +kernel
theorem dX9_option_182 : decode cX9_option 182 = .ok (.iconst 1, 1) := by decide +kernel
theorem dX9_option_183 : decode cX9_option 183 = .ok (.if_icmp .le 141, 3) := by decide +kernel
theorem dX9_option_186 : decode cX9_option 186 = .ok (.aload_n 0, 1) := by decide +kernel
theorem dX9_option_187 : decode cX9_option 187 = .ok (.iconst 5, 1) := by decide +kernel
theorem dX9_option_188 : decode cX9_option 188 = .ok (.aload_n 0, 1) := by decide +kernel
theorem dX9_option_189 : decode cX9_option 189 = .ok (.getfield 122, 3) := by decide +kernel
theorem dX9_option_192 : decode cX9_option 192 = .ok (.iload 6, 2) := by decide +kernel
theorem dX9_option_194 : decode cX9_option 194 = .ok (.iaload, 1) := by decide +kernel
theorem dX9_option_195 : decode cX9_option 195 = .ok (.invokevirtual 228, 3) := by decide +kernel
theorem dX9_option_198 : decode cX9_option 198 = .ok (.goto 126, 3) := by decide +kernel
theorem dX9_option_201 : decode cX9_option 201 = .ok (.iload_n 3, 1) := by decide +kernel
theorem dX9_option_202 : decode cX9_option 202 = .ok (.iconst 5, 1) := by decide +kernel
theorem dX9_option_203 : decode cX9_option 203 = .ok (.if_icmp .ne 45, 3) := by decide +kernel
theorem dX9_option_206 : decode cX9_option 206 = .ok (.aload_n 0, 1) := by decide +kernel
theorem dX9_option_207 : decode cX9_option 207 = .ok (.iconst 1, 1) := by decide +kernel
theorem dX9_option_208 : decode cX9_option 208 = .ok (.invokevirtual 220, 3) := by decide +kernel
theorem dX9_option_211 : decode cX9_option 211 = .ok (.aload_n 0, 1) := by decide +kernel
theorem dX9_option_212 : decode cX9_option 212 = .ok (.getfield 196, 3) := by decide +kernel
theorem dX9_option_215 : decode cX9_option 215 = .ok (.ifCond .ne 109, 3) := by decide +kernel
theorem dX9_option_218 : decode cX9_option 218 = .ok (.aload_n 0, 1) := by decide +kernel
theorem dX9_option_219 : decode cX9_option 219 = .ok (.getfield 91, 3) := by decide +kernel
theorem dX9_option_222 : decode cX9_option 222 = .ok (.iload_n 1, 1) := by decide +kernel
theorem dX9_option_223 : decode cX9_option 223 = .ok (.aload_n 0, 1) := by decide +kernel
theorem dX9_option_224 : decode cX9_option 224 = .ok (.getfield 125, 3) := by decide +kernel
theorem dX9_option_227 : decode cX9_option 227 = .ok (.iload 6, 2) := by decide +kernel
theorem dX9_option_229 : decode cX9_option 229 = .ok (.iaload, 1) := by decide +kernel
theorem dX9_option_230 : decode cX9_option 230 = .ok (.iastore, 1) := by decide +kernel
theorem dX9_option_231 : decode cX9_option 231 = .ok (.aload_n 0, 1) := by decide +kernel
theorem dX9_option_232 : decode cX9_option 232 = .ok (.iload 6, 2) := by decide +kernel
theorem dX9_option_234 : decode cX9_option 234 = .ok (.aload_n 0, 1) := by decide +kernel
theorem dX9_option_235 : decode cX9_option 235 = .ok (.getfield 94, 3) := by decide +kernel
theorem dX9_option_238 : decode cX9_option 238 = .ok (.bipush 12, 2) := by decide +kernel
theorem dX9_option_240 : decode cX9_option 240 = .ok (.iload_n 1, 1) := by decide +kernel
theorem dX9_option_241 : decode cX9_option 241 = .ok (.imul, 1) := by decide +kernel
theorem dX9_option_242 : decode cX9_option 242 = .ok (.invokevirtual 235, 3) := by decide +kernel
theorem dX9_option_245 : decode cX9_option 245 = .ok (.goto 79, 3) := by decide +kernel
theorem dX9_option_248 : decode cX9_option 248 = .ok (.aload_n 0, 1) := by decide +kernel
theorem dX9_option_249 : decode cX9_option 249 = .ok (.invokevirtual 239, 3) := by decide +kernel
theorem dX9_option_252 : decode cX9_option 252 = .ok (.istore 7, 2) := by decide +kernel
theorem dX9_option_254 : decode cX9_option 254 = .ok (.aload_n 0, 1) := by decide +kernel
theorem dX9_option_255 : decode cX9_option 255 = .ok (.getfield 196, 3) := by decide +kernel
theorem dX9_option_258 : decode cX9_option 258 = .ok (.ifCond .ne 66, 3) := by decide +kernel
theorem dX9_option_261 : decode cX9_option 261 = .ok (.aload_n 0, 1) := by decide +kernel
theorem dX9_option_262 : decode cX9_option 262 = .ok (.getfield 128, 3) := by decide +kernel
theorem dX9_option_265 : decode cX9_option 265 = .ok (.aload_n 0, 1) := by decide +kernel
theorem dX9_option_266 : decode cX9_option 266 = .ok (.getfield 243, 3) := by decide +kernel
theorem dX9_option_269 : decode cX9_option 269 = .ok (.iload_n 2, 1) := by decide +kernel
theorem dX9_option_270 : decode cX9_option 270 = .ok (.iastore, 1) := by decide +kernel
theorem dX9_option_271 : decode cX9_option 271 = .ok (.aload_n 0, 1) := by decide +kernel
theorem dX9_option_272 : decode cX9_option 272 = .ok (.getfield 131, 3) := by decide +kernel
theorem dX9_option_275 : decode cX9_option 275 = .ok (.aload_n 0, 1) := by decide +kernel
theorem dX9_option_276 : decode cX9_option 276 = .ok (.getfield 243, 3) := by decide +kernel
theorem dX9_option_279 : decode cX9_option 279 = .ok (.iload_n 3, 1) := by decide +kernel
theorem dX9_option_280 : decode cX9_option 280 = .ok (.iastore, 1) := by decide +kernel
theorem dX9_option_281 : decode cX9_option 281 = .ok (.aload_n 0, 1) := by decide +kernel
theorem dX9_option_282 : decode cX9_option 282 = .ok (.getfield 134, 3) := by decide +kernel
theorem dX9_option_285 : decode cX9_option 285 = .ok (.aload_n 0, 1) := by decide +kernel
theorem dX9_option_286 : decode cX9_option 286 = .ok (.getfield 243, 3) := by decide +kernel
theorem dX9_option_289 : decode cX9_option 289 = .ok (.iload 6, 2) := by decide +kernel
theorem dX9_option_291 : decode cX9_option 291 = .ok (.iastore, 1) := by decide +kernel
theorem dX9_option_292 : decode cX9_option 292 = .ok (.aload_n 0, 1) := by decide +kernel
theorem dX9_option_293 : decode cX9_option 293 = .ok (.getfield 137, 3) := by decide +kernel
theorem dX9_option_296 : decode cX9_option 296 = .ok (.aload_n 0, 1) := by decide +kernel
theorem dX9_option_297 : decode cX9_option 297 = .ok (.getfield 243, 3) := by decide +kernel
theorem dX9_option_300 : decode cX9_option 300 = .ok (.iload 7, 2) := by decide +kernel
theorem dX9_option_302 : decode cX9_option 302 = .ok (.iastore, 1) := by decide +kernel
theorem dX9_option_303 : decode cX9_option 303 = .ok (.aload_n 0, 1) := by decide +kernel
theorem dX9_option_304 : decode cX9_option 304 = .ok (.getfield 140, 3) := by decide +kernel
theorem dX9_option_307 : decode cX9_option 307 = .ok (.aload_n 0, 1) := by decide +kernel
theorem dX9_option_308 : decode cX9_option 308 = .ok (.getfield 243, 3) := by decide +kernel
theorem dX9_option_311 : decode cX9_option 311 = .ok (.iload 4, 2) := by decide +kernel
theorem dX9_option_313 : decode cX9_option 313 = .ok (.iastore, 1) := by decide +kernel
theorem dX9_option_314 : decode cX9_option 314 = .ok (.aload_n 0, 1) := by decide +kernel
theorem dX9_option_315 : decode cX9_option 315 = .ok (.dup, 1) := by decide +kernel
theorem dX9_option_316 : decode cX9_option 316 = .ok (.getfield 243, 3) := by decide +kernel
theorem dX9_option_319 : decode cX9_option 319 = .ok (.iconst 1, 1) := by decide +kernel
theorem dX9_option_320 : decode cX9_option 320 = .ok (.iadd, 1) := by decide +kernel
theorem dX9_option_321 : decode cX9_option 321 = .ok (.putfield 243, 3) := by decide +kernel
theorem dX9_option_324 : decode cX9_option 324 = .ok (.return_, 1) := by decide +kernel
theorem dX9_field_0 : decode cX9_field 0 = .ok (.aload_n 0, 1) := by decide +kernel
theorem dX9_field_1 : decode cX9_field 1 = .ok (.getfield 60, 3) := by decide +kernel
theorem dX9_field_4 : decode cX9_field 4 = .ok (.iload_n 1, 1) := by decide +kernel
theorem dX9_field_5 : decode cX9_field 5 = .ok (.iaload, 1) := by decide +kernel
theorem dX9_field_6 : decode cX9_field 6 = .ok (.bipush 40, 2) := by decide +kernel
theorem dX9_field_8 : decode cX9_field 8 = .ok (.if_icmp .ne 18, 3) := by decide +kernel
theorem dX9_field_11 : decode cX9_field 11 = .ok (.aload_n 0, 1) := by decide +kernel
theorem dX9_field_12 : decode cX9_field 12 = .ok (.iconst 3, 1) := by decide +kernel
theorem dX9_field_13 : decode cX9_field 13 = .ok (.aload_n 0, 1) := by decide +kernel
theorem dX9_field_14 : decode cX9_field 14 = .ok (.getfield 122, 3) := by decide +kernel
theorem dX9_field_17 : decode cX9_field 17 = .ok (.aload_n 0, 1) := by decide +kernel
theorem dX9_field_18 : decode cX9_field 18 = .ok (.getfield 205, 3) := by decide +kernel
theorem dX9_field_21 : decode cX9_field 21 = .ok (.iaload, 1) := by decide +kernel
theorem dX9_field_22 : decode cX9_field 22 = .ok (.invokevirtual 208, 3) := by decide +kernel
theorem dX9_field_25 : decode cX9_field 25 = .ok (.return_, 1) := by decide +kernel
theorem dX9_field_26 : decode cX9_field 26 = .ok (.aload_n 0, 1) := by decide +kernel
theorem dX9_field_27 : decode cX9_field 27 = .ok (.getfield 60, 3) := by decide +kernel
theorem dX9_field_30 : decode cX9_field 30 = .ok (.iload_n 1, 1) := by decide +kernel
theorem dX9_field_31 : decode cX9_field 31 = .ok (.iaload, 1) := by decide +kernel
theorem dX9_field_32 : decode cX9_field 32 = .ok (.istore_n 2, 1) := by decide +kernel
theorem dX9_field_33 : decode cX9_field 33 = .ok (.bipush 40, 2) := by decide +kernel
theorem dX9_field_35 : decode cX9_field 35 = .ok (.iload_n 1, 1) := by decide +kernel
theorem dX9_field_36 : decode cX9_field 36 = .ok (.imul, 1) := by decide +kernel
theorem dX9_field_37 : decode cX9_field 37 = .ok (.iload_n 2, 1) := by decide +kernel
theorem dX9_field_38 : decode cX9_field 38 = .ok (.iadd, 1) := by decide +kernel
theorem dX9_field_39 : decode cX9_field 39 = .ok (.istore_n 3, 1) := by decide +kernel
theorem dX9_field_40 : decode cX9_field 40 = .ok (.aload_n 0, 1) := by decide +kernel
theorem dX9_field_41 : decode cX9_field 41 = .ok (.iload_n 3, 1) := by decide +kernel
theorem dX9_field_42 : decode cX9_field 42 = .ok (.invokevirtual 246, 3) := by decide +kernel
theorem dX9_field_45 : decode cX9_field 45 = .ok (.aload_n 0, 1) := by decide +kernel
theorem dX9_field_46 : decode cX9_field 46 = .ok (.getfield 146, 3) := by decide +kernel
theorem dX9_field_49 : decode cX9_field 49 = .ok (.iload_n 2, 1) := by decide +kernel
theorem dX9_field_50 : decode cX9_field 50 = .ok (.aload_n 0, 1) := by decide +kernel
theorem dX9_field_51 : decode cX9_field 51 = .ok (.getfield 205, 3) := by decide +kernel
theorem dX9_field_54 : decode cX9_field 54 = .ok (.iastore, 1) := by decide +kernel
theorem dX9_field_55 : decode cX9_field 55 = .ok (.aload_n 0, 1) := by decide +kernel
theorem dX9_field_56 : decode cX9_field 56 = .ok (.getfield 70, 3) := by decide +kernel
theorem dX9_field_59 : decode cX9_field 59 = .ok (.iload_n 3, 1) := by decide +kernel
theorem dX9_field_60 : decode cX9_field 60 = .ok (.aload_n 0, 1) := by decide +kernel
theorem dX9_field_61 : decode cX9_field 61 = .ok (.getfield 125, 3) := by decide +kernel
theorem dX9_field_64 : decode cX9_field 64 = .ok (.aload_n 0, 1) := by decide +kernel
theorem dX9_field_65 : decode cX9_field 65 = .ok (.getfield 205, 3) := by decide +kernel
theorem dX9_field_68 : decode cX9_field 68 = .ok (.iaload, 1) := by decide +kernel
theorem dX9_field_69 : decode cX9_field 69 = .ok (.iastore, 1) := by decide +kernel
theorem dX9_field_70 : decode cX9_field 70 = .ok (.aload_n 0, 1) := by decide +kernel
theorem dX9_field_71 : decode cX9_field 71 = .ok (.aload_n 0, 1) := by decide +kernel
theorem dX9_field_72 : decode cX9_field 72 = .ok (.getfield 205, 3) := by decide +kernel
theorem dX9_field_75 : decode cX9_field 75 = .ok (.aload_n 0, 1) := by decide +kernel
theorem dX9_field_76 : decode cX9_field 76 = .ok (.getfield 73, 3) := by decide +kernel
theorem dX9_field_79 : decode cX9_field 79 = .ok (.bipush 12, 2) := by decide +kernel
theorem dX9_field_81 : decode cX9_field 81 = .ok (.iload_n 3, 1) := by decide +kernel
theorem dX9_field_82 : decode cX9_field 82 = .ok (.imul, 1) := by decide +kernel
theorem dX9_field_83 : decode cX9_field 83 = .ok (.invokevirtual 235, 3) := by decide +kernel
theorem dX9_field_86 : decode cX9_field 86 = .ok (.aload_n 0, 1) := by decide +kernel
theorem dX9_field_87 : decode cX9_field 87 = .ok (.getfield 97, 3) := by decide +kernel
theorem dX9_field_90 : decode cX9_field 90 = .ok (.iload_n 3, 1) := by decide +kernel
theorem dX9_field_91 : decode cX9_field 91 = .ok (.aload_n 0, 1) := by decide +kernel
theorem dX9_field_92 : decode cX9_field 92 = .ok (.getfield 249, 3) := by decide +kernel
theorem dX9_field_95 : decode cX9_field 95 = .ok (.ifCond .ne 8, 3) := by decide +kernel
theorem dX9_field_98 : decode cX9_field 98 = .ok (.bipush (-2), 2) := by decide +kernel
theorem dX9_field_100 : decode cX9_field 100 = .ok (.goto 14, 3) := by decide +kernel
theorem dX9_field_103 : decode cX9_field 103 = .ok (.aload_n 0, 1) := by decide +kernel
theorem dX9_field_104 : decode cX9_field 104 = .ok (.getfield 149, 3) := by decide +kernel
theorem dX9_field_107 : decode cX9_field 107 = .ok (.aload_n 0, 1) := by decide +kernel
theorem dX9_field_108 : decode cX9_field 108 = .ok (.getfield 249, 3) := by decide +kernel
theorem dX9_field_111 : decode cX9_field 111 = .ok (.iconst 1, 1) := by decide +kernel
theorem dX9_field_112 : decode cX9_field 112 = .ok (.isub, 1) := by decide +kernel
theorem dX9_field_113 : decode cX9_field 113 = .ok (.iaload, 1) := by decide +kernel
theorem dX9_field_114 : decode cX9_field 114 = .ok (.iastore, 1) := by decide +kernel
theorem dX9_field_115 : decode cX9_field 115 = .ok (.iconst 0, 1) := by decide +kernel
theorem dX9_field_116 : decode cX9_field 116 = .ok (.istore 4, 2) := by decide +kernel
theorem dX9_field_118 : decode cX9_field 118 = .ok (.iload 4, 2) := by decide +kernel
theorem dX9_field_120 : decode cX9_field 120 = .ok (.iload_n 2, 1) := by decide +kernel
theorem dX9_field_121 : decode cX9_field 121 = .ok (.if_icmp .ge 59, 3) := by decide +kernel
theorem dX9_field_124 : decode cX9_field 124 = .ok (.aload_n 0, 1) := by decide +kernel
theorem dX9_field_125 : decode cX9_field 125 = .ok (.getfield 97, 3) := by decide +kernel
theorem dX9_field_128 : decode cX9_field 128 = .ok (.bipush 40, 2) := by decide +kernel
theorem dX9_field_130 : decode cX9_field 130 = .ok (.iload_n 1, 1) := by decide +kernel
theorem dX9_field_131 : decode cX9_field 131 = .ok (.imul, 1) := by decide +kernel
theorem dX9_field_132 : decode cX9_field 132 = .ok (.iload 4, 2) := by decide +kernel
theorem dX9_field_134 : decode cX9_field 134 = .ok (.iadd, 1) := by decide +kernel
theorem dX9_field_135 : decode cX9_field 135 = .ok (.iaload, 1) := by decide +kernel
theorem dX9_field_136 : decode cX9_field 136 = .ok (.aload_n 0, 1) := by decide +kernel
theorem dX9_field_137 : decode cX9_field 137 = .ok (.getfield 97, 3) := by decide +kernel
theorem dX9_field_140 : decode cX9_field 140 = .ok (.iload_n 3, 1) := by decide +kernel
theorem dX9_field_141 : decode cX9_field 141 = .ok (.iaload, 1) := by decide +kernel
theorem dX9_field_142 : decode cX9_field 142 = .ok (.if_icmp .ne 32, 3) := by decide +kernel
theorem dX9_field_145 : decode cX9_field 145 = .ok (.aload_n 0, 1) := by decide +kernel
theorem dX9_field_146 : decode cX9_field 146 = .ok (.bipush 40, 2) := by decide +kernel
theorem dX9_field_148 : decode cX9_field 148 = .ok (.iload_n 1, 1) := by decide +kernel
theorem dX9_field_149 : decode cX9_field 149 = .ok (.imul, 1) := by decide +kernel
theorem dX9_field_150 : decode cX9_field 150 = .ok (.iload 4, 2) := by decide +kernel
theorem dX9_field_152 : decode cX9_field 152 = .ok (.iadd, 1) := by decide +kernel
theorem dX9_field_153 : decode cX9_field 153 = .ok (.iload_n 3, 1) := by decide +kernel
theorem dX9_field_154 : decode cX9_field 154 = .ok (.invokevirtual 252, 3) := by decide +kernel
theorem dX9_field_157 : decode cX9_field 157 = .ok (.ifCond .eq 17, 3) := by decide +kernel
theorem dX9_field_160 : decode cX9_field 160 = .ok (.aload_n 0, 1) := by decide +kernel
theorem dX9_field_161 : decode cX9_field 161 = .ok (.iconst 4, 1) := by decide +kernel
theorem dX9_field_162 : decode cX9_field 162 = .ok (.aload_n 0, 1) := by decide +kernel
theorem dX9_field_163 : decode cX9_field 163 = .ok (.getfield 122, 3) := by decide +kernel
theorem dX9_field_166 : decode cX9_field 166 = .ok (.aload_n 0, 1) := by decide +kernel
theorem dX9_field_167 : decode cX9_field 167 = .ok (.getfield 205, 3) := by decide +kernel
theorem dX9_field_170 : decode cX9_field 170 = .ok (.iaload, 1) := by decide +kernel
theorem dX9_field_171 : decode cX9_field 171 = .ok (.invokevirtual 228, 3) := by decide +kernel
theorem dX9_field_174 : decode cX9_field 174 = .ok (.iinc 4 1, 3) := by decide +kernel
theorem dX9_field_177 : decode cX9_field 177 = .ok (.goto (-59), 3) := by decide +kernel
theorem dX9_field_180 : decode cX9_field 180 = .ok (.aload_n 0, 1) := by decide +kernel
theorem dX9_field_181 : decode cX9_field 181 = .ok (.getfield 60, 3) := by decide +kernel
theorem dX9_field_184 : decode cX9_field 184 = .ok (.iload_n 1, 1) := by decide +kernel
theorem dX9_field_185 : decode cX9_field 185 = .ok (.dup2, 1) := by decide +kernel
theorem dX9_field_186 : decode cX9_field 186 = .ok (.iaload, 1) := by decide +kernel
theorem dX9_field_187 : decode cX9_field 187 = .ok (.iconst 1, 1) := by decide +kernel
theorem dX9_field_188 : decode cX9_field 188 = .ok (.iadd, 1) := by decide +kernel
theorem dX9_field_189 : decode cX9_field 189 = .ok (.iastore, 1) := by decide +kernel
theorem dX9_field_190 : decode cX9_field 190 = .ok (.aload_n 0, 1) := by decide +kernel
theorem dX9_field_191 : decode cX9_field 191 = .ok (.dup, 1) := by decide +kernel
theorem dX9_field_192 : decode cX9_field 192 = .ok (.getfield 205, 3) := by decide +kernel
theorem dX9_field_195 : decode cX9_field 195 = .ok (.iconst 1, 1) := by decide +kernel
theorem dX9_field_196 : decode cX9_field 196 = .ok (.iadd, 1) := by decide +kernel
theorem dX9_field_197 : decode cX9_field 197 = .ok (.putfield 205, 3) := by decide +kernel
theorem dX9_field_200 : decode cX9_field 200 = .ok (.aload_n 0, 1) := by decide +kernel
theorem dX9_field_201 : decode cX9_field 201 = .ok (.bipush 58, 2) := by decide +kernel
theorem dX9_field_203 : decode cX9_field 203 = .ok (.invokevirtual 220, 3) := by decide +kernel
theorem dX9_field_206 : decode cX9_field 206 = .ok (.aload_n 0, 1) := by decide +kernel
theorem dX9_field_207 : decode cX9_field 207 = .ok (.getfield 76, 3) := by decide +kernel
theorem dX9_field_210 : decode cX9_field 210 = .ok (.iload_n 3, 1) := by decide +kernel
theorem dX9_field_211 : decode cX9_field 211 = .ok (.aload_n 0, 1) := by decide +kernel
theorem dX9_field_212 : decode cX9_field 212 = .ok (.invokevirtual 255, 3) := by decide +kernel
theorem dX9_field_215 : decode cX9_field 215 = .ok (.iastore, 1) := by decide +kernel
theorem dX9_field_216 : decode cX9_field 216 = .ok (.aload_n 0, 1) := by decide +kernel
theorem dX9_field_217 : decode cX9_field 217 = .ok (.getfield 196, 3) := by decide +kernel
theorem dX9_field_220 : decode cX9_field 220 = .ok (.ifCond .ne 79, 3) := by decide +kernel
theorem dX9_field_223 : decode cX9_field 223 = .ok (.aload_n 0, 1) := by decide +kernel
theorem dX9_field_224 : decode cX9_field 224 = .ok (.getfield 119, 3) := by decide +kernel
theorem dX9_field_227 : decode cX9_field 227 = .ok (.aload_n 0, 1) := by decide +kernel
theorem dX9_field_228 : decode cX9_field 228 = .ok (.getfield 205, 3) := by decide +kernel
theorem dX9_field_231 : decode cX9_field 231 = .ok (.iaload, 1) := by decide +kernel
theorem dX9_field_232 : decode cX9_field 232 = .ok (.bipush 40, 2) := by decide +kernel
theorem dX9_field_234 : decode cX9_field 234 = .ok (.if_icmp .ne 65, 3) := by decide +kernel
theorem dX9_field_237 : decode cX9_field 237 = .ok (.aload_n 0, 1) := by decide +kernel
theorem dX9_field_238 : decode cX9_field 238 = .ok (.dup, 1) := by decide +kernel
theorem dX9_field_239 : decode cX9_field 239 = .ok (.getfield 205, 3) := by decide +kernel
theorem dX9_field_242 : decode cX9_field 242 = .ok (.iconst 1, 1) := by decide +kernel
theorem dX9_field_243 : decode cX9_field 243 = .ok (.iadd, 1) := by decide +kernel
theorem dX9_field_244 : decode cX9_field 244 = .ok (.putfield 205, 3) := by decide +kernel
theorem dX9_field_247 : decode cX9_field 247 = .ok (.aload_n 0, 1) := by decide +kernel
theorem dX9_field_248 : decode cX9_field 248 = .ok (.iload_n 3, 1) := by decide +kernel
theorem dX9_field_249 : decode cX9_field 249 = .ok (.iload_n 2, 1) := by decide +kernel
theorem dX9_field_250 : decode cX9_field 250 = .ok (.invokevirtual 258, 3) := by decide +kernel
theorem dX9_field_253 : decode cX9_field 253 = .ok (.aload_n 0, 1) := by decide +kernel
theorem dX9_field_254 : decode cX9_field 254 = .ok (.getfield 196, 3) := by decide +kernel
theorem dX9_field_257 : decode cX9_field 257 = .ok (.ifCond .ne 36, 3) := by decide +kernel
theorem dX9_field_260 : decode cX9_field 260 = .ok (.aload_n 0, 1) := by decide +kernel
theorem dX9_field_261 : decode cX9_field 261 = .ok (.getfield 119, 3) := by decide +kernel
theorem dX9_field_264 : decode cX9_field 264 = .ok (.aload_n 0, 1) := by decide +kernel
theorem dX9_field_265 : decode cX9_field 265 = .ok (.getfield 205, 3) := by decide +kernel
theorem dX9_field_268 : decode cX9_field 268 = .ok (.iaload, 1) := by decide +kernel
theorem dX9_field_269 : decode cX9_field 269 = .ok (.bipush 44, 2) := by decide +kernel
theorem dX9_field_271 : decode cX9_field 271 = .ok (.if_icmp .ne 22, 3) := by decide +kernel
theorem dX9_field_274 : decode cX9_field 274 = .ok (.aload_n 0, 1) := by decide +kernel
theorem dX9_field_275 : decode cX9_field 275 = .ok (.dup, 1) := by decide +kernel
theorem dX9_field_276 : decode cX9_field 276 = .ok (.getfield 205, 3) := by decide +kernel
theorem dX9_field_279 : decode cX9_field 279 = .ok (.iconst 1, 1) := by decide +kernel
theorem dX9_field_280 : decode cX9_field 280 = .ok (.iadd, 1) := by decide +kernel
theorem dX9_field_281 : decode cX9_field 281 = .ok (.putfield 205, 3) := by decide +kernel
theorem dX9_field_284 : decode cX9_field 284 = .ok (.aload_n 0, 1) := by decide +kernel
theorem dX9_field_285 : decode cX9_field 285 = .ok (.iload_n 3, 1) := by decide +kernel
theorem dX9_field_286 : decode cX9_field 286 = .ok (.iload_n 2, 1) := by decide +kernel
theorem dX9_field_287 : decode cX9_field 287 = .ok (.invokevirtual 258, 3) := by decide +kernel
theorem dX9_field_290 : decode cX9_field 290 = .ok (.goto (-37), 3) := by decide +kernel
theorem dX9_field_293 : decode cX9_field 293 = .ok (.aload_n 0, 1) := by decide +kernel
theorem dX9_field_294 : decode cX9_field 294 = .ok (.bipush 41, 2) := by decide +kernel
theorem dX9_field_296 : decode cX9_field 296 = .ok (.invokevirtual 220, 3) := by decide +kernel
theorem dX9_field_299 : decode cX9_field 299 = .ok (.aload_n 0, 1) := by decide +kernel
theorem dX9_field_300 : decode cX9_field 300 = .ok (.getfield 196, 3) := by decide +kernel
theorem dX9_field_303 : decode cX9_field 303 = .ok (.ifCond .ne 109, 3) := by decide +kernel
theorem dX9_field_306 : decode cX9_field 306 = .ok (.aload_n 0, 1) := by decide +kernel
theorem dX9_field_307 : decode cX9_field 307 = .ok (.getfield 119, 3) := by decide +kernel
theorem dX9_field_310 : decode cX9_field 310 = .ok (.aload_n 0, 1) := by decide +kernel
theorem dX9_field_311 : decode cX9_field 311 = .ok (.getfield 205, 3) := by decide +kernel
theorem dX9_field_314 : decode cX9_field 314 = .ok (.iaload, 1) := by decide +kernel
theorem dX9_field_315 : decode cX9_field 315 = .ok (.bipush 123, 2) := by decide +kernel
theorem dX9_field_317 : decode cX9_field 317 = .ok (.if_icmp .ne 95, 3) := by decide +kernel
theorem dX9_field_320 : decode cX9_field 320 = .ok (.aload_n 0, 1) := by decide +kernel
theorem dX9_field_321 : decode cX9_field 321 = .ok (.getfield 249, 3) := by decide +kernel
theorem dX9_field_324 : decode cX9_field 324 = .ok (.iconst 4, 1) := by decide +kernel
theorem dX9_field_325 : decode cX9_field 325 = .ok (.if_icmp .ne 18, 3) := by decide +kernel
theorem dX9_field_328 : decode cX9_field 328 = .ok (.aload_n 0, 1) := by decide +kernel
theorem dX9_field_329 : decode cX9_field 329 = .ok (.iconst 3, 1) := by decide +kernel
theorem dX9_field_330 : decode cX9_field 330 = .ok (.aload_n 0, 1) := by decide +kernel
theorem dX9_field_331 : decode cX9_field 331 = .ok (.getfield 122, 3) := by decide +kernel
theorem dX9_field_334 : decode cX9_field 334 = .ok (.aload_n 0, 1) := by decide +kernel
theorem dX9_field_335 : decode cX9_field 335 = .ok (.getfield 205, 3) := by decide +kernel
theorem dX9_field_338 : decode cX9_field 338 = .ok (.iaload, 1) := by decide +kernel
theorem dX9_field_339 : decode cX9_field 339 = .ok (.invokevirtual 208, 3) := by decide +kernel
theorem dX9_field_342 : decode cX9_field 342 = .ok (.return_, 1) := by decide +kernel
theorem dX9_field_343 : decode cX9_field 343 = .ok (.aload_n 0, 1) := by decide +kernel
theorem dX9_field_344 : decode cX9_field 344 = .ok (.getfield 76, 3) := by decide +kernel
theorem dX9_field_347 : decode cX9_field 347 = .ok (.iload_n 3, 1) := by decide +kernel
theorem dX9_field_348 : decode cX9_field 348 = .ok (.iaload, 1) := by decide +kernel
theorem dX9_field_349 : decode cX9_field 349 = .ok (.iconst 5, 1) := by decide +kernel
theorem dX9_field_350 : decode cX9_field 350 = .ok (.if_icmp .eq 29, 3) := by decide +kernel
theorem dX9_field_353 : decode cX9_field 353 = .ok (.aload_n 0, 1) := by decide +kernel
theorem dX9_field_354 : decode cX9_field 354 = .ok (.getfield 76, 3) := by decide +kernel
theorem dX9_field_357 : decode cX9_field 357 = .ok (.iload_n 3, 1) := by decide +kernel
theorem dX9_field_358 : decode cX9_field 358 = .ok (.iaload, 1) := by decide +kernel
theorem dX9_field_359 : decode cX9_field 359 = .ok (.bipush 6, 2) := by decide +kernel
theorem dX9_field_361 : decode cX9_field 361 = .ok (.if_icmp .eq 18, 3) := by decide +kernel
theorem dX9_field_364 : decode cX9_field 364 = .ok (.aload_n 0, 1) := by decide +kernel
theorem dX9_field_365 : decode cX9_field 365 = .ok (.bipush 6, 2) := by decide +kernel
theorem dX9_field_367 : decode cX9_field 367 = .ok (.aload_n 0, 1) := by decide +kernel
theorem dX9_field_368 : decode cX9_field 368 = .ok (.getfield 122, 3) := by decide +kernel
theorem dX9_field_371 : decode cX9_field 371 = .ok (.aload_n 0, 1) := by decide +kernel
theorem dX9_field_372 : decode cX9_field 372 = .ok (.getfield 205, 3) := by decide +kernel
theorem dX9_field_375 : decode cX9_field 375 = .ok (.iaload, 1) := by decide +kernel
theorem dX9_field_376 : decode cX9_field 376 = .ok (.invokevirtual 228, 3) := by decide +kernel
theorem dX9_field_379 : decode cX9_field 379 = .ok (.aload_n 0, 1) := by decide +kernel
theorem dX9_field_380 : decode cX9_field 380 = .ok (.getfield 149, 3) := by decide +kernel
theorem dX9_field_383 : decode cX9_field 383 = .ok (.aload_n 0, 1) := by decide +kernel
theorem dX9_field_384 : decode cX9_field 384 = .ok (.getfield 249, 3) := by decide +kernel
theorem dX9_field_387 : decode cX9_field 387 = .ok (.iload_n 2, 1) := by decide +kernel
theorem dX9_field_388 : decode cX9_field 388 = .ok (.iastore, 1) := by decide +kernel
theorem dX9_field_389 : decode cX9_field 389 = .ok (.aload_n 0, 1) := by decide +kernel
theorem dX9_field_390 : decode cX9_field 390 = .ok (.dup, 1) := by decide +kernel
theorem dX9_field_391 : decode cX9_field 391 = .ok (.getfield 249, 3) := by decide +kernel
theorem dX9_field_394 : decode cX9_field 394 = .ok (.iconst 1, 1) := by decide +kernel
theorem dX9_field_395 : decode cX9_field 395 = .ok (.iadd, 1) := by decide +kernel
theorem dX9_field_396 : decode cX9_field 396 = .ok (.putfield 249, 3) := by decide +kernel
theorem dX9_field_399 : decode cX9_field 399 = .ok (.aload_n 0, 1) := by decide +kernel
theorem dX9_field_400 : decode cX9_field 400 = .ok (.dup, 1) := by decide +kernel
theorem dX9_field_401 : decode cX9_field 401 = .ok (.getfield 205, 3) := by decide +kernel
theorem dX9_field_404 : decode cX9_field 404 = .ok (.iconst 1, 1) := by decide +kernel
theorem dX9_field_405 : decode cX9_field 405 = .ok (.iadd, 1) := by decide +kernel
theorem dX9_field_406 : decode cX9_field 406 = .ok (.putfield 205, 3) := by decide +kernel
theorem dX9_field_409 : decode cX9_field 409 = .ok (.goto 9, 3) := by decide +kernel
theorem dX9_field_412 : decode cX9_field 412 = .ok (.aload_n 0, 1) := by decide +kernel
theorem dX9_field_413 : decode cX9_field 413 = .ok (.bipush 59, 2) := by decide +kernel
theorem dX9_field_415 : decode cX9_field 415 = .ok (.invokevirtual 220, 3) := by decide +kernel
theorem dX9_field_418 : decode cX9_field 418 = .ok (.aload_n 0, 1) := by decide +kernel
theorem dX9_field_419 : decode cX9_field 419 = .ok (.getfield 196, 3) := by decide +kernel
theorem dX9_field_422 : decode cX9_field 422 = .ok (.ifCond .ne 45, 3) := by decide +kernel
theorem dX9_field_425 : decode cX9_field 425 = .ok (.aload_n 0, 1) := by decide +kernel
theorem dX9_field_426 : decode cX9_field 426 = .ok (.getfield 76, 3) := by decide +kernel
theorem dX9_field_429 : decode cX9_field 429 = .ok (.iload_n 3, 1) := by decide +kernel
theorem dX9_field_430 : decode cX9_field 430 = .ok (.iaload, 1) := by decide +kernel
theorem dX9_field_431 : decode cX9_field 431 = .ok (.bipush 7, 2) := by decide +kernel
theorem dX9_field_433 : decode cX9_field 433 = .ok (.if_icmp .ne 34, 3) := by decide +kernel
theorem dX9_field_436 : decode cX9_field 436 = .ok (.aload_n 0, 1) := by decide +kernel
theorem dX9_field_437 : decode cX9_field 437 = .ok (.getfield 79, 3) := by decide +kernel
theorem dX9_field_440 : decode cX9_field 440 = .ok (.iload_n 3, 1) := by decide +kernel
theorem dX9_field_441 : decode cX9_field 441 = .ok (.iaload, 1) := by decide +kernel
theorem dX9_field_442 : decode cX9_field 442 = .ok (.bipush 6, 2) := by decide +kernel
theorem dX9_field_444 : decode cX9_field 444 = .ok (.ishr, 1) := by decide +kernel
theorem dX9_field_445 : decode cX9_field 445 = .ok (.iconst 1, 1) := by decide +kernel
theorem dX9_field_446 : decode cX9_field 446 = .ok (.iand, 1) := by decide +kernel
theorem dX9_field_447 : decode cX9_field 447 = .ok (.ifCond .ne 20, 3) := by decide +kernel
theorem dX9_field_450 : decode cX9_field 450 = .ok (.aload_n 0, 1) := by decide +kernel
theorem dX9_field_451 : decode cX9_field 451 = .ok (.bipush 7, 2) := by decide +kernel
theorem dX9_field_453 : decode cX9_field 453 = .ok (.aload_n 0, 1) := by decide +kernel
theorem dX9_field_454 : decode cX9_field 454 = .ok (.getfield 122, 3) := by decide +kernel
theorem dX9_field_457 : decode cX9_field 457 = .ok (.aload_n 0, 1) := by decide +kernel
theorem dX9_field_458 : decode cX9_field 458 = .ok (.getfield 146, 3) := by decide +kernel
theorem dX9_field_461 : decode cX9_field 461 = .ok (.iload_n 2, 1) := by decide +kernel
theorem dX9_field_462 : decode cX9_field 462 = .ok (.iaload, 1) := by decide +kernel
theorem dX9_field_463 : decode cX9_field 463 = .ok (.iaload, 1) := by decide +kernel
theorem dX9_field_464 : decode cX9_field 464 = .ok (.invokevirtual 228, 3) := by decide +kernel
theorem dX9_field_467 : decode cX9_field 467 = .ok (.return_, 1) := by decide +kernel
theorem dX9_begin_0 : decode cX9_begin 0 = .ok (.aload_n 0, 1) := by decide +kernel
theorem dX9_begin_1 : decode cX9_begin 1 = .ok (.getfield 79, 3) := by decide +kernel
theorem dX9_begin_4 : decode cX9_begin 4 = .ok (.iload_n 1, 1) := by decide +kernel
theorem dX9_begin_5 : decode cX9_begin 5 = .ok (.iconst 0, 1) := by decide +kernel
theorem dX9_begin_6 : decode cX9_begin 6 = .ok (.iastore, 1) := by decide +kernel
theorem dX9_begin_7 : decode cX9_begin 7 = .ok (.aload_n 0, 1) := by decide +kernel
theorem dX9_begin_8 : decode cX9_begin 8 = .ok (.getfield 82, 3) := by decide +kernel
theorem dX9_begin_11 : decode cX9_begin 11 = .ok (.iload_n 1, 1) := by decide +kernel
theorem dX9_begin_12 : decode cX9_begin 12 = .ok (.bipush (-2), 2) := by decide +kernel
theorem dX9_begin_14 : decode cX9_begin 14 = .ok (.iastore, 1) := by decide +kernel
theorem dX9_begin_15 : decode cX9_begin 15 = .ok (.aload_n 0, 1) := by decide +kernel
theorem dX9_begin_16 : decode cX9_begin 16 = .ok (.getfield 85, 3) := by decide +kernel
theorem dX9_begin_19 : decode cX9_begin 19 = .ok (.iload_n 1, 1) := by decide +kernel
theorem dX9_begin_20 : decode cX9_begin 20 = .ok (.bipush (-2), 2) := by decide +kernel
theorem dX9_begin_22 : decode cX9_begin 22 = .ok (.iastore, 1) := by decide +kernel
theorem dX9_begin_23 : decode cX9_begin 23 = .ok (.aload_n 0, 1) := by decide +kernel
theorem dX9_begin_24 : decode cX9_begin 24 = .ok (.getfield 88, 3) := by decide +kernel
theorem dX9_begin_27 : decode cX9_begin 27 = .ok (.iload_n 1, 1) := by decide +kernel
theorem dX9_begin_28 : decode cX9_begin 28 = .ok (.bipush (-2), 2) := by decide +kernel
theorem dX9_begin_30 : decode cX9_begin 30 = .ok (.iastore, 1) := by decide +kernel
theorem dX9_begin_31 : decode cX9_begin 31 = .ok (.aload_n 0, 1) := by decide +kernel
theorem dX9_begin_32 : decode cX9_begin 32 = .ok (.getfield 91, 3) := by decide +kernel
theorem dX9_begin_35 : decode cX9_begin 35 = .ok (.iload_n 1, 1) := by decide +kernel
theorem dX9_begin_36 : decode cX9_begin 36 = .ok (.iconst 0, 1) := by decide +kernel
theorem dX9_begin_37 : decode cX9_begin 37 = .ok (.iastore, 1) := by decide +kernel
theorem dX9_begin_38 : decode cX9_begin 38 = .ok (.aload_n 0, 1) := by decide +kernel
theorem dX9_begin_39 : decode cX9_begin 39 = .ok (.getfield 70, 3) := by decide +kernel
theorem dX9_begin_42 : decode cX9_begin 42 = .ok (.iload_n 1, 1) := by decide +kernel
theorem dX9_begin_43 : decode cX9_begin 43 = .ok (.iconst 0, 1) := by decide +kernel
theorem dX9_begin_44 : decode cX9_begin 44 = .ok (.iastore, 1) := by decide +kernel
theorem dX9_begin_45 : decode cX9_begin 45 = .ok (.return_, 1) := by decide +kernel
theorem dX9_isSameName_0 : decode cX9_isSameName 0 = .ok (.aload_n 0, 1) := by decide +kernel
theorem dX9_isSameName_1 : decode cX9_isSameName 1 = .ok (.getfield 70, 3) := by decide +kernel
theorem dX9_isSameName_4 : decode cX9_isSameName 4 = .ok (.iload_n 1, 1) := by decide +kernel
theorem dX9_isSameName_5 : decode cX9_isSameName 5 = .ok (.iaload, 1) := by decide +kernel
theorem dX9_isSameName_6 : decode cX9_isSameName 6 = .ok (.aload_n 0, 1) := by decide +kernel
theorem dX9_isSameName_7 : decode cX9_isSameName 7 = .ok (.getfield 70, 3) := by decide +kernel
theorem dX9_isSameName_10 : decode cX9_isSameName 10 = .ok (.iload_n 2, 1) := by decide +kernel
theorem dX9_isSameName_11 : decode cX9_isSameName 11 = .ok (.iaload, 1) := by decide +kernel
theorem dX9_isSameName_12 : decode cX9_isSameName 12 = .ok (.if_icmp .ne 7, 3) := by decide +kernel
theorem dX9_isSameName_15 : decode cX9_isSameName 15 = .ok (.iconst 1, 1) := by decide +kernel
theorem dX9_isSameName_16 : decode cX9_isSameName 16 = .ok (.goto 4, 3) := by decide +kernel
theorem dX9_isSameName_19 : decode cX9_isSameName 19 = .ok (.iconst 0, 1) := by decide +kernel
theorem dX9_isSameName_20 : decode cX9_isSameName 20 = .ok (.istore_n 3, 1) := by decide +kernel
theorem dX9_isSameName_21 : decode cX9_isSameName 21 = .ok (.iconst 0, 1) := by decide +kernel
theorem dX9_isSameName_22 : decode cX9_isSameName 22 = .ok (.istore 4, 2) := by decide +kernel
theorem dX9_isSameName_24 : decode cX9_isSameName 24 = .ok (.iload 4, 2) := by decide +kernel
theorem dX9_isSameName_26 : decode cX9_isSameName 26 = .ok (.aload_n 0, 1) := by decide +kernel
theorem dX9_isSameName_27 : decode cX9_isSameName 27 = .ok (.getfield 70, 3) := by decide +kernel
theorem dX9_isSameName_30 : decode cX9_isSameName 30 = .ok (.iload_n 1, 1) := by decide +kernel
theorem dX9_isSameName_31 : decode cX9_isSameName 31 = .ok (.iaload, 1) := by decide +kernel
theorem dX9_isSameName_32 : decode cX9_isSameName 32 = .ok (.if_icmp .ge 46, 3) := by decide +kernel
theorem dX9_isSameName_35 : decode cX9_isSameName 35 = .ok (.iload_n 3, 1) := by decide +kernel
theorem dX9_isSameName_36 : decode cX9_isSameName 36 = .ok (.ifCond .eq 42, 3) := by decide +kernel
theorem dX9_isSameName_39 : decode cX9_isSameName 39 = .ok (.aload_n 0, 1) := by decide +kernel
theorem dX9_isSameName_40 : decode cX9_isSameName 40 = .ok (.getfield 73, 3) := by decide +kernel
theorem dX9_isSameName_43 : decode cX9_isSameName 43 = .ok (.bipush 12, 2) := by decide +kernel
theorem dX9_isSameName_45 : decode cX9_isSameName 45 = .ok (.iload_n 1, 1) := by decide +kernel
theorem dX9_isSameName_46 : decode cX9_isSameName 46 = .ok (.imul, 1) := by decide +kernel
theorem dX9_isSameName_47 : decode cX9_isSameName 47 = .ok (.iload 4, 2) := by decide +kernel
theorem dX9_isSameName_49 : decode cX9_isSameName 49 = .ok (.iadd, 1) := by decide +kernel
theorem dX9_isSameName_50 : decode cX9_isSameName 50 = .ok (.baload, 1) := by decide +kernel
theorem dX9_isSameName_51 : decode cX9_isSameName 51 = .ok (.aload_n 0, 1) := by decide +kernel
theorem dX9_isSameName_52 : decode cX9_isSameName 52 = .ok (.getfield 73, 3) := by decide +kernel
theorem dX9_isSameName_55 : decode cX9_isSameName 55 = .ok (.bipush 12, 2) := by decide +kernel
theorem dX9_isSameName_57 : decode cX9_isSameName 57 = .ok (.iload_n 2, 1) := by decide +kernel
theorem dX9_isSameName_58 : decode cX9_isSameName 58 = .ok (.imul, 1) := by decide +kernel
theorem dX9_isSameName_59 : decode cX9_isSameName 59 = .ok (.iload 4, 2) := by decide +kernel
theorem dX9_isSameName_61 : decode cX9_isSameName 61 = .ok (.iadd, 1) := by decide +kernel
theorem dX9_isSameName_62 : decode cX9_isSameName 62 = .ok (.baload, 1) := by decide +kernel
theorem dX9_isSameName_63 : decode cX9_isSameName 63 = .ok (.if_icmp .ne 7, 3) := by decide +kernel
theorem dX9_isSameName_66 : decode cX9_isSameName 66 = .ok (.iconst 1, 1) := by decide +kernel
theorem dX9_isSameName_67 : decode cX9_isSameName 67 = .ok (.goto 4, 3) := by decide +kernel
theorem dX9_isSameName_70 : decode cX9_isSameName 70 = .ok (.iconst 0, 1) := by decide +kernel
theorem dX9_isSameName_71 : decode cX9_isSameName 71 = .ok (.istore_n 3, 1) := by decide +kernel
theorem dX9_isSameName_72 : decode cX9_isSameName 72 = .ok (.iinc 4 1, 3) := by decide +kernel
theorem dX9_isSameName_75 : decode cX9_isSameName 75 = .ok (.goto (-51), 3) := by decide +kernel
theorem dX9_isSameName_78 : decode cX9_isSameName 78 = .ok (.iload_n 3, 1) := by decide +kernel
theorem dX9_isSameName_79 : decode cX9_isSameName 79 = .ok (.ireturn, 1) := by decide +kernel
theorem dX9_rule_0 : decode cX9_rule 0 = .ok (.aload_n 0, 1) := by decide +kernel
theorem dX9_rule_1 : decode cX9_rule 1 = .ok (.getfield 64, 3) := by decide +kernel
theorem dX9_rule_4 : decode cX9_rule 4 = .ok (.iload_n 1, 1) := by decide +kernel
theorem dX9_rule_5 : decode cX9_rule 5 = .ok (.iaload, 1) := by decide +kernel
theorem dX9_rule_6 : decode cX9_rule 6 = .ok (.bipush 8, 2) := by decide +kernel
theorem dX9_rule_8 : decode cX9_rule 8 = .ok (.if_icmp .ne 18, 3) := by decide +kernel
theorem dX9_rule_11 : decode cX9_rule 11 = .ok (.aload_n 0, 1) := by decide +kernel
theorem dX9_rule_12 : decode cX9_rule 12 = .ok (.iconst 3, 1) := by decide +kernel
theorem dX9_rule_13 : decode cX9_rule 13 = .ok (.aload_n 0, 1) := by decide +kernel
theorem dX9_rule_14 : decode cX9_rule 14 = .ok (.getfield 122, 3) := by decide +kernel
theorem dX9_rule_17 : decode cX9_rule 17 = .ok (.aload_n 0, 1) := by decide +kernel
theorem dX9_rule_18 : decode cX9_rule 18 = .ok (.getfield 205, 3) := by decide +kernel
theorem dX9_rule_21 : decode cX9_rule 21 = .ok (.iaload, 1) := by decide +kernel
theorem dX9_rule_22 : decode cX9_rule 22 = .ok (.invokevirtual 208, 3) := by decide +kernel
theorem dX9_rule_25 : decode cX9_rule 25 = .ok (.return_, 1) := by decide +kernel
theorem dX9_rule_26 : decode cX9_rule 26 = .ok (.bipush 8, 2) := by decide +kernel
theorem dX9_rule_28 : decode cX9_rule 28 = .ok (.iload_n 1, 1) := by decide +kernel
theorem dX9_rule_29 : decode cX9_rule 29 = .ok (.imul, 1) := by decide +kernel
theorem dX9_rule_30 : decode cX9_rule 30 = .ok (.aload_n 0, 1) := by decide +kernel
theorem dX9_rule_31 : decode cX9_rule 31 = .ok (.getfield 64, 3) := by decide +kernel
theorem dX9_rule_34 : decode cX9_rule 34 = .ok (.iload_n 1, 1) := by decide +kernel
theorem dX9_rule_35 : decode cX9_rule 35 = .ok (.iaload, 1) := by decide +kernel
theorem dX9_rule_36 : decode cX9_rule 36 = .ok (.iadd, 1) := by decide +kernel
theorem dX9_rule_37 : decode cX9_rule 37 = .ok (.istore_n 2, 1) := by decide +kernel
theorem dX9_rule_38 : decode cX9_rule 38 = .ok (.aload_n 0, 1) := by decide +kernel
theorem dX9_rule_39 : decode cX9_rule 39 = .ok (.dup, 1) := by decide +kernel
theorem dX9_rule_40 : decode cX9_rule 40 = .ok (.getfield 205, 3) := by decide +kernel
theorem dX9_rule_43 : decode cX9_rule 43 = .ok (.iconst 1, 1) := by decide +kernel
theorem dX9_rule_44 : decode cX9_rule 44 = .ok (.iadd, 1) := by decide +kernel
theorem dX9_rule_45 : decode cX9_rule 45 = .ok (.putfield 205, 3) := by decide +kernel
theorem dX9_rule_48 : decode cX9_rule 48 = .ok (.aload_n 0, 1) := by decide +kernel
theorem dX9_rule_49 : decode cX9_rule 49 = .ok (.getfield 100, 3) := by decide +kernel
theorem dX9_rule_52 : decode cX9_rule 52 = .ok (.iload_n 2, 1) := by decide +kernel
theorem dX9_rule_53 : decode cX9_rule 53 = .ok (.iconst 0, 1) := by decide +kernel
theorem dX9_rule_54 : decode cX9_rule 54 = .ok (.iastore, 1) := by decide +kernel
theorem dX9_rule_55 : decode cX9_rule 55 = .ok (.aload_n 0, 1) := by decide +kernel
theorem dX9_rule_56 : decode cX9_rule 56 = .ok (.getfield 110, 3) := by decide +kernel
theorem dX9_rule_59 : decode cX9_rule 59 = .ok (.iload_n 2, 1) := by decide +kernel
theorem dX9_rule_60 : decode cX9_rule 60 = .ok (.iconst 0, 1) := by decide +kernel
theorem dX9_rule_61 : decode cX9_rule 61 = .ok (.iastore, 1) := by decide +kernel
theorem dX9_rule_62 : decode cX9_rule 62 = .ok (.aload_n 0, 1) := by decide +kernel
theorem dX9_rule_63 : decode cX9_rule 63 = .ok (.getfield 106, 3) := by decide +kernel
theorem dX9_rule_66 : decode cX9_rule 66 = .ok (.iload_n 2, 1) := by decide +kernel
theorem dX9_rule_67 : decode cX9_rule 67 = .ok (.iconst 0, 1) := by decide +kernel
theorem dX9_rule_68 : decode cX9_rule 68 = .ok (.bastore, 1) := by decide +kernel
theorem dX9_rule_69 : decode cX9_rule 69 = .ok (.aload_n 0, 1) := by decide +kernel
theorem dX9_rule_70 : decode cX9_rule 70 = .ok (.getfield 119, 3) := by decide +kernel
theorem dX9_rule_73 : decode cX9_rule 73 = .ok (.aload_n 0, 1) := by decide +kernel
theorem dX9_rule_74 : decode cX9_rule 74 = .ok (.getfield 205, 3) := by decide +kernel
theorem dX9_rule_77 : decode cX9_rule 77 = .ok (.iaload, 1) := by decide +kernel
theorem dX9_rule_78 : decode cX9_rule 78 = .ok (.iconst 1, 1) := by decide +kernel
theorem dX9_rule_79 : decode cX9_rule 79 = .ok (.if_icmp .ne 47, 3) := by decide +kernel
theorem dX9_rule_82 : decode cX9_rule 82 = .ok (.aload_n 0, 1) := by decide +kernel
theorem dX9_rule_83 : decode cX9_rule 83 = .ok (.getfield 100, 3) := by decide +kernel
theorem dX9_rule_86 : decode cX9_rule 86 = .ok (.iload_n 2, 1) := by decide +kernel
theorem dX9_rule_87 : decode cX9_rule 87 = .ok (.aload_n 0, 1) := by decide +kernel
theorem dX9_rule_88 : decode cX9_rule 88 = .ok (.getfield 125, 3) := by decide +kernel
theorem dX9_rule_91 : decode cX9_rule 91 = .ok (.aload_n 0, 1) := by decide +kernel
theorem dX9_rule_92 : decode cX9_rule 92 = .ok (.getfield 205, 3) := by decide +kernel
theorem dX9_rule_95 : decode cX9_rule 95 = .ok (.iaload, 1) := by decide +kernel
theorem dX9_rule_96 : decode cX9_rule 96 = .ok (.iastore, 1) := by decide +kernel
theorem dX9_rule_97 : decode cX9_rule 97 = .ok (.aload_n 0, 1) := by decide +kernel
theorem dX9_rule_98 : decode cX9_rule 98 = .ok (.aload_n 0, 1) := by decide +kernel
theorem dX9_rule_99 : decode cX9_rule 99 = .ok (.getfield 205, 3) := by decide +kernel
theorem dX9_rule_102 : decode cX9_rule 102 = .ok (.aload_n 0, 1) := by decide +kernel
theorem dX9_rule_103 : decode cX9_rule 103 = .ok (.getfield 103, 3) := by decide +kernel
theorem dX9_rule_106 : decode cX9_rule 106 = .ok (.bipush 12, 2) := by decide +kernel
theorem dX9_rule_108 : decode cX9_rule 108 = .ok (.iload_n 2, 1) := by decide +kernel
theorem dX9_rule_109 : decode cX9_rule 109 = .ok (.imul, 1) := by decide +kernel
theorem dX9_rule_110 : decode cX9_rule 110 = .ok (.invokevirtual 235, 3) := by decide +kernel
theorem dX9_rule_113 : decode cX9_rule 113 = .ok (.aload_n 0, 1) := by decide +kernel
theorem dX9_rule_114 : decode cX9_rule 114 = .ok (.dup, 1) := by decide +kernel
theorem dX9_rule_115 : decode cX9_rule 115 = .ok (.getfield 205, 3) := by decide +kernel
theorem dX9_rule_118 : decode cX9_rule 118 = .ok (.iconst 1, 1) := by decide +kernel
theorem dX9_rule_119 : decode cX9_rule 119 = .ok (.iadd, 1) := by decide +kernel
theorem dX9_rule_120 : decode cX9_rule 120 = .ok (.putfield 205, 3) := by decide +kernel
theorem dX9_rule_123 : decode cX9_rule 123 = .ok (.goto 32, 3) := by decide +kernel
theorem dX9_rule_126 : decode cX9_rule 126 = .ok (.aload_n 0, 1) := by decide +kernel
theorem dX9_rule_127 : decode cX9_rule 127 = .ok (.getfield 119, 3) := by decide +kernel
theorem dX9_rule_130 : decode cX9_rule 130 = .ok (.aload_n 0, 1) := by decide +kernel
theorem dX9_rule_131 : decode cX9_rule 131 = .ok (.getfield 205, 3) := by decide +kernel
theorem dX9_rule_134 : decode cX9_rule 134 = .ok (.iaload, 1) := by decide +kernel
theorem dX9_rule_135 : decode cX9_rule 135 = .ok (.bipush 42, 2) := by decide +kernel
theorem dX9_rule_137 : decode cX9_rule 137 = .ok (.if_icmp .eq 18, 3) := by decide +kernel
theorem dX9_rule_140 : decode cX9_rule 140 = .ok (.aload_n 0, 1) := by decide +kernel
theorem dX9_rule_141 : decode cX9_rule 141 = .ok (.iconst 2, 1) := by decide +kernel
theorem dX9_rule_142 : decode cX9_rule 142 = .ok (.aload_n 0, 1) := by decide +kernel
theorem dX9_rule_143 : decode cX9_rule 143 = .ok (.getfield 122, 3) := by decide +kernel
theorem dX9_rule_146 : decode cX9_rule 146 = .ok (.aload_n 0, 1) := by decide +kernel
theorem dX9_rule_147 : decode cX9_rule 147 = .ok (.getfield 205, 3) := by decide +kernel
theorem dX9_rule_150 : decode cX9_rule 150 = .ok (.iaload, 1) := by decide +kernel
theorem dX9_rule_151 : decode cX9_rule 151 = .ok (.invokevirtual 208, 3) := by decide +kernel
theorem dX9_rule_154 : decode cX9_rule 154 = .ok (.return_, 1) := by decide +kernel
theorem dX9_rule_155 : decode cX9_rule 155 = .ok (.aload_n 0, 1) := by decide +kernel
theorem dX9_rule_156 : decode cX9_rule 156 = .ok (.getfield 119, 3) := by decide +kernel
theorem dX9_rule_159 : decode cX9_rule 159 = .ok (.aload_n 0, 1) := by decide +kernel
theorem dX9_rule_160 : decode cX9_rule 160 = .ok (.getfield 205, 3) := by decide +kernel
theorem dX9_rule_163 : decode cX9_rule 163 = .ok (.iaload, 1) := by decide +kernel
theorem dX9_rule_164 : decode cX9_rule 164 = .ok (.bipush 42, 2) := by decide +kernel
theorem dX9_rule_166 : decode cX9_rule 166 = .ok (.if_icmp .ne 74, 3) := by decide +kernel
theorem dX9_rule_169 : decode cX9_rule 169 = .ok (.aload_n 0, 1) := by decide +kernel
theorem dX9_rule_170 : decode cX9_rule 170 = .ok (.getfield 106, 3) := by decide +kernel
theorem dX9_rule_173 : decode cX9_rule 173 = .ok (.iload_n 2, 1) := by decide +kernel
theorem dX9_rule_174 : decode cX9_rule 174 = .ok (.iconst 1, 1) := by decide +kernel
theorem dX9_rule_175 : decode cX9_rule 175 = .ok (.bastore, 1) := by decide +kernel
theorem dX9_rule_176 : decode cX9_rule 176 = .ok (.aload_n 0, 1) := by decide +kernel
theorem dX9_rule_177 : decode cX9_rule 177 = .ok (.dup, 1) := by decide +kernel
theorem dX9_rule_178 : decode cX9_rule 178 = .ok (.getfield 205, 3) := by decide +kernel
theorem dX9_rule_181 : decode cX9_rule 181 = .ok (.iconst 1, 1) := by decide +kernel
theorem dX9_rule_182 : decode cX9_rule 182 = .ok (.iadd, 1) := by decide +kernel
theorem dX9_rule_183 : decode cX9_rule 183 = .ok (.putfield 205, 3) := by decide +kernel
theorem dX9_rule_186 : decode cX9_rule 186 = .ok (.aload_n 0, 1) := by decide +kernel
theorem dX9_rule_187 : decode cX9_rule 187 = .ok (.getfield 119, 3) := by decide +kernel
theorem dX9_rule_190 : decode cX9_rule 190 = .ok (.aload_n 0, 1) := by decide +kernel
theorem dX9_rule_191 : decode cX9_rule 191 = .ok (.getfield 205, 3) := by decide +kernel
theorem dX9_rule_194 : decode cX9_rule 194 = .ok (.iaload, 1) := by decide +kernel
theorem dX9_rule_195 : decode cX9_rule 195 = .ok (.iconst 1, 1) := by decide +kernel
theorem dX9_rule_196 : decode cX9_rule 196 = .ok (.if_icmp .ne 44, 3) := by decide +kernel
theorem dX9_rule_199 : decode cX9_rule 199 = .ok (.aload_n 0, 1) := by decide +kernel
theorem dX9_rule_200 : decode cX9_rule 200 = .ok (.getfield 110, 3) := by decide +kernel
theorem dX9_rule_203 : decode cX9_rule 203 = .ok (.iload_n 2, 1) := by decide +kernel
theorem dX9_rule_204 : decode cX9_rule 204 = .ok (.aload_n 0, 1) := by decide +kernel
theorem dX9_rule_205 : decode cX9_rule 205 = .ok (.getfield 125, 3) := by decide +kernel
theorem dX9_rule_208 : decode cX9_rule 208 = .ok (.aload_n 0, 1) := by decide +kernel
theorem dX9_rule_209 : decode cX9_rule 209 = .ok (.getfield 205, 3) := by decide +kernel
theorem dX9_rule_212 : decode cX9_rule 212 = .ok (.iaload, 1) := by decide +kernel
theorem dX9_rule_213 : decode cX9_rule 213 = .ok (.iastore, 1) := by decide +kernel
theorem dX9_rule_214 : decode cX9_rule 214 = .ok (.aload_n 0, 1) := by decide +kernel
theorem dX9_rule_215 : decode cX9_rule 215 = .ok (.aload_n 0, 1) := by decide +kernel
theorem dX9_rule_216 : decode cX9_rule 216 = .ok (.getfield 205, 3) := by decide +kernel
theorem dX9_rule_219 : decode cX9_rule 219 = .ok (.aload_n 0, 1) := by decide +kernel
theorem dX9_rule_220 : decode cX9_rule 220 = .ok (.getfield 113, 3) := by decide +kernel
theorem dX9_rule_223 : decode cX9_rule 223 = .ok (.bipush 12, 2) := by decide +kernel
theorem dX9_rule_225 : decode cX9_rule 225 = .ok (.iload_n 2, 1) := by decide +kernel
theorem dX9_rule_226 : decode cX9_rule 226 = .ok (.imul, 1) := by decide +kernel
theorem dX9_rule_227 : decode cX9_rule 227 = .ok (.invokevirtual 235, 3) := by decide +kernel
theorem dX9_rule_230 : decode cX9_rule 230 = .ok (.aload_n 0, 1) := by decide +kernel
theorem dX9_rule_231 : decode cX9_rule 231 = .ok (.dup, 1) := by decide +kernel
theorem dX9_rule_232 : decode cX9_rule 232 = .ok (.getfield 205, 3) := by decide +kernel
theorem dX9_rule_235 : decode cX9_rule 235 = .ok (.iconst 1, 1) := by decide +kernel
theorem dX9_rule_236 : decode cX9_rule 236 = .ok (.iadd, 1) := by decide +kernel
theorem dX9_rule_237 : decode cX9_rule 237 = .ok (.putfield 205, 3) := by decide +kernel
theorem dX9_rule_240 : decode cX9_rule 240 = .ok (.aload_n 0, 1) := by decide +kernel
theorem dX9_rule_241 : decode cX9_rule 241 = .ok (.bipush 58, 2) := by decide +kernel
theorem dX9_rule_243 : decode cX9_rule 243 = .ok (.invokevirtual 220, 3) := by decide +kernel
theorem dX9_rule_246 : decode cX9_rule 246 = .ok (.aload_n 0, 1) := by decide +kernel
theorem dX9_rule_247 : decode cX9_rule 247 = .ok (.getfield 116, 3) := by decide +kernel
theorem dX9_rule_250 : decode cX9_rule 250 = .ok (.iload_n 2, 1) := by decide +kernel
theorem dX9_rule_251 : decode cX9_rule 251 = .ok (.aload_n 0, 1) := by decide +kernel
theorem dX9_rule_252 : decode cX9_rule 252 = .ok (.invokevirtual 255, 3) := by decide +kernel
theorem dX9_rule_255 : decode cX9_rule 255 = .ok (.iastore, 1) := by decide +kernel
theorem dX9_rule_256 : decode cX9_rule 256 = .ok (.aload_n 0, 1) := by decide +kernel
theorem dX9_rule_257 : decode cX9_rule 257 = .ok (.bipush 59, 2) := by decide +kernel
theorem dX9_rule_259 : decode cX9_rule 259 = .ok (.invokevirtual 220, 3) := by decide +kernel
theorem dX9_rule_262 : decode cX9_rule 262 = .ok (.aload_n 0, 1) := by decide +kernel
theorem dX9_rule_263 : decode cX9_rule 263 = .ok (.getfield 64, 3) := by decide +kernel
theorem dX9_rule_266 : decode cX9_rule 266 = .ok (.iload_n 1, 1) := by decide +kernel
theorem dX9_rule_267 : decode cX9_rule 267 = .ok (.dup2, 1) := by decide +kernel
theorem dX9_rule_268 : decode cX9_rule 268 = .ok (.iaload, 1) := by decide +kernel
theorem dX9_rule_269 : decode cX9_rule 269 = .ok (.iconst 1, 1) := by decide +kernel
theorem dX9_rule_270 : decode cX9_rule 270 = .ok (.iadd, 1) := by decide +kernel
theorem dX9_rule_271 : decode cX9_rule 271 = .ok (.iastore, 1) := by decide +kernel
theorem dX9_rule_272 : decode cX9_rule 272 = .ok (.return_, 1) := by decide +kernel
theorem dX9_limitItem_0 : decode cX9_limitItem 0 = .ok (.aload_n 0, 1) := by decide +kernel
theorem dX9_limitItem_1 : decode cX9_limitItem 1 = .ok (.getfield 261, 3) := by decide +kernel
theorem dX9_limitItem_4 : decode cX9_limitItem 4 = .ok (.ifCond .le 18, 3) := by decide +kernel
theorem dX9_limitItem_7 : decode cX9_limitItem 7 = .ok (.aload_n 0, 1) := by decide +kernel
theorem dX9_limitItem_8 : decode cX9_limitItem 8 = .ok (.bipush 10, 2) := by decide +kernel
theorem dX9_limitItem_10 : decode cX9_limitItem 10 = .ok (.aload_n 0, 1) := by decide +kernel
theorem dX9_limitItem_11 : decode cX9_limitItem 11 = .ok (.getfield 122, 3) := by decide +kernel
theorem dX9_limitItem_14 : decode cX9_limitItem 14 = .ok (.aload_n 0, 1) := by decide +kernel
theorem dX9_limitItem_15 : decode cX9_limitItem 15 = .ok (.getfield 205, 3) := by decide +kernel
theorem dX9_limitItem_18 : decode cX9_limitItem 18 = .ok (.iaload, 1) := by decide +kernel
theorem dX9_limitItem_19 : decode cX9_limitItem 19 = .ok (.invokevirtual 228, 3) := by decide +kernel
theorem dX9_limitItem_22 : decode cX9_limitItem 22 = .ok (.aload_n 0, 1) := by decide +kernel
theorem dX9_limitItem_23 : decode cX9_limitItem 23 = .ok (.dup, 1) := by decide +kernel
theorem dX9_limitItem_24 : decode cX9_limitItem 24 = .ok (.getfield 205, 3) := by decide +kernel
theorem dX9_limitItem_27 : decode cX9_limitItem 27 = .ok (.iconst 1, 1) := by decide +kernel
theorem dX9_limitItem_28 : decode cX9_limitItem 28 = .ok (.iadd, 1) := by decide +kernel
theorem dX9_limitItem_29 : decode cX9_limitItem 29 = .ok (.putfield 205, 3) := by decide +kernel
theorem dX9_limitItem_32 : decode cX9_limitItem 32 = .ok (.aload_n 0, 1) := by decide +kernel
theorem dX9_limitItem_33 : decode cX9_limitItem 33 = .ok (.getfield 205, 3) := by decide +kernel
theorem dX9_limitItem_36 : decode cX9_limitItem 36 = .ok (.istore_n 1, 1) := by decide +kernel
theorem dX9_limitItem_37 : decode cX9_limitItem 37 = .ok (.aload_n 0, 1) := by decide +kernel
theorem dX9_limitItem_38 : decode cX9_limitItem 38 = .ok (.iconst 2, 1) := by decide +kernel
theorem dX9_limitItem_39 : decode cX9_limitItem 39 = .ok (.invokevirtual 220, 3) := by decide +kernel
theorem dX9_limitItem_42 : decode cX9_limitItem 42 = .ok (.aload_n 0, 1) := by decide +kernel
theorem dX9_limitItem_43 : decode cX9_limitItem 43 = .ok (.getfield 196, 3) := by decide +kernel
theorem dX9_limitItem_46 : decode cX9_limitItem 46 = .ok (.ifCond .ne 23, 3) := by decide +kernel
theorem dX9_limitItem_49 : decode cX9_limitItem 49 = .ok (.aload_n 0, 1) := by decide +kernel
theorem dX9_limitItem_50 : decode cX9_limitItem 50 = .ok (.getfield 143, 3) := by decide +kernel
theorem dX9_limitItem_53 : decode cX9_limitItem 53 = .ok (.aload_n 0, 1) := by decide +kernel
theorem dX9_limitItem_54 : decode cX9_limitItem 54 = .ok (.getfield 261, 3) := by decide +kernel
theorem dX9_limitItem_57 : decode cX9_limitItem 57 = .ok (.iload_n 1, 1) := by decide +kernel
theorem dX9_limitItem_58 : decode cX9_limitItem 58 = .ok (.iastore, 1) := by decide +kernel
theorem dX9_limitItem_59 : decode cX9_limitItem 59 = .ok (.aload_n 0, 1) := by decide +kernel
theorem dX9_limitItem_60 : decode cX9_limitItem 60 = .ok (.dup, 1) := by decide +kernel
theorem dX9_limitItem_61 : decode cX9_limitItem 61 = .ok (.getfield 261, 3) := by decide +kernel
theorem dX9_limitItem_64 : decode cX9_limitItem 64 = .ok (.iconst 1, 1) := by decide +kernel
theorem dX9_limitItem_65 : decode cX9_limitItem 65 = .ok (.iadd, 1) := by decide +kernel
theorem dX9_limitItem_66 : decode cX9_limitItem 66 = .ok (.putfield 261, 3) := by decide +kernel
theorem dX9_limitItem_69 : decode cX9_limitItem 69 = .ok (.aload_n 0, 1) := by decide +kernel
theorem dX9_limitItem_70 : decode cX9_limitItem 70 = .ok (.bipush 59, 2) := by decide +kernel
theorem dX9_limitItem_72 : decode cX9_limitItem 72 = .ok (.invokevirtual 220, 3) := by decide +kernel
theorem dX9_limitItem_75 : decode cX9_limitItem 75 = .ok (.return_, 1) := by decide +kernel
theorem dX9_text_0 : decode cX9_text 0 = .ok (.aload_n 0, 1) := by decide +kernel
theorem dX9_text_1 : decode cX9_text 1 = .ok (.iconst 0, 1) := by decide +kernel
theorem dX9_text_2 : decode cX9_text 2 = .ok (.putfield 205, 3) := by decide +kernel
theorem dX9_text_5 : decode cX9_text 5 = .ok (.aload_n 0, 1) := by decide +kernel
theorem dX9_text_6 : decode cX9_text 6 = .ok (.iconst 0, 1) := by decide +kernel
theorem dX9_text_7 : decode cX9_text 7 = .ok (.putfield 249, 3) := by decide +kernel
theorem dX9_text_10 : decode cX9_text 10 = .ok (.aload_n 0, 1) := by decide +kernel
theorem dX9_text_11 : decode cX9_text 11 = .ok (.getfield 196, 3) := by decide +kernel
theorem dX9_text_14 : decode cX9_text 14 = .ok (.ifCond .ne 172, 3) := by decide +kernel
theorem dX9_text_17 : decode cX9_text 17 = .ok (.aload_n 0, 1) := by decide +kernel
theorem dX9_text_18 : decode cX9_text 18 = .ok (.getfield 249, 3) := by decide +kernel
theorem dX9_text_21 : decode cX9_text 21 = .ok (.ifCond .gt 14, 3) := by decide +kernel
theorem dX9_text_24 : decode cX9_text 24 = .ok (.aload_n 0, 1) := by decide +kernel
theorem dX9_text_25 : decode cX9_text 25 = .ok (.getfield 205, 3) := by decide +kernel
theorem dX9_text_28 : decode cX9_text 28 = .ok (.aload_n 0, 1) := by decide +kernel
theorem dX9_text_29 : decode cX9_text 29 = .ok (.getfield 183, 3) := by decide +kernel
theorem dX9_text_32 : decode cX9_text 32 = .ok (.if_icmp .ge 154, 3) := by decide +kernel
theorem dX9_text_35 : decode cX9_text 35 = .ok (.aload_n 0, 1) := by decide +kernel
theorem dX9_text_36 : decode cX9_text 36 = .ok (.aload_n 0, 1) := by decide +kernel
theorem dX9_text_37 : decode cX9_text 37 = .ok (.getfield 205, 3) := by decide +kernel
theorem dX9_text_40 : decode cX9_text 40 = .ok (.invokevirtual 212, 3) := by decide +kernel
theorem dX9_text_43 : decode cX9_text 43 = .ok (.lstore_n 2, 1) := by decide +kernel
theorem dX9_text_44 : decode cX9_text 44 = .ok (.aload_n 0, 1) := by decide +kernel
theorem dX9_text_45 : decode cX9_text 45 = .ok (.getfield 249, 3) := by decide +kernel
theorem dX9_text_48 : decode cX9_text 48 = .ok (.ifCond .le 46, 3) := by decide +kernel
theorem dX9_text_51 : decode cX9_text 51 = .ok (.aload_n 0, 1) := by decide +kernel
theorem dX9_text_52 : decode cX9_text 52 = .ok (.getfield 119, 3) := by decide +kernel
theorem dX9_text_55 : decode cX9_text 55 = .ok (.aload_n 0, 1) := by decide +kernel
theorem dX9_text_56 : decode cX9_text 56 = .ok (.getfield 205, 3) := by decide +kernel
theorem dX9_text_59 : decode cX9_text 59 = .ok (.iaload, 1) := by decide +kernel
theorem dX9_text_60 : decode cX9_text 60 = .ok (.bipush 125, 2) := by decide +kernel
theorem dX9_text_62 : decode cX9_text 62 = .ok (.if_icmp .ne 32, 3) := by decide +kernel
theorem dX9_text_65 : decode cX9_text 65 = .ok (.aload_n 0, 1) := by decide +kernel
theorem dX9_text_66 : decode cX9_text 66 = .ok (.dup, 1) := by decide +kernel
theorem dX9_text_67 : decode cX9_text 67 = .ok (.getfield 249, 3) := by decide +kernel
theorem dX9_text_70 : decode cX9_text 70 = .ok (.iconst 1, 1) := by decide +kernel
theorem dX9_text_71 : decode cX9_text 71 = .ok (.isub, 1) := by decide +kernel
theorem dX9_text_72 : decode cX9_text 72 = .ok (.putfield 249, 3) := by decide +kernel
theorem dX9_text_75 : decode cX9_text 75 = .ok (.aload_n 0, 1) := by decide +kernel
theorem dX9_text_76 : decode cX9_text 76 = .ok (.dup, 1) := by decide +kernel
theorem dX9_text_77 : decode cX9_text 77 = .ok (.getfield 205, 3) := by decide +kernel
theorem dX9_text_80 : decode cX9_text 80 = .ok (.iconst 1, 1) := by decide +kernel
theorem dX9_text_81 : decode cX9_text 81 = .ok (.iadd, 1) := by decide +kernel
theorem dX9_text_82 : decode cX9_text 82 = .ok (.putfield 205, 3) := by decide +kernel
theorem dX9_text_85 : decode cX9_text 85 = .ok (.aload_n 0, 1) := by decide +kernel
theorem dX9_text_86 : decode cX9_text 86 = .ok (.bipush 59, 2) := by decide +kernel
theorem dX9_text_88 : decode cX9_text 88 = .ok (.invokevirtual 220, 3) := by decide +kernel
theorem dX9_text_91 : decode cX9_text 91 = .ok (.goto 92, 3) := by decide +kernel
theorem dX9_text_94 : decode cX9_text 94 = .ok (.aload_n 0, 1) := by decide +kernel
theorem dX9_text_95 : decode cX9_text 95 = .ok (.getfield 119, 3) := by decide +kernel
theorem dX9_text_98 : decode cX9_text 98 = .ok (.aload_n 0, 1) := by decide +kernel
theorem dX9_text_99 : decode cX9_text 99 = .ok (.getfield 205, 3) := by decide +kernel
theorem dX9_text_102 : decode cX9_text 102 = .ok (.iaload, 1) := by decide +kernel
theorem dX9_text_103 : decode cX9_text 103 = .ok (.iconst 1, 1) := by decide +kernel
theorem dX9_text_104 : decode cX9_text 104 = .ok (.if_icmp .ne 26, 3) := by decide +kernel
theorem dX9_text_107 : decode cX9_text 107 = .ok (.aload_n 0, 1) := by decide +kernel
theorem dX9_text_108 : decode cX9_text 108 = .ok (.getfield 249, 3) := by decide +kernel
theorem dX9_text_111 : decode cX9_text 111 = .ok (.ifCond .le 36, 3) := by decide +kernel
theorem dX9_text_114 : decode cX9_text 114 = .ok (.lload_n 2, 1) := by decide +kernel
theorem dX9_text_115 : decode cX9_text 115 = .ok (.ldc2_w 264, 3) := by decide +kernel
theorem dX9_text_118 : decode cX9_text 118 = .ok (.lcmp, 1) := by decide +kernel
theorem dX9_text_119 : decode cX9_text 119 = .ok (.ifCond .eq 11, 3) := by decide +kernel
theorem dX9_text_122 : decode cX9_text 122 = .ok (.lload_n 2, 1) := by decide +kernel
theorem dX9_text_123 : decode cX9_text 123 = .ok (.ldc2_w 266, 3) := by decide +kernel
theorem dX9_text_126 : decode cX9_text 126 = .ok (.lcmp, 1) := by decide +kernel
theorem dX9_text_127 : decode cX9_text 127 = .ok (.ifCond .ne 20, 3) := by decide +kernel
theorem dX9_text_130 : decode cX9_text 130 = .ok (.aload_n 0, 1) := by decide +kernel
theorem dX9_text_131 : decode cX9_text 131 = .ok (.iconst 2, 1) := by decide +kernel
theorem dX9_text_132 : decode cX9_text 132 = .ok (.aload_n 0, 1) := by decide +kernel
theorem dX9_text_133 : decode cX9_text 133 = .ok (.getfield 122, 3) := by decide +kernel
theorem dX9_text_136 : decode cX9_text 136 = .ok (.aload_n 0, 1) := by decide +kernel
theorem dX9_text_137 : decode cX9_text 137 = .ok (.getfield 205, 3) := by decide +kernel
theorem dX9_text_140 : decode cX9_text 140 = .ok (.iaload, 1) := by decide +kernel
theorem dX9_text_141 : decode cX9_text 141 = .ok (.invokevirtual 208, 3) := by decide +kernel
theorem dX9_text_144 : decode cX9_text 144 = .ok (.goto 39, 3) := by decide +kernel
theorem dX9_text_147 : decode cX9_text 147 = .ok (.lload_n 2, 1) := by decide +kernel
theorem dX9_text_148 : decode cX9_text 148 = .ok (.ldc2_w 264, 3) := by decide +kernel
theorem dX9_text_151 : decode cX9_text 151 = .ok (.lcmp, 1) := by decide +kernel
theorem dX9_text_152 : decode cX9_text 152 = .ok (.ifCond .ne 11, 3) := by decide +kernel
theorem dX9_text_155 : decode cX9_text 155 = .ok (.aload_n 0, 1) := by decide +kernel
theorem dX9_text_156 : decode cX9_text 156 = .ok (.iload_n 1, 1) := by decide +kernel
theorem dX9_text_157 : decode cX9_text 157 = .ok (.invokevirtual 268, 3) := by decide +kernel
theorem dX9_text_160 : decode cX9_text 160 = .ok (.goto 23, 3) := by decide +kernel
theorem dX9_text_163 : decode cX9_text 163 = .ok (.lload_n 2, 1) := by decide +kernel
theorem dX9_text_164 : decode cX9_text 164 = .ok (.ldc2_w 266, 3) := by decide +kernel
theorem dX9_text_167 : decode cX9_text 167 = .ok (.lcmp, 1) := by decide +kernel
theorem dX9_text_168 : decode cX9_text 168 = .ok (.ifCond .ne 10, 3) := by decide +kernel
theorem dX9_text_171 : decode cX9_text 171 = .ok (.aload_n 0, 1) := by decide +kernel
theorem dX9_text_172 : decode cX9_text 172 = .ok (.invokevirtual 271, 3) := by decide +kernel
theorem dX9_text_175 : decode cX9_text 175 = .ok (.goto 8, 3) := by decide +kernel
theorem dX9_text_178 : decode cX9_text 178 = .ok (.aload_n 0, 1) := by decide +kernel
theorem dX9_text_179 : decode cX9_text 179 = .ok (.iload_n 1, 1) := by decide +kernel
theorem dX9_text_180 : decode cX9_text 180 = .ok (.invokevirtual 274, 3) := by decide +kernel
theorem dX9_text_183 : decode cX9_text 183 = .ok (.goto (-173), 3) := by decide +kernel
theorem dX9_text_186 : decode cX9_text 186 = .ok (.return_, 1) := by decide +kernel
theorem dX9_spell_0 : decode cX9_spell 0 = .ok (.iconst 0, 1) := by decide +kernel
theorem dX9_spell_1 : decode cX9_spell 1 = .ok (.istore 4, 2) := by decide +kernel
theorem dX9_spell_3 : decode cX9_spell 3 = .ok (.iload_n 2, 1) := by decide +kernel
theorem dX9_spell_4 : decode cX9_spell 4 = .ok (.istore 5, 2) := by decide +kernel
theorem dX9_spell_6 : decode cX9_spell 6 = .ok (.iload 5, 2) := by decide +kernel
theorem dX9_spell_8 : decode cX9_spell 8 = .ok (.bipush (-2), 2) := by decide +kernel
theorem dX9_spell_10 : decode cX9_spell 10 = .ok (.if_icmp .eq 32, 3) := by decide +kernel
theorem dX9_spell_13 : decode cX9_spell 13 = .ok (.aload_n 0, 1) := by decide +kernel
theorem dX9_spell_14 : decode cX9_spell 14 = .ok (.getfield 158, 3) := by decide +kernel
theorem dX9_spell_17 : decode cX9_spell 17 = .ok (.iload 4, 2) := by decide +kernel
theorem dX9_spell_19 : decode cX9_spell 19 = .ok (.iload 5, 2) := by decide +kernel
theorem dX9_spell_21 : decode cX9_spell 21 = .ok (.iastore, 1) := by decide +kernel
theorem dX9_spell_22 : decode cX9_spell 22 = .ok (.iinc 4 1, 3) := by decide +kernel
theorem dX9_spell_25 : decode cX9_spell 25 = .ok (.aload_n 0, 1) := by decide +kernel
theorem dX9_spell_26 : decode cX9_spell 26 = .ok (.getfield 97, 3) := by decide +kernel
theorem dX9_spell_29 : decode cX9_spell 29 = .ok (.bipush 40, 2) := by decide +kernel
theorem dX9_spell_31 : decode cX9_spell 31 = .ok (.iload_n 1, 1) := by decide +kernel
theorem dX9_spell_32 : decode cX9_spell 32 = .ok (.imul, 1) := by decide +kernel
theorem dX9_spell_33 : decode cX9_spell 33 = .ok (.iload 5, 2) := by decide +kernel
theorem dX9_spell_35 : decode cX9_spell 35 = .ok (.iadd, 1) := by decide +kernel
theorem dX9_spell_36 : decode cX9_spell 36 = .ok (.iaload, 1) := by decide +kernel
theorem dX9_spell_37 : decode cX9_spell 37 = .ok (.istore 5, 2) := by decide +kernel
theorem dX9_spell_39 : decode cX9_spell 39 = .ok (.goto (-33), 3) := by decide +kernel
theorem dX9_spell_42 : decode cX9_spell 42 = .ok (.iconst 0, 1) := by decide +kernel
theorem dX9_spell_43 : decode cX9_spell 43 = .ok (.istore 5, 2) := by decide +kernel
theorem dX9_spell_45 : decode cX9_spell 45 = .ok (.iload 4, 2) := by decide +kernel
theorem dX9_spell_47 : decode cX9_spell 47 = .ok (.iconst 1, 1) := by decide +kernel
theorem dX9_spell_48 : decode cX9_spell 48 = .ok (.isub, 1) := by decide +kernel
theorem dX9_spell_49 : decode cX9_spell 49 = .ok (.istore 6, 2) := by decide +kernel
theorem dX9_spell_51 : decode cX9_spell 51 = .ok (.iload 6, 2) := by decide +kernel
theorem dX9_spell_53 : decode cX9_spell 53 = .ok (.ifCond .lt 78, 3) := by decide +kernel
theorem dX9_spell_56 : decode cX9_spell 56 = .ok (.bipush 40, 2) := by decide +kernel
theorem dX9_spell_58 : decode cX9_spell 58 = .ok (.iload_n 1, 1) := by decide +kernel
theorem dX9_spell_59 : decode cX9_spell 59 = .ok (.imul, 1) := by decide +kernel
theorem dX9_spell_60 : decode cX9_spell 60 = .ok (.aload_n 0, 1) := by decide +kernel
theorem dX9_spell_61 : decode cX9_spell 61 = .ok (.getfield 158, 3) := by decide +kernel
theorem dX9_spell_64 : decode cX9_spell 64 = .ok (.iload 6, 2) := by decide +kernel
theorem dX9_spell_66 : decode cX9_spell 66 = .ok (.iaload, 1) := by decide +kernel
theorem dX9_spell_67 : decode cX9_spell 67 = .ok (.iadd, 1) := by decide +kernel
theorem dX9_spell_68 : decode cX9_spell 68 = .ok (.istore 7, 2) := by decide +kernel
theorem dX9_spell_70 : decode cX9_spell 70 = .ok (.iconst 0, 1) := by decide +kernel
theorem dX9_spell_71 : decode cX9_spell 71 = .ok (.istore 8, 2) := by decide +kernel
theorem dX9_spell_73 : decode cX9_spell 73 = .ok (.iload 8, 2) := by decide +kernel
theorem dX9_spell_75 : decode cX9_spell 75 = .ok (.aload_n 0, 1) := by decide +kernel
theorem dX9_spell_76 : decode cX9_spell 76 = .ok (.getfield 70, 3) := by decide +kernel
theorem dX9_spell_79 : decode cX9_spell 79 = .ok (.iload 7, 2) := by decide +kernel
theorem dX9_spell_81 : decode cX9_spell 81 = .ok (.iaload, 1) := by decide +kernel
theorem dX9_spell_82 : decode cX9_spell 82 = .ok (.if_icmp .ge 29, 3) := by decide +kernel
theorem dX9_spell_85 : decode cX9_spell 85 = .ok (.aload_n 3, 1) := by decide +kernel
theorem dX9_spell_86 : decode cX9_spell 86 = .ok (.iload 5, 2) := by decide +kernel
theorem dX9_spell_88 : decode cX9_spell 88 = .ok (.aload_n 0, 1) := by decide +kernel
theorem dX9_spell_89 : decode cX9_spell 89 = .ok (.getfield 73, 3) := by decide +kernel
theorem dX9_spell_92 : decode cX9_spell 92 = .ok (.bipush 12, 2) := by decide +kernel
theorem dX9_spell_94 : decode cX9_spell 94 = .ok (.iload 7, 2) := by decide +kernel
theorem dX9_spell_96 : decode cX9_spell 96 = .ok (.imul, 1) := by decide +kernel
theorem dX9_spell_97 : decode cX9_spell 97 = .ok (.iload 8, 2) := by decide +kernel
theorem dX9_spell_99 : decode cX9_spell 99 = .ok (.iadd, 1) := by decide +kernel
theorem dX9_spell_100 : decode cX9_spell 100 = .ok (.baload, 1) := by decide +kernel
theorem dX9_spell_101 : decode cX9_spell 101 = .ok (.bastore, 1) := by decide +kernel
theorem dX9_spell_102 : decode cX9_spell 102 = .ok (.iinc 5 1, 3) := by decide +kernel
theorem dX9_spell_105 : decode cX9_spell 105 = .ok (.iinc 8 1, 3) := by decide +kernel
theorem dX9_spell_108 : decode cX9_spell 108 = .ok (.goto (-35), 3) := by decide +kernel
theorem dX9_spell_111 : decode cX9_spell 111 = .ok (.iload 6, 2) := by decide +kernel
theorem dX9_spell_113 : decode cX9_spell 113 = .ok (.ifCond .le 12, 3) := by decide +kernel
theorem dX9_spell_116 : decode cX9_spell 116 = .ok (.aload_n 3, 1) := by decide +kernel
theorem dX9_spell_117 : decode cX9_spell 117 = .ok (.iload 5, 2) := by decide +kernel
theorem dX9_spell_119 : decode cX9_spell 119 = .ok (.bipush 46, 2) := by decide +kernel
theorem dX9_spell_121 : decode cX9_spell 121 = .ok (.bastore, 1) := by decide +kernel
theorem dX9_spell_122 : decode cX9_spell 122 = .ok (.iinc 5 1, 3) := by decide +kernel
theorem dX9_spell_125 : decode cX9_spell 125 = .ok (.iinc 6 (-1), 3) := by decide +kernel
theorem dX9_spell_128 : decode cX9_spell 128 = .ok (.goto (-77), 3) := by decide +kernel
theorem dX9_spell_131 : decode cX9_spell 131 = .ok (.iload 5, 2) := by decide +kernel
theorem dX9_spell_133 : decode cX9_spell 133 = .ok (.ireturn, 1) := by decide +kernel
theorem dX9_isToken_0 : decode cX9_isToken 0 = .ok (.aload_n 0, 1) := by decide +kernel
theorem dX9_isToken_1 : decode cX9_isToken 1 = .ok (.getfield 70, 3) := by decide +kernel
theorem dX9_isToken_4 : decode cX9_isToken 4 = .ok (.iload_n 1, 1) := by decide +kernel
theorem dX9_isToken_5 : decode cX9_isToken 5 = .ok (.iaload, 1) := by decide +kernel
theorem dX9_isToken_6 : decode cX9_isToken 6 = .ok (.aload_n 0, 1) := by decide +kernel
theorem dX9_isToken_7 : decode cX9_isToken 7 = .ok (.getfield 125, 3) := by decide +kernel
theorem dX9_isToken_10 : decode cX9_isToken 10 = .ok (.iload_n 2, 1) := by decide +kernel
theorem dX9_isToken_11 : decode cX9_isToken 11 = .ok (.iaload, 1) := by decide +kernel
theorem dX9_isToken_12 : decode cX9_isToken 12 = .ok (.if_icmp .ne 7, 3) := by decide +kernel
theorem dX9_isToken_15 : decode cX9_isToken 15 = .ok (.iconst 1, 1) := by decide +kernel
theorem dX9_isToken_16 : decode cX9_isToken 16 = .ok (.goto 4, 3) := by decide +kernel
theorem dX9_isToken_19 : decode cX9_isToken 19 = .ok (.iconst 0, 1) := by decide +kernel
theorem dX9_isToken_20 : decode cX9_isToken 20 = .ok (.istore_n 3, 1) := by decide +kernel
theorem dX9_isToken_21 : decode cX9_isToken 21 = .ok (.iconst 0, 1) := by decide +kernel
theorem dX9_isToken_22 : decode cX9_isToken 22 = .ok (.istore 4, 2) := by decide +kernel
theorem dX9_isToken_24 : decode cX9_isToken 24 = .ok (.iload 4, 2) := by decide +kernel
theorem dX9_isToken_26 : decode cX9_isToken 26 = .ok (.aload_n 0, 1) := by decide +kernel
theorem dX9_isToken_27 : decode cX9_isToken 27 = .ok (.getfield 70, 3) := by decide +kernel
theorem dX9_isToken_30 : decode cX9_isToken 30 = .ok (.iload_n 1, 1) := by decide +kernel
theorem dX9_isToken_31 : decode cX9_isToken 31 = .ok (.iaload, 1) := by decide +kernel
theorem dX9_isToken_32 : decode cX9_isToken 32 = .ok (.if_icmp .ge 48, 3) := by decide +kernel
theorem dX9_isToken_35 : decode cX9_isToken 35 = .ok (.iload_n 3, 1) := by decide +kernel
theorem dX9_isToken_36 : decode cX9_isToken 36 = .ok (.ifCond .eq 44, 3) := by decide +kernel
theorem dX9_isToken_39 : decode cX9_isToken 39 = .ok (.aload_n 0, 1) := by decide +kernel
theorem dX9_isToken_40 : decode cX9_isToken 40 = .ok (.getfield 73, 3) := by decide +kernel
theorem dX9_isToken_43 : decode cX9_isToken 43 = .ok (.bipush 12, 2) := by decide +kernel
theorem dX9_isToken_45 : decode cX9_isToken 45 = .ok (.iload_n 1, 1) := by decide +kernel
theorem dX9_isToken_46 : decode cX9_isToken 46 = .ok (.imul, 1) := by decide +kernel
theorem dX9_isToken_47 : decode cX9_isToken 47 = .ok (.iload 4, 2) := by decide +kernel
theorem dX9_isToken_49 : decode cX9_isToken 49 = .ok (.iadd, 1) := by decide +kernel
theorem dX9_isToken_50 : decode cX9_isToken 50 = .ok (.baload, 1) := by decide +kernel
theorem dX9_isToken_51 : decode cX9_isToken 51 = .ok (.aload_n 0, 1) := by decide +kernel
theorem dX9_isToken_52 : decode cX9_isToken 52 = .ok (.getfield 46, 3) := by decide +kernel
theorem dX9_isToken_55 : decode cX9_isToken 55 = .ok (.aload_n 0, 1) := by decide +kernel
theorem dX9_isToken_56 : decode cX9_isToken 56 = .ok (.getfield 122, 3) := by decide +kernel
theorem dX9_isToken_59 : decode cX9_isToken 59 = .ok (.iload_n 2, 1) := by decide +kernel
theorem dX9_isToken_60 : decode cX9_isToken 60 = .ok (.iaload, 1) := by decide +kernel
theorem dX9_isToken_61 : decode cX9_isToken 61 = .ok (.iload 4, 2) := by decide +kernel
theorem dX9_isToken_63 : decode cX9_isToken 63 = .ok (.iadd, 1) := by decide +kernel
theorem dX9_isToken_64 : decode cX9_isToken 64 = .ok (.baload, 1) := by decide +kernel
theorem dX9_isToken_65 : decode cX9_isToken 65 = .ok (.if_icmp .ne 7, 3) := by decide +kernel
theorem dX9_isToken_68 : decode cX9_isToken 68 = .ok (.iconst 1, 1) := by decide +kernel
theorem dX9_isToken_69 : decode cX9_isToken 69 = .ok (.goto 4, 3) := by decide +kernel
theorem dX9_isToken_72 : decode cX9_isToken 72 = .ok (.iconst 0, 1) := by decide +kernel
theorem dX9_isToken_73 : decode cX9_isToken 73 = .ok (.istore_n 3, 1) := by decide +kernel
theorem dX9_isToken_74 : decode cX9_isToken 74 = .ok (.iinc 4 1, 3) := by decide +kernel
theorem dX9_isToken_77 : decode cX9_isToken 77 = .ok (.goto (-53), 3) := by decide +kernel
theorem dX9_isToken_80 : decode cX9_isToken 80 = .ok (.iload_n 3, 1) := by decide +kernel
theorem dX9_isToken_81 : decode cX9_isToken 81 = .ok (.ireturn, 1) := by decide +kernel
theorem dX9_fieldOf_0 : decode cX9_fieldOf 0 = .ok (.iconst 0, 1) := by decide +kernel
theorem dX9_fieldOf_1 : decode cX9_fieldOf 1 = .ok (.istore 4, 2) := by decide +kernel
theorem dX9_fieldOf_3 : decode cX9_fieldOf 3 = .ok (.iload 4, 2) := by decide +kernel
theorem dX9_fieldOf_5 : decode cX9_fieldOf 5 = .ok (.aload_n 0, 1) := by decide +kernel
theorem dX9_fieldOf_6 : decode cX9_fieldOf 6 = .ok (.getfield 60, 3) := by decide +kernel
theorem dX9_fieldOf_9 : decode cX9_fieldOf 9 = .ok (.iload_n 1, 1) := by decide +kernel
theorem dX9_fieldOf_10 : decode cX9_fieldOf 10 = .ok (.iaload, 1) := by decide +kernel
theorem dX9_fieldOf_11 : decode cX9_fieldOf 11 = .ok (.if_icmp .ge 117, 3) := by decide +kernel
theorem dX9_fieldOf_14 : decode cX9_fieldOf 14 = .ok (.iload 4, 2) := by decide +kernel
theorem dX9_fieldOf_16 : decode cX9_fieldOf 16 = .ok (.istore 5, 2) := by decide +kernel
theorem dX9_fieldOf_18 : decode cX9_fieldOf 18 = .ok (.iload_n 2, 1) := by decide +kernel
theorem dX9_fieldOf_19 : decode cX9_fieldOf 19 = .ok (.iconst 2, 1) := by decide +kernel
theorem dX9_fieldOf_20 : decode cX9_fieldOf 20 = .ok (.iload_n 3, 1) := by decide +kernel
theorem dX9_fieldOf_21 : decode cX9_fieldOf 21 = .ok (.iconst 1, 1) := by decide +kernel
theorem dX9_fieldOf_22 : decode cX9_fieldOf 22 = .ok (.isub, 1) := by decide +kernel
theorem dX9_fieldOf_23 : decode cX9_fieldOf 23 = .ok (.imul, 1) := by decide +kernel
theorem dX9_fieldOf_24 : decode cX9_fieldOf 24 = .ok (.iadd, 1) := by decide +kernel
theorem dX9_fieldOf_25 : decode cX9_fieldOf 25 = .ok (.istore 6, 2) := by decide +kernel
theorem dX9_fieldOf_27 : decode cX9_fieldOf 27 = .ok (.iconst 1, 1) := by decide +kernel
theorem dX9_fieldOf_28 : decode cX9_fieldOf 28 = .ok (.istore 7, 2) := by decide +kernel
theorem dX9_fieldOf_30 : decode cX9_fieldOf 30 = .ok (.iconst 0, 1) := by decide +kernel
theorem dX9_fieldOf_31 : decode cX9_fieldOf 31 = .ok (.istore 8, 2) := by decide +kernel
theorem dX9_fieldOf_33 : decode cX9_fieldOf 33 = .ok (.iload 8, 2) := by decide +kernel
theorem dX9_fieldOf_35 : decode cX9_fieldOf 35 = .ok (.iload_n 3, 1) := by decide +kernel
theorem dX9_fieldOf_36 : decode cX9_fieldOf 36 = .ok (.if_icmp .ge 71, 3) := by decide +kernel
theorem dX9_fieldOf_39 : decode cX9_fieldOf 39 = .ok (.iload 7, 2) := by decide +kernel
theorem dX9_fieldOf_41 : decode cX9_fieldOf 41 = .ok (.ifCond .eq 66, 3) := by decide +kernel
theorem dX9_fieldOf_44 : decode cX9_fieldOf 44 = .ok (.iload 5, 2) := by decide +kernel
theorem dX9_fieldOf_46 : decode cX9_fieldOf 46 = .ok (.bipush (-2), 2) := by decide +kernel
theorem dX9_fieldOf_48 : decode cX9_fieldOf 48 = .ok (.if_icmp .eq 23, 3) := by decide +kernel
theorem dX9_fieldOf_51 : decode cX9_fieldOf 51 = .ok (.aload_n 0, 1) := by decide +kernel
theorem dX9_fieldOf_52 : decode cX9_fieldOf 52 = .ok (.bipush 40, 2) := by decide +kernel
theorem dX9_fieldOf_54 : decode cX9_fieldOf 54 = .ok (.iload_n 1, 1) := by decide +kernel
theorem dX9_fieldOf_55 : decode cX9_fieldOf 55 = .ok (.imul, 1) := by decide +kernel
theorem dX9_fieldOf_56 : decode cX9_fieldOf 56 = .ok (.iload 5, 2) := by decide +kernel
theorem dX9_fieldOf_58 : decode cX9_fieldOf 58 = .ok (.iadd, 1) := by decide +kernel
theorem dX9_fieldOf_59 : decode cX9_fieldOf 59 = .ok (.iload 6, 2) := by decide +kernel
theorem dX9_fieldOf_61 : decode cX9_fieldOf 61 = .ok (.invokevirtual 277, 3) := by decide +kernel
theorem dX9_fieldOf_64 : decode cX9_fieldOf 64 = .ok (.ifCond .eq 7, 3) := by decide +kernel
theorem dX9_fieldOf_67 : decode cX9_fieldOf 67 = .ok (.iconst 1, 1) := by decide +kernel
theorem dX9_fieldOf_68 : decode cX9_fieldOf 68 = .ok (.goto 4, 3) := by decide +kernel
theorem dX9_fieldOf_71 : decode cX9_fieldOf 71 = .ok (.iconst 0, 1) := by decide +kernel
theorem dX9_fieldOf_72 : decode cX9_fieldOf 72 = .ok (.istore 7, 2) := by decide +kernel
theorem dX9_fieldOf_74 : decode cX9_fieldOf 74 = .ok (.iload 7, 2) := by decide +kernel
theorem dX9_fieldOf_76 : decode cX9_fieldOf 76 = .ok (.ifCond .eq 18, 3) := by decide +kernel
theorem dX9_fieldOf_79 : decode cX9_fieldOf 79 = .ok (.aload_n 0, 1) := by decide +kernel
theorem dX9_fieldOf_80 : decode cX9_fieldOf 80 = .ok (.getfield 97, 3) := by decide +kernel
theorem dX9_fieldOf_83 : decode cX9_fieldOf 83 = .ok (.bipush 40, 2) := by decide +kernel
theorem dX9_fieldOf_85 : decode cX9_fieldOf 85 = .ok (.iload_n 1, 1) := by decide +kernel
theorem dX9_fieldOf_86 : decode cX9_fieldOf 86 = .ok (.imul, 1) := by decide +kernel
theorem dX9_fieldOf_87 : decode cX9_fieldOf 87 = .ok (.iload 5, 2) := by decide +kernel
theorem dX9_fieldOf_89 : decode cX9_fieldOf 89 = .ok (.iadd, 1) := by decide +kernel
theorem dX9_fieldOf_90 : decode cX9_fieldOf 90 = .ok (.iaload, 1) := by decide +kernel
theorem dX9_fieldOf_91 : decode cX9_fieldOf 91 = .ok (.goto 5, 3) := by decide +kernel
theorem dX9_fieldOf_94 : decode cX9_fieldOf 94 = .ok (.iload 5, 2) := by decide +kernel
theorem dX9_fieldOf_96 : decode cX9_fieldOf 96 = .ok (.istore 5, 2) := by decide +kernel
theorem dX9_fieldOf_98 : decode cX9_fieldOf 98 = .ok (.iinc 6 (-2), 3) := by decide +kernel
theorem dX9_fieldOf_101 : decode cX9_fieldOf 101 = .ok (.iinc 8 1, 3) := by decide +kernel
theorem dX9_fieldOf_104 : decode cX9_fieldOf 104 = .ok (.goto (-71), 3) := by decide +kernel
theorem dX9_fieldOf_107 : decode cX9_fieldOf 107 = .ok (.iload 7, 2) := by decide +kernel
theorem dX9_fieldOf_109 : decode cX9_fieldOf 109 = .ok (.ifCond .eq 13, 3) := by decide +kernel
theorem dX9_fieldOf_112 : decode cX9_fieldOf 112 = .ok (.iload 5, 2) := by decide +kernel
theorem dX9_fieldOf_114 : decode cX9_fieldOf 114 = .ok (.bipush (-2), 2) := by decide +kernel
theorem dX9_fieldOf_116 : decode cX9_fieldOf 116 = .ok (.if_icmp .ne 6, 3) := by decide +kernel
theorem dX9_fieldOf_119 : decode cX9_fieldOf 119 = .ok (.iload 4, 2) := by decide +kernel
theorem dX9_fieldOf_121 : decode cX9_fieldOf 121 = .ok (.ireturn, 1) := by decide +kernel
theorem dX9_fieldOf_122 : decode cX9_fieldOf 122 = .ok (.iinc 4 1, 3) := by decide +kernel
theorem dX9_fieldOf_125 : decode cX9_fieldOf 125 = .ok (.goto (-122), 3) := by decide +kernel
theorem dX9_fieldOf_128 : decode cX9_fieldOf 128 = .ok (.bipush (-2), 2) := by decide +kernel
theorem dX9_fieldOf_130 : decode cX9_fieldOf 130 = .ok (.ireturn, 1) := by decide +kernel
theorem dX9_isFirst_0 : decode cX9_isFirst 0 = .ok (.iconst 0, 1) := by decide +kernel
theorem dX9_isFirst_1 : decode cX9_isFirst 1 = .ok (.istore_n 2, 1) := by decide +kernel
theorem dX9_isFirst_2 : decode cX9_isFirst 2 = .ok (.iload_n 2, 1) := by decide +kernel
theorem dX9_isFirst_3 : decode cX9_isFirst 3 = .ok (.iload_n 1, 1) := by decide +kernel
theorem dX9_isFirst_4 : decode cX9_isFirst 4 = .ok (.if_icmp .ge 41, 3) := by decide +kernel
theorem dX9_isFirst_7 : decode cX9_isFirst 7 = .ok (.aload_n 0, 1) := by decide +kernel
theorem dX9_isFirst_8 : decode cX9_isFirst 8 = .ok (.getfield 128, 3) := by decide +kernel
theorem dX9_isFirst_11 : decode cX9_isFirst 11 = .ok (.iload_n 2, 1) := by decide +kernel
theorem dX9_isFirst_12 : decode cX9_isFirst 12 = .ok (.iaload, 1) := by decide +kernel
theorem dX9_isFirst_13 : decode cX9_isFirst 13 = .ok (.aload_n 0, 1) := by decide +kernel
theorem dX9_isFirst_14 : decode cX9_isFirst 14 = .ok (.getfield 128, 3) := by decide +kernel
theorem dX9_isFirst_17 : decode cX9_isFirst 17 = .ok (.iload_n 1, 1) := by decide +kernel
theorem dX9_isFirst_18 : decode cX9_isFirst 18 = .ok (.iaload, 1) := by decide +kernel
theorem dX9_isFirst_19 : decode cX9_isFirst 19 = .ok (.if_icmp .ne 20, 3) := by decide +kernel
theorem dX9_isFirst_22 : decode cX9_isFirst 22 = .ok (.aload_n 0, 1) := by decide +kernel
theorem dX9_isFirst_23 : decode cX9_isFirst 23 = .ok (.getfield 131, 3) := by decide +kernel
theorem dX9_isFirst_26 : decode cX9_isFirst 26 = .ok (.iload_n 2, 1) := by decide +kernel
theorem dX9_isFirst_27 : decode cX9_isFirst 27 = .ok (.iaload, 1) := by decide +kernel
theorem dX9_isFirst_28 : decode cX9_isFirst 28 = .ok (.aload_n 0, 1) := by decide +kernel
theorem dX9_isFirst_29 : decode cX9_isFirst 29 = .ok (.getfield 131, 3) := by decide +kernel
theorem dX9_isFirst_32 : decode cX9_isFirst 32 = .ok (.iload_n 1, 1) := by decide +kernel
theorem dX9_isFirst_33 : decode cX9_isFirst 33 = .ok (.iaload, 1) := by decide +kernel
theorem dX9_isFirst_34 : decode cX9_isFirst 34 = .ok (.if_icmp .ne 5, 3) := by decide +kernel
theorem dX9_isFirst_37 : decode cX9_isFirst 37 = .ok (.iconst 0, 1) := by decide +kernel
theorem dX9_isFirst_38 : decode cX9_isFirst 38 = .ok (.ireturn, 1) := by decide +kernel
theorem dX9_isFirst_39 : decode cX9_isFirst 39 = .ok (.iinc 2 1, 3) := by decide +kernel
theorem dX9_isFirst_42 : decode cX9_isFirst 42 = .ok (.goto (-40), 3) := by decide +kernel
theorem dX9_isFirst_45 : decode cX9_isFirst 45 = .ok (.iconst 1, 1) := by decide +kernel
theorem dX9_isFirst_46 : decode cX9_isFirst 46 = .ok (.ireturn, 1) := by decide +kernel
theorem dX9_judge_0 : decode cX9_judge 0 = .ok (.iconst 0, 1) := by decide +kernel
theorem dX9_judge_1 : decode cX9_judge 1 = .ok (.istore_n 2, 1) := by decide +kernel
theorem dX9_judge_2 : decode cX9_judge 2 = .ok (.iload_n 2, 1) := by decide +kernel
theorem dX9_judge_3 : decode cX9_judge 3 = .ok (.aload_n 0, 1) := by decide +kernel
theorem dX9_judge_4 : decode cX9_judge 4 = .ok (.getfield 243, 3) := by decide +kernel
theorem dX9_judge_7 : decode cX9_judge 7 = .ok (.if_icmp .ge 148, 3) := by decide +kernel
theorem dX9_judge_10 : decode cX9_judge 10 = .ok (.bipush 40, 2) := by decide +kernel
theorem dX9_judge_12 : decode cX9_judge 12 = .ok (.iload_n 1, 1) := by decide +kernel
theorem dX9_judge_13 : decode cX9_judge 13 = .ok (.imul, 1) := by decide +kernel
theorem dX9_judge_14 : decode cX9_judge 14 = .ok (.aload_n 0, 1) := by decide +kernel
theorem dX9_judge_15 : decode cX9_judge 15 = .ok (.getfield 128, 3) := by decide +kernel
theorem dX9_judge_18 : decode cX9_judge 18 = .ok (.iload_n 2, 1) := by decide +kernel
theorem dX9_judge_19 : decode cX9_judge 19 = .ok (.iaload, 1) := by decide +kernel
theorem dX9_judge_20 : decode cX9_judge 20 = .ok (.iadd, 1) := by decide +kernel
theorem dX9_judge_21 : decode cX9_judge 21 = .ok (.istore_n 3, 1) := by decide +kernel
theorem dX9_judge_22 : decode cX9_judge 22 = .ok (.aload_n 0, 1) := by decide +kernel
theorem dX9_judge_23 : decode cX9_judge 23 = .ok (.iload_n 1, 1) := by decide +kernel
theorem dX9_judge_24 : decode cX9_judge 24 = .ok (.aload_n 0, 1) := by decide +kernel
theorem dX9_judge_25 : decode cX9_judge 25 = .ok (.getfield 134, 3) := by decide +kernel
theorem dX9_judge_28 : decode cX9_judge 28 = .ok (.iload_n 2, 1) := by decide +kernel
theorem dX9_judge_29 : decode cX9_judge 29 = .ok (.iaload, 1) := by decide +kernel
theorem dX9_judge_30 : decode cX9_judge 30 = .ok (.aload_n 0, 1) := by decide +kernel
theorem dX9_judge_31 : decode cX9_judge 31 = .ok (.getfield 137, 3) := by decide +kernel
theorem dX9_judge_34 : decode cX9_judge 34 = .ok (.iload_n 2, 1) := by decide +kernel
theorem dX9_judge_35 : decode cX9_judge 35 = .ok (.iaload, 1) := by decide +kernel
theorem dX9_judge_36 : decode cX9_judge 36 = .ok (.invokevirtual 280, 3) := by decide +kernel
theorem dX9_judge_39 : decode cX9_judge 39 = .ok (.istore 4, 2) := by decide +kernel
theorem dX9_judge_41 : decode cX9_judge 41 = .ok (.iload 4, 2) := by decide +kernel
theorem dX9_judge_43 : decode cX9_judge 43 = .ok (.bipush (-2), 2) := by decide +kernel
theorem dX9_judge_45 : decode cX9_judge 45 = .ok (.if_icmp .ne 8, 3) := by decide +kernel
theorem dX9_judge_48 : decode cX9_judge 48 = .ok (.bipush 9, 2) := by decide +kernel
theorem dX9_judge_50 : decode cX9_judge 50 = .ok (.goto 15, 3) := by decide +kernel
theorem dX9_judge_53 : decode cX9_judge 53 = .ok (.aload_n 0, 1) := by decide +kernel
theorem dX9_judge_54 : decode cX9_judge 54 = .ok (.getfield 76, 3) := by decide +kernel
theorem dX9_judge_57 : decode cX9_judge 57 = .ok (.bipush 40, 2) := by decide +kernel
theorem dX9_judge_59 : decode cX9_judge 59 = .ok (.iload_n 1, 1) := by decide +kernel
theorem dX9_judge_60 : decode cX9_judge 60 = .ok (.imul, 1) := by decide +kernel
theorem dX9_judge_61 : decode cX9_judge 61 = .ok (.iload 4, 2) := by decide +kernel
theorem dX9_judge_63 : decode cX9_judge 63 = .ok (.iadd, 1) := by decide +kernel
theorem dX9_judge_64 : decode cX9_judge 64 = .ok (.iaload, 1) := by decide +kernel
theorem dX9_judge_65 : decode cX9_judge 65 = .ok (.istore 5, 2) := by decide +kernel
theorem dX9_judge_67 : decode cX9_judge 67 = .ok (.iload 5, 2) := by decide +kernel
theorem dX9_judge_69 : decode cX9_judge 69 = .ok (.aload_n 0, 1) := by decide +kernel
theorem dX9_judge_70 : decode cX9_judge 70 = .ok (.getfield 131, 3) := by decide +kernel
theorem dX9_judge_73 : decode cX9_judge 73 = .ok (.iload_n 2, 1) := by decide +kernel
theorem dX9_judge_74 : decode cX9_judge 74 = .ok (.iaload, 1) := by decide +kernel
theorem dX9_judge_75 : decode cX9_judge 75 = .ok (.iconst 4, 1) := by decide +kernel
theorem dX9_judge_76 : decode cX9_judge 76 = .ok (.if_icmp .ne 7, 3) := by decide +kernel
theorem dX9_judge_79 : decode cX9_judge 79 = .ok (.iconst 1, 1) := by decide +kernel
theorem dX9_judge_80 : decode cX9_judge 80 = .ok (.goto 4, 3) := by decide +kernel
theorem dX9_judge_83 : decode cX9_judge 83 = .ok (.iconst 4, 1) := by decide +kernel
theorem dX9_judge_84 : decode cX9_judge 84 = .ok (.if_icmp .le 20, 3) := by decide +kernel
theorem dX9_judge_87 : decode cX9_judge 87 = .ok (.aload_n 0, 1) := by decide +kernel
theorem dX9_judge_88 : decode cX9_judge 88 = .ok (.bipush 8, 2) := by decide +kernel
theorem dX9_judge_90 : decode cX9_judge 90 = .ok (.aload_n 0, 1) := by decide +kernel
theorem dX9_judge_91 : decode cX9_judge 91 = .ok (.getfield 122, 3) := by decide +kernel
theorem dX9_judge_94 : decode cX9_judge 94 = .ok (.aload_n 0, 1) := by decide +kernel
theorem dX9_judge_95 : decode cX9_judge 95 = .ok (.getfield 134, 3) := by decide +kernel
theorem dX9_judge_98 : decode cX9_judge 98 = .ok (.iload_n 2, 1) := by decide +kernel
theorem dX9_judge_99 : decode cX9_judge 99 = .ok (.iaload, 1) := by decide +kernel
theorem dX9_judge_100 : decode cX9_judge 100 = .ok (.iaload, 1) := by decide +kernel
theorem dX9_judge_101 : decode cX9_judge 101 = .ok (.invokevirtual 228, 3) := by decide +kernel
theorem dX9_judge_104 : decode cX9_judge 104 = .ok (.aload_n 0, 1) := by decide +kernel
theorem dX9_judge_105 : decode cX9_judge 105 = .ok (.iload_n 2, 1) := by decide +kernel
theorem dX9_judge_106 : decode cX9_judge 106 = .ok (.invokevirtual 284, 3) := by decide +kernel
theorem dX9_judge_109 : decode cX9_judge 109 = .ok (.ifCond .eq 24, 3) := by decide +kernel
theorem dX9_judge_112 : decode cX9_judge 112 = .ok (.aload_n 0, 1) := by decide +kernel
theorem dX9_judge_113 : decode cX9_judge 113 = .ok (.getfield 131, 3) := by decide +kernel
theorem dX9_judge_116 : decode cX9_judge 116 = .ok (.iload_n 2, 1) := by decide +kernel
theorem dX9_judge_117 : decode cX9_judge 117 = .ok (.iaload, 1) := by decide +kernel
theorem dX9_judge_118 : decode cX9_judge 118 = .ok (.iconst 4, 1) := by decide +kernel
theorem dX9_judge_119 : decode cX9_judge 119 = .ok (.if_icmp .ne 14, 3) := by decide +kernel
theorem dX9_judge_122 : decode cX9_judge 122 = .ok (.aload_n 0, 1) := by decide +kernel
theorem dX9_judge_123 : decode cX9_judge 123 = .ok (.getfield 85, 3) := by decide +kernel
theorem dX9_judge_126 : decode cX9_judge 126 = .ok (.iload_n 3, 1) := by decide +kernel
theorem dX9_judge_127 : decode cX9_judge 127 = .ok (.iload 4, 2) := by decide +kernel
theorem dX9_judge_129 : decode cX9_judge 129 = .ok (.iastore, 1) := by decide +kernel
theorem dX9_judge_130 : decode cX9_judge 130 = .ok (.goto 19, 3) := by decide +kernel
theorem dX9_judge_133 : decode cX9_judge 133 = .ok (.aload_n 0, 1) := by decide +kernel
theorem dX9_judge_134 : decode cX9_judge 134 = .ok (.iload_n 2, 1) := by decide +kernel
theorem dX9_judge_135 : decode cX9_judge 135 = .ok (.invokevirtual 284, 3) := by decide +kernel
theorem dX9_judge_138 : decode cX9_judge 138 = .ok (.ifCond .eq 11, 3) := by decide +kernel
theorem dX9_judge_141 : decode cX9_judge 141 = .ok (.aload_n 0, 1) := by decide +kernel
theorem dX9_judge_142 : decode cX9_judge 142 = .ok (.getfield 88, 3) := by decide +kernel
theorem dX9_judge_145 : decode cX9_judge 145 = .ok (.iload_n 3, 1) := by decide +kernel
theorem dX9_judge_146 : decode cX9_judge 146 = .ok (.iload 4, 2) := by decide +kernel
theorem dX9_judge_148 : decode cX9_judge 148 = .ok (.iastore, 1) := by decide +kernel
theorem dX9_judge_149 : decode cX9_judge 149 = .ok (.iinc 2 1, 3) := by decide +kernel
theorem dX9_judge_152 : decode cX9_judge 152 = .ok (.goto (-150), 3) := by decide +kernel
theorem dX9_judge_155 : decode cX9_judge 155 = .ok (.iconst 0, 1) := by decide +kernel
theorem dX9_judge_156 : decode cX9_judge 156 = .ok (.istore_n 2, 1) := by decide +kernel
theorem dX9_judge_157 : decode cX9_judge 157 = .ok (.iload_n 2, 1) := by decide +kernel
theorem dX9_judge_158 : decode cX9_judge 158 = .ok (.aload_n 0, 1) := by decide +kernel
theorem dX9_judge_159 : decode cX9_judge 159 = .ok (.getfield 243, 3) := by decide +kernel
theorem dX9_judge_162 : decode cX9_judge 162 = .ok (.if_icmp .ge 115, 3) := by decide +kernel
theorem dX9_judge_165 : decode cX9_judge 165 = .ok (.aload_n 0, 1) := by decide +kernel
theorem dX9_judge_166 : decode cX9_judge 166 = .ok (.getfield 131, 3) := by decide +kernel
theorem dX9_judge_169 : decode cX9_judge 169 = .ok (.iload_n 2, 1) := by decide +kernel
theorem dX9_judge_170 : decode cX9_judge 170 = .ok (.iaload, 1) := by decide +kernel
theorem dX9_judge_171 : decode cX9_judge 171 = .ok (.iconst 4, 1) := by decide +kernel
theorem dX9_judge_172 : decode cX9_judge 172 = .ok (.if_icmp .ne 99, 3) := by decide +kernel
theorem dX9_judge_175 : decode cX9_judge 175 = .ok (.aload_n 0, 1) := by decide +kernel
theorem dX9_judge_176 : decode cX9_judge 176 = .ok (.iload_n 2, 1) := by decide +kernel
theorem dX9_judge_177 : decode cX9_judge 177 = .ok (.invokevirtual 284, 3) := by decide +kernel
theorem dX9_judge_180 : decode cX9_judge 180 = .ok (.ifCond .eq 91, 3) := by decide +kernel
theorem dX9_judge_183 : decode cX9_judge 183 = .ok (.aload_n 0, 1) := by decide +kernel
theorem dX9_judge_184 : decode cX9_judge 184 = .ok (.getfield 85, 3) := by decide +kernel
theorem dX9_judge_187 : decode cX9_judge 187 = .ok (.bipush 40, 2) := by decide +kernel
theorem dX9_judge_189 : decode cX9_judge 189 = .ok (.iload_n 1, 1) := by decide +kernel
theorem dX9_judge_190 : decode cX9_judge 190 = .ok (.imul, 1) := by decide +kernel
theorem dX9_judge_191 : decode cX9_judge 191 = .ok (.aload_n 0, 1) := by decide +kernel
theorem dX9_judge_192 : decode cX9_judge 192 = .ok (.getfield 128, 3) := by decide +kernel
theorem dX9_judge_195 : decode cX9_judge 195 = .ok (.iload_n 2, 1) := by decide +kernel
theorem dX9_judge_196 : decode cX9_judge 196 = .ok (.iaload, 1) := by decide +kernel
theorem dX9_judge_197 : decode cX9_judge 197 = .ok (.iadd, 1) := by decide +kernel
theorem dX9_judge_198 : decode cX9_judge 198 = .ok (.iaload, 1) := by decide +kernel
theorem dX9_judge_199 : decode cX9_judge 199 = .ok (.istore_n 3, 1) := by decide +kernel
theorem dX9_judge_200 : decode cX9_judge 200 = .ok (.iconst 0, 1) := by decide +kernel
theorem dX9_judge_201 : decode cX9_judge 201 = .ok (.istore 4, 2) := by decide +kernel
theorem dX9_judge_203 : decode cX9_judge 203 = .ok (.iload 4, 2) := by decide +kernel
theorem dX9_judge_205 : decode cX9_judge 205 = .ok (.bipush 40, 2) := by decide +kernel
theorem dX9_judge_207 : decode cX9_judge 207 = .ok (.if_icmp .ge 37, 3) := by decide +kernel
theorem dX9_judge_210 : decode cX9_judge 210 = .ok (.iload_n 3, 1) := by decide +kernel
theorem dX9_judge_211 : decode cX9_judge 211 = .ok (.bipush (-2), 2) := by decide +kernel
theorem dX9_judge_213 : decode cX9_judge 213 = .ok (.if_icmp .eq 31, 3) := by decide +kernel
theorem dX9_judge_216 : decode cX9_judge 216 = .ok (.iload_n 3, 1) := by decide +kernel
theorem dX9_judge_217 : decode cX9_judge 217 = .ok (.aload_n 0, 1) := by decide +kernel
theorem dX9_judge_218 : decode cX9_judge 218 = .ok (.getfield 128, 3) := by decide +kernel
theorem dX9_judge_221 : decode cX9_judge 221 = .ok (.iload_n 2, 1) := by decide +kernel
theorem dX9_judge_222 : decode cX9_judge 222 = .ok (.iaload, 1) := by decide +kernel
theorem dX9_judge_223 : decode cX9_judge 223 = .ok (.if_icmp .eq 21, 3) := by decide +kernel
theorem dX9_judge_226 : decode cX9_judge 226 = .ok (.aload_n 0, 1) := by decide +kernel
theorem dX9_judge_227 : decode cX9_judge 227 = .ok (.getfield 85, 3) := by decide +kernel
theorem dX9_judge_230 : decode cX9_judge 230 = .ok (.bipush 40, 2) := by decide +kernel
theorem dX9_judge_232 : decode cX9_judge 232 = .ok (.iload_n 1, 1) := by decide +kernel
theorem dX9_judge_233 : decode cX9_judge 233 = .ok (.imul, 1) := by decide +kernel
theorem dX9_judge_234 : decode cX9_judge 234 = .ok (.iload_n 3, 1) := by decide +kernel
theorem dX9_judge_235 : decode cX9_judge 235 = .ok (.iadd, 1) := by decide +kernel
theorem dX9_judge_236 : decode cX9_judge 236 = .ok (.iaload, 1) := by decide +kernel
theorem dX9_judge_237 : decode cX9_judge 237 = .ok (.istore_n 3, 1) := by decide +kernel
theorem dX9_judge_238 : decode cX9_judge 238 = .ok (.iinc 4 1, 3) := by decide +kernel
theorem dX9_judge_241 : decode cX9_judge 241 = .ok (.goto (-38), 3) := by decide +kernel
theorem dX9_judge_244 : decode cX9_judge 244 = .ok (.iload_n 3, 1) := by decide +kernel
theorem dX9_judge_245 : decode cX9_judge 245 = .ok (.aload_n 0, 1) := by decide +kernel
theorem dX9_judge_246 : decode cX9_judge 246 = .ok (.getfield 128, 3) := by decide +kernel
theorem dX9_judge_249 : decode cX9_judge 249 = .ok (.iload_n 2, 1) := by decide +kernel
theorem dX9_judge_250 : decode cX9_judge 250 = .ok (.iaload, 1) := by decide +kernel
theorem dX9_judge_251 : decode cX9_judge 251 = .ok (.if_icmp .ne 20, 3) := by decide +kernel
theorem dX9_judge_254 : decode cX9_judge 254 = .ok (.aload_n 0, 1) := by decide +kernel
theorem dX9_judge_255 : decode cX9_judge 255 = .ok (.bipush 9, 2) := by decide +kernel
theorem dX9_judge_257 : decode cX9_judge 257 = .ok (.aload_n 0, 1) := by decide +kernel
theorem dX9_judge_258 : decode cX9_judge 258 = .ok (.getfield 122, 3) := by decide +kernel
theorem dX9_judge_261 : decode cX9_judge 261 = .ok (.aload_n 0, 1) := by decide +kernel
theorem dX9_judge_262 : decode cX9_judge 262 = .ok (.getfield 140, 3) := by decide +kernel
theorem dX9_judge_265 : decode cX9_judge 265 = .ok (.iload_n 2, 1) := by decide +kernel
theorem dX9_judge_266 : decode cX9_judge 266 = .ok (.iaload, 1) := by decide +kernel
theorem dX9_judge_267 : decode cX9_judge 267 = .ok (.iaload, 1) := by decide +kernel
theorem dX9_judge_268 : decode cX9_judge 268 = .ok (.invokevirtual 228, 3) := by decide +kernel
theorem dX9_judge_271 : decode cX9_judge 271 = .ok (.iinc 2 1, 3) := by decide +kernel
theorem dX9_judge_274 : decode cX9_judge 274 = .ok (.goto (-117), 3) := by decide +kernel
theorem dX9_judge_277 : decode cX9_judge 277 = .ok (.aload_n 0, 1) := by decide +kernel
theorem dX9_judge_278 : decode cX9_judge 278 = .ok (.getfield 67, 3) := by decide +kernel
theorem dX9_judge_281 : decode cX9_judge 281 = .ok (.iload_n 1, 1) := by decide +kernel
theorem dX9_judge_282 : decode cX9_judge 282 = .ok (.bipush 40, 2) := by decide +kernel
theorem dX9_judge_284 : decode cX9_judge 284 = .ok (.iastore, 1) := by decide +kernel
theorem dX9_judge_285 : decode cX9_judge 285 = .ok (.iconst 0, 1) := by decide +kernel
theorem dX9_judge_286 : decode cX9_judge 286 = .ok (.istore_n 2, 1) := by decide +kernel
theorem dX9_judge_287 : decode cX9_judge 287 = .ok (.iload_n 2, 1) := by decide +kernel
theorem dX9_judge_288 : decode cX9_judge 288 = .ok (.aload_n 0, 1) := by decide +kernel
theorem dX9_judge_289 : decode cX9_judge 289 = .ok (.getfield 261, 3) := by decide +kernel
theorem dX9_judge_292 : decode cX9_judge 292 = .ok (.if_icmp .ge 60, 3) := by decide +kernel
theorem dX9_judge_295 : decode cX9_judge 295 = .ok (.aload_n 0, 1) := by decide +kernel
theorem dX9_judge_296 : decode cX9_judge 296 = .ok (.aload_n 0, 1) := by decide +kernel
theorem dX9_judge_297 : decode cX9_judge 297 = .ok (.getfield 143, 3) := by decide +kernel
theorem dX9_judge_300 : decode cX9_judge 300 = .ok (.iload_n 2, 1) := by decide +kernel
theorem dX9_judge_301 : decode cX9_judge 301 = .ok (.iaload, 1) := by decide +kernel
theorem dX9_judge_302 : decode cX9_judge 302 = .ok (.invokevirtual 231, 3) := by decide +kernel
theorem dX9_judge_305 : decode cX9_judge 305 = .ok (.istore_n 3, 1) := by decide +kernel
theorem dX9_judge_306 : decode cX9_judge 306 = .ok (.iload_n 3, 1) := by decide +kernel
theorem dX9_judge_307 : decode cX9_judge 307 = .ok (.bipush 40, 2) := by decide +kernel
theorem dX9_judge_309 : decode cX9_judge 309 = .ok (.if_icmp .gt 13, 3) := by decide +kernel
theorem dX9_judge_312 : decode cX9_judge 312 = .ok (.iload_n 3, 1) := by decide +kernel
theorem dX9_judge_313 : decode cX9_judge 313 = .ok (.aload_n 0, 1) := by decide +kernel
theorem dX9_judge_314 : decode cX9_judge 314 = .ok (.getfield 60, 3) := by decide +kernel
theorem dX9_judge_317 : decode cX9_judge 317 = .ok (.iload_n 1, 1) := by decide +kernel
theorem dX9_judge_318 : decode cX9_judge 318 = .ok (.iaload, 1) := by decide +kernel
theorem dX9_judge_319 : decode cX9_judge 319 = .ok (.if_icmp .ge 20, 3) := by decide +kernel
theorem dX9_judge_322 : decode cX9_judge 322 = .ok (.aload_n 0, 1) := by decide +kernel
theorem dX9_judge_323 : decode cX9_judge 323 = .ok (.bipush 10, 2) := by decide +kernel
theorem dX9_judge_325 : decode cX9_judge 325 = .ok (.aload_n 0, 1) := by decide +kernel
theorem dX9_judge_326 : decode cX9_judge 326 = .ok (.getfield 122, 3) := by decide +kernel
theorem dX9_judge_329 : decode cX9_judge 329 = .ok (.aload_n 0, 1) := by decide +kernel
theorem dX9_judge_330 : decode cX9_judge 330 = .ok (.getfield 143, 3) := by decide +kernel
theorem dX9_judge_333 : decode cX9_judge 333 = .ok (.iload_n 2, 1) := by decide +kernel
theorem dX9_judge_334 : decode cX9_judge 334 = .ok (.iaload, 1) := by decide +kernel
theorem dX9_judge_335 : decode cX9_judge 335 = .ok (.iaload, 1) := by decide +kernel
theorem dX9_judge_336 : decode cX9_judge 336 = .ok (.invokevirtual 228, 3) := by decide +kernel
theorem dX9_judge_339 : decode cX9_judge 339 = .ok (.aload_n 0, 1) := by decide +kernel
theorem dX9_judge_340 : decode cX9_judge 340 = .ok (.getfield 67, 3) := by decide +kernel
theorem dX9_judge_343 : decode cX9_judge 343 = .ok (.iload_n 1, 1) := by decide +kernel
theorem dX9_judge_344 : decode cX9_judge 344 = .ok (.iload_n 3, 1) := by decide +kernel
theorem dX9_judge_345 : decode cX9_judge 345 = .ok (.iastore, 1) := by decide +kernel
theorem dX9_judge_346 : decode cX9_judge 346 = .ok (.iinc 2 1, 3) := by decide +kernel
theorem dX9_judge_349 : decode cX9_judge 349 = .ok (.goto (-62), 3) := by decide +kernel
theorem dX9_judge_352 : decode cX9_judge 352 = .ok (.return_, 1) := by decide +kernel
theorem dX9_read_0 : decode cX9_read 0 = .ok (.aload_n 0, 1) := by decide +kernel
theorem dX9_read_1 : decode cX9_read 1 = .ok (.getfield 170, 3) := by decide +kernel
theorem dX9_read_4 : decode cX9_read 4 = .ok (.bipush 8, 2) := by decide +kernel
theorem dX9_read_6 : decode cX9_read 6 = .ok (.if_icmp .ne 17, 3) := by decide +kernel
theorem dX9_read_9 : decode cX9_read 9 = .ok (.aload_n 0, 1) := by decide +kernel
theorem dX9_read_10 : decode cX9_read 10 = .ok (.iconst 0, 1) := by decide +kernel
theorem dX9_read_11 : decode cX9_read 11 = .ok (.putfield 177, 3) := by decide +kernel
theorem dX9_read_14 : decode cX9_read 14 = .ok (.aload_n 0, 1) := by decide +kernel
theorem dX9_read_15 : decode cX9_read 15 = .ok (.bipush (-2), 2) := by decide +kernel
theorem dX9_read_17 : decode cX9_read 17 = .ok (.putfield 56, 3) := by decide +kernel
theorem dX9_read_20 : decode cX9_read 20 = .ok (.bipush (-3), 2) := by decide +kernel
theorem dX9_read_22 : decode cX9_read 22 = .ok (.ireturn, 1) := by decide +kernel
theorem dX9_read_23 : decode cX9_read 23 = .ok (.aload_n 0, 1) := by decide +kernel
theorem dX9_read_24 : decode cX9_read 24 = .ok (.getfield 170, 3) := by decide +kernel
theorem dX9_read_27 : decode cX9_read 27 = .ok (.istore_n 1, 1) := by decide +kernel
theorem dX9_read_28 : decode cX9_read 28 = .ok (.aload_n 0, 1) := by decide +kernel
theorem dX9_read_29 : decode cX9_read 29 = .ok (.getfield 60, 3) := by decide +kernel
theorem dX9_read_32 : decode cX9_read 32 = .ok (.iload_n 1, 1) := by decide +kernel
theorem dX9_read_33 : decode cX9_read 33 = .ok (.iconst 0, 1) := by decide +kernel
theorem dX9_read_34 : decode cX9_read 34 = .ok (.iastore, 1) := by decide +kernel
theorem dX9_read_35 : decode cX9_read 35 = .ok (.aload_n 0, 1) := by decide +kernel
theorem dX9_read_36 : decode cX9_read 36 = .ok (.getfield 64, 3) := by decide +kernel
theorem dX9_read_39 : decode cX9_read 39 = .ok (.iload_n 1, 1) := by decide +kernel
theorem dX9_read_40 : decode cX9_read 40 = .ok (.iconst 0, 1) := by decide +kernel
theorem dX9_read_41 : decode cX9_read 41 = .ok (.iastore, 1) := by decide +kernel
theorem dX9_read_42 : decode cX9_read 42 = .ok (.aload_n 0, 1) := by decide +kernel
theorem dX9_read_43 : decode cX9_read 43 = .ok (.iconst 0, 1) := by decide +kernel
theorem dX9_read_44 : decode cX9_read 44 = .ok (.putfield 243, 3) := by decide +kernel
theorem dX9_read_47 : decode cX9_read 47 = .ok (.aload_n 0, 1) := by decide +kernel
theorem dX9_read_48 : decode cX9_read 48 = .ok (.iconst 0, 1) := by decide +kernel
theorem dX9_read_49 : decode cX9_read 49 = .ok (.putfield 261, 3) := by decide +kernel
theorem dX9_read_52 : decode cX9_read 52 = .ok (.aload_n 0, 1) := by decide +kernel
theorem dX9_read_53 : decode cX9_read 53 = .ok (.iconst 0, 1) := by decide +kernel
theorem dX9_read_54 : decode cX9_read 54 = .ok (.putfield 196, 3) := by decide +kernel
theorem dX9_read_57 : decode cX9_read 57 = .ok (.aload_n 0, 1) := by decide +kernel
theorem dX9_read_58 : decode cX9_read 58 = .ok (.iconst 0, 1) := by decide +kernel
theorem dX9_read_59 : decode cX9_read 59 = .ok (.putfield 199, 3) := by decide +kernel
theorem dX9_read_62 : decode cX9_read 62 = .ok (.aload_n 0, 1) := by decide +kernel
theorem dX9_read_63 : decode cX9_read 63 = .ok (.iconst 0, 1) := by decide +kernel
theorem dX9_read_64 : decode cX9_read 64 = .ok (.putfield 202, 3) := by decide +kernel
theorem dX9_read_67 : decode cX9_read 67 = .ok (.aload_n 0, 1) := by decide +kernel
theorem dX9_read_68 : decode cX9_read 68 = .ok (.bipush (-2), 2) := by decide +kernel
theorem dX9_read_70 : decode cX9_read 70 = .ok (.putfield 56, 3) := by decide +kernel
theorem dX9_read_73 : decode cX9_read 73 = .ok (.aload_n 0, 1) := by decide +kernel
theorem dX9_read_74 : decode cX9_read 74 = .ok (.invokevirtual 287, 3) := by decide +kernel
theorem dX9_read_77 : decode cX9_read 77 = .ok (.istore_n 2, 1) := by decide +kernel
theorem dX9_read_78 : decode cX9_read 78 = .ok (.iload_n 2, 1) := by decide +kernel
theorem dX9_read_79 : decode cX9_read 79 = .ok (.ifCond .lt 9, 3) := by decide +kernel
theorem dX9_read_82 : decode cX9_read 82 = .ok (.aload_n 0, 1) := by decide +kernel
theorem dX9_read_83 : decode cX9_read 83 = .ok (.iconst 1, 1) := by decide +kernel
theorem dX9_read_84 : decode cX9_read 84 = .ok (.iload_n 2, 1) := by decide +kernel
theorem dX9_read_85 : decode cX9_read 85 = .ok (.invokevirtual 208, 3) := by decide +kernel
theorem dX9_read_88 : decode cX9_read 88 = .ok (.aload_n 0, 1) := by decide +kernel
theorem dX9_read_89 : decode cX9_read 89 = .ok (.getfield 196, 3) := by decide +kernel
theorem dX9_read_92 : decode cX9_read 92 = .ok (.ifCond .ne 8, 3) := by decide +kernel
theorem dX9_read_95 : decode cX9_read 95 = .ok (.aload_n 0, 1) := by decide +kernel
theorem dX9_read_96 : decode cX9_read 96 = .ok (.iload_n 1, 1) := by decide +kernel
theorem dX9_read_97 : decode cX9_read 97 = .ok (.invokevirtual 290, 3) := by decide +kernel
theorem dX9_read_100 : decode cX9_read 100 = .ok (.aload_n 0, 1) := by decide +kernel
theorem dX9_read_101 : decode cX9_read 101 = .ok (.getfield 196, 3) := by decide +kernel
theorem dX9_read_104 : decode cX9_read 104 = .ok (.ifCond .ne 27, 3) := by decide +kernel
theorem dX9_read_107 : decode cX9_read 107 = .ok (.aload_n 0, 1) := by decide +kernel
theorem dX9_read_108 : decode cX9_read 108 = .ok (.iload_n 1, 1) := by decide +kernel
theorem dX9_read_109 : decode cX9_read 109 = .ok (.invokevirtual 293, 3) := by decide +kernel
theorem dX9_read_112 : decode cX9_read 112 = .ok (.aload_n 0, 1) := by decide +kernel
theorem dX9_read_113 : decode cX9_read 113 = .ok (.getfield 199, 3) := by decide +kernel
theorem dX9_read_116 : decode cX9_read 116 = .ok (.ifCond .eq 15, 3) := by decide +kernel
theorem dX9_read_119 : decode cX9_read 119 = .ok (.aload_n 0, 1) := by decide +kernel
theorem dX9_read_120 : decode cX9_read 120 = .ok (.aload_n 0, 1) := by decide +kernel
theorem dX9_read_121 : decode cX9_read 121 = .ok (.getfield 199, 3) := by decide +kernel
theorem dX9_read_124 : decode cX9_read 124 = .ok (.aload_n 0, 1) := by decide +kernel
theorem dX9_read_125 : decode cX9_read 125 = .ok (.getfield 202, 3) := by decide +kernel
theorem dX9_read_128 : decode cX9_read 128 = .ok (.invokevirtual 208, 3) := by decide +kernel
theorem dX9_read_131 : decode cX9_read 131 = .ok (.aload_n 0, 1) := by decide +kernel
theorem dX9_read_132 : decode cX9_read 132 = .ok (.getfield 196, 3) := by decide +kernel
theorem dX9_read_135 : decode cX9_read 135 = .ok (.ifCond .eq 11, 3) := by decide +kernel
theorem dX9_read_138 : decode cX9_read 138 = .ok (.bipush (-10), 2) := by decide +kernel
theorem dX9_read_140 : decode cX9_read 140 = .ok (.aload_n 0, 1) := by decide +kernel
theorem dX9_read_141 : decode cX9_read 141 = .ok (.getfield 196, 3) := by decide +kernel
theorem dX9_read_144 : decode cX9_read 144 = .ok (.isub, 1) := by decide +kernel
theorem dX9_read_145 : decode cX9_read 145 = .ok (.ireturn, 1) := by decide +kernel
theorem dX9_read_146 : decode cX9_read 146 = .ok (.aload_n 0, 1) := by decide +kernel
theorem dX9_read_147 : decode cX9_read 147 = .ok (.dup, 1) := by decide +kernel
theorem dX9_read_148 : decode cX9_read 148 = .ok (.getfield 170, 3) := by decide +kernel
theorem dX9_read_151 : decode cX9_read 151 = .ok (.iconst 1, 1) := by decide +kernel

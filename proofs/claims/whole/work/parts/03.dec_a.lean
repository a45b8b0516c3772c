theorem dX0_init_0 : decode cX0_init 0 = .ok (.aload_n 0, 1) := by decide +kernel
theorem dX0_init_1 : decode cX0_init 1 = .ok (.invokespecial 3, 3) := by decide +kernel
theorem dX0_init_4 : decode cX0_init 4 = .ok (.aload_n 0, 1) := by decide +kernel
theorem dX0_init_5 : decode cX0_init 5 = .ok (.iconst 1, 1) := by decide +kernel
theorem dX0_init_6 : decode cX0_init 6 = .ok (.putfield 9, 3) := by decide +kernel
theorem dX0_init_9 : decode cX0_init 9 = .ok (.aload_n 0, 1) := by decide +kernel
theorem dX0_init_10 : decode cX0_init 10 = .ok (.aload_n 1, 1) := by decide +kernel
theorem dX0_init_11 : decode cX0_init 11 = .ok (.putfield 15, 3) := by decide +kernel
theorem dX0_init_14 : decode cX0_init 14 = .ok (.aload_n 0, 1) := by decide +kernel
theorem dX0_init_15 : decode cX0_init 15 = .ok (.aload_n 2, 1) := by decide +kernel
theorem dX0_init_16 : decode cX0_init 16 = .ok (.putfield 19, 3) := by decide +kernel
theorem dX0_init_19 : decode cX0_init 19 = .ok (.aload_n 0, 1) := by decide +kernel
theorem dX0_init_20 : decode cX0_init 20 = .ok (.aload_n 3, 1) := by decide +kernel
theorem dX0_init_21 : decode cX0_init 21 = .ok (.putfield 23, 3) := by decide +kernel
theorem dX0_init_24 : decode cX0_init 24 = .ok (.aload_n 0, 1) := by decide +kernel
theorem dX0_init_25 : decode cX0_init 25 = .ok (.aload_n 1, 1) := by decide +kernel
theorem dX0_init_26 : decode cX0_init 26 = .ok (.getfield 27, 3) := by decide +kernel
theorem dX0_init_29 : decode cX0_init 29 = .ok (.newarray .long, 2) := by decide +kernel
theorem dX0_init_31 : decode cX0_init 31 = .ok (.putfield 33, 3) := by decide +kernel
theorem dX0_init_34 : decode cX0_init 34 = .ok (.aload_n 0, 1) := by decide +kernel
theorem dX0_init_35 : decode cX0_init 35 = .ok (.aload_n 1, 1) := by decide +kernel
theorem dX0_init_36 : decode cX0_init 36 = .ok (.getfield 27, 3) := by decide +kernel
theorem dX0_init_39 : decode cX0_init 39 = .ok (.newarray .long, 2) := by decide +kernel
theorem dX0_init_41 : decode cX0_init 41 = .ok (.putfield 37, 3) := by decide +kernel
theorem dX0_init_44 : decode cX0_init 44 = .ok (.aload_n 0, 1) := by decide +kernel
theorem dX0_init_45 : decode cX0_init 45 = .ok (.aload_n 1, 1) := by decide +kernel
theorem dX0_init_46 : decode cX0_init 46 = .ok (.getfield 27, 3) := by decide +kernel
theorem dX0_init_49 : decode cX0_init 49 = .ok (.newarray .int, 2) := by decide +kernel
theorem dX0_init_51 : decode cX0_init 51 = .ok (.putfield 40, 3) := by decide +kernel
theorem dX0_init_54 : decode cX0_init 54 = .ok (.return_, 1) := by decide +kernel
theorem dX0_prepare_0 : decode cX0_prepare 0 = .ok (.aload_n 0, 1) := by decide +kernel
theorem dX0_prepare_1 : decode cX0_prepare 1 = .ok (.getfield 9, 3) := by decide +kernel
theorem dX0_prepare_4 : decode cX0_prepare 4 = .ok (.ifCond .ne 30, 3) := by decide +kernel
theorem dX0_prepare_7 : decode cX0_prepare 7 = .ok (.aload_n 1, 1) := by decide +kernel
theorem dX0_prepare_8 : decode cX0_prepare 8 = .ok (.aload_n 0, 1) := by decide +kernel
theorem dX0_prepare_9 : decode cX0_prepare 9 = .ok (.getfield 44, 3) := by decide +kernel
theorem dX0_prepare_12 : decode cX0_prepare 12 = .ok (.if_acmp .ne 22, 3) := by decide +kernel
theorem dX0_prepare_15 : decode cX0_prepare 15 = .ok (.aload_n 2, 1) := by decide +kernel
theorem dX0_prepare_16 : decode cX0_prepare 16 = .ok (.aload_n 0, 1) := by decide +kernel
theorem dX0_prepare_17 : decode cX0_prepare 17 = .ok (.getfield 48, 3) := by decide +kernel
theorem dX0_prepare_20 : decode cX0_prepare 20 = .ok (.if_acmp .ne 14, 3) := by decide +kernel
theorem dX0_prepare_23 : decode cX0_prepare 23 = .ok (.aload_n 0, 1) := by decide +kernel
theorem dX0_prepare_24 : decode cX0_prepare 24 = .ok (.iload_n 3, 1) := by decide +kernel
theorem dX0_prepare_25 : decode cX0_prepare 25 = .ok (.iload 4, 2) := by decide +kernel
theorem dX0_prepare_27 : decode cX0_prepare 27 = .ok (.invokevirtual 51, 3) := by decide +kernel
theorem dX0_prepare_30 : decode cX0_prepare 30 = .ok (.ifCond .eq 4, 3) := by decide +kernel
theorem dX0_prepare_33 : decode cX0_prepare 33 = .ok (.return_, 1) := by decide +kernel
theorem dX0_prepare_34 : decode cX0_prepare 34 = .ok (.aload_n 0, 1) := by decide +kernel
theorem dX0_prepare_35 : decode cX0_prepare 35 = .ok (.aload_n 1, 1) := by decide +kernel
theorem dX0_prepare_36 : decode cX0_prepare 36 = .ok (.putfield 44, 3) := by decide +kernel
theorem dX0_prepare_39 : decode cX0_prepare 39 = .ok (.aload_n 0, 1) := by decide +kernel
theorem dX0_prepare_40 : decode cX0_prepare 40 = .ok (.aload_n 2, 1) := by decide +kernel
theorem dX0_prepare_41 : decode cX0_prepare 41 = .ok (.putfield 48, 3) := by decide +kernel
theorem dX0_prepare_44 : decode cX0_prepare 44 = .ok (.aload_n 0, 1) := by decide +kernel
theorem dX0_prepare_45 : decode cX0_prepare 45 = .ok (.iload_n 3, 1) := by decide +kernel
theorem dX0_prepare_46 : decode cX0_prepare 46 = .ok (.putfield 55, 3) := by decide +kernel
theorem dX0_prepare_49 : decode cX0_prepare 49 = .ok (.aload_n 0, 1) := by decide +kernel
theorem dX0_prepare_50 : decode cX0_prepare 50 = .ok (.iload 4, 2) := by decide +kernel
theorem dX0_prepare_52 : decode cX0_prepare 52 = .ok (.putfield 58, 3) := by decide +kernel
theorem dX0_prepare_55 : decode cX0_prepare 55 = .ok (.aload_n 0, 1) := by decide +kernel
theorem dX0_prepare_56 : decode cX0_prepare 56 = .ok (.iconst 0, 1) := by decide +kernel
theorem dX0_prepare_57 : decode cX0_prepare 57 = .ok (.putfield 9, 3) := by decide +kernel
theorem dX0_prepare_60 : decode cX0_prepare 60 = .ok (.aload_n 0, 1) := by decide +kernel
theorem dX0_prepare_61 : decode cX0_prepare 61 = .ok (.getfield 15, 3) := by decide +kernel
theorem dX0_prepare_64 : decode cX0_prepare 64 = .ok (.getfield 61, 3) := by decide +kernel
theorem dX0_prepare_67 : decode cX0_prepare 67 = .ok (.iload_n 3, 1) := by decide +kernel
theorem dX0_prepare_68 : decode cX0_prepare 68 = .ok (.iconst (-1), 1) := by decide +kernel
theorem dX0_prepare_69 : decode cX0_prepare 69 = .ok (.ixor, 1) := by decide +kernel
theorem dX0_prepare_70 : decode cX0_prepare 70 = .ok (.iand, 1) := by decide +kernel
theorem dX0_prepare_71 : decode cX0_prepare 71 = .ok (.istore 5, 2) := by decide +kernel
theorem dX0_prepare_73 : decode cX0_prepare 73 = .ok (.iload 5, 2) := by decide +kernel
theorem dX0_prepare_75 : decode cX0_prepare 75 = .ok (.istore 6, 2) := by decide +kernel
theorem dX0_prepare_77 : decode cX0_prepare 77 = .ok (.iconst 0, 1) := by decide +kernel
theorem dX0_prepare_78 : decode cX0_prepare 78 = .ok (.istore 7, 2) := by decide +kernel
theorem dX0_prepare_80 : decode cX0_prepare 80 = .ok (.iload 7, 2) := by decide +kernel
theorem dX0_prepare_82 : decode cX0_prepare 82 = .ok (.iconst 1, 1) := by decide +kernel
theorem dX0_prepare_83 : decode cX0_prepare 83 = .ok (.iload 5, 2) := by decide +kernel
theorem dX0_prepare_85 : decode cX0_prepare 85 = .ok (.invokestatic 64, 3) := by decide +kernel
theorem dX0_prepare_88 : decode cX0_prepare 88 = .ok (.ishl, 1) := by decide +kernel
theorem dX0_prepare_89 : decode cX0_prepare 89 = .ok (.if_icmp .ge 24, 3) := by decide +kernel
theorem dX0_prepare_92 : decode cX0_prepare 92 = .ok (.aload_n 0, 1) := by decide +kernel
theorem dX0_prepare_93 : decode cX0_prepare 93 = .ok (.iload 6, 2) := by decide +kernel
theorem dX0_prepare_95 : decode cX0_prepare 95 = .ok (.invokevirtual 70, 3) := by decide +kernel
theorem dX0_prepare_98 : decode cX0_prepare 98 = .ok (.iload 6, 2) := by decide +kernel
theorem dX0_prepare_100 : decode cX0_prepare 100 = .ok (.iconst 1, 1) := by decide +kernel
theorem dX0_prepare_101 : decode cX0_prepare 101 = .ok (.isub, 1) := by decide +kernel
theorem dX0_prepare_102 : decode cX0_prepare 102 = .ok (.iload 5, 2) := by decide +kernel
theorem dX0_prepare_104 : decode cX0_prepare 104 = .ok (.iand, 1) := by decide +kernel
theorem dX0_prepare_105 : decode cX0_prepare 105 = .ok (.istore 6, 2) := by decide +kernel
theorem dX0_prepare_107 : decode cX0_prepare 107 = .ok (.iinc 7 1, 3) := by decide +kernel
theorem dX0_prepare_110 : decode cX0_prepare 110 = .ok (.goto (-30), 3) := by decide +kernel
theorem dX0_prepare_113 : decode cX0_prepare 113 = .ok (.return_, 1) := by decide +kernel
theorem dX0_isFilled_0 : decode cX0_isFilled 0 = .ok (.aload_n 0, 1) := by decide +kernel
theorem dX0_isFilled_1 : decode cX0_isFilled 1 = .ok (.getfield 55, 3) := by decide +kernel
theorem dX0_isFilled_4 : decode cX0_isFilled 4 = .ok (.iload_n 1, 1) := by decide +kernel
theorem dX0_isFilled_5 : decode cX0_isFilled 5 = .ok (.iconst (-1), 1) := by decide +kernel
theorem dX0_isFilled_6 : decode cX0_isFilled 6 = .ok (.ixor, 1) := by decide +kernel
theorem dX0_isFilled_7 : decode cX0_isFilled 7 = .ok (.iand, 1) := by decide +kernel
theorem dX0_isFilled_8 : decode cX0_isFilled 8 = .ok (.ifCond .ne 20, 3) := by decide +kernel
theorem dX0_isFilled_11 : decode cX0_isFilled 11 = .ok (.iload_n 2, 1) := by decide +kernel
theorem dX0_isFilled_12 : decode cX0_isFilled 12 = .ok (.aload_n 0, 1) := by decide +kernel
theorem dX0_isFilled_13 : decode cX0_isFilled 13 = .ok (.getfield 55, 3) := by decide +kernel
theorem dX0_isFilled_16 : decode cX0_isFilled 16 = .ok (.iand, 1) := by decide +kernel
theorem dX0_isFilled_17 : decode cX0_isFilled 17 = .ok (.aload_n 0, 1) := by decide +kernel
theorem dX0_isFilled_18 : decode cX0_isFilled 18 = .ok (.getfield 58, 3) := by decide +kernel
theorem dX0_isFilled_21 : decode cX0_isFilled 21 = .ok (.if_icmp .ne 7, 3) := by decide +kernel
theorem dX0_isFilled_24 : decode cX0_isFilled 24 = .ok (.iconst 1, 1) := by decide +kernel
theorem dX0_isFilled_25 : decode cX0_isFilled 25 = .ok (.goto 4, 3) := by decide +kernel
theorem dX0_isFilled_28 : decode cX0_isFilled 28 = .ok (.iconst 0, 1) := by decide +kernel
theorem dX0_isFilled_29 : decode cX0_isFilled 29 = .ok (.ireturn, 1) := by decide +kernel
theorem dX0_fillAll_0 : decode cX0_fillAll 0 = .ok (.aload_n 0, 1) := by decide +kernel
theorem dX0_fillAll_1 : decode cX0_fillAll 1 = .ok (.getfield 55, 3) := by decide +kernel
theorem dX0_fillAll_4 : decode cX0_fillAll 4 = .ok (.iload_n 1, 1) := by decide +kernel
theorem dX0_fillAll_5 : decode cX0_fillAll 5 = .ok (.ior, 1) := by decide +kernel
theorem dX0_fillAll_6 : decode cX0_fillAll 6 = .ok (.istore_n 2, 1) := by decide +kernel
theorem dX0_fillAll_7 : decode cX0_fillAll 7 = .ok (.iconst 0, 1) := by decide +kernel
theorem dX0_fillAll_8 : decode cX0_fillAll 8 = .ok (.istore_n 3, 1) := by decide +kernel
theorem dX0_fillAll_9 : decode cX0_fillAll 9 = .ok (.iconst 0, 1) := by decide +kernel
theorem dX0_fillAll_10 : decode cX0_fillAll 10 = .ok (.istore 4, 2) := by decide +kernel
theorem dX0_fillAll_12 : decode cX0_fillAll 12 = .ok (.iload 4, 2) := by decide +kernel
theorem dX0_fillAll_14 : decode cX0_fillAll 14 = .ok (.iconst 1, 1) := by decide +kernel
theorem dX0_fillAll_15 : decode cX0_fillAll 15 = .ok (.iload_n 1, 1) := by decide +kernel
theorem dX0_fillAll_16 : decode cX0_fillAll 16 = .ok (.invokestatic 64, 3) := by decide +kernel
theorem dX0_fillAll_19 : decode cX0_fillAll 19 = .ok (.ishl, 1) := by decide +kernel
theorem dX0_fillAll_20 : decode cX0_fillAll 20 = .ok (.if_icmp .ge 68, 3) := by decide +kernel
theorem dX0_fillAll_23 : decode cX0_fillAll 23 = .ok (.aload_n 0, 1) := by decide +kernel
theorem dX0_fillAll_24 : decode cX0_fillAll 24 = .ok (.getfield 15, 3) := by decide +kernel
theorem dX0_fillAll_27 : decode cX0_fillAll 27 = .ok (.iload_n 2, 1) := by decide +kernel
theorem dX0_fillAll_28 : decode cX0_fillAll 28 = .ok (.aload_n 0, 1) := by decide +kernel
theorem dX0_fillAll_29 : decode cX0_fillAll 29 = .ok (.getfield 58, 3) := by decide +kernel
theorem dX0_fillAll_32 : decode cX0_fillAll 32 = .ok (.iload_n 3, 1) := by decide +kernel
theorem dX0_fillAll_33 : decode cX0_fillAll 33 = .ok (.ior, 1) := by decide +kernel
theorem dX0_fillAll_34 : decode cX0_fillAll 34 = .ok (.invokevirtual 74, 3) := by decide +kernel
theorem dX0_fillAll_37 : decode cX0_fillAll 37 = .ok (.istore 5, 2) := by decide +kernel
theorem dX0_fillAll_39 : decode cX0_fillAll 39 = .ok (.aload_n 0, 1) := by decide +kernel
theorem dX0_fillAll_40 : decode cX0_fillAll 40 = .ok (.getfield 33, 3) := by decide +kernel
theorem dX0_fillAll_43 : decode cX0_fillAll 43 = .ok (.iload 5, 2) := by decide +kernel
theorem dX0_fillAll_45 : decode cX0_fillAll 45 = .ok (.aload_n 0, 1) := by decide +kernel
theorem dX0_fillAll_46 : decode cX0_fillAll 46 = .ok (.iload 5, 2) := by decide +kernel
theorem dX0_fillAll_48 : decode cX0_fillAll 48 = .ok (.iload_n 2, 1) := by decide +kernel
theorem dX0_fillAll_49 : decode cX0_fillAll 49 = .ok (.aload_n 0, 1) := by decide +kernel
theorem dX0_fillAll_50 : decode cX0_fillAll 50 = .ok (.getfield 58, 3) := by decide +kernel
theorem dX0_fillAll_53 : decode cX0_fillAll 53 = .ok (.iload_n 3, 1) := by decide +kernel
theorem dX0_fillAll_54 : decode cX0_fillAll 54 = .ok (.ior, 1) := by decide +kernel
theorem dX0_fillAll_55 : decode cX0_fillAll 55 = .ok (.invokevirtual 78, 3) := by decide +kernel
theorem dX0_fillAll_58 : decode cX0_fillAll 58 = .ok (.lastore, 1) := by decide +kernel
theorem dX0_fillAll_59 : decode cX0_fillAll 59 = .ok (.aload_n 0, 1) := by decide +kernel
theorem dX0_fillAll_60 : decode cX0_fillAll 60 = .ok (.iload 5, 2) := by decide +kernel
theorem dX0_fillAll_62 : decode cX0_fillAll 62 = .ok (.aload_n 0, 1) := by decide +kernel
theorem dX0_fillAll_63 : decode cX0_fillAll 63 = .ok (.getfield 15, 3) := by decide +kernel
theorem dX0_fillAll_66 : decode cX0_fillAll 66 = .ok (.getfield 61, 3) := by decide +kernel
theorem dX0_fillAll_69 : decode cX0_fillAll 69 = .ok (.iload_n 2, 1) := by decide +kernel
theorem dX0_fillAll_70 : decode cX0_fillAll 70 = .ok (.iconst (-1), 1) := by decide +kernel
theorem dX0_fillAll_71 : decode cX0_fillAll 71 = .ok (.ixor, 1) := by decide +kernel
theorem dX0_fillAll_72 : decode cX0_fillAll 72 = .ok (.iand, 1) := by decide +kernel
theorem dX0_fillAll_73 : decode cX0_fillAll 73 = .ok (.invokevirtual 82, 3) := by decide +kernel
theorem dX0_fillAll_76 : decode cX0_fillAll 76 = .ok (.iload_n 3, 1) := by decide +kernel
theorem dX0_fillAll_77 : decode cX0_fillAll 77 = .ok (.iload_n 1, 1) := by decide +kernel
theorem dX0_fillAll_78 : decode cX0_fillAll 78 = .ok (.isub, 1) := by decide +kernel
theorem dX0_fillAll_79 : decode cX0_fillAll 79 = .ok (.iload_n 1, 1) := by decide +kernel
theorem dX0_fillAll_80 : decode cX0_fillAll 80 = .ok (.iand, 1) := by decide +kernel
theorem dX0_fillAll_81 : decode cX0_fillAll 81 = .ok (.istore_n 3, 1) := by decide +kernel
theorem dX0_fillAll_82 : decode cX0_fillAll 82 = .ok (.iinc 4 1, 3) := by decide +kernel
theorem dX0_fillAll_85 : decode cX0_fillAll 85 = .ok (.goto (-73), 3) := by decide +kernel
theorem dX0_fillAll_88 : decode cX0_fillAll 88 = .ok (.return_, 1) := by decide +kernel
theorem dX0_shareAt_0 : decode cX0_shareAt 0 = .ok (.iload_n 2, 1) := by decide +kernel
theorem dX0_shareAt_1 : decode cX0_shareAt 1 = .ok (.aload_n 0, 1) := by decide +kernel
theorem dX0_shareAt_2 : decode cX0_shareAt 2 = .ok (.getfield 15, 3) := by decide +kernel
theorem dX0_shareAt_5 : decode cX0_shareAt 5 = .ok (.getfield 61, 3) := by decide +kernel
theorem dX0_shareAt_8 : decode cX0_shareAt 8 = .ok (.if_icmp .ne 13, 3) := by decide +kernel
theorem dX0_shareAt_11 : decode cX0_shareAt 11 = .ok (.aload_n 0, 1) := by decide +kernel
theorem dX0_shareAt_12 : decode cX0_shareAt 12 = .ok (.getfield 23, 3) := by decide +kernel
theorem dX0_shareAt_15 : decode cX0_shareAt 15 = .ok (.iload_n 2, 1) := by decide +kernel
theorem dX0_shareAt_16 : decode cX0_shareAt 16 = .ok (.iload_n 3, 1) := by decide +kernel
theorem dX0_shareAt_17 : decode cX0_shareAt 17 = .ok (.invokevirtual 86, 3) := by decide +kernel
theorem dX0_shareAt_20 : decode cX0_shareAt 20 = .ok (.lreturn, 1) := by decide +kernel
theorem dX0_shareAt_21 : decode cX0_shareAt 21 = .ok (.aload_n 0, 1) := by decide +kernel
theorem dX0_shareAt_22 : decode cX0_shareAt 22 = .ok (.getfield 15, 3) := by decide +kernel
theorem dX0_shareAt_25 : decode cX0_shareAt 25 = .ok (.getfield 92, 3) := by decide +kernel
theorem dX0_shareAt_28 : decode cX0_shareAt 28 = .ok (.aload_n 0, 1) := by decide +kernel
theorem dX0_shareAt_29 : decode cX0_shareAt 29 = .ok (.getfield 15, 3) := by decide +kernel
theorem dX0_shareAt_32 : decode cX0_shareAt 32 = .ok (.getfield 61, 3) := by decide +kernel
theorem dX0_shareAt_35 : decode cX0_shareAt 35 = .ok (.iload_n 2, 1) := by decide +kernel
theorem dX0_shareAt_36 : decode cX0_shareAt 36 = .ok (.iconst (-1), 1) := by decide +kernel
theorem dX0_shareAt_37 : decode cX0_shareAt 37 = .ok (.ixor, 1) := by decide +kernel
theorem dX0_shareAt_38 : decode cX0_shareAt 38 = .ok (.iand, 1) := by decide +kernel
theorem dX0_shareAt_39 : decode cX0_shareAt 39 = .ok (.invokestatic 95, 3) := by decide +kernel
theorem dX0_shareAt_42 : decode cX0_shareAt 42 = .ok (.iaload, 1) := by decide +kernel
theorem dX0_shareAt_43 : decode cX0_shareAt 43 = .ok (.istore 4, 2) := by decide +kernel
theorem dX0_shareAt_45 : decode cX0_shareAt 45 = .ok (.aload_n 0, 1) := by decide +kernel
theorem dX0_shareAt_46 : decode cX0_shareAt 46 = .ok (.getfield 33, 3) := by decide +kernel
theorem dX0_shareAt_49 : decode cX0_shareAt 49 = .ok (.iload_n 1, 1) := by decide +kernel
theorem dX0_shareAt_50 : decode cX0_shareAt 50 = .ok (.iload 4, 2) := by decide +kernel
theorem dX0_shareAt_52 : decode cX0_shareAt 52 = .ok (.iadd, 1) := by decide +kernel
theorem dX0_shareAt_53 : decode cX0_shareAt 53 = .ok (.laload, 1) := by decide +kernel
theorem dX0_shareAt_54 : decode cX0_shareAt 54 = .ok (.aload_n 0, 1) := by decide +kernel
theorem dX0_shareAt_55 : decode cX0_shareAt 55 = .ok (.getfield 33, 3) := by decide +kernel
theorem dX0_shareAt_58 : decode cX0_shareAt 58 = .ok (.iload_n 1, 1) := by decide +kernel
theorem dX0_shareAt_59 : decode cX0_shareAt 59 = .ok (.iconst 2, 1) := by decide +kernel
theorem dX0_shareAt_60 : decode cX0_shareAt 60 = .ok (.iload 4, 2) := by decide +kernel
theorem dX0_shareAt_62 : decode cX0_shareAt 62 = .ok (.imul, 1) := by decide +kernel
theorem dX0_shareAt_63 : decode cX0_shareAt 63 = .ok (.iadd, 1) := by decide +kernel
theorem dX0_shareAt_64 : decode cX0_shareAt 64 = .ok (.laload, 1) := by decide +kernel
theorem dX0_shareAt_65 : decode cX0_shareAt 65 = .ok (.ladd, 1) := by decide +kernel
theorem dX0_shareAt_66 : decode cX0_shareAt 66 = .ok (.lreturn, 1) := by decide +kernel
theorem dX0_fill_0 : decode cX0_fill 0 = .ok (.aload_n 0, 1) := by decide +kernel
theorem dX0_fill_1 : decode cX0_fill 1 = .ok (.iload_n 1, 1) := by decide +kernel
theorem dX0_fill_2 : decode cX0_fill 2 = .ok (.invokevirtual 98, 3) := by decide +kernel
theorem dX0_fill_5 : decode cX0_fill 5 = .ok (.istore_n 3, 1) := by decide +kernel
theorem dX0_fill_6 : decode cX0_fill 6 = .ok (.iload_n 3, 1) := by decide +kernel
theorem dX0_fill_7 : decode cX0_fill 7 = .ok (.ifCond .eq 7, 3) := by decide +kernel
theorem dX0_fill_10 : decode cX0_fill 10 = .ok (.lconst 0, 1) := by decide +kernel
theorem dX0_fill_11 : decode cX0_fill 11 = .ok (.goto 6, 3) := by decide +kernel
theorem dX0_fill_14 : decode cX0_fill 14 = .ok (.ldc2_w 102, 3) := by decide +kernel
theorem dX0_fill_17 : decode cX0_fill 17 = .ok (.lstore 4, 2) := by decide +kernel
theorem dX0_fill_19 : decode cX0_fill 19 = .ok (.iload_n 3, 1) := by decide +kernel
theorem dX0_fill_20 : decode cX0_fill 20 = .ok (.ifCond .eq 7, 3) := by decide +kernel
theorem dX0_fill_23 : decode cX0_fill 23 = .ok (.iconst 0, 1) := by decide +kernel
theorem dX0_fill_24 : decode cX0_fill 24 = .ok (.goto 4, 3) := by decide +kernel
theorem dX0_fill_27 : decode cX0_fill 27 = .ok (.iconst (-1), 1) := by decide +kernel
theorem dX0_fill_28 : decode cX0_fill 28 = .ok (.istore 6, 2) := by decide +kernel
theorem dX0_fill_30 : decode cX0_fill 30 = .ok (.iconst 0, 1) := by decide +kernel
theorem dX0_fill_31 : decode cX0_fill 31 = .ok (.istore 7, 2) := by decide +kernel
theorem dX0_fill_33 : decode cX0_fill 33 = .ok (.iload 7, 2) := by decide +kernel
theorem dX0_fill_35 : decode cX0_fill 35 = .ok (.aload_n 0, 1) := by decide +kernel
theorem dX0_fill_36 : decode cX0_fill 36 = .ok (.getfield 15, 3) := by decide +kernel
theorem dX0_fill_39 : decode cX0_fill 39 = .ok (.getfield 104, 3) := by decide +kernel
theorem dX0_fill_42 : decode cX0_fill 42 = .ok (.if_icmp .ge 104, 3) := by decide +kernel
theorem dX0_fill_45 : decode cX0_fill 45 = .ok (.iload_n 3, 1) := by decide +kernel
theorem dX0_fill_46 : decode cX0_fill 46 = .ok (.ifCond .ne 100, 3) := by decide +kernel
theorem dX0_fill_49 : decode cX0_fill 49 = .ok (.aload_n 0, 1) := by decide +kernel
theorem dX0_fill_50 : decode cX0_fill 50 = .ok (.iload 7, 2) := by decide +kernel
theorem dX0_fill_52 : decode cX0_fill 52 = .ok (.iload_n 2, 1) := by decide +kernel
theorem dX0_fill_53 : decode cX0_fill 53 = .ok (.invokevirtual 107, 3) := by decide +kernel
theorem dX0_fill_56 : decode cX0_fill 56 = .ok (.ifCond .eq 84, 3) := by decide +kernel
theorem dX0_fill_59 : decode cX0_fill 59 = .ok (.aload_n 0, 1) := by decide +kernel
theorem dX0_fill_60 : decode cX0_fill 60 = .ok (.iload_n 1, 1) := by decide +kernel
theorem dX0_fill_61 : decode cX0_fill 61 = .ok (.iload 7, 2) := by decide +kernel
theorem dX0_fill_63 : decode cX0_fill 63 = .ok (.invokevirtual 110, 3) := by decide +kernel
theorem dX0_fill_66 : decode cX0_fill 66 = .ok (.lstore 8, 2) := by decide +kernel
theorem dX0_fill_68 : decode cX0_fill 68 = .ok (.aload_n 0, 1) := by decide +kernel
theorem dX0_fill_69 : decode cX0_fill 69 = .ok (.iload_n 1, 1) := by decide +kernel
theorem dX0_fill_70 : decode cX0_fill 70 = .ok (.iload 7, 2) := by decide +kernel
theorem dX0_fill_72 : decode cX0_fill 72 = .ok (.invokevirtual 113, 3) := by decide +kernel
theorem dX0_fill_75 : decode cX0_fill 75 = .ok (.istore 10, 2) := by decide +kernel
theorem dX0_fill_77 : decode cX0_fill 77 = .ok (.lload 8, 2) := by decide +kernel
theorem dX0_fill_79 : decode cX0_fill 79 = .ok (.ldc2_w 102, 3) := by decide +kernel
theorem dX0_fill_82 : decode cX0_fill 82 = .ok (.lcmp, 1) := by decide +kernel
theorem dX0_fill_83 : decode cX0_fill 83 = .ok (.ifCond .eq 25, 3) := by decide +kernel
theorem dX0_fill_86 : decode cX0_fill 86 = .ok (.lload 4, 2) := by decide +kernel
theorem dX0_fill_88 : decode cX0_fill 88 = .ok (.ldc2_w 102, 3) := by decide +kernel
theorem dX0_fill_91 : decode cX0_fill 91 = .ok (.lcmp, 1) := by decide +kernel
theorem dX0_fill_92 : decode cX0_fill 92 = .ok (.ifCond .eq 11, 3) := by decide +kernel
theorem dX0_fill_95 : decode cX0_fill 95 = .ok (.lload 8, 2) := by decide +kernel
theorem dX0_fill_97 : decode cX0_fill 97 = .ok (.lload 4, 2) := by decide +kernel
theorem dX0_fill_99 : decode cX0_fill 99 = .ok (.lcmp, 1) := by decide +kernel
theorem dX0_fill_100 : decode cX0_fill 100 = .ok (.ifCond .ge 8, 3) := by decide +kernel
theorem dX0_fill_103 : decode cX0_fill 103 = .ok (.lload 8, 2) := by decide +kernel
theorem dX0_fill_105 : decode cX0_fill 105 = .ok (.goto 5, 3) := by decide +kernel
theorem dX0_fill_108 : decode cX0_fill 108 = .ok (.lload 4, 2) := by decide +kernel
theorem dX0_fill_110 : decode cX0_fill 110 = .ok (.lstore 4, 2) := by decide +kernel
theorem dX0_fill_112 : decode cX0_fill 112 = .ok (.iload 10, 2) := by decide +kernel
theorem dX0_fill_114 : decode cX0_fill 114 = .ok (.iconst (-1), 1) := by decide +kernel
theorem dX0_fill_115 : decode cX0_fill 115 = .ok (.if_icmp .eq 21, 3) := by decide +kernel
theorem dX0_fill_118 : decode cX0_fill 118 = .ok (.iload 6, 2) := by decide +kernel
theorem dX0_fill_120 : decode cX0_fill 120 = .ok (.iconst (-1), 1) := by decide +kernel
theorem dX0_fill_121 : decode cX0_fill 121 = .ok (.if_icmp .eq 10, 3) := by decide +kernel
theorem dX0_fill_124 : decode cX0_fill 124 = .ok (.iload 10, 2) := by decide +kernel
theorem dX0_fill_126 : decode cX0_fill 126 = .ok (.iload 6, 2) := by decide +kernel
theorem dX0_fill_128 : decode cX0_fill 128 = .ok (.if_icmp .ge 8, 3) := by decide +kernel
theorem dX0_fill_131 : decode cX0_fill 131 = .ok (.iload 10, 2) := by decide +kernel
theorem dX0_fill_133 : decode cX0_fill 133 = .ok (.goto 5, 3) := by decide +kernel
theorem dX0_fill_136 : decode cX0_fill 136 = .ok (.iload 6, 2) := by decide +kernel
theorem dX0_fill_138 : decode cX0_fill 138 = .ok (.istore 6, 2) := by decide +kernel
theorem dX0_fill_140 : decode cX0_fill 140 = .ok (.iinc 7 1, 3) := by decide +kernel
theorem dX0_fill_143 : decode cX0_fill 143 = .ok (.goto (-110), 3) := by decide +kernel
theorem dX0_fill_146 : decode cX0_fill 146 = .ok (.aload_n 0, 1) := by decide +kernel
theorem dX0_fill_147 : decode cX0_fill 147 = .ok (.getfield 37, 3) := by decide +kernel
theorem dX0_fill_150 : decode cX0_fill 150 = .ok (.iload_n 1, 1) := by decide +kernel
theorem dX0_fill_151 : decode cX0_fill 151 = .ok (.lload 4, 2) := by decide +kernel
theorem dX0_fill_153 : decode cX0_fill 153 = .ok (.lastore, 1) := by decide +kernel
theorem dX0_fill_154 : decode cX0_fill 154 = .ok (.aload_n 0, 1) := by decide +kernel
theorem dX0_fill_155 : decode cX0_fill 155 = .ok (.getfield 40, 3) := by decide +kernel
theorem dX0_fill_158 : decode cX0_fill 158 = .ok (.iload_n 1, 1) := by decide +kernel
theorem dX0_fill_159 : decode cX0_fill 159 = .ok (.iload 6, 2) := by decide +kernel
theorem dX0_fill_161 : decode cX0_fill 161 = .ok (.iastore, 1) := by decide +kernel
theorem dX0_fill_162 : decode cX0_fill 162 = .ok (.return_, 1) := by decide +kernel
theorem dX0_isSureAt_0 : decode cX0_isSureAt 0 = .ok (.aload_n 0, 1) := by decide +kernel
theorem dX0_isSureAt_1 : decode cX0_isSureAt 1 = .ok (.getfield 44, 3) := by decide +kernel
theorem dX0_isSureAt_4 : decode cX0_isSureAt 4 = .ok (.iload_n 1, 1) := by decide +kernel
theorem dX0_isSureAt_5 : decode cX0_isSureAt 5 = .ok (.invokevirtual 116, 3) := by decide +kernel
theorem dX0_isSureAt_8 : decode cX0_isSureAt 8 = .ok (.ifCond .eq 25, 3) := by decide +kernel
theorem dX0_isSureAt_11 : decode cX0_isSureAt 11 = .ok (.aload_n 0, 1) := by decide +kernel
theorem dX0_isSureAt_12 : decode cX0_isSureAt 12 = .ok (.getfield 48, 3) := by decide +kernel
theorem dX0_isSureAt_15 : decode cX0_isSureAt 15 = .ok (.ifnull 14, 3) := by decide +kernel
theorem dX0_isSureAt_18 : decode cX0_isSureAt 18 = .ok (.aload_n 0, 1) := by decide +kernel
theorem dX0_isSureAt_19 : decode cX0_isSureAt 19 = .ok (.getfield 48, 3) := by decide +kernel
theorem dX0_isSureAt_22 : decode cX0_isSureAt 22 = .ok (.iload_n 1, 1) := by decide +kernel
theorem dX0_isSureAt_23 : decode cX0_isSureAt 23 = .ok (.invokevirtual 116, 3) := by decide +kernel
theorem dX0_isSureAt_26 : decode cX0_isSureAt 26 = .ok (.ifCond .eq 7, 3) := by decide +kernel
theorem dX0_isSureAt_29 : decode cX0_isSureAt 29 = .ok (.iconst 1, 1) := by decide +kernel
theorem dX0_isSureAt_30 : decode cX0_isSureAt 30 = .ok (.goto 4, 3) := by decide +kernel
theorem dX0_isSureAt_33 : decode cX0_isSureAt 33 = .ok (.iconst 0, 1) := by decide +kernel
theorem dX0_isSureAt_34 : decode cX0_isSureAt 34 = .ok (.ireturn, 1) := by decide +kernel
theorem dX0_mayAsk_0 : decode cX0_mayAsk 0 = .ok (.iload_n 2, 1) := by decide +kernel
theorem dX0_mayAsk_1 : decode cX0_mayAsk 1 = .ok (.aload_n 0, 1) := by decide +kernel
theorem dX0_mayAsk_2 : decode cX0_mayAsk 2 = .ok (.getfield 19, 3) := by decide +kernel
theorem dX0_mayAsk_5 : decode cX0_mayAsk 5 = .ok (.getfield 119, 3) := by decide +kernel
theorem dX0_mayAsk_8 : decode cX0_mayAsk 8 = .ok (.iconst (-1), 1) := by decide +kernel
theorem dX0_mayAsk_9 : decode cX0_mayAsk 9 = .ok (.ixor, 1) := by decide +kernel
theorem dX0_mayAsk_10 : decode cX0_mayAsk 10 = .ok (.iand, 1) := by decide +kernel
theorem dX0_mayAsk_11 : decode cX0_mayAsk 11 = .ok (.iconst 1, 1) := by decide +kernel
theorem dX0_mayAsk_12 : decode cX0_mayAsk 12 = .ok (.iload_n 1, 1) := by decide +kernel
theorem dX0_mayAsk_13 : decode cX0_mayAsk 13 = .ok (.ishl, 1) := by decide +kernel
theorem dX0_mayAsk_14 : decode cX0_mayAsk 14 = .ok (.iand, 1) := by decide +kernel
theorem dX0_mayAsk_15 : decode cX0_mayAsk 15 = .ok (.ifCond .eq 7, 3) := by decide +kernel
theorem dX0_mayAsk_18 : decode cX0_mayAsk 18 = .ok (.iconst 1, 1) := by decide +kernel
theorem dX0_mayAsk_19 : decode cX0_mayAsk 19 = .ok (.goto 4, 3) := by decide +kernel
theorem dX0_mayAsk_22 : decode cX0_mayAsk 22 = .ok (.iconst 0, 1) := by decide +kernel
theorem dX0_mayAsk_23 : decode cX0_mayAsk 23 = .ok (.ireturn, 1) := by decide +kernel
theorem dX0_meanBy_0 : decode cX0_meanBy 0 = .ok (.aload_n 0, 1) := by decide +kernel
theorem dX0_meanBy_1 : decode cX0_meanBy 1 = .ok (.getfield 37, 3) := by decide +kernel
theorem dX0_meanBy_4 : decode cX0_meanBy 4 = .ok (.iload_n 1, 1) := by decide +kernel
theorem dX0_meanBy_5 : decode cX0_meanBy 5 = .ok (.aload_n 0, 1) := by decide +kernel
theorem dX0_meanBy_6 : decode cX0_meanBy 6 = .ok (.getfield 15, 3) := by decide +kernel
theorem dX0_meanBy_9 : decode cX0_meanBy 9 = .ok (.getfield 92, 3) := by decide +kernel
theorem dX0_meanBy_12 : decode cX0_meanBy 12 = .ok (.iload_n 2, 1) := by decide +kernel
theorem dX0_meanBy_13 : decode cX0_meanBy 13 = .ok (.iaload, 1) := by decide +kernel
theorem dX0_meanBy_14 : decode cX0_meanBy 14 = .ok (.iadd, 1) := by decide +kernel
theorem dX0_meanBy_15 : decode cX0_meanBy 15 = .ok (.laload, 1) := by decide +kernel
theorem dX0_meanBy_16 : decode cX0_meanBy 16 = .ok (.lstore_n 3, 1) := by decide +kernel
theorem dX0_meanBy_17 : decode cX0_meanBy 17 = .ok (.aload_n 0, 1) := by decide +kernel
theorem dX0_meanBy_18 : decode cX0_meanBy 18 = .ok (.getfield 37, 3) := by decide +kernel
theorem dX0_meanBy_21 : decode cX0_meanBy 21 = .ok (.iload_n 1, 1) := by decide +kernel
theorem dX0_meanBy_22 : decode cX0_meanBy 22 = .ok (.iconst 2, 1) := by decide +kernel
theorem dX0_meanBy_23 : decode cX0_meanBy 23 = .ok (.aload_n 0, 1) := by decide +kernel
theorem dX0_meanBy_24 : decode cX0_meanBy 24 = .ok (.getfield 15, 3) := by decide +kernel
theorem dX0_meanBy_27 : decode cX0_meanBy 27 = .ok (.getfield 92, 3) := by decide +kernel
theorem dX0_meanBy_30 : decode cX0_meanBy 30 = .ok (.iload_n 2, 1) := by decide +kernel
theorem dX0_meanBy_31 : decode cX0_meanBy 31 = .ok (.iaload, 1) := by decide +kernel
theorem dX0_meanBy_32 : decode cX0_meanBy 32 = .ok (.imul, 1) := by decide +kernel
theorem dX0_meanBy_33 : decode cX0_meanBy 33 = .ok (.iadd, 1) := by decide +kernel
theorem dX0_meanBy_34 : decode cX0_meanBy 34 = .ok (.laload, 1) := by decide +kernel
theorem dX0_meanBy_35 : decode cX0_meanBy 35 = .ok (.lstore 5, 2) := by decide +kernel
theorem dX0_meanBy_37 : decode cX0_meanBy 37 = .ok (.lload_n 3, 1) := by decide +kernel
theorem dX0_meanBy_38 : decode cX0_meanBy 38 = .ok (.ldc2_w 102, 3) := by decide +kernel
theorem dX0_meanBy_41 : decode cX0_meanBy 41 = .ok (.lcmp, 1) := by decide +kernel
theorem dX0_meanBy_42 : decode cX0_meanBy 42 = .ok (.ifCond .eq 12, 3) := by decide +kernel
theorem dX0_meanBy_45 : decode cX0_meanBy 45 = .ok (.lload 5, 2) := by decide +kernel
theorem dX0_meanBy_47 : decode cX0_meanBy 47 = .ok (.ldc2_w 102, 3) := by decide +kernel
theorem dX0_meanBy_50 : decode cX0_meanBy 50 = .ok (.lcmp, 1) := by decide +kernel
theorem dX0_meanBy_51 : decode cX0_meanBy 51 = .ok (.ifCond .ne 9, 3) := by decide +kernel
theorem dX0_meanBy_54 : decode cX0_meanBy 54 = .ok (.ldc2_w 102, 3) := by decide +kernel
theorem dX0_meanBy_57 : decode cX0_meanBy 57 = .ok (.goto 25, 3) := by decide +kernel
theorem dX0_meanBy_60 : decode cX0_meanBy 60 = .ok (.aload_n 0, 1) := by decide +kernel
theorem dX0_meanBy_61 : decode cX0_meanBy 61 = .ok (.getfield 33, 3) := by decide +kernel
theorem dX0_meanBy_64 : decode cX0_meanBy 64 = .ok (.iload_n 1, 1) := by decide +kernel
theorem dX0_meanBy_65 : decode cX0_meanBy 65 = .ok (.laload, 1) := by decide +kernel
theorem dX0_meanBy_66 : decode cX0_meanBy 66 = .ok (.aload_n 0, 1) := by decide +kernel
theorem dX0_meanBy_67 : decode cX0_meanBy 67 = .ok (.getfield 19, 3) := by decide +kernel
theorem dX0_meanBy_70 : decode cX0_meanBy 70 = .ok (.getfield 124, 3) := by decide +kernel
theorem dX0_meanBy_73 : decode cX0_meanBy 73 = .ok (.iload_n 2, 1) := by decide +kernel
theorem dX0_meanBy_74 : decode cX0_meanBy 74 = .ok (.iaload, 1) := by decide +kernel
theorem dX0_meanBy_75 : decode cX0_meanBy 75 = .ok (.i2l, 1) := by decide +kernel
theorem dX0_meanBy_76 : decode cX0_meanBy 76 = .ok (.lmul, 1) := by decide +kernel
theorem dX0_meanBy_77 : decode cX0_meanBy 77 = .ok (.lload_n 3, 1) := by decide +kernel
theorem dX0_meanBy_78 : decode cX0_meanBy 78 = .ok (.ladd, 1) := by decide +kernel
theorem dX0_meanBy_79 : decode cX0_meanBy 79 = .ok (.lload 5, 2) := by decide +kernel
theorem dX0_meanBy_81 : decode cX0_meanBy 81 = .ok (.ladd, 1) := by decide +kernel
theorem dX0_meanBy_82 : decode cX0_meanBy 82 = .ok (.lreturn, 1) := by decide +kernel
theorem dX0_worstBy_0 : decode cX0_worstBy 0 = .ok (.aload_n 0, 1) := by decide +kernel
theorem dX0_worstBy_1 : decode cX0_worstBy 1 = .ok (.getfield 40, 3) := by decide +kernel
theorem dX0_worstBy_4 : decode cX0_worstBy 4 = .ok (.iload_n 1, 1) := by decide +kernel
theorem dX0_worstBy_5 : decode cX0_worstBy 5 = .ok (.aload_n 0, 1) := by decide +kernel
theorem dX0_worstBy_6 : decode cX0_worstBy 6 = .ok (.getfield 15, 3) := by decide +kernel
theorem dX0_worstBy_9 : decode cX0_worstBy 9 = .ok (.getfield 92, 3) := by decide +kernel
theorem dX0_worstBy_12 : decode cX0_worstBy 12 = .ok (.iload_n 2, 1) := by decide +kernel
theorem dX0_worstBy_13 : decode cX0_worstBy 13 = .ok (.iaload, 1) := by decide +kernel
theorem dX0_worstBy_14 : decode cX0_worstBy 14 = .ok (.iadd, 1) := by decide +kernel
theorem dX0_worstBy_15 : decode cX0_worstBy 15 = .ok (.iaload, 1) := by decide +kernel
theorem dX0_worstBy_16 : decode cX0_worstBy 16 = .ok (.istore_n 3, 1) := by decide +kernel
theorem dX0_worstBy_17 : decode cX0_worstBy 17 = .ok (.aload_n 0, 1) := by decide +kernel
theorem dX0_worstBy_18 : decode cX0_worstBy 18 = .ok (.getfield 40, 3) := by decide +kernel
theorem dX0_worstBy_21 : decode cX0_worstBy 21 = .ok (.iload_n 1, 1) := by decide +kernel
theorem dX0_worstBy_22 : decode cX0_worstBy 22 = .ok (.iconst 2, 1) := by decide +kernel
theorem dX0_worstBy_23 : decode cX0_worstBy 23 = .ok (.aload_n 0, 1) := by decide +kernel
theorem dX0_worstBy_24 : decode cX0_worstBy 24 = .ok (.getfield 15, 3) := by decide +kernel
theorem dX0_worstBy_27 : decode cX0_worstBy 27 = .ok (.getfield 92, 3) := by decide +kernel
theorem dX0_worstBy_30 : decode cX0_worstBy 30 = .ok (.iload_n 2, 1) := by decide +kernel
theorem dX0_worstBy_31 : decode cX0_worstBy 31 = .ok (.iaload, 1) := by decide +kernel
theorem dX0_worstBy_32 : decode cX0_worstBy 32 = .ok (.imul, 1) := by decide +kernel
theorem dX0_worstBy_33 : decode cX0_worstBy 33 = .ok (.iadd, 1) := by decide +kernel
theorem dX0_worstBy_34 : decode cX0_worstBy 34 = .ok (.iaload, 1) := by decide +kernel
theorem dX0_worstBy_35 : decode cX0_worstBy 35 = .ok (.istore 4, 2) := by decide +kernel
theorem dX0_worstBy_37 : decode cX0_worstBy 37 = .ok (.iload_n 3, 1) := by decide +kernel
theorem dX0_worstBy_38 : decode cX0_worstBy 38 = .ok (.iconst (-1), 1) := by decide +kernel
theorem dX0_worstBy_39 : decode cX0_worstBy 39 = .ok (.if_icmp .eq 9, 3) := by decide +kernel
theorem dX0_worstBy_42 : decode cX0_worstBy 42 = .ok (.iload 4, 2) := by decide +kernel
theorem dX0_worstBy_44 : decode cX0_worstBy 44 = .ok (.iconst (-1), 1) := by decide +kernel
theorem dX0_worstBy_45 : decode cX0_worstBy 45 = .ok (.if_icmp .ne 7, 3) := by decide +kernel
theorem dX0_worstBy_48 : decode cX0_worstBy 48 = .ok (.iconst (-1), 1) := by decide +kernel
theorem dX0_worstBy_49 : decode cX0_worstBy 49 = .ok (.goto 19, 3) := by decide +kernel
theorem dX0_worstBy_52 : decode cX0_worstBy 52 = .ok (.aload_n 0, 1) := by decide +kernel
theorem dX0_worstBy_53 : decode cX0_worstBy 53 = .ok (.getfield 19, 3) := by decide +kernel
theorem dX0_worstBy_56 : decode cX0_worstBy 56 = .ok (.getfield 124, 3) := by decide +kernel
theorem dX0_worstBy_59 : decode cX0_worstBy 59 = .ok (.iload_n 2, 1) := by decide +kernel
theorem dX0_worstBy_60 : decode cX0_worstBy 60 = .ok (.iaload, 1) := by decide +kernel
theorem dX0_worstBy_61 : decode cX0_worstBy 61 = .ok (.iload_n 3, 1) := by decide +kernel
theorem dX0_worstBy_62 : decode cX0_worstBy 62 = .ok (.iload 4, 2) := by decide +kernel
theorem dX0_worstBy_64 : decode cX0_worstBy 64 = .ok (.invokestatic 127, 3) := by decide +kernel
theorem dX0_worstBy_67 : decode cX0_worstBy 67 = .ok (.iadd, 1) := by decide +kernel
theorem dX0_worstBy_68 : decode cX0_worstBy 68 = .ok (.ireturn, 1) := by decide +kernel
theorem dX0_lowestBest_0 : decode cX0_lowestBest 0 = .ok (.aload_n 0, 1) := by decide +kernel
theorem dX0_lowestBest_1 : decode cX0_lowestBest 1 = .ok (.iload_n 1, 1) := by decide +kernel
theorem dX0_lowestBest_2 : decode cX0_lowestBest 2 = .ok (.invokevirtual 98, 3) := by decide +kernel
theorem dX0_lowestBest_5 : decode cX0_lowestBest 5 = .ok (.ifCond .ne 13, 3) := by decide +kernel
theorem dX0_lowestBest_8 : decode cX0_lowestBest 8 = .ok (.aload_n 0, 1) := by decide +kernel
theorem dX0_lowestBest_9 : decode cX0_lowestBest 9 = .ok (.getfield 40, 3) := by decide +kernel
theorem dX0_lowestBest_12 : decode cX0_lowestBest 12 = .ok (.iload_n 1, 1) := by decide +kernel
theorem dX0_lowestBest_13 : decode cX0_lowestBest 13 = .ok (.iaload, 1) := by decide +kernel
theorem dX0_lowestBest_14 : decode cX0_lowestBest 14 = .ok (.iconst (-1), 1) := by decide +kernel
theorem dX0_lowestBest_15 : decode cX0_lowestBest 15 = .ok (.if_icmp .ne 5, 3) := by decide +kernel
theorem dX0_lowestBest_18 : decode cX0_lowestBest 18 = .ok (.iconst (-1), 1) := by decide +kernel
theorem dX0_lowestBest_19 : decode cX0_lowestBest 19 = .ok (.ireturn, 1) := by decide +kernel
theorem dX0_lowestBest_20 : decode cX0_lowestBest 20 = .ok (.iconst 0, 1) := by decide +kernel
theorem dX0_lowestBest_21 : decode cX0_lowestBest 21 = .ok (.istore 4, 2) := by decide +kernel
theorem dX0_lowestBest_23 : decode cX0_lowestBest 23 = .ok (.iload 4, 2) := by decide +kernel
theorem dX0_lowestBest_25 : decode cX0_lowestBest 25 = .ok (.aload_n 0, 1) := by decide +kernel
theorem dX0_lowestBest_26 : decode cX0_lowestBest 26 = .ok (.getfield 15, 3) := by decide +kernel
theorem dX0_lowestBest_29 : decode cX0_lowestBest 29 = .ok (.getfield 104, 3) := by decide +kernel
theorem dX0_lowestBest_32 : decode cX0_lowestBest 32 = .ok (.if_icmp .ge 62, 3) := by decide +kernel
theorem dX0_lowestBest_35 : decode cX0_lowestBest 35 = .ok (.aload_n 0, 1) := by decide +kernel
theorem dX0_lowestBest_36 : decode cX0_lowestBest 36 = .ok (.iload 4, 2) := by decide +kernel
theorem dX0_lowestBest_38 : decode cX0_lowestBest 38 = .ok (.iload_n 2, 1) := by decide +kernel
theorem dX0_lowestBest_39 : decode cX0_lowestBest 39 = .ok (.invokevirtual 107, 3) := by decide +kernel
theorem dX0_lowestBest_42 : decode cX0_lowestBest 42 = .ok (.ifCond .eq 46, 3) := by decide +kernel
theorem dX0_lowestBest_45 : decode cX0_lowestBest 45 = .ok (.iload_n 3, 1) := by decide +kernel
theorem dX0_lowestBest_46 : decode cX0_lowestBest 46 = .ok (.ifCond .eq 23, 3) := by decide +kernel
theorem dX0_lowestBest_49 : decode cX0_lowestBest 49 = .ok (.aload_n 0, 1) := by decide +kernel
theorem dX0_lowestBest_50 : decode cX0_lowestBest 50 = .ok (.iload_n 1, 1) := by decide +kernel
theorem dX0_lowestBest_51 : decode cX0_lowestBest 51 = .ok (.iload 4, 2) := by decide +kernel
theorem dX0_lowestBest_53 : decode cX0_lowestBest 53 = .ok (.invokevirtual 110, 3) := by decide +kernel
theorem dX0_lowestBest_56 : decode cX0_lowestBest 56 = .ok (.aload_n 0, 1) := by decide +kernel
theorem dX0_lowestBest_57 : decode cX0_lowestBest 57 = .ok (.getfield 37, 3) := by decide +kernel
theorem dX0_lowestBest_60 : decode cX0_lowestBest 60 = .ok (.iload_n 1, 1) := by decide +kernel
theorem dX0_lowestBest_61 : decode cX0_lowestBest 61 = .ok (.laload, 1) := by decide +kernel
theorem dX0_lowestBest_62 : decode cX0_lowestBest 62 = .ok (.lcmp, 1) := by decide +kernel
theorem dX0_lowestBest_63 : decode cX0_lowestBest 63 = .ok (.ifCond .ne 25, 3) := by decide +kernel
theorem dX0_lowestBest_66 : decode cX0_lowestBest 66 = .ok (.goto 19, 3) := by decide +kernel
theorem dX0_lowestBest_69 : decode cX0_lowestBest 69 = .ok (.aload_n 0, 1) := by decide +kernel
theorem dX0_lowestBest_70 : decode cX0_lowestBest 70 = .ok (.iload_n 1, 1) := by decide +kernel
theorem dX0_lowestBest_71 : decode cX0_lowestBest 71 = .ok (.iload 4, 2) := by decide +kernel
theorem dX0_lowestBest_73 : decode cX0_lowestBest 73 = .ok (.invokevirtual 113, 3) := by decide +kernel
theorem dX0_lowestBest_76 : decode cX0_lowestBest 76 = .ok (.aload_n 0, 1) := by decide +kernel
theorem dX0_lowestBest_77 : decode cX0_lowestBest 77 = .ok (.getfield 40, 3) := by decide +kernel
theorem dX0_lowestBest_80 : decode cX0_lowestBest 80 = .ok (.iload_n 1, 1) := by decide +kernel
theorem dX0_lowestBest_81 : decode cX0_lowestBest 81 = .ok (.iaload, 1) := by decide +kernel
theorem dX0_lowestBest_82 : decode cX0_lowestBest 82 = .ok (.if_icmp .ne 6, 3) := by decide +kernel
theorem dX0_lowestBest_85 : decode cX0_lowestBest 85 = .ok (.iload 4, 2) := by decide +kernel
theorem dX0_lowestBest_87 : decode cX0_lowestBest 87 = .ok (.ireturn, 1) := by decide +kernel
theorem dX0_lowestBest_88 : decode cX0_lowestBest 88 = .ok (.iinc 4 1, 3) := by decide +kernel
theorem dX0_lowestBest_91 : decode cX0_lowestBest 91 = .ok (.goto (-68), 3) := by decide +kernel
theorem dX0_lowestBest_94 : decode cX0_lowestBest 94 = .ok (.iconst (-1), 1) := by decide +kernel
theorem dX0_lowestBest_95 : decode cX0_lowestBest 95 = .ok (.ireturn, 1) := by decide +kernel
theorem dX1_init_0 : decode cX1_init 0 = .ok (.aload_n 0, 1) := by decide +kernel
theorem dX1_init_1 : decode cX1_init 1 = .ok (.invokespecial 3, 3) := by decide +kernel
theorem dX1_init_4 : decode cX1_init 4 = .ok (.aload_n 0, 1) := by decide +kernel
theorem dX1_init_5 : decode cX1_init 5 = .ok (.aload_n 1, 1) := by decide +kernel
theorem dX1_init_6 : decode cX1_init 6 = .ok (.putfield 9, 3) := by decide +kernel
theorem dX1_init_9 : decode cX1_init 9 = .ok (.aload_n 0, 1) := by decide +kernel
theorem dX1_init_10 : decode cX1_init 10 = .ok (.bipush 7, 2) := by decide +kernel
theorem dX1_init_12 : decode cX1_init 12 = .ok (.bipush 42, 2) := by decide +kernel
theorem dX1_init_14 : decode cX1_init 14 = .ok (.aload_n 1, 1) := by decide +kernel
theorem dX1_init_15 : decode cX1_init 15 = .ok (.getfield 17, 3) := by decide +kernel
theorem dX1_init_18 : decode cX1_init 18 = .ok (.iconst 4, 1) := by decide +kernel
theorem dX1_init_19 : decode cX1_init 19 = .ok (.idiv, 1) := by decide +kernel
theorem dX1_init_20 : decode cX1_init 20 = .ok (.invokestatic 23, 3) := by decide +kernel
theorem dX1_init_23 : decode cX1_init 23 = .ok (.iadd, 1) := by decide +kernel
theorem dX1_init_24 : decode cX1_init 24 = .ok (.putfield 29, 3) := by decide +kernel
theorem dX1_init_27 : decode cX1_init 27 = .ok (.aload_n 0, 1) := by decide +kernel
theorem dX1_init_28 : decode cX1_init 28 = .ok (.aload_n 0, 1) := by decide +kernel
theorem dX1_init_29 : decode cX1_init 29 = .ok (.getfield 29, 3) := by decide +kernel
theorem dX1_init_32 : decode cX1_init 32 = .ok (.aload_n 0, 1) := by decide +kernel
theorem dX1_init_33 : decode cX1_init 33 = .ok (.getfield 29, 3) := by decide +kernel
theorem dX1_init_36 : decode cX1_init 36 = .ok (.imul, 1) := by decide +kernel
theorem dX1_init_37 : decode cX1_init 37 = .ok (.newarray .int, 2) := by decide +kernel
theorem dX1_init_39 : decode cX1_init 39 = .ok (.putfield 32, 3) := by decide +kernel
theorem dX1_init_42 : decode cX1_init 42 = .ok (.aload_n 0, 1) := by decide +kernel
theorem dX1_init_43 : decode cX1_init 43 = .ok (.aload_n 0, 1) := by decide +kernel
theorem dX1_init_44 : decode cX1_init 44 = .ok (.getfield 29, 3) := by decide +kernel
theorem dX1_init_47 : decode cX1_init 47 = .ok (.aload_n 0, 1) := by decide +kernel
theorem dX1_init_48 : decode cX1_init 48 = .ok (.getfield 29, 3) := by decide +kernel
theorem dX1_init_51 : decode cX1_init 51 = .ok (.imul, 1) := by decide +kernel
theorem dX1_init_52 : decode cX1_init 52 = .ok (.newarray .int, 2) := by decide +kernel
theorem dX1_init_54 : decode cX1_init 54 = .ok (.putfield 36, 3) := by decide +kernel
theorem dX1_init_57 : decode cX1_init 57 = .ok (.aload_n 0, 1) := by decide +kernel
theorem dX1_init_58 : decode cX1_init 58 = .ok (.aload_n 1, 1) := by decide +kernel
theorem dX1_init_59 : decode cX1_init 59 = .ok (.getfield 17, 3) := by decide +kernel
theorem dX1_init_62 : decode cX1_init 62 = .ok (.newarray .int, 2) := by decide +kernel
theorem dX1_init_64 : decode cX1_init 64 = .ok (.putfield 39, 3) := by decide +kernel
theorem dX1_init_67 : decode cX1_init 67 = .ok (.aload_n 0, 1) := by decide +kernel
theorem dX1_init_68 : decode cX1_init 68 = .ok (.aload_n 1, 1) := by decide +kernel
theorem dX1_init_69 : decode cX1_init 69 = .ok (.getfield 42, 3) := by decide +kernel
theorem dX1_init_72 : decode cX1_init 72 = .ok (.newarray .int, 2) := by decide +kernel
theorem dX1_init_74 : decode cX1_init 74 = .ok (.putfield 45, 3) := by decide +kernel
theorem dX1_init_77 : decode cX1_init 77 = .ok (.return_, 1) := by decide +kernel
theorem dX1_fillWays_0 : decode cX1_fillWays 0 = .ok (.aload_n 0, 1) := by decide +kernel
theorem dX1_fillWays_1 : decode cX1_fillWays 1 = .ok (.getfield 9, 3) := by decide +kernel
theorem dX1_fillWays_4 : decode cX1_fillWays 4 = .ok (.getfield 48, 3) := by decide +kernel
theorem dX1_fillWays_7 : decode cX1_fillWays 7 = .ok (.istore_n 2, 1) := by decide +kernel
theorem dX1_fillWays_8 : decode cX1_fillWays 8 = .ok (.iload_n 2, 1) := by decide +kernel
theorem dX1_fillWays_9 : decode cX1_fillWays 9 = .ok (.ifCond .lt 101, 3) := by decide +kernel
theorem dX1_fillWays_12 : decode cX1_fillWays 12 = .ok (.aload_n 0, 1) := by decide +kernel
theorem dX1_fillWays_13 : decode cX1_fillWays 13 = .ok (.dup, 1) := by decide +kernel
theorem dX1_fillWays_14 : decode cX1_fillWays 14 = .ok (.getfield 51, 3) := by decide +kernel
theorem dX1_fillWays_17 : decode cX1_fillWays 17 = .ok (.iconst 1, 1) := by decide +kernel
theorem dX1_fillWays_18 : decode cX1_fillWays 18 = .ok (.iadd, 1) := by decide +kernel
theorem dX1_fillWays_19 : decode cX1_fillWays 19 = .ok (.putfield 51, 3) := by decide +kernel
theorem dX1_fillWays_22 : decode cX1_fillWays 22 = .ok (.aload_n 0, 1) := by decide +kernel
theorem dX1_fillWays_23 : decode cX1_fillWays 23 = .ok (.bipush 7, 2) := by decide +kernel
theorem dX1_fillWays_25 : decode cX1_fillWays 25 = .ok (.putfield 54, 3) := by decide +kernel
theorem dX1_fillWays_28 : decode cX1_fillWays 28 = .ok (.iconst 0, 1) := by decide +kernel
theorem dX1_fillWays_29 : decode cX1_fillWays 29 = .ok (.istore_n 3, 1) := by decide +kernel
theorem dX1_fillWays_30 : decode cX1_fillWays 30 = .ok (.iconst 0, 1) := by decide +kernel
theorem dX1_fillWays_31 : decode cX1_fillWays 31 = .ok (.istore 4, 2) := by decide +kernel
theorem dX1_fillWays_33 : decode cX1_fillWays 33 = .ok (.iload 4, 2) := by decide +kernel
theorem dX1_fillWays_35 : decode cX1_fillWays 35 = .ok (.iconst 1, 1) := by decide +kernel
theorem dX1_fillWays_36 : decode cX1_fillWays 36 = .ok (.iload_n 2, 1) := by decide +kernel
theorem dX1_fillWays_37 : decode cX1_fillWays 37 = .ok (.invokestatic 57, 3) := by decide +kernel
theorem dX1_fillWays_40 : decode cX1_fillWays 40 = .ok (.ishl, 1) := by decide +kernel
theorem dX1_fillWays_41 : decode cX1_fillWays 41 = .ok (.if_icmp .ge 63, 3) := by decide +kernel
theorem dX1_fillWays_44 : decode cX1_fillWays 44 = .ok (.aload_n 0, 1) := by decide +kernel
theorem dX1_fillWays_45 : decode cX1_fillWays 45 = .ok (.getfield 9, 3) := by decide +kernel
theorem dX1_fillWays_48 : decode cX1_fillWays 48 = .ok (.iload_n 2, 1) := by decide +kernel
theorem dX1_fillWays_49 : decode cX1_fillWays 49 = .ok (.iload_n 3, 1) := by decide +kernel
theorem dX1_fillWays_50 : decode cX1_fillWays 50 = .ok (.invokevirtual 63, 3) := by decide +kernel
theorem dX1_fillWays_53 : decode cX1_fillWays 53 = .ok (.istore 5, 2) := by decide +kernel
theorem dX1_fillWays_55 : decode cX1_fillWays 55 = .ok (.aload_n 1, 1) := by decide +kernel
theorem dX1_fillWays_56 : decode cX1_fillWays 56 = .ok (.getfield 66, 3) := by decide +kernel
theorem dX1_fillWays_59 : decode cX1_fillWays 59 = .ok (.iload 5, 2) := by decide +kernel
theorem dX1_fillWays_61 : decode cX1_fillWays 61 = .ok (.iload_n 2, 1) := by decide +kernel
theorem dX1_fillWays_62 : decode cX1_fillWays 62 = .ok (.aload_n 0, 1) := by decide +kernel
theorem dX1_fillWays_63 : decode cX1_fillWays 63 = .ok (.getfield 9, 3) := by decide +kernel
theorem dX1_fillWays_66 : decode cX1_fillWays 66 = .ok (.getfield 48, 3) := by decide +kernel
theorem dX1_fillWays_69 : decode cX1_fillWays 69 = .ok (.if_icmp .ne 14, 3) := by decide +kernel
theorem dX1_fillWays_72 : decode cX1_fillWays 72 = .ok (.aload_n 1, 1) := by decide +kernel
theorem dX1_fillWays_73 : decode cX1_fillWays 73 = .ok (.getfield 69, 3) := by decide +kernel
theorem dX1_fillWays_76 : decode cX1_fillWays 76 = .ok (.iload_n 3, 1) := by decide +kernel
theorem dX1_fillWays_77 : decode cX1_fillWays 77 = .ok (.iaload, 1) := by decide +kernel
theorem dX1_fillWays_78 : decode cX1_fillWays 78 = .ok (.iconst 1, 1) := by decide +kernel
theorem dX1_fillWays_79 : decode cX1_fillWays 79 = .ok (.iadd, 1) := by decide +kernel
theorem dX1_fillWays_80 : decode cX1_fillWays 80 = .ok (.goto 11, 3) := by decide +kernel
theorem dX1_fillWays_83 : decode cX1_fillWays 83 = .ok (.aload_n 0, 1) := by decide +kernel
theorem dX1_fillWays_84 : decode cX1_fillWays 84 = .ok (.aload_n 1, 1) := by decide +kernel
theorem dX1_fillWays_85 : decode cX1_fillWays 85 = .ok (.iload 5, 2) := by decide +kernel
theorem dX1_fillWays_87 : decode cX1_fillWays 87 = .ok (.iload_n 2, 1) := by decide +kernel
theorem dX1_fillWays_88 : decode cX1_fillWays 88 = .ok (.invokevirtual 72, 3) := by decide +kernel
theorem dX1_fillWays_91 : decode cX1_fillWays 91 = .ok (.iastore, 1) := by decide +kernel
theorem dX1_fillWays_92 : decode cX1_fillWays 92 = .ok (.iload_n 3, 1) := by decide +kernel
theorem dX1_fillWays_93 : decode cX1_fillWays 93 = .ok (.iload_n 2, 1) := by decide +kernel
theorem dX1_fillWays_94 : decode cX1_fillWays 94 = .ok (.isub, 1) := by decide +kernel
theorem dX1_fillWays_95 : decode cX1_fillWays 95 = .ok (.iload_n 2, 1) := by decide +kernel
theorem dX1_fillWays_96 : decode cX1_fillWays 96 = .ok (.iand, 1) := by decide +kernel
theorem dX1_fillWays_97 : decode cX1_fillWays 97 = .ok (.istore_n 3, 1) := by decide +kernel
theorem dX1_fillWays_98 : decode cX1_fillWays 98 = .ok (.iinc 4 1, 3) := by decide +kernel
theorem dX1_fillWays_101 : decode cX1_fillWays 101 = .ok (.goto (-68), 3) := by decide +kernel
theorem dX1_fillWays_104 : decode cX1_fillWays 104 = .ok (.iinc 2 (-1), 3) := by decide +kernel
theorem dX1_fillWays_107 : decode cX1_fillWays 107 = .ok (.goto (-99), 3) := by decide +kernel
theorem dX1_fillWays_110 : decode cX1_fillWays 110 = .ok (.return_, 1) := by decide +kernel
theorem dX1_joined_0 : decode cX1_joined 0 = .ok (.aload_n 0, 1) := by decide +kernel
theorem dX1_joined_1 : decode cX1_joined 1 = .ok (.getfield 9, 3) := by decide +kernel
theorem dX1_joined_4 : decode cX1_joined 4 = .ok (.getfield 76, 3) := by decide +kernel
theorem dX1_joined_7 : decode cX1_joined 7 = .ok (.aload_n 0, 1) := by decide +kernel
theorem dX1_joined_8 : decode cX1_joined 8 = .ok (.getfield 9, 3) := by decide +kernel
theorem dX1_joined_11 : decode cX1_joined 11 = .ok (.getfield 48, 3) := by decide +kernel
theorem dX1_joined_14 : decode cX1_joined 14 = .ok (.iload_n 3, 1) := by decide +kernel
theorem dX1_joined_15 : decode cX1_joined 15 = .ok (.iconst (-1), 1) := by decide +kernel
theorem dX1_joined_16 : decode cX1_joined 16 = .ok (.ixor, 1) := by decide +kernel
theorem dX1_joined_17 : decode cX1_joined 17 = .ok (.iand, 1) := by decide +kernel
theorem dX1_joined_18 : decode cX1_joined 18 = .ok (.invokestatic 79, 3) := by decide +kernel
theorem dX1_joined_21 : decode cX1_joined 21 = .ok (.iaload, 1) := by decide +kernel
theorem dX1_joined_22 : decode cX1_joined 22 = .ok (.istore 4, 2) := by decide +kernel
theorem dX1_joined_24 : decode cX1_joined 24 = .ok (.aload_n 1, 1) := by decide +kernel
theorem dX1_joined_25 : decode cX1_joined 25 = .ok (.getfield 66, 3) := by decide +kernel
theorem dX1_joined_28 : decode cX1_joined 28 = .ok (.iload_n 2, 1) := by decide +kernel
theorem dX1_joined_29 : decode cX1_joined 29 = .ok (.iload 4, 2) := by decide +kernel
theorem dX1_joined_31 : decode cX1_joined 31 = .ok (.iadd, 1) := by decide +kernel
theorem dX1_joined_32 : decode cX1_joined 32 = .ok (.iaload, 1) := by decide +kernel
theorem dX1_joined_33 : decode cX1_joined 33 = .ok (.istore 5, 2) := by decide +kernel
theorem dX1_joined_35 : decode cX1_joined 35 = .ok (.aload_n 1, 1) := by decide +kernel
theorem dX1_joined_36 : decode cX1_joined 36 = .ok (.getfield 66, 3) := by decide +kernel
theorem dX1_joined_39 : decode cX1_joined 39 = .ok (.iload_n 2, 1) := by decide +kernel
theorem dX1_joined_40 : decode cX1_joined 40 = .ok (.iconst 2, 1) := by decide +kernel
theorem dX1_joined_41 : decode cX1_joined 41 = .ok (.iload 4, 2) := by decide +kernel
theorem dX1_joined_43 : decode cX1_joined 43 = .ok (.imul, 1) := by decide +kernel
theorem dX1_joined_44 : decode cX1_joined 44 = .ok (.iadd, 1) := by decide +kernel
theorem dX1_joined_45 : decode cX1_joined 45 = .ok (.iaload, 1) := by decide +kernel
theorem dX1_joined_46 : decode cX1_joined 46 = .ok (.istore 6, 2) := by decide +kernel
theorem dX1_joined_48 : decode cX1_joined 48 = .ok (.iload 5, 2) := by decide +kernel
theorem dX1_joined_50 : decode cX1_joined 50 = .ok (.iload 6, 2) := by decide +kernel
theorem dX1_joined_52 : decode cX1_joined 52 = .ok (.if_icmp .ne 13, 3) := by decide +kernel
theorem dX1_joined_55 : decode cX1_joined 55 = .ok (.iload 5, 2) := by decide +kernel
theorem dX1_joined_57 : decode cX1_joined 57 = .ok (.bipush 7, 2) := by decide +kernel
theorem dX1_joined_59 : decode cX1_joined 59 = .ok (.if_icmp .ge 6, 3) := by decide +kernel
theorem dX1_joined_62 : decode cX1_joined 62 = .ok (.iload 5, 2) := by decide +kernel
theorem dX1_joined_64 : decode cX1_joined 64 = .ok (.ireturn, 1) := by decide +kernel
theorem dX1_joined_65 : decode cX1_joined 65 = .ok (.iload 5, 2) := by decide +kernel
theorem dX1_joined_67 : decode cX1_joined 67 = .ok (.aload_n 0, 1) := by decide +kernel
theorem dX1_joined_68 : decode cX1_joined 68 = .ok (.getfield 29, 3) := by decide +kernel
theorem dX1_joined_71 : decode cX1_joined 71 = .ok (.imul, 1) := by decide +kernel
theorem dX1_joined_72 : decode cX1_joined 72 = .ok (.iload 6, 2) := by decide +kernel
theorem dX1_joined_74 : decode cX1_joined 74 = .ok (.iadd, 1) := by decide +kernel
theorem dX1_joined_75 : decode cX1_joined 75 = .ok (.istore 7, 2) := by decide +kernel
theorem dX1_joined_77 : decode cX1_joined 77 = .ok (.iload 7, 2) := by decide +kernel
theorem dX1_joined_79 : decode cX1_joined 79 = .ok (.ifCond .lt 13, 3) := by decide +kernel
theorem dX1_joined_82 : decode cX1_joined 82 = .ok (.iload 7, 2) := by decide +kernel
theorem dX1_joined_84 : decode cX1_joined 84 = .ok (.aload_n 0, 1) := by decide +kernel
theorem dX1_joined_85 : decode cX1_joined 85 = .ok (.getfield 32, 3) := by decide +kernel
theorem dX1_joined_88 : decode cX1_joined 88 = .ok (.arraylength, 1) := by decide +kernel
theorem dX1_joined_89 : decode cX1_joined 89 = .ok (.if_icmp .lt 15, 3) := by decide +kernel
theorem dX1_joined_92 : decode cX1_joined 92 = .ok (.aload_n 0, 1) := by decide +kernel
theorem dX1_joined_93 : decode cX1_joined 93 = .ok (.dup, 1) := by decide +kernel
theorem dX1_joined_94 : decode cX1_joined 94 = .ok (.getfield 54, 3) := by decide +kernel
theorem dX1_joined_97 : decode cX1_joined 97 = .ok (.dup_x1, 1) := by decide +kernel
theorem dX1_joined_98 : decode cX1_joined 98 = .ok (.iconst 1, 1) := by decide +kernel
theorem dX1_joined_99 : decode cX1_joined 99 = .ok (.iadd, 1) := by decide +kernel
theorem dX1_joined_100 : decode cX1_joined 100 = .ok (.putfield 54, 3) := by decide +kernel
theorem dX1_joined_103 : decode cX1_joined 103 = .ok (.ireturn, 1) := by decide +kernel
theorem dX1_joined_104 : decode cX1_joined 104 = .ok (.aload_n 0, 1) := by decide +kernel
theorem dX1_joined_105 : decode cX1_joined 105 = .ok (.getfield 32, 3) := by decide +kernel
theorem dX1_joined_108 : decode cX1_joined 108 = .ok (.iload 7, 2) := by decide +kernel
theorem dX1_joined_110 : decode cX1_joined 110 = .ok (.iaload, 1) := by decide +kernel
theorem dX1_joined_111 : decode cX1_joined 111 = .ok (.aload_n 0, 1) := by decide +kernel
theorem dX1_joined_112 : decode cX1_joined 112 = .ok (.getfield 51, 3) := by decide +kernel
theorem dX1_joined_115 : decode cX1_joined 115 = .ok (.if_icmp .eq 32, 3) := by decide +kernel
theorem dX1_joined_118 : decode cX1_joined 118 = .ok (.aload_n 0, 1) := by decide +kernel
theorem dX1_joined_119 : decode cX1_joined 119 = .ok (.getfield 32, 3) := by decide +kernel
theorem dX1_joined_122 : decode cX1_joined 122 = .ok (.iload 7, 2) := by decide +kernel
theorem dX1_joined_124 : decode cX1_joined 124 = .ok (.aload_n 0, 1) := by decide +kernel
theorem dX1_joined_125 : decode cX1_joined 125 = .ok (.getfield 51, 3) := by decide +kernel
theorem dX1_joined_128 : decode cX1_joined 128 = .ok (.iastore, 1) := by decide +kernel
theorem dX1_joined_129 : decode cX1_joined 129 = .ok (.aload_n 0, 1) := by decide +kernel
theorem dX1_joined_130 : decode cX1_joined 130 = .ok (.getfield 36, 3) := by decide +kernel
theorem dX1_joined_133 : decode cX1_joined 133 = .ok (.iload 7, 2) := by decide +kernel
theorem dX1_joined_135 : decode cX1_joined 135 = .ok (.aload_n 0, 1) := by decide +kernel
theorem dX1_joined_136 : decode cX1_joined 136 = .ok (.dup, 1) := by decide +kernel
theorem dX1_joined_137 : decode cX1_joined 137 = .ok (.getfield 54, 3) := by decide +kernel
theorem dX1_joined_140 : decode cX1_joined 140 = .ok (.dup_x1, 1) := by decide +kernel
theorem dX1_joined_141 : decode cX1_joined 141 = .ok (.iconst 1, 1) := by decide +kernel
theorem dX1_joined_142 : decode cX1_joined 142 = .ok (.iadd, 1) := by decide +kernel
theorem dX1_joined_143 : decode cX1_joined 143 = .ok (.putfield 54, 3) := by decide +kernel
theorem dX1_joined_146 : decode cX1_joined 146 = .ok (.iastore, 1) := by decide +kernel
theorem dX1_joined_147 : decode cX1_joined 147 = .ok (.aload_n 0, 1) := by decide +kernel
theorem dX1_joined_148 : decode cX1_joined 148 = .ok (.getfield 36, 3) := by decide +kernel
theorem dX1_joined_151 : decode cX1_joined 151 = .ok (.iload 7, 2) := by decide +kernel
theorem dX1_joined_153 : decode cX1_joined 153 = .ok (.iaload, 1) := by decide +kernel
theorem dX1_joined_154 : decode cX1_joined 154 = .ok (.ireturn, 1) := by decide +kernel
theorem dX1_mattersAt_0 : decode cX1_mattersAt 0 = .ok (.aload_n 0, 1) := by decide +kernel
theorem dX1_mattersAt_1 : decode cX1_mattersAt 1 = .ok (.getfield 9, 3) := by decide +kernel
theorem dX1_mattersAt_4 : decode cX1_mattersAt 4 = .ok (.getfield 76, 3) := by decide +kernel
theorem dX1_mattersAt_7 : decode cX1_mattersAt 7 = .ok (.iload_n 3, 1) := by decide +kernel
theorem dX1_mattersAt_8 : decode cX1_mattersAt 8 = .ok (.iaload, 1) := by decide +kernel
theorem dX1_mattersAt_9 : decode cX1_mattersAt 9 = .ok (.istore 4, 2) := by decide +kernel
theorem dX1_mattersAt_11 : decode cX1_mattersAt 11 = .ok (.aload_n 1, 1) := by decide +kernel
theorem dX1_mattersAt_12 : decode cX1_mattersAt 12 = .ok (.getfield 66, 3) := by decide +kernel
theorem dX1_mattersAt_15 : decode cX1_mattersAt 15 = .ok (.iload_n 2, 1) := by decide +kernel
theorem dX1_mattersAt_16 : decode cX1_mattersAt 16 = .ok (.iload 4, 2) := by decide +kernel
theorem dX1_mattersAt_18 : decode cX1_mattersAt 18 = .ok (.iadd, 1) := by decide +kernel
theorem dX1_mattersAt_19 : decode cX1_mattersAt 19 = .ok (.iaload, 1) := by decide +kernel
theorem dX1_mattersAt_20 : decode cX1_mattersAt 20 = .ok (.aload_n 1, 1) := by decide +kernel
theorem dX1_mattersAt_21 : decode cX1_mattersAt 21 = .ok (.getfield 66, 3) := by decide +kernel
theorem dX1_mattersAt_24 : decode cX1_mattersAt 24 = .ok (.iload_n 2, 1) := by decide +kernel
theorem dX1_mattersAt_25 : decode cX1_mattersAt 25 = .ok (.iconst 2, 1) := by decide +kernel
theorem dX1_mattersAt_26 : decode cX1_mattersAt 26 = .ok (.iload 4, 2) := by decide +kernel
theorem dX1_mattersAt_28 : decode cX1_mattersAt 28 = .ok (.imul, 1) := by decide +kernel
theorem dX1_mattersAt_29 : decode cX1_mattersAt 29 = .ok (.iadd, 1) := by decide +kernel
theorem dX1_mattersAt_30 : decode cX1_mattersAt 30 = .ok (.iaload, 1) := by decide +kernel
theorem dX1_mattersAt_31 : decode cX1_mattersAt 31 = .ok (.if_icmp .eq 7, 3) := by decide +kernel
theorem dX1_mattersAt_34 : decode cX1_mattersAt 34 = .ok (.iconst 1, 1) := by decide +kernel
theorem dX1_mattersAt_35 : decode cX1_mattersAt 35 = .ok (.goto 4, 3) := by decide +kernel
theorem dX1_mattersAt_38 : decode cX1_mattersAt 38 = .ok (.iconst 0, 1) := by decide +kernel
theorem dX1_mattersAt_39 : decode cX1_mattersAt 39 = .ok (.ireturn, 1) := by decide +kernel
theorem dX1_boxes_0 : decode cX1_boxes 0 = .ok (.iconst 0, 1) := by decide +kernel
theorem dX1_boxes_1 : decode cX1_boxes 1 = .ok (.istore 4, 2) := by decide +kernel
theorem dX1_boxes_3 : decode cX1_boxes 3 = .ok (.iconst 0, 1) := by decide +kernel
theorem dX1_boxes_4 : decode cX1_boxes 4 = .ok (.istore 5, 2) := by decide +kernel
theorem dX1_boxes_6 : decode cX1_boxes 6 = .ok (.aload_n 0, 1) := by decide +kernel
theorem dX1_boxes_7 : decode cX1_boxes 7 = .ok (.dup, 1) := by decide +kernel
theorem dX1_boxes_8 : decode cX1_boxes 8 = .ok (.getfield 51, 3) := by decide +kernel
theorem dX1_boxes_11 : decode cX1_boxes 11 = .ok (.iconst 1, 1) := by decide +kernel
theorem dX1_boxes_12 : decode cX1_boxes 12 = .ok (.iadd, 1) := by decide +kernel
theorem dX1_boxes_13 : decode cX1_boxes 13 = .ok (.putfield 51, 3) := by decide +kernel
theorem dX1_boxes_16 : decode cX1_boxes 16 = .ok (.iconst 0, 1) := by decide +kernel
theorem dX1_boxes_17 : decode cX1_boxes 17 = .ok (.istore 6, 2) := by decide +kernel
theorem dX1_boxes_19 : decode cX1_boxes 19 = .ok (.iload 6, 2) := by decide +kernel
theorem dX1_boxes_21 : decode cX1_boxes 21 = .ok (.iconst 1, 1) := by decide +kernel
theorem dX1_boxes_22 : decode cX1_boxes 22 = .ok (.iload_n 2, 1) := by decide +kernel
theorem dX1_boxes_23 : decode cX1_boxes 23 = .ok (.invokestatic 57, 3) := by decide +kernel
theorem dX1_boxes_26 : decode cX1_boxes 26 = .ok (.ishl, 1) := by decide +kernel
theorem dX1_boxes_27 : decode cX1_boxes 27 = .ok (.if_icmp .ge 87, 3) := by decide +kernel
theorem dX1_boxes_30 : decode cX1_boxes 30 = .ok (.aload_n 0, 1) := by decide +kernel
theorem dX1_boxes_31 : decode cX1_boxes 31 = .ok (.getfield 9, 3) := by decide +kernel
theorem dX1_boxes_34 : decode cX1_boxes 34 = .ok (.iload_n 2, 1) := by decide +kernel
theorem dX1_boxes_35 : decode cX1_boxes 35 = .ok (.iload 5, 2) := by decide +kernel
theorem dX1_boxes_37 : decode cX1_boxes 37 = .ok (.invokevirtual 63, 3) := by decide +kernel
theorem dX1_boxes_40 : decode cX1_boxes 40 = .ok (.istore 7, 2) := by decide +kernel
theorem dX1_boxes_42 : decode cX1_boxes 42 = .ok (.aload_n 1, 1) := by decide +kernel
theorem dX1_boxes_43 : decode cX1_boxes 43 = .ok (.getfield 66, 3) := by decide +kernel
theorem dX1_boxes_46 : decode cX1_boxes 46 = .ok (.iload 7, 2) := by decide +kernel
theorem dX1_boxes_48 : decode cX1_boxes 48 = .ok (.iaload, 1) := by decide +kernel
theorem dX1_boxes_49 : decode cX1_boxes 49 = .ok (.istore 8, 2) := by decide +kernel
theorem dX1_boxes_51 : decode cX1_boxes 51 = .ok (.aload_n 0, 1) := by decide +kernel
theorem dX1_boxes_52 : decode cX1_boxes 52 = .ok (.aload_n 1, 1) := by decide +kernel
theorem dX1_boxes_53 : decode cX1_boxes 53 = .ok (.iload 7, 2) := by decide +kernel
theorem dX1_boxes_55 : decode cX1_boxes 55 = .ok (.iload_n 3, 1) := by decide +kernel
theorem dX1_boxes_56 : decode cX1_boxes 56 = .ok (.invokevirtual 82, 3) := by decide +kernel
theorem dX1_boxes_59 : decode cX1_boxes 59 = .ok (.ifCond .eq 41, 3) := by decide +kernel
theorem dX1_boxes_62 : decode cX1_boxes 62 = .ok (.iload 8, 2) := by decide +kernel
theorem dX1_boxes_64 : decode cX1_boxes 64 = .ok (.aload_n 0, 1) := by decide +kernel
theorem dX1_boxes_65 : decode cX1_boxes 65 = .ok (.getfield 32, 3) := by decide +kernel
theorem dX1_boxes_68 : decode cX1_boxes 68 = .ok (.arraylength, 1) := by decide +kernel
theorem dX1_boxes_69 : decode cX1_boxes 69 = .ok (.if_icmp .ge 31, 3) := by decide +kernel
theorem dX1_boxes_72 : decode cX1_boxes 72 = .ok (.aload_n 0, 1) := by decide +kernel
theorem dX1_boxes_73 : decode cX1_boxes 73 = .ok (.getfield 32, 3) := by decide +kernel
theorem dX1_boxes_76 : decode cX1_boxes 76 = .ok (.iload 8, 2) := by decide +kernel
theorem dX1_boxes_78 : decode cX1_boxes 78 = .ok (.iaload, 1) := by decide +kernel
theorem dX1_boxes_79 : decode cX1_boxes 79 = .ok (.aload_n 0, 1) := by decide +kernel
theorem dX1_boxes_80 : decode cX1_boxes 80 = .ok (.getfield 51, 3) := by decide +kernel
theorem dX1_boxes_83 : decode cX1_boxes 83 = .ok (.if_icmp .eq 17, 3) := by decide +kernel
theorem dX1_boxes_86 : decode cX1_boxes 86 = .ok (.aload_n 0, 1) := by decide +kernel
theorem dX1_boxes_87 : decode cX1_boxes 87 = .ok (.getfield 32, 3) := by decide +kernel
theorem dX1_boxes_90 : decode cX1_boxes 90 = .ok (.iload 8, 2) := by decide +kernel
theorem dX1_boxes_92 : decode cX1_boxes 92 = .ok (.aload_n 0, 1) := by decide +kernel
theorem dX1_boxes_93 : decode cX1_boxes 93 = .ok (.getfield 51, 3) := by decide +kernel
theorem dX1_boxes_96 : decode cX1_boxes 96 = .ok (.iastore, 1) := by decide +kernel
theorem dX1_boxes_97 : decode cX1_boxes 97 = .ok (.iinc 4 1, 3) := by decide +kernel
theorem dX1_boxes_100 : decode cX1_boxes 100 = .ok (.iload 5, 2) := by decide +kernel
theorem dX1_boxes_102 : decode cX1_boxes 102 = .ok (.iload_n 2, 1) := by decide +kernel
theorem dX1_boxes_103 : decode cX1_boxes 103 = .ok (.isub, 1) := by decide +kernel
theorem dX1_boxes_104 : decode cX1_boxes 104 = .ok (.iload_n 2, 1) := by decide +kernel
theorem dX1_boxes_105 : decode cX1_boxes 105 = .ok (.iand, 1) := by decide +kernel
theorem dX1_boxes_106 : decode cX1_boxes 106 = .ok (.istore 5, 2) := by decide +kernel
theorem dX1_boxes_108 : decode cX1_boxes 108 = .ok (.iinc 6 1, 3) := by decide +kernel
theorem dX1_boxes_111 : decode cX1_boxes 111 = .ok (.goto (-92), 3) := by decide +kernel
theorem dX1_boxes_114 : decode cX1_boxes 114 = .ok (.iload 4, 2) := by decide +kernel
theorem dX1_boxes_116 : decode cX1_boxes 116 = .ok (.ireturn, 1) := by decide +kernel
theorem dX1_keepOrder_0 : decode cX1_keepOrder 0 = .ok (.iload_n 1, 1) := by decide +kernel
theorem dX1_keepOrder_1 : decode cX1_keepOrder 1 = .ok (.istore_n 2, 1) := by decide +kernel
theorem dX1_keepOrder_2 : decode cX1_keepOrder 2 = .ok (.iconst 0, 1) := by decide +kernel
theorem dX1_keepOrder_3 : decode cX1_keepOrder 3 = .ok (.istore_n 3, 1) := by decide +kernel
theorem dX1_keepOrder_4 : decode cX1_keepOrder 4 = .ok (.aload_n 0, 1) := by decide +kernel
theorem dX1_keepOrder_5 : decode cX1_keepOrder 5 = .ok (.getfield 9, 3) := by decide +kernel
theorem dX1_keepOrder_8 : decode cX1_keepOrder 8 = .ok (.getfield 42, 3) := by decide +kernel
theorem dX1_keepOrder_11 : decode cX1_keepOrder 11 = .ok (.iconst 1, 1) := by decide +kernel
theorem dX1_keepOrder_12 : decode cX1_keepOrder 12 = .ok (.isub, 1) := by decide +kernel
theorem dX1_keepOrder_13 : decode cX1_keepOrder 13 = .ok (.istore 4, 2) := by decide +kernel
theorem dX1_keepOrder_15 : decode cX1_keepOrder 15 = .ok (.iload 4, 2) := by decide +kernel
theorem dX1_keepOrder_17 : decode cX1_keepOrder 17 = .ok (.ifCond .lt 51, 3) := by decide +kernel
theorem dX1_keepOrder_20 : decode cX1_keepOrder 20 = .ok (.iload_n 2, 1) := by decide +kernel
theorem dX1_keepOrder_21 : decode cX1_keepOrder 21 = .ok (.ifCond .lt 47, 3) := by decide +kernel
theorem dX1_keepOrder_24 : decode cX1_keepOrder 24 = .ok (.aload_n 0, 1) := by decide +kernel
theorem dX1_keepOrder_25 : decode cX1_keepOrder 25 = .ok (.getfield 45, 3) := by decide +kernel
theorem dX1_keepOrder_28 : decode cX1_keepOrder 28 = .ok (.iload 4, 2) := by decide +kernel
theorem dX1_keepOrder_30 : decode cX1_keepOrder 30 = .ok (.iload_n 2, 1) := by decide +kernel
theorem dX1_keepOrder_31 : decode cX1_keepOrder 31 = .ok (.aload_n 0, 1) := by decide +kernel
theorem dX1_keepOrder_32 : decode cX1_keepOrder 32 = .ok (.getfield 9, 3) := by decide +kernel
theorem dX1_keepOrder_35 : decode cX1_keepOrder 35 = .ok (.getfield 42, 3) := by decide +kernel
theorem dX1_keepOrder_38 : decode cX1_keepOrder 38 = .ok (.irem, 1) := by decide +kernel
theorem dX1_keepOrder_39 : decode cX1_keepOrder 39 = .ok (.iastore, 1) := by decide +kernel
theorem dX1_keepOrder_40 : decode cX1_keepOrder 40 = .ok (.iload_n 3, 1) := by decide +kernel
theorem dX1_keepOrder_41 : decode cX1_keepOrder 41 = .ok (.iconst 1, 1) := by decide +kernel
theorem dX1_keepOrder_42 : decode cX1_keepOrder 42 = .ok (.aload_n 0, 1) := by decide +kernel
theorem dX1_keepOrder_43 : decode cX1_keepOrder 43 = .ok (.getfield 45, 3) := by decide +kernel
theorem dX1_keepOrder_46 : decode cX1_keepOrder 46 = .ok (.iload 4, 2) := by decide +kernel
theorem dX1_keepOrder_48 : decode cX1_keepOrder 48 = .ok (.iaload, 1) := by decide +kernel
theorem dX1_keepOrder_49 : decode cX1_keepOrder 49 = .ok (.ishl, 1) := by decide +kernel
theorem dX1_keepOrder_50 : decode cX1_keepOrder 50 = .ok (.ior, 1) := by decide +kernel
theorem dX1_keepOrder_51 : decode cX1_keepOrder 51 = .ok (.istore_n 3, 1) := by decide +kernel
theorem dX1_keepOrder_52 : decode cX1_keepOrder 52 = .ok (.iload_n 2, 1) := by decide +kernel
theorem dX1_keepOrder_53 : decode cX1_keepOrder 53 = .ok (.aload_n 0, 1) := by decide +kernel
theorem dX1_keepOrder_54 : decode cX1_keepOrder 54 = .ok (.getfield 9, 3) := by decide +kernel
theorem dX1_keepOrder_57 : decode cX1_keepOrder 57 = .ok (.getfield 42, 3) := by decide +kernel
theorem dX1_keepOrder_60 : decode cX1_keepOrder 60 = .ok (.idiv, 1) := by decide +kernel
theorem dX1_keepOrder_61 : decode cX1_keepOrder 61 = .ok (.istore_n 2, 1) := by decide +kernel
theorem dX1_keepOrder_62 : decode cX1_keepOrder 62 = .ok (.iinc 4 (-1), 3) := by decide +kernel
theorem dX1_keepOrder_65 : decode cX1_keepOrder 65 = .ok (.goto (-50), 3) := by decide +kernel
theorem dX1_keepOrder_68 : decode cX1_keepOrder 68 = .ok (.iload_n 2, 1) := by decide +kernel
theorem dX1_keepOrder_69 : decode cX1_keepOrder 69 = .ok (.ifCond .ne 18, 3) := by decide +kernel
theorem dX1_keepOrder_72 : decode cX1_keepOrder 72 = .ok (.iload_n 3, 1) := by decide +kernel
theorem dX1_keepOrder_73 : decode cX1_keepOrder 73 = .ok (.aload_n 0, 1) := by decide +kernel
theorem dX1_keepOrder_74 : decode cX1_keepOrder 74 = .ok (.getfield 9, 3) := by decide +kernel
theorem dX1_keepOrder_77 : decode cX1_keepOrder 77 = .ok (.getfield 48, 3) := by decide +kernel
theorem dX1_keepOrder_80 : decode cX1_keepOrder 80 = .ok (.if_icmp .ne 7, 3) := by decide +kernel
theorem dX1_keepOrder_83 : decode cX1_keepOrder 83 = .ok (.iconst 1, 1) := by decide +kernel
theorem dX1_keepOrder_84 : decode cX1_keepOrder 84 = .ok (.goto 4, 3) := by decide +kernel
theorem dX1_keepOrder_87 : decode cX1_keepOrder 87 = .ok (.iconst 0, 1) := by decide +kernel
theorem dX1_keepOrder_88 : decode cX1_keepOrder 88 = .ok (.ireturn, 1) := by decide +kernel
theorem dX1_boxesInOrder_0 : decode cX1_boxesInOrder 0 = .ok (.iconst 0, 1) := by decide +kernel
theorem dX1_boxesInOrder_1 : decode cX1_boxesInOrder 1 = .ok (.istore_n 3, 1) := by decide +kernel
theorem dX1_boxesInOrder_2 : decode cX1_boxesInOrder 2 = .ok (.iconst 0, 1) := by decide +kernel
theorem dX1_boxesInOrder_3 : decode cX1_boxesInOrder 3 = .ok (.istore 4, 2) := by decide +kernel
theorem dX1_boxesInOrder_5 : decode cX1_boxesInOrder 5 = .ok (.iconst 0, 1) := by decide +kernel
theorem dX1_boxesInOrder_6 : decode cX1_boxesInOrder 6 = .ok (.istore 5, 2) := by decide +kernel
theorem dX1_boxesInOrder_8 : decode cX1_boxesInOrder 8 = .ok (.iconst 0, 1) := by decide +kernel
theorem dX1_boxesInOrder_9 : decode cX1_boxesInOrder 9 = .ok (.istore 6, 2) := by decide +kernel
theorem dX1_boxesInOrder_11 : decode cX1_boxesInOrder 11 = .ok (.iload 6, 2) := by decide +kernel
theorem dX1_boxesInOrder_13 : decode cX1_boxesInOrder 13 = .ok (.aload_n 0, 1) := by decide +kernel
theorem dX1_boxesInOrder_14 : decode cX1_boxesInOrder 14 = .ok (.getfield 9, 3) := by decide +kernel
theorem dX1_boxesInOrder_17 : decode cX1_boxesInOrder 17 = .ok (.getfield 42, 3) := by decide +kernel
theorem dX1_boxesInOrder_20 : decode cX1_boxesInOrder 20 = .ok (.if_icmp .ge 53, 3) := by decide +kernel
theorem dX1_boxesInOrder_23 : decode cX1_boxesInOrder 23 = .ok (.aload_n 0, 1) := by decide +kernel
theorem dX1_boxesInOrder_24 : decode cX1_boxesInOrder 24 = .ok (.aload_n 1, 1) := by decide +kernel
theorem dX1_boxesInOrder_25 : decode cX1_boxesInOrder 25 = .ok (.iload 5, 2) := by decide +kernel
theorem dX1_boxesInOrder_27 : decode cX1_boxesInOrder 27 = .ok (.aload_n 0, 1) := by decide +kernel
theorem dX1_boxesInOrder_28 : decode cX1_boxesInOrder 28 = .ok (.getfield 45, 3) := by decide +kernel
theorem dX1_boxesInOrder_31 : decode cX1_boxesInOrder 31 = .ok (.iload 6, 2) := by decide +kernel
theorem dX1_boxesInOrder_33 : decode cX1_boxesInOrder 33 = .ok (.iaload, 1) := by decide +kernel
theorem dX1_boxesInOrder_34 : decode cX1_boxesInOrder 34 = .ok (.invokevirtual 86, 3) := by decide +kernel
theorem dX1_boxesInOrder_37 : decode cX1_boxesInOrder 37 = .ok (.istore 7, 2) := by decide +kernel
theorem dX1_boxesInOrder_39 : decode cX1_boxesInOrder 39 = .ok (.iload_n 3, 1) := by decide +kernel
theorem dX1_boxesInOrder_40 : decode cX1_boxesInOrder 40 = .ok (.iload 7, 2) := by decide +kernel
theorem dX1_boxesInOrder_42 : decode cX1_boxesInOrder 42 = .ok (.iadd, 1) := by decide +kernel
theorem dX1_boxesInOrder_43 : decode cX1_boxesInOrder 43 = .ok (.istore_n 3, 1) := by decide +kernel
theorem dX1_boxesInOrder_44 : decode cX1_boxesInOrder 44 = .ok (.iload 4, 2) := by decide +kernel
theorem dX1_boxesInOrder_46 : decode cX1_boxesInOrder 46 = .ok (.iload 7, 2) := by decide +kernel
theorem dX1_boxesInOrder_48 : decode cX1_boxesInOrder 48 = .ok (.invokestatic 23, 3) := by decide +kernel
theorem dX1_boxesInOrder_51 : decode cX1_boxesInOrder 51 = .ok (.istore 4, 2) := by decide +kernel
theorem dX1_boxesInOrder_53 : decode cX1_boxesInOrder 53 = .ok (.iload 5, 2) := by decide +kernel
theorem dX1_boxesInOrder_55 : decode cX1_boxesInOrder 55 = .ok (.iconst 1, 1) := by decide +kernel
theorem dX1_boxesInOrder_56 : decode cX1_boxesInOrder 56 = .ok (.aload_n 0, 1) := by decide +kernel
theorem dX1_boxesInOrder_57 : decode cX1_boxesInOrder 57 = .ok (.getfield 45, 3) := by decide +kernel
theorem dX1_boxesInOrder_60 : decode cX1_boxesInOrder 60 = .ok (.iload 6, 2) := by decide +kernel
theorem dX1_boxesInOrder_62 : decode cX1_boxesInOrder 62 = .ok (.iaload, 1) := by decide +kernel
theorem dX1_boxesInOrder_63 : decode cX1_boxesInOrder 63 = .ok (.ishl, 1) := by decide +kernel
theorem dX1_boxesInOrder_64 : decode cX1_boxesInOrder 64 = .ok (.ior, 1) := by decide +kernel
theorem dX1_boxesInOrder_65 : decode cX1_boxesInOrder 65 = .ok (.istore 5, 2) := by decide +kernel
theorem dX1_boxesInOrder_67 : decode cX1_boxesInOrder 67 = .ok (.iinc 6 1, 3) := by decide +kernel
theorem dX1_boxesInOrder_70 : decode cX1_boxesInOrder 70 = .ok (.goto (-59), 3) := by decide +kernel
theorem dX1_boxesInOrder_73 : decode cX1_boxesInOrder 73 = .ok (.iload_n 2, 1) := by decide +kernel
theorem dX1_boxesInOrder_74 : decode cX1_boxesInOrder 74 = .ok (.ifCond .eq 8, 3) := by decide +kernel
theorem dX1_boxesInOrder_77 : decode cX1_boxesInOrder 77 = .ok (.iload 4, 2) := by decide +kernel
theorem dX1_boxesInOrder_79 : decode cX1_boxesInOrder 79 = .ok (.goto 4, 3) := by decide +kernel
theorem dX1_boxesInOrder_82 : decode cX1_boxesInOrder 82 = .ok (.iload_n 3, 1) := by decide +kernel
theorem dX1_boxesInOrder_83 : decode cX1_boxesInOrder 83 = .ok (.ireturn, 1) := by decide +kernel
theorem dX1_askedInOrder_0 : decode cX1_askedInOrder 0 = .ok (.iconst 0, 1) := by decide +kernel
theorem dX1_askedInOrder_1 : decode cX1_askedInOrder 1 = .ok (.istore_n 3, 1) := by decide +kernel
theorem dX1_askedInOrder_2 : decode cX1_askedInOrder 2 = .ok (.iconst 0, 1) := by decide +kernel
theorem dX1_askedInOrder_3 : decode cX1_askedInOrder 3 = .ok (.istore 4, 2) := by decide +kernel
theorem dX1_askedInOrder_5 : decode cX1_askedInOrder 5 = .ok (.iload 4, 2) := by decide +kernel
theorem dX1_askedInOrder_7 : decode cX1_askedInOrder 7 = .ok (.aload_n 0, 1) := by decide +kernel
theorem dX1_askedInOrder_8 : decode cX1_askedInOrder 8 = .ok (.getfield 9, 3) := by decide +kernel
theorem dX1_askedInOrder_11 : decode cX1_askedInOrder 11 = .ok (.getfield 42, 3) := by decide +kernel
theorem dX1_askedInOrder_14 : decode cX1_askedInOrder 14 = .ok (.if_icmp .ge 47, 3) := by decide +kernel
theorem dX1_askedInOrder_17 : decode cX1_askedInOrder 17 = .ok (.aload_n 0, 1) := by decide +kernel
theorem dX1_askedInOrder_18 : decode cX1_askedInOrder 18 = .ok (.aload_n 1, 1) := by decide +kernel
theorem dX1_askedInOrder_19 : decode cX1_askedInOrder 19 = .ok (.aload_n 0, 1) := by decide +kernel
theorem dX1_askedInOrder_20 : decode cX1_askedInOrder 20 = .ok (.getfield 9, 3) := by decide +kernel
theorem dX1_askedInOrder_23 : decode cX1_askedInOrder 23 = .ok (.iload_n 3, 1) := by decide +kernel
theorem dX1_askedInOrder_24 : decode cX1_askedInOrder 24 = .ok (.iload_n 2, 1) := by decide +kernel
theorem dX1_askedInOrder_25 : decode cX1_askedInOrder 25 = .ok (.iload_n 3, 1) := by decide +kernel
theorem dX1_askedInOrder_26 : decode cX1_askedInOrder 26 = .ok (.iand, 1) := by decide +kernel
theorem dX1_askedInOrder_27 : decode cX1_askedInOrder 27 = .ok (.invokevirtual 63, 3) := by decide +kernel
theorem dX1_askedInOrder_30 : decode cX1_askedInOrder 30 = .ok (.aload_n 0, 1) := by decide +kernel
theorem dX1_askedInOrder_31 : decode cX1_askedInOrder 31 = .ok (.getfield 45, 3) := by decide +kernel
theorem dX1_askedInOrder_34 : decode cX1_askedInOrder 34 = .ok (.iload 4, 2) := by decide +kernel
theorem dX1_askedInOrder_36 : decode cX1_askedInOrder 36 = .ok (.iaload, 1) := by decide +kernel
theorem dX1_askedInOrder_37 : decode cX1_askedInOrder 37 = .ok (.invokevirtual 82, 3) := by decide +kernel
theorem dX1_askedInOrder_40 : decode cX1_askedInOrder 40 = .ok (.ifCond .eq 15, 3) := by decide +kernel
theorem dX1_askedInOrder_43 : decode cX1_askedInOrder 43 = .ok (.iload_n 3, 1) := by decide +kernel
theorem dX1_askedInOrder_44 : decode cX1_askedInOrder 44 = .ok (.iconst 1, 1) := by decide +kernel
theorem dX1_askedInOrder_45 : decode cX1_askedInOrder 45 = .ok (.aload_n 0, 1) := by decide +kernel
theorem dX1_askedInOrder_46 : decode cX1_askedInOrder 46 = .ok (.getfield 45, 3) := by decide +kernel
theorem dX1_askedInOrder_49 : decode cX1_askedInOrder 49 = .ok (.iload 4, 2) := by decide +kernel
theorem dX1_askedInOrder_51 : decode cX1_askedInOrder 51 = .ok (.iaload, 1) := by decide +kernel
theorem dX1_askedInOrder_52 : decode cX1_askedInOrder 52 = .ok (.ishl, 1) := by decide +kernel
theorem dX1_askedInOrder_53 : decode cX1_askedInOrder 53 = .ok (.ior, 1) := by decide +kernel
theorem dX1_askedInOrder_54 : decode cX1_askedInOrder 54 = .ok (.istore_n 3, 1) := by decide +kernel
theorem dX1_askedInOrder_55 : decode cX1_askedInOrder 55 = .ok (.iinc 4 1, 3) := by decide +kernel
theorem dX1_askedInOrder_58 : decode cX1_askedInOrder 58 = .ok (.goto (-53), 3) := by decide +kernel
theorem dX1_askedInOrder_61 : decode cX1_askedInOrder 61 = .ok (.iload_n 3, 1) := by decide +kernel
theorem dX1_askedInOrder_62 : decode cX1_askedInOrder 62 = .ok (.ireturn, 1) := by decide +kernel
theorem dX1_findLeast_0 : decode cX1_findLeast 0 = .ok (.aload_n 1, 1) := by decide +kernel
theorem dX1_findLeast_1 : decode cX1_findLeast 1 = .ok (.getfield 89, 3) := by decide +kernel
theorem dX1_findLeast_4 : decode cX1_findLeast 4 = .ok (.iconst (-1), 1) := by decide +kernel
theorem dX1_findLeast_5 : decode cX1_findLeast 5 = .ok (.if_icmp .eq 4, 3) := by decide +kernel
theorem dX1_findLeast_8 : decode cX1_findLeast 8 = .ok (.return_, 1) := by decide +kernel
theorem dX1_findLeast_9 : decode cX1_findLeast 9 = .ok (.aload_n 0, 1) := by decide +kernel
theorem dX1_findLeast_10 : decode cX1_findLeast 10 = .ok (.getfield 39, 3) := by decide +kernel
theorem dX1_findLeast_13 : decode cX1_findLeast 13 = .ok (.aload_n 0, 1) := by decide +kernel
theorem dX1_findLeast_14 : decode cX1_findLeast 14 = .ok (.getfield 9, 3) := by decide +kernel
theorem dX1_findLeast_17 : decode cX1_findLeast 17 = .ok (.getfield 48, 3) := by decide +kernel
theorem dX1_findLeast_20 : decode cX1_findLeast 20 = .ok (.iconst 0, 1) := by decide +kernel
theorem dX1_findLeast_21 : decode cX1_findLeast 21 = .ok (.iastore, 1) := by decide +kernel
theorem dX1_findLeast_22 : decode cX1_findLeast 22 = .ok (.aload_n 0, 1) := by decide +kernel
theorem dX1_findLeast_23 : decode cX1_findLeast 23 = .ok (.getfield 9, 3) := by decide +kernel
theorem dX1_findLeast_26 : decode cX1_findLeast 26 = .ok (.getfield 48, 3) := by decide +kernel
theorem dX1_findLeast_29 : decode cX1_findLeast 29 = .ok (.iconst 1, 1) := by decide +kernel
theorem dX1_findLeast_30 : decode cX1_findLeast 30 = .ok (.isub, 1) := by decide +kernel
theorem dX1_findLeast_31 : decode cX1_findLeast 31 = .ok (.istore_n 2, 1) := by decide +kernel
theorem dX1_findLeast_32 : decode cX1_findLeast 32 = .ok (.iload_n 2, 1) := by decide +kernel
theorem dX1_findLeast_33 : decode cX1_findLeast 33 = .ok (.ifCond .lt 21, 3) := by decide +kernel
theorem dX1_findLeast_36 : decode cX1_findLeast 36 = .ok (.aload_n 0, 1) := by decide +kernel
theorem dX1_findLeast_37 : decode cX1_findLeast 37 = .ok (.getfield 39, 3) := by decide +kernel
theorem dX1_findLeast_40 : decode cX1_findLeast 40 = .ok (.iload_n 2, 1) := by decide +kernel
theorem dX1_findLeast_41 : decode cX1_findLeast 41 = .ok (.aload_n 0, 1) := by decide +kernel
theorem dX1_findLeast_42 : decode cX1_findLeast 42 = .ok (.aload_n 1, 1) := by decide +kernel
theorem dX1_findLeast_43 : decode cX1_findLeast 43 = .ok (.iload_n 2, 1) := by decide +kernel
theorem dX1_findLeast_44 : decode cX1_findLeast 44 = .ok (.invokevirtual 92, 3) := by decide +kernel
theorem dX1_findLeast_47 : decode cX1_findLeast 47 = .ok (.iastore, 1) := by decide +kernel
theorem dX1_findLeast_48 : decode cX1_findLeast 48 = .ok (.iinc 2 (-1), 3) := by decide +kernel
theorem dX1_findLeast_51 : decode cX1_findLeast 51 = .ok (.goto (-19), 3) := by decide +kernel
theorem dX1_findLeast_54 : decode cX1_findLeast 54 = .ok (.iconst 0, 1) := by decide +kernel
theorem dX1_findLeast_55 : decode cX1_findLeast 55 = .ok (.istore_n 2, 1) := by decide +kernel
theorem dX1_findLeast_56 : decode cX1_findLeast 56 = .ok (.iconst 0, 1) := by decide +kernel
theorem dX1_findLeast_57 : decode cX1_findLeast 57 = .ok (.istore_n 3, 1) := by decide +kernel
theorem dX1_findLeast_58 : decode cX1_findLeast 58 = .ok (.iconst 0, 1) := by decide +kernel
theorem dX1_findLeast_59 : decode cX1_findLeast 59 = .ok (.istore 4, 2) := by decide +kernel
theorem dX1_findLeast_61 : decode cX1_findLeast 61 = .ok (.iload 4, 2) := by decide +kernel
theorem dX1_findLeast_63 : decode cX1_findLeast 63 = .ok (.aload_n 0, 1) := by decide +kernel
theorem dX1_findLeast_64 : decode cX1_findLeast 64 = .ok (.getfield 9, 3) := by decide +kernel
theorem dX1_findLeast_67 : decode cX1_findLeast 67 = .ok (.getfield 42, 3) := by decide +kernel
theorem dX1_findLeast_70 : decode cX1_findLeast 70 = .ok (.if_icmp .ge 37, 3) := by decide +kernel
theorem dX1_findLeast_73 : decode cX1_findLeast 73 = .ok (.aload_n 0, 1) := by decide +kernel
theorem dX1_findLeast_74 : decode cX1_findLeast 74 = .ok (.aload_n 1, 1) := by decide +kernel
theorem dX1_findLeast_75 : decode cX1_findLeast 75 = .ok (.iload_n 3, 1) := by decide +kernel
theorem dX1_findLeast_76 : decode cX1_findLeast 76 = .ok (.invokevirtual 96, 3) := by decide +kernel
theorem dX1_findLeast_79 : decode cX1_findLeast 79 = .ok (.istore 5, 2) := by decide +kernel
theorem dX1_findLeast_81 : decode cX1_findLeast 81 = .ok (.iload_n 2, 1) := by decide +kernel
theorem dX1_findLeast_82 : decode cX1_findLeast 82 = .ok (.aload_n 0, 1) := by decide +kernel
theorem dX1_findLeast_83 : decode cX1_findLeast 83 = .ok (.getfield 9, 3) := by decide +kernel
theorem dX1_findLeast_86 : decode cX1_findLeast 86 = .ok (.getfield 42, 3) := by decide +kernel
theorem dX1_findLeast_89 : decode cX1_findLeast 89 = .ok (.imul, 1) := by decide +kernel
theorem dX1_findLeast_90 : decode cX1_findLeast 90 = .ok (.iload 5, 2) := by decide +kernel
theorem dX1_findLeast_92 : decode cX1_findLeast 92 = .ok (.iadd, 1) := by decide +kernel
theorem dX1_findLeast_93 : decode cX1_findLeast 93 = .ok (.istore_n 2, 1) := by decide +kernel
theorem dX1_findLeast_94 : decode cX1_findLeast 94 = .ok (.iload_n 3, 1) := by decide +kernel
theorem dX1_findLeast_95 : decode cX1_findLeast 95 = .ok (.iconst 1, 1) := by decide +kernel
theorem dX1_findLeast_96 : decode cX1_findLeast 96 = .ok (.iload 5, 2) := by decide +kernel
theorem dX1_findLeast_98 : decode cX1_findLeast 98 = .ok (.ishl, 1) := by decide +kernel
theorem dX1_findLeast_99 : decode cX1_findLeast 99 = .ok (.ior, 1) := by decide +kernel
theorem dX1_findLeast_100 : decode cX1_findLeast 100 = .ok (.istore_n 3, 1) := by decide +kernel
theorem dX1_findLeast_101 : decode cX1_findLeast 101 = .ok (.iinc 4 1, 3) := by decide +kernel
theorem dX1_findLeast_104 : decode cX1_findLeast 104 = .ok (.goto (-43), 3) := by decide +kernel
theorem dX1_findLeast_107 : decode cX1_findLeast 107 = .ok (.aload_n 1, 1) := by decide +kernel
theorem dX1_findLeast_108 : decode cX1_findLeast 108 = .ok (.aload_n 0, 1) := by decide +kernel
theorem dX1_findLeast_109 : decode cX1_findLeast 109 = .ok (.getfield 39, 3) := by decide +kernel
theorem dX1_findLeast_112 : decode cX1_findLeast 112 = .ok (.iconst 0, 1) := by decide +kernel
theorem dX1_findLeast_113 : decode cX1_findLeast 113 = .ok (.iaload, 1) := by decide +kernel
theorem dX1_findLeast_114 : decode cX1_findLeast 114 = .ok (.putfield 89, 3) := by decide +kernel
theorem dX1_findLeast_117 : decode cX1_findLeast 117 = .ok (.aload_n 1, 1) := by decide +kernel
theorem dX1_findLeast_118 : decode cX1_findLeast 118 = .ok (.iload_n 2, 1) := by decide +kernel
theorem dX1_findLeast_119 : decode cX1_findLeast 119 = .ok (.putfield 99, 3) := by decide +kernel
theorem dX1_findLeast_122 : decode cX1_findLeast 122 = .ok (.return_, 1) := by decide +kernel
theorem dX1_fewest_0 : decode cX1_fewest 0 = .ok (.iconst (-1), 1) := by decide +kernel
theorem dX1_fewest_1 : decode cX1_fewest 1 = .ok (.istore_n 3, 1) := by decide +kernel
theorem dX1_fewest_2 : decode cX1_fewest 2 = .ok (.iconst 0, 1) := by decide +kernel
theorem dX1_fewest_3 : decode cX1_fewest 3 = .ok (.istore 4, 2) := by decide +kernel
theorem dX1_fewest_5 : decode cX1_fewest 5 = .ok (.iload 4, 2) := by decide +kernel
theorem dX1_fewest_7 : decode cX1_fewest 7 = .ok (.aload_n 0, 1) := by decide +kernel
theorem dX1_fewest_8 : decode cX1_fewest 8 = .ok (.getfield 9, 3) := by decide +kernel
theorem dX1_fewest_11 : decode cX1_fewest 11 = .ok (.getfield 42, 3) := by decide +kernel
theorem dX1_fewest_14 : decode cX1_fewest 14 = .ok (.if_icmp .ge 58, 3) := by decide +kernel
theorem dX1_fewest_17 : decode cX1_fewest 17 = .ok (.iload_n 2, 1) := by decide +kernel
theorem dX1_fewest_18 : decode cX1_fewest 18 = .ok (.iload 4, 2) := by decide +kernel
theorem dX1_fewest_20 : decode cX1_fewest 20 = .ok (.ishr, 1) := by decide +kernel
theorem dX1_fewest_21 : decode cX1_fewest 21 = .ok (.iconst 1, 1) := by decide +kernel
theorem dX1_fewest_22 : decode cX1_fewest 22 = .ok (.iand, 1) := by decide +kernel
theorem dX1_fewest_23 : decode cX1_fewest 23 = .ok (.ifCond .ne 43, 3) := by decide +kernel
theorem dX1_fewest_26 : decode cX1_fewest 26 = .ok (.aload_n 0, 1) := by decide +kernel
theorem dX1_fewest_27 : decode cX1_fewest 27 = .ok (.aload_n 1, 1) := by decide +kernel
theorem dX1_fewest_28 : decode cX1_fewest 28 = .ok (.iload_n 2, 1) := by decide +kernel
theorem dX1_fewest_29 : decode cX1_fewest 29 = .ok (.iload 4, 2) := by decide +kernel
theorem dX1_fewest_31 : decode cX1_fewest 31 = .ok (.invokevirtual 86, 3) := by decide +kernel
theorem dX1_fewest_34 : decode cX1_fewest 34 = .ok (.aload_n 0, 1) := by decide +kernel
theorem dX1_fewest_35 : decode cX1_fewest 35 = .ok (.getfield 39, 3) := by decide +kernel
theorem dX1_fewest_38 : decode cX1_fewest 38 = .ok (.iload_n 2, 1) := by decide +kernel
theorem dX1_fewest_39 : decode cX1_fewest 39 = .ok (.iconst 1, 1) := by decide +kernel
theorem dX1_fewest_40 : decode cX1_fewest 40 = .ok (.iload 4, 2) := by decide +kernel
theorem dX1_fewest_42 : decode cX1_fewest 42 = .ok (.ishl, 1) := by decide +kernel
theorem dX1_fewest_43 : decode cX1_fewest 43 = .ok (.ior, 1) := by decide +kernel
theorem dX1_fewest_44 : decode cX1_fewest 44 = .ok (.iaload, 1) := by decide +kernel
theorem dX1_fewest_45 : decode cX1_fewest 45 = .ok (.iadd, 1) := by decide +kernel
theorem dX1_fewest_46 : decode cX1_fewest 46 = .ok (.istore 5, 2) := by decide +kernel
theorem dX1_fewest_48 : decode cX1_fewest 48 = .ok (.iload_n 3, 1) := by decide +kernel
theorem dX1_fewest_49 : decode cX1_fewest 49 = .ok (.iconst (-1), 1) := by decide +kernel
theorem dX1_fewest_50 : decode cX1_fewest 50 = .ok (.if_icmp .eq 9, 3) := by decide +kernel
theorem dX1_fewest_53 : decode cX1_fewest 53 = .ok (.iload 5, 2) := by decide +kernel
theorem dX1_fewest_55 : decode cX1_fewest 55 = .ok (.iload_n 3, 1) := by decide +kernel
theorem dX1_fewest_56 : decode cX1_fewest 56 = .ok (.if_icmp .ge 8, 3) := by decide +kernel
theorem dX1_fewest_59 : decode cX1_fewest 59 = .ok (.iload 5, 2) := by decide +kernel
theorem dX1_fewest_61 : decode cX1_fewest 61 = .ok (.goto 4, 3) := by decide +kernel
theorem dX1_fewest_64 : decode cX1_fewest 64 = .ok (.iload_n 3, 1) := by decide +kernel
theorem dX1_fewest_65 : decode cX1_fewest 65 = .ok (.istore_n 3, 1) := by decide +kernel
theorem dX1_fewest_66 : decode cX1_fewest 66 = .ok (.iinc 4 1, 3) := by decide +kernel
theorem dX1_fewest_69 : decode cX1_fewest 69 = .ok (.goto (-64), 3) := by decide +kernel
theorem dX1_fewest_72 : decode cX1_fewest 72 = .ok (.iload_n 3, 1) := by decide +kernel
theorem dX1_fewest_73 : decode cX1_fewest 73 = .ok (.ireturn, 1) := by decide +kernel
theorem dX1_lowestNext_0 : decode cX1_lowestNext 0 = .ok (.iconst 0, 1) := by decide +kernel
theorem dX1_lowestNext_1 : decode cX1_lowestNext 1 = .ok (.istore_n 3, 1) := by decide +kernel
theorem dX1_lowestNext_2 : decode cX1_lowestNext 2 = .ok (.iload_n 3, 1) := by decide +kernel
theorem dX1_lowestNext_3 : decode cX1_lowestNext 3 = .ok (.aload_n 0, 1) := by decide +kernel
theorem dX1_lowestNext_4 : decode cX1_lowestNext 4 = .ok (.getfield 9, 3) := by decide +kernel
theorem dX1_lowestNext_7 : decode cX1_lowestNext 7 = .ok (.getfield 42, 3) := by decide +kernel
theorem dX1_lowestNext_10 : decode cX1_lowestNext 10 = .ok (.if_icmp .ge 46, 3) := by decide +kernel
theorem dX1_lowestNext_13 : decode cX1_lowestNext 13 = .ok (.iload_n 2, 1) := by decide +kernel
theorem dX1_lowestNext_14 : decode cX1_lowestNext 14 = .ok (.iload_n 3, 1) := by decide +kernel
theorem dX1_lowestNext_15 : decode cX1_lowestNext 15 = .ok (.ishr, 1) := by decide +kernel
theorem dX1_lowestNext_16 : decode cX1_lowestNext 16 = .ok (.iconst 1, 1) := by decide +kernel
theorem dX1_lowestNext_17 : decode cX1_lowestNext 17 = .ok (.iand, 1) := by decide +kernel
theorem dX1_lowestNext_18 : decode cX1_lowestNext 18 = .ok (.ifCond .ne 32, 3) := by decide +kernel
theorem dX1_lowestNext_21 : decode cX1_lowestNext 21 = .ok (.aload_n 0, 1) := by decide +kernel
theorem dX1_lowestNext_22 : decode cX1_lowestNext 22 = .ok (.aload_n 1, 1) := by decide +kernel
theorem dX1_lowestNext_23 : decode cX1_lowestNext 23 = .ok (.iload_n 2, 1) := by decide +kernel
theorem dX1_lowestNext_24 : decode cX1_lowestNext 24 = .ok (.iload_n 3, 1) := by decide +kernel
theorem dX1_lowestNext_25 : decode cX1_lowestNext 25 = .ok (.invokevirtual 86, 3) := by decide +kernel
theorem dX1_lowestNext_28 : decode cX1_lowestNext 28 = .ok (.aload_n 0, 1) := by decide +kernel
theorem dX1_lowestNext_29 : decode cX1_lowestNext 29 = .ok (.getfield 39, 3) := by decide +kernel
theorem dX1_lowestNext_32 : decode cX1_lowestNext 32 = .ok (.iload_n 2, 1) := by decide +kernel
theorem dX1_lowestNext_33 : decode cX1_lowestNext 33 = .ok (.iconst 1, 1) := by decide +kernel
theorem dX1_lowestNext_34 : decode cX1_lowestNext 34 = .ok (.iload_n 3, 1) := by decide +kernel
theorem dX1_lowestNext_35 : decode cX1_lowestNext 35 = .ok (.ishl, 1) := by decide +kernel
theorem dX1_lowestNext_36 : decode cX1_lowestNext 36 = .ok (.ior, 1) := by decide +kernel
theorem dX1_lowestNext_37 : decode cX1_lowestNext 37 = .ok (.iaload, 1) := by decide +kernel
theorem dX1_lowestNext_38 : decode cX1_lowestNext 38 = .ok (.iadd, 1) := by decide +kernel
theorem dX1_lowestNext_39 : decode cX1_lowestNext 39 = .ok (.aload_n 0, 1) := by decide +kernel
theorem dX1_lowestNext_40 : decode cX1_lowestNext 40 = .ok (.getfield 39, 3) := by decide +kernel
theorem dX1_lowestNext_43 : decode cX1_lowestNext 43 = .ok (.iload_n 2, 1) := by decide +kernel
theorem dX1_lowestNext_44 : decode cX1_lowestNext 44 = .ok (.iaload, 1) := by decide +kernel
theorem dX1_lowestNext_45 : decode cX1_lowestNext 45 = .ok (.if_icmp .ne 5, 3) := by decide +kernel
theorem dX1_lowestNext_48 : decode cX1_lowestNext 48 = .ok (.iload_n 3, 1) := by decide +kernel
theorem dX1_lowestNext_49 : decode cX1_lowestNext 49 = .ok (.ireturn, 1) := by decide +kernel
theorem dX1_lowestNext_50 : decode cX1_lowestNext 50 = .ok (.iinc 3 1, 3) := by decide +kernel
theorem dX1_lowestNext_53 : decode cX1_lowestNext 53 = .ok (.goto (-51), 3) := by decide +kernel
theorem dX1_lowestNext_56 : decode cX1_lowestNext 56 = .ok (.iconst 0, 1) := by decide +kernel
theorem dX1_lowestNext_57 : decode cX1_lowestNext 57 = .ok (.ireturn, 1) := by decide +kernel
theorem dX2_init_0 : decode cX2_init 0 = .ok (.aload_n 0, 1) := by decide +kernel
theorem dX2_init_1 : decode cX2_init 1 = .ok (.invokespecial 3, 3) := by decide +kernel
theorem dX2_init_4 : decode cX2_init 4 = .ok (.aload_n 0, 1) := by decide +kernel
theorem dX2_init_5 : decode cX2_init 5 = .ok (.bipush 12, 2) := by decide +kernel
theorem dX2_init_7 : decode cX2_init 7 = .ok (.newarray .int, 2) := by decide +kernel
theorem dX2_init_9 : decode cX2_init 9 = .ok (.putfield 9, 3) := by decide +kernel
theorem dX2_init_12 : decode cX2_init 12 = .ok (.aload_n 0, 1) := by decide +kernel
theorem dX2_init_13 : decode cX2_init 13 = .ok (.bipush 12, 2) := by decide +kernel
theorem dX2_init_15 : decode cX2_init 15 = .ok (.newarray .int, 2) := by decide +kernel
theorem dX2_init_17 : decode cX2_init 17 = .ok (.putfield 15, 3) := by decide +kernel
theorem dX2_init_20 : decode cX2_init 20 = .ok (.aload_n 0, 1) := by decide +kernel
theorem dX2_init_21 : decode cX2_init 21 = .ok (.bipush 12, 2) := by decide +kernel
theorem dX2_init_23 : decode cX2_init 23 = .ok (.newarray .int, 2) := by decide +kernel
theorem dX2_init_25 : decode cX2_init 25 = .ok (.putfield 18, 3) := by decide +kernel
theorem dX2_init_28 : decode cX2_init 28 = .ok (.return_, 1) := by decide +kernel
theorem dX2_targetOn_0 : decode cX2_targetOn 0 = .ok (.iload_n 2, 1) := by decide +kernel
theorem dX2_targetOn_1 : decode cX2_targetOn 1 = .ok (.aload_n 0, 1) := by decide +kernel
theorem dX2_targetOn_2 : decode cX2_targetOn 2 = .ok (.getfield 9, 3) := by decide +kernel
theorem dX2_targetOn_5 : decode cX2_targetOn 5 = .ok (.iload_n 1, 1) := by decide +kernel
theorem dX2_targetOn_6 : decode cX2_targetOn 6 = .ok (.iaload, 1) := by decide +kernel
theorem dX2_targetOn_7 : decode cX2_targetOn 7 = .ok (.ishr, 1) := by decide +kernel
theorem dX2_targetOn_8 : decode cX2_targetOn 8 = .ok (.iconst 1, 1) := by decide +kernel
theorem dX2_targetOn_9 : decode cX2_targetOn 9 = .ok (.iand, 1) := by decide +kernel
theorem dX2_targetOn_10 : decode cX2_targetOn 10 = .ok (.ifCond .eq 12, 3) := by decide +kernel
theorem dX2_targetOn_13 : decode cX2_targetOn 13 = .ok (.aload_n 0, 1) := by decide +kernel
theorem dX2_targetOn_14 : decode cX2_targetOn 14 = .ok (.getfield 15, 3) := by decide +kernel
theorem dX2_targetOn_17 : decode cX2_targetOn 17 = .ok (.iload_n 1, 1) := by decide +kernel
theorem dX2_targetOn_18 : decode cX2_targetOn 18 = .ok (.iaload, 1) := by decide +kernel
theorem dX2_targetOn_19 : decode cX2_targetOn 19 = .ok (.goto 9, 3) := by decide +kernel
theorem dX2_targetOn_22 : decode cX2_targetOn 22 = .ok (.aload_n 0, 1) := by decide +kernel
theorem dX2_targetOn_23 : decode cX2_targetOn 23 = .ok (.getfield 18, 3) := by decide +kernel
theorem dX2_targetOn_26 : decode cX2_targetOn 26 = .ok (.iload_n 1, 1) := by decide +kernel
theorem dX2_targetOn_27 : decode cX2_targetOn 27 = .ok (.iaload, 1) := by decide +kernel
theorem dX2_targetOn_28 : decode cX2_targetOn 28 = .ok (.ireturn, 1) := by decide +kernel
theorem dX2_lastOn_0 : decode cX2_lastOn 0 = .ok (.iconst 0, 1) := by decide +kernel
theorem dX2_lastOn_1 : decode cX2_lastOn 1 = .ok (.istore_n 2, 1) := by decide +kernel
theorem dX2_lastOn_2 : decode cX2_lastOn 2 = .ok (.iconst 0, 1) := by decide +kernel
theorem dX2_lastOn_3 : decode cX2_lastOn 3 = .ok (.istore_n 3, 1) := by decide +kernel
theorem dX2_lastOn_4 : decode cX2_lastOn 4 = .ok (.iconst 0, 1) := by decide +kernel
theorem dX2_lastOn_5 : decode cX2_lastOn 5 = .ok (.istore 4, 2) := by decide +kernel
theorem dX2_lastOn_7 : decode cX2_lastOn 7 = .ok (.iload 4, 2) := by decide +kernel
theorem dX2_lastOn_9 : decode cX2_lastOn 9 = .ok (.bipush 12, 2) := by decide +kernel
theorem dX2_lastOn_11 : decode cX2_lastOn 11 = .ok (.if_icmp .ge 26, 3) := by decide +kernel
theorem dX2_lastOn_14 : decode cX2_lastOn 14 = .ok (.iload_n 3, 1) := by decide +kernel
theorem dX2_lastOn_15 : decode cX2_lastOn 15 = .ok (.aload_n 0, 1) := by decide +kernel
theorem dX2_lastOn_16 : decode cX2_lastOn 16 = .ok (.getfield 21, 3) := by decide +kernel
theorem dX2_lastOn_19 : decode cX2_lastOn 19 = .ok (.if_icmp .ge 18, 3) := by decide +kernel
theorem dX2_lastOn_22 : decode cX2_lastOn 22 = .ok (.iload_n 3, 1) := by decide +kernel
theorem dX2_lastOn_23 : decode cX2_lastOn 23 = .ok (.istore_n 2, 1) := by decide +kernel
theorem dX2_lastOn_24 : decode cX2_lastOn 24 = .ok (.aload_n 0, 1) := by decide +kernel
theorem dX2_lastOn_25 : decode cX2_lastOn 25 = .ok (.iload_n 3, 1) := by decide +kernel
theorem dX2_lastOn_26 : decode cX2_lastOn 26 = .ok (.iload_n 1, 1) := by decide +kernel
theorem dX2_lastOn_27 : decode cX2_lastOn 27 = .ok (.invokevirtual 25, 3) := by decide +kernel
theorem dX2_lastOn_30 : decode cX2_lastOn 30 = .ok (.istore_n 3, 1) := by decide +kernel
theorem dX2_lastOn_31 : decode cX2_lastOn 31 = .ok (.iinc 4 1, 3) := by decide +kernel
theorem dX2_lastOn_34 : decode cX2_lastOn 34 = .ok (.goto (-27), 3) := by decide +kernel
theorem dX2_lastOn_37 : decode cX2_lastOn 37 = .ok (.iload_n 2, 1) := by decide +kernel
theorem dX2_lastOn_38 : decode cX2_lastOn 38 = .ok (.ireturn, 1) := by decide +kernel
theorem dX2_outcomeOn_0 : decode cX2_outcomeOn 0 = .ok (.aload_n 0, 1) := by decide +kernel
theorem dX2_outcomeOn_1 : decode cX2_outcomeOn 1 = .ok (.aload_n 0, 1) := by decide +kernel
theorem dX2_outcomeOn_2 : decode cX2_outcomeOn 2 = .ok (.iload_n 1, 1) := by decide +kernel
theorem dX2_outcomeOn_3 : decode cX2_outcomeOn 3 = .ok (.invokevirtual 29, 3) := by decide +kernel
theorem dX2_outcomeOn_6 : decode cX2_outcomeOn 6 = .ok (.iload_n 1, 1) := by decide +kernel
theorem dX2_outcomeOn_7 : decode cX2_outcomeOn 7 = .ok (.invokevirtual 25, 3) := by decide +kernel
theorem dX2_outcomeOn_10 : decode cX2_outcomeOn 10 = .ok (.bipush 13, 2) := by decide +kernel
theorem dX2_outcomeOn_12 : decode cX2_outcomeOn 12 = .ok (.isub, 1) := by decide +kernel
theorem dX2_outcomeOn_13 : decode cX2_outcomeOn 13 = .ok (.ireturn, 1) := by decide +kernel
theorem dX2_nodesOn_0 : decode cX2_nodesOn 0 = .ok (.iconst 0, 1) := by decide +kernel
theorem dX2_nodesOn_1 : decode cX2_nodesOn 1 = .ok (.istore_n 2, 1) := by decide +kernel
theorem dX2_nodesOn_2 : decode cX2_nodesOn 2 = .ok (.iconst 0, 1) := by decide +kernel
theorem dX2_nodesOn_3 : decode cX2_nodesOn 3 = .ok (.istore_n 3, 1) := by decide +kernel
theorem dX2_nodesOn_4 : decode cX2_nodesOn 4 = .ok (.iconst 0, 1) := by decide +kernel
theorem dX2_nodesOn_5 : decode cX2_nodesOn 5 = .ok (.istore 4, 2) := by decide +kernel
theorem dX2_nodesOn_7 : decode cX2_nodesOn 7 = .ok (.iload 4, 2) := by decide +kernel
theorem dX2_nodesOn_9 : decode cX2_nodesOn 9 = .ok (.bipush 12, 2) := by decide +kernel
theorem dX2_nodesOn_11 : decode cX2_nodesOn 11 = .ok (.if_icmp .ge 30, 3) := by decide +kernel
theorem dX2_nodesOn_14 : decode cX2_nodesOn 14 = .ok (.iload_n 3, 1) := by decide +kernel
theorem dX2_nodesOn_15 : decode cX2_nodesOn 15 = .ok (.aload_n 0, 1) := by decide +kernel
theorem dX2_nodesOn_16 : decode cX2_nodesOn 16 = .ok (.getfield 21, 3) := by decide +kernel
theorem dX2_nodesOn_19 : decode cX2_nodesOn 19 = .ok (.if_icmp .ge 22, 3) := by decide +kernel
theorem dX2_nodesOn_22 : decode cX2_nodesOn 22 = .ok (.iload_n 2, 1) := by decide +kernel
theorem dX2_nodesOn_23 : decode cX2_nodesOn 23 = .ok (.iconst 1, 1) := by decide +kernel
theorem dX2_nodesOn_24 : decode cX2_nodesOn 24 = .ok (.iload_n 3, 1) := by decide +kernel
theorem dX2_nodesOn_25 : decode cX2_nodesOn 25 = .ok (.ishl, 1) := by decide +kernel
theorem dX2_nodesOn_26 : decode cX2_nodesOn 26 = .ok (.ior, 1) := by decide +kernel
theorem dX2_nodesOn_27 : decode cX2_nodesOn 27 = .ok (.istore_n 2, 1) := by decide +kernel
theorem dX2_nodesOn_28 : decode cX2_nodesOn 28 = .ok (.aload_n 0, 1) := by decide +kernel
theorem dX2_nodesOn_29 : decode cX2_nodesOn 29 = .ok (.iload_n 3, 1) := by decide +kernel
theorem dX2_nodesOn_30 : decode cX2_nodesOn 30 = .ok (.iload_n 1, 1) := by decide +kernel
theorem dX2_nodesOn_31 : decode cX2_nodesOn 31 = .ok (.invokevirtual 25, 3) := by decide +kernel
theorem dX2_nodesOn_34 : decode cX2_nodesOn 34 = .ok (.istore_n 3, 1) := by decide +kernel
theorem dX2_nodesOn_35 : decode cX2_nodesOn 35 = .ok (.iinc 4 1, 3) := by decide +kernel
theorem dX2_nodesOn_38 : decode cX2_nodesOn 38 = .ok (.goto (-31), 3) := by decide +kernel
theorem dX2_nodesOn_41 : decode cX2_nodesOn 41 = .ok (.iload_n 2, 1) := by decide +kernel
theorem dX2_nodesOn_42 : decode cX2_nodesOn 42 = .ok (.ireturn, 1) := by decide +kernel
theorem dX3_init_0 : decode cX3_init 0 = .ok (.aload_n 0, 1) := by decide +kernel
theorem dX3_init_1 : decode cX3_init 1 = .ok (.invokespecial 1, 3) := by decide +kernel
theorem dX3_init_4 : decode cX3_init 4 = .ok (.aload_n 0, 1) := by decide +kernel
theorem dX3_init_5 : decode cX3_init 5 = .ok (.iload_n 1, 1) := by decide +kernel
theorem dX3_init_6 : decode cX3_init 6 = .ok (.putfield 7, 3) := by decide +kernel
theorem dX3_init_9 : decode cX3_init 9 = .ok (.aload_n 0, 1) := by decide +kernel
theorem dX3_init_10 : decode cX3_init 10 = .ok (.iconst 1, 1) := by decide +kernel
theorem dX3_init_11 : decode cX3_init 11 = .ok (.iload_n 1, 1) := by decide +kernel
theorem dX3_init_12 : decode cX3_init 12 = .ok (.ishl, 1) := by decide +kernel
theorem dX3_init_13 : decode cX3_init 13 = .ok (.putfield 13, 3) := by decide +kernel
theorem dX3_init_16 : decode cX3_init 16 = .ok (.aload_n 0, 1) := by decide +kernel
theorem dX3_init_17 : decode cX3_init 17 = .ok (.aload_n 0, 1) := by decide +kernel
theorem dX3_init_18 : decode cX3_init 18 = .ok (.getfield 13, 3) := by decide +kernel
theorem dX3_init_21 : decode cX3_init 21 = .ok (.iconst 1, 1) := by decide +kernel
theorem dX3_init_22 : decode cX3_init 22 = .ok (.isub, 1) := by decide +kernel
theorem dX3_init_23 : decode cX3_init 23 = .ok (.putfield 16, 3) := by decide +kernel
theorem dX3_init_26 : decode cX3_init 26 = .ok (.aload_n 0, 1) := by decide +kernel
theorem dX3_init_27 : decode cX3_init 27 = .ok (.iload_n 1, 1) := by decide +kernel
theorem dX3_init_28 : decode cX3_init 28 = .ok (.newarray .int, 2) := by decide +kernel
theorem dX3_init_30 : decode cX3_init 30 = .ok (.putfield 19, 3) := by decide +kernel
theorem dX3_init_33 : decode cX3_init 33 = .ok (.aload_n 0, 1) := by decide +kernel
theorem dX3_init_34 : decode cX3_init 34 = .ok (.aload_n 0, 1) := by decide +kernel
theorem dX3_init_35 : decode cX3_init 35 = .ok (.getfield 13, 3) := by decide +kernel
theorem dX3_init_38 : decode cX3_init 38 = .ok (.newarray .int, 2) := by decide +kernel
theorem dX3_init_40 : decode cX3_init 40 = .ok (.putfield 23, 3) := by decide +kernel
theorem dX3_init_43 : decode cX3_init 43 = .ok (.iconst 1, 1) := by decide +kernel
theorem dX3_init_44 : decode cX3_init 44 = .ok (.istore_n 2, 1) := by decide +kernel
theorem dX3_init_45 : decode cX3_init 45 = .ok (.iconst 0, 1) := by decide +kernel
theorem dX3_init_46 : decode cX3_init 46 = .ok (.istore_n 3, 1) := by decide +kernel
theorem dX3_init_47 : decode cX3_init 47 = .ok (.iload_n 3, 1) := by decide +kernel
theorem dX3_init_48 : decode cX3_init 48 = .ok (.iload_n 1, 1) := by decide +kernel
theorem dX3_init_49 : decode cX3_init 49 = .ok (.if_icmp .ge 57, 3) := by decide +kernel
theorem dX3_init_52 : decode cX3_init 52 = .ok (.aload_n 0, 1) := by decide +kernel
theorem dX3_init_53 : decode cX3_init 53 = .ok (.getfield 19, 3) := by decide +kernel
theorem dX3_init_56 : decode cX3_init 56 = .ok (.iload_n 3, 1) := by decide +kernel
theorem dX3_init_57 : decode cX3_init 57 = .ok (.iload_n 2, 1) := by decide +kernel
theorem dX3_init_58 : decode cX3_init 58 = .ok (.iastore, 1) := by decide +kernel
theorem dX3_init_59 : decode cX3_init 59 = .ok (.iconst 0, 1) := by decide +kernel
theorem dX3_init_60 : decode cX3_init 60 = .ok (.istore 4, 2) := by decide +kernel
theorem dX3_init_62 : decode cX3_init 62 = .ok (.iload 4, 2) := by decide +kernel
theorem dX3_init_64 : decode cX3_init 64 = .ok (.iconst 1, 1) := by decide +kernel
theorem dX3_init_65 : decode cX3_init 65 = .ok (.iload_n 3, 1) := by decide +kernel
theorem dX3_init_66 : decode cX3_init 66 = .ok (.ishl, 1) := by decide +kernel
theorem dX3_init_67 : decode cX3_init 67 = .ok (.if_icmp .ge 29, 3) := by decide +kernel
theorem dX3_init_70 : decode cX3_init 70 = .ok (.aload_n 0, 1) := by decide +kernel
theorem dX3_init_71 : decode cX3_init 71 = .ok (.getfield 23, 3) := by decide +kernel
theorem dX3_init_74 : decode cX3_init 74 = .ok (.iconst 1, 1) := by decide +kernel
theorem dX3_init_75 : decode cX3_init 75 = .ok (.iload_n 3, 1) := by decide +kernel
theorem dX3_init_76 : decode cX3_init 76 = .ok (.ishl, 1) := by decide +kernel
theorem dX3_init_77 : decode cX3_init 77 = .ok (.iload 4, 2) := by decide +kernel
theorem dX3_init_79 : decode cX3_init 79 = .ok (.ior, 1) := by decide +kernel
theorem dX3_init_80 : decode cX3_init 80 = .ok (.aload_n 0, 1) := by decide +kernel
theorem dX3_init_81 : decode cX3_init 81 = .ok (.getfield 23, 3) := by decide +kernel
theorem dX3_init_84 : decode cX3_init 84 = .ok (.iload 4, 2) := by decide +kernel
theorem dX3_init_86 : decode cX3_init 86 = .ok (.iaload, 1) := by decide +kernel
theorem dX3_init_87 : decode cX3_init 87 = .ok (.iload_n 2, 1) := by decide +kernel
theorem dX3_init_88 : decode cX3_init 88 = .ok (.iadd, 1) := by decide +kernel
theorem dX3_init_89 : decode cX3_init 89 = .ok (.iastore, 1) := by decide +kernel
theorem dX3_init_90 : decode cX3_init 90 = .ok (.iinc 4 1, 3) := by decide +kernel
theorem dX3_init_93 : decode cX3_init 93 = .ok (.goto (-31), 3) := by decide +kernel
theorem dX3_init_96 : decode cX3_init 96 = .ok (.iload_n 2, 1) := by decide +kernel
theorem dX3_init_97 : decode cX3_init 97 = .ok (.iconst 3, 1) := by decide +kernel
theorem dX3_init_98 : decode cX3_init 98 = .ok (.imul, 1) := by decide +kernel
theorem dX3_init_99 : decode cX3_init 99 = .ok (.istore_n 2, 1) := by decide +kernel
theorem dX3_init_100 : decode cX3_init 100 = .ok (.iinc 3 1, 3) := by decide +kernel
theorem dX3_init_103 : decode cX3_init 103 = .ok (.goto (-56), 3) := by decide +kernel
theorem dX3_init_106 : decode cX3_init 106 = .ok (.aload_n 0, 1) := by decide +kernel
theorem dX3_init_107 : decode cX3_init 107 = .ok (.iload_n 2, 1) := by decide +kernel
theorem dX3_init_108 : decode cX3_init 108 = .ok (.putfield 26, 3) := by decide +kernel
theorem dX3_init_111 : decode cX3_init 111 = .ok (.return_, 1) := by decide +kernel
theorem dX3_isFact_0 : decode cX3_isFact 0 = .ok (.iload_n 1, 1) := by decide +kernel
theorem dX3_isFact_1 : decode cX3_isFact 1 = .ok (.ifCond .lt 15, 3) := by decide +kernel
theorem dX3_isFact_4 : decode cX3_isFact 4 = .ok (.iload_n 1, 1) := by decide +kernel
theorem dX3_isFact_5 : decode cX3_isFact 5 = .ok (.aload_n 0, 1) := by decide +kernel
theorem dX3_isFact_6 : decode cX3_isFact 6 = .ok (.getfield 7, 3) := by decide +kernel
theorem dX3_isFact_9 : decode cX3_isFact 9 = .ok (.if_icmp .ge 7, 3) := by decide +kernel
theorem dX3_isFact_12 : decode cX3_isFact 12 = .ok (.iconst 1, 1) := by decide +kernel
theorem dX3_isFact_13 : decode cX3_isFact 13 = .ok (.goto 4, 3) := by decide +kernel
theorem dX3_isFact_16 : decode cX3_isFact 16 = .ok (.iconst 0, 1) := by decide +kernel
theorem dX3_isFact_17 : decode cX3_isFact 17 = .ok (.ireturn, 1) := by decide +kernel
theorem dX3_isCase_0 : decode cX3_isCase 0 = .ok (.iload_n 1, 1) := by decide +kernel
theorem dX3_isCase_1 : decode cX3_isCase 1 = .ok (.ifCond .lt 15, 3) := by decide +kernel
theorem dX3_isCase_4 : decode cX3_isCase 4 = .ok (.iload_n 1, 1) := by decide +kernel
theorem dX3_isCase_5 : decode cX3_isCase 5 = .ok (.aload_n 0, 1) := by decide +kernel
theorem dX3_isCase_6 : decode cX3_isCase 6 = .ok (.getfield 16, 3) := by decide +kernel
theorem dX3_isCase_9 : decode cX3_isCase 9 = .ok (.if_icmp .gt 7, 3) := by decide +kernel
theorem dX3_isCase_12 : decode cX3_isCase 12 = .ok (.iconst 1, 1) := by decide +kernel
theorem dX3_isCase_13 : decode cX3_isCase 13 = .ok (.goto 4, 3) := by decide +kernel
theorem dX3_isCase_16 : decode cX3_isCase 16 = .ok (.iconst 0, 1) := by decide +kernel
theorem dX3_isCase_17 : decode cX3_isCase 17 = .ok (.ireturn, 1) := by decide +kernel
theorem dX3_isKnown_0 : decode cX3_isKnown 0 = .ok (.aload_n 0, 1) := by decide +kernel
theorem dX3_isKnown_1 : decode cX3_isKnown 1 = .ok (.iload_n 1, 1) := by decide +kernel
theorem dX3_isKnown_2 : decode cX3_isKnown 2 = .ok (.invokevirtual 29, 3) := by decide +kernel
theorem dX3_isKnown_5 : decode cX3_isKnown 5 = .ok (.ifCond .eq 15, 3) := by decide +kernel
theorem dX3_isKnown_8 : decode cX3_isKnown 8 = .ok (.iload_n 2, 1) := by decide +kernel
theorem dX3_isKnown_9 : decode cX3_isKnown 9 = .ok (.iload_n 1, 1) := by decide +kernel
theorem dX3_isKnown_10 : decode cX3_isKnown 10 = .ok (.iconst (-1), 1) := by decide +kernel
theorem dX3_isKnown_11 : decode cX3_isKnown 11 = .ok (.ixor, 1) := by decide +kernel
theorem dX3_isKnown_12 : decode cX3_isKnown 12 = .ok (.iand, 1) := by decide +kernel
theorem dX3_isKnown_13 : decode cX3_isKnown 13 = .ok (.ifCond .ne 7, 3) := by decide +kernel
theorem dX3_isKnown_16 : decode cX3_isKnown 16 = .ok (.iconst 1, 1) := by decide +kernel
theorem dX3_isKnown_17 : decode cX3_isKnown 17 = .ok (.goto 4, 3) := by decide +kernel
theorem dX3_isKnown_20 : decode cX3_isKnown 20 = .ok (.iconst 0, 1) := by decide +kernel
theorem dX3_isKnown_21 : decode cX3_isKnown 21 = .ok (.ireturn, 1) := by decide +kernel
theorem dX3_place_0 : decode cX3_place 0 = .ok (.aload_n 0, 1) := by decide +kernel
theorem dX3_place_1 : decode cX3_place 1 = .ok (.getfield 23, 3) := by decide +kernel
theorem dX3_place_4 : decode cX3_place 4 = .ok (.iload_n 1, 1) := by decide +kernel
theorem dX3_place_5 : decode cX3_place 5 = .ok (.iaload, 1) := by decide +kernel
theorem dX3_place_6 : decode cX3_place 6 = .ok (.aload_n 0, 1) := by decide +kernel
theorem dX3_place_7 : decode cX3_place 7 = .ok (.getfield 23, 3) := by decide +kernel
theorem dX3_place_10 : decode cX3_place 10 = .ok (.iload_n 2, 1) := by decide +kernel
theorem dX3_place_11 : decode cX3_place 11 = .ok (.iaload, 1) := by decide +kernel
theorem dX3_place_12 : decode cX3_place 12 = .ok (.iadd, 1) := by decide +kernel
theorem dX3_place_13 : decode cX3_place 13 = .ok (.ireturn, 1) := by decide +kernel
theorem dX4_init_0 : decode cX4_init 0 = .ok (.aload_n 0, 1) := by decide +kernel
theorem dX4_init_1 : decode cX4_init 1 = .ok (.invokespecial 3, 3) := by decide +kernel
theorem dX4_init_4 : decode cX4_init 4 = .ok (.aload_n 0, 1) := by decide +kernel
theorem dX4_init_5 : decode cX4_init 5 = .ok (.bipush 12, 2) := by decide +kernel
theorem dX4_init_7 : decode cX4_init 7 = .ok (.newarray .int, 2) := by decide +kernel
theorem dX4_init_9 : decode cX4_init 9 = .ok (.putfield 9, 3) := by decide +kernel
theorem dX4_init_12 : decode cX4_init 12 = .ok (.aload_n 0, 1) := by decide +kernel
theorem dX4_init_13 : decode cX4_init 13 = .ok (.iconst (-1), 1) := by decide +kernel
theorem dX4_init_14 : decode cX4_init 14 = .ok (.putfield 15, 3) := by decide +kernel
theorem dX4_init_17 : decode cX4_init 17 = .ok (.aload_n 0, 1) := by decide +kernel
theorem dX4_init_18 : decode cX4_init 18 = .ok (.iconst (-1), 1) := by decide +kernel
theorem dX4_init_19 : decode cX4_init 19 = .ok (.putfield 19, 3) := by decide +kernel
theorem dX4_init_22 : decode cX4_init 22 = .ok (.aload_n 0, 1) := by decide +kernel
theorem dX4_init_23 : decode cX4_init 23 = .ok (.iload_n 1, 1) := by decide +kernel
theorem dX4_init_24 : decode cX4_init 24 = .ok (.putfield 22, 3) := by decide +kernel
theorem dX4_init_27 : decode cX4_init 27 = .ok (.aload_n 0, 1) := by decide +kernel
theorem dX4_init_28 : decode cX4_init 28 = .ok (.iload_n 2, 1) := by decide +kernel
theorem dX4_init_29 : decode cX4_init 29 = .ok (.newarray .int, 2) := by decide +kernel
theorem dX4_init_31 : decode cX4_init 31 = .ok (.putfield 25, 3) := by decide +kernel
theorem dX4_init_34 : decode cX4_init 34 = .ok (.aload_n 0, 1) := by decide +kernel
theorem dX4_init_35 : decode cX4_init 35 = .ok (.iload_n 2, 1) := by decide +kernel
theorem dX4_init_36 : decode cX4_init 36 = .ok (.newarray .int, 2) := by decide +kernel
theorem dX4_init_38 : decode cX4_init 38 = .ok (.putfield 28, 3) := by decide +kernel
theorem dX4_init_41 : decode cX4_init 41 = .ok (.aload_n 0, 1) := by decide +kernel
theorem dX4_init_42 : decode cX4_init 42 = .ok (.iload_n 3, 1) := by decide +kernel
theorem dX4_init_43 : decode cX4_init 43 = .ok (.newarray .int, 2) := by decide +kernel
theorem dX4_init_45 : decode cX4_init 45 = .ok (.putfield 31, 3) := by decide +kernel
theorem dX4_init_48 : decode cX4_init 48 = .ok (.return_, 1) := by decide +kernel
theorem dX4_outcomeOf_0 : decode cX4_outcomeOf 0 = .ok (.iload_n 1, 1) := by decide +kernel
theorem dX4_outcomeOf_1 : decode cX4_outcomeOf 1 = .ok (.invokestatic 34, 3) := by decide +kernel
theorem dX4_outcomeOf_4 : decode cX4_outcomeOf 4 = .ok (.istore_n 2, 1) := by decide +kernel
theorem dX4_outcomeOf_5 : decode cX4_outcomeOf 5 = .ok (.iload_n 2, 1) := by decide +kernel
theorem dX4_outcomeOf_6 : decode cX4_outcomeOf 6 = .ok (.aload_n 0, 1) := by decide +kernel
theorem dX4_outcomeOf_7 : decode cX4_outcomeOf 7 = .ok (.getfield 22, 3) := by decide +kernel
theorem dX4_outcomeOf_10 : decode cX4_outcomeOf 10 = .ok (.if_icmp .ge 12, 3) := by decide +kernel
theorem dX4_outcomeOf_13 : decode cX4_outcomeOf 13 = .ok (.aload_n 0, 1) := by decide +kernel
theorem dX4_outcomeOf_14 : decode cX4_outcomeOf 14 = .ok (.getfield 9, 3) := by decide +kernel
theorem dX4_outcomeOf_17 : decode cX4_outcomeOf 17 = .ok (.iload_n 2, 1) := by decide +kernel
theorem dX4_outcomeOf_18 : decode cX4_outcomeOf 18 = .ok (.iaload, 1) := by decide +kernel
theorem dX4_outcomeOf_19 : decode cX4_outcomeOf 19 = .ok (.goto 4, 3) := by decide +kernel
theorem dX4_outcomeOf_22 : decode cX4_outcomeOf 22 = .ok (.iconst (-1), 1) := by decide +kernel
theorem dX4_outcomeOf_23 : decode cX4_outcomeOf 23 = .ok (.ireturn, 1) := by decide +kernel
theorem dX4_clashes_0 : decode cX4_clashes 0 = .ok (.iconst 0, 1) := by decide +kernel
theorem dX4_clashes_1 : decode cX4_clashes 1 = .ok (.istore_n 2, 1) := by decide +kernel
theorem dX4_clashes_2 : decode cX4_clashes 2 = .ok (.iload_n 2, 1) := by decide +kernel
theorem dX4_clashes_3 : decode cX4_clashes 3 = .ok (.aload_n 0, 1) := by decide +kernel
theorem dX4_clashes_4 : decode cX4_clashes 4 = .ok (.getfield 22, 3) := by decide +kernel
theorem dX4_clashes_7 : decode cX4_clashes 7 = .ok (.if_icmp .ge 39, 3) := by decide +kernel
theorem dX4_clashes_10 : decode cX4_clashes 10 = .ok (.aload_n 0, 1) := by decide +kernel
theorem dX4_clashes_11 : decode cX4_clashes 11 = .ok (.getfield 25, 3) := by decide +kernel
theorem dX4_clashes_14 : decode cX4_clashes 14 = .ok (.iload_n 1, 1) := by decide +kernel
theorem dX4_clashes_15 : decode cX4_clashes 15 = .ok (.iaload, 1) := by decide +kernel
theorem dX4_clashes_16 : decode cX4_clashes 16 = .ok (.iload_n 2, 1) := by decide +kernel
theorem dX4_clashes_17 : decode cX4_clashes 17 = .ok (.ishr, 1) := by decide +kernel
theorem dX4_clashes_18 : decode cX4_clashes 18 = .ok (.iconst 1, 1) := by decide +kernel
theorem dX4_clashes_19 : decode cX4_clashes 19 = .ok (.iand, 1) := by decide +kernel
theorem dX4_clashes_20 : decode cX4_clashes 20 = .ok (.ifCond .eq 20, 3) := by decide +kernel
theorem dX4_clashes_23 : decode cX4_clashes 23 = .ok (.aload_n 0, 1) := by decide +kernel
theorem dX4_clashes_24 : decode cX4_clashes 24 = .ok (.getfield 9, 3) := by decide +kernel
theorem dX4_clashes_27 : decode cX4_clashes 27 = .ok (.iload_n 2, 1) := by decide +kernel
theorem dX4_clashes_28 : decode cX4_clashes 28 = .ok (.iaload, 1) := by decide +kernel
theorem dX4_clashes_29 : decode cX4_clashes 29 = .ok (.aload_n 0, 1) := by decide +kernel
theorem dX4_clashes_30 : decode cX4_clashes 30 = .ok (.getfield 28, 3) := by decide +kernel
theorem dX4_clashes_33 : decode cX4_clashes 33 = .ok (.iload_n 1, 1) := by decide +kernel
theorem dX4_clashes_34 : decode cX4_clashes 34 = .ok (.iaload, 1) := by decide +kernel
theorem dX4_clashes_35 : decode cX4_clashes 35 = .ok (.if_icmp .eq 5, 3) := by decide +kernel
theorem dX4_clashes_38 : decode cX4_clashes 38 = .ok (.iconst 1, 1) := by decide +kernel
theorem dX4_clashes_39 : decode cX4_clashes 39 = .ok (.ireturn, 1) := by decide +kernel
theorem dX4_clashes_40 : decode cX4_clashes 40 = .ok (.iinc 2 1, 3) := by decide +kernel
theorem dX4_clashes_43 : decode cX4_clashes 43 = .ok (.goto (-41), 3) := by decide +kernel
theorem dX4_clashes_46 : decode cX4_clashes 46 = .ok (.iconst 0, 1) := by decide +kernel
theorem dX4_clashes_47 : decode cX4_clashes 47 = .ok (.ireturn, 1) := by decide +kernel
theorem dX4_isSureAt_0 : decode cX4_isSureAt 0 = .ok (.aload_n 0, 1) := by decide +kernel
theorem dX4_isSureAt_1 : decode cX4_isSureAt 1 = .ok (.getfield 31, 3) := by decide +kernel
theorem dX4_isSureAt_4 : decode cX4_isSureAt 4 = .ok (.iload_n 1, 1) := by decide +kernel
theorem dX4_isSureAt_5 : decode cX4_isSureAt 5 = .ok (.iaload, 1) := by decide +kernel
theorem dX4_isSureAt_6 : decode cX4_isSureAt 6 = .ok (.bipush 7, 2) := by decide +kernel
theorem dX4_isSureAt_8 : decode cX4_isSureAt 8 = .ok (.if_icmp .ge 7, 3) := by decide +kernel
theorem dX4_isSureAt_11 : decode cX4_isSureAt 11 = .ok (.iconst 1, 1) := by decide +kernel
theorem dX4_isSureAt_12 : decode cX4_isSureAt 12 = .ok (.goto 4, 3) := by decide +kernel
theorem dX4_isSureAt_15 : decode cX4_isSureAt 15 = .ok (.iconst 0, 1) := by decide +kernel
theorem dX4_isSureAt_16 : decode cX4_isSureAt 16 = .ok (.ireturn, 1) := by decide +kernel
theorem dX4_sureAt_0 : decode cX4_sureAt 0 = .ok (.aload_n 0, 1) := by decide +kernel
theorem dX4_sureAt_1 : decode cX4_sureAt 1 = .ok (.iload_n 1, 1) := by decide +kernel
theorem dX4_sureAt_2 : decode cX4_sureAt 2 = .ok (.invokevirtual 38, 3) := by decide +kernel
theorem dX4_sureAt_5 : decode cX4_sureAt 5 = .ok (.ifCond .eq 14, 3) := by decide +kernel
theorem dX4_sureAt_8 : decode cX4_sureAt 8 = .ok (.aload_n 0, 1) := by decide +kernel
theorem dX4_sureAt_9 : decode cX4_sureAt 9 = .ok (.getfield 31, 3) := by decide +kernel
theorem dX4_sureAt_12 : decode cX4_sureAt 12 = .ok (.iload_n 1, 1) := by decide +kernel
theorem dX4_sureAt_13 : decode cX4_sureAt 13 = .ok (.iaload, 1) := by decide +kernel
theorem dX4_sureAt_14 : decode cX4_sureAt 14 = .ok (.iconst 1, 1) := by decide +kernel
theorem dX4_sureAt_15 : decode cX4_sureAt 15 = .ok (.isub, 1) := by decide +kernel
theorem dX4_sureAt_16 : decode cX4_sureAt 16 = .ok (.goto 5, 3) := by decide +kernel
theorem dX4_sureAt_19 : decode cX4_sureAt 19 = .ok (.bipush (-2), 2) := by decide +kernel
theorem dX4_sureAt_21 : decode cX4_sureAt 21 = .ok (.ireturn, 1) := by decide +kernel
theorem dX5_init_0 : decode cX5_init 0 = .ok (.aload_n 0, 1) := by decide +kernel
theorem dX5_init_1 : decode cX5_init 1 = .ok (.invokespecial 3, 3) := by decide +kernel
theorem dX5_init_4 : decode cX5_init 4 = .ok (.aload_n 0, 1) := by decide +kernel
theorem dX5_init_5 : decode cX5_init 5 = .ok (.iconst 4, 1) := by decide +kernel
theorem dX5_init_6 : decode cX5_init 6 = .ok (.newarray .int, 2) := by decide +kernel
theorem dX5_init_8 : decode cX5_init 8 = .ok (.putfield 9, 3) := by decide +kernel
theorem dX5_init_11 : decode cX5_init 11 = .ok (.aload_n 0, 1) := by decide +kernel
theorem dX5_init_12 : decode cX5_init 12 = .ok (.iload_n 1, 1) := by decide +kernel
theorem dX5_init_13 : decode cX5_init 13 = .ok (.putfield 15, 3) := by decide +kernel
theorem dX5_init_16 : decode cX5_init 16 = .ok (.aload_n 0, 1) := by decide +kernel
theorem dX5_init_17 : decode cX5_init 17 = .ok (.iconst 4, 1) := by decide +kernel
theorem dX5_init_18 : decode cX5_init 18 = .ok (.iload_n 1, 1) := by decide +kernel
theorem dX5_init_19 : decode cX5_init 19 = .ok (.multianewarray 19 2, 4) := by decide +kernel
theorem dX5_init_23 : decode cX5_init 23 = .ok (.putfield 21, 3) := by decide +kernel
theorem dX5_init_26 : decode cX5_init 26 = .ok (.iconst 0, 1) := by decide +kernel
theorem dX5_init_27 : decode cX5_init 27 = .ok (.istore_n 2, 1) := by decide +kernel
theorem dX5_init_28 : decode cX5_init 28 = .ok (.iload_n 2, 1) := by decide +kernel
theorem dX5_init_29 : decode cX5_init 29 = .ok (.iconst 4, 1) := by decide +kernel
theorem dX5_init_30 : decode cX5_init 30 = .ok (.if_icmp .ge 31, 3) := by decide +kernel
theorem dX5_init_33 : decode cX5_init 33 = .ok (.iconst 0, 1) := by decide +kernel
theorem dX5_init_34 : decode cX5_init 34 = .ok (.istore_n 3, 1) := by decide +kernel
theorem dX5_init_35 : decode cX5_init 35 = .ok (.iload_n 3, 1) := by decide +kernel
theorem dX5_init_36 : decode cX5_init 36 = .ok (.iload_n 1, 1) := by decide +kernel
theorem dX5_init_37 : decode cX5_init 37 = .ok (.if_icmp .ge 18, 3) := by decide +kernel
theorem dX5_init_40 : decode cX5_init 40 = .ok (.aload_n 0, 1) := by decide +kernel
theorem dX5_init_41 : decode cX5_init 41 = .ok (.getfield 21, 3) := by decide +kernel
theorem dX5_init_44 : decode cX5_init 44 = .ok (.iload_n 2, 1) := by decide +kernel
theorem dX5_init_45 : decode cX5_init 45 = .ok (.aaload, 1) := by decide +kernel
theorem dX5_init_46 : decode cX5_init 46 = .ok (.iload_n 3, 1) := by decide +kernel
theorem dX5_init_47 : decode cX5_init 47 = .ok (.iconst 5, 1) := by decide +kernel
theorem dX5_init_48 : decode cX5_init 48 = .ok (.iastore, 1) := by decide +kernel
theorem dX5_init_49 : decode cX5_init 49 = .ok (.iinc 3 1, 3) := by decide +kernel
theorem dX5_init_52 : decode cX5_init 52 = .ok (.goto (-17), 3) := by decide +kernel
theorem dX5_init_55 : decode cX5_init 55 = .ok (.iinc 2 1, 3) := by decide +kernel
theorem dX5_init_58 : decode cX5_init 58 = .ok (.goto (-30), 3) := by decide +kernel
theorem dX5_init_61 : decode cX5_init 61 = .ok (.return_, 1) := by decide +kernel
theorem dX5_added_0 : decode cX5_added 0 = .ok (.iload_n 1, 1) := by decide +kernel
theorem dX5_added_1 : decode cX5_added 1 = .ok (.iconst 1, 1) := by decide +kernel
theorem dX5_added_2 : decode cX5_added 2 = .ok (.if_icmp .lt 17, 3) := by decide +kernel
theorem dX5_added_5 : decode cX5_added 5 = .ok (.iload_n 1, 1) := by decide +kernel
theorem dX5_added_6 : decode cX5_added 6 = .ok (.bipush 9, 2) := by decide +kernel
theorem dX5_added_8 : decode cX5_added 8 = .ok (.if_icmp .gt 11, 3) := by decide +kernel
theorem dX5_added_11 : decode cX5_added 11 = .ok (.aload_n 0, 1) := by decide +kernel
theorem dX5_added_12 : decode cX5_added 12 = .ok (.getfield 24, 3) := by decide +kernel
theorem dX5_added_15 : decode cX5_added 15 = .ok (.iconst 4, 1) := by decide +kernel
theorem dX5_added_16 : decode cX5_added 16 = .ok (.if_icmp .lt 5, 3) := by decide +kernel
theorem dX5_added_19 : decode cX5_added 19 = .ok (.iconst (-1), 1) := by decide +kernel
theorem dX5_added_20 : decode cX5_added 20 = .ok (.ireturn, 1) := by decide +kernel
theorem dX5_added_21 : decode cX5_added 21 = .ok (.aload_n 0, 1) := by decide +kernel
theorem dX5_added_22 : decode cX5_added 22 = .ok (.getfield 9, 3) := by decide +kernel
theorem dX5_added_25 : decode cX5_added 25 = .ok (.aload_n 0, 1) := by decide +kernel
theorem dX5_added_26 : decode cX5_added 26 = .ok (.getfield 24, 3) := by decide +kernel
theorem dX5_added_29 : decode cX5_added 29 = .ok (.iload_n 1, 1) := by decide +kernel
theorem dX5_added_30 : decode cX5_added 30 = .ok (.iastore, 1) := by decide +kernel
theorem dX5_added_31 : decode cX5_added 31 = .ok (.aload_n 0, 1) := by decide +kernel
theorem dX5_added_32 : decode cX5_added 32 = .ok (.dup, 1) := by decide +kernel
theorem dX5_added_33 : decode cX5_added 33 = .ok (.getfield 24, 3) := by decide +kernel
theorem dX5_added_36 : decode cX5_added 36 = .ok (.dup_x1, 1) := by decide +kernel
theorem dX5_added_37 : decode cX5_added 37 = .ok (.iconst 1, 1) := by decide +kernel
theorem dX5_added_38 : decode cX5_added 38 = .ok (.iadd, 1) := by decide +kernel
theorem dX5_added_39 : decode cX5_added 39 = .ok (.putfield 24, 3) := by decide +kernel
theorem dX5_added_42 : decode cX5_added 42 = .ok (.ireturn, 1) := by decide +kernel
theorem dX5_setChance_0 : decode cX5_setChance 0 = .ok (.iload_n 1, 1) := by decide +kernel
theorem dX5_setChance_1 : decode cX5_setChance 1 = .ok (.ifCond .lt 33, 3) := by decide +kernel
theorem dX5_setChance_4 : decode cX5_setChance 4 = .ok (.iload_n 1, 1) := by decide +kernel
theorem dX5_setChance_5 : decode cX5_setChance 5 = .ok (.aload_n 0, 1) := by decide +kernel
theorem dX5_setChance_6 : decode cX5_setChance 6 = .ok (.getfield 24, 3) := by decide +kernel
theorem dX5_setChance_9 : decode cX5_setChance 9 = .ok (.if_icmp .ge 25, 3) := by decide +kernel
theorem dX5_setChance_12 : decode cX5_setChance 12 = .ok (.iload_n 2, 1) := by decide +kernel
theorem dX5_setChance_13 : decode cX5_setChance 13 = .ok (.ifCond .lt 21, 3) := by decide +kernel
theorem dX5_setChance_16 : decode cX5_setChance 16 = .ok (.iload_n 2, 1) := by decide +kernel
theorem dX5_setChance_17 : decode cX5_setChance 17 = .ok (.aload_n 0, 1) := by decide +kernel
theorem dX5_setChance_18 : decode cX5_setChance 18 = .ok (.getfield 15, 3) := by decide +kernel
theorem dX5_setChance_21 : decode cX5_setChance 21 = .ok (.if_icmp .ge 13, 3) := by decide +kernel
theorem dX5_setChance_24 : decode cX5_setChance 24 = .ok (.iload_n 3, 1) := by decide +kernel
theorem dX5_setChance_25 : decode cX5_setChance 25 = .ok (.ifCond .lt 9, 3) := by decide +kernel
theorem dX5_setChance_28 : decode cX5_setChance 28 = .ok (.iload_n 3, 1) := by decide +kernel
theorem dX5_setChance_29 : decode cX5_setChance 29 = .ok (.bipush 10, 2) := by decide +kernel
theorem dX5_setChance_31 : decode cX5_setChance 31 = .ok (.if_icmp .le 5, 3) := by decide +kernel
theorem dX5_setChance_34 : decode cX5_setChance 34 = .ok (.iconst 0, 1) := by decide +kernel
theorem dX5_setChance_35 : decode cX5_setChance 35 = .ok (.ireturn, 1) := by decide +kernel
theorem dX5_setChance_36 : decode cX5_setChance 36 = .ok (.aload_n 0, 1) := by decide +kernel
theorem dX5_setChance_37 : decode cX5_setChance 37 = .ok (.getfield 21, 3) := by decide +kernel
theorem dX5_setChance_40 : decode cX5_setChance 40 = .ok (.iload_n 1, 1) := by decide +kernel
theorem dX5_setChance_41 : decode cX5_setChance 41 = .ok (.aaload, 1) := by decide +kernel
theorem dX5_setChance_42 : decode cX5_setChance 42 = .ok (.iload_n 2, 1) := by decide +kernel
theorem dX5_setChance_43 : decode cX5_setChance 43 = .ok (.iload_n 3, 1) := by decide +kernel
theorem dX5_setChance_44 : decode cX5_setChance 44 = .ok (.iastore, 1) := by decide +kernel
theorem dX5_setChance_45 : decode cX5_setChance 45 = .ok (.iconst 1, 1) := by decide +kernel
theorem dX5_setChance_46 : decode cX5_setChance 46 = .ok (.ireturn, 1) := by decide +kernel
theorem dX5_shareOfOne_0 : decode cX5_shareOfOne 0 = .ok (.aload_n 0, 1) := by decide +kernel
theorem dX5_shareOfOne_1 : decode cX5_shareOfOne 1 = .ok (.getfield 9, 3) := by decide +kernel
theorem dX5_shareOfOne_4 : decode cX5_shareOfOne 4 = .ok (.iload_n 1, 1) := by decide +kernel
theorem dX5_shareOfOne_5 : decode cX5_shareOfOne 5 = .ok (.iaload, 1) := by decide +kernel
theorem dX5_shareOfOne_6 : decode cX5_shareOfOne 6 = .ok (.i2l, 1) := by decide +kernel
theorem dX5_shareOfOne_7 : decode cX5_shareOfOne 7 = .ok (.lstore 4, 2) := by decide +kernel
theorem dX5_shareOfOne_9 : decode cX5_shareOfOne 9 = .ok (.iconst 0, 1) := by decide +kernel
theorem dX5_shareOfOne_10 : decode cX5_shareOfOne 10 = .ok (.istore 6, 2) := by decide +kernel
theorem dX5_shareOfOne_12 : decode cX5_shareOfOne 12 = .ok (.iload 6, 2) := by decide +kernel
theorem dX5_shareOfOne_14 : decode cX5_shareOfOne 14 = .ok (.aload_n 0, 1) := by decide +kernel
theorem dX5_shareOfOne_15 : decode cX5_shareOfOne 15 = .ok (.getfield 15, 3) := by decide +kernel
theorem dX5_shareOfOne_18 : decode cX5_shareOfOne 18 = .ok (.if_icmp .ge 85, 3) := by decide +kernel
theorem dX5_shareOfOne_21 : decode cX5_shareOfOne 21 = .ok (.aload_n 0, 1) := by decide +kernel
theorem dX5_shareOfOne_22 : decode cX5_shareOfOne 22 = .ok (.getfield 21, 3) := by decide +kernel
theorem dX5_shareOfOne_25 : decode cX5_shareOfOne 25 = .ok (.iload_n 1, 1) := by decide +kernel
theorem dX5_shareOfOne_26 : decode cX5_shareOfOne 26 = .ok (.aaload, 1) := by decide +kernel
theorem dX5_shareOfOne_27 : decode cX5_shareOfOne 27 = .ok (.iload 6, 2) := by decide +kernel
theorem dX5_shareOfOne_29 : decode cX5_shareOfOne 29 = .ok (.iaload, 1) := by decide +kernel
theorem dX5_shareOfOne_30 : decode cX5_shareOfOne 30 = .ok (.istore 7, 2) := by decide +kernel
theorem dX5_shareOfOne_32 : decode cX5_shareOfOne 32 = .ok (.iload_n 2, 1) := by decide +kernel
theorem dX5_shareOfOne_33 : decode cX5_shareOfOne 33 = .ok (.iload 6, 2) := by decide +kernel
theorem dX5_shareOfOne_35 : decode cX5_shareOfOne 35 = .ok (.ishr, 1) := by decide +kernel
theorem dX5_shareOfOne_36 : decode cX5_shareOfOne 36 = .ok (.iconst 1, 1) := by decide +kernel
theorem dX5_shareOfOne_37 : decode cX5_shareOfOne 37 = .ok (.iand, 1) := by decide +kernel
theorem dX5_shareOfOne_38 : decode cX5_shareOfOne 38 = .ok (.ifCond .eq 7, 3) := by decide +kernel
theorem dX5_shareOfOne_41 : decode cX5_shareOfOne 41 = .ok (.iconst 1, 1) := by decide +kernel
theorem dX5_shareOfOne_42 : decode cX5_shareOfOne 42 = .ok (.goto 4, 3) := by decide +kernel
theorem dX5_shareOfOne_45 : decode cX5_shareOfOne 45 = .ok (.iconst 0, 1) := by decide +kernel
theorem dX5_shareOfOne_46 : decode cX5_shareOfOne 46 = .ok (.istore 8, 2) := by decide +kernel
theorem dX5_shareOfOne_48 : decode cX5_shareOfOne 48 = .ok (.iload_n 3, 1) := by decide +kernel
theorem dX5_shareOfOne_49 : decode cX5_shareOfOne 49 = .ok (.iload 6, 2) := by decide +kernel
theorem dX5_shareOfOne_51 : decode cX5_shareOfOne 51 = .ok (.ishr, 1) := by decide +kernel
theorem dX5_shareOfOne_52 : decode cX5_shareOfOne 52 = .ok (.iconst 1, 1) := by decide +kernel
theorem dX5_shareOfOne_53 : decode cX5_shareOfOne 53 = .ok (.iand, 1) := by decide +kernel
theorem dX5_shareOfOne_54 : decode cX5_shareOfOne 54 = .ok (.ifCond .eq 7, 3) := by decide +kernel
theorem dX5_shareOfOne_57 : decode cX5_shareOfOne 57 = .ok (.iconst 1, 1) := by decide +kernel
theorem dX5_shareOfOne_58 : decode cX5_shareOfOne 58 = .ok (.goto 4, 3) := by decide +kernel
theorem dX5_shareOfOne_61 : decode cX5_shareOfOne 61 = .ok (.iconst 0, 1) := by decide +kernel
theorem dX5_shareOfOne_62 : decode cX5_shareOfOne 62 = .ok (.istore 9, 2) := by decide +kernel
theorem dX5_shareOfOne_64 : decode cX5_shareOfOne 64 = .ok (.lload 4, 2) := by decide +kernel
theorem dX5_shareOfOne_66 : decode cX5_shareOfOne 66 = .ok (.iload 8, 2) := by decide +kernel
theorem dX5_shareOfOne_68 : decode cX5_shareOfOne 68 = .ok (.ifCond .ne 9, 3) := by decide +kernel
theorem dX5_shareOfOne_71 : decode cX5_shareOfOne 71 = .ok (.ldc2_w 27, 3) := by decide +kernel
theorem dX5_shareOfOne_74 : decode cX5_shareOfOne 74 = .ok (.goto 20, 3) := by decide +kernel
theorem dX5_shareOfOne_77 : decode cX5_shareOfOne 77 = .ok (.iload 9, 2) := by decide +kernel
theorem dX5_shareOfOne_79 : decode cX5_shareOfOne 79 = .ok (.ifCond .eq 9, 3) := by decide +kernel
theorem dX5_shareOfOne_82 : decode cX5_shareOfOne 82 = .ok (.iload 7, 2) := by decide +kernel
theorem dX5_shareOfOne_84 : decode cX5_shareOfOne 84 = .ok (.i2l, 1) := by decide +kernel
theorem dX5_shareOfOne_85 : decode cX5_shareOfOne 85 = .ok (.goto 9, 3) := by decide +kernel
theorem dX5_shareOfOne_88 : decode cX5_shareOfOne 88 = .ok (.bipush 10, 2) := by decide +kernel
theorem dX5_shareOfOne_90 : decode cX5_shareOfOne 90 = .ok (.iload 7, 2) := by decide +kernel
theorem dX5_shareOfOne_92 : decode cX5_shareOfOne 92 = .ok (.isub, 1) := by decide +kernel
theorem dX5_shareOfOne_93 : decode cX5_shareOfOne 93 = .ok (.i2l, 1) := by decide +kernel
theorem dX5_shareOfOne_94 : decode cX5_shareOfOne 94 = .ok (.lmul, 1) := by decide +kernel
theorem dX5_shareOfOne_95 : decode cX5_shareOfOne 95 = .ok (.lstore 4, 2) := by decide +kernel
theorem dX5_shareOfOne_97 : decode cX5_shareOfOne 97 = .ok (.iinc 6 1, 3) := by decide +kernel
theorem dX5_shareOfOne_100 : decode cX5_shareOfOne 100 = .ok (.goto (-88), 3) := by decide +kernel
theorem dX5_shareOfOne_103 : decode cX5_shareOfOne 103 = .ok (.lload 4, 2) := by decide +kernel
theorem dX5_shareOfOne_105 : decode cX5_shareOfOne 105 = .ok (.lreturn, 1) := by decide +kernel
theorem dX5_shareOfAll_0 : decode cX5_shareOfAll 0 = .ok (.lconst 0, 1) := by decide +kernel
theorem dX5_shareOfAll_1 : decode cX5_shareOfAll 1 = .ok (.lstore_n 3, 1) := by decide +kernel
theorem dX5_shareOfAll_2 : decode cX5_shareOfAll 2 = .ok (.iconst 0, 1) := by decide +kernel
theorem dX5_shareOfAll_3 : decode cX5_shareOfAll 3 = .ok (.istore 5, 2) := by decide +kernel
theorem dX5_shareOfAll_5 : decode cX5_shareOfAll 5 = .ok (.iload 5, 2) := by decide +kernel
theorem dX5_shareOfAll_7 : decode cX5_shareOfAll 7 = .ok (.aload_n 0, 1) := by decide +kernel
theorem dX5_shareOfAll_8 : decode cX5_shareOfAll 8 = .ok (.getfield 24, 3) := by decide +kernel
theorem dX5_shareOfAll_11 : decode cX5_shareOfAll 11 = .ok (.if_icmp .ge 20, 3) := by decide +kernel
theorem dX5_shareOfAll_14 : decode cX5_shareOfAll 14 = .ok (.lload_n 3, 1) := by decide +kernel
theorem dX5_shareOfAll_15 : decode cX5_shareOfAll 15 = .ok (.aload_n 0, 1) := by decide +kernel
theorem dX5_shareOfAll_16 : decode cX5_shareOfAll 16 = .ok (.iload 5, 2) := by decide +kernel
theorem dX5_shareOfAll_18 : decode cX5_shareOfAll 18 = .ok (.iload_n 1, 1) := by decide +kernel
theorem dX5_shareOfAll_19 : decode cX5_shareOfAll 19 = .ok (.iload_n 2, 1) := by decide +kernel
theorem dX5_shareOfAll_20 : decode cX5_shareOfAll 20 = .ok (.invokevirtual 29, 3) := by decide +kernel
theorem dX5_shareOfAll_23 : decode cX5_shareOfAll 23 = .ok (.ladd, 1) := by decide +kernel
theorem dX5_shareOfAll_24 : decode cX5_shareOfAll 24 = .ok (.lstore_n 3, 1) := by decide +kernel
theorem dX5_shareOfAll_25 : decode cX5_shareOfAll 25 = .ok (.iinc 5 1, 3) := by decide +kernel
theorem dX5_shareOfAll_28 : decode cX5_shareOfAll 28 = .ok (.goto (-23), 3) := by decide +kernel
theorem dX5_shareOfAll_31 : decode cX5_shareOfAll 31 = .ok (.lload_n 3, 1) := by decide +kernel
theorem dX5_shareOfAll_32 : decode cX5_shareOfAll 32 = .ok (.lreturn, 1) := by decide +kernel
theorem dX5_drawn_0 : decode cX5_drawn 0 = .ok (.lload_n 1, 1) := by decide +kernel
theorem dX5_drawn_1 : decode cX5_drawn 1 = .ok (.invokestatic 33, 3) := by decide +kernel
theorem dX5_drawn_4 : decode cX5_drawn 4 = .ok (.lstore 4, 2) := by decide +kernel
theorem dX5_drawn_6 : decode cX5_drawn 6 = .ok (.aload_n 0, 1) := by decide +kernel
theorem dX5_drawn_7 : decode cX5_drawn 7 = .ok (.lload 4, 2) := by decide +kernel
theorem dX5_drawn_9 : decode cX5_drawn 9 = .ok (.aload_n 0, 1) := by decide +kernel
theorem dX5_drawn_10 : decode cX5_drawn 10 = .ok (.invokevirtual 37, 3) := by decide +kernel
theorem dX5_drawn_13 : decode cX5_drawn 13 = .ok (.invokestatic 41, 3) := by decide +kernel
theorem dX5_drawn_16 : decode cX5_drawn 16 = .ok (.invokevirtual 45, 3) := by decide +kernel
theorem dX5_drawn_19 : decode cX5_drawn 19 = .ok (.istore 6, 2) := by decide +kernel
theorem dX5_drawn_21 : decode cX5_drawn 21 = .ok (.iconst 0, 1) := by decide +kernel
theorem dX5_drawn_22 : decode cX5_drawn 22 = .ok (.istore 7, 2) := by decide +kernel
theorem dX5_drawn_24 : decode cX5_drawn 24 = .ok (.iconst 0, 1) := by decide +kernel
theorem dX5_drawn_25 : decode cX5_drawn 25 = .ok (.istore 8, 2) := by decide +kernel
theorem dX5_drawn_27 : decode cX5_drawn 27 = .ok (.iload 8, 2) := by decide +kernel
theorem dX5_drawn_29 : decode cX5_drawn 29 = .ok (.aload_n 0, 1) := by decide +kernel
theorem dX5_drawn_30 : decode cX5_drawn 30 = .ok (.getfield 15, 3) := by decide +kernel
theorem dX5_drawn_33 : decode cX5_drawn 33 = .ok (.if_icmp .ge 45, 3) := by decide +kernel
theorem dX5_drawn_36 : decode cX5_drawn 36 = .ok (.lload 4, 2) := by decide +kernel
theorem dX5_drawn_38 : decode cX5_drawn 38 = .ok (.invokestatic 33, 3) := by decide +kernel
theorem dX5_drawn_41 : decode cX5_drawn 41 = .ok (.lstore 4, 2) := by decide +kernel
theorem dX5_drawn_43 : decode cX5_drawn 43 = .ok (.lload 4, 2) := by decide +kernel
theorem dX5_drawn_45 : decode cX5_drawn 45 = .ok (.bipush 10, 2) := by decide +kernel
theorem dX5_drawn_47 : decode cX5_drawn 47 = .ok (.invokestatic 41, 3) := by decide +kernel
theorem dX5_drawn_50 : decode cX5_drawn 50 = .ok (.aload_n 0, 1) := by decide +kernel
theorem dX5_drawn_51 : decode cX5_drawn 51 = .ok (.getfield 21, 3) := by decide +kernel
theorem dX5_drawn_54 : decode cX5_drawn 54 = .ok (.iload 6, 2) := by decide +kernel
theorem dX5_drawn_56 : decode cX5_drawn 56 = .ok (.aaload, 1) := by decide +kernel
theorem dX5_drawn_57 : decode cX5_drawn 57 = .ok (.iload 8, 2) := by decide +kernel
theorem dX5_drawn_59 : decode cX5_drawn 59 = .ok (.iaload, 1) := by decide +kernel
theorem dX5_drawn_60 : decode cX5_drawn 60 = .ok (.if_icmp .ge 12, 3) := by decide +kernel
theorem dX5_drawn_63 : decode cX5_drawn 63 = .ok (.iload 7, 2) := by decide +kernel
theorem dX5_drawn_65 : decode cX5_drawn 65 = .ok (.iconst 1, 1) := by decide +kernel
theorem dX5_drawn_66 : decode cX5_drawn 66 = .ok (.iload 8, 2) := by decide +kernel
theorem dX5_drawn_68 : decode cX5_drawn 68 = .ok (.ishl, 1) := by decide +kernel
theorem dX5_drawn_69 : decode cX5_drawn 69 = .ok (.ior, 1) := by decide +kernel
theorem dX5_drawn_70 : decode cX5_drawn 70 = .ok (.istore 7, 2) := by decide +kernel
theorem dX5_drawn_72 : decode cX5_drawn 72 = .ok (.iinc 8 1, 3) := by decide +kernel
theorem dX5_drawn_75 : decode cX5_drawn 75 = .ok (.goto (-48), 3) := by decide +kernel
theorem dX5_drawn_78 : decode cX5_drawn 78 = .ok (.iload_n 3, 1) := by decide +kernel
theorem dX5_drawn_79 : decode cX5_drawn 79 = .ok (.ifCond .eq 8, 3) := by decide +kernel
theorem dX5_drawn_82 : decode cX5_drawn 82 = .ok (.iload 7, 2) := by decide +kernel
theorem dX5_drawn_84 : decode cX5_drawn 84 = .ok (.goto 5, 3) := by decide +kernel
theorem dX5_drawn_87 : decode cX5_drawn 87 = .ok (.iload 6, 2) := by decide +kernel
theorem dX5_drawn_89 : decode cX5_drawn 89 = .ok (.ireturn, 1) := by decide +kernel
theorem dX5_stepped_0 : decode cX5_stepped 0 = .ok (.lload_n 0, 1) := by decide +kernel
theorem dX5_stepped_1 : decode cX5_stepped 1 = .ok (.ldc2_w 49, 3) := by decide +kernel
theorem dX5_stepped_4 : decode cX5_stepped 4 = .ok (.lmul, 1) := by decide +kernel
theorem dX5_stepped_5 : decode cX5_stepped 5 = .ok (.ldc2_w 51, 3) := by decide +kernel
theorem dX5_stepped_8 : decode cX5_stepped 8 = .ok (.ladd, 1) := by decide +kernel
theorem dX5_stepped_9 : decode cX5_stepped 9 = .ok (.lreturn, 1) := by decide +kernel
theorem dX5_draw_0 : decode cX5_draw 0 = .ok (.iload_n 2, 1) := by decide +kernel
theorem dX5_draw_1 : decode cX5_draw 1 = .ok (.iconst 1, 1) := by decide +kernel
theorem dX5_draw_2 : decode cX5_draw 2 = .ok (.if_icmp .ge 7, 3) := by decide +kernel
theorem dX5_draw_5 : decode cX5_draw 5 = .ok (.iconst 0, 1) := by decide +kernel
theorem dX5_draw_6 : decode cX5_draw 6 = .ok (.goto 11, 3) := by decide +kernel
theorem dX5_draw_9 : decode cX5_draw 9 = .ok (.lload_n 0, 1) := by decide +kernel
theorem dX5_draw_10 : decode cX5_draw 10 = .ok (.bipush 33, 2) := by decide +kernel
theorem dX5_draw_12 : decode cX5_draw 12 = .ok (.lushr, 1) := by decide +kernel
theorem dX5_draw_13 : decode cX5_draw 13 = .ok (.iload_n 2, 1) := by decide +kernel
theorem dX5_draw_14 : decode cX5_draw 14 = .ok (.i2l, 1) := by decide +kernel
theorem dX5_draw_15 : decode cX5_draw 15 = .ok (.lrem, 1) := by decide +kernel
theorem dX5_draw_16 : decode cX5_draw 16 = .ok (.l2i, 1) := by decide +kernel
theorem dX5_draw_17 : decode cX5_draw 17 = .ok (.ireturn, 1) := by decide +kernel
theorem dX5_allWeights_0 : decode cX5_allWeights 0 = .ok (.iconst 0, 1) := by decide +kernel
theorem dX5_allWeights_1 : decode cX5_allWeights 1 = .ok (.istore_n 1, 1) := by decide +kernel
theorem dX5_allWeights_2 : decode cX5_allWeights 2 = .ok (.iconst 0, 1) := by decide +kernel
theorem dX5_allWeights_3 : decode cX5_allWeights 3 = .ok (.istore_n 2, 1) := by decide +kernel
theorem dX5_allWeights_4 : decode cX5_allWeights 4 = .ok (.iload_n 2, 1) := by decide +kernel
theorem dX5_allWeights_5 : decode cX5_allWeights 5 = .ok (.aload_n 0, 1) := by decide +kernel
theorem dX5_allWeights_6 : decode cX5_allWeights 6 = .ok (.getfield 24, 3) := by decide +kernel
theorem dX5_allWeights_9 : decode cX5_allWeights 9 = .ok (.if_icmp .ge 18, 3) := by decide +kernel
theorem dX5_allWeights_12 : decode cX5_allWeights 12 = .ok (.iload_n 1, 1) := by decide +kernel
theorem dX5_allWeights_13 : decode cX5_allWeights 13 = .ok (.aload_n 0, 1) := by decide +kernel
theorem dX5_allWeights_14 : decode cX5_allWeights 14 = .ok (.getfield 9, 3) := by decide +kernel
theorem dX5_allWeights_17 : decode cX5_allWeights 17 = .ok (.iload_n 2, 1) := by decide +kernel
theorem dX5_allWeights_18 : decode cX5_allWeights 18 = .ok (.iaload, 1) := by decide +kernel
theorem dX5_allWeights_19 : decode cX5_allWeights 19 = .ok (.iadd, 1) := by decide +kernel
theorem dX5_allWeights_20 : decode cX5_allWeights 20 = .ok (.istore_n 1, 1) := by decide +kernel
theorem dX5_allWeights_21 : decode cX5_allWeights 21 = .ok (.iinc 2 1, 3) := by decide +kernel
theorem dX5_allWeights_24 : decode cX5_allWeights 24 = .ok (.goto (-20), 3) := by decide +kernel
theorem dX5_allWeights_27 : decode cX5_allWeights 27 = .ok (.iload_n 1, 1) := by decide +kernel
theorem dX5_allWeights_28 : decode cX5_allWeights 28 = .ok (.ireturn, 1) := by decide +kernel
theorem dX5_sortOf_0 : decode cX5_sortOf 0 = .ok (.iload_n 1, 1) := by decide +kernel
theorem dX5_sortOf_1 : decode cX5_sortOf 1 = .ok (.istore_n 2, 1) := by decide +kernel
theorem dX5_sortOf_2 : decode cX5_sortOf 2 = .ok (.iconst 0, 1) := by decide +kernel
theorem dX5_sortOf_3 : decode cX5_sortOf 3 = .ok (.istore_n 3, 1) := by decide +kernel
theorem dX5_sortOf_4 : decode cX5_sortOf 4 = .ok (.iload_n 3, 1) := by decide +kernel
theorem dX5_sortOf_5 : decode cX5_sortOf 5 = .ok (.aload_n 0, 1) := by decide +kernel
theorem dX5_sortOf_6 : decode cX5_sortOf 6 = .ok (.getfield 24, 3) := by decide +kernel
theorem dX5_sortOf_9 : decode cX5_sortOf 9 = .ok (.if_icmp .ge 24, 3) := by decide +kernel
theorem dX5_sortOf_12 : decode cX5_sortOf 12 = .ok (.iload_n 2, 1) := by decide +kernel
theorem dX5_sortOf_13 : decode cX5_sortOf 13 = .ok (.aload_n 0, 1) := by decide +kernel
theorem dX5_sortOf_14 : decode cX5_sortOf 14 = .ok (.getfield 9, 3) := by decide +kernel
theorem dX5_sortOf_17 : decode cX5_sortOf 17 = .ok (.iload_n 3, 1) := by decide +kernel
theorem dX5_sortOf_18 : decode cX5_sortOf 18 = .ok (.iaload, 1) := by decide +kernel
theorem dX5_sortOf_19 : decode cX5_sortOf 19 = .ok (.isub, 1) := by decide +kernel
theorem dX5_sortOf_20 : decode cX5_sortOf 20 = .ok (.istore_n 2, 1) := by decide +kernel
theorem dX5_sortOf_21 : decode cX5_sortOf 21 = .ok (.iload_n 2, 1) := by decide +kernel
theorem dX5_sortOf_22 : decode cX5_sortOf 22 = .ok (.ifCond .ge 5, 3) := by decide +kernel
theorem dX5_sortOf_25 : decode cX5_sortOf 25 = .ok (.iload_n 3, 1) := by decide +kernel
theorem dX5_sortOf_26 : decode cX5_sortOf 26 = .ok (.ireturn, 1) := by decide +kernel
theorem dX5_sortOf_27 : decode cX5_sortOf 27 = .ok (.iinc 3 1, 3) := by decide +kernel
theorem dX5_sortOf_30 : decode cX5_sortOf 30 = .ok (.goto (-26), 3) := by decide +kernel
theorem dX5_sortOf_33 : decode cX5_sortOf 33 = .ok (.iconst 0, 1) := by decide +kernel
theorem dX5_sortOf_34 : decode cX5_sortOf 34 = .ok (.ireturn, 1) := by decide +kernel
theorem dX6_init_0 : decode cX6_init 0 = .ok (.aload_n 0, 1) := by decide +kernel
theorem dX6_init_1 : decode cX6_init 1 = .ok (.invokespecial 3, 3) := by decide +kernel
theorem dX6_init_4 : decode cX6_init 4 = .ok (.aload_n 0, 1) := by decide +kernel
theorem dX6_init_5 : decode cX6_init 5 = .ok (.bipush 10, 2) := by decide +kernel
theorem dX6_init_7 : decode cX6_init 7 = .ok (.newarray .int, 2) := by decide +kernel
theorem dX6_init_9 : decode cX6_init 9 = .ok (.putfield 9, 3) := by decide +kernel
theorem dX6_init_12 : decode cX6_init 12 = .ok (.aload_n 0, 1) := by decide +kernel
theorem dX6_init_13 : decode cX6_init 13 = .ok (.sipush 1024, 3) := by decide +kernel
theorem dX6_init_16 : decode cX6_init 16 = .ok (.newarray .int, 2) := by decide +kernel
theorem dX6_init_18 : decode cX6_init 18 = .ok (.putfield 15, 3) := by decide +kernel
theorem dX6_init_21 : decode cX6_init 21 = .ok (.aload_n 0, 1) := by decide +kernel
theorem dX6_init_22 : decode cX6_init 22 = .ok (.bipush 7, 2) := by decide +kernel
theorem dX6_init_24 : decode cX6_init 24 = .ok (.newarray .int, 2) := by decide +kernel
theorem dX6_init_26 : decode cX6_init 26 = .ok (.putfield 18, 3) := by decide +kernel
theorem dX6_init_29 : decode cX6_init 29 = .ok (.aload_n 0, 1) := by decide +kernel
theorem dX6_init_30 : decode cX6_init 30 = .ok (.bipush 7, 2) := by decide +kernel
theorem dX6_init_32 : decode cX6_init 32 = .ok (.newarray .int, 2) := by decide +kernel
theorem dX6_init_34 : decode cX6_init 34 = .ok (.putfield 21, 3) := by decide +kernel
theorem dX6_init_37 : decode cX6_init 37 = .ok (.aload_n 0, 1) := by decide +kernel
theorem dX6_init_38 : decode cX6_init 38 = .ok (.iload_n 1, 1) := by decide +kernel
theorem dX6_init_39 : decode cX6_init 39 = .ok (.newarray .int, 2) := by decide +kernel
theorem dX6_init_41 : decode cX6_init 41 = .ok (.putfield 24, 3) := by decide +kernel
theorem dX6_init_44 : decode cX6_init 44 = .ok (.return_, 1) := by decide +kernel
theorem dX6_added_0 : decode cX6_added 0 = .ok (.aload_n 0, 1) := by decide +kernel
theorem dX6_added_1 : decode cX6_added 1 = .ok (.getfield 27, 3) := by decide +kernel
theorem dX6_added_4 : decode cX6_added 4 = .ok (.bipush 10, 2) := by decide +kernel
theorem dX6_added_6 : decode cX6_added 6 = .ok (.if_icmp .lt 5, 3) := by decide +kernel
theorem dX6_added_9 : decode cX6_added 9 = .ok (.iconst (-1), 1) := by decide +kernel
theorem dX6_added_10 : decode cX6_added 10 = .ok (.ireturn, 1) := by decide +kernel
theorem dX6_added_11 : decode cX6_added 11 = .ok (.aload_n 0, 1) := by decide +kernel
theorem dX6_added_12 : decode cX6_added 12 = .ok (.getfield 9, 3) := by decide +kernel
theorem dX6_added_15 : decode cX6_added 15 = .ok (.aload_n 0, 1) := by decide +kernel
theorem dX6_added_16 : decode cX6_added 16 = .ok (.getfield 27, 3) := by decide +kernel
theorem dX6_added_19 : decode cX6_added 19 = .ok (.iconst 1, 1) := by decide +kernel
theorem dX6_added_20 : decode cX6_added 20 = .ok (.iastore, 1) := by decide +kernel
theorem dX6_added_21 : decode cX6_added 21 = .ok (.aload_n 0, 1) := by decide +kernel
theorem dX6_added_22 : decode cX6_added 22 = .ok (.dup, 1) := by decide +kernel
theorem dX6_added_23 : decode cX6_added 23 = .ok (.getfield 27, 3) := by decide +kernel
theorem dX6_added_26 : decode cX6_added 26 = .ok (.dup_x1, 1) := by decide +kernel
theorem dX6_added_27 : decode cX6_added 27 = .ok (.iconst 1, 1) := by decide +kernel
theorem dX6_added_28 : decode cX6_added 28 = .ok (.iadd, 1) := by decide +kernel
theorem dX6_added_29 : decode cX6_added 29 = .ok (.putfield 27, 3) := by decide +kernel
theorem dX6_added_32 : decode cX6_added 32 = .ok (.ireturn, 1) := by decide +kernel
theorem dX6_setMinutes_0 : decode cX6_setMinutes 0 = .ok (.iload_n 1, 1) := by decide +kernel
theorem dX6_setMinutes_1 : decode cX6_setMinutes 1 = .ok (.ifCond .lt 22, 3) := by decide +kernel
theorem dX6_setMinutes_4 : decode cX6_setMinutes 4 = .ok (.iload_n 1, 1) := by decide +kernel
theorem dX6_setMinutes_5 : decode cX6_setMinutes 5 = .ok (.aload_n 0, 1) := by decide +kernel
theorem dX6_setMinutes_6 : decode cX6_setMinutes 6 = .ok (.getfield 27, 3) := by decide +kernel
theorem dX6_setMinutes_9 : decode cX6_setMinutes 9 = .ok (.if_icmp .ge 14, 3) := by decide +kernel
theorem dX6_setMinutes_12 : decode cX6_setMinutes 12 = .ok (.iload_n 2, 1) := by decide +kernel
theorem dX6_setMinutes_13 : decode cX6_setMinutes 13 = .ok (.iconst 1, 1) := by decide +kernel
theorem dX6_setMinutes_14 : decode cX6_setMinutes 14 = .ok (.if_icmp .lt 9, 3) := by decide +kernel
theorem dX6_setMinutes_17 : decode cX6_setMinutes 17 = .ok (.iload_n 2, 1) := by decide +kernel
theorem dX6_setMinutes_18 : decode cX6_setMinutes 18 = .ok (.bipush 99, 2) := by decide +kernel
theorem dX6_setMinutes_20 : decode cX6_setMinutes 20 = .ok (.if_icmp .le 5, 3) := by decide +kernel
theorem dX6_setMinutes_23 : decode cX6_setMinutes 23 = .ok (.iconst 0, 1) := by decide +kernel
theorem dX6_setMinutes_24 : decode cX6_setMinutes 24 = .ok (.ireturn, 1) := by decide +kernel
theorem dX6_setMinutes_25 : decode cX6_setMinutes 25 = .ok (.aload_n 0, 1) := by decide +kernel
theorem dX6_setMinutes_26 : decode cX6_setMinutes 26 = .ok (.getfield 9, 3) := by decide +kernel
theorem dX6_setMinutes_29 : decode cX6_setMinutes 29 = .ok (.iload_n 1, 1) := by decide +kernel
theorem dX6_setMinutes_30 : decode cX6_setMinutes 30 = .ok (.iload_n 2, 1) := by decide +kernel
theorem dX6_setMinutes_31 : decode cX6_setMinutes 31 = .ok (.iastore, 1) := by decide +kernel
theorem dX6_setMinutes_32 : decode cX6_setMinutes 32 = .ok (.iconst 1, 1) := by decide +kernel
theorem dX6_setMinutes_33 : decode cX6_setMinutes 33 = .ok (.ireturn, 1) := by decide +kernel
theorem dX6_isSet_0 : decode cX6_isSet 0 = .ok (.iload_n 1, 1) := by decide +kernel
theorem dX6_isSet_1 : decode cX6_isSet 1 = .ok (.ifCond .lt 17, 3) := by decide +kernel
theorem dX6_isSet_4 : decode cX6_isSet 4 = .ok (.iload_n 1, 1) := by decide +kernel
theorem dX6_isSet_5 : decode cX6_isSet 5 = .ok (.iconst 1, 1) := by decide +kernel
theorem dX6_isSet_6 : decode cX6_isSet 6 = .ok (.aload_n 0, 1) := by decide +kernel
theorem dX6_isSet_7 : decode cX6_isSet 7 = .ok (.getfield 27, 3) := by decide +kernel
theorem dX6_isSet_10 : decode cX6_isSet 10 = .ok (.ishl, 1) := by decide +kernel
theorem dX6_isSet_11 : decode cX6_isSet 11 = .ok (.if_icmp .ge 7, 3) := by decide +kernel
theorem dX6_isSet_14 : decode cX6_isSet 14 = .ok (.iconst 1, 1) := by decide +kernel
theorem dX6_isSet_15 : decode cX6_isSet 15 = .ok (.goto 4, 3) := by decide +kernel
theorem dX6_isSet_18 : decode cX6_isSet 18 = .ok (.iconst 0, 1) := by decide +kernel
theorem dX6_isSet_19 : decode cX6_isSet 19 = .ok (.ireturn, 1) := by decide +kernel
theorem dX6_cheapestThatTells_0 : decode cX6_cheapestThatTells 0 = .ok (.iconst (-1), 1) := by decide +kernel
theorem dX6_cheapestThatTells_1 : decode cX6_cheapestThatTells 1 = .ok (.istore_n 2, 1) := by decide +kernel
theorem dX6_cheapestThatTells_2 : decode cX6_cheapestThatTells 2 = .ok (.iconst 0, 1) := by decide +kernel
theorem dX6_cheapestThatTells_3 : decode cX6_cheapestThatTells 3 = .ok (.istore_n 3, 1) := by decide +kernel
theorem dX6_cheapestThatTells_4 : decode cX6_cheapestThatTells 4 = .ok (.iconst 0, 1) := by decide +kernel
theorem dX6_cheapestThatTells_5 : decode cX6_cheapestThatTells 5 = .ok (.istore 4, 2) := by decide +kernel
theorem dX6_cheapestThatTells_7 : decode cX6_cheapestThatTells 7 = .ok (.iload 4, 2) := by decide +kernel
theorem dX6_cheapestThatTells_9 : decode cX6_cheapestThatTells 9 = .ok (.iconst 1, 1) := by decide +kernel
theorem dX6_cheapestThatTells_10 : decode cX6_cheapestThatTells 10 = .ok (.aload_n 0, 1) := by decide +kernel
theorem dX6_cheapestThatTells_11 : decode cX6_cheapestThatTells 11 = .ok (.getfield 27, 3) := by decide +kernel
theorem dX6_cheapestThatTells_14 : decode cX6_cheapestThatTells 14 = .ok (.ishl, 1) := by decide +kernel
theorem dX6_cheapestThatTells_15 : decode cX6_cheapestThatTells 15 = .ok (.if_icmp .ge 71, 3) := by decide +kernel
theorem dX6_cheapestThatTells_18 : decode cX6_cheapestThatTells 18 = .ok (.aload_n 0, 1) := by decide +kernel
theorem dX6_cheapestThatTells_19 : decode cX6_cheapestThatTells 19 = .ok (.iload 4, 2) := by decide +kernel
theorem dX6_cheapestThatTells_21 : decode cX6_cheapestThatTells 21 = .ok (.invokevirtual 31, 3) := by decide +kernel
theorem dX6_cheapestThatTells_24 : decode cX6_cheapestThatTells 24 = .ok (.istore 5, 2) := by decide +kernel
theorem dX6_cheapestThatTells_26 : decode cX6_cheapestThatTells 26 = .ok (.iload_n 2, 1) := by decide +kernel
theorem dX6_cheapestThatTells_27 : decode cX6_cheapestThatTells 27 = .ok (.iconst (-1), 1) := by decide +kernel
theorem dX6_cheapestThatTells_28 : decode cX6_cheapestThatTells 28 = .ok (.if_icmp .eq 24, 3) := by decide +kernel
theorem dX6_cheapestThatTells_31 : decode cX6_cheapestThatTells 31 = .ok (.iload 5, 2) := by decide +kernel
theorem dX6_cheapestThatTells_33 : decode cX6_cheapestThatTells 33 = .ok (.iload_n 3, 1) := by decide +kernel
theorem dX6_cheapestThatTells_34 : decode cX6_cheapestThatTells 34 = .ok (.if_icmp .lt 18, 3) := by decide +kernel
theorem dX6_cheapestThatTells_37 : decode cX6_cheapestThatTells 37 = .ok (.iload 5, 2) := by decide +kernel
theorem dX6_cheapestThatTells_39 : decode cX6_cheapestThatTells 39 = .ok (.iload_n 3, 1) := by decide +kernel
theorem dX6_cheapestThatTells_40 : decode cX6_cheapestThatTells 40 = .ok (.if_icmp .ne 16, 3) := by decide +kernel
theorem dX6_cheapestThatTells_43 : decode cX6_cheapestThatTells 43 = .ok (.iload 4, 2) := by decide +kernel
theorem dX6_cheapestThatTells_45 : decode cX6_cheapestThatTells 45 = .ok (.iload_n 2, 1) := by decide +kernel
theorem dX6_cheapestThatTells_46 : decode cX6_cheapestThatTells 46 = .ok (.invokestatic 35, 3) := by decide +kernel
theorem dX6_cheapestThatTells_49 : decode cX6_cheapestThatTells 49 = .ok (.ifCond .eq 7, 3) := by decide +kernel
theorem dX6_cheapestThatTells_52 : decode cX6_cheapestThatTells 52 = .ok (.iconst 1, 1) := by decide +kernel
theorem dX6_cheapestThatTells_53 : decode cX6_cheapestThatTells 53 = .ok (.goto 4, 3) := by decide +kernel
theorem dX6_cheapestThatTells_56 : decode cX6_cheapestThatTells 56 = .ok (.iconst 0, 1) := by decide +kernel
theorem dX6_cheapestThatTells_57 : decode cX6_cheapestThatTells 57 = .ok (.istore 6, 2) := by decide +kernel
theorem dX6_cheapestThatTells_59 : decode cX6_cheapestThatTells 59 = .ok (.iload 6, 2) := by decide +kernel
theorem dX6_cheapestThatTells_61 : decode cX6_cheapestThatTells 61 = .ok (.ifCond .eq 19, 3) := by decide +kernel
theorem dX6_cheapestThatTells_64 : decode cX6_cheapestThatTells 64 = .ok (.aload_n 0, 1) := by decide +kernel
theorem dX6_cheapestThatTells_65 : decode cX6_cheapestThatTells 65 = .ok (.iload 4, 2) := by decide +kernel
theorem dX6_cheapestThatTells_67 : decode cX6_cheapestThatTells 67 = .ok (.aload_n 1, 1) := by decide +kernel
theorem dX6_cheapestThatTells_68 : decode cX6_cheapestThatTells 68 = .ok (.invokevirtual 39, 3) := by decide +kernel
theorem dX6_cheapestThatTells_71 : decode cX6_cheapestThatTells 71 = .ok (.ifCond .eq 9, 3) := by decide +kernel
theorem dX6_cheapestThatTells_74 : decode cX6_cheapestThatTells 74 = .ok (.iload 4, 2) := by decide +kernel
theorem dX6_cheapestThatTells_76 : decode cX6_cheapestThatTells 76 = .ok (.istore_n 2, 1) := by decide +kernel
theorem dX6_cheapestThatTells_77 : decode cX6_cheapestThatTells 77 = .ok (.iload 5, 2) := by decide +kernel
theorem dX6_cheapestThatTells_79 : decode cX6_cheapestThatTells 79 = .ok (.istore_n 3, 1) := by decide +kernel
theorem dX6_cheapestThatTells_80 : decode cX6_cheapestThatTells 80 = .ok (.iinc 4 1, 3) := by decide +kernel
theorem dX6_cheapestThatTells_83 : decode cX6_cheapestThatTells 83 = .ok (.goto (-76), 3) := by decide +kernel
theorem dX6_cheapestThatTells_86 : decode cX6_cheapestThatTells 86 = .ok (.iload_n 2, 1) := by decide +kernel
theorem dX6_cheapestThatTells_87 : decode cX6_cheapestThatTells 87 = .ok (.ireturn, 1) := by decide +kernel
theorem dX6_minutesOf_0 : decode cX6_minutesOf 0 = .ok (.iconst 0, 1) := by decide +kernel
theorem dX6_minutesOf_1 : decode cX6_minutesOf 1 = .ok (.istore_n 2, 1) := by decide +kernel
theorem dX6_minutesOf_2 : decode cX6_minutesOf 2 = .ok (.iconst 0, 1) := by decide +kernel
theorem dX6_minutesOf_3 : decode cX6_minutesOf 3 = .ok (.istore_n 3, 1) := by decide +kernel
theorem dX6_minutesOf_4 : decode cX6_minutesOf 4 = .ok (.iload_n 3, 1) := by decide +kernel
theorem dX6_minutesOf_5 : decode cX6_minutesOf 5 = .ok (.aload_n 0, 1) := by decide +kernel
theorem dX6_minutesOf_6 : decode cX6_minutesOf 6 = .ok (.getfield 27, 3) := by decide +kernel
theorem dX6_minutesOf_9 : decode cX6_minutesOf 9 = .ok (.if_icmp .ge 26, 3) := by decide +kernel
theorem dX6_minutesOf_12 : decode cX6_minutesOf 12 = .ok (.iload_n 1, 1) := by decide +kernel
theorem dX6_minutesOf_13 : decode cX6_minutesOf 13 = .ok (.iload_n 3, 1) := by decide +kernel
theorem dX6_minutesOf_14 : decode cX6_minutesOf 14 = .ok (.ishr, 1) := by decide +kernel
theorem dX6_minutesOf_15 : decode cX6_minutesOf 15 = .ok (.iconst 1, 1) := by decide +kernel
theorem dX6_minutesOf_16 : decode cX6_minutesOf 16 = .ok (.iand, 1) := by decide +kernel
theorem dX6_minutesOf_17 : decode cX6_minutesOf 17 = .ok (.ifCond .eq 12, 3) := by decide +kernel
theorem dX6_minutesOf_20 : decode cX6_minutesOf 20 = .ok (.iload_n 2, 1) := by decide +kernel
theorem dX6_minutesOf_21 : decode cX6_minutesOf 21 = .ok (.aload_n 0, 1) := by decide +kernel
theorem dX6_minutesOf_22 : decode cX6_minutesOf 22 = .ok (.getfield 9, 3) := by decide +kernel
theorem dX6_minutesOf_25 : decode cX6_minutesOf 25 = .ok (.iload_n 3, 1) := by decide +kernel
theorem dX6_minutesOf_26 : decode cX6_minutesOf 26 = .ok (.iaload, 1) := by decide +kernel
theorem dX6_minutesOf_27 : decode cX6_minutesOf 27 = .ok (.iadd, 1) := by decide +kernel
theorem dX6_minutesOf_28 : decode cX6_minutesOf 28 = .ok (.istore_n 2, 1) := by decide +kernel
theorem dX6_minutesOf_29 : decode cX6_minutesOf 29 = .ok (.iinc 3 1, 3) := by decide +kernel
theorem dX6_minutesOf_32 : decode cX6_minutesOf 32 = .ok (.goto (-28), 3) := by decide +kernel
theorem dX6_minutesOf_35 : decode cX6_minutesOf 35 = .ok (.iload_n 2, 1) := by decide +kernel
theorem dX6_minutesOf_36 : decode cX6_minutesOf 36 = .ok (.ireturn, 1) := by decide +kernel
theorem dX6_isToldBy_0 : decode cX6_isToldBy 0 = .ok (.aload_n 0, 1) := by decide +kernel
theorem dX6_isToldBy_1 : decode cX6_isToldBy 1 = .ok (.dup, 1) := by decide +kernel
theorem dX6_isToldBy_2 : decode cX6_isToldBy 2 = .ok (.getfield 43, 3) := by decide +kernel
theorem dX6_isToldBy_5 : decode cX6_isToldBy 5 = .ok (.iconst 1, 1) := by decide +kernel
theorem dX6_isToldBy_6 : decode cX6_isToldBy 6 = .ok (.iadd, 1) := by decide +kernel
theorem dX6_isToldBy_7 : decode cX6_isToldBy 7 = .ok (.putfield 43, 3) := by decide +kernel
theorem dX6_isToldBy_10 : decode cX6_isToldBy 10 = .ok (.iconst 0, 1) := by decide +kernel
theorem dX6_isToldBy_11 : decode cX6_isToldBy 11 = .ok (.istore_n 3, 1) := by decide +kernel
theorem dX6_isToldBy_12 : decode cX6_isToldBy 12 = .ok (.iload_n 3, 1) := by decide +kernel
theorem dX6_isToldBy_13 : decode cX6_isToldBy 13 = .ok (.aload_n 0, 1) := by decide +kernel
theorem dX6_isToldBy_14 : decode cX6_isToldBy 14 = .ok (.getfield 24, 3) := by decide +kernel
theorem dX6_isToldBy_17 : decode cX6_isToldBy 17 = .ok (.arraylength, 1) := by decide +kernel
theorem dX6_isToldBy_18 : decode cX6_isToldBy 18 = .ok (.if_icmp .ge 75, 3) := by decide +kernel
theorem dX6_isToldBy_21 : decode cX6_isToldBy 21 = .ok (.aload_n 0, 1) := by decide +kernel
theorem dX6_isToldBy_22 : decode cX6_isToldBy 22 = .ok (.getfield 43, 3) := by decide +kernel
theorem dX6_isToldBy_25 : decode cX6_isToldBy 25 = .ok (.iconst 3, 1) := by decide +kernel
theorem dX6_isToldBy_26 : decode cX6_isToldBy 26 = .ok (.ishl, 1) := by decide +kernel
theorem dX6_isToldBy_27 : decode cX6_isToldBy 27 = .ok (.aload_n 2, 1) := by decide +kernel
theorem dX6_isToldBy_28 : decode cX6_isToldBy 28 = .ok (.iload_n 3, 1) := by decide +kernel
theorem dX6_isToldBy_29 : decode cX6_isToldBy 29 = .ok (.iaload, 1) := by decide +kernel
theorem dX6_isToldBy_30 : decode cX6_isToldBy 30 = .ok (.iconst 1, 1) := by decide +kernel
theorem dX6_isToldBy_31 : decode cX6_isToldBy 31 = .ok (.iadd, 1) := by decide +kernel
theorem dX6_isToldBy_32 : decode cX6_isToldBy 32 = .ok (.ior, 1) := by decide +kernel
theorem dX6_isToldBy_33 : decode cX6_isToldBy 33 = .ok (.istore 4, 2) := by decide +kernel
theorem dX6_isToldBy_35 : decode cX6_isToldBy 35 = .ok (.aload_n 0, 1) := by decide +kernel
theorem dX6_isToldBy_36 : decode cX6_isToldBy 36 = .ok (.getfield 24, 3) := by decide +kernel
theorem dX6_isToldBy_39 : decode cX6_isToldBy 39 = .ok (.iload_n 3, 1) := by decide +kernel
theorem dX6_isToldBy_40 : decode cX6_isToldBy 40 = .ok (.iaload, 1) := by decide +kernel
theorem dX6_isToldBy_41 : decode cX6_isToldBy 41 = .ok (.iload_n 1, 1) := by decide +kernel
theorem dX6_isToldBy_42 : decode cX6_isToldBy 42 = .ok (.iand, 1) := by decide +kernel
theorem dX6_isToldBy_43 : decode cX6_isToldBy 43 = .ok (.istore 5, 2) := by decide +kernel
theorem dX6_isToldBy_45 : decode cX6_isToldBy 45 = .ok (.aload_n 0, 1) := by decide +kernel
theorem dX6_isToldBy_46 : decode cX6_isToldBy 46 = .ok (.getfield 15, 3) := by decide +kernel
theorem dX6_isToldBy_49 : decode cX6_isToldBy 49 = .ok (.iload 5, 2) := by decide +kernel
theorem dX6_isToldBy_51 : decode cX6_isToldBy 51 = .ok (.iaload, 1) := by decide +kernel
theorem dX6_isToldBy_52 : decode cX6_isToldBy 52 = .ok (.iconst 3, 1) := by decide +kernel
theorem dX6_isToldBy_53 : decode cX6_isToldBy 53 = .ok (.ishr, 1) := by decide +kernel
theorem dX6_isToldBy_54 : decode cX6_isToldBy 54 = .ok (.aload_n 0, 1) := by decide +kernel
theorem dX6_isToldBy_55 : decode cX6_isToldBy 55 = .ok (.getfield 43, 3) := by decide +kernel
theorem dX6_isToldBy_58 : decode cX6_isToldBy 58 = .ok (.if_icmp .eq 15, 3) := by decide +kernel
theorem dX6_isToldBy_61 : decode cX6_isToldBy 61 = .ok (.aload_n 0, 1) := by decide +kernel
theorem dX6_isToldBy_62 : decode cX6_isToldBy 62 = .ok (.getfield 15, 3) := by decide +kernel
theorem dX6_isToldBy_65 : decode cX6_isToldBy 65 = .ok (.iload 5, 2) := by decide +kernel
theorem dX6_isToldBy_67 : decode cX6_isToldBy 67 = .ok (.iload 4, 2) := by decide +kernel
theorem dX6_isToldBy_69 : decode cX6_isToldBy 69 = .ok (.iastore, 1) := by decide +kernel
theorem dX6_isToldBy_70 : decode cX6_isToldBy 70 = .ok (.goto 17, 3) := by decide +kernel
theorem dX6_isToldBy_73 : decode cX6_isToldBy 73 = .ok (.aload_n 0, 1) := by decide +kernel
theorem dX6_isToldBy_74 : decode cX6_isToldBy 74 = .ok (.getfield 15, 3) := by decide +kernel
theorem dX6_isToldBy_77 : decode cX6_isToldBy 77 = .ok (.iload 5, 2) := by decide +kernel
theorem dX6_isToldBy_79 : decode cX6_isToldBy 79 = .ok (.iaload, 1) := by decide +kernel
theorem dX6_isToldBy_80 : decode cX6_isToldBy 80 = .ok (.iload 4, 2) := by decide +kernel
theorem dX6_isToldBy_82 : decode cX6_isToldBy 82 = .ok (.if_icmp .eq 5, 3) := by decide +kernel
theorem dX6_isToldBy_85 : decode cX6_isToldBy 85 = .ok (.iconst 0, 1) := by decide +kernel
theorem dX6_isToldBy_86 : decode cX6_isToldBy 86 = .ok (.ireturn, 1) := by decide +kernel
theorem dX6_isToldBy_87 : decode cX6_isToldBy 87 = .ok (.iinc 3 1, 3) := by decide +kernel
theorem dX6_isToldBy_90 : decode cX6_isToldBy 90 = .ok (.goto (-78), 3) := by decide +kernel
theorem dX6_isToldBy_93 : decode cX6_isToldBy 93 = .ok (.iconst 1, 1) := by decide +kernel
theorem dX6_isToldBy_94 : decode cX6_isToldBy 94 = .ok (.ireturn, 1) := by decide +kernel
theorem dX6_pairsParted_0 : decode cX6_pairsParted 0 = .ok (.iconst 0, 1) := by decide +kernel
theorem dX6_pairsParted_1 : decode cX6_pairsParted 1 = .ok (.istore_n 3, 1) := by decide +kernel
theorem dX6_pairsParted_2 : decode cX6_pairsParted 2 = .ok (.iconst 0, 1) := by decide +kernel
theorem dX6_pairsParted_3 : decode cX6_pairsParted 3 = .ok (.istore 4, 2) := by decide +kernel
theorem dX6_pairsParted_5 : decode cX6_pairsParted 5 = .ok (.iload 4, 2) := by decide +kernel
theorem dX6_pairsParted_7 : decode cX6_pairsParted 7 = .ok (.aload_n 0, 1) := by decide +kernel
theorem dX6_pairsParted_8 : decode cX6_pairsParted 8 = .ok (.getfield 18, 3) := by decide +kernel
theorem dX6_pairsParted_11 : decode cX6_pairsParted 11 = .ok (.arraylength, 1) := by decide +kernel
theorem dX6_pairsParted_12 : decode cX6_pairsParted 12 = .ok (.if_icmp .ge 25, 3) := by decide +kernel
theorem dX6_pairsParted_15 : decode cX6_pairsParted 15 = .ok (.aload_n 0, 1) := by decide +kernel
theorem dX6_pairsParted_16 : decode cX6_pairsParted 16 = .ok (.getfield 18, 3) := by decide +kernel
theorem dX6_pairsParted_19 : decode cX6_pairsParted 19 = .ok (.iload 4, 2) := by decide +kernel
theorem dX6_pairsParted_21 : decode cX6_pairsParted 21 = .ok (.iconst 0, 1) := by decide +kernel
theorem dX6_pairsParted_22 : decode cX6_pairsParted 22 = .ok (.iastore, 1) := by decide +kernel
theorem dX6_pairsParted_23 : decode cX6_pairsParted 23 = .ok (.aload_n 0, 1) := by decide +kernel
theorem dX6_pairsParted_24 : decode cX6_pairsParted 24 = .ok (.getfield 21, 3) := by decide +kernel
theorem dX6_pairsParted_27 : decode cX6_pairsParted 27 = .ok (.iload 4, 2) := by decide +kernel
theorem dX6_pairsParted_29 : decode cX6_pairsParted 29 = .ok (.iconst 0, 1) := by decide +kernel
theorem dX6_pairsParted_30 : decode cX6_pairsParted 30 = .ok (.iastore, 1) := by decide +kernel
theorem dX6_pairsParted_31 : decode cX6_pairsParted 31 = .ok (.iinc 4 1, 3) := by decide +kernel
theorem dX6_pairsParted_34 : decode cX6_pairsParted 34 = .ok (.goto (-29), 3) := by decide +kernel
theorem dX6_pairsParted_37 : decode cX6_pairsParted 37 = .ok (.iconst 0, 1) := by decide +kernel
theorem dX6_pairsParted_38 : decode cX6_pairsParted 38 = .ok (.istore 4, 2) := by decide +kernel
theorem dX6_pairsParted_40 : decode cX6_pairsParted 40 = .ok (.iload 4, 2) := by decide +kernel
theorem dX6_pairsParted_42 : decode cX6_pairsParted 42 = .ok (.aload_n 0, 1) := by decide +kernel
theorem dX6_pairsParted_43 : decode cX6_pairsParted 43 = .ok (.getfield 24, 3) := by decide +kernel
theorem dX6_pairsParted_46 : decode cX6_pairsParted 46 = .ok (.arraylength, 1) := by decide +kernel
theorem dX6_pairsParted_47 : decode cX6_pairsParted 47 = .ok (.if_icmp .ge 59, 3) := by decide +kernel
theorem dX6_pairsParted_50 : decode cX6_pairsParted 50 = .ok (.aload_n 0, 1) := by decide +kernel
theorem dX6_pairsParted_51 : decode cX6_pairsParted 51 = .ok (.getfield 24, 3) := by decide +kernel
theorem dX6_pairsParted_54 : decode cX6_pairsParted 54 = .ok (.iload 4, 2) := by decide +kernel
theorem dX6_pairsParted_56 : decode cX6_pairsParted 56 = .ok (.iaload, 1) := by decide +kernel
theorem dX6_pairsParted_57 : decode cX6_pairsParted 57 = .ok (.iload_n 1, 1) := by decide +kernel
theorem dX6_pairsParted_58 : decode cX6_pairsParted 58 = .ok (.ishr, 1) := by decide +kernel
theorem dX6_pairsParted_59 : decode cX6_pairsParted 59 = .ok (.iconst 1, 1) := by decide +kernel
theorem dX6_pairsParted_60 : decode cX6_pairsParted 60 = .ok (.iand, 1) := by decide +kernel
theorem dX6_pairsParted_61 : decode cX6_pairsParted 61 = .ok (.ifCond .eq 24, 3) := by decide +kernel
theorem dX6_pairsParted_64 : decode cX6_pairsParted 64 = .ok (.aload_n 0, 1) := by decide +kernel
theorem dX6_pairsParted_65 : decode cX6_pairsParted 65 = .ok (.getfield 18, 3) := by decide +kernel
theorem dX6_pairsParted_68 : decode cX6_pairsParted 68 = .ok (.aload_n 2, 1) := by decide +kernel
theorem dX6_pairsParted_69 : decode cX6_pairsParted 69 = .ok (.iload 4, 2) := by decide +kernel
theorem dX6_pairsParted_71 : decode cX6_pairsParted 71 = .ok (.iaload, 1) := by decide +kernel
theorem dX6_pairsParted_72 : decode cX6_pairsParted 72 = .ok (.iconst 1, 1) := by decide +kernel
theorem dX6_pairsParted_73 : decode cX6_pairsParted 73 = .ok (.iadd, 1) := by decide +kernel
theorem dX6_pairsParted_74 : decode cX6_pairsParted 74 = .ok (.dup2, 1) := by decide +kernel
theorem dX6_pairsParted_75 : decode cX6_pairsParted 75 = .ok (.iaload, 1) := by decide +kernel
theorem dX6_pairsParted_76 : decode cX6_pairsParted 76 = .ok (.iconst 1, 1) := by decide +kernel
theorem dX6_pairsParted_77 : decode cX6_pairsParted 77 = .ok (.iadd, 1) := by decide +kernel
theorem dX6_pairsParted_78 : decode cX6_pairsParted 78 = .ok (.iastore, 1) := by decide +kernel
theorem dX6_pairsParted_79 : decode cX6_pairsParted 79 = .ok (.iinc 3 1, 3) := by decide +kernel
theorem dX6_pairsParted_82 : decode cX6_pairsParted 82 = .ok (.goto 18, 3) := by decide +kernel
theorem dX6_pairsParted_85 : decode cX6_pairsParted 85 = .ok (.aload_n 0, 1) := by decide +kernel
theorem dX6_pairsParted_86 : decode cX6_pairsParted 86 = .ok (.getfield 21, 3) := by decide +kernel
theorem dX6_pairsParted_89 : decode cX6_pairsParted 89 = .ok (.aload_n 2, 1) := by decide +kernel
theorem dX6_pairsParted_90 : decode cX6_pairsParted 90 = .ok (.iload 4, 2) := by decide +kernel
theorem dX6_pairsParted_92 : decode cX6_pairsParted 92 = .ok (.iaload, 1) := by decide +kernel
theorem dX6_pairsParted_93 : decode cX6_pairsParted 93 = .ok (.iconst 1, 1) := by decide +kernel
theorem dX6_pairsParted_94 : decode cX6_pairsParted 94 = .ok (.iadd, 1) := by decide +kernel
theorem dX6_pairsParted_95 : decode cX6_pairsParted 95 = .ok (.dup2, 1) := by decide +kernel
theorem dX6_pairsParted_96 : decode cX6_pairsParted 96 = .ok (.iaload, 1) := by decide +kernel
theorem dX6_pairsParted_97 : decode cX6_pairsParted 97 = .ok (.iconst 1, 1) := by decide +kernel
theorem dX6_pairsParted_98 : decode cX6_pairsParted 98 = .ok (.iadd, 1) := by decide +kernel
theorem dX6_pairsParted_99 : decode cX6_pairsParted 99 = .ok (.iastore, 1) := by decide +kernel
theorem dX6_pairsParted_100 : decode cX6_pairsParted 100 = .ok (.iinc 4 1, 3) := by decide +kernel
theorem dX6_pairsParted_103 : decode cX6_pairsParted 103 = .ok (.goto (-63), 3) := by decide +kernel
theorem dX6_pairsParted_106 : decode cX6_pairsParted 106 = .ok (.iconst 0, 1) := by decide +kernel
theorem dX6_pairsParted_107 : decode cX6_pairsParted 107 = .ok (.istore 4, 2) := by decide +kernel
theorem dX6_pairsParted_109 : decode cX6_pairsParted 109 = .ok (.iconst 0, 1) := by decide +kernel
theorem dX6_pairsParted_110 : decode cX6_pairsParted 110 = .ok (.istore 5, 2) := by decide +kernel
theorem dX6_pairsParted_112 : decode cX6_pairsParted 112 = .ok (.iload 5, 2) := by decide +kernel
theorem dX6_pairsParted_114 : decode cX6_pairsParted 114 = .ok (.aload_n 0, 1) := by decide +kernel
theorem dX6_pairsParted_115 : decode cX6_pairsParted 115 = .ok (.getfield 18, 3) := by decide +kernel
theorem dX6_pairsParted_118 : decode cX6_pairsParted 118 = .ok (.arraylength, 1) := by decide +kernel
theorem dX6_pairsParted_119 : decode cX6_pairsParted 119 = .ok (.if_icmp .ge 31, 3) := by decide +kernel
theorem dX6_pairsParted_122 : decode cX6_pairsParted 122 = .ok (.iload 4, 2) := by decide +kernel
theorem dX6_pairsParted_124 : decode cX6_pairsParted 124 = .ok (.iload_n 3, 1) := by decide +kernel
theorem dX6_pairsParted_125 : decode cX6_pairsParted 125 = .ok (.aload_n 0, 1) := by decide +kernel
theorem dX6_pairsParted_126 : decode cX6_pairsParted 126 = .ok (.getfield 18, 3) := by decide +kernel
theorem dX6_pairsParted_129 : decode cX6_pairsParted 129 = .ok (.iload 5, 2) := by decide +kernel
theorem dX6_pairsParted_131 : decode cX6_pairsParted 131 = .ok (.iaload, 1) := by decide +kernel
theorem dX6_pairsParted_132 : decode cX6_pairsParted 132 = .ok (.isub, 1) := by decide +kernel
theorem dX6_pairsParted_133 : decode cX6_pairsParted 133 = .ok (.aload_n 0, 1) := by decide +kernel
theorem dX6_pairsParted_134 : decode cX6_pairsParted 134 = .ok (.getfield 21, 3) := by decide +kernel
theorem dX6_pairsParted_137 : decode cX6_pairsParted 137 = .ok (.iload 5, 2) := by decide +kernel
theorem dX6_pairsParted_139 : decode cX6_pairsParted 139 = .ok (.iaload, 1) := by decide +kernel
theorem dX6_pairsParted_140 : decode cX6_pairsParted 140 = .ok (.imul, 1) := by decide +kernel
theorem dX6_pairsParted_141 : decode cX6_pairsParted 141 = .ok (.iadd, 1) := by decide +kernel
theorem dX6_pairsParted_142 : decode cX6_pairsParted 142 = .ok (.istore 4, 2) := by decide +kernel
theorem dX6_pairsParted_144 : decode cX6_pairsParted 144 = .ok (.iinc 5 1, 3) := by decide +kernel
theorem dX6_pairsParted_147 : decode cX6_pairsParted 147 = .ok (.goto (-35), 3) := by decide +kernel
theorem dX6_pairsParted_150 : decode cX6_pairsParted 150 = .ok (.iload 4, 2) := by decide +kernel
theorem dX6_pairsParted_152 : decode cX6_pairsParted 152 = .ok (.ireturn, 1) := by decide +kernel
theorem dX6_casesGiven_0 : decode cX6_casesGiven 0 = .ok (.iconst 0, 1) := by decide +kernel
theorem dX6_casesGiven_1 : decode cX6_casesGiven 1 = .ok (.istore_n 3, 1) := by decide +kernel
theorem dX6_casesGiven_2 : decode cX6_casesGiven 2 = .ok (.iconst 0, 1) := by decide +kernel
theorem dX6_casesGiven_3 : decode cX6_casesGiven 3 = .ok (.istore 4, 2) := by decide +kernel
theorem dX6_casesGiven_5 : decode cX6_casesGiven 5 = .ok (.iload 4, 2) := by decide +kernel
theorem dX6_casesGiven_7 : decode cX6_casesGiven 7 = .ok (.aload_n 0, 1) := by decide +kernel
theorem dX6_casesGiven_8 : decode cX6_casesGiven 8 = .ok (.getfield 24, 3) := by decide +kernel
theorem dX6_casesGiven_11 : decode cX6_casesGiven 11 = .ok (.arraylength, 1) := by decide +kernel
theorem dX6_casesGiven_12 : decode cX6_casesGiven 12 = .ok (.if_icmp .ge 30, 3) := by decide +kernel
theorem dX6_casesGiven_15 : decode cX6_casesGiven 15 = .ok (.iload_n 3, 1) := by decide +kernel
theorem dX6_casesGiven_16 : decode cX6_casesGiven 16 = .ok (.aload_n 0, 1) := by decide +kernel
theorem dX6_casesGiven_17 : decode cX6_casesGiven 17 = .ok (.getfield 24, 3) := by decide +kernel
theorem dX6_casesGiven_20 : decode cX6_casesGiven 20 = .ok (.iload 4, 2) := by decide +kernel
theorem dX6_casesGiven_22 : decode cX6_casesGiven 22 = .ok (.iaload, 1) := by decide +kernel
theorem dX6_casesGiven_23 : decode cX6_casesGiven 23 = .ok (.iload_n 1, 1) := by decide +kernel
theorem dX6_casesGiven_24 : decode cX6_casesGiven 24 = .ok (.iand, 1) := by decide +kernel
theorem dX6_casesGiven_25 : decode cX6_casesGiven 25 = .ok (.iload_n 2, 1) := by decide +kernel
theorem dX6_casesGiven_26 : decode cX6_casesGiven 26 = .ok (.if_icmp .ne 7, 3) := by decide +kernel
theorem dX6_casesGiven_29 : decode cX6_casesGiven 29 = .ok (.iconst 1, 1) := by decide +kernel
theorem dX6_casesGiven_30 : decode cX6_casesGiven 30 = .ok (.goto 4, 3) := by decide +kernel
theorem dX6_casesGiven_33 : decode cX6_casesGiven 33 = .ok (.iconst 0, 1) := by decide +kernel
theorem dX6_casesGiven_34 : decode cX6_casesGiven 34 = .ok (.iadd, 1) := by decide +kernel
theorem dX6_casesGiven_35 : decode cX6_casesGiven 35 = .ok (.istore_n 3, 1) := by decide +kernel
theorem dX6_casesGiven_36 : decode cX6_casesGiven 36 = .ok (.iinc 4 1, 3) := by decide +kernel
theorem dX6_casesGiven_39 : decode cX6_casesGiven 39 = .ok (.goto (-34), 3) := by decide +kernel
theorem dX6_casesGiven_42 : decode cX6_casesGiven 42 = .ok (.iload_n 3, 1) := by decide +kernel
theorem dX6_casesGiven_43 : decode cX6_casesGiven 43 = .ok (.ireturn, 1) := by decide +kernel
theorem dX6_toldGiven_0 : decode cX6_toldGiven 0 = .ok (.bipush (-2), 2) := by decide +kernel
theorem dX6_toldGiven_2 : decode cX6_toldGiven 2 = .ok (.istore 4, 2) := by decide +kernel
theorem dX6_toldGiven_4 : decode cX6_toldGiven 4 = .ok (.iconst 0, 1) := by decide +kernel
theorem dX6_toldGiven_5 : decode cX6_toldGiven 5 = .ok (.istore 5, 2) := by decide +kernel
theorem dX6_toldGiven_7 : decode cX6_toldGiven 7 = .ok (.iload 5, 2) := by decide +kernel
theorem dX6_toldGiven_9 : decode cX6_toldGiven 9 = .ok (.aload_n 0, 1) := by decide +kernel
theorem dX6_toldGiven_10 : decode cX6_toldGiven 10 = .ok (.getfield 24, 3) := by decide +kernel
theorem dX6_toldGiven_13 : decode cX6_toldGiven 13 = .ok (.arraylength, 1) := by decide +kernel
theorem dX6_toldGiven_14 : decode cX6_toldGiven 14 = .ok (.if_icmp .ge 47, 3) := by decide +kernel
theorem dX6_toldGiven_17 : decode cX6_toldGiven 17 = .ok (.aload_n 0, 1) := by decide +kernel
theorem dX6_toldGiven_18 : decode cX6_toldGiven 18 = .ok (.getfield 24, 3) := by decide +kernel
theorem dX6_toldGiven_21 : decode cX6_toldGiven 21 = .ok (.iload 5, 2) := by decide +kernel
theorem dX6_toldGiven_23 : decode cX6_toldGiven 23 = .ok (.iaload, 1) := by decide +kernel
theorem dX6_toldGiven_24 : decode cX6_toldGiven 24 = .ok (.iload_n 2, 1) := by decide +kernel
theorem dX6_toldGiven_25 : decode cX6_toldGiven 25 = .ok (.iand, 1) := by decide +kernel
theorem dX6_toldGiven_26 : decode cX6_toldGiven 26 = .ok (.iload_n 3, 1) := by decide +kernel
theorem dX6_toldGiven_27 : decode cX6_toldGiven 27 = .ok (.if_icmp .ne 28, 3) := by decide +kernel
theorem dX6_toldGiven_30 : decode cX6_toldGiven 30 = .ok (.iload 4, 2) := by decide +kernel
theorem dX6_toldGiven_32 : decode cX6_toldGiven 32 = .ok (.bipush (-2), 2) := by decide +kernel
theorem dX6_toldGiven_34 : decode cX6_toldGiven 34 = .ok (.if_icmp .eq 15, 3) := by decide +kernel
theorem dX6_toldGiven_37 : decode cX6_toldGiven 37 = .ok (.iload 4, 2) := by decide +kernel
theorem dX6_toldGiven_39 : decode cX6_toldGiven 39 = .ok (.aload_n 1, 1) := by decide +kernel
theorem dX6_toldGiven_40 : decode cX6_toldGiven 40 = .ok (.iload 5, 2) := by decide +kernel
theorem dX6_toldGiven_42 : decode cX6_toldGiven 42 = .ok (.iaload, 1) := by decide +kernel
theorem dX6_toldGiven_43 : decode cX6_toldGiven 43 = .ok (.if_icmp .eq 6, 3) := by decide +kernel
theorem dX6_toldGiven_46 : decode cX6_toldGiven 46 = .ok (.bipush (-2), 2) := by decide +kernel
theorem dX6_toldGiven_48 : decode cX6_toldGiven 48 = .ok (.ireturn, 1) := by decide +kernel
theorem dX6_toldGiven_49 : decode cX6_toldGiven 49 = .ok (.aload_n 1, 1) := by decide +kernel
theorem dX6_toldGiven_50 : decode cX6_toldGiven 50 = .ok (.iload 5, 2) := by decide +kernel
theorem dX6_toldGiven_52 : decode cX6_toldGiven 52 = .ok (.iaload, 1) := by decide +kernel
theorem dX6_toldGiven_53 : decode cX6_toldGiven 53 = .ok (.istore 4, 2) := by decide +kernel
theorem dX6_toldGiven_55 : decode cX6_toldGiven 55 = .ok (.iinc 5 1, 3) := by decide +kernel
theorem dX6_toldGiven_58 : decode cX6_toldGiven 58 = .ok (.goto (-51), 3) := by decide +kernel
theorem dX6_toldGiven_61 : decode cX6_toldGiven 61 = .ok (.iload 4, 2) := by decide +kernel
theorem dX6_toldGiven_63 : decode cX6_toldGiven 63 = .ok (.ireturn, 1) := by decide +kernel
theorem dX6_nextGiven_0 : decode cX6_nextGiven 0 = .ok (.aload_n 0, 1) := by decide +kernel
theorem dX6_nextGiven_1 : decode cX6_nextGiven 1 = .ok (.iload_n 1, 1) := by decide +kernel
theorem dX6_nextGiven_2 : decode cX6_nextGiven 2 = .ok (.iload_n 2, 1) := by decide +kernel
theorem dX6_nextGiven_3 : decode cX6_nextGiven 3 = .ok (.invokevirtual 46, 3) := by decide +kernel
theorem dX6_nextGiven_6 : decode cX6_nextGiven 6 = .ok (.istore_n 3, 1) := by decide +kernel
theorem dX6_nextGiven_7 : decode cX6_nextGiven 7 = .ok (.iconst (-1), 1) := by decide +kernel
theorem dX6_nextGiven_8 : decode cX6_nextGiven 8 = .ok (.istore 4, 2) := by decide +kernel
theorem dX6_nextGiven_10 : decode cX6_nextGiven 10 = .ok (.iload_n 3, 1) := by decide +kernel
theorem dX6_nextGiven_11 : decode cX6_nextGiven 11 = .ok (.iconst 1, 1) := by decide +kernel
theorem dX6_nextGiven_12 : decode cX6_nextGiven 12 = .ok (.iadd, 1) := by decide +kernel
theorem dX6_nextGiven_13 : decode cX6_nextGiven 13 = .ok (.istore 5, 2) := by decide +kernel
theorem dX6_nextGiven_15 : decode cX6_nextGiven 15 = .ok (.iconst 0, 1) := by decide +kernel
theorem dX6_nextGiven_16 : decode cX6_nextGiven 16 = .ok (.istore 6, 2) := by decide +kernel
theorem dX6_nextGiven_18 : decode cX6_nextGiven 18 = .ok (.iload 6, 2) := by decide +kernel
theorem dX6_nextGiven_20 : decode cX6_nextGiven 20 = .ok (.aload_n 0, 1) := by decide +kernel
theorem dX6_nextGiven_21 : decode cX6_nextGiven 21 = .ok (.getfield 27, 3) := by decide +kernel
theorem dX6_nextGiven_24 : decode cX6_nextGiven 24 = .ok (.if_icmp .ge 66, 3) := by decide +kernel
theorem dX6_nextGiven_27 : decode cX6_nextGiven 27 = .ok (.iload_n 3, 1) := by decide +kernel
theorem dX6_nextGiven_28 : decode cX6_nextGiven 28 = .ok (.ifCond .le 62, 3) := by decide +kernel
theorem dX6_nextGiven_31 : decode cX6_nextGiven 31 = .ok (.iload_n 1, 1) := by decide +kernel
theorem dX6_nextGiven_32 : decode cX6_nextGiven 32 = .ok (.iload 6, 2) := by decide +kernel
theorem dX6_nextGiven_34 : decode cX6_nextGiven 34 = .ok (.ishr, 1) := by decide +kernel
theorem dX6_nextGiven_35 : decode cX6_nextGiven 35 = .ok (.iconst 1, 1) := by decide +kernel
theorem dX6_nextGiven_36 : decode cX6_nextGiven 36 = .ok (.iand, 1) := by decide +kernel
theorem dX6_nextGiven_37 : decode cX6_nextGiven 37 = .ok (.ifCond .ne 47, 3) := by decide +kernel
theorem dX6_nextGiven_40 : decode cX6_nextGiven 40 = .ok (.aload_n 0, 1) := by decide +kernel
theorem dX6_nextGiven_41 : decode cX6_nextGiven 41 = .ok (.iload_n 1, 1) := by decide +kernel
theorem dX6_nextGiven_42 : decode cX6_nextGiven 42 = .ok (.iconst 1, 1) := by decide +kernel
theorem dX6_nextGiven_43 : decode cX6_nextGiven 43 = .ok (.iload 6, 2) := by decide +kernel
theorem dX6_nextGiven_45 : decode cX6_nextGiven 45 = .ok (.ishl, 1) := by decide +kernel
theorem dX6_nextGiven_46 : decode cX6_nextGiven 46 = .ok (.ior, 1) := by decide +kernel
theorem dX6_nextGiven_47 : decode cX6_nextGiven 47 = .ok (.iload_n 2, 1) := by decide +kernel
theorem dX6_nextGiven_48 : decode cX6_nextGiven 48 = .ok (.iconst 1, 1) := by decide +kernel
theorem dX6_nextGiven_49 : decode cX6_nextGiven 49 = .ok (.iload 6, 2) := by decide +kernel
theorem dX6_nextGiven_51 : decode cX6_nextGiven 51 = .ok (.ishl, 1) := by decide +kernel
theorem dX6_nextGiven_52 : decode cX6_nextGiven 52 = .ok (.ior, 1) := by decide +kernel
theorem dX6_nextGiven_53 : decode cX6_nextGiven 53 = .ok (.invokevirtual 46, 3) := by decide +kernel
theorem dX6_nextGiven_56 : decode cX6_nextGiven 56 = .ok (.istore 7, 2) := by decide +kernel
theorem dX6_nextGiven_58 : decode cX6_nextGiven 58 = .ok (.iload 7, 2) := by decide +kernel
theorem dX6_nextGiven_60 : decode cX6_nextGiven 60 = .ok (.iload_n 3, 1) := by decide +kernel
theorem dX6_nextGiven_61 : decode cX6_nextGiven 61 = .ok (.iload 7, 2) := by decide +kernel
theorem dX6_nextGiven_63 : decode cX6_nextGiven 63 = .ok (.isub, 1) := by decide +kernel
theorem dX6_nextGiven_64 : decode cX6_nextGiven 64 = .ok (.invokestatic 50, 3) := by decide +kernel
theorem dX6_nextGiven_67 : decode cX6_nextGiven 67 = .ok (.istore 8, 2) := by decide +kernel
theorem dX6_nextGiven_69 : decode cX6_nextGiven 69 = .ok (.iload 8, 2) := by decide +kernel
theorem dX6_nextGiven_71 : decode cX6_nextGiven 71 = .ok (.iload 5, 2) := by decide +kernel
theorem dX6_nextGiven_73 : decode cX6_nextGiven 73 = .ok (.if_icmp .ge 11, 3) := by decide +kernel
theorem dX6_nextGiven_76 : decode cX6_nextGiven 76 = .ok (.iload 8, 2) := by decide +kernel
theorem dX6_nextGiven_78 : decode cX6_nextGiven 78 = .ok (.istore 5, 2) := by decide +kernel
theorem dX6_nextGiven_80 : decode cX6_nextGiven 80 = .ok (.iload 6, 2) := by decide +kernel
theorem dX6_nextGiven_82 : decode cX6_nextGiven 82 = .ok (.istore 4, 2) := by decide +kernel
theorem dX6_nextGiven_84 : decode cX6_nextGiven 84 = .ok (.iinc 6 1, 3) := by decide +kernel
theorem dX6_nextGiven_87 : decode cX6_nextGiven 87 = .ok (.goto (-69), 3) := by decide +kernel
theorem dX6_nextGiven_90 : decode cX6_nextGiven 90 = .ok (.iload 4, 2) := by decide +kernel
theorem dX6_nextGiven_92 : decode cX6_nextGiven 92 = .ok (.ireturn, 1) := by decide +kernel

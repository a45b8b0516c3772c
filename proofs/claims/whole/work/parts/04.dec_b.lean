theorem dX7_init_0 : decode cX7_init 0 = .ok (.aload_n 0, 1) := by decide +kernel
theorem dX7_init_1 : decode cX7_init 1 = .ok (.invokespecial 3, 3) := by decide +kernel
theorem dX7_init_4 : decode cX7_init 4 = .ok (.aload_n 0, 1) := by decide +kernel
theorem dX7_init_5 : decode cX7_init 5 = .ok (.sipush 160, 3) := by decide +kernel
theorem dX7_init_8 : decode cX7_init 8 = .ok (.newarray .int, 2) := by decide +kernel
theorem dX7_init_10 : decode cX7_init 10 = .ok (.putfield 9, 3) := by decide +kernel
theorem dX7_init_13 : decode cX7_init 13 = .ok (.aload_n 0, 1) := by decide +kernel
theorem dX7_init_14 : decode cX7_init 14 = .ok (.bipush 12, 2) := by decide +kernel
theorem dX7_init_16 : decode cX7_init 16 = .ok (.newarray .int, 2) := by decide +kernel
theorem dX7_init_18 : decode cX7_init 18 = .ok (.putfield 15, 3) := by decide +kernel
theorem dX7_init_21 : decode cX7_init 21 = .ok (.aload_n 0, 1) := by decide +kernel
theorem dX7_init_22 : decode cX7_init 22 = .ok (.bipush 12, 2) := by decide +kernel
theorem dX7_init_24 : decode cX7_init 24 = .ok (.newarray .int, 2) := by decide +kernel
theorem dX7_init_26 : decode cX7_init 26 = .ok (.putfield 18, 3) := by decide +kernel
theorem dX7_init_29 : decode cX7_init 29 = .ok (.aload_n 0, 1) := by decide +kernel
theorem dX7_init_30 : decode cX7_init 30 = .ok (.bipush 12, 2) := by decide +kernel
theorem dX7_init_32 : decode cX7_init 32 = .ok (.newarray .int, 2) := by decide +kernel
theorem dX7_init_34 : decode cX7_init 34 = .ok (.putfield 21, 3) := by decide +kernel
theorem dX7_init_37 : decode cX7_init 37 = .ok (.aload_n 0, 1) := by decide +kernel
theorem dX7_init_38 : decode cX7_init 38 = .ok (.bipush 12, 2) := by decide +kernel
theorem dX7_init_40 : decode cX7_init 40 = .ok (.newarray .int, 2) := by decide +kernel
theorem dX7_init_42 : decode cX7_init 42 = .ok (.putfield 24, 3) := by decide +kernel
theorem dX7_init_45 : decode cX7_init 45 = .ok (.aload_n 0, 1) := by decide +kernel
theorem dX7_init_46 : decode cX7_init 46 = .ok (.new 27, 3) := by decide +kernel
theorem dX7_init_49 : decode cX7_init 49 = .ok (.dup, 1) := by decide +kernel
theorem dX7_init_50 : decode cX7_init 50 = .ok (.invokespecial 29, 3) := by decide +kernel
theorem dX7_init_53 : decode cX7_init 53 = .ok (.putfield 30, 3) := by decide +kernel
theorem dX7_init_56 : decode cX7_init 56 = .ok (.aload_n 0, 1) := by decide +kernel
theorem dX7_init_57 : decode cX7_init 57 = .ok (.aload_n 1, 1) := by decide +kernel
theorem dX7_init_58 : decode cX7_init 58 = .ok (.putfield 34, 3) := by decide +kernel
theorem dX7_init_61 : decode cX7_init 61 = .ok (.aload_n 0, 1) := by decide +kernel
theorem dX7_init_62 : decode cX7_init 62 = .ok (.iload_n 2, 1) := by decide +kernel
theorem dX7_init_63 : decode cX7_init 63 = .ok (.putfield 38, 3) := by decide +kernel
theorem dX7_init_66 : decode cX7_init 66 = .ok (.return_, 1) := by decide +kernel
theorem dX7_readAs_0 : decode cX7_readAs 0 = .ok (.aload_n 0, 1) := by decide +kernel
theorem dX7_readAs_1 : decode cX7_readAs 1 = .ok (.getfield 34, 3) := by decide +kernel
theorem dX7_readAs_4 : decode cX7_readAs 4 = .ok (.invokevirtual 42, 3) := by decide +kernel
theorem dX7_readAs_7 : decode cX7_readAs 7 = .ok (.aload_n 0, 1) := by decide +kernel
theorem dX7_readAs_8 : decode cX7_readAs 8 = .ok (.iconst 0, 1) := by decide +kernel
theorem dX7_readAs_9 : decode cX7_readAs 9 = .ok (.putfield 47, 3) := by decide +kernel
theorem dX7_readAs_12 : decode cX7_readAs 12 = .ok (.aload_n 0, 1) := by decide +kernel
theorem dX7_readAs_13 : decode cX7_readAs 13 = .ok (.iconst 0, 1) := by decide +kernel
theorem dX7_readAs_14 : decode cX7_readAs 14 = .ok (.putfield 50, 3) := by decide +kernel
theorem dX7_readAs_17 : decode cX7_readAs 17 = .ok (.aload_n 0, 1) := by decide +kernel
theorem dX7_readAs_18 : decode cX7_readAs 18 = .ok (.iconst 0, 1) := by decide +kernel
theorem dX7_readAs_19 : decode cX7_readAs 19 = .ok (.putfield 53, 3) := by decide +kernel
theorem dX7_readAs_22 : decode cX7_readAs 22 = .ok (.iload_n 1, 1) := by decide +kernel
theorem dX7_readAs_23 : decode cX7_readAs 23 = .ok (.iconst 1, 1) := by decide +kernel
theorem dX7_readAs_24 : decode cX7_readAs 24 = .ok (.if_icmp .ne 60, 3) := by decide +kernel
theorem dX7_readAs_27 : decode cX7_readAs 27 = .ok (.aload_n 0, 1) := by decide +kernel
theorem dX7_readAs_28 : decode cX7_readAs 28 = .ok (.iconst 0, 1) := by decide +kernel
theorem dX7_readAs_29 : decode cX7_readAs 29 = .ok (.invokevirtual 56, 3) := by decide +kernel
theorem dX7_readAs_32 : decode cX7_readAs 32 = .ok (.ifCond .eq 34, 3) := by decide +kernel
theorem dX7_readAs_35 : decode cX7_readAs 35 = .ok (.aload_n 0, 1) := by decide +kernel
theorem dX7_readAs_36 : decode cX7_readAs 36 = .ok (.getfield 34, 3) := by decide +kernel
theorem dX7_readAs_39 : decode cX7_readAs 39 = .ok (.invokevirtual 60, 3) := by decide +kernel
theorem dX7_readAs_42 : decode cX7_readAs 42 = .ok (.ifCond .eq 20, 3) := by decide +kernel
theorem dX7_readAs_45 : decode cX7_readAs 45 = .ok (.aload_n 0, 1) := by decide +kernel
theorem dX7_readAs_46 : decode cX7_readAs 46 = .ok (.getfield 34, 3) := by decide +kernel
theorem dX7_readAs_49 : decode cX7_readAs 49 = .ok (.aload_n 0, 1) := by decide +kernel
theorem dX7_readAs_50 : decode cX7_readAs 50 = .ok (.getfield 34, 3) := by decide +kernel
theorem dX7_readAs_53 : decode cX7_readAs 53 = .ok (.getfield 64, 3) := by decide +kernel
theorem dX7_readAs_56 : decode cX7_readAs 56 = .ok (.invokevirtual 67, 3) := by decide +kernel
theorem dX7_readAs_59 : decode cX7_readAs 59 = .ok (.ifCond .eq 7, 3) := by decide +kernel
theorem dX7_readAs_62 : decode cX7_readAs 62 = .ok (.iconst 1, 1) := by decide +kernel
theorem dX7_readAs_63 : decode cX7_readAs 63 = .ok (.goto 4, 3) := by decide +kernel
theorem dX7_readAs_66 : decode cX7_readAs 66 = .ok (.iconst 0, 1) := by decide +kernel
theorem dX7_readAs_67 : decode cX7_readAs 67 = .ok (.istore_n 2, 1) := by decide +kernel
theorem dX7_readAs_68 : decode cX7_readAs 68 = .ok (.iload_n 2, 1) := by decide +kernel
theorem dX7_readAs_69 : decode cX7_readAs 69 = .ok (.ifCond .eq 7, 3) := by decide +kernel
theorem dX7_readAs_72 : decode cX7_readAs 72 = .ok (.iconst (-1), 1) := by decide +kernel
theorem dX7_readAs_73 : decode cX7_readAs 73 = .ok (.goto 10, 3) := by decide +kernel
theorem dX7_readAs_76 : decode cX7_readAs 76 = .ok (.aload_n 0, 1) := by decide +kernel
theorem dX7_readAs_77 : decode cX7_readAs 77 = .ok (.getfield 34, 3) := by decide +kernel
theorem dX7_readAs_80 : decode cX7_readAs 80 = .ok (.getfield 70, 3) := by decide +kernel
theorem dX7_readAs_83 : decode cX7_readAs 83 = .ok (.ireturn, 1) := by decide +kernel
theorem dX7_readAs_84 : decode cX7_readAs 84 = .ok (.iconst 1, 1) := by decide +kernel
theorem dX7_readAs_85 : decode cX7_readAs 85 = .ok (.istore_n 2, 1) := by decide +kernel
theorem dX7_readAs_86 : decode cX7_readAs 86 = .ok (.iconst 0, 1) := by decide +kernel
theorem dX7_readAs_87 : decode cX7_readAs 87 = .ok (.istore_n 3, 1) := by decide +kernel
theorem dX7_readAs_88 : decode cX7_readAs 88 = .ok (.iload_n 3, 1) := by decide +kernel
theorem dX7_readAs_89 : decode cX7_readAs 89 = .ok (.bipush 12, 2) := by decide +kernel
theorem dX7_readAs_91 : decode cX7_readAs 91 = .ok (.if_icmp .ge 50, 3) := by decide +kernel
theorem dX7_readAs_94 : decode cX7_readAs 94 = .ok (.iload_n 2, 1) := by decide +kernel
theorem dX7_readAs_95 : decode cX7_readAs 95 = .ok (.ifCond .eq 46, 3) := by decide +kernel
theorem dX7_readAs_98 : decode cX7_readAs 98 = .ok (.iload_n 1, 1) := by decide +kernel
theorem dX7_readAs_99 : decode cX7_readAs 99 = .ok (.ifCond .ne 14, 3) := by decide +kernel
theorem dX7_readAs_102 : decode cX7_readAs 102 = .ok (.aload_n 0, 1) := by decide +kernel
theorem dX7_readAs_103 : decode cX7_readAs 103 = .ok (.iload_n 3, 1) := by decide +kernel
theorem dX7_readAs_104 : decode cX7_readAs 104 = .ok (.invokevirtual 73, 3) := by decide +kernel
theorem dX7_readAs_107 : decode cX7_readAs 107 = .ok (.ifCond .eq 26, 3) := by decide +kernel
theorem dX7_readAs_110 : decode cX7_readAs 110 = .ok (.goto 11, 3) := by decide +kernel
theorem dX7_readAs_113 : decode cX7_readAs 113 = .ok (.aload_n 0, 1) := by decide +kernel
theorem dX7_readAs_114 : decode cX7_readAs 114 = .ok (.iload_n 3, 1) := by decide +kernel
theorem dX7_readAs_115 : decode cX7_readAs 115 = .ok (.invokevirtual 76, 3) := by decide +kernel
theorem dX7_readAs_118 : decode cX7_readAs 118 = .ok (.ifCond .eq 15, 3) := by decide +kernel
theorem dX7_readAs_121 : decode cX7_readAs 121 = .ok (.aload_n 0, 1) := by decide +kernel
theorem dX7_readAs_122 : decode cX7_readAs 122 = .ok (.iload_n 3, 1) := by decide +kernel
theorem dX7_readAs_123 : decode cX7_readAs 123 = .ok (.invokevirtual 79, 3) := by decide +kernel
theorem dX7_readAs_126 : decode cX7_readAs 126 = .ok (.ifCond .eq 7, 3) := by decide +kernel
theorem dX7_readAs_129 : decode cX7_readAs 129 = .ok (.iconst 1, 1) := by decide +kernel
theorem dX7_readAs_130 : decode cX7_readAs 130 = .ok (.goto 4, 3) := by decide +kernel
theorem dX7_readAs_133 : decode cX7_readAs 133 = .ok (.iconst 0, 1) := by decide +kernel
theorem dX7_readAs_134 : decode cX7_readAs 134 = .ok (.istore_n 2, 1) := by decide +kernel
theorem dX7_readAs_135 : decode cX7_readAs 135 = .ok (.iinc 3 1, 3) := by decide +kernel
theorem dX7_readAs_138 : decode cX7_readAs 138 = .ok (.goto (-50), 3) := by decide +kernel
theorem dX7_readAs_141 : decode cX7_readAs 141 = .ok (.aload_n 0, 1) := by decide +kernel
theorem dX7_readAs_142 : decode cX7_readAs 142 = .ok (.getfield 34, 3) := by decide +kernel
theorem dX7_readAs_145 : decode cX7_readAs 145 = .ok (.getfield 70, 3) := by decide +kernel
theorem dX7_readAs_148 : decode cX7_readAs 148 = .ok (.iconst (-1), 1) := by decide +kernel
theorem dX7_readAs_149 : decode cX7_readAs 149 = .ok (.if_icmp .ne 34, 3) := by decide +kernel
theorem dX7_readAs_152 : decode cX7_readAs 152 = .ok (.iload_n 1, 1) := by decide +kernel
theorem dX7_readAs_153 : decode cX7_readAs 153 = .ok (.iconst 2, 1) := by decide +kernel
theorem dX7_readAs_154 : decode cX7_readAs 154 = .ok (.if_icmp .ne 29, 3) := by decide +kernel
theorem dX7_readAs_157 : decode cX7_readAs 157 = .ok (.aload_n 0, 1) := by decide +kernel
theorem dX7_readAs_158 : decode cX7_readAs 158 = .ok (.getfield 53, 3) := by decide +kernel
theorem dX7_readAs_161 : decode cX7_readAs 161 = .ok (.aload_n 0, 1) := by decide +kernel
theorem dX7_readAs_162 : decode cX7_readAs 162 = .ok (.getfield 50, 3) := by decide +kernel
theorem dX7_readAs_165 : decode cX7_readAs 165 = .ok (.if_icmp .lt 18, 3) := by decide +kernel
theorem dX7_readAs_168 : decode cX7_readAs 168 = .ok (.aload_n 0, 1) := by decide +kernel
theorem dX7_readAs_169 : decode cX7_readAs 169 = .ok (.getfield 34, 3) := by decide +kernel
theorem dX7_readAs_172 : decode cX7_readAs 172 = .ok (.aload_n 0, 1) := by decide +kernel
theorem dX7_readAs_173 : decode cX7_readAs 173 = .ok (.getfield 34, 3) := by decide +kernel
theorem dX7_readAs_176 : decode cX7_readAs 176 = .ok (.getfield 82, 3) := by decide +kernel
theorem dX7_readAs_179 : decode cX7_readAs 179 = .ok (.invokevirtual 67, 3) := by decide +kernel
theorem dX7_readAs_182 : decode cX7_readAs 182 = .ok (.pop, 1) := by decide +kernel
theorem dX7_readAs_183 : decode cX7_readAs 183 = .ok (.aload_n 0, 1) := by decide +kernel
theorem dX7_readAs_184 : decode cX7_readAs 184 = .ok (.getfield 34, 3) := by decide +kernel
theorem dX7_readAs_187 : decode cX7_readAs 187 = .ok (.getfield 70, 3) := by decide +kernel
theorem dX7_readAs_190 : decode cX7_readAs 190 = .ok (.ireturn, 1) := by decide +kernel
theorem dX7_goesOn_0 : decode cX7_goesOn 0 = .ok (.aload_n 0, 1) := by decide +kernel
theorem dX7_goesOn_1 : decode cX7_goesOn 1 = .ok (.iload_n 1, 1) := by decide +kernel
theorem dX7_goesOn_2 : decode cX7_goesOn 2 = .ok (.iconst 1, 1) := by decide +kernel
theorem dX7_goesOn_3 : decode cX7_goesOn 3 = .ok (.iadd, 1) := by decide +kernel
theorem dX7_goesOn_4 : decode cX7_goesOn 4 = .ok (.putfield 50, 3) := by decide +kernel
theorem dX7_goesOn_7 : decode cX7_goesOn 7 = .ok (.aload_n 0, 1) := by decide +kernel
theorem dX7_goesOn_8 : decode cX7_goesOn 8 = .ok (.getfield 34, 3) := by decide +kernel
theorem dX7_goesOn_11 : decode cX7_goesOn 11 = .ok (.invokevirtual 60, 3) := by decide +kernel
theorem dX7_goesOn_14 : decode cX7_goesOn 14 = .ok (.ifCond .ne 5, 3) := by decide +kernel
theorem dX7_goesOn_17 : decode cX7_goesOn 17 = .ok (.iconst 0, 1) := by decide +kernel
theorem dX7_goesOn_18 : decode cX7_goesOn 18 = .ok (.ireturn, 1) := by decide +kernel
theorem dX7_goesOn_19 : decode cX7_goesOn 19 = .ok (.aload_n 0, 1) := by decide +kernel
theorem dX7_goesOn_20 : decode cX7_goesOn 20 = .ok (.getfield 50, 3) := by decide +kernel
theorem dX7_goesOn_23 : decode cX7_goesOn 23 = .ok (.bipush 12, 2) := by decide +kernel
theorem dX7_goesOn_25 : decode cX7_goesOn 25 = .ok (.if_icmp .ne 20, 3) := by decide +kernel
theorem dX7_goesOn_28 : decode cX7_goesOn 28 = .ok (.aload_n 0, 1) := by decide +kernel
theorem dX7_goesOn_29 : decode cX7_goesOn 29 = .ok (.getfield 34, 3) := by decide +kernel
theorem dX7_goesOn_32 : decode cX7_goesOn 32 = .ok (.aload_n 0, 1) := by decide +kernel
theorem dX7_goesOn_33 : decode cX7_goesOn 33 = .ok (.getfield 34, 3) := by decide +kernel
theorem dX7_goesOn_36 : decode cX7_goesOn 36 = .ok (.getfield 64, 3) := by decide +kernel
theorem dX7_goesOn_39 : decode cX7_goesOn 39 = .ok (.invokevirtual 67, 3) := by decide +kernel
theorem dX7_goesOn_42 : decode cX7_goesOn 42 = .ok (.goto 12, 3) := by decide +kernel
theorem dX7_goesOn_45 : decode cX7_goesOn 45 = .ok (.aload_n 0, 1) := by decide +kernel
theorem dX7_goesOn_46 : decode cX7_goesOn 46 = .ok (.getfield 34, 3) := by decide +kernel
theorem dX7_goesOn_49 : decode cX7_goesOn 49 = .ok (.bipush 59, 2) := by decide +kernel
theorem dX7_goesOn_51 : decode cX7_goesOn 51 = .ok (.invokevirtual 85, 3) := by decide +kernel
theorem dX7_goesOn_54 : decode cX7_goesOn 54 = .ok (.ireturn, 1) := by decide +kernel
theorem dX7_clause_0 : decode cX7_clause 0 = .ok (.aload_n 0, 1) := by decide +kernel
theorem dX7_clause_1 : decode cX7_clause 1 = .ok (.getfield 34, 3) := by decide +kernel
theorem dX7_clause_4 : decode cX7_clause 4 = .ok (.invokevirtual 60, 3) := by decide +kernel
theorem dX7_clause_7 : decode cX7_clause 7 = .ok (.istore_n 2, 1) := by decide +kernel
theorem dX7_clause_8 : decode cX7_clause 8 = .ok (.iload_n 2, 1) := by decide +kernel
theorem dX7_clause_9 : decode cX7_clause 9 = .ok (.bipush 48, 2) := by decide +kernel
theorem dX7_clause_11 : decode cX7_clause 11 = .ok (.if_icmp .lt 9, 3) := by decide +kernel
theorem dX7_clause_14 : decode cX7_clause 14 = .ok (.iload_n 2, 1) := by decide +kernel
theorem dX7_clause_15 : decode cX7_clause 15 = .ok (.bipush 53, 2) := by decide +kernel
theorem dX7_clause_17 : decode cX7_clause 17 = .ok (.if_icmp .le 18, 3) := by decide +kernel
theorem dX7_clause_20 : decode cX7_clause 20 = .ok (.aload_n 0, 1) := by decide +kernel
theorem dX7_clause_21 : decode cX7_clause 21 = .ok (.getfield 34, 3) := by decide +kernel
theorem dX7_clause_24 : decode cX7_clause 24 = .ok (.aload_n 0, 1) := by decide +kernel
theorem dX7_clause_25 : decode cX7_clause 25 = .ok (.getfield 34, 3) := by decide +kernel
theorem dX7_clause_28 : decode cX7_clause 28 = .ok (.getfield 64, 3) := by decide +kernel
theorem dX7_clause_31 : decode cX7_clause 31 = .ok (.invokevirtual 67, 3) := by decide +kernel
theorem dX7_clause_34 : decode cX7_clause 34 = .ok (.ireturn, 1) := by decide +kernel
theorem dX7_clause_35 : decode cX7_clause 35 = .ok (.aload_n 0, 1) := by decide +kernel
theorem dX7_clause_36 : decode cX7_clause 36 = .ok (.getfield 34, 3) := by decide +kernel
theorem dX7_clause_39 : decode cX7_clause 39 = .ok (.dup, 1) := by decide +kernel
theorem dX7_clause_40 : decode cX7_clause 40 = .ok (.getfield 64, 3) := by decide +kernel
theorem dX7_clause_43 : decode cX7_clause 43 = .ok (.iconst 1, 1) := by decide +kernel
theorem dX7_clause_44 : decode cX7_clause 44 = .ok (.iadd, 1) := by decide +kernel
theorem dX7_clause_45 : decode cX7_clause 45 = .ok (.putfield 64, 3) := by decide +kernel
theorem dX7_clause_48 : decode cX7_clause 48 = .ok (.aload_n 0, 1) := by decide +kernel
theorem dX7_clause_49 : decode cX7_clause 49 = .ok (.getfield 15, 3) := by decide +kernel
theorem dX7_clause_52 : decode cX7_clause 52 = .ok (.iload_n 1, 1) := by decide +kernel
theorem dX7_clause_53 : decode cX7_clause 53 = .ok (.iload_n 2, 1) := by decide +kernel
theorem dX7_clause_54 : decode cX7_clause 54 = .ok (.bipush 48, 2) := by decide +kernel
theorem dX7_clause_56 : decode cX7_clause 56 = .ok (.isub, 1) := by decide +kernel
theorem dX7_clause_57 : decode cX7_clause 57 = .ok (.iastore, 1) := by decide +kernel
theorem dX7_clause_58 : decode cX7_clause 58 = .ok (.aload_n 0, 1) := by decide +kernel
theorem dX7_clause_59 : decode cX7_clause 59 = .ok (.getfield 18, 3) := by decide +kernel
theorem dX7_clause_62 : decode cX7_clause 62 = .ok (.iload_n 1, 1) := by decide +kernel
theorem dX7_clause_63 : decode cX7_clause 63 = .ok (.aload_n 0, 1) := by decide +kernel
theorem dX7_clause_64 : decode cX7_clause 64 = .ok (.getfield 47, 3) := by decide +kernel
theorem dX7_clause_67 : decode cX7_clause 67 = .ok (.iastore, 1) := by decide +kernel
theorem dX7_clause_68 : decode cX7_clause 68 = .ok (.aload_n 0, 1) := by decide +kernel
theorem dX7_clause_69 : decode cX7_clause 69 = .ok (.getfield 34, 3) := by decide +kernel
theorem dX7_clause_72 : decode cX7_clause 72 = .ok (.bipush 58, 2) := by decide +kernel
theorem dX7_clause_74 : decode cX7_clause 74 = .ok (.invokevirtual 85, 3) := by decide +kernel
theorem dX7_clause_77 : decode cX7_clause 77 = .ok (.ifCond .eq 11, 3) := by decide +kernel
theorem dX7_clause_80 : decode cX7_clause 80 = .ok (.aload_n 0, 1) := by decide +kernel
theorem dX7_clause_81 : decode cX7_clause 81 = .ok (.iconst 0, 1) := by decide +kernel
theorem dX7_clause_82 : decode cX7_clause 82 = .ok (.invokevirtual 56, 3) := by decide +kernel
theorem dX7_clause_85 : decode cX7_clause 85 = .ok (.ifCond .ne 5, 3) := by decide +kernel
theorem dX7_clause_88 : decode cX7_clause 88 = .ok (.iconst 0, 1) := by decide +kernel
theorem dX7_clause_89 : decode cX7_clause 89 = .ok (.ireturn, 1) := by decide +kernel
theorem dX7_clause_90 : decode cX7_clause 90 = .ok (.aload_n 0, 1) := by decide +kernel
theorem dX7_clause_91 : decode cX7_clause 91 = .ok (.getfield 21, 3) := by decide +kernel
theorem dX7_clause_94 : decode cX7_clause 94 = .ok (.iload_n 1, 1) := by decide +kernel
theorem dX7_clause_95 : decode cX7_clause 95 = .ok (.aload_n 0, 1) := by decide +kernel
theorem dX7_clause_96 : decode cX7_clause 96 = .ok (.getfield 47, 3) := by decide +kernel
theorem dX7_clause_99 : decode cX7_clause 99 = .ok (.iastore, 1) := by decide +kernel
theorem dX7_clause_100 : decode cX7_clause 100 = .ok (.aload_n 0, 1) := by decide +kernel
theorem dX7_clause_101 : decode cX7_clause 101 = .ok (.getfield 34, 3) := by decide +kernel
theorem dX7_clause_104 : decode cX7_clause 104 = .ok (.bipush 117, 2) := by decide +kernel
theorem dX7_clause_106 : decode cX7_clause 106 = .ok (.invokevirtual 89, 3) := by decide +kernel
theorem dX7_clause_109 : decode cX7_clause 109 = .ok (.ifCond .eq 11, 3) := by decide +kernel
theorem dX7_clause_112 : decode cX7_clause 112 = .ok (.aload_n 0, 1) := by decide +kernel
theorem dX7_clause_113 : decode cX7_clause 113 = .ok (.iconst 0, 1) := by decide +kernel
theorem dX7_clause_114 : decode cX7_clause 114 = .ok (.invokevirtual 56, 3) := by decide +kernel
theorem dX7_clause_117 : decode cX7_clause 117 = .ok (.ifCond .eq 7, 3) := by decide +kernel
theorem dX7_clause_120 : decode cX7_clause 120 = .ok (.iconst 1, 1) := by decide +kernel
theorem dX7_clause_121 : decode cX7_clause 121 = .ok (.goto 4, 3) := by decide +kernel
theorem dX7_clause_124 : decode cX7_clause 124 = .ok (.iconst 0, 1) := by decide +kernel
theorem dX7_clause_125 : decode cX7_clause 125 = .ok (.istore_n 3, 1) := by decide +kernel
theorem dX7_clause_126 : decode cX7_clause 126 = .ok (.aload_n 0, 1) := by decide +kernel
theorem dX7_clause_127 : decode cX7_clause 127 = .ok (.getfield 24, 3) := by decide +kernel
theorem dX7_clause_130 : decode cX7_clause 130 = .ok (.iload_n 1, 1) := by decide +kernel
theorem dX7_clause_131 : decode cX7_clause 131 = .ok (.aload_n 0, 1) := by decide +kernel
theorem dX7_clause_132 : decode cX7_clause 132 = .ok (.getfield 47, 3) := by decide +kernel
theorem dX7_clause_135 : decode cX7_clause 135 = .ok (.iastore, 1) := by decide +kernel
theorem dX7_clause_136 : decode cX7_clause 136 = .ok (.iload_n 3, 1) := by decide +kernel
theorem dX7_clause_137 : decode cX7_clause 137 = .ok (.ireturn, 1) := by decide +kernel
theorem dX7_condition_0 : decode cX7_condition 0 = .ok (.aload_n 0, 1) := by decide +kernel
theorem dX7_condition_1 : decode cX7_condition 1 = .ok (.iload_n 1, 1) := by decide +kernel
theorem dX7_condition_2 : decode cX7_condition 2 = .ok (.invokevirtual 92, 3) := by decide +kernel
theorem dX7_condition_5 : decode cX7_condition 5 = .ok (.istore_n 2, 1) := by decide +kernel
theorem dX7_condition_6 : decode cX7_condition 6 = .ok (.iconst 0, 1) := by decide +kernel
theorem dX7_condition_7 : decode cX7_condition 7 = .ok (.istore_n 3, 1) := by decide +kernel
theorem dX7_condition_8 : decode cX7_condition 8 = .ok (.iload_n 3, 1) := by decide +kernel
theorem dX7_condition_9 : decode cX7_condition 9 = .ok (.sipush 160, 3) := by decide +kernel
theorem dX7_condition_12 : decode cX7_condition 12 = .ok (.if_icmp .ge 47, 3) := by decide +kernel
theorem dX7_condition_15 : decode cX7_condition 15 = .ok (.iload_n 2, 1) := by decide +kernel
theorem dX7_condition_16 : decode cX7_condition 16 = .ok (.ifCond .eq 43, 3) := by decide +kernel
theorem dX7_condition_19 : decode cX7_condition 19 = .ok (.aload_n 0, 1) := by decide +kernel
theorem dX7_condition_20 : decode cX7_condition 20 = .ok (.getfield 34, 3) := by decide +kernel
theorem dX7_condition_23 : decode cX7_condition 23 = .ok (.bipush 124, 2) := by decide +kernel
theorem dX7_condition_25 : decode cX7_condition 25 = .ok (.invokevirtual 89, 3) := by decide +kernel
theorem dX7_condition_28 : decode cX7_condition 28 = .ok (.ifCond .eq 31, 3) := by decide +kernel
theorem dX7_condition_31 : decode cX7_condition 31 = .ok (.aload_n 0, 1) := by decide +kernel
theorem dX7_condition_32 : decode cX7_condition 32 = .ok (.iload_n 1, 1) := by decide +kernel
theorem dX7_condition_33 : decode cX7_condition 33 = .ok (.invokevirtual 92, 3) := by decide +kernel
theorem dX7_condition_36 : decode cX7_condition 36 = .ok (.ifCond .eq 15, 3) := by decide +kernel
theorem dX7_condition_39 : decode cX7_condition 39 = .ok (.aload_n 0, 1) := by decide +kernel
theorem dX7_condition_40 : decode cX7_condition 40 = .ok (.iconst 3, 1) := by decide +kernel
theorem dX7_condition_41 : decode cX7_condition 41 = .ok (.invokevirtual 95, 3) := by decide +kernel
theorem dX7_condition_44 : decode cX7_condition 44 = .ok (.ifCond .eq 7, 3) := by decide +kernel
theorem dX7_condition_47 : decode cX7_condition 47 = .ok (.iconst 1, 1) := by decide +kernel
theorem dX7_condition_48 : decode cX7_condition 48 = .ok (.goto 4, 3) := by decide +kernel
theorem dX7_condition_51 : decode cX7_condition 51 = .ok (.iconst 0, 1) := by decide +kernel
theorem dX7_condition_52 : decode cX7_condition 52 = .ok (.istore_n 2, 1) := by decide +kernel
theorem dX7_condition_53 : decode cX7_condition 53 = .ok (.iinc 3 1, 3) := by decide +kernel
theorem dX7_condition_56 : decode cX7_condition 56 = .ok (.goto (-48), 3) := by decide +kernel
theorem dX7_condition_59 : decode cX7_condition 59 = .ok (.iload_n 2, 1) := by decide +kernel
theorem dX7_condition_60 : decode cX7_condition 60 = .ok (.ireturn, 1) := by decide +kernel
theorem dX7_part_0 : decode cX7_part 0 = .ok (.aload_n 0, 1) := by decide +kernel
theorem dX7_part_1 : decode cX7_part 1 = .ok (.iload_n 1, 1) := by decide +kernel
theorem dX7_part_2 : decode cX7_part 2 = .ok (.invokevirtual 98, 3) := by decide +kernel
theorem dX7_part_5 : decode cX7_part 5 = .ok (.istore_n 2, 1) := by decide +kernel
theorem dX7_part_6 : decode cX7_part 6 = .ok (.iconst 0, 1) := by decide +kernel
theorem dX7_part_7 : decode cX7_part 7 = .ok (.istore_n 3, 1) := by decide +kernel
theorem dX7_part_8 : decode cX7_part 8 = .ok (.iload_n 3, 1) := by decide +kernel
theorem dX7_part_9 : decode cX7_part 9 = .ok (.sipush 160, 3) := by decide +kernel
theorem dX7_part_12 : decode cX7_part 12 = .ok (.if_icmp .ge 47, 3) := by decide +kernel
theorem dX7_part_15 : decode cX7_part 15 = .ok (.iload_n 2, 1) := by decide +kernel
theorem dX7_part_16 : decode cX7_part 16 = .ok (.ifCond .eq 43, 3) := by decide +kernel
theorem dX7_part_19 : decode cX7_part 19 = .ok (.aload_n 0, 1) := by decide +kernel
theorem dX7_part_20 : decode cX7_part 20 = .ok (.getfield 34, 3) := by decide +kernel
theorem dX7_part_23 : decode cX7_part 23 = .ok (.bipush 38, 2) := by decide +kernel
theorem dX7_part_25 : decode cX7_part 25 = .ok (.invokevirtual 89, 3) := by decide +kernel
theorem dX7_part_28 : decode cX7_part 28 = .ok (.ifCond .eq 31, 3) := by decide +kernel
theorem dX7_part_31 : decode cX7_part 31 = .ok (.aload_n 0, 1) := by decide +kernel
theorem dX7_part_32 : decode cX7_part 32 = .ok (.iload_n 1, 1) := by decide +kernel
theorem dX7_part_33 : decode cX7_part 33 = .ok (.invokevirtual 98, 3) := by decide +kernel
theorem dX7_part_36 : decode cX7_part 36 = .ok (.ifCond .eq 15, 3) := by decide +kernel
theorem dX7_part_39 : decode cX7_part 39 = .ok (.aload_n 0, 1) := by decide +kernel
theorem dX7_part_40 : decode cX7_part 40 = .ok (.iconst 2, 1) := by decide +kernel
theorem dX7_part_41 : decode cX7_part 41 = .ok (.invokevirtual 95, 3) := by decide +kernel
theorem dX7_part_44 : decode cX7_part 44 = .ok (.ifCond .eq 7, 3) := by decide +kernel
theorem dX7_part_47 : decode cX7_part 47 = .ok (.iconst 1, 1) := by decide +kernel
theorem dX7_part_48 : decode cX7_part 48 = .ok (.goto 4, 3) := by decide +kernel
theorem dX7_part_51 : decode cX7_part 51 = .ok (.iconst 0, 1) := by decide +kernel
theorem dX7_part_52 : decode cX7_part 52 = .ok (.istore_n 2, 1) := by decide +kernel
theorem dX7_part_53 : decode cX7_part 53 = .ok (.iinc 3 1, 3) := by decide +kernel
theorem dX7_part_56 : decode cX7_part 56 = .ok (.goto (-48), 3) := by decide +kernel
theorem dX7_part_59 : decode cX7_part 59 = .ok (.iload_n 2, 1) := by decide +kernel
theorem dX7_part_60 : decode cX7_part 60 = .ok (.ireturn, 1) := by decide +kernel
theorem dX7_unit_0 : decode cX7_unit 0 = .ok (.aload_n 0, 1) := by decide +kernel
theorem dX7_unit_1 : decode cX7_unit 1 = .ok (.getfield 34, 3) := by decide +kernel
theorem dX7_unit_4 : decode cX7_unit 4 = .ok (.invokevirtual 60, 3) := by decide +kernel
theorem dX7_unit_7 : decode cX7_unit 7 = .ok (.istore_n 2, 1) := by decide +kernel
theorem dX7_unit_8 : decode cX7_unit 8 = .ok (.iload_n 2, 1) := by decide +kernel
theorem dX7_unit_9 : decode cX7_unit 9 = .ok (.bipush 33, 2) := by decide +kernel
theorem dX7_unit_11 : decode cX7_unit 11 = .ok (.if_icmp .eq 9, 3) := by decide +kernel
theorem dX7_unit_14 : decode cX7_unit 14 = .ok (.iload_n 2, 1) := by decide +kernel
theorem dX7_unit_15 : decode cX7_unit 15 = .ok (.bipush 40, 2) := by decide +kernel
theorem dX7_unit_17 : decode cX7_unit 17 = .ok (.if_icmp .ne 35, 3) := by decide +kernel
theorem dX7_unit_20 : decode cX7_unit 20 = .ok (.iload_n 1, 1) := by decide +kernel
theorem dX7_unit_21 : decode cX7_unit 21 = .ok (.bipush 6, 2) := by decide +kernel
theorem dX7_unit_23 : decode cX7_unit 23 = .ok (.if_icmp .ge 14, 3) := by decide +kernel
theorem dX7_unit_26 : decode cX7_unit 26 = .ok (.aload_n 0, 1) := by decide +kernel
theorem dX7_unit_27 : decode cX7_unit 27 = .ok (.iload_n 2, 1) := by decide +kernel
theorem dX7_unit_28 : decode cX7_unit 28 = .ok (.iload_n 1, 1) := by decide +kernel
theorem dX7_unit_29 : decode cX7_unit 29 = .ok (.iconst 1, 1) := by decide +kernel
theorem dX7_unit_30 : decode cX7_unit 30 = .ok (.iadd, 1) := by decide +kernel
theorem dX7_unit_31 : decode cX7_unit 31 = .ok (.invokevirtual 101, 3) := by decide +kernel
theorem dX7_unit_34 : decode cX7_unit 34 = .ok (.goto 17, 3) := by decide +kernel
theorem dX7_unit_37 : decode cX7_unit 37 = .ok (.aload_n 0, 1) := by decide +kernel
theorem dX7_unit_38 : decode cX7_unit 38 = .ok (.getfield 34, 3) := by decide +kernel
theorem dX7_unit_41 : decode cX7_unit 41 = .ok (.aload_n 0, 1) := by decide +kernel
theorem dX7_unit_42 : decode cX7_unit 42 = .ok (.getfield 34, 3) := by decide +kernel
theorem dX7_unit_45 : decode cX7_unit 45 = .ok (.getfield 64, 3) := by decide +kernel
theorem dX7_unit_48 : decode cX7_unit 48 = .ok (.invokevirtual 67, 3) := by decide +kernel
theorem dX7_unit_51 : decode cX7_unit 51 = .ok (.ireturn, 1) := by decide +kernel
theorem dX7_unit_52 : decode cX7_unit 52 = .ok (.iload_n 2, 1) := by decide +kernel
theorem dX7_unit_53 : decode cX7_unit 53 = .ok (.bipush 49, 2) := by decide +kernel
theorem dX7_unit_55 : decode cX7_unit 55 = .ok (.if_icmp .lt 18, 3) := by decide +kernel
theorem dX7_unit_58 : decode cX7_unit 58 = .ok (.iload_n 2, 1) := by decide +kernel
theorem dX7_unit_59 : decode cX7_unit 59 = .ok (.bipush 57, 2) := by decide +kernel
theorem dX7_unit_61 : decode cX7_unit 61 = .ok (.if_icmp .gt 12, 3) := by decide +kernel
theorem dX7_unit_64 : decode cX7_unit 64 = .ok (.aload_n 0, 1) := by decide +kernel
theorem dX7_unit_65 : decode cX7_unit 65 = .ok (.iload_n 2, 1) := by decide +kernel
theorem dX7_unit_66 : decode cX7_unit 66 = .ok (.bipush 48, 2) := by decide +kernel
theorem dX7_unit_68 : decode cX7_unit 68 = .ok (.isub, 1) := by decide +kernel
theorem dX7_unit_69 : decode cX7_unit 69 = .ok (.invokevirtual 105, 3) := by decide +kernel
theorem dX7_unit_72 : decode cX7_unit 72 = .ok (.ireturn, 1) := by decide +kernel
theorem dX7_unit_73 : decode cX7_unit 73 = .ok (.aload_n 0, 1) := by decide +kernel
theorem dX7_unit_74 : decode cX7_unit 74 = .ok (.iload_n 2, 1) := by decide +kernel
theorem dX7_unit_75 : decode cX7_unit 75 = .ok (.invokevirtual 108, 3) := by decide +kernel
theorem dX7_unit_78 : decode cX7_unit 78 = .ok (.ifCond .ne 18, 3) := by decide +kernel
theorem dX7_unit_81 : decode cX7_unit 81 = .ok (.aload_n 0, 1) := by decide +kernel
theorem dX7_unit_82 : decode cX7_unit 82 = .ok (.getfield 34, 3) := by decide +kernel
theorem dX7_unit_85 : decode cX7_unit 85 = .ok (.aload_n 0, 1) := by decide +kernel
theorem dX7_unit_86 : decode cX7_unit 86 = .ok (.getfield 34, 3) := by decide +kernel
theorem dX7_unit_89 : decode cX7_unit 89 = .ok (.getfield 64, 3) := by decide +kernel
theorem dX7_unit_92 : decode cX7_unit 92 = .ok (.invokevirtual 67, 3) := by decide +kernel
theorem dX7_unit_95 : decode cX7_unit 95 = .ok (.ireturn, 1) := by decide +kernel
theorem dX7_unit_96 : decode cX7_unit 96 = .ok (.aload_n 0, 1) := by decide +kernel
theorem dX7_unit_97 : decode cX7_unit 97 = .ok (.getfield 34, 3) := by decide +kernel
theorem dX7_unit_100 : decode cX7_unit 100 = .ok (.dup, 1) := by decide +kernel
theorem dX7_unit_101 : decode cX7_unit 101 = .ok (.getfield 64, 3) := by decide +kernel
theorem dX7_unit_104 : decode cX7_unit 104 = .ok (.iconst 1, 1) := by decide +kernel
theorem dX7_unit_105 : decode cX7_unit 105 = .ok (.iadd, 1) := by decide +kernel
theorem dX7_unit_106 : decode cX7_unit 106 = .ok (.putfield 64, 3) := by decide +kernel
theorem dX7_unit_109 : decode cX7_unit 109 = .ok (.aload_n 0, 1) := by decide +kernel
theorem dX7_unit_110 : decode cX7_unit 110 = .ok (.iconst 1, 1) := by decide +kernel
theorem dX7_unit_111 : decode cX7_unit 111 = .ok (.iconst 1, 1) := by decide +kernel
theorem dX7_unit_112 : decode cX7_unit 112 = .ok (.iload_n 2, 1) := by decide +kernel
theorem dX7_unit_113 : decode cX7_unit 113 = .ok (.bipush 97, 2) := by decide +kernel
theorem dX7_unit_115 : decode cX7_unit 115 = .ok (.isub, 1) := by decide +kernel
theorem dX7_unit_116 : decode cX7_unit 116 = .ok (.ishl, 1) := by decide +kernel
theorem dX7_unit_117 : decode cX7_unit 117 = .ok (.invokestatic 111, 3) := by decide +kernel
theorem dX7_unit_120 : decode cX7_unit 120 = .ok (.invokevirtual 95, 3) := by decide +kernel
theorem dX7_unit_123 : decode cX7_unit 123 = .ok (.ireturn, 1) := by decide +kernel
theorem dX7_nested_0 : decode cX7_nested 0 = .ok (.aload_n 0, 1) := by decide +kernel
theorem dX7_nested_1 : decode cX7_nested 1 = .ok (.getfield 34, 3) := by decide +kernel
theorem dX7_nested_4 : decode cX7_nested 4 = .ok (.dup, 1) := by decide +kernel
theorem dX7_nested_5 : decode cX7_nested 5 = .ok (.getfield 64, 3) := by decide +kernel
theorem dX7_nested_8 : decode cX7_nested 8 = .ok (.iconst 1, 1) := by decide +kernel
theorem dX7_nested_9 : decode cX7_nested 9 = .ok (.iadd, 1) := by decide +kernel
theorem dX7_nested_10 : decode cX7_nested 10 = .ok (.putfield 64, 3) := by decide +kernel
theorem dX7_nested_13 : decode cX7_nested 13 = .ok (.iload_n 1, 1) := by decide +kernel
theorem dX7_nested_14 : decode cX7_nested 14 = .ok (.bipush 33, 2) := by decide +kernel
theorem dX7_nested_16 : decode cX7_nested 16 = .ok (.if_icmp .ne 25, 3) := by decide +kernel
theorem dX7_nested_19 : decode cX7_nested 19 = .ok (.aload_n 0, 1) := by decide +kernel
theorem dX7_nested_20 : decode cX7_nested 20 = .ok (.iload_n 2, 1) := by decide +kernel
theorem dX7_nested_21 : decode cX7_nested 21 = .ok (.invokevirtual 98, 3) := by decide +kernel
theorem dX7_nested_24 : decode cX7_nested 24 = .ok (.ifCond .eq 15, 3) := by decide +kernel
theorem dX7_nested_27 : decode cX7_nested 27 = .ok (.aload_n 0, 1) := by decide +kernel
theorem dX7_nested_28 : decode cX7_nested 28 = .ok (.iconst 1, 1) := by decide +kernel
theorem dX7_nested_29 : decode cX7_nested 29 = .ok (.invokevirtual 95, 3) := by decide +kernel
theorem dX7_nested_32 : decode cX7_nested 32 = .ok (.ifCond .eq 7, 3) := by decide +kernel
theorem dX7_nested_35 : decode cX7_nested 35 = .ok (.iconst 1, 1) := by decide +kernel
theorem dX7_nested_36 : decode cX7_nested 36 = .ok (.goto 4, 3) := by decide +kernel
theorem dX7_nested_39 : decode cX7_nested 39 = .ok (.iconst 0, 1) := by decide +kernel
theorem dX7_nested_40 : decode cX7_nested 40 = .ok (.ireturn, 1) := by decide +kernel
theorem dX7_nested_41 : decode cX7_nested 41 = .ok (.aload_n 0, 1) := by decide +kernel
theorem dX7_nested_42 : decode cX7_nested 42 = .ok (.iload_n 2, 1) := by decide +kernel
theorem dX7_nested_43 : decode cX7_nested 43 = .ok (.invokevirtual 56, 3) := by decide +kernel
theorem dX7_nested_46 : decode cX7_nested 46 = .ok (.ifCond .eq 19, 3) := by decide +kernel
theorem dX7_nested_49 : decode cX7_nested 49 = .ok (.aload_n 0, 1) := by decide +kernel
theorem dX7_nested_50 : decode cX7_nested 50 = .ok (.getfield 34, 3) := by decide +kernel
theorem dX7_nested_53 : decode cX7_nested 53 = .ok (.bipush 41, 2) := by decide +kernel
theorem dX7_nested_55 : decode cX7_nested 55 = .ok (.invokevirtual 85, 3) := by decide +kernel
theorem dX7_nested_58 : decode cX7_nested 58 = .ok (.ifCond .eq 7, 3) := by decide +kernel
theorem dX7_nested_61 : decode cX7_nested 61 = .ok (.iconst 1, 1) := by decide +kernel
theorem dX7_nested_62 : decode cX7_nested 62 = .ok (.goto 4, 3) := by decide +kernel
theorem dX7_nested_65 : decode cX7_nested 65 = .ok (.iconst 0, 1) := by decide +kernel
theorem dX7_nested_66 : decode cX7_nested 66 = .ok (.ireturn, 1) := by decide +kernel
theorem dX7_several_0 : decode cX7_several 0 = .ok (.aload_n 0, 1) := by decide +kernel
theorem dX7_several_1 : decode cX7_several 1 = .ok (.getfield 34, 3) := by decide +kernel
theorem dX7_several_4 : decode cX7_several 4 = .ok (.dup, 1) := by decide +kernel
theorem dX7_several_5 : decode cX7_several 5 = .ok (.getfield 64, 3) := by decide +kernel
theorem dX7_several_8 : decode cX7_several 8 = .ok (.iconst 1, 1) := by decide +kernel
theorem dX7_several_9 : decode cX7_several 9 = .ok (.iadd, 1) := by decide +kernel
theorem dX7_several_10 : decode cX7_several 10 = .ok (.putfield 64, 3) := by decide +kernel
theorem dX7_several_13 : decode cX7_several 13 = .ok (.aload_n 0, 1) := by decide +kernel
theorem dX7_several_14 : decode cX7_several 14 = .ok (.getfield 34, 3) := by decide +kernel
theorem dX7_several_17 : decode cX7_several 17 = .ok (.invokevirtual 115, 3) := by decide +kernel
theorem dX7_several_20 : decode cX7_several 20 = .ok (.bipush 35, 2) := by decide +kernel
theorem dX7_several_22 : decode cX7_several 22 = .ok (.if_icmp .eq 18, 3) := by decide +kernel
theorem dX7_several_25 : decode cX7_several 25 = .ok (.aload_n 0, 1) := by decide +kernel
theorem dX7_several_26 : decode cX7_several 26 = .ok (.getfield 34, 3) := by decide +kernel
theorem dX7_several_29 : decode cX7_several 29 = .ok (.aload_n 0, 1) := by decide +kernel
theorem dX7_several_30 : decode cX7_several 30 = .ok (.getfield 34, 3) := by decide +kernel
theorem dX7_several_33 : decode cX7_several 33 = .ok (.getfield 64, 3) := by decide +kernel
theorem dX7_several_36 : decode cX7_several 36 = .ok (.invokevirtual 67, 3) := by decide +kernel
theorem dX7_several_39 : decode cX7_several 39 = .ok (.ireturn, 1) := by decide +kernel
theorem dX7_several_40 : decode cX7_several 40 = .ok (.aload_n 0, 1) := by decide +kernel
theorem dX7_several_41 : decode cX7_several 41 = .ok (.getfield 34, 3) := by decide +kernel
theorem dX7_several_44 : decode cX7_several 44 = .ok (.dup, 1) := by decide +kernel
theorem dX7_several_45 : decode cX7_several 45 = .ok (.getfield 64, 3) := by decide +kernel
theorem dX7_several_48 : decode cX7_several 48 = .ok (.iconst 1, 1) := by decide +kernel
theorem dX7_several_49 : decode cX7_several 49 = .ok (.iadd, 1) := by decide +kernel
theorem dX7_several_50 : decode cX7_several 50 = .ok (.putfield 64, 3) := by decide +kernel
theorem dX7_several_53 : decode cX7_several 53 = .ok (.iconst 0, 1) := by decide +kernel
theorem dX7_several_54 : decode cX7_several 54 = .ok (.istore_n 2, 1) := by decide +kernel
theorem dX7_several_55 : decode cX7_several 55 = .ok (.iconst 0, 1) := by decide +kernel
theorem dX7_several_56 : decode cX7_several 56 = .ok (.istore_n 3, 1) := by decide +kernel
theorem dX7_several_57 : decode cX7_several 57 = .ok (.iload_n 3, 1) := by decide +kernel
theorem dX7_several_58 : decode cX7_several 58 = .ok (.bipush 9, 2) := by decide +kernel
theorem dX7_several_60 : decode cX7_several 60 = .ok (.if_icmp .gt 77, 3) := by decide +kernel
theorem dX7_several_63 : decode cX7_several 63 = .ok (.aload_n 0, 1) := by decide +kernel
theorem dX7_several_64 : decode cX7_several 64 = .ok (.aload_n 0, 1) := by decide +kernel
theorem dX7_several_65 : decode cX7_several 65 = .ok (.getfield 34, 3) := by decide +kernel
theorem dX7_several_68 : decode cX7_several 68 = .ok (.invokevirtual 60, 3) := by decide +kernel
theorem dX7_several_71 : decode cX7_several 71 = .ok (.invokevirtual 108, 3) := by decide +kernel
theorem dX7_several_74 : decode cX7_several 74 = .ok (.ifCond .eq 63, 3) := by decide +kernel
theorem dX7_several_77 : decode cX7_several 77 = .ok (.iconst 1, 1) := by decide +kernel
theorem dX7_several_78 : decode cX7_several 78 = .ok (.aload_n 0, 1) := by decide +kernel
theorem dX7_several_79 : decode cX7_several 79 = .ok (.getfield 34, 3) := by decide +kernel
theorem dX7_several_82 : decode cX7_several 82 = .ok (.invokevirtual 115, 3) := by decide +kernel
theorem dX7_several_85 : decode cX7_several 85 = .ok (.bipush 97, 2) := by decide +kernel
theorem dX7_several_87 : decode cX7_several 87 = .ok (.isub, 1) := by decide +kernel
theorem dX7_several_88 : decode cX7_several 88 = .ok (.ishl, 1) := by decide +kernel
theorem dX7_several_89 : decode cX7_several 89 = .ok (.istore 4, 2) := by decide +kernel
theorem dX7_several_91 : decode cX7_several 91 = .ok (.iload_n 2, 1) := by decide +kernel
theorem dX7_several_92 : decode cX7_several 92 = .ok (.iload 4, 2) := by decide +kernel
theorem dX7_several_94 : decode cX7_several 94 = .ok (.iand, 1) := by decide +kernel
theorem dX7_several_95 : decode cX7_several 95 = .ok (.ifCond .eq 18, 3) := by decide +kernel
theorem dX7_several_98 : decode cX7_several 98 = .ok (.aload_n 0, 1) := by decide +kernel
theorem dX7_several_99 : decode cX7_several 99 = .ok (.getfield 34, 3) := by decide +kernel
theorem dX7_several_102 : decode cX7_several 102 = .ok (.aload_n 0, 1) := by decide +kernel
theorem dX7_several_103 : decode cX7_several 103 = .ok (.getfield 34, 3) := by decide +kernel
theorem dX7_several_106 : decode cX7_several 106 = .ok (.getfield 64, 3) := by decide +kernel
theorem dX7_several_109 : decode cX7_several 109 = .ok (.invokevirtual 67, 3) := by decide +kernel
theorem dX7_several_112 : decode cX7_several 112 = .ok (.ireturn, 1) := by decide +kernel
theorem dX7_several_113 : decode cX7_several 113 = .ok (.iload_n 2, 1) := by decide +kernel
theorem dX7_several_114 : decode cX7_several 114 = .ok (.iload 4, 2) := by decide +kernel
theorem dX7_several_116 : decode cX7_several 116 = .ok (.ior, 1) := by decide +kernel
theorem dX7_several_117 : decode cX7_several 117 = .ok (.istore_n 2, 1) := by decide +kernel
theorem dX7_several_118 : decode cX7_several 118 = .ok (.aload_n 0, 1) := by decide +kernel
theorem dX7_several_119 : decode cX7_several 119 = .ok (.getfield 34, 3) := by decide +kernel
theorem dX7_several_122 : decode cX7_several 122 = .ok (.dup, 1) := by decide +kernel
theorem dX7_several_123 : decode cX7_several 123 = .ok (.getfield 64, 3) := by decide +kernel
theorem dX7_several_126 : decode cX7_several 126 = .ok (.iconst 1, 1) := by decide +kernel
theorem dX7_several_127 : decode cX7_several 127 = .ok (.iadd, 1) := by decide +kernel
theorem dX7_several_128 : decode cX7_several 128 = .ok (.putfield 64, 3) := by decide +kernel
theorem dX7_several_131 : decode cX7_several 131 = .ok (.iinc 3 1, 3) := by decide +kernel
theorem dX7_several_134 : decode cX7_several 134 = .ok (.goto (-77), 3) := by decide +kernel
theorem dX7_several_137 : decode cX7_several 137 = .ok (.iload_n 2, 1) := by decide +kernel
theorem dX7_several_138 : decode cX7_several 138 = .ok (.ifCond .ne 20, 3) := by decide +kernel
theorem dX7_several_141 : decode cX7_several 141 = .ok (.aload_n 0, 1) := by decide +kernel
theorem dX7_several_142 : decode cX7_several 142 = .ok (.getfield 34, 3) := by decide +kernel
theorem dX7_several_145 : decode cX7_several 145 = .ok (.aload_n 0, 1) := by decide +kernel
theorem dX7_several_146 : decode cX7_several 146 = .ok (.getfield 34, 3) := by decide +kernel
theorem dX7_several_149 : decode cX7_several 149 = .ok (.getfield 64, 3) := by decide +kernel
theorem dX7_several_152 : decode cX7_several 152 = .ok (.invokevirtual 67, 3) := by decide +kernel
theorem dX7_several_155 : decode cX7_several 155 = .ok (.goto 12, 3) := by decide +kernel
theorem dX7_several_158 : decode cX7_several 158 = .ok (.aload_n 0, 1) := by decide +kernel
theorem dX7_several_159 : decode cX7_several 159 = .ok (.iload_n 1, 1) := by decide +kernel
theorem dX7_several_160 : decode cX7_several 160 = .ok (.iload_n 2, 1) := by decide +kernel
theorem dX7_several_161 : decode cX7_several 161 = .ok (.invokestatic 111, 3) := by decide +kernel
theorem dX7_several_164 : decode cX7_several 164 = .ok (.invokevirtual 95, 3) := by decide +kernel
theorem dX7_several_167 : decode cX7_several 167 = .ok (.ireturn, 1) := by decide +kernel
theorem dX7_isLetter_0 : decode cX7_isLetter 0 = .ok (.iload_n 1, 1) := by decide +kernel
theorem dX7_isLetter_1 : decode cX7_isLetter 1 = .ok (.bipush 97, 2) := by decide +kernel
theorem dX7_isLetter_3 : decode cX7_isLetter 3 = .ok (.if_icmp .lt 18, 3) := by decide +kernel
theorem dX7_isLetter_6 : decode cX7_isLetter 6 = .ok (.iload_n 1, 1) := by decide +kernel
theorem dX7_isLetter_7 : decode cX7_isLetter 7 = .ok (.bipush 97, 2) := by decide +kernel
theorem dX7_isLetter_9 : decode cX7_isLetter 9 = .ok (.aload_n 0, 1) := by decide +kernel
theorem dX7_isLetter_10 : decode cX7_isLetter 10 = .ok (.getfield 38, 3) := by decide +kernel
theorem dX7_isLetter_13 : decode cX7_isLetter 13 = .ok (.iadd, 1) := by decide +kernel
theorem dX7_isLetter_14 : decode cX7_isLetter 14 = .ok (.if_icmp .ge 7, 3) := by decide +kernel
theorem dX7_isLetter_17 : decode cX7_isLetter 17 = .ok (.iconst 1, 1) := by decide +kernel
theorem dX7_isLetter_18 : decode cX7_isLetter 18 = .ok (.goto 4, 3) := by decide +kernel
theorem dX7_isLetter_21 : decode cX7_isLetter 21 = .ok (.iconst 0, 1) := by decide +kernel
theorem dX7_isLetter_22 : decode cX7_isLetter 22 = .ok (.ireturn, 1) := by decide +kernel
theorem dX7_atLeast_0 : decode cX7_atLeast 0 = .ok (.iload_n 0, 1) := by decide +kernel
theorem dX7_atLeast_1 : decode cX7_atLeast 1 = .ok (.bipush 9, 2) := by decide +kernel
theorem dX7_atLeast_3 : decode cX7_atLeast 3 = .ok (.ishl, 1) := by decide +kernel
theorem dX7_atLeast_4 : decode cX7_atLeast 4 = .ok (.iload_n 1, 1) := by decide +kernel
theorem dX7_atLeast_5 : decode cX7_atLeast 5 = .ok (.ior, 1) := by decide +kernel
theorem dX7_atLeast_6 : decode cX7_atLeast 6 = .ok (.iconst 2, 1) := by decide +kernel
theorem dX7_atLeast_7 : decode cX7_atLeast 7 = .ok (.ishl, 1) := by decide +kernel
theorem dX7_atLeast_8 : decode cX7_atLeast 8 = .ok (.iconst 0, 1) := by decide +kernel
theorem dX7_atLeast_9 : decode cX7_atLeast 9 = .ok (.ior, 1) := by decide +kernel
theorem dX7_atLeast_10 : decode cX7_atLeast 10 = .ok (.ireturn, 1) := by decide +kernel
theorem dX7_emit_0 : decode cX7_emit 0 = .ok (.aload_n 0, 1) := by decide +kernel
theorem dX7_emit_1 : decode cX7_emit 1 = .ok (.getfield 47, 3) := by decide +kernel
theorem dX7_emit_4 : decode cX7_emit 4 = .ok (.sipush 160, 3) := by decide +kernel
theorem dX7_emit_7 : decode cX7_emit 7 = .ok (.if_icmp .lt 18, 3) := by decide +kernel
theorem dX7_emit_10 : decode cX7_emit 10 = .ok (.aload_n 0, 1) := by decide +kernel
theorem dX7_emit_11 : decode cX7_emit 11 = .ok (.getfield 34, 3) := by decide +kernel
theorem dX7_emit_14 : decode cX7_emit 14 = .ok (.aload_n 0, 1) := by decide +kernel
theorem dX7_emit_15 : decode cX7_emit 15 = .ok (.getfield 34, 3) := by decide +kernel
theorem dX7_emit_18 : decode cX7_emit 18 = .ok (.getfield 64, 3) := by decide +kernel
theorem dX7_emit_21 : decode cX7_emit 21 = .ok (.invokevirtual 67, 3) := by decide +kernel
theorem dX7_emit_24 : decode cX7_emit 24 = .ok (.ireturn, 1) := by decide +kernel
theorem dX7_emit_25 : decode cX7_emit 25 = .ok (.aload_n 0, 1) := by decide +kernel
theorem dX7_emit_26 : decode cX7_emit 26 = .ok (.getfield 9, 3) := by decide +kernel
theorem dX7_emit_29 : decode cX7_emit 29 = .ok (.aload_n 0, 1) := by decide +kernel
theorem dX7_emit_30 : decode cX7_emit 30 = .ok (.dup, 1) := by decide +kernel
theorem dX7_emit_31 : decode cX7_emit 31 = .ok (.getfield 47, 3) := by decide +kernel
theorem dX7_emit_34 : decode cX7_emit 34 = .ok (.dup_x1, 1) := by decide +kernel
theorem dX7_emit_35 : decode cX7_emit 35 = .ok (.iconst 1, 1) := by decide +kernel
theorem dX7_emit_36 : decode cX7_emit 36 = .ok (.iadd, 1) := by decide +kernel
theorem dX7_emit_37 : decode cX7_emit 37 = .ok (.putfield 47, 3) := by decide +kernel
theorem dX7_emit_40 : decode cX7_emit 40 = .ok (.iload_n 1, 1) := by decide +kernel
theorem dX7_emit_41 : decode cX7_emit 41 = .ok (.iastore, 1) := by decide +kernel
theorem dX7_emit_42 : decode cX7_emit 42 = .ok (.iconst 1, 1) := by decide +kernel
theorem dX7_emit_43 : decode cX7_emit 43 = .ok (.ireturn, 1) := by decide +kernel
theorem dX7_node_0 : decode cX7_node 0 = .ok (.aload_n 0, 1) := by decide +kernel
theorem dX7_node_1 : decode cX7_node 1 = .ok (.getfield 34, 3) := by decide +kernel
theorem dX7_node_4 : decode cX7_node 4 = .ok (.invokevirtual 60, 3) := by decide +kernel
theorem dX7_node_7 : decode cX7_node 7 = .ok (.istore_n 2, 1) := by decide +kernel
theorem dX7_node_8 : decode cX7_node 8 = .ok (.aload_n 0, 1) := by decide +kernel
theorem dX7_node_9 : decode cX7_node 9 = .ok (.iload_n 2, 1) := by decide +kernel
theorem dX7_node_10 : decode cX7_node 10 = .ok (.invokevirtual 108, 3) := by decide +kernel
theorem dX7_node_13 : decode cX7_node 13 = .ok (.ifCond .ne 18, 3) := by decide +kernel
theorem dX7_node_16 : decode cX7_node 16 = .ok (.aload_n 0, 1) := by decide +kernel
theorem dX7_node_17 : decode cX7_node 17 = .ok (.getfield 34, 3) := by decide +kernel
theorem dX7_node_20 : decode cX7_node 20 = .ok (.aload_n 0, 1) := by decide +kernel
theorem dX7_node_21 : decode cX7_node 21 = .ok (.getfield 34, 3) := by decide +kernel
theorem dX7_node_24 : decode cX7_node 24 = .ok (.getfield 64, 3) := by decide +kernel
theorem dX7_node_27 : decode cX7_node 27 = .ok (.invokevirtual 67, 3) := by decide +kernel
theorem dX7_node_30 : decode cX7_node 30 = .ok (.ireturn, 1) := by decide +kernel
theorem dX7_node_31 : decode cX7_node 31 = .ok (.aload_n 0, 1) := by decide +kernel
theorem dX7_node_32 : decode cX7_node 32 = .ok (.getfield 34, 3) := by decide +kernel
theorem dX7_node_35 : decode cX7_node 35 = .ok (.dup, 1) := by decide +kernel
theorem dX7_node_36 : decode cX7_node 36 = .ok (.getfield 64, 3) := by decide +kernel
theorem dX7_node_39 : decode cX7_node 39 = .ok (.iconst 1, 1) := by decide +kernel
theorem dX7_node_40 : decode cX7_node 40 = .ok (.iadd, 1) := by decide +kernel
theorem dX7_node_41 : decode cX7_node 41 = .ok (.putfield 64, 3) := by decide +kernel
theorem dX7_node_44 : decode cX7_node 44 = .ok (.aload_n 0, 1) := by decide +kernel
theorem dX7_node_45 : decode cX7_node 45 = .ok (.getfield 30, 3) := by decide +kernel
theorem dX7_node_48 : decode cX7_node 48 = .ok (.getfield 118, 3) := by decide +kernel
theorem dX7_node_51 : decode cX7_node 51 = .ok (.iload_n 1, 1) := by decide +kernel
theorem dX7_node_52 : decode cX7_node 52 = .ok (.iload_n 2, 1) := by decide +kernel
theorem dX7_node_53 : decode cX7_node 53 = .ok (.bipush 97, 2) := by decide +kernel
theorem dX7_node_55 : decode cX7_node 55 = .ok (.isub, 1) := by decide +kernel
theorem dX7_node_56 : decode cX7_node 56 = .ok (.iastore, 1) := by decide +kernel
theorem dX7_node_57 : decode cX7_node 57 = .ok (.aload_n 0, 1) := by decide +kernel
theorem dX7_node_58 : decode cX7_node 58 = .ok (.getfield 34, 3) := by decide +kernel
theorem dX7_node_61 : decode cX7_node 61 = .ok (.bipush 62, 2) := by decide +kernel
theorem dX7_node_63 : decode cX7_node 63 = .ok (.invokevirtual 85, 3) := by decide +kernel
theorem dX7_node_66 : decode cX7_node 66 = .ok (.ifCond .ne 5, 3) := by decide +kernel
theorem dX7_node_69 : decode cX7_node 69 = .ok (.iconst 0, 1) := by decide +kernel
theorem dX7_node_70 : decode cX7_node 70 = .ok (.ireturn, 1) := by decide +kernel
theorem dX7_node_71 : decode cX7_node 71 = .ok (.aload_n 0, 1) := by decide +kernel
theorem dX7_node_72 : decode cX7_node 72 = .ok (.getfield 30, 3) := by decide +kernel
theorem dX7_node_75 : decode cX7_node 75 = .ok (.getfield 120, 3) := by decide +kernel
theorem dX7_node_78 : decode cX7_node 78 = .ok (.iload_n 1, 1) := by decide +kernel
theorem dX7_node_79 : decode cX7_node 79 = .ok (.aload_n 0, 1) := by decide +kernel
theorem dX7_node_80 : decode cX7_node 80 = .ok (.iload_n 1, 1) := by decide +kernel
theorem dX7_node_81 : decode cX7_node 81 = .ok (.invokevirtual 123, 3) := by decide +kernel
theorem dX7_node_84 : decode cX7_node 84 = .ok (.iastore, 1) := by decide +kernel
theorem dX7_node_85 : decode cX7_node 85 = .ok (.aload_n 0, 1) := by decide +kernel
theorem dX7_node_86 : decode cX7_node 86 = .ok (.getfield 30, 3) := by decide +kernel
theorem dX7_node_89 : decode cX7_node 89 = .ok (.getfield 120, 3) := by decide +kernel
theorem dX7_node_92 : decode cX7_node 92 = .ok (.iload_n 1, 1) := by decide +kernel
theorem dX7_node_93 : decode cX7_node 93 = .ok (.iaload, 1) := by decide +kernel
theorem dX7_node_94 : decode cX7_node 94 = .ok (.iconst (-1), 1) := by decide +kernel
theorem dX7_node_95 : decode cX7_node 95 = .ok (.if_icmp .eq 15, 3) := by decide +kernel
theorem dX7_node_98 : decode cX7_node 98 = .ok (.aload_n 0, 1) := by decide +kernel
theorem dX7_node_99 : decode cX7_node 99 = .ok (.getfield 34, 3) := by decide +kernel
theorem dX7_node_102 : decode cX7_node 102 = .ok (.bipush 44, 2) := by decide +kernel
theorem dX7_node_104 : decode cX7_node 104 = .ok (.invokevirtual 85, 3) := by decide +kernel
theorem dX7_node_107 : decode cX7_node 107 = .ok (.ifCond .ne 5, 3) := by decide +kernel
theorem dX7_node_110 : decode cX7_node 110 = .ok (.iconst 0, 1) := by decide +kernel
theorem dX7_node_111 : decode cX7_node 111 = .ok (.ireturn, 1) := by decide +kernel
theorem dX7_node_112 : decode cX7_node 112 = .ok (.aload_n 0, 1) := by decide +kernel
theorem dX7_node_113 : decode cX7_node 113 = .ok (.getfield 30, 3) := by decide +kernel
theorem dX7_node_116 : decode cX7_node 116 = .ok (.getfield 127, 3) := by decide +kernel
theorem dX7_node_119 : decode cX7_node 119 = .ok (.iload_n 1, 1) := by decide +kernel
theorem dX7_node_120 : decode cX7_node 120 = .ok (.aload_n 0, 1) := by decide +kernel
theorem dX7_node_121 : decode cX7_node 121 = .ok (.iload_n 1, 1) := by decide +kernel
theorem dX7_node_122 : decode cX7_node 122 = .ok (.invokevirtual 123, 3) := by decide +kernel
theorem dX7_node_125 : decode cX7_node 125 = .ok (.iastore, 1) := by decide +kernel
theorem dX7_node_126 : decode cX7_node 126 = .ok (.aload_n 0, 1) := by decide +kernel
theorem dX7_node_127 : decode cX7_node 127 = .ok (.getfield 30, 3) := by decide +kernel
theorem dX7_node_130 : decode cX7_node 130 = .ok (.getfield 127, 3) := by decide +kernel
theorem dX7_node_133 : decode cX7_node 133 = .ok (.iload_n 1, 1) := by decide +kernel
theorem dX7_node_134 : decode cX7_node 134 = .ok (.iaload, 1) := by decide +kernel
theorem dX7_node_135 : decode cX7_node 135 = .ok (.iconst (-1), 1) := by decide +kernel
theorem dX7_node_136 : decode cX7_node 136 = .ok (.if_icmp .eq 7, 3) := by decide +kernel
theorem dX7_node_139 : decode cX7_node 139 = .ok (.iconst 1, 1) := by decide +kernel
theorem dX7_node_140 : decode cX7_node 140 = .ok (.goto 4, 3) := by decide +kernel
theorem dX7_node_143 : decode cX7_node 143 = .ok (.iconst 0, 1) := by decide +kernel
theorem dX7_node_144 : decode cX7_node 144 = .ok (.ireturn, 1) := by decide +kernel
theorem dX7_target_0 : decode cX7_target 0 = .ok (.aload_n 0, 1) := by decide +kernel
theorem dX7_target_1 : decode cX7_target 1 = .ok (.getfield 34, 3) := by decide +kernel
theorem dX7_target_4 : decode cX7_target 4 = .ok (.invokevirtual 60, 3) := by decide +kernel
theorem dX7_target_7 : decode cX7_target 7 = .ok (.istore_n 2, 1) := by decide +kernel
theorem dX7_target_8 : decode cX7_target 8 = .ok (.iload_n 2, 1) := by decide +kernel
theorem dX7_target_9 : decode cX7_target 9 = .ok (.bipush 48, 2) := by decide +kernel
theorem dX7_target_11 : decode cX7_target 11 = .ok (.if_icmp .lt 15, 3) := by decide +kernel
theorem dX7_target_14 : decode cX7_target 14 = .ok (.iload_n 2, 1) := by decide +kernel
theorem dX7_target_15 : decode cX7_target 15 = .ok (.bipush 57, 2) := by decide +kernel
theorem dX7_target_17 : decode cX7_target 17 = .ok (.if_icmp .gt 9, 3) := by decide +kernel
theorem dX7_target_20 : decode cX7_target 20 = .ok (.aload_n 0, 1) := by decide +kernel
theorem dX7_target_21 : decode cX7_target 21 = .ok (.iload_n 1, 1) := by decide +kernel
theorem dX7_target_22 : decode cX7_target 22 = .ok (.invokevirtual 130, 3) := by decide +kernel
theorem dX7_target_25 : decode cX7_target 25 = .ok (.ireturn, 1) := by decide +kernel
theorem dX7_target_26 : decode cX7_target 26 = .ok (.aload_n 0, 1) := by decide +kernel
theorem dX7_target_27 : decode cX7_target 27 = .ok (.getfield 34, 3) := by decide +kernel
theorem dX7_target_30 : decode cX7_target 30 = .ok (.bipush 61, 2) := by decide +kernel
theorem dX7_target_32 : decode cX7_target 32 = .ok (.invokevirtual 85, 3) := by decide +kernel
theorem dX7_target_35 : decode cX7_target 35 = .ok (.ifCond .ne 5, 3) := by decide +kernel
theorem dX7_target_38 : decode cX7_target 38 = .ok (.iconst (-1), 1) := by decide +kernel
theorem dX7_target_39 : decode cX7_target 39 = .ok (.ireturn, 1) := by decide +kernel
theorem dX7_target_40 : decode cX7_target 40 = .ok (.aload_n 0, 1) := by decide +kernel
theorem dX7_target_41 : decode cX7_target 41 = .ok (.getfield 34, 3) := by decide +kernel
theorem dX7_target_44 : decode cX7_target 44 = .ok (.invokevirtual 60, 3) := by decide +kernel
theorem dX7_target_47 : decode cX7_target 47 = .ok (.istore_n 2, 1) := by decide +kernel
theorem dX7_target_48 : decode cX7_target 48 = .ok (.iload_n 2, 1) := by decide +kernel
theorem dX7_target_49 : decode cX7_target 49 = .ok (.bipush 45, 2) := by decide +kernel
theorem dX7_target_51 : decode cX7_target 51 = .ok (.if_icmp .eq 32, 3) := by decide +kernel
theorem dX7_target_54 : decode cX7_target 54 = .ok (.iload_n 2, 1) := by decide +kernel
theorem dX7_target_55 : decode cX7_target 55 = .ok (.bipush 48, 2) := by decide +kernel
theorem dX7_target_57 : decode cX7_target 57 = .ok (.if_icmp .lt 9, 3) := by decide +kernel
theorem dX7_target_60 : decode cX7_target 60 = .ok (.iload_n 2, 1) := by decide +kernel
theorem dX7_target_61 : decode cX7_target 61 = .ok (.bipush 53, 2) := by decide +kernel
theorem dX7_target_63 : decode cX7_target 63 = .ok (.if_icmp .le 20, 3) := by decide +kernel
theorem dX7_target_66 : decode cX7_target 66 = .ok (.aload_n 0, 1) := by decide +kernel
theorem dX7_target_67 : decode cX7_target 67 = .ok (.getfield 34, 3) := by decide +kernel
theorem dX7_target_70 : decode cX7_target 70 = .ok (.aload_n 0, 1) := by decide +kernel
theorem dX7_target_71 : decode cX7_target 71 = .ok (.getfield 34, 3) := by decide +kernel
theorem dX7_target_74 : decode cX7_target 74 = .ok (.getfield 64, 3) := by decide +kernel
theorem dX7_target_77 : decode cX7_target 77 = .ok (.invokevirtual 67, 3) := by decide +kernel
theorem dX7_target_80 : decode cX7_target 80 = .ok (.pop, 1) := by decide +kernel
theorem dX7_target_81 : decode cX7_target 81 = .ok (.iconst (-1), 1) := by decide +kernel
theorem dX7_target_82 : decode cX7_target 82 = .ok (.ireturn, 1) := by decide +kernel
theorem dX7_target_83 : decode cX7_target 83 = .ok (.aload_n 0, 1) := by decide +kernel
theorem dX7_target_84 : decode cX7_target 84 = .ok (.getfield 34, 3) := by decide +kernel
theorem dX7_target_87 : decode cX7_target 87 = .ok (.dup, 1) := by decide +kernel
theorem dX7_target_88 : decode cX7_target 88 = .ok (.getfield 64, 3) := by decide +kernel
theorem dX7_target_91 : decode cX7_target 91 = .ok (.iconst 1, 1) := by decide +kernel
theorem dX7_target_92 : decode cX7_target 92 = .ok (.iadd, 1) := by decide +kernel
theorem dX7_target_93 : decode cX7_target 93 = .ok (.putfield 64, 3) := by decide +kernel
theorem dX7_target_96 : decode cX7_target 96 = .ok (.bipush 13, 2) := by decide +kernel
theorem dX7_target_98 : decode cX7_target 98 = .ok (.iload_n 2, 1) := by decide +kernel
theorem dX7_target_99 : decode cX7_target 99 = .ok (.bipush 45, 2) := by decide +kernel
theorem dX7_target_101 : decode cX7_target 101 = .ok (.if_icmp .ne 7, 3) := by decide +kernel
theorem dX7_target_104 : decode cX7_target 104 = .ok (.iconst (-1), 1) := by decide +kernel
theorem dX7_target_105 : decode cX7_target 105 = .ok (.goto 7, 3) := by decide +kernel
theorem dX7_target_108 : decode cX7_target 108 = .ok (.iload_n 2, 1) := by decide +kernel
theorem dX7_target_109 : decode cX7_target 109 = .ok (.bipush 48, 2) := by decide +kernel
theorem dX7_target_111 : decode cX7_target 111 = .ok (.isub, 1) := by decide +kernel
theorem dX7_target_112 : decode cX7_target 112 = .ok (.iadd, 1) := by decide +kernel
theorem dX7_target_113 : decode cX7_target 113 = .ok (.ireturn, 1) := by decide +kernel
theorem dX7_numberAbove_0 : decode cX7_numberAbove 0 = .ok (.iconst 0, 1) := by decide +kernel
theorem dX7_numberAbove_1 : decode cX7_numberAbove 1 = .ok (.istore_n 2, 1) := by decide +kernel
theorem dX7_numberAbove_2 : decode cX7_numberAbove 2 = .ok (.iconst 0, 1) := by decide +kernel
theorem dX7_numberAbove_3 : decode cX7_numberAbove 3 = .ok (.istore_n 3, 1) := by decide +kernel
theorem dX7_numberAbove_4 : decode cX7_numberAbove 4 = .ok (.iload_n 3, 1) := by decide +kernel
theorem dX7_numberAbove_5 : decode cX7_numberAbove 5 = .ok (.iconst 2, 1) := by decide +kernel
theorem dX7_numberAbove_6 : decode cX7_numberAbove 6 = .ok (.if_icmp .ge 48, 3) := by decide +kernel
theorem dX7_numberAbove_9 : decode cX7_numberAbove 9 = .ok (.aload_n 0, 1) := by decide +kernel
theorem dX7_numberAbove_10 : decode cX7_numberAbove 10 = .ok (.getfield 34, 3) := by decide +kernel
theorem dX7_numberAbove_13 : decode cX7_numberAbove 13 = .ok (.invokevirtual 133, 3) := by decide +kernel
theorem dX7_numberAbove_16 : decode cX7_numberAbove 16 = .ok (.ifCond .eq 38, 3) := by decide +kernel
theorem dX7_numberAbove_19 : decode cX7_numberAbove 19 = .ok (.iload_n 2, 1) := by decide +kernel
theorem dX7_numberAbove_20 : decode cX7_numberAbove 20 = .ok (.bipush 10, 2) := by decide +kernel
theorem dX7_numberAbove_22 : decode cX7_numberAbove 22 = .ok (.imul, 1) := by decide +kernel
theorem dX7_numberAbove_23 : decode cX7_numberAbove 23 = .ok (.aload_n 0, 1) := by decide +kernel
theorem dX7_numberAbove_24 : decode cX7_numberAbove 24 = .ok (.getfield 34, 3) := by decide +kernel
theorem dX7_numberAbove_27 : decode cX7_numberAbove 27 = .ok (.invokevirtual 115, 3) := by decide +kernel
theorem dX7_numberAbove_30 : decode cX7_numberAbove 30 = .ok (.iadd, 1) := by decide +kernel
theorem dX7_numberAbove_31 : decode cX7_numberAbove 31 = .ok (.bipush 48, 2) := by decide +kernel
theorem dX7_numberAbove_33 : decode cX7_numberAbove 33 = .ok (.isub, 1) := by decide +kernel
theorem dX7_numberAbove_34 : decode cX7_numberAbove 34 = .ok (.istore_n 2, 1) := by decide +kernel
theorem dX7_numberAbove_35 : decode cX7_numberAbove 35 = .ok (.aload_n 0, 1) := by decide +kernel
theorem dX7_numberAbove_36 : decode cX7_numberAbove 36 = .ok (.getfield 34, 3) := by decide +kernel
theorem dX7_numberAbove_39 : decode cX7_numberAbove 39 = .ok (.dup, 1) := by decide +kernel
theorem dX7_numberAbove_40 : decode cX7_numberAbove 40 = .ok (.getfield 64, 3) := by decide +kernel
theorem dX7_numberAbove_43 : decode cX7_numberAbove 43 = .ok (.iconst 1, 1) := by decide +kernel
theorem dX7_numberAbove_44 : decode cX7_numberAbove 44 = .ok (.iadd, 1) := by decide +kernel
theorem dX7_numberAbove_45 : decode cX7_numberAbove 45 = .ok (.putfield 64, 3) := by decide +kernel
theorem dX7_numberAbove_48 : decode cX7_numberAbove 48 = .ok (.iinc 3 1, 3) := by decide +kernel
theorem dX7_numberAbove_51 : decode cX7_numberAbove 51 = .ok (.goto (-47), 3) := by decide +kernel
theorem dX7_numberAbove_54 : decode cX7_numberAbove 54 = .ok (.aload_n 0, 1) := by decide +kernel
theorem dX7_numberAbove_55 : decode cX7_numberAbove 55 = .ok (.getfield 34, 3) := by decide +kernel
theorem dX7_numberAbove_58 : decode cX7_numberAbove 58 = .ok (.invokevirtual 133, 3) := by decide +kernel
theorem dX7_numberAbove_61 : decode cX7_numberAbove 61 = .ok (.ifCond .eq 20, 3) := by decide +kernel
theorem dX7_numberAbove_64 : decode cX7_numberAbove 64 = .ok (.aload_n 0, 1) := by decide +kernel
theorem dX7_numberAbove_65 : decode cX7_numberAbove 65 = .ok (.getfield 34, 3) := by decide +kernel
theorem dX7_numberAbove_68 : decode cX7_numberAbove 68 = .ok (.aload_n 0, 1) := by decide +kernel
theorem dX7_numberAbove_69 : decode cX7_numberAbove 69 = .ok (.getfield 34, 3) := by decide +kernel
theorem dX7_numberAbove_72 : decode cX7_numberAbove 72 = .ok (.getfield 64, 3) := by decide +kernel
theorem dX7_numberAbove_75 : decode cX7_numberAbove 75 = .ok (.invokevirtual 67, 3) := by decide +kernel
theorem dX7_numberAbove_78 : decode cX7_numberAbove 78 = .ok (.pop, 1) := by decide +kernel
theorem dX7_numberAbove_79 : decode cX7_numberAbove 79 = .ok (.iconst (-1), 1) := by decide +kernel
theorem dX7_numberAbove_80 : decode cX7_numberAbove 80 = .ok (.ireturn, 1) := by decide +kernel
theorem dX7_numberAbove_81 : decode cX7_numberAbove 81 = .ok (.iload_n 2, 1) := by decide +kernel
theorem dX7_numberAbove_82 : decode cX7_numberAbove 82 = .ok (.iload_n 1, 1) := by decide +kernel
theorem dX7_numberAbove_83 : decode cX7_numberAbove 83 = .ok (.if_icmp .le 9, 3) := by decide +kernel
theorem dX7_numberAbove_86 : decode cX7_numberAbove 86 = .ok (.iload_n 2, 1) := by decide +kernel
theorem dX7_numberAbove_87 : decode cX7_numberAbove 87 = .ok (.bipush 12, 2) := by decide +kernel
theorem dX7_numberAbove_89 : decode cX7_numberAbove 89 = .ok (.if_icmp .lt 22, 3) := by decide +kernel
theorem dX7_numberAbove_92 : decode cX7_numberAbove 92 = .ok (.aload_n 0, 1) := by decide +kernel
theorem dX7_numberAbove_93 : decode cX7_numberAbove 93 = .ok (.getfield 34, 3) := by decide +kernel
theorem dX7_numberAbove_96 : decode cX7_numberAbove 96 = .ok (.aload_n 0, 1) := by decide +kernel
theorem dX7_numberAbove_97 : decode cX7_numberAbove 97 = .ok (.getfield 34, 3) := by decide +kernel
theorem dX7_numberAbove_100 : decode cX7_numberAbove 100 = .ok (.getfield 64, 3) := by decide +kernel
theorem dX7_numberAbove_103 : decode cX7_numberAbove 103 = .ok (.iconst 1, 1) := by decide +kernel
theorem dX7_numberAbove_104 : decode cX7_numberAbove 104 = .ok (.isub, 1) := by decide +kernel
theorem dX7_numberAbove_105 : decode cX7_numberAbove 105 = .ok (.invokevirtual 67, 3) := by decide +kernel
theorem dX7_numberAbove_108 : decode cX7_numberAbove 108 = .ok (.pop, 1) := by decide +kernel
theorem dX7_numberAbove_109 : decode cX7_numberAbove 109 = .ok (.iconst (-1), 1) := by decide +kernel
theorem dX7_numberAbove_110 : decode cX7_numberAbove 110 = .ok (.ireturn, 1) := by decide +kernel
theorem dX7_numberAbove_111 : decode cX7_numberAbove 111 = .ok (.aload_n 0, 1) := by decide +kernel
theorem dX7_numberAbove_112 : decode cX7_numberAbove 112 = .ok (.aload_n 0, 1) := by decide +kernel
theorem dX7_numberAbove_113 : decode cX7_numberAbove 113 = .ok (.getfield 53, 3) := by decide +kernel
theorem dX7_numberAbove_116 : decode cX7_numberAbove 116 = .ok (.iload_n 2, 1) := by decide +kernel
theorem dX7_numberAbove_117 : decode cX7_numberAbove 117 = .ok (.invokestatic 137, 3) := by decide +kernel
theorem dX7_numberAbove_120 : decode cX7_numberAbove 120 = .ok (.putfield 53, 3) := by decide +kernel
theorem dX7_numberAbove_123 : decode cX7_numberAbove 123 = .ok (.iload_n 2, 1) := by decide +kernel
theorem dX7_numberAbove_124 : decode cX7_numberAbove 124 = .ok (.ireturn, 1) := by decide +kernel
theorem dX7_handOver_0 : decode cX7_handOver 0 = .ok (.aload_n 0, 1) := by decide +kernel
theorem dX7_handOver_1 : decode cX7_handOver 1 = .ok (.getfield 30, 3) := by decide +kernel
theorem dX7_handOver_4 : decode cX7_handOver 4 = .ok (.astore_n 1, 1) := by decide +kernel
theorem dX7_handOver_5 : decode cX7_handOver 5 = .ok (.aload_n 1, 1) := by decide +kernel
theorem dX7_handOver_6 : decode cX7_handOver 6 = .ok (.aload_n 0, 1) := by decide +kernel
theorem dX7_handOver_7 : decode cX7_handOver 7 = .ok (.getfield 50, 3) := by decide +kernel
theorem dX7_handOver_10 : decode cX7_handOver 10 = .ok (.putfield 142, 3) := by decide +kernel
theorem dX7_handOver_13 : decode cX7_handOver 13 = .ok (.aload_n 0, 1) := by decide +kernel
theorem dX7_handOver_14 : decode cX7_handOver 14 = .ok (.new 27, 3) := by decide +kernel
theorem dX7_handOver_17 : decode cX7_handOver 17 = .ok (.dup, 1) := by decide +kernel
theorem dX7_handOver_18 : decode cX7_handOver 18 = .ok (.invokespecial 29, 3) := by decide +kernel
theorem dX7_handOver_21 : decode cX7_handOver 21 = .ok (.putfield 30, 3) := by decide +kernel
theorem dX7_handOver_24 : decode cX7_handOver 24 = .ok (.aload_n 1, 1) := by decide +kernel
theorem dX7_handOver_25 : decode cX7_handOver 25 = .ok (.areturn, 1) := by decide +kernel
theorem dX7_clausesThatHold_0 : decode cX7_clausesThatHold 0 = .ok (.iconst 0, 1) := by decide +kernel
theorem dX7_clausesThatHold_1 : decode cX7_clausesThatHold 1 = .ok (.istore_n 2, 1) := by decide +kernel
theorem dX7_clausesThatHold_2 : decode cX7_clausesThatHold 2 = .ok (.iconst 0, 1) := by decide +kernel
theorem dX7_clausesThatHold_3 : decode cX7_clausesThatHold 3 = .ok (.istore_n 3, 1) := by decide +kernel
theorem dX7_clausesThatHold_4 : decode cX7_clausesThatHold 4 = .ok (.iload_n 3, 1) := by decide +kernel
theorem dX7_clausesThatHold_5 : decode cX7_clausesThatHold 5 = .ok (.aload_n 0, 1) := by decide +kernel
theorem dX7_clausesThatHold_6 : decode cX7_clausesThatHold 6 = .ok (.getfield 50, 3) := by decide +kernel
theorem dX7_clausesThatHold_9 : decode cX7_clausesThatHold 9 = .ok (.if_icmp .ge 82, 3) := by decide +kernel
theorem dX7_clausesThatHold_12 : decode cX7_clausesThatHold 12 = .ok (.aload_n 0, 1) := by decide +kernel
theorem dX7_clausesThatHold_13 : decode cX7_clausesThatHold 13 = .ok (.getfield 21, 3) := by decide +kernel
theorem dX7_clausesThatHold_16 : decode cX7_clausesThatHold 16 = .ok (.iload_n 3, 1) := by decide +kernel
theorem dX7_clausesThatHold_17 : decode cX7_clausesThatHold 17 = .ok (.iaload, 1) := by decide +kernel
theorem dX7_clausesThatHold_18 : decode cX7_clausesThatHold 18 = .ok (.aload_n 0, 1) := by decide +kernel
theorem dX7_clausesThatHold_19 : decode cX7_clausesThatHold 19 = .ok (.getfield 24, 3) := by decide +kernel
theorem dX7_clausesThatHold_22 : decode cX7_clausesThatHold 22 = .ok (.iload_n 3, 1) := by decide +kernel
theorem dX7_clausesThatHold_23 : decode cX7_clausesThatHold 23 = .ok (.iaload, 1) := by decide +kernel
theorem dX7_clausesThatHold_24 : decode cX7_clausesThatHold 24 = .ok (.if_icmp .ge 27, 3) := by decide +kernel
theorem dX7_clausesThatHold_27 : decode cX7_clausesThatHold 27 = .ok (.aload_n 0, 1) := by decide +kernel
theorem dX7_clausesThatHold_28 : decode cX7_clausesThatHold 28 = .ok (.aload_n 0, 1) := by decide +kernel
theorem dX7_clausesThatHold_29 : decode cX7_clausesThatHold 29 = .ok (.getfield 21, 3) := by decide +kernel
theorem dX7_clausesThatHold_32 : decode cX7_clausesThatHold 32 = .ok (.iload_n 3, 1) := by decide +kernel
theorem dX7_clausesThatHold_33 : decode cX7_clausesThatHold 33 = .ok (.iaload, 1) := by decide +kernel
theorem dX7_clausesThatHold_34 : decode cX7_clausesThatHold 34 = .ok (.aload_n 0, 1) := by decide +kernel
theorem dX7_clausesThatHold_35 : decode cX7_clausesThatHold 35 = .ok (.getfield 24, 3) := by decide +kernel
theorem dX7_clausesThatHold_38 : decode cX7_clausesThatHold 38 = .ok (.iload_n 3, 1) := by decide +kernel
theorem dX7_clausesThatHold_39 : decode cX7_clausesThatHold 39 = .ok (.iaload, 1) := by decide +kernel
theorem dX7_clausesThatHold_40 : decode cX7_clausesThatHold 40 = .ok (.iload_n 1, 1) := by decide +kernel
theorem dX7_clausesThatHold_41 : decode cX7_clausesThatHold 41 = .ok (.invokevirtual 145, 3) := by decide +kernel
theorem dX7_clausesThatHold_44 : decode cX7_clausesThatHold 44 = .ok (.ifCond .eq 7, 3) := by decide +kernel
theorem dX7_clausesThatHold_47 : decode cX7_clausesThatHold 47 = .ok (.iconst 1, 1) := by decide +kernel
theorem dX7_clausesThatHold_48 : decode cX7_clausesThatHold 48 = .ok (.goto 4, 3) := by decide +kernel
theorem dX7_clausesThatHold_51 : decode cX7_clausesThatHold 51 = .ok (.iconst 0, 1) := by decide +kernel
theorem dX7_clausesThatHold_52 : decode cX7_clausesThatHold 52 = .ok (.istore 4, 2) := by decide +kernel
theorem dX7_clausesThatHold_54 : decode cX7_clausesThatHold 54 = .ok (.iload 4, 2) := by decide +kernel
theorem dX7_clausesThatHold_56 : decode cX7_clausesThatHold 56 = .ok (.ifCond .ne 29, 3) := by decide +kernel
theorem dX7_clausesThatHold_59 : decode cX7_clausesThatHold 59 = .ok (.aload_n 0, 1) := by decide +kernel
theorem dX7_clausesThatHold_60 : decode cX7_clausesThatHold 60 = .ok (.aload_n 0, 1) := by decide +kernel
theorem dX7_clausesThatHold_61 : decode cX7_clausesThatHold 61 = .ok (.getfield 18, 3) := by decide +kernel
theorem dX7_clausesThatHold_64 : decode cX7_clausesThatHold 64 = .ok (.iload_n 3, 1) := by decide +kernel
theorem dX7_clausesThatHold_65 : decode cX7_clausesThatHold 65 = .ok (.iaload, 1) := by decide +kernel
theorem dX7_clausesThatHold_66 : decode cX7_clausesThatHold 66 = .ok (.aload_n 0, 1) := by decide +kernel
theorem dX7_clausesThatHold_67 : decode cX7_clausesThatHold 67 = .ok (.getfield 21, 3) := by decide +kernel
theorem dX7_clausesThatHold_70 : decode cX7_clausesThatHold 70 = .ok (.iload_n 3, 1) := by decide +kernel
theorem dX7_clausesThatHold_71 : decode cX7_clausesThatHold 71 = .ok (.iaload, 1) := by decide +kernel
theorem dX7_clausesThatHold_72 : decode cX7_clausesThatHold 72 = .ok (.iload_n 1, 1) := by decide +kernel
theorem dX7_clausesThatHold_73 : decode cX7_clausesThatHold 73 = .ok (.invokevirtual 145, 3) := by decide +kernel
theorem dX7_clausesThatHold_76 : decode cX7_clausesThatHold 76 = .ok (.ifCond .eq 9, 3) := by decide +kernel
theorem dX7_clausesThatHold_79 : decode cX7_clausesThatHold 79 = .ok (.iload_n 2, 1) := by decide +kernel
theorem dX7_clausesThatHold_80 : decode cX7_clausesThatHold 80 = .ok (.iconst 1, 1) := by decide +kernel
theorem dX7_clausesThatHold_81 : decode cX7_clausesThatHold 81 = .ok (.iload_n 3, 1) := by decide +kernel
theorem dX7_clausesThatHold_82 : decode cX7_clausesThatHold 82 = .ok (.ishl, 1) := by decide +kernel
theorem dX7_clausesThatHold_83 : decode cX7_clausesThatHold 83 = .ok (.ior, 1) := by decide +kernel
theorem dX7_clausesThatHold_84 : decode cX7_clausesThatHold 84 = .ok (.istore_n 2, 1) := by decide +kernel
theorem dX7_clausesThatHold_85 : decode cX7_clausesThatHold 85 = .ok (.iinc 3 1, 3) := by decide +kernel
theorem dX7_clausesThatHold_88 : decode cX7_clausesThatHold 88 = .ok (.goto (-84), 3) := by decide +kernel
theorem dX7_clausesThatHold_91 : decode cX7_clausesThatHold 91 = .ok (.iload_n 2, 1) := by decide +kernel
theorem dX7_clausesThatHold_92 : decode cX7_clausesThatHold 92 = .ok (.ireturn, 1) := by decide +kernel
theorem dX7_questionHolds_0 : decode cX7_questionHolds 0 = .ok (.aload_n 0, 1) := by decide +kernel
theorem dX7_questionHolds_1 : decode cX7_questionHolds 1 = .ok (.iconst 0, 1) := by decide +kernel
theorem dX7_questionHolds_2 : decode cX7_questionHolds 2 = .ok (.aload_n 0, 1) := by decide +kernel
theorem dX7_questionHolds_3 : decode cX7_questionHolds 3 = .ok (.getfield 47, 3) := by decide +kernel
theorem dX7_questionHolds_6 : decode cX7_questionHolds 6 = .ok (.iload_n 1, 1) := by decide +kernel
theorem dX7_questionHolds_7 : decode cX7_questionHolds 7 = .ok (.invokevirtual 145, 3) := by decide +kernel
theorem dX7_questionHolds_10 : decode cX7_questionHolds 10 = .ok (.ireturn, 1) := by decide +kernel
theorem dX7_isSo_0 : decode cX7_isSo 0 = .ok (.lconst 0, 1) := by decide +kernel
theorem dX7_isSo_1 : decode cX7_isSo 1 = .ok (.lstore 4, 2) := by decide +kernel
theorem dX7_isSo_3 : decode cX7_isSo 3 = .ok (.iload_n 1, 1) := by decide +kernel
theorem dX7_isSo_4 : decode cX7_isSo 4 = .ok (.istore 6, 2) := by decide +kernel
theorem dX7_isSo_6 : decode cX7_isSo 6 = .ok (.iload 6, 2) := by decide +kernel
theorem dX7_isSo_8 : decode cX7_isSo 8 = .ok (.iload_n 2, 1) := by decide +kernel
theorem dX7_isSo_9 : decode cX7_isSo 9 = .ok (.if_icmp .ge 134, 3) := by decide +kernel
theorem dX7_isSo_12 : decode cX7_isSo 12 = .ok (.aload_n 0, 1) := by decide +kernel
theorem dX7_isSo_13 : decode cX7_isSo 13 = .ok (.getfield 9, 3) := by decide +kernel
theorem dX7_isSo_16 : decode cX7_isSo 16 = .ok (.iload 6, 2) := by decide +kernel
theorem dX7_isSo_18 : decode cX7_isSo 18 = .ok (.iaload, 1) := by decide +kernel
theorem dX7_isSo_19 : decode cX7_isSo 19 = .ok (.iconst 2, 1) := by decide +kernel
theorem dX7_isSo_20 : decode cX7_isSo 20 = .ok (.ishr, 1) := by decide +kernel
theorem dX7_isSo_21 : decode cX7_isSo 21 = .ok (.istore 7, 2) := by decide +kernel
theorem dX7_isSo_23 : decode cX7_isSo 23 = .ok (.lload 4, 2) := by decide +kernel
theorem dX7_isSo_25 : decode cX7_isSo 25 = .ok (.lconst 1, 1) := by decide +kernel
theorem dX7_isSo_26 : decode cX7_isSo 26 = .ok (.land, 1) := by decide +kernel
theorem dX7_isSo_27 : decode cX7_isSo 27 = .ok (.lstore 8, 2) := by decide +kernel
theorem dX7_isSo_29 : decode cX7_isSo 29 = .ok (.aload_n 0, 1) := by decide +kernel
theorem dX7_isSo_30 : decode cX7_isSo 30 = .ok (.getfield 9, 3) := by decide +kernel
theorem dX7_isSo_33 : decode cX7_isSo 33 = .ok (.iload 6, 2) := by decide +kernel
theorem dX7_isSo_35 : decode cX7_isSo 35 = .ok (.iaload, 1) := by decide +kernel
theorem dX7_isSo_36 : decode cX7_isSo 36 = .ok (.iconst 3, 1) := by decide +kernel
theorem dX7_isSo_37 : decode cX7_isSo 37 = .ok (.iand, 1) := by decide +kernel
theorem dX7_isSo_38 : decode cX7_isSo 38 = .ok (.tableswitch 63 1 3 #[26, 35, 51], 26) := by decide +kernel
theorem dX7_isSo_64 : decode cX7_isSo 64 = .ok (.lload 4, 2) := by decide +kernel
theorem dX7_isSo_66 : decode cX7_isSo 66 = .ok (.lconst 1, 1) := by decide +kernel
theorem dX7_isSo_67 : decode cX7_isSo 67 = .ok (.lxor, 1) := by decide +kernel
theorem dX7_isSo_68 : decode cX7_isSo 68 = .ok (.lstore 4, 2) := by decide +kernel
theorem dX7_isSo_70 : decode cX7_isSo 70 = .ok (.goto 67, 3) := by decide +kernel
theorem dX7_isSo_73 : decode cX7_isSo 73 = .ok (.lload 4, 2) := by decide +kernel
theorem dX7_isSo_75 : decode cX7_isSo 75 = .ok (.iconst 1, 1) := by decide +kernel
theorem dX7_isSo_76 : decode cX7_isSo 76 = .ok (.lushr, 1) := by decide +kernel
theorem dX7_isSo_77 : decode cX7_isSo 77 = .ok (.lload 8, 2) := by decide +kernel
theorem dX7_isSo_79 : decode cX7_isSo 79 = .ok (.ldc2_w 149, 3) := by decide +kernel
theorem dX7_isSo_82 : decode cX7_isSo 82 = .ok (.lor, 1) := by decide +kernel
theorem dX7_isSo_83 : decode cX7_isSo 83 = .ok (.land, 1) := by decide +kernel
theorem dX7_isSo_84 : decode cX7_isSo 84 = .ok (.lstore 4, 2) := by decide +kernel
theorem dX7_isSo_86 : decode cX7_isSo 86 = .ok (.goto 51, 3) := by decide +kernel
theorem dX7_isSo_89 : decode cX7_isSo 89 = .ok (.lload 4, 2) := by decide +kernel
theorem dX7_isSo_91 : decode cX7_isSo 91 = .ok (.iconst 1, 1) := by decide +kernel
theorem dX7_isSo_92 : decode cX7_isSo 92 = .ok (.lushr, 1) := by decide +kernel
theorem dX7_isSo_93 : decode cX7_isSo 93 = .ok (.lload 8, 2) := by decide +kernel
theorem dX7_isSo_95 : decode cX7_isSo 95 = .ok (.lor, 1) := by decide +kernel
theorem dX7_isSo_96 : decode cX7_isSo 96 = .ok (.lstore 4, 2) := by decide +kernel
theorem dX7_isSo_98 : decode cX7_isSo 98 = .ok (.goto 39, 3) := by decide +kernel
theorem dX7_isSo_101 : decode cX7_isSo 101 = .ok (.iload 7, 2) := by decide +kernel
theorem dX7_isSo_103 : decode cX7_isSo 103 = .ok (.iload_n 3, 1) := by decide +kernel
theorem dX7_isSo_104 : decode cX7_isSo 104 = .ok (.iand, 1) := by decide +kernel
theorem dX7_isSo_105 : decode cX7_isSo 105 = .ok (.sipush 511, 3) := by decide +kernel
theorem dX7_isSo_108 : decode cX7_isSo 108 = .ok (.iand, 1) := by decide +kernel
theorem dX7_isSo_109 : decode cX7_isSo 109 = .ok (.invokestatic 151, 3) := by decide +kernel
theorem dX7_isSo_112 : decode cX7_isSo 112 = .ok (.istore 10, 2) := by decide +kernel
theorem dX7_isSo_114 : decode cX7_isSo 114 = .ok (.lload 4, 2) := by decide +kernel
theorem dX7_isSo_116 : decode cX7_isSo 116 = .ok (.iconst 1, 1) := by decide +kernel
theorem dX7_isSo_117 : decode cX7_isSo 117 = .ok (.lshl, 1) := by decide +kernel
theorem dX7_isSo_118 : decode cX7_isSo 118 = .ok (.iload 10, 2) := by decide +kernel
theorem dX7_isSo_120 : decode cX7_isSo 120 = .ok (.iload 7, 2) := by decide +kernel
theorem dX7_isSo_122 : decode cX7_isSo 122 = .ok (.bipush 9, 2) := by decide +kernel
theorem dX7_isSo_124 : decode cX7_isSo 124 = .ok (.ishr, 1) := by decide +kernel
theorem dX7_isSo_125 : decode cX7_isSo 125 = .ok (.if_icmp .lt 7, 3) := by decide +kernel
theorem dX7_isSo_128 : decode cX7_isSo 128 = .ok (.iconst 1, 1) := by decide +kernel
theorem dX7_isSo_129 : decode cX7_isSo 129 = .ok (.goto 4, 3) := by decide +kernel
theorem dX7_isSo_132 : decode cX7_isSo 132 = .ok (.iconst 0, 1) := by decide +kernel
theorem dX7_isSo_133 : decode cX7_isSo 133 = .ok (.i2l, 1) := by decide +kernel
theorem dX7_isSo_134 : decode cX7_isSo 134 = .ok (.lor, 1) := by decide +kernel
theorem dX7_isSo_135 : decode cX7_isSo 135 = .ok (.lstore 4, 2) := by decide +kernel
theorem dX7_isSo_137 : decode cX7_isSo 137 = .ok (.iinc 6 1, 3) := by decide +kernel
theorem dX7_isSo_140 : decode cX7_isSo 140 = .ok (.goto (-134), 3) := by decide +kernel
theorem dX7_isSo_143 : decode cX7_isSo 143 = .ok (.lload 4, 2) := by decide +kernel
theorem dX7_isSo_145 : decode cX7_isSo 145 = .ok (.lconst 1, 1) := by decide +kernel
theorem dX7_isSo_146 : decode cX7_isSo 146 = .ok (.land, 1) := by decide +kernel
theorem dX7_isSo_147 : decode cX7_isSo 147 = .ok (.lconst 0, 1) := by decide +kernel
theorem dX7_isSo_148 : decode cX7_isSo 148 = .ok (.lcmp, 1) := by decide +kernel
theorem dX7_isSo_149 : decode cX7_isSo 149 = .ok (.ifCond .eq 7, 3) := by decide +kernel
theorem dX7_isSo_152 : decode cX7_isSo 152 = .ok (.iconst 1, 1) := by decide +kernel
theorem dX7_isSo_153 : decode cX7_isSo 153 = .ok (.goto 4, 3) := by decide +kernel
theorem dX7_isSo_156 : decode cX7_isSo 156 = .ok (.iconst 0, 1) := by decide +kernel
theorem dX7_isSo_157 : decode cX7_isSo 157 = .ok (.ireturn, 1) := by decide +kernel
theorem dX8_init_0 : decode cX8_init 0 = .ok (.aload_n 0, 1) := by decide +kernel
theorem dX8_init_1 : decode cX8_init 1 = .ok (.invokespecial 3, 3) := by decide +kernel
theorem dX8_init_4 : decode cX8_init 4 = .ok (.aload_n 0, 1) := by decide +kernel
theorem dX8_init_5 : decode cX8_init 5 = .ok (.bipush 20, 2) := by decide +kernel
theorem dX8_init_7 : decode cX8_init 7 = .ok (.newarray .int, 2) := by decide +kernel
theorem dX8_init_9 : decode cX8_init 9 = .ok (.putfield 9, 3) := by decide +kernel
theorem dX8_init_12 : decode cX8_init 12 = .ok (.aload_n 0, 1) := by decide +kernel
theorem dX8_init_13 : decode cX8_init 13 = .ok (.bipush 20, 2) := by decide +kernel
theorem dX8_init_15 : decode cX8_init 15 = .ok (.newarray .int, 2) := by decide +kernel
theorem dX8_init_17 : decode cX8_init 17 = .ok (.putfield 15, 3) := by decide +kernel
theorem dX8_init_20 : decode cX8_init 20 = .ok (.return_, 1) := by decide +kernel
theorem dX8_added_0 : decode cX8_added 0 = .ok (.aload_n 0, 1) := by decide +kernel
theorem dX8_added_1 : decode cX8_added 1 = .ok (.getfield 18, 3) := by decide +kernel
theorem dX8_added_4 : decode cX8_added 4 = .ok (.bipush 20, 2) := by decide +kernel
theorem dX8_added_6 : decode cX8_added 6 = .ok (.if_icmp .lt 5, 3) := by decide +kernel
theorem dX8_added_9 : decode cX8_added 9 = .ok (.iconst (-1), 1) := by decide +kernel
theorem dX8_added_10 : decode cX8_added 10 = .ok (.ireturn, 1) := by decide +kernel
theorem dX8_added_11 : decode cX8_added 11 = .ok (.aload_n 0, 1) := by decide +kernel
theorem dX8_added_12 : decode cX8_added 12 = .ok (.getfield 9, 3) := by decide +kernel
theorem dX8_added_15 : decode cX8_added 15 = .ok (.aload_n 0, 1) := by decide +kernel
theorem dX8_added_16 : decode cX8_added 16 = .ok (.getfield 18, 3) := by decide +kernel
theorem dX8_added_19 : decode cX8_added 19 = .ok (.iload_n 1, 1) := by decide +kernel
theorem dX8_added_20 : decode cX8_added 20 = .ok (.iastore, 1) := by decide +kernel
theorem dX8_added_21 : decode cX8_added 21 = .ok (.aload_n 0, 1) := by decide +kernel
theorem dX8_added_22 : decode cX8_added 22 = .ok (.getfield 15, 3) := by decide +kernel
theorem dX8_added_25 : decode cX8_added 25 = .ok (.aload_n 0, 1) := by decide +kernel
theorem dX8_added_26 : decode cX8_added 26 = .ok (.getfield 18, 3) := by decide +kernel
theorem dX8_added_29 : decode cX8_added 29 = .ok (.iload_n 2, 1) := by decide +kernel
theorem dX8_added_30 : decode cX8_added 30 = .ok (.iastore, 1) := by decide +kernel
theorem dX8_added_31 : decode cX8_added 31 = .ok (.aload_n 0, 1) := by decide +kernel
theorem dX8_added_32 : decode cX8_added 32 = .ok (.dup, 1) := by decide +kernel
theorem dX8_added_33 : decode cX8_added 33 = .ok (.getfield 18, 3) := by decide +kernel
theorem dX8_added_36 : decode cX8_added 36 = .ok (.iconst 1, 1) := by decide +kernel
theorem dX8_added_37 : decode cX8_added 37 = .ok (.iadd, 1) := by decide +kernel
theorem dX8_added_38 : decode cX8_added 38 = .ok (.putfield 18, 3) := by decide +kernel
theorem dX8_added_41 : decode cX8_added 41 = .ok (.aload_n 0, 1) := by decide +kernel
theorem dX8_added_42 : decode cX8_added 42 = .ok (.getfield 18, 3) := by decide +kernel
theorem dX8_added_45 : decode cX8_added 45 = .ok (.ireturn, 1) := by decide +kernel
theorem dX8_againstWithout_0 : decode cX8_againstWithout 0 = .ok (.iconst 0, 1) := by decide +kernel
theorem dX8_againstWithout_1 : decode cX8_againstWithout 1 = .ok (.istore_n 3, 1) := by decide +kernel
theorem dX8_againstWithout_2 : decode cX8_againstWithout 2 = .ok (.iconst 0, 1) := by decide +kernel
theorem dX8_againstWithout_3 : decode cX8_againstWithout 3 = .ok (.istore 4, 2) := by decide +kernel
theorem dX8_againstWithout_5 : decode cX8_againstWithout 5 = .ok (.iload 4, 2) := by decide +kernel
theorem dX8_againstWithout_7 : decode cX8_againstWithout 7 = .ok (.aload_n 0, 1) := by decide +kernel
theorem dX8_againstWithout_8 : decode cX8_againstWithout 8 = .ok (.getfield 18, 3) := by decide +kernel
theorem dX8_againstWithout_11 : decode cX8_againstWithout 11 = .ok (.if_icmp .ge 46, 3) := by decide +kernel
theorem dX8_againstWithout_14 : decode cX8_againstWithout 14 = .ok (.aload_n 1, 1) := by decide +kernel
theorem dX8_againstWithout_15 : decode cX8_againstWithout 15 = .ok (.aload_n 1, 1) := by decide +kernel
theorem dX8_againstWithout_16 : decode cX8_againstWithout 16 = .ok (.getfield 22, 3) := by decide +kernel
theorem dX8_againstWithout_19 : decode cX8_againstWithout 19 = .ok (.aload_n 0, 1) := by decide +kernel
theorem dX8_againstWithout_20 : decode cX8_againstWithout 20 = .ok (.getfield 9, 3) := by decide +kernel
theorem dX8_againstWithout_23 : decode cX8_againstWithout 23 = .ok (.iload 4, 2) := by decide +kernel
theorem dX8_againstWithout_25 : decode cX8_againstWithout 25 = .ok (.iaload, 1) := by decide +kernel
theorem dX8_againstWithout_26 : decode cX8_againstWithout 26 = .ok (.iaload, 1) := by decide +kernel
theorem dX8_againstWithout_27 : decode cX8_againstWithout 27 = .ok (.iload_n 2, 1) := by decide +kernel
theorem dX8_againstWithout_28 : decode cX8_againstWithout 28 = .ok (.iconst (-1), 1) := by decide +kernel
theorem dX8_againstWithout_29 : decode cX8_againstWithout 29 = .ok (.ixor, 1) := by decide +kernel
theorem dX8_againstWithout_30 : decode cX8_againstWithout 30 = .ok (.iand, 1) := by decide +kernel
theorem dX8_againstWithout_31 : decode cX8_againstWithout 31 = .ok (.invokevirtual 27, 3) := by decide +kernel
theorem dX8_againstWithout_34 : decode cX8_againstWithout 34 = .ok (.aload_n 0, 1) := by decide +kernel
theorem dX8_againstWithout_35 : decode cX8_againstWithout 35 = .ok (.getfield 15, 3) := by decide +kernel
theorem dX8_againstWithout_38 : decode cX8_againstWithout 38 = .ok (.iload 4, 2) := by decide +kernel
theorem dX8_againstWithout_40 : decode cX8_againstWithout 40 = .ok (.iaload, 1) := by decide +kernel
theorem dX8_againstWithout_41 : decode cX8_againstWithout 41 = .ok (.if_icmp .eq 10, 3) := by decide +kernel
theorem dX8_againstWithout_44 : decode cX8_againstWithout 44 = .ok (.iload_n 3, 1) := by decide +kernel
theorem dX8_againstWithout_45 : decode cX8_againstWithout 45 = .ok (.iconst 1, 1) := by decide +kernel
theorem dX8_againstWithout_46 : decode cX8_againstWithout 46 = .ok (.iload 4, 2) := by decide +kernel
theorem dX8_againstWithout_48 : decode cX8_againstWithout 48 = .ok (.ishl, 1) := by decide +kernel
theorem dX8_againstWithout_49 : decode cX8_againstWithout 49 = .ok (.ior, 1) := by decide +kernel
theorem dX8_againstWithout_50 : decode cX8_againstWithout 50 = .ok (.istore_n 3, 1) := by decide +kernel
theorem dX8_againstWithout_51 : decode cX8_againstWithout 51 = .ok (.iinc 4 1, 3) := by decide +kernel
theorem dX8_againstWithout_54 : decode cX8_againstWithout 54 = .ok (.goto (-49), 3) := by decide +kernel
theorem dX8_againstWithout_57 : decode cX8_againstWithout 57 = .ok (.iload_n 3, 1) := by decide +kernel
theorem dX8_againstWithout_58 : decode cX8_againstWithout 58 = .ok (.ireturn, 1) := by decide +kernel
theorem dX9_init_0 : decode cX9_init 0 = .ok (.aload_n 0, 1) := by decide +kernel
theorem dX9_init_1 : decode cX9_init 1 = .ok (.invokespecial 3, 3) := by decide +kernel
theorem dX9_init_4 : decode cX9_init 4 = .ok (.aload_n 0, 1) := by decide +kernel
theorem dX9_init_5 : decode cX9_init 5 = .ok (.iload_n 1, 1) := by decide +kernel
theorem dX9_init_6 : decode cX9_init 6 = .ok (.putfield 9, 3) := by decide +kernel
theorem dX9_init_9 : decode cX9_init 9 = .ok (.aload_n 0, 1) := by decide +kernel
theorem dX9_init_10 : decode cX9_init 10 = .ok (.iload_n 1, 1) := by decide +kernel
theorem dX9_init_11 : decode cX9_init 11 = .ok (.newarray .int, 2) := by decide +kernel
theorem dX9_init_13 : decode cX9_init 13 = .ok (.putfield 15, 3) := by decide +kernel
theorem dX9_init_16 : decode cX9_init 16 = .ok (.aload_n 0, 1) := by decide +kernel
theorem dX9_init_17 : decode cX9_init 17 = .ok (.iload_n 1, 1) := by decide +kernel
theorem dX9_init_18 : decode cX9_init 18 = .ok (.newarray .int, 2) := by decide +kernel
theorem dX9_init_20 : decode cX9_init 20 = .ok (.putfield 19, 3) := by decide +kernel
theorem dX9_init_23 : decode cX9_init 23 = .ok (.iconst 0, 1) := by decide +kernel
theorem dX9_init_24 : decode cX9_init 24 = .ok (.istore_n 2, 1) := by decide +kernel
theorem dX9_init_25 : decode cX9_init 25 = .ok (.iload_n 2, 1) := by decide +kernel
theorem dX9_init_26 : decode cX9_init 26 = .ok (.iload_n 1, 1) := by decide +kernel
theorem dX9_init_27 : decode cX9_init 27 = .ok (.if_icmp .ge 16, 3) := by decide +kernel
theorem dX9_init_30 : decode cX9_init 30 = .ok (.aload_n 0, 1) := by decide +kernel
theorem dX9_init_31 : decode cX9_init 31 = .ok (.getfield 15, 3) := by decide +kernel
theorem dX9_init_34 : decode cX9_init 34 = .ok (.iload_n 2, 1) := by decide +kernel
theorem dX9_init_35 : decode cX9_init 35 = .ok (.iconst 1, 1) := by decide +kernel
theorem dX9_init_36 : decode cX9_init 36 = .ok (.iastore, 1) := by decide +kernel
theorem dX9_init_37 : decode cX9_init 37 = .ok (.iinc 2 1, 3) := by decide +kernel
theorem dX9_init_40 : decode cX9_init 40 = .ok (.goto (-15), 3) := by decide +kernel
theorem dX9_init_43 : decode cX9_init 43 = .ok (.return_, 1) := by decide +kernel
theorem dX9_change_0 : decode cX9_change 0 = .ok (.iload_n 2, 1) := by decide +kernel
theorem dX9_change_1 : decode cX9_change 1 = .ok (.ifCond .lt 15, 3) := by decide +kernel
theorem dX9_change_4 : decode cX9_change 4 = .ok (.iload_n 2, 1) := by decide +kernel
theorem dX9_change_5 : decode cX9_change 5 = .ok (.aload_n 0, 1) := by decide +kernel
theorem dX9_change_6 : decode cX9_change 6 = .ok (.getfield 9, 3) := by decide +kernel
theorem dX9_change_9 : decode cX9_change 9 = .ok (.if_icmp .ge 7, 3) := by decide +kernel
theorem dX9_change_12 : decode cX9_change 12 = .ok (.iload_n 3, 1) := by decide +kernel
theorem dX9_change_13 : decode cX9_change 13 = .ok (.ifCond .ge 5, 3) := by decide +kernel
theorem dX9_change_16 : decode cX9_change 16 = .ok (.iconst 0, 1) := by decide +kernel
theorem dX9_change_17 : decode cX9_change 17 = .ok (.ireturn, 1) := by decide +kernel
theorem dX9_change_18 : decode cX9_change 18 = .ok (.iload_n 1, 1) := by decide +kernel
theorem dX9_change_19 : decode cX9_change 19 = .ok (.ifCond .ne 23, 3) := by decide +kernel
theorem dX9_change_22 : decode cX9_change 22 = .ok (.iload_n 3, 1) := by decide +kernel
theorem dX9_change_23 : decode cX9_change 23 = .ok (.iconst 1, 1) := by decide +kernel
theorem dX9_change_24 : decode cX9_change 24 = .ok (.if_icmp .lt 18, 3) := by decide +kernel
theorem dX9_change_27 : decode cX9_change 27 = .ok (.iload_n 3, 1) := by decide +kernel
theorem dX9_change_28 : decode cX9_change 28 = .ok (.bipush 99, 2) := by decide +kernel
theorem dX9_change_30 : decode cX9_change 30 = .ok (.if_icmp .gt 12, 3) := by decide +kernel
theorem dX9_change_33 : decode cX9_change 33 = .ok (.aload_n 0, 1) := by decide +kernel
theorem dX9_change_34 : decode cX9_change 34 = .ok (.getfield 15, 3) := by decide +kernel
theorem dX9_change_37 : decode cX9_change 37 = .ok (.iload_n 2, 1) := by decide +kernel
theorem dX9_change_38 : decode cX9_change 38 = .ok (.iload_n 3, 1) := by decide +kernel
theorem dX9_change_39 : decode cX9_change 39 = .ok (.iastore, 1) := by decide +kernel
theorem dX9_change_40 : decode cX9_change 40 = .ok (.iconst 1, 1) := by decide +kernel
theorem dX9_change_41 : decode cX9_change 41 = .ok (.ireturn, 1) := by decide +kernel
theorem dX9_change_42 : decode cX9_change 42 = .ok (.iload_n 1, 1) := by decide +kernel
theorem dX9_change_43 : decode cX9_change 43 = .ok (.iconst 2, 1) := by decide +kernel
theorem dX9_change_44 : decode cX9_change 44 = .ok (.if_icmp .ne 28, 3) := by decide +kernel
theorem dX9_change_47 : decode cX9_change 47 = .ok (.iload_n 3, 1) := by decide +kernel
theorem dX9_change_48 : decode cX9_change 48 = .ok (.iconst 1, 1) := by decide +kernel
theorem dX9_change_49 : decode cX9_change 49 = .ok (.if_icmp .gt 23, 3) := by decide +kernel
theorem dX9_change_52 : decode cX9_change 52 = .ok (.aload_n 0, 1) := by decide +kernel
theorem dX9_change_53 : decode cX9_change 53 = .ok (.aload_n 0, 1) := by decide +kernel
theorem dX9_change_54 : decode cX9_change 54 = .ok (.getfield 22, 3) := by decide +kernel
theorem dX9_change_57 : decode cX9_change 57 = .ok (.iconst 1, 1) := by decide +kernel
theorem dX9_change_58 : decode cX9_change 58 = .ok (.iload_n 2, 1) := by decide +kernel
theorem dX9_change_59 : decode cX9_change 59 = .ok (.ishl, 1) := by decide +kernel
theorem dX9_change_60 : decode cX9_change 60 = .ok (.iconst (-1), 1) := by decide +kernel
theorem dX9_change_61 : decode cX9_change 61 = .ok (.ixor, 1) := by decide +kernel
theorem dX9_change_62 : decode cX9_change 62 = .ok (.iand, 1) := by decide +kernel
theorem dX9_change_63 : decode cX9_change 63 = .ok (.iload_n 3, 1) := by decide +kernel
theorem dX9_change_64 : decode cX9_change 64 = .ok (.iload_n 2, 1) := by decide +kernel
theorem dX9_change_65 : decode cX9_change 65 = .ok (.ishl, 1) := by decide +kernel
theorem dX9_change_66 : decode cX9_change 66 = .ok (.ior, 1) := by decide +kernel
theorem dX9_change_67 : decode cX9_change 67 = .ok (.putfield 22, 3) := by decide +kernel
theorem dX9_change_70 : decode cX9_change 70 = .ok (.iconst 1, 1) := by decide +kernel
theorem dX9_change_71 : decode cX9_change 71 = .ok (.ireturn, 1) := by decide +kernel
theorem dX9_change_72 : decode cX9_change 72 = .ok (.iload_n 1, 1) := by decide +kernel
theorem dX9_change_73 : decode cX9_change 73 = .ok (.iconst 3, 1) := by decide +kernel
theorem dX9_change_74 : decode cX9_change 74 = .ok (.if_icmp .ne 18, 3) := by decide +kernel
theorem dX9_change_77 : decode cX9_change 77 = .ok (.iload_n 3, 1) := by decide +kernel
theorem dX9_change_78 : decode cX9_change 78 = .ok (.bipush 10, 2) := by decide +kernel
theorem dX9_change_80 : decode cX9_change 80 = .ok (.if_icmp .gt 12, 3) := by decide +kernel
theorem dX9_change_83 : decode cX9_change 83 = .ok (.aload_n 0, 1) := by decide +kernel
theorem dX9_change_84 : decode cX9_change 84 = .ok (.getfield 19, 3) := by decide +kernel
theorem dX9_change_87 : decode cX9_change 87 = .ok (.iload_n 2, 1) := by decide +kernel
theorem dX9_change_88 : decode cX9_change 88 = .ok (.iload_n 3, 1) := by decide +kernel
theorem dX9_change_89 : decode cX9_change 89 = .ok (.iastore, 1) := by decide +kernel
theorem dX9_change_90 : decode cX9_change 90 = .ok (.iconst 1, 1) := by decide +kernel
theorem dX9_change_91 : decode cX9_change 91 = .ok (.ireturn, 1) := by decide +kernel
theorem dX9_change_92 : decode cX9_change 92 = .ok (.iconst 0, 1) := by decide +kernel
theorem dX9_change_93 : decode cX9_change 93 = .ok (.ireturn, 1) := by decide +kernel
theorem dX9_minutesOf_0 : decode cX9_minutesOf 0 = .ok (.iconst 0, 1) := by decide +kernel
theorem dX9_minutesOf_1 : decode cX9_minutesOf 1 = .ok (.istore_n 2, 1) := by decide +kernel
theorem dX9_minutesOf_2 : decode cX9_minutesOf 2 = .ok (.iconst 0, 1) := by decide +kernel
theorem dX9_minutesOf_3 : decode cX9_minutesOf 3 = .ok (.istore_n 3, 1) := by decide +kernel
theorem dX9_minutesOf_4 : decode cX9_minutesOf 4 = .ok (.iload_n 3, 1) := by decide +kernel
theorem dX9_minutesOf_5 : decode cX9_minutesOf 5 = .ok (.aload_n 0, 1) := by decide +kernel
theorem dX9_minutesOf_6 : decode cX9_minutesOf 6 = .ok (.getfield 9, 3) := by decide +kernel
theorem dX9_minutesOf_9 : decode cX9_minutesOf 9 = .ok (.if_icmp .ge 26, 3) := by decide +kernel
theorem dX9_minutesOf_12 : decode cX9_minutesOf 12 = .ok (.iload_n 1, 1) := by decide +kernel
theorem dX9_minutesOf_13 : decode cX9_minutesOf 13 = .ok (.iload_n 3, 1) := by decide +kernel
theorem dX9_minutesOf_14 : decode cX9_minutesOf 14 = .ok (.ishr, 1) := by decide +kernel
theorem dX9_minutesOf_15 : decode cX9_minutesOf 15 = .ok (.iconst 1, 1) := by decide +kernel
theorem dX9_minutesOf_16 : decode cX9_minutesOf 16 = .ok (.iand, 1) := by decide +kernel
theorem dX9_minutesOf_17 : decode cX9_minutesOf 17 = .ok (.ifCond .eq 12, 3) := by decide +kernel
theorem dX9_minutesOf_20 : decode cX9_minutesOf 20 = .ok (.iload_n 2, 1) := by decide +kernel
theorem dX9_minutesOf_21 : decode cX9_minutesOf 21 = .ok (.aload_n 0, 1) := by decide +kernel
theorem dX9_minutesOf_22 : decode cX9_minutesOf 22 = .ok (.getfield 15, 3) := by decide +kernel
theorem dX9_minutesOf_25 : decode cX9_minutesOf 25 = .ok (.iload_n 3, 1) := by decide +kernel
theorem dX9_minutesOf_26 : decode cX9_minutesOf 26 = .ok (.iaload, 1) := by decide +kernel
theorem dX9_minutesOf_27 : decode cX9_minutesOf 27 = .ok (.iadd, 1) := by decide +kernel
theorem dX9_minutesOf_28 : decode cX9_minutesOf 28 = .ok (.istore_n 2, 1) := by decide +kernel
theorem dX9_minutesOf_29 : decode cX9_minutesOf 29 = .ok (.iinc 3 1, 3) := by decide +kernel
theorem dX9_minutesOf_32 : decode cX9_minutesOf 32 = .ok (.goto (-28), 3) := by decide +kernel
theorem dX9_minutesOf_35 : decode cX9_minutesOf 35 = .ok (.iload_n 2, 1) := by decide +kernel
theorem dX9_minutesOf_36 : decode cX9_minutesOf 36 = .ok (.ireturn, 1) := by decide +kernel
theorem dX10_init_0 : decode cX10_init 0 = .ok (.aload_n 0, 1) := by decide +kernel
theorem dX10_init_1 : decode cX10_init 1 = .ok (.invokespecial 3, 3) := by decide +kernel
theorem dX10_init_4 : decode cX10_init 4 = .ok (.aload_n 0, 1) := by decide +kernel
theorem dX10_init_5 : decode cX10_init 5 = .ok (.sipush 160, 3) := by decide +kernel
theorem dX10_init_8 : decode cX10_init 8 = .ok (.newarray .int, 2) := by decide +kernel
theorem dX10_init_10 : decode cX10_init 10 = .ok (.putfield 9, 3) := by decide +kernel
theorem dX10_init_13 : decode cX10_init 13 = .ok (.aload_n 0, 1) := by decide +kernel
theorem dX10_init_14 : decode cX10_init 14 = .ok (.iconst (-1), 1) := by decide +kernel
theorem dX10_init_15 : decode cX10_init 15 = .ok (.putfield 15, 3) := by decide +kernel
theorem dX10_init_18 : decode cX10_init 18 = .ok (.return_, 1) := by decide +kernel
theorem dX10_signs_0 : decode cX10_signs 0 = .ok (.iconst 0, 1) := by decide +kernel
theorem dX10_signs_1 : decode cX10_signs 1 = .ok (.istore_n 1, 1) := by decide +kernel
theorem dX10_signs_2 : decode cX10_signs 2 = .ok (.bipush 24, 2) := by decide +kernel
theorem dX10_signs_4 : decode cX10_signs 4 = .ok (.istore_n 2, 1) := by decide +kernel
theorem dX10_signs_5 : decode cX10_signs 5 = .ok (.iload_n 2, 1) := by decide +kernel
theorem dX10_signs_6 : decode cX10_signs 6 = .ok (.ifCond .lt 27, 3) := by decide +kernel
theorem dX10_signs_9 : decode cX10_signs 9 = .ok (.iload_n 1, 1) := by decide +kernel
theorem dX10_signs_10 : decode cX10_signs 10 = .ok (.iload_n 0, 1) := by decide +kernel
theorem dX10_signs_11 : decode cX10_signs 11 = .ok (.iload_n 2, 1) := by decide +kernel
theorem dX10_signs_12 : decode cX10_signs 12 = .ok (.ishr, 1) := by decide +kernel
theorem dX10_signs_13 : decode cX10_signs 13 = .ok (.sipush 255, 3) := by decide +kernel
theorem dX10_signs_16 : decode cX10_signs 16 = .ok (.iand, 1) := by decide +kernel
theorem dX10_signs_17 : decode cX10_signs 17 = .ok (.ifCond .ne 7, 3) := by decide +kernel
theorem dX10_signs_20 : decode cX10_signs 20 = .ok (.iconst 0, 1) := by decide +kernel
theorem dX10_signs_21 : decode cX10_signs 21 = .ok (.goto 4, 3) := by decide +kernel
theorem dX10_signs_24 : decode cX10_signs 24 = .ok (.iconst 1, 1) := by decide +kernel
theorem dX10_signs_25 : decode cX10_signs 25 = .ok (.iadd, 1) := by decide +kernel
theorem dX10_signs_26 : decode cX10_signs 26 = .ok (.istore_n 1, 1) := by decide +kernel
theorem dX10_signs_27 : decode cX10_signs 27 = .ok (.iinc 2 (-8), 3) := by decide +kernel
theorem dX10_signs_30 : decode cX10_signs 30 = .ok (.goto (-25), 3) := by decide +kernel
theorem dX10_signs_33 : decode cX10_signs 33 = .ok (.iload_n 1, 1) := by decide +kernel
theorem dX10_signs_34 : decode cX10_signs 34 = .ok (.ireturn, 1) := by decide +kernel
theorem dX10_append_0 : decode cX10_append 0 = .ok (.bipush 24, 2) := by decide +kernel
theorem dX10_append_2 : decode cX10_append 2 = .ok (.istore_n 2, 1) := by decide +kernel
theorem dX10_append_3 : decode cX10_append 3 = .ok (.iload_n 2, 1) := by decide +kernel
theorem dX10_append_4 : decode cX10_append 4 = .ok (.ifCond .lt 48, 3) := by decide +kernel
theorem dX10_append_7 : decode cX10_append 7 = .ok (.iload_n 1, 1) := by decide +kernel
theorem dX10_append_8 : decode cX10_append 8 = .ok (.iload_n 2, 1) := by decide +kernel
theorem dX10_append_9 : decode cX10_append 9 = .ok (.ishr, 1) := by decide +kernel
theorem dX10_append_10 : decode cX10_append 10 = .ok (.sipush 255, 3) := by decide +kernel
theorem dX10_append_13 : decode cX10_append 13 = .ok (.iand, 1) := by decide +kernel
theorem dX10_append_14 : decode cX10_append 14 = .ok (.istore_n 3, 1) := by decide +kernel
theorem dX10_append_15 : decode cX10_append 15 = .ok (.iload_n 3, 1) := by decide +kernel
theorem dX10_append_16 : decode cX10_append 16 = .ok (.ifCond .eq 30, 3) := by decide +kernel
theorem dX10_append_19 : decode cX10_append 19 = .ok (.aload_n 0, 1) := by decide +kernel
theorem dX10_append_20 : decode cX10_append 20 = .ok (.getfield 19, 3) := by decide +kernel
theorem dX10_append_23 : decode cX10_append 23 = .ok (.sipush 160, 3) := by decide +kernel
theorem dX10_append_26 : decode cX10_append 26 = .ok (.if_icmp .ge 20, 3) := by decide +kernel
theorem dX10_append_29 : decode cX10_append 29 = .ok (.aload_n 0, 1) := by decide +kernel
theorem dX10_append_30 : decode cX10_append 30 = .ok (.getfield 9, 3) := by decide +kernel
theorem dX10_append_33 : decode cX10_append 33 = .ok (.aload_n 0, 1) := by decide +kernel
theorem dX10_append_34 : decode cX10_append 34 = .ok (.dup, 1) := by decide +kernel
theorem dX10_append_35 : decode cX10_append 35 = .ok (.getfield 19, 3) := by decide +kernel
theorem dX10_append_38 : decode cX10_append 38 = .ok (.dup_x1, 1) := by decide +kernel
theorem dX10_append_39 : decode cX10_append 39 = .ok (.iconst 1, 1) := by decide +kernel
theorem dX10_append_40 : decode cX10_append 40 = .ok (.iadd, 1) := by decide +kernel
theorem dX10_append_41 : decode cX10_append 41 = .ok (.putfield 19, 3) := by decide +kernel
theorem dX10_append_44 : decode cX10_append 44 = .ok (.iload_n 3, 1) := by decide +kernel
theorem dX10_append_45 : decode cX10_append 45 = .ok (.iastore, 1) := by decide +kernel
theorem dX10_append_46 : decode cX10_append 46 = .ok (.iinc 2 (-8), 3) := by decide +kernel
theorem dX10_append_49 : decode cX10_append 49 = .ok (.goto (-46), 3) := by decide +kernel
theorem dX10_append_52 : decode cX10_append 52 = .ok (.return_, 1) := by decide +kernel
theorem dX10_rewind_0 : decode cX10_rewind 0 = .ok (.aload_n 0, 1) := by decide +kernel
theorem dX10_rewind_1 : decode cX10_rewind 1 = .ok (.iconst 0, 1) := by decide +kernel
theorem dX10_rewind_2 : decode cX10_rewind 2 = .ok (.putfield 22, 3) := by decide +kernel
theorem dX10_rewind_5 : decode cX10_rewind 5 = .ok (.aload_n 0, 1) := by decide +kernel
theorem dX10_rewind_6 : decode cX10_rewind 6 = .ok (.iconst (-1), 1) := by decide +kernel
theorem dX10_rewind_7 : decode cX10_rewind 7 = .ok (.putfield 15, 3) := by decide +kernel
theorem dX10_rewind_10 : decode cX10_rewind 10 = .ok (.return_, 1) := by decide +kernel
theorem dX10_here_0 : decode cX10_here 0 = .ok (.aload_n 0, 1) := by decide +kernel
theorem dX10_here_1 : decode cX10_here 1 = .ok (.getfield 22, 3) := by decide +kernel
theorem dX10_here_4 : decode cX10_here 4 = .ok (.ifCond .lt 26, 3) := by decide +kernel
theorem dX10_here_7 : decode cX10_here 7 = .ok (.aload_n 0, 1) := by decide +kernel
theorem dX10_here_8 : decode cX10_here 8 = .ok (.getfield 22, 3) := by decide +kernel
theorem dX10_here_11 : decode cX10_here 11 = .ok (.aload_n 0, 1) := by decide +kernel
theorem dX10_here_12 : decode cX10_here 12 = .ok (.getfield 19, 3) := by decide +kernel
theorem dX10_here_15 : decode cX10_here 15 = .ok (.if_icmp .ge 15, 3) := by decide +kernel
theorem dX10_here_18 : decode cX10_here 18 = .ok (.aload_n 0, 1) := by decide +kernel
theorem dX10_here_19 : decode cX10_here 19 = .ok (.getfield 9, 3) := by decide +kernel
theorem dX10_here_22 : decode cX10_here 22 = .ok (.aload_n 0, 1) := by decide +kernel
theorem dX10_here_23 : decode cX10_here 23 = .ok (.getfield 22, 3) := by decide +kernel
theorem dX10_here_26 : decode cX10_here 26 = .ok (.iaload, 1) := by decide +kernel
theorem dX10_here_27 : decode cX10_here 27 = .ok (.goto 4, 3) := by decide +kernel
theorem dX10_here_30 : decode cX10_here 30 = .ok (.iconst 0, 1) := by decide +kernel
theorem dX10_here_31 : decode cX10_here 31 = .ok (.ireturn, 1) := by decide +kernel
theorem dX10_next_0 : decode cX10_next 0 = .ok (.iconst 0, 1) := by decide +kernel
theorem dX10_next_1 : decode cX10_next 1 = .ok (.istore_n 1, 1) := by decide +kernel
theorem dX10_next_2 : decode cX10_next 2 = .ok (.iload_n 1, 1) := by decide +kernel
theorem dX10_next_3 : decode cX10_next 3 = .ok (.sipush 160, 3) := by decide +kernel
theorem dX10_next_6 : decode cX10_next 6 = .ok (.if_icmp .ge 28, 3) := by decide +kernel
theorem dX10_next_9 : decode cX10_next 9 = .ok (.aload_n 0, 1) := by decide +kernel
theorem dX10_next_10 : decode cX10_next 10 = .ok (.invokevirtual 25, 3) := by decide +kernel
theorem dX10_next_13 : decode cX10_next 13 = .ok (.bipush 32, 2) := by decide +kernel
theorem dX10_next_15 : decode cX10_next 15 = .ok (.if_icmp .ne 19, 3) := by decide +kernel
theorem dX10_next_18 : decode cX10_next 18 = .ok (.aload_n 0, 1) := by decide +kernel
theorem dX10_next_19 : decode cX10_next 19 = .ok (.dup, 1) := by decide +kernel
theorem dX10_next_20 : decode cX10_next 20 = .ok (.getfield 22, 3) := by decide +kernel
theorem dX10_next_23 : decode cX10_next 23 = .ok (.iconst 1, 1) := by decide +kernel
theorem dX10_next_24 : decode cX10_next 24 = .ok (.iadd, 1) := by decide +kernel
theorem dX10_next_25 : decode cX10_next 25 = .ok (.putfield 22, 3) := by decide +kernel
theorem dX10_next_28 : decode cX10_next 28 = .ok (.iinc 1 1, 3) := by decide +kernel
theorem dX10_next_31 : decode cX10_next 31 = .ok (.goto (-29), 3) := by decide +kernel
theorem dX10_next_34 : decode cX10_next 34 = .ok (.aload_n 0, 1) := by decide +kernel
theorem dX10_next_35 : decode cX10_next 35 = .ok (.invokevirtual 25, 3) := by decide +kernel
theorem dX10_next_38 : decode cX10_next 38 = .ok (.ireturn, 1) := by decide +kernel
theorem dX10_passes_0 : decode cX10_passes 0 = .ok (.aload_n 0, 1) := by decide +kernel
theorem dX10_passes_1 : decode cX10_passes 1 = .ok (.invokevirtual 29, 3) := by decide +kernel
theorem dX10_passes_4 : decode cX10_passes 4 = .ok (.iload_n 1, 1) := by decide +kernel
theorem dX10_passes_5 : decode cX10_passes 5 = .ok (.if_icmp .eq 5, 3) := by decide +kernel
theorem dX10_passes_8 : decode cX10_passes 8 = .ok (.iconst 0, 1) := by decide +kernel
theorem dX10_passes_9 : decode cX10_passes 9 = .ok (.ireturn, 1) := by decide +kernel
theorem dX10_passes_10 : decode cX10_passes 10 = .ok (.aload_n 0, 1) := by decide +kernel
theorem dX10_passes_11 : decode cX10_passes 11 = .ok (.dup, 1) := by decide +kernel
theorem dX10_passes_12 : decode cX10_passes 12 = .ok (.getfield 22, 3) := by decide +kernel
theorem dX10_passes_15 : decode cX10_passes 15 = .ok (.iconst 1, 1) := by decide +kernel
theorem dX10_passes_16 : decode cX10_passes 16 = .ok (.iadd, 1) := by decide +kernel
theorem dX10_passes_17 : decode cX10_passes 17 = .ok (.putfield 22, 3) := by decide +kernel
theorem dX10_passes_20 : decode cX10_passes 20 = .ok (.iconst 1, 1) := by decide +kernel
theorem dX10_passes_21 : decode cX10_passes 21 = .ok (.ireturn, 1) := by decide +kernel
theorem dX10_needs_0 : decode cX10_needs 0 = .ok (.aload_n 0, 1) := by decide +kernel
theorem dX10_needs_1 : decode cX10_needs 1 = .ok (.iload_n 1, 1) := by decide +kernel
theorem dX10_needs_2 : decode cX10_needs 2 = .ok (.invokevirtual 32, 3) := by decide +kernel
theorem dX10_needs_5 : decode cX10_needs 5 = .ok (.ifCond .ne 14, 3) := by decide +kernel
theorem dX10_needs_8 : decode cX10_needs 8 = .ok (.aload_n 0, 1) := by decide +kernel
theorem dX10_needs_9 : decode cX10_needs 9 = .ok (.aload_n 0, 1) := by decide +kernel
theorem dX10_needs_10 : decode cX10_needs 10 = .ok (.getfield 22, 3) := by decide +kernel
theorem dX10_needs_13 : decode cX10_needs 13 = .ok (.invokevirtual 36, 3) := by decide +kernel
theorem dX10_needs_16 : decode cX10_needs 16 = .ok (.ifCond .eq 7, 3) := by decide +kernel
theorem dX10_needs_19 : decode cX10_needs 19 = .ok (.iconst 1, 1) := by decide +kernel
theorem dX10_needs_20 : decode cX10_needs 20 = .ok (.goto 4, 3) := by decide +kernel
theorem dX10_needs_23 : decode cX10_needs 23 = .ok (.iconst 0, 1) := by decide +kernel
theorem dX10_needs_24 : decode cX10_needs 24 = .ok (.ireturn, 1) := by decide +kernel
theorem dX10_miss_0 : decode cX10_miss 0 = .ok (.aload_n 0, 1) := by decide +kernel
theorem dX10_miss_1 : decode cX10_miss 1 = .ok (.iload_n 1, 1) := by decide +kernel
theorem dX10_miss_2 : decode cX10_miss 2 = .ok (.putfield 15, 3) := by decide +kernel
theorem dX10_miss_5 : decode cX10_miss 5 = .ok (.iconst 0, 1) := by decide +kernel
theorem dX10_miss_6 : decode cX10_miss 6 = .ok (.ireturn, 1) := by decide +kernel
theorem dX10_hasDigit_0 : decode cX10_hasDigit 0 = .ok (.aload_n 0, 1) := by decide +kernel
theorem dX10_hasDigit_1 : decode cX10_hasDigit 1 = .ok (.invokevirtual 25, 3) := by decide +kernel
theorem dX10_hasDigit_4 : decode cX10_hasDigit 4 = .ok (.bipush 48, 2) := by decide +kernel
theorem dX10_hasDigit_6 : decode cX10_hasDigit 6 = .ok (.if_icmp .lt 16, 3) := by decide +kernel
theorem dX10_hasDigit_9 : decode cX10_hasDigit 9 = .ok (.aload_n 0, 1) := by decide +kernel
theorem dX10_hasDigit_10 : decode cX10_hasDigit 10 = .ok (.invokevirtual 25, 3) := by decide +kernel
theorem dX10_hasDigit_13 : decode cX10_hasDigit 13 = .ok (.bipush 57, 2) := by decide +kernel
theorem dX10_hasDigit_15 : decode cX10_hasDigit 15 = .ok (.if_icmp .gt 7, 3) := by decide +kernel
theorem dX10_hasDigit_18 : decode cX10_hasDigit 18 = .ok (.iconst 1, 1) := by decide +kernel
theorem dX10_hasDigit_19 : decode cX10_hasDigit 19 = .ok (.goto 4, 3) := by decide +kernel
theorem dX10_hasDigit_22 : decode cX10_hasDigit 22 = .ok (.iconst 0, 1) := by decide +kernel
theorem dX10_hasDigit_23 : decode cX10_hasDigit 23 = .ok (.ireturn, 1) := by decide +kernel
theorem dX11_init_0 : decode cX11_init 0 = .ok (.aload_n 0, 1) := by decide +kernel
theorem dX11_init_1 : decode cX11_init 1 = .ok (.invokespecial 1, 3) := by decide +kernel
theorem dX11_init_4 : decode cX11_init 4 = .ok (.iconst 1, 1) := by decide +kernel
theorem dX11_init_5 : decode cX11_init 5 = .ok (.bipush 9, 2) := by decide +kernel
theorem dX11_init_7 : decode cX11_init 7 = .ok (.iload_n 1, 1) := by decide +kernel
theorem dX11_init_8 : decode cX11_init 8 = .ok (.invokestatic 9, 3) := by decide +kernel
theorem dX11_init_11 : decode cX11_init 11 = .ok (.invokestatic 15, 3) := by decide +kernel
theorem dX11_init_14 : decode cX11_init 14 = .ok (.istore_n 2, 1) := by decide +kernel
theorem dX11_init_15 : decode cX11_init 15 = .ok (.aload_n 0, 1) := by decide +kernel
theorem dX11_init_16 : decode cX11_init 16 = .ok (.new 18, 3) := by decide +kernel
theorem dX11_init_19 : decode cX11_init 19 = .ok (.dup, 1) := by decide +kernel
theorem dX11_init_20 : decode cX11_init 20 = .ok (.iload_n 2, 1) := by decide +kernel
theorem dX11_init_21 : decode cX11_init 21 = .ok (.invokespecial 20, 3) := by decide +kernel
theorem dX11_init_24 : decode cX11_init 24 = .ok (.putfield 23, 3) := by decide +kernel
theorem dX11_init_27 : decode cX11_init 27 = .ok (.aload_n 0, 1) := by decide +kernel
theorem dX11_init_28 : decode cX11_init 28 = .ok (.new 27, 3) := by decide +kernel
theorem dX11_init_31 : decode cX11_init 31 = .ok (.dup, 1) := by decide +kernel
theorem dX11_init_32 : decode cX11_init 32 = .ok (.invokespecial 29, 3) := by decide +kernel
theorem dX11_init_35 : decode cX11_init 35 = .ok (.putfield 30, 3) := by decide +kernel
theorem dX11_init_38 : decode cX11_init 38 = .ok (.aload_n 0, 1) := by decide +kernel
theorem dX11_init_39 : decode cX11_init 39 = .ok (.new 34, 3) := by decide +kernel
theorem dX11_init_42 : decode cX11_init 42 = .ok (.dup, 1) := by decide +kernel
theorem dX11_init_43 : decode cX11_init 43 = .ok (.aload_n 0, 1) := by decide +kernel
theorem dX11_init_44 : decode cX11_init 44 = .ok (.getfield 30, 3) := by decide +kernel
theorem dX11_init_47 : decode cX11_init 47 = .ok (.iload_n 2, 1) := by decide +kernel
theorem dX11_init_48 : decode cX11_init 48 = .ok (.invokespecial 36, 3) := by decide +kernel
theorem dX11_init_51 : decode cX11_init 51 = .ok (.putfield 39, 3) := by decide +kernel
theorem dX11_init_54 : decode cX11_init 54 = .ok (.aload_n 0, 1) := by decide +kernel
theorem dX11_init_55 : decode cX11_init 55 = .ok (.new 43, 3) := by decide +kernel
theorem dX11_init_58 : decode cX11_init 58 = .ok (.dup, 1) := by decide +kernel
theorem dX11_init_59 : decode cX11_init 59 = .ok (.aload_n 0, 1) := by decide +kernel
theorem dX11_init_60 : decode cX11_init 60 = .ok (.getfield 23, 3) := by decide +kernel
theorem dX11_init_63 : decode cX11_init 63 = .ok (.invokespecial 45, 3) := by decide +kernel
theorem dX11_init_66 : decode cX11_init 66 = .ok (.putfield 48, 3) := by decide +kernel
theorem dX11_init_69 : decode cX11_init 69 = .ok (.aload_n 0, 1) := by decide +kernel
theorem dX11_init_70 : decode cX11_init 70 = .ok (.new 52, 3) := by decide +kernel
theorem dX11_init_73 : decode cX11_init 73 = .ok (.dup, 1) := by decide +kernel
theorem dX11_init_74 : decode cX11_init 74 = .ok (.iload_n 2, 1) := by decide +kernel
theorem dX11_init_75 : decode cX11_init 75 = .ok (.invokespecial 54, 3) := by decide +kernel
theorem dX11_init_78 : decode cX11_init 78 = .ok (.putfield 55, 3) := by decide +kernel
theorem dX11_init_81 : decode cX11_init 81 = .ok (.aload_n 0, 1) := by decide +kernel
theorem dX11_init_82 : decode cX11_init 82 = .ok (.new 59, 3) := by decide +kernel
theorem dX11_init_85 : decode cX11_init 85 = .ok (.dup, 1) := by decide +kernel
theorem dX11_init_86 : decode cX11_init 86 = .ok (.iload_n 2, 1) := by decide +kernel
theorem dX11_init_87 : decode cX11_init 87 = .ok (.invokespecial 61, 3) := by decide +kernel
theorem dX11_init_90 : decode cX11_init 90 = .ok (.putfield 62, 3) := by decide +kernel
theorem dX11_init_93 : decode cX11_init 93 = .ok (.aload_n 0, 1) := by decide +kernel
theorem dX11_init_94 : decode cX11_init 94 = .ok (.new 66, 3) := by decide +kernel
theorem dX11_init_97 : decode cX11_init 97 = .ok (.dup, 1) := by decide +kernel
theorem dX11_init_98 : decode cX11_init 98 = .ok (.aload_n 0, 1) := by decide +kernel
theorem dX11_init_99 : decode cX11_init 99 = .ok (.getfield 23, 3) := by decide +kernel
theorem dX11_init_102 : decode cX11_init 102 = .ok (.aload_n 0, 1) := by decide +kernel
theorem dX11_init_103 : decode cX11_init 103 = .ok (.getfield 55, 3) := by decide +kernel
theorem dX11_init_106 : decode cX11_init 106 = .ok (.aload_n 0, 1) := by decide +kernel
theorem dX11_init_107 : decode cX11_init 107 = .ok (.getfield 62, 3) := by decide +kernel
theorem dX11_init_110 : decode cX11_init 110 = .ok (.invokespecial 68, 3) := by decide +kernel
theorem dX11_init_113 : decode cX11_init 113 = .ok (.putfield 71, 3) := by decide +kernel
theorem dX11_init_116 : decode cX11_init 116 = .ok (.aload_n 0, 1) := by decide +kernel
theorem dX11_init_117 : decode cX11_init 117 = .ok (.new 75, 3) := by decide +kernel
theorem dX11_init_120 : decode cX11_init 120 = .ok (.dup, 1) := by decide +kernel
theorem dX11_init_121 : decode cX11_init 121 = .ok (.aload_n 0, 1) := by decide +kernel
theorem dX11_init_122 : decode cX11_init 122 = .ok (.getfield 23, 3) := by decide +kernel
theorem dX11_init_125 : decode cX11_init 125 = .ok (.getfield 77, 3) := by decide +kernel
theorem dX11_init_128 : decode cX11_init 128 = .ok (.invokespecial 81, 3) := by decide +kernel
theorem dX11_init_131 : decode cX11_init 131 = .ok (.putfield 82, 3) := by decide +kernel
theorem dX11_init_134 : decode cX11_init 134 = .ok (.aload_n 0, 1) := by decide +kernel
theorem dX11_init_135 : decode cX11_init 135 = .ok (.new 86, 3) := by decide +kernel
theorem dX11_init_138 : decode cX11_init 138 = .ok (.dup, 1) := by decide +kernel
theorem dX11_init_139 : decode cX11_init 139 = .ok (.invokespecial 88, 3) := by decide +kernel
theorem dX11_init_142 : decode cX11_init 142 = .ok (.putfield 89, 3) := by decide +kernel
theorem dX11_init_145 : decode cX11_init 145 = .ok (.aload_n 0, 1) := by decide +kernel
theorem dX11_init_146 : decode cX11_init 146 = .ok (.bipush 6, 2) := by decide +kernel
theorem dX11_init_148 : decode cX11_init 148 = .ok (.anewarray 93, 3) := by decide +kernel
theorem dX11_init_151 : decode cX11_init 151 = .ok (.putfield 95, 3) := by decide +kernel
theorem dX11_init_154 : decode cX11_init 154 = .ok (.aload_n 0, 1) := by decide +kernel
theorem dX11_init_155 : decode cX11_init 155 = .ok (.bipush 6, 2) := by decide +kernel
theorem dX11_init_157 : decode cX11_init 157 = .ok (.anewarray 99, 3) := by decide +kernel
theorem dX11_init_160 : decode cX11_init 160 = .ok (.putfield 101, 3) := by decide +kernel
theorem dX11_init_163 : decode cX11_init 163 = .ok (.aload_n 0, 1) := by decide +kernel
theorem dX11_init_164 : decode cX11_init 164 = .ok (.aload_n 0, 1) := by decide +kernel
theorem dX11_init_165 : decode cX11_init 165 = .ok (.getfield 23, 3) := by decide +kernel
theorem dX11_init_168 : decode cX11_init 168 = .ok (.getfield 77, 3) := by decide +kernel
theorem dX11_init_171 : decode cX11_init 171 = .ok (.newarray .int, 2) := by decide +kernel
theorem dX11_init_173 : decode cX11_init 173 = .ok (.putfield 105, 3) := by decide +kernel
theorem dX11_init_176 : decode cX11_init 176 = .ok (.aload_n 0, 1) := by decide +kernel
theorem dX11_init_177 : decode cX11_init 177 = .ok (.bipush 12, 2) := by decide +kernel
theorem dX11_init_179 : decode cX11_init 179 = .ok (.newarray .long, 2) := by decide +kernel
theorem dX11_init_181 : decode cX11_init 181 = .ok (.putfield 109, 3) := by decide +kernel
theorem dX11_init_184 : decode cX11_init 184 = .ok (.return_, 1) := by decide +kernel
theorem dX11_feed_0 : decode cX11_feed 0 = .ok (.iload_n 1, 1) := by decide +kernel
theorem dX11_feed_1 : decode cX11_feed 1 = .ok (.invokestatic 113, 3) := by decide +kernel
theorem dX11_feed_4 : decode cX11_feed 4 = .ok (.iload_n 2, 1) := by decide +kernel
theorem dX11_feed_5 : decode cX11_feed 5 = .ok (.invokestatic 113, 3) := by decide +kernel
theorem dX11_feed_8 : decode cX11_feed 8 = .ok (.iadd, 1) := by decide +kernel
theorem dX11_feed_9 : decode cX11_feed 9 = .ok (.iload_n 3, 1) := by decide +kernel
theorem dX11_feed_10 : decode cX11_feed 10 = .ok (.invokestatic 113, 3) := by decide +kernel
theorem dX11_feed_13 : decode cX11_feed 13 = .ok (.iadd, 1) := by decide +kernel
theorem dX11_feed_14 : decode cX11_feed 14 = .ok (.iload 4, 2) := by decide +kernel
theorem dX11_feed_16 : decode cX11_feed 16 = .ok (.invokestatic 113, 3) := by decide +kernel
theorem dX11_feed_19 : decode cX11_feed 19 = .ok (.iadd, 1) := by decide +kernel
theorem dX11_feed_20 : decode cX11_feed 20 = .ok (.iload 5, 2) := by decide +kernel
theorem dX11_feed_22 : decode cX11_feed 22 = .ok (.invokestatic 113, 3) := by decide +kernel
theorem dX11_feed_25 : decode cX11_feed 25 = .ok (.iadd, 1) := by decide +kernel
theorem dX11_feed_26 : decode cX11_feed 26 = .ok (.istore 6, 2) := by decide +kernel
theorem dX11_feed_28 : decode cX11_feed 28 = .ok (.aload_n 0, 1) := by decide +kernel
theorem dX11_feed_29 : decode cX11_feed 29 = .ok (.getfield 30, 3) := by decide +kernel
theorem dX11_feed_32 : decode cX11_feed 32 = .ok (.getfield 117, 3) := by decide +kernel
theorem dX11_feed_35 : decode cX11_feed 35 = .ok (.iload 6, 2) := by decide +kernel
theorem dX11_feed_37 : decode cX11_feed 37 = .ok (.iadd, 1) := by decide +kernel
theorem dX11_feed_38 : decode cX11_feed 38 = .ok (.sipush 160, 3) := by decide +kernel
theorem dX11_feed_41 : decode cX11_feed 41 = .ok (.if_icmp .le 5, 3) := by decide +kernel
theorem dX11_feed_44 : decode cX11_feed 44 = .ok (.iconst (-1), 1) := by decide +kernel
theorem dX11_feed_45 : decode cX11_feed 45 = .ok (.ireturn, 1) := by decide +kernel
theorem dX11_feed_46 : decode cX11_feed 46 = .ok (.aload_n 0, 1) := by decide +kernel
theorem dX11_feed_47 : decode cX11_feed 47 = .ok (.getfield 30, 3) := by decide +kernel
theorem dX11_feed_50 : decode cX11_feed 50 = .ok (.iload_n 1, 1) := by decide +kernel
theorem dX11_feed_51 : decode cX11_feed 51 = .ok (.invokevirtual 120, 3) := by decide +kernel
theorem dX11_feed_54 : decode cX11_feed 54 = .ok (.aload_n 0, 1) := by decide +kernel
theorem dX11_feed_55 : decode cX11_feed 55 = .ok (.getfield 30, 3) := by decide +kernel
theorem dX11_feed_58 : decode cX11_feed 58 = .ok (.iload_n 2, 1) := by decide +kernel
theorem dX11_feed_59 : decode cX11_feed 59 = .ok (.invokevirtual 120, 3) := by decide +kernel
theorem dX11_feed_62 : decode cX11_feed 62 = .ok (.aload_n 0, 1) := by decide +kernel
theorem dX11_feed_63 : decode cX11_feed 63 = .ok (.getfield 30, 3) := by decide +kernel
theorem dX11_feed_66 : decode cX11_feed 66 = .ok (.iload_n 3, 1) := by decide +kernel
theorem dX11_feed_67 : decode cX11_feed 67 = .ok (.invokevirtual 120, 3) := by decide +kernel
theorem dX11_feed_70 : decode cX11_feed 70 = .ok (.aload_n 0, 1) := by decide +kernel
theorem dX11_feed_71 : decode cX11_feed 71 = .ok (.getfield 30, 3) := by decide +kernel
theorem dX11_feed_74 : decode cX11_feed 74 = .ok (.iload 4, 2) := by decide +kernel
theorem dX11_feed_76 : decode cX11_feed 76 = .ok (.invokevirtual 120, 3) := by decide +kernel
theorem dX11_feed_79 : decode cX11_feed 79 = .ok (.aload_n 0, 1) := by decide +kernel
theorem dX11_feed_80 : decode cX11_feed 80 = .ok (.getfield 30, 3) := by decide +kernel
theorem dX11_feed_83 : decode cX11_feed 83 = .ok (.iload 5, 2) := by decide +kernel
theorem dX11_feed_85 : decode cX11_feed 85 = .ok (.invokevirtual 120, 3) := by decide +kernel
theorem dX11_feed_88 : decode cX11_feed 88 = .ok (.aload_n 0, 1) := by decide +kernel
theorem dX11_feed_89 : decode cX11_feed 89 = .ok (.getfield 30, 3) := by decide +kernel
theorem dX11_feed_92 : decode cX11_feed 92 = .ok (.getfield 117, 3) := by decide +kernel
theorem dX11_feed_95 : decode cX11_feed 95 = .ok (.ireturn, 1) := by decide +kernel
theorem dX11_end_0 : decode cX11_end 0 = .ok (.iload_n 1, 1) := by decide +kernel
theorem dX11_end_1 : decode cX11_end 1 = .ok (.ifCond .lt 14, 3) := by decide +kernel
theorem dX11_end_4 : decode cX11_end 4 = .ok (.iload_n 1, 1) := by decide +kernel
theorem dX11_end_5 : decode cX11_end 5 = .ok (.aload_n 0, 1) := by decide +kernel
theorem dX11_end_6 : decode cX11_end 6 = .ok (.getfield 30, 3) := by decide +kernel
theorem dX11_end_9 : decode cX11_end 9 = .ok (.getfield 117, 3) := by decide +kernel
theorem dX11_end_12 : decode cX11_end 12 = .ok (.if_icmp .le 5, 3) := by decide +kernel
theorem dX11_end_15 : decode cX11_end 15 = .ok (.iconst 0, 1) := by decide +kernel
theorem dX11_end_16 : decode cX11_end 16 = .ok (.ireturn, 1) := by decide +kernel
theorem dX11_end_17 : decode cX11_end 17 = .ok (.aload_n 0, 1) := by decide +kernel
theorem dX11_end_18 : decode cX11_end 18 = .ok (.getfield 30, 3) := by decide +kernel
theorem dX11_end_21 : decode cX11_end 21 = .ok (.iload_n 1, 1) := by decide +kernel
theorem dX11_end_22 : decode cX11_end 22 = .ok (.putfield 117, 3) := by decide +kernel
theorem dX11_end_25 : decode cX11_end 25 = .ok (.iconst 1, 1) := by decide +kernel
theorem dX11_end_26 : decode cX11_end 26 = .ok (.ireturn, 1) := by decide +kernel
theorem dX11_fault_0 : decode cX11_fault 0 = .ok (.iload_n 1, 1) := by decide +kernel
theorem dX11_fault_1 : decode cX11_fault 1 = .ok (.ifCond .lt 8, 3) := by decide +kernel
theorem dX11_fault_4 : decode cX11_fault 4 = .ok (.iload_n 1, 1) := by decide +kernel
theorem dX11_fault_5 : decode cX11_fault 5 = .ok (.iconst 2, 1) := by decide +kernel
theorem dX11_fault_6 : decode cX11_fault 6 = .ok (.if_icmp .le 8, 3) := by decide +kernel
theorem dX11_fault_9 : decode cX11_fault 9 = .ok (.bipush (-2), 2) := by decide +kernel
theorem dX11_fault_11 : decode cX11_fault 11 = .ok (.goto 11, 3) := by decide +kernel
theorem dX11_fault_14 : decode cX11_fault 14 = .ok (.aload_n 0, 1) := by decide +kernel
theorem dX11_fault_15 : decode cX11_fault 15 = .ok (.getfield 39, 3) := by decide +kernel
theorem dX11_fault_18 : decode cX11_fault 18 = .ok (.iload_n 1, 1) := by decide +kernel
theorem dX11_fault_19 : decode cX11_fault 19 = .ok (.invokevirtual 123, 3) := by decide +kernel
theorem dX11_fault_22 : decode cX11_fault 22 = .ok (.ireturn, 1) := by decide +kernel
theorem dX11_text_0 : decode cX11_text 0 = .ok (.iload_n 1, 1) := by decide +kernel
theorem dX11_text_1 : decode cX11_text 1 = .ok (.ifCond .lt 20, 3) := by decide +kernel
theorem dX11_text_4 : decode cX11_text 4 = .ok (.iload_n 1, 1) := by decide +kernel
theorem dX11_text_5 : decode cX11_text 5 = .ok (.iconst 2, 1) := by decide +kernel
theorem dX11_text_6 : decode cX11_text 6 = .ok (.if_icmp .gt 15, 3) := by decide +kernel
theorem dX11_text_9 : decode cX11_text 9 = .ok (.aload_n 0, 1) := by decide +kernel
theorem dX11_text_10 : decode cX11_text 10 = .ok (.getfield 39, 3) := by decide +kernel
theorem dX11_text_13 : decode cX11_text 13 = .ok (.iload_n 1, 1) := by decide +kernel
theorem dX11_text_14 : decode cX11_text 14 = .ok (.invokevirtual 123, 3) := by decide +kernel
theorem dX11_text_17 : decode cX11_text 17 = .ok (.iconst (-1), 1) := by decide +kernel
theorem dX11_text_18 : decode cX11_text 18 = .ok (.if_icmp .eq 5, 3) := by decide +kernel
theorem dX11_text_21 : decode cX11_text 21 = .ok (.iconst (-1), 1) := by decide +kernel
theorem dX11_text_22 : decode cX11_text 22 = .ok (.ireturn, 1) := by decide +kernel
theorem dX11_text_23 : decode cX11_text 23 = .ok (.iload_n 1, 1) := by decide +kernel
theorem dX11_text_24 : decode cX11_text 24 = .ok (.ifCond .ne 10, 3) := by decide +kernel
theorem dX11_text_27 : decode cX11_text 27 = .ok (.aload_n 0, 1) := by decide +kernel
theorem dX11_text_28 : decode cX11_text 28 = .ok (.invokevirtual 126, 3) := by decide +kernel
theorem dX11_text_31 : decode cX11_text 31 = .ok (.goto 19, 3) := by decide +kernel
theorem dX11_text_34 : decode cX11_text 34 = .ok (.iload_n 1, 1) := by decide +kernel
theorem dX11_text_35 : decode cX11_text 35 = .ok (.iconst 1, 1) := by decide +kernel
theorem dX11_text_36 : decode cX11_text 36 = .ok (.if_icmp .ne 10, 3) := by decide +kernel
theorem dX11_text_39 : decode cX11_text 39 = .ok (.aload_n 0, 1) := by decide +kernel
theorem dX11_text_40 : decode cX11_text 40 = .ok (.invokevirtual 130, 3) := by decide +kernel
theorem dX11_text_43 : decode cX11_text 43 = .ok (.goto 7, 3) := by decide +kernel
theorem dX11_text_46 : decode cX11_text 46 = .ok (.aload_n 0, 1) := by decide +kernel
theorem dX11_text_47 : decode cX11_text 47 = .ok (.invokevirtual 133, 3) := by decide +kernel
theorem dX11_text_50 : decode cX11_text 50 = .ok (.istore_n 2, 1) := by decide +kernel
theorem dX11_text_51 : decode cX11_text 51 = .ok (.iload_n 2, 1) := by decide +kernel
theorem dX11_text_52 : decode cX11_text 52 = .ok (.iconst (-1), 1) := by decide +kernel
theorem dX11_text_53 : decode cX11_text 53 = .ok (.if_icmp .eq 11, 3) := by decide +kernel
theorem dX11_text_56 : decode cX11_text 56 = .ok (.aload_n 0, 1) := by decide +kernel
theorem dX11_text_57 : decode cX11_text 57 = .ok (.getfield 30, 3) := by decide +kernel
theorem dX11_text_60 : decode cX11_text 60 = .ok (.iconst 0, 1) := by decide +kernel
theorem dX11_text_61 : decode cX11_text 61 = .ok (.putfield 117, 3) := by decide +kernel
theorem dX11_text_64 : decode cX11_text 64 = .ok (.iload_n 2, 1) := by decide +kernel
theorem dX11_text_65 : decode cX11_text 65 = .ok (.ireturn, 1) := by decide +kernel
theorem dX11_keepLaw_0 : decode cX11_keepLaw 0 = .ok (.aload_n 0, 1) := by decide +kernel
theorem dX11_keepLaw_1 : decode cX11_keepLaw 1 = .ok (.getfield 136, 3) := by decide +kernel
theorem dX11_keepLaw_4 : decode cX11_keepLaw 4 = .ok (.bipush 6, 2) := by decide +kernel
theorem dX11_keepLaw_6 : decode cX11_keepLaw 6 = .ok (.if_icmp .lt 5, 3) := by decide +kernel
theorem dX11_keepLaw_9 : decode cX11_keepLaw 9 = .ok (.iconst (-1), 1) := by decide +kernel
theorem dX11_keepLaw_10 : decode cX11_keepLaw 10 = .ok (.ireturn, 1) := by decide +kernel
theorem dX11_keepLaw_11 : decode cX11_keepLaw 11 = .ok (.new 93, 3) := by decide +kernel
theorem dX11_keepLaw_14 : decode cX11_keepLaw 14 = .ok (.dup, 1) := by decide +kernel
theorem dX11_keepLaw_15 : decode cX11_keepLaw 15 = .ok (.aload_n 0, 1) := by decide +kernel
theorem dX11_keepLaw_16 : decode cX11_keepLaw 16 = .ok (.getfield 39, 3) := by decide +kernel
theorem dX11_keepLaw_19 : decode cX11_keepLaw 19 = .ok (.getfield 139, 3) := by decide +kernel
theorem dX11_keepLaw_22 : decode cX11_keepLaw 22 = .ok (.aload_n 0, 1) := by decide +kernel
theorem dX11_keepLaw_23 : decode cX11_keepLaw 23 = .ok (.getfield 23, 3) := by decide +kernel
theorem dX11_keepLaw_26 : decode cX11_keepLaw 26 = .ok (.getfield 77, 3) := by decide +kernel
theorem dX11_keepLaw_29 : decode cX11_keepLaw 29 = .ok (.aload_n 0, 1) := by decide +kernel
theorem dX11_keepLaw_30 : decode cX11_keepLaw 30 = .ok (.getfield 23, 3) := by decide +kernel
theorem dX11_keepLaw_33 : decode cX11_keepLaw 33 = .ok (.getfield 142, 3) := by decide +kernel
theorem dX11_keepLaw_36 : decode cX11_keepLaw 36 = .ok (.invokespecial 145, 3) := by decide +kernel
theorem dX11_keepLaw_39 : decode cX11_keepLaw 39 = .ok (.astore_n 1, 1) := by decide +kernel
theorem dX11_keepLaw_40 : decode cX11_keepLaw 40 = .ok (.aload_n 0, 1) := by decide +kernel
theorem dX11_keepLaw_41 : decode cX11_keepLaw 41 = .ok (.getfield 39, 3) := by decide +kernel
theorem dX11_keepLaw_44 : decode cX11_keepLaw 44 = .ok (.getfield 148, 3) := by decide +kernel
theorem dX11_keepLaw_47 : decode cX11_keepLaw 47 = .ok (.iconst 0, 1) := by decide +kernel
theorem dX11_keepLaw_48 : decode cX11_keepLaw 48 = .ok (.aload_n 1, 1) := by decide +kernel
theorem dX11_keepLaw_49 : decode cX11_keepLaw 49 = .ok (.getfield 151, 3) := by decide +kernel
theorem dX11_keepLaw_52 : decode cX11_keepLaw 52 = .ok (.iconst 0, 1) := by decide +kernel
theorem dX11_keepLaw_53 : decode cX11_keepLaw 53 = .ok (.bipush 12, 2) := by decide +kernel
theorem dX11_keepLaw_55 : decode cX11_keepLaw 55 = .ok (.invokestatic 152, 3) := by decide +kernel
theorem dX11_keepLaw_58 : decode cX11_keepLaw 58 = .ok (.iconst 0, 1) := by decide +kernel
theorem dX11_keepLaw_59 : decode cX11_keepLaw 59 = .ok (.istore_n 2, 1) := by decide +kernel
theorem dX11_keepLaw_60 : decode cX11_keepLaw 60 = .ok (.iload_n 2, 1) := by decide +kernel
theorem dX11_keepLaw_61 : decode cX11_keepLaw 61 = .ok (.aload_n 0, 1) := by decide +kernel
theorem dX11_keepLaw_62 : decode cX11_keepLaw 62 = .ok (.getfield 23, 3) := by decide +kernel
theorem dX11_keepLaw_65 : decode cX11_keepLaw 65 = .ok (.getfield 77, 3) := by decide +kernel
theorem dX11_keepLaw_68 : decode cX11_keepLaw 68 = .ok (.if_icmp .ge 39, 3) := by decide +kernel
theorem dX11_keepLaw_71 : decode cX11_keepLaw 71 = .ok (.aload_n 1, 1) := by decide +kernel
theorem dX11_keepLaw_72 : decode cX11_keepLaw 72 = .ok (.getfield 158, 3) := by decide +kernel
theorem dX11_keepLaw_75 : decode cX11_keepLaw 75 = .ok (.iload_n 2, 1) := by decide +kernel
theorem dX11_keepLaw_76 : decode cX11_keepLaw 76 = .ok (.aload_n 0, 1) := by decide +kernel
theorem dX11_keepLaw_77 : decode cX11_keepLaw 77 = .ok (.getfield 39, 3) := by decide +kernel
theorem dX11_keepLaw_80 : decode cX11_keepLaw 80 = .ok (.iload_n 2, 1) := by decide +kernel
theorem dX11_keepLaw_81 : decode cX11_keepLaw 81 = .ok (.invokevirtual 161, 3) := by decide +kernel
theorem dX11_keepLaw_84 : decode cX11_keepLaw 84 = .ok (.iastore, 1) := by decide +kernel
theorem dX11_keepLaw_85 : decode cX11_keepLaw 85 = .ok (.aload_n 1, 1) := by decide +kernel
theorem dX11_keepLaw_86 : decode cX11_keepLaw 86 = .ok (.getfield 164, 3) := by decide +kernel
theorem dX11_keepLaw_89 : decode cX11_keepLaw 89 = .ok (.iload_n 2, 1) := by decide +kernel
theorem dX11_keepLaw_90 : decode cX11_keepLaw 90 = .ok (.aload_n 1, 1) := by decide +kernel
theorem dX11_keepLaw_91 : decode cX11_keepLaw 91 = .ok (.aload_n 1, 1) := by decide +kernel
theorem dX11_keepLaw_92 : decode cX11_keepLaw 92 = .ok (.getfield 158, 3) := by decide +kernel
theorem dX11_keepLaw_95 : decode cX11_keepLaw 95 = .ok (.iload_n 2, 1) := by decide +kernel
theorem dX11_keepLaw_96 : decode cX11_keepLaw 96 = .ok (.iaload, 1) := by decide +kernel
theorem dX11_keepLaw_97 : decode cX11_keepLaw 97 = .ok (.invokevirtual 167, 3) := by decide +kernel
theorem dX11_keepLaw_100 : decode cX11_keepLaw 100 = .ok (.iastore, 1) := by decide +kernel
theorem dX11_keepLaw_101 : decode cX11_keepLaw 101 = .ok (.iinc 2 1, 3) := by decide +kernel
theorem dX11_keepLaw_104 : decode cX11_keepLaw 104 = .ok (.goto (-44), 3) := by decide +kernel
theorem dX11_keepLaw_107 : decode cX11_keepLaw 107 = .ok (.aload_n 0, 1) := by decide +kernel
theorem dX11_keepLaw_108 : decode cX11_keepLaw 108 = .ok (.getfield 48, 3) := by decide +kernel
theorem dX11_keepLaw_111 : decode cX11_keepLaw 111 = .ok (.aload_n 1, 1) := by decide +kernel
theorem dX11_keepLaw_112 : decode cX11_keepLaw 112 = .ok (.invokevirtual 170, 3) := by decide +kernel
theorem dX11_keepLaw_115 : decode cX11_keepLaw 115 = .ok (.aload_n 0, 1) := by decide +kernel
theorem dX11_keepLaw_116 : decode cX11_keepLaw 116 = .ok (.getfield 95, 3) := by decide +kernel
theorem dX11_keepLaw_119 : decode cX11_keepLaw 119 = .ok (.aload_n 0, 1) := by decide +kernel
theorem dX11_keepLaw_120 : decode cX11_keepLaw 120 = .ok (.getfield 136, 3) := by decide +kernel
theorem dX11_keepLaw_123 : decode cX11_keepLaw 123 = .ok (.aload_n 1, 1) := by decide +kernel
theorem dX11_keepLaw_124 : decode cX11_keepLaw 124 = .ok (.aastore, 1) := by decide +kernel
theorem dX11_keepLaw_125 : decode cX11_keepLaw 125 = .ok (.aload_n 0, 1) := by decide +kernel
theorem dX11_keepLaw_126 : decode cX11_keepLaw 126 = .ok (.dup, 1) := by decide +kernel
theorem dX11_keepLaw_127 : decode cX11_keepLaw 127 = .ok (.getfield 136, 3) := by decide +kernel
theorem dX11_keepLaw_130 : decode cX11_keepLaw 130 = .ok (.dup_x1, 1) := by decide +kernel
theorem dX11_keepLaw_131 : decode cX11_keepLaw 131 = .ok (.iconst 1, 1) := by decide +kernel
theorem dX11_keepLaw_132 : decode cX11_keepLaw 132 = .ok (.iadd, 1) := by decide +kernel
theorem dX11_keepLaw_133 : decode cX11_keepLaw 133 = .ok (.putfield 136, 3) := by decide +kernel
theorem dX11_keepLaw_136 : decode cX11_keepLaw 136 = .ok (.ireturn, 1) := by decide +kernel
theorem dX11_keepQuestion_0 : decode cX11_keepQuestion 0 = .ok (.aload_n 0, 1) := by decide +kernel
theorem dX11_keepQuestion_1 : decode cX11_keepQuestion 1 = .ok (.getfield 82, 3) := by decide +kernel
theorem dX11_keepQuestion_4 : decode cX11_keepQuestion 4 = .ok (.invokevirtual 174, 3) := by decide +kernel
theorem dX11_keepQuestion_7 : decode cX11_keepQuestion 7 = .ok (.istore_n 1, 1) := by decide +kernel
theorem dX11_keepQuestion_8 : decode cX11_keepQuestion 8 = .ok (.iload_n 1, 1) := by decide +kernel
theorem dX11_keepQuestion_9 : decode cX11_keepQuestion 9 = .ok (.iconst (-1), 1) := by decide +kernel
theorem dX11_keepQuestion_10 : decode cX11_keepQuestion 10 = .ok (.if_icmp .eq 48, 3) := by decide +kernel
theorem dX11_keepQuestion_13 : decode cX11_keepQuestion 13 = .ok (.iconst 0, 1) := by decide +kernel
theorem dX11_keepQuestion_14 : decode cX11_keepQuestion 14 = .ok (.istore_n 2, 1) := by decide +kernel
theorem dX11_keepQuestion_15 : decode cX11_keepQuestion 15 = .ok (.iload_n 2, 1) := by decide +kernel
theorem dX11_keepQuestion_16 : decode cX11_keepQuestion 16 = .ok (.aload_n 0, 1) := by decide +kernel
theorem dX11_keepQuestion_17 : decode cX11_keepQuestion 17 = .ok (.getfield 23, 3) := by decide +kernel
theorem dX11_keepQuestion_20 : decode cX11_keepQuestion 20 = .ok (.getfield 77, 3) := by decide +kernel
theorem dX11_keepQuestion_23 : decode cX11_keepQuestion 23 = .ok (.if_icmp .ge 35, 3) := by decide +kernel
theorem dX11_keepQuestion_26 : decode cX11_keepQuestion 26 = .ok (.aload_n 0, 1) := by decide +kernel
theorem dX11_keepQuestion_27 : decode cX11_keepQuestion 27 = .ok (.getfield 39, 3) := by decide +kernel
theorem dX11_keepQuestion_30 : decode cX11_keepQuestion 30 = .ok (.iload_n 2, 1) := by decide +kernel
theorem dX11_keepQuestion_31 : decode cX11_keepQuestion 31 = .ok (.invokevirtual 177, 3) := by decide +kernel
theorem dX11_keepQuestion_34 : decode cX11_keepQuestion 34 = .ok (.ifCond .eq 18, 3) := by decide +kernel
theorem dX11_keepQuestion_37 : decode cX11_keepQuestion 37 = .ok (.aload_n 0, 1) := by decide +kernel
theorem dX11_keepQuestion_38 : decode cX11_keepQuestion 38 = .ok (.getfield 82, 3) := by decide +kernel
theorem dX11_keepQuestion_41 : decode cX11_keepQuestion 41 = .ok (.getfield 181, 3) := by decide +kernel
theorem dX11_keepQuestion_44 : decode cX11_keepQuestion 44 = .ok (.iload_n 2, 1) := by decide +kernel
theorem dX11_keepQuestion_45 : decode cX11_keepQuestion 45 = .ok (.dup2, 1) := by decide +kernel
theorem dX11_keepQuestion_46 : decode cX11_keepQuestion 46 = .ok (.iaload, 1) := by decide +kernel
theorem dX11_keepQuestion_47 : decode cX11_keepQuestion 47 = .ok (.iconst 1, 1) := by decide +kernel
theorem dX11_keepQuestion_48 : decode cX11_keepQuestion 48 = .ok (.iload_n 1, 1) := by decide +kernel
theorem dX11_keepQuestion_49 : decode cX11_keepQuestion 49 = .ok (.ishl, 1) := by decide +kernel
theorem dX11_keepQuestion_50 : decode cX11_keepQuestion 50 = .ok (.ior, 1) := by decide +kernel
theorem dX11_keepQuestion_51 : decode cX11_keepQuestion 51 = .ok (.iastore, 1) := by decide +kernel
theorem dX11_keepQuestion_52 : decode cX11_keepQuestion 52 = .ok (.iinc 2 1, 3) := by decide +kernel
theorem dX11_keepQuestion_55 : decode cX11_keepQuestion 55 = .ok (.goto (-40), 3) := by decide +kernel
theorem dX11_keepQuestion_58 : decode cX11_keepQuestion 58 = .ok (.iload_n 1, 1) := by decide +kernel
theorem dX11_keepQuestion_59 : decode cX11_keepQuestion 59 = .ok (.ireturn, 1) := by decide +kernel
theorem dX11_keepForm_0 : decode cX11_keepForm 0 = .ok (.aload_n 0, 1) := by decide +kernel
theorem dX11_keepForm_1 : decode cX11_keepForm 1 = .ok (.getfield 184, 3) := by decide +kernel
theorem dX11_keepForm_4 : decode cX11_keepForm 4 = .ok (.bipush 6, 2) := by decide +kernel
theorem dX11_keepForm_6 : decode cX11_keepForm 6 = .ok (.if_icmp .lt 5, 3) := by decide +kernel
theorem dX11_keepForm_9 : decode cX11_keepForm 9 = .ok (.iconst (-1), 1) := by decide +kernel
theorem dX11_keepForm_10 : decode cX11_keepForm 10 = .ok (.ireturn, 1) := by decide +kernel
theorem dX11_keepForm_11 : decode cX11_keepForm 11 = .ok (.aload_n 0, 1) := by decide +kernel
theorem dX11_keepForm_12 : decode cX11_keepForm 12 = .ok (.getfield 101, 3) := by decide +kernel
theorem dX11_keepForm_15 : decode cX11_keepForm 15 = .ok (.aload_n 0, 1) := by decide +kernel
theorem dX11_keepForm_16 : decode cX11_keepForm 16 = .ok (.getfield 184, 3) := by decide +kernel
theorem dX11_keepForm_19 : decode cX11_keepForm 19 = .ok (.aload_n 0, 1) := by decide +kernel
theorem dX11_keepForm_20 : decode cX11_keepForm 20 = .ok (.getfield 39, 3) := by decide +kernel
theorem dX11_keepForm_23 : decode cX11_keepForm 23 = .ok (.invokevirtual 187, 3) := by decide +kernel
theorem dX11_keepForm_26 : decode cX11_keepForm 26 = .ok (.aastore, 1) := by decide +kernel
theorem dX11_keepForm_27 : decode cX11_keepForm 27 = .ok (.aload_n 0, 1) := by decide +kernel
theorem dX11_keepForm_28 : decode cX11_keepForm 28 = .ok (.dup, 1) := by decide +kernel
theorem dX11_keepForm_29 : decode cX11_keepForm 29 = .ok (.getfield 184, 3) := by decide +kernel
theorem dX11_keepForm_32 : decode cX11_keepForm 32 = .ok (.dup_x1, 1) := by decide +kernel
theorem dX11_keepForm_33 : decode cX11_keepForm 33 = .ok (.iconst 1, 1) := by decide +kernel
theorem dX11_keepForm_34 : decode cX11_keepForm 34 = .ok (.iadd, 1) := by decide +kernel
theorem dX11_keepForm_35 : decode cX11_keepForm 35 = .ok (.putfield 184, 3) := by decide +kernel
theorem dX11_keepForm_38 : decode cX11_keepForm 38 = .ok (.ireturn, 1) := by decide +kernel
theorem dX11_lawAt_0 : decode cX11_lawAt 0 = .ok (.iload_n 1, 1) := by decide +kernel
theorem dX11_lawAt_1 : decode cX11_lawAt 1 = .ok (.ifCond .lt 20, 3) := by decide +kernel
theorem dX11_lawAt_4 : decode cX11_lawAt 4 = .ok (.iload_n 1, 1) := by decide +kernel
theorem dX11_lawAt_5 : decode cX11_lawAt 5 = .ok (.aload_n 0, 1) := by decide +kernel
theorem dX11_lawAt_6 : decode cX11_lawAt 6 = .ok (.getfield 136, 3) := by decide +kernel
theorem dX11_lawAt_9 : decode cX11_lawAt 9 = .ok (.if_icmp .ge 12, 3) := by decide +kernel
theorem dX11_lawAt_12 : decode cX11_lawAt 12 = .ok (.aload_n 0, 1) := by decide +kernel
theorem dX11_lawAt_13 : decode cX11_lawAt 13 = .ok (.getfield 95, 3) := by decide +kernel
theorem dX11_lawAt_16 : decode cX11_lawAt 16 = .ok (.iload_n 1, 1) := by decide +kernel
theorem dX11_lawAt_17 : decode cX11_lawAt 17 = .ok (.aaload, 1) := by decide +kernel
theorem dX11_lawAt_18 : decode cX11_lawAt 18 = .ok (.goto 4, 3) := by decide +kernel
theorem dX11_lawAt_21 : decode cX11_lawAt 21 = .ok (.aconst_null, 1) := by decide +kernel
theorem dX11_lawAt_22 : decode cX11_lawAt 22 = .ok (.areturn, 1) := by decide +kernel
theorem dX11_formAt_0 : decode cX11_formAt 0 = .ok (.iload_n 1, 1) := by decide +kernel
theorem dX11_formAt_1 : decode cX11_formAt 1 = .ok (.ifCond .lt 20, 3) := by decide +kernel
theorem dX11_formAt_4 : decode cX11_formAt 4 = .ok (.iload_n 1, 1) := by decide +kernel
theorem dX11_formAt_5 : decode cX11_formAt 5 = .ok (.aload_n 0, 1) := by decide +kernel
theorem dX11_formAt_6 : decode cX11_formAt 6 = .ok (.getfield 184, 3) := by decide +kernel
theorem dX11_formAt_9 : decode cX11_formAt 9 = .ok (.if_icmp .ge 12, 3) := by decide +kernel
theorem dX11_formAt_12 : decode cX11_formAt 12 = .ok (.aload_n 0, 1) := by decide +kernel
theorem dX11_formAt_13 : decode cX11_formAt 13 = .ok (.getfield 101, 3) := by decide +kernel
theorem dX11_formAt_16 : decode cX11_formAt 16 = .ok (.iload_n 1, 1) := by decide +kernel
theorem dX11_formAt_17 : decode cX11_formAt 17 = .ok (.aaload, 1) := by decide +kernel
theorem dX11_formAt_18 : decode cX11_formAt 18 = .ok (.goto 4, 3) := by decide +kernel
theorem dX11_formAt_21 : decode cX11_formAt 21 = .ok (.aconst_null, 1) := by decide +kernel
theorem dX11_formAt_22 : decode cX11_formAt 22 = .ok (.areturn, 1) := by decide +kernel
theorem dX11_says_0 : decode cX11_says 0 = .ok (.aload_n 0, 1) := by decide +kernel
theorem dX11_says_1 : decode cX11_says 1 = .ok (.iload_n 1, 1) := by decide +kernel
theorem dX11_says_2 : decode cX11_says 2 = .ok (.invokevirtual 191, 3) := by decide +kernel
theorem dX11_says_5 : decode cX11_says 5 = .ok (.astore_n 3, 1) := by decide +kernel
theorem dX11_says_6 : decode cX11_says 6 = .ok (.aload_n 3, 1) := by decide +kernel
theorem dX11_says_7 : decode cX11_says 7 = .ok (.ifnull 14, 3) := by decide +kernel
theorem dX11_says_10 : decode cX11_says 10 = .ok (.aload_n 0, 1) := by decide +kernel
theorem dX11_says_11 : decode cX11_says 11 = .ok (.getfield 23, 3) := by decide +kernel
theorem dX11_says_14 : decode cX11_says 14 = .ok (.iload_n 2, 1) := by decide +kernel
theorem dX11_says_15 : decode cX11_says 15 = .ok (.invokevirtual 195, 3) := by decide +kernel
theorem dX11_says_18 : decode cX11_says 18 = .ok (.ifCond .ne 11, 3) := by decide +kernel
theorem dX11_says_21 : decode cX11_says 21 = .ok (.new 198, 3) := by decide +kernel
theorem dX11_says_24 : decode cX11_says 24 = .ok (.dup, 1) := by decide +kernel
theorem dX11_says_25 : decode cX11_says 25 = .ok (.invokespecial 200, 3) := by decide +kernel
theorem dX11_says_28 : decode cX11_says 28 = .ok (.athrow, 1) := by decide +kernel
theorem dX11_says_29 : decode cX11_says 29 = .ok (.aload_n 3, 1) := by decide +kernel
theorem dX11_says_30 : decode cX11_says 30 = .ok (.getfield 164, 3) := by decide +kernel
theorem dX11_says_33 : decode cX11_says 33 = .ok (.iload_n 2, 1) := by decide +kernel
theorem dX11_says_34 : decode cX11_says 34 = .ok (.iaload, 1) := by decide +kernel
theorem dX11_says_35 : decode cX11_says 35 = .ok (.ireturn, 1) := by decide +kernel
theorem dX11_clauses_0 : decode cX11_clauses 0 = .ok (.aload_n 0, 1) := by decide +kernel
theorem dX11_clauses_1 : decode cX11_clauses 1 = .ok (.iload_n 1, 1) := by decide +kernel
theorem dX11_clauses_2 : decode cX11_clauses 2 = .ok (.invokevirtual 191, 3) := by decide +kernel
theorem dX11_clauses_5 : decode cX11_clauses 5 = .ok (.astore_n 3, 1) := by decide +kernel
theorem dX11_clauses_6 : decode cX11_clauses 6 = .ok (.aload_n 3, 1) := by decide +kernel
theorem dX11_clauses_7 : decode cX11_clauses 7 = .ok (.ifnull 14, 3) := by decide +kernel
theorem dX11_clauses_10 : decode cX11_clauses 10 = .ok (.aload_n 0, 1) := by decide +kernel
theorem dX11_clauses_11 : decode cX11_clauses 11 = .ok (.getfield 23, 3) := by decide +kernel
theorem dX11_clauses_14 : decode cX11_clauses 14 = .ok (.iload_n 2, 1) := by decide +kernel
theorem dX11_clauses_15 : decode cX11_clauses 15 = .ok (.invokevirtual 195, 3) := by decide +kernel
theorem dX11_clauses_18 : decode cX11_clauses 18 = .ok (.ifCond .ne 7, 3) := by decide +kernel
theorem dX11_clauses_21 : decode cX11_clauses 21 = .ok (.iconst (-1), 1) := by decide +kernel
theorem dX11_clauses_22 : decode cX11_clauses 22 = .ok (.goto 9, 3) := by decide +kernel
theorem dX11_clauses_25 : decode cX11_clauses 25 = .ok (.aload_n 3, 1) := by decide +kernel
theorem dX11_clauses_26 : decode cX11_clauses 26 = .ok (.getfield 158, 3) := by decide +kernel
theorem dX11_clauses_29 : decode cX11_clauses 29 = .ok (.iload_n 2, 1) := by decide +kernel
theorem dX11_clauses_30 : decode cX11_clauses 30 = .ok (.iaload, 1) := by decide +kernel
theorem dX11_clauses_31 : decode cX11_clauses 31 = .ok (.ireturn, 1) := by decide +kernel
theorem dX11_gap_0 : decode cX11_gap 0 = .ok (.aload_n 0, 1) := by decide +kernel
theorem dX11_gap_1 : decode cX11_gap 1 = .ok (.iload_n 1, 1) := by decide +kernel
theorem dX11_gap_2 : decode cX11_gap 2 = .ok (.invokevirtual 191, 3) := by decide +kernel
theorem dX11_gap_5 : decode cX11_gap 5 = .ok (.astore 4, 2) := by decide +kernel
theorem dX11_gap_7 : decode cX11_gap 7 = .ok (.aload 4, 2) := by decide +kernel
theorem dX11_gap_9 : decode cX11_gap 9 = .ok (.ifnull 12, 3) := by decide +kernel
theorem dX11_gap_12 : decode cX11_gap 12 = .ok (.iload_n 2, 1) := by decide +kernel
theorem dX11_gap_13 : decode cX11_gap 13 = .ok (.ifCond .lt 8, 3) := by decide +kernel
theorem dX11_gap_16 : decode cX11_gap 16 = .ok (.iload_n 2, 1) := by decide +kernel
theorem dX11_gap_17 : decode cX11_gap 17 = .ok (.iconst 1, 1) := by decide +kernel
theorem dX11_gap_18 : decode cX11_gap 18 = .ok (.if_icmp .le 5, 3) := by decide +kernel
theorem dX11_gap_21 : decode cX11_gap 21 = .ok (.iconst (-1), 1) := by decide +kernel
theorem dX11_gap_22 : decode cX11_gap 22 = .ok (.ireturn, 1) := by decide +kernel
theorem dX11_gap_23 : decode cX11_gap 23 = .ok (.iconst 0, 1) := by decide +kernel
theorem dX11_gap_24 : decode cX11_gap 24 = .ok (.istore 5, 2) := by decide +kernel
theorem dX11_gap_26 : decode cX11_gap 26 = .ok (.iconst 0, 1) := by decide +kernel
theorem dX11_gap_27 : decode cX11_gap 27 = .ok (.istore 6, 2) := by decide +kernel
theorem dX11_gap_29 : decode cX11_gap 29 = .ok (.iload 6, 2) := by decide +kernel
theorem dX11_gap_31 : decode cX11_gap 31 = .ok (.aload_n 0, 1) := by decide +kernel
theorem dX11_gap_32 : decode cX11_gap 32 = .ok (.getfield 23, 3) := by decide +kernel
theorem dX11_gap_35 : decode cX11_gap 35 = .ok (.getfield 77, 3) := by decide +kernel
theorem dX11_gap_38 : decode cX11_gap 38 = .ok (.if_icmp .ge 50, 3) := by decide +kernel
theorem dX11_gap_41 : decode cX11_gap 41 = .ok (.iload_n 2, 1) := by decide +kernel
theorem dX11_gap_42 : decode cX11_gap 42 = .ok (.ifCond .ne 16, 3) := by decide +kernel
theorem dX11_gap_45 : decode cX11_gap 45 = .ok (.aload 4, 2) := by decide +kernel
theorem dX11_gap_47 : decode cX11_gap 47 = .ok (.iload 6, 2) := by decide +kernel
theorem dX11_gap_49 : decode cX11_gap 49 = .ok (.invokevirtual 201, 3) := by decide +kernel
theorem dX11_gap_52 : decode cX11_gap 52 = .ok (.ifCond .eq 30, 3) := by decide +kernel
theorem dX11_gap_55 : decode cX11_gap 55 = .ok (.goto 15, 3) := by decide +kernel
theorem dX11_gap_58 : decode cX11_gap 58 = .ok (.aload 4, 2) := by decide +kernel
theorem dX11_gap_60 : decode cX11_gap 60 = .ok (.getfield 164, 3) := by decide +kernel
theorem dX11_gap_63 : decode cX11_gap 63 = .ok (.iload 6, 2) := by decide +kernel
theorem dX11_gap_65 : decode cX11_gap 65 = .ok (.iaload, 1) := by decide +kernel
theorem dX11_gap_66 : decode cX11_gap 66 = .ok (.iconst (-1), 1) := by decide +kernel
theorem dX11_gap_67 : decode cX11_gap 67 = .ok (.if_icmp .ne 15, 3) := by decide +kernel
theorem dX11_gap_70 : decode cX11_gap 70 = .ok (.aload_n 0, 1) := by decide +kernel
theorem dX11_gap_71 : decode cX11_gap 71 = .ok (.getfield 105, 3) := by decide +kernel
theorem dX11_gap_74 : decode cX11_gap 74 = .ok (.iload 5, 2) := by decide +kernel
theorem dX11_gap_76 : decode cX11_gap 76 = .ok (.iinc 5 1, 3) := by decide +kernel
theorem dX11_gap_79 : decode cX11_gap 79 = .ok (.iload 6, 2) := by decide +kernel
theorem dX11_gap_81 : decode cX11_gap 81 = .ok (.iastore, 1) := by decide +kernel
theorem dX11_gap_82 : decode cX11_gap 82 = .ok (.iinc 6 1, 3) := by decide +kernel
theorem dX11_gap_85 : decode cX11_gap 85 = .ok (.goto (-56), 3) := by decide +kernel
theorem dX11_gap_88 : decode cX11_gap 88 = .ok (.aload_n 0, 1) := by decide +kernel
theorem dX11_gap_89 : decode cX11_gap 89 = .ok (.iload 5, 2) := by decide +kernel
theorem dX11_gap_91 : decode cX11_gap 91 = .ok (.iload_n 3, 1) := by decide +kernel
theorem dX11_gap_92 : decode cX11_gap 92 = .ok (.invokevirtual 204, 3) := by decide +kernel
theorem dX11_gap_95 : decode cX11_gap 95 = .ok (.ireturn, 1) := by decide +kernel
theorem dX11_hit_0 : decode cX11_hit 0 = .ok (.iload_n 2, 1) := by decide +kernel
theorem dX11_hit_1 : decode cX11_hit 1 = .ok (.iconst (-1), 1) := by decide +kernel
theorem dX11_hit_2 : decode cX11_hit 2 = .ok (.if_icmp .ne 5, 3) := by decide +kernel
theorem dX11_hit_5 : decode cX11_hit 5 = .ok (.iload_n 1, 1) := by decide +kernel
theorem dX11_hit_6 : decode cX11_hit 6 = .ok (.ireturn, 1) := by decide +kernel
theorem dX11_hit_7 : decode cX11_hit 7 = .ok (.iload_n 2, 1) := by decide +kernel
theorem dX11_hit_8 : decode cX11_hit 8 = .ok (.ifCond .lt 26, 3) := by decide +kernel
theorem dX11_hit_11 : decode cX11_hit 11 = .ok (.iload_n 2, 1) := by decide +kernel
theorem dX11_hit_12 : decode cX11_hit 12 = .ok (.iload_n 1, 1) := by decide +kernel
theorem dX11_hit_13 : decode cX11_hit 13 = .ok (.if_icmp .ge 21, 3) := by decide +kernel
theorem dX11_hit_16 : decode cX11_hit 16 = .ok (.iload_n 2, 1) := by decide +kernel
theorem dX11_hit_17 : decode cX11_hit 17 = .ok (.aload_n 0, 1) := by decide +kernel
theorem dX11_hit_18 : decode cX11_hit 18 = .ok (.getfield 105, 3) := by decide +kernel
theorem dX11_hit_21 : decode cX11_hit 21 = .ok (.arraylength, 1) := by decide +kernel
theorem dX11_hit_22 : decode cX11_hit 22 = .ok (.if_icmp .ge 12, 3) := by decide +kernel
theorem dX11_hit_25 : decode cX11_hit 25 = .ok (.aload_n 0, 1) := by decide +kernel
theorem dX11_hit_26 : decode cX11_hit 26 = .ok (.getfield 105, 3) := by decide +kernel
theorem dX11_hit_29 : decode cX11_hit 29 = .ok (.iload_n 2, 1) := by decide +kernel
theorem dX11_hit_30 : decode cX11_hit 30 = .ok (.iaload, 1) := by decide +kernel
theorem dX11_hit_31 : decode cX11_hit 31 = .ok (.goto 4, 3) := by decide +kernel
theorem dX11_hit_34 : decode cX11_hit 34 = .ok (.iconst (-1), 1) := by decide +kernel
theorem dX11_hit_35 : decode cX11_hit 35 = .ok (.ireturn, 1) := by decide +kernel
theorem dX11_hitsOfUnlike_0 : decode cX11_hitsOfUnlike 0 = .ok (.iconst 0, 1) := by decide +kernel
theorem dX11_hitsOfUnlike_1 : decode cX11_hitsOfUnlike 1 = .ok (.istore 4, 2) := by decide +kernel
theorem dX11_hitsOfUnlike_3 : decode cX11_hitsOfUnlike 3 = .ok (.iconst 0, 1) := by decide +kernel
theorem dX11_hitsOfUnlike_4 : decode cX11_hitsOfUnlike 4 = .ok (.istore 5, 2) := by decide +kernel
theorem dX11_hitsOfUnlike_6 : decode cX11_hitsOfUnlike 6 = .ok (.iload 5, 2) := by decide +kernel
theorem dX11_hitsOfUnlike_8 : decode cX11_hitsOfUnlike 8 = .ok (.aload_n 0, 1) := by decide +kernel
theorem dX11_hitsOfUnlike_9 : decode cX11_hitsOfUnlike 9 = .ok (.getfield 23, 3) := by decide +kernel
theorem dX11_hitsOfUnlike_12 : decode cX11_hitsOfUnlike 12 = .ok (.getfield 77, 3) := by decide +kernel
theorem dX11_hitsOfUnlike_15 : decode cX11_hitsOfUnlike 15 = .ok (.if_icmp .ge 32, 3) := by decide +kernel
theorem dX11_hitsOfUnlike_18 : decode cX11_hitsOfUnlike 18 = .ok (.aload_n 1, 1) := by decide +kernel
theorem dX11_hitsOfUnlike_19 : decode cX11_hitsOfUnlike 19 = .ok (.iload 5, 2) := by decide +kernel
theorem dX11_hitsOfUnlike_21 : decode cX11_hitsOfUnlike 21 = .ok (.iaload, 1) := by decide +kernel
theorem dX11_hitsOfUnlike_22 : decode cX11_hitsOfUnlike 22 = .ok (.aload_n 2, 1) := by decide +kernel
theorem dX11_hitsOfUnlike_23 : decode cX11_hitsOfUnlike 23 = .ok (.iload 5, 2) := by decide +kernel
theorem dX11_hitsOfUnlike_25 : decode cX11_hitsOfUnlike 25 = .ok (.iaload, 1) := by decide +kernel
theorem dX11_hitsOfUnlike_26 : decode cX11_hitsOfUnlike 26 = .ok (.if_icmp .eq 15, 3) := by decide +kernel
theorem dX11_hitsOfUnlike_29 : decode cX11_hitsOfUnlike 29 = .ok (.aload_n 0, 1) := by decide +kernel
theorem dX11_hitsOfUnlike_30 : decode cX11_hitsOfUnlike 30 = .ok (.getfield 105, 3) := by decide +kernel
theorem dX11_hitsOfUnlike_33 : decode cX11_hitsOfUnlike 33 = .ok (.iload 4, 2) := by decide +kernel
theorem dX11_hitsOfUnlike_35 : decode cX11_hitsOfUnlike 35 = .ok (.iinc 4 1, 3) := by decide +kernel
theorem dX11_hitsOfUnlike_38 : decode cX11_hitsOfUnlike 38 = .ok (.iload 5, 2) := by decide +kernel
theorem dX11_hitsOfUnlike_40 : decode cX11_hitsOfUnlike 40 = .ok (.iastore, 1) := by decide +kernel
theorem dX11_hitsOfUnlike_41 : decode cX11_hitsOfUnlike 41 = .ok (.iinc 5 1, 3) := by decide +kernel
theorem dX11_hitsOfUnlike_44 : decode cX11_hitsOfUnlike 44 = .ok (.goto (-38), 3) := by decide +kernel
theorem dX11_hitsOfUnlike_47 : decode cX11_hitsOfUnlike 47 = .ok (.aload_n 0, 1) := by decide +kernel
theorem dX11_hitsOfUnlike_48 : decode cX11_hitsOfUnlike 48 = .ok (.iload 4, 2) := by decide +kernel
theorem dX11_hitsOfUnlike_50 : decode cX11_hitsOfUnlike 50 = .ok (.iload_n 3, 1) := by decide +kernel
theorem dX11_hitsOfUnlike_51 : decode cX11_hitsOfUnlike 51 = .ok (.invokevirtual 204, 3) := by decide +kernel
theorem dX11_hitsOfUnlike_54 : decode cX11_hitsOfUnlike 54 = .ok (.ireturn, 1) := by decide +kernel
theorem dX11_sure_0 : decode cX11_sure 0 = .ok (.aload_n 0, 1) := by decide +kernel
theorem dX11_sure_1 : decode cX11_sure 1 = .ok (.iload_n 1, 1) := by decide +kernel
theorem dX11_sure_2 : decode cX11_sure 2 = .ok (.invokevirtual 191, 3) := by decide +kernel
theorem dX11_sure_5 : decode cX11_sure 5 = .ok (.astore 4, 2) := by decide +kernel
theorem dX11_sure_7 : decode cX11_sure 7 = .ok (.aload 4, 2) := by decide +kernel
theorem dX11_sure_9 : decode cX11_sure 9 = .ok (.ifnull 15, 3) := by decide +kernel
theorem dX11_sure_12 : decode cX11_sure 12 = .ok (.aload_n 0, 1) := by decide +kernel
theorem dX11_sure_13 : decode cX11_sure 13 = .ok (.getfield 23, 3) := by decide +kernel
theorem dX11_sure_16 : decode cX11_sure 16 = .ok (.iload_n 2, 1) := by decide +kernel
theorem dX11_sure_17 : decode cX11_sure 17 = .ok (.iload_n 3, 1) := by decide +kernel
theorem dX11_sure_18 : decode cX11_sure 18 = .ok (.invokevirtual 207, 3) := by decide +kernel
theorem dX11_sure_21 : decode cX11_sure 21 = .ok (.ifCond .ne 8, 3) := by decide +kernel
theorem dX11_sure_24 : decode cX11_sure 24 = .ok (.bipush (-2), 2) := by decide +kernel
theorem dX11_sure_26 : decode cX11_sure 26 = .ok (.goto 17, 3) := by decide +kernel
theorem dX11_sure_29 : decode cX11_sure 29 = .ok (.aload 4, 2) := by decide +kernel
theorem dX11_sure_31 : decode cX11_sure 31 = .ok (.aload_n 0, 1) := by decide +kernel
theorem dX11_sure_32 : decode cX11_sure 32 = .ok (.getfield 23, 3) := by decide +kernel
theorem dX11_sure_35 : decode cX11_sure 35 = .ok (.iload_n 2, 1) := by decide +kernel
theorem dX11_sure_36 : decode cX11_sure 36 = .ok (.iload_n 3, 1) := by decide +kernel
theorem dX11_sure_37 : decode cX11_sure 37 = .ok (.invokevirtual 211, 3) := by decide +kernel
theorem dX11_sure_40 : decode cX11_sure 40 = .ok (.invokevirtual 214, 3) := by decide +kernel
theorem dX11_sure_43 : decode cX11_sure 43 = .ok (.ireturn, 1) := by decide +kernel
theorem dX11_matters_0 : decode cX11_matters 0 = .ok (.aload_n 0, 1) := by decide +kernel
theorem dX11_matters_1 : decode cX11_matters 1 = .ok (.iload_n 1, 1) := by decide +kernel
theorem dX11_matters_2 : decode cX11_matters 2 = .ok (.invokevirtual 191, 3) := by decide +kernel
theorem dX11_matters_5 : decode cX11_matters 5 = .ok (.astore_n 3, 1) := by decide +kernel
theorem dX11_matters_6 : decode cX11_matters 6 = .ok (.aload_n 3, 1) := by decide +kernel
theorem dX11_matters_7 : decode cX11_matters 7 = .ok (.ifnull 12, 3) := by decide +kernel
theorem dX11_matters_10 : decode cX11_matters 10 = .ok (.iload_n 2, 1) := by decide +kernel
theorem dX11_matters_11 : decode cX11_matters 11 = .ok (.ifCond .lt 8, 3) := by decide +kernel
theorem dX11_matters_14 : decode cX11_matters 14 = .ok (.iload_n 2, 1) := by decide +kernel
theorem dX11_matters_15 : decode cX11_matters 15 = .ok (.iconst 1, 1) := by decide +kernel
theorem dX11_matters_16 : decode cX11_matters 16 = .ok (.if_icmp .le 5, 3) := by decide +kernel
theorem dX11_matters_19 : decode cX11_matters 19 = .ok (.iconst (-1), 1) := by decide +kernel
theorem dX11_matters_20 : decode cX11_matters 20 = .ok (.ireturn, 1) := by decide +kernel
theorem dX11_matters_21 : decode cX11_matters 21 = .ok (.iconst 0, 1) := by decide +kernel
theorem dX11_matters_22 : decode cX11_matters 22 = .ok (.istore 4, 2) := by decide +kernel
theorem dX11_matters_24 : decode cX11_matters 24 = .ok (.aload_n 0, 1) := by decide +kernel
theorem dX11_matters_25 : decode cX11_matters 25 = .ok (.getfield 23, 3) := by decide +kernel
theorem dX11_matters_28 : decode cX11_matters 28 = .ok (.getfield 217, 3) := by decide +kernel
theorem dX11_matters_31 : decode cX11_matters 31 = .ok (.istore 5, 2) := by decide +kernel
theorem dX11_matters_33 : decode cX11_matters 33 = .ok (.iconst 0, 1) := by decide +kernel
theorem dX11_matters_34 : decode cX11_matters 34 = .ok (.istore 6, 2) := by decide +kernel
theorem dX11_matters_36 : decode cX11_matters 36 = .ok (.iload 6, 2) := by decide +kernel
theorem dX11_matters_38 : decode cX11_matters 38 = .ok (.aload_n 0, 1) := by decide +kernel
theorem dX11_matters_39 : decode cX11_matters 39 = .ok (.getfield 23, 3) := by decide +kernel
theorem dX11_matters_42 : decode cX11_matters 42 = .ok (.getfield 77, 3) := by decide +kernel
theorem dX11_matters_45 : decode cX11_matters 45 = .ok (.if_icmp .ge 32, 3) := by decide +kernel
theorem dX11_matters_48 : decode cX11_matters 48 = .ok (.aload_n 0, 1) := by decide +kernel
theorem dX11_matters_49 : decode cX11_matters 49 = .ok (.aload_n 3, 1) := by decide +kernel
theorem dX11_matters_50 : decode cX11_matters 50 = .ok (.iload 6, 2) := by decide +kernel
theorem dX11_matters_52 : decode cX11_matters 52 = .ok (.invokevirtual 220, 3) := by decide +kernel
theorem dX11_matters_55 : decode cX11_matters 55 = .ok (.istore 7, 2) := by decide +kernel
theorem dX11_matters_57 : decode cX11_matters 57 = .ok (.iload 4, 2) := by decide +kernel
theorem dX11_matters_59 : decode cX11_matters 59 = .ok (.iload 7, 2) := by decide +kernel
theorem dX11_matters_61 : decode cX11_matters 61 = .ok (.ior, 1) := by decide +kernel
theorem dX11_matters_62 : decode cX11_matters 62 = .ok (.istore 4, 2) := by decide +kernel
theorem dX11_matters_64 : decode cX11_matters 64 = .ok (.iload 5, 2) := by decide +kernel
theorem dX11_matters_66 : decode cX11_matters 66 = .ok (.iload 7, 2) := by decide +kernel
theorem dX11_matters_68 : decode cX11_matters 68 = .ok (.iand, 1) := by decide +kernel
theorem dX11_matters_69 : decode cX11_matters 69 = .ok (.istore 5, 2) := by decide +kernel
theorem dX11_matters_71 : decode cX11_matters 71 = .ok (.iinc 6 1, 3) := by decide +kernel
theorem dX11_matters_74 : decode cX11_matters 74 = .ok (.goto (-38), 3) := by decide +kernel
theorem dX11_matters_77 : decode cX11_matters 77 = .ok (.iload_n 2, 1) := by decide +kernel
theorem dX11_matters_78 : decode cX11_matters 78 = .ok (.ifCond .ne 8, 3) := by decide +kernel
theorem dX11_matters_81 : decode cX11_matters 81 = .ok (.iload 4, 2) := by decide +kernel
theorem dX11_matters_83 : decode cX11_matters 83 = .ok (.goto 5, 3) := by decide +kernel
theorem dX11_matters_86 : decode cX11_matters 86 = .ok (.iload 5, 2) := by decide +kernel
theorem dX11_matters_88 : decode cX11_matters 88 = .ok (.ireturn, 1) := by decide +kernel
theorem dX11_factsThatMatter_0 : decode cX11_factsThatMatter 0 = .ok (.iconst 0, 1) := by decide +kernel
theorem dX11_factsThatMatter_1 : decode cX11_factsThatMatter 1 = .ok (.istore_n 3, 1) := by decide +kernel
theorem dX11_factsThatMatter_2 : decode cX11_factsThatMatter 2 = .ok (.iconst 0, 1) := by decide +kernel
theorem dX11_factsThatMatter_3 : decode cX11_factsThatMatter 3 = .ok (.istore 4, 2) := by decide +kernel
theorem dX11_factsThatMatter_5 : decode cX11_factsThatMatter 5 = .ok (.iload 4, 2) := by decide +kernel
theorem dX11_factsThatMatter_7 : decode cX11_factsThatMatter 7 = .ok (.aload_n 0, 1) := by decide +kernel
theorem dX11_factsThatMatter_8 : decode cX11_factsThatMatter 8 = .ok (.getfield 23, 3) := by decide +kernel
theorem dX11_factsThatMatter_11 : decode cX11_factsThatMatter 11 = .ok (.getfield 224, 3) := by decide +kernel
theorem dX11_factsThatMatter_14 : decode cX11_factsThatMatter 14 = .ok (.if_icmp .ge 36, 3) := by decide +kernel
theorem dX11_factsThatMatter_17 : decode cX11_factsThatMatter 17 = .ok (.aload_n 1, 1) := by decide +kernel
theorem dX11_factsThatMatter_18 : decode cX11_factsThatMatter 18 = .ok (.getfield 164, 3) := by decide +kernel
theorem dX11_factsThatMatter_21 : decode cX11_factsThatMatter 21 = .ok (.iload_n 2, 1) := by decide +kernel
theorem dX11_factsThatMatter_22 : decode cX11_factsThatMatter 22 = .ok (.iaload, 1) := by decide +kernel
theorem dX11_factsThatMatter_23 : decode cX11_factsThatMatter 23 = .ok (.aload_n 1, 1) := by decide +kernel
theorem dX11_factsThatMatter_24 : decode cX11_factsThatMatter 24 = .ok (.getfield 164, 3) := by decide +kernel
theorem dX11_factsThatMatter_27 : decode cX11_factsThatMatter 27 = .ok (.iload_n 2, 1) := by decide +kernel
theorem dX11_factsThatMatter_28 : decode cX11_factsThatMatter 28 = .ok (.iconst 1, 1) := by decide +kernel
theorem dX11_factsThatMatter_29 : decode cX11_factsThatMatter 29 = .ok (.iload 4, 2) := by decide +kernel
theorem dX11_factsThatMatter_31 : decode cX11_factsThatMatter 31 = .ok (.ishl, 1) := by decide +kernel
theorem dX11_factsThatMatter_32 : decode cX11_factsThatMatter 32 = .ok (.ixor, 1) := by decide +kernel
theorem dX11_factsThatMatter_33 : decode cX11_factsThatMatter 33 = .ok (.iaload, 1) := by decide +kernel
theorem dX11_factsThatMatter_34 : decode cX11_factsThatMatter 34 = .ok (.if_icmp .eq 10, 3) := by decide +kernel
theorem dX11_factsThatMatter_37 : decode cX11_factsThatMatter 37 = .ok (.iload_n 3, 1) := by decide +kernel
theorem dX11_factsThatMatter_38 : decode cX11_factsThatMatter 38 = .ok (.iconst 1, 1) := by decide +kernel
theorem dX11_factsThatMatter_39 : decode cX11_factsThatMatter 39 = .ok (.iload 4, 2) := by decide +kernel
theorem dX11_factsThatMatter_41 : decode cX11_factsThatMatter 41 = .ok (.ishl, 1) := by decide +kernel
theorem dX11_factsThatMatter_42 : decode cX11_factsThatMatter 42 = .ok (.ior, 1) := by decide +kernel
theorem dX11_factsThatMatter_43 : decode cX11_factsThatMatter 43 = .ok (.istore_n 3, 1) := by decide +kernel
theorem dX11_factsThatMatter_44 : decode cX11_factsThatMatter 44 = .ok (.iinc 4 1, 3) := by decide +kernel
theorem dX11_factsThatMatter_47 : decode cX11_factsThatMatter 47 = .ok (.goto (-42), 3) := by decide +kernel
theorem dX11_factsThatMatter_50 : decode cX11_factsThatMatter 50 = .ok (.iload_n 3, 1) := by decide +kernel
theorem dX11_factsThatMatter_51 : decode cX11_factsThatMatter 51 = .ok (.ireturn, 1) := by decide +kernel
theorem dX11_proof_0 : decode cX11_proof 0 = .ok (.aload_n 0, 1) := by decide +kernel
theorem dX11_proof_1 : decode cX11_proof 1 = .ok (.iload_n 1, 1) := by decide +kernel
theorem dX11_proof_2 : decode cX11_proof 2 = .ok (.invokevirtual 191, 3) := by decide +kernel
theorem dX11_proof_5 : decode cX11_proof 5 = .ok (.astore_n 3, 1) := by decide +kernel
theorem dX11_proof_6 : decode cX11_proof 6 = .ok (.aload_n 3, 1) := by decide +kernel
theorem dX11_proof_7 : decode cX11_proof 7 = .ok (.ifnull 14, 3) := by decide +kernel
theorem dX11_proof_10 : decode cX11_proof 10 = .ok (.aload_n 0, 1) := by decide +kernel
theorem dX11_proof_11 : decode cX11_proof 11 = .ok (.getfield 23, 3) := by decide +kernel
theorem dX11_proof_14 : decode cX11_proof 14 = .ok (.iload_n 2, 1) := by decide +kernel
theorem dX11_proof_15 : decode cX11_proof 15 = .ok (.invokevirtual 195, 3) := by decide +kernel
theorem dX11_proof_18 : decode cX11_proof 18 = .ok (.ifCond .ne 5, 3) := by decide +kernel
theorem dX11_proof_21 : decode cX11_proof 21 = .ok (.iconst (-1), 1) := by decide +kernel
theorem dX11_proof_22 : decode cX11_proof 22 = .ok (.ireturn, 1) := by decide +kernel
theorem dX11_proof_23 : decode cX11_proof 23 = .ok (.iconst (-1), 1) := by decide +kernel
theorem dX11_proof_24 : decode cX11_proof 24 = .ok (.istore 4, 2) := by decide +kernel
theorem dX11_proof_26 : decode cX11_proof 26 = .ok (.iconst 0, 1) := by decide +kernel
theorem dX11_proof_27 : decode cX11_proof 27 = .ok (.istore 5, 2) := by decide +kernel
theorem dX11_proof_29 : decode cX11_proof 29 = .ok (.iload 5, 2) := by decide +kernel
theorem dX11_proof_31 : decode cX11_proof 31 = .ok (.aload_n 0, 1) := by decide +kernel
theorem dX11_proof_32 : decode cX11_proof 32 = .ok (.getfield 23, 3) := by decide +kernel
theorem dX11_proof_35 : decode cX11_proof 35 = .ok (.getfield 217, 3) := by decide +kernel
theorem dX11_proof_38 : decode cX11_proof 38 = .ok (.if_icmp .gt 43, 3) := by decide +kernel
theorem dX11_proof_41 : decode cX11_proof 41 = .ok (.iload 5, 2) := by decide +kernel
theorem dX11_proof_43 : decode cX11_proof 43 = .ok (.iload 4, 2) := by decide +kernel
theorem dX11_proof_45 : decode cX11_proof 45 = .ok (.invokestatic 227, 3) := by decide +kernel
theorem dX11_proof_48 : decode cX11_proof 48 = .ok (.ifCond .eq 27, 3) := by decide +kernel
theorem dX11_proof_51 : decode cX11_proof 51 = .ok (.aload_n 3, 1) := by decide +kernel
theorem dX11_proof_52 : decode cX11_proof 52 = .ok (.aload_n 0, 1) := by decide +kernel
theorem dX11_proof_53 : decode cX11_proof 53 = .ok (.getfield 23, 3) := by decide +kernel
theorem dX11_proof_56 : decode cX11_proof 56 = .ok (.iload 5, 2) := by decide +kernel
theorem dX11_proof_58 : decode cX11_proof 58 = .ok (.iload_n 2, 1) := by decide +kernel
theorem dX11_proof_59 : decode cX11_proof 59 = .ok (.iload 5, 2) := by decide +kernel
theorem dX11_proof_61 : decode cX11_proof 61 = .ok (.iand, 1) := by decide +kernel
theorem dX11_proof_62 : decode cX11_proof 62 = .ok (.invokevirtual 211, 3) := by decide +kernel
theorem dX11_proof_65 : decode cX11_proof 65 = .ok (.invokevirtual 230, 3) := by decide +kernel
theorem dX11_proof_68 : decode cX11_proof 68 = .ok (.ifCond .eq 7, 3) := by decide +kernel
theorem dX11_proof_71 : decode cX11_proof 71 = .ok (.iload 5, 2) := by decide +kernel
theorem dX11_proof_73 : decode cX11_proof 73 = .ok (.istore 4, 2) := by decide +kernel
theorem dX11_proof_75 : decode cX11_proof 75 = .ok (.iinc 5 1, 3) := by decide +kernel
theorem dX11_proof_78 : decode cX11_proof 78 = .ok (.goto (-49), 3) := by decide +kernel
theorem dX11_proof_81 : decode cX11_proof 81 = .ok (.iload 4, 2) := by decide +kernel
theorem dX11_proof_83 : decode cX11_proof 83 = .ok (.ireturn, 1) := by decide +kernel
theorem dX11_parts_0 : decode cX11_parts 0 = .ok (.aload_n 0, 1) := by decide +kernel
theorem dX11_parts_1 : decode cX11_parts 1 = .ok (.iload_n 1, 1) := by decide +kernel
theorem dX11_parts_2 : decode cX11_parts 2 = .ok (.invokevirtual 191, 3) := by decide +kernel
theorem dX11_parts_5 : decode cX11_parts 5 = .ok (.astore 4, 2) := by decide +kernel
theorem dX11_parts_7 : decode cX11_parts 7 = .ok (.aload_n 0, 1) := by decide +kernel
theorem dX11_parts_8 : decode cX11_parts 8 = .ok (.iload_n 2, 1) := by decide +kernel
theorem dX11_parts_9 : decode cX11_parts 9 = .ok (.invokevirtual 191, 3) := by decide +kernel
theorem dX11_parts_12 : decode cX11_parts 12 = .ok (.astore 5, 2) := by decide +kernel
theorem dX11_parts_14 : decode cX11_parts 14 = .ok (.aload 4, 2) := by decide +kernel
theorem dX11_parts_16 : decode cX11_parts 16 = .ok (.ifnull 8, 3) := by decide +kernel
theorem dX11_parts_19 : decode cX11_parts 19 = .ok (.aload 5, 2) := by decide +kernel
theorem dX11_parts_21 : decode cX11_parts 21 = .ok (.ifnonnull 7, 3) := by decide +kernel
theorem dX11_parts_24 : decode cX11_parts 24 = .ok (.iconst (-1), 1) := by decide +kernel
theorem dX11_parts_25 : decode cX11_parts 25 = .ok (.goto 18, 3) := by decide +kernel
theorem dX11_parts_28 : decode cX11_parts 28 = .ok (.aload_n 0, 1) := by decide +kernel
theorem dX11_parts_29 : decode cX11_parts 29 = .ok (.aload 4, 2) := by decide +kernel
theorem dX11_parts_31 : decode cX11_parts 31 = .ok (.getfield 164, 3) := by decide +kernel
theorem dX11_parts_34 : decode cX11_parts 34 = .ok (.aload 5, 2) := by decide +kernel
theorem dX11_parts_36 : decode cX11_parts 36 = .ok (.getfield 164, 3) := by decide +kernel
theorem dX11_parts_39 : decode cX11_parts 39 = .ok (.iload_n 3, 1) := by decide +kernel
theorem dX11_parts_40 : decode cX11_parts 40 = .ok (.invokevirtual 233, 3) := by decide +kernel
theorem dX11_parts_43 : decode cX11_parts 43 = .ok (.ireturn, 1) := by decide +kernel
theorem dX11_leads_0 : decode cX11_leads 0 = .ok (.aload_n 0, 1) := by decide +kernel
theorem dX11_leads_1 : decode cX11_leads 1 = .ok (.iload_n 1, 1) := by decide +kernel
theorem dX11_leads_2 : decode cX11_leads 2 = .ok (.invokevirtual 237, 3) := by decide +kernel
theorem dX11_leads_5 : decode cX11_leads 5 = .ok (.astore_n 3, 1) := by decide +kernel
theorem dX11_leads_6 : decode cX11_leads 6 = .ok (.aload_n 3, 1) := by decide +kernel
theorem dX11_leads_7 : decode cX11_leads 7 = .ok (.ifnull 14, 3) := by decide +kernel
theorem dX11_leads_10 : decode cX11_leads 10 = .ok (.aload_n 0, 1) := by decide +kernel
theorem dX11_leads_11 : decode cX11_leads 11 = .ok (.getfield 23, 3) := by decide +kernel
theorem dX11_leads_14 : decode cX11_leads 14 = .ok (.iload_n 2, 1) := by decide +kernel
theorem dX11_leads_15 : decode cX11_leads 15 = .ok (.invokevirtual 195, 3) := by decide +kernel
theorem dX11_leads_18 : decode cX11_leads 18 = .ok (.ifCond .ne 11, 3) := by decide +kernel
theorem dX11_leads_21 : decode cX11_leads 21 = .ok (.new 198, 3) := by decide +kernel
theorem dX11_leads_24 : decode cX11_leads 24 = .ok (.dup, 1) := by decide +kernel
theorem dX11_leads_25 : decode cX11_leads 25 = .ok (.invokespecial 200, 3) := by decide +kernel
theorem dX11_leads_28 : decode cX11_leads 28 = .ok (.athrow, 1) := by decide +kernel
theorem dX11_leads_29 : decode cX11_leads 29 = .ok (.aload_n 3, 1) := by decide +kernel
theorem dX11_leads_30 : decode cX11_leads 30 = .ok (.iload_n 2, 1) := by decide +kernel
theorem dX11_leads_31 : decode cX11_leads 31 = .ok (.invokevirtual 241, 3) := by decide +kernel
theorem dX11_leads_34 : decode cX11_leads 34 = .ok (.ireturn, 1) := by decide +kernel
theorem dX11_apart_0 : decode cX11_apart 0 = .ok (.aload_n 0, 1) := by decide +kernel
theorem dX11_apart_1 : decode cX11_apart 1 = .ok (.iload_n 1, 1) := by decide +kernel
theorem dX11_apart_2 : decode cX11_apart 2 = .ok (.invokevirtual 237, 3) := by decide +kernel
theorem dX11_apart_5 : decode cX11_apart 5 = .ok (.astore 4, 2) := by decide +kernel
theorem dX11_apart_7 : decode cX11_apart 7 = .ok (.aload_n 0, 1) := by decide +kernel
theorem dX11_apart_8 : decode cX11_apart 8 = .ok (.iload_n 2, 1) := by decide +kernel
theorem dX11_apart_9 : decode cX11_apart 9 = .ok (.invokevirtual 191, 3) := by decide +kernel
theorem dX11_apart_12 : decode cX11_apart 12 = .ok (.astore 5, 2) := by decide +kernel
theorem dX11_apart_14 : decode cX11_apart 14 = .ok (.aload 4, 2) := by decide +kernel
theorem dX11_apart_16 : decode cX11_apart 16 = .ok (.ifnull 8, 3) := by decide +kernel
theorem dX11_apart_19 : decode cX11_apart 19 = .ok (.aload 5, 2) := by decide +kernel
theorem dX11_apart_21 : decode cX11_apart 21 = .ok (.ifnonnull 5, 3) := by decide +kernel
theorem dX11_apart_24 : decode cX11_apart 24 = .ok (.iconst (-1), 1) := by decide +kernel
theorem dX11_apart_25 : decode cX11_apart 25 = .ok (.ireturn, 1) := by decide +kernel
theorem dX11_apart_26 : decode cX11_apart 26 = .ok (.iconst 0, 1) := by decide +kernel
theorem dX11_apart_27 : decode cX11_apart 27 = .ok (.istore 6, 2) := by decide +kernel
theorem dX11_apart_29 : decode cX11_apart 29 = .ok (.iconst 0, 1) := by decide +kernel
theorem dX11_apart_30 : decode cX11_apart 30 = .ok (.istore 7, 2) := by decide +kernel
theorem dX11_apart_32 : decode cX11_apart 32 = .ok (.iload 7, 2) := by decide +kernel
theorem dX11_apart_34 : decode cX11_apart 34 = .ok (.aload_n 0, 1) := by decide +kernel
theorem dX11_apart_35 : decode cX11_apart 35 = .ok (.getfield 23, 3) := by decide +kernel
theorem dX11_apart_38 : decode cX11_apart 38 = .ok (.getfield 77, 3) := by decide +kernel
theorem dX11_apart_41 : decode cX11_apart 41 = .ok (.if_icmp .ge 39, 3) := by decide +kernel
theorem dX11_apart_44 : decode cX11_apart 44 = .ok (.aload 4, 2) := by decide +kernel
theorem dX11_apart_46 : decode cX11_apart 46 = .ok (.iload 7, 2) := by decide +kernel
theorem dX11_apart_48 : decode cX11_apart 48 = .ok (.invokevirtual 241, 3) := by decide +kernel
theorem dX11_apart_51 : decode cX11_apart 51 = .ok (.aload 5, 2) := by decide +kernel
theorem dX11_apart_53 : decode cX11_apart 53 = .ok (.getfield 164, 3) := by decide +kernel
theorem dX11_apart_56 : decode cX11_apart 56 = .ok (.iload 7, 2) := by decide +kernel
theorem dX11_apart_58 : decode cX11_apart 58 = .ok (.iaload, 1) := by decide +kernel
theorem dX11_apart_59 : decode cX11_apart 59 = .ok (.if_icmp .eq 15, 3) := by decide +kernel
theorem dX11_apart_62 : decode cX11_apart 62 = .ok (.aload_n 0, 1) := by decide +kernel
theorem dX11_apart_63 : decode cX11_apart 63 = .ok (.getfield 105, 3) := by decide +kernel
theorem dX11_apart_66 : decode cX11_apart 66 = .ok (.iload 6, 2) := by decide +kernel
theorem dX11_apart_68 : decode cX11_apart 68 = .ok (.iinc 6 1, 3) := by decide +kernel
theorem dX11_apart_71 : decode cX11_apart 71 = .ok (.iload 7, 2) := by decide +kernel
theorem dX11_apart_73 : decode cX11_apart 73 = .ok (.iastore, 1) := by decide +kernel
theorem dX11_apart_74 : decode cX11_apart 74 = .ok (.iinc 7 1, 3) := by decide +kernel
theorem dX11_apart_77 : decode cX11_apart 77 = .ok (.goto (-45), 3) := by decide +kernel
theorem dX11_apart_80 : decode cX11_apart 80 = .ok (.aload_n 0, 1) := by decide +kernel
theorem dX11_apart_81 : decode cX11_apart 81 = .ok (.iload 6, 2) := by decide +kernel
theorem dX11_apart_83 : decode cX11_apart 83 = .ok (.iload_n 3, 1) := by decide +kernel
theorem dX11_apart_84 : decode cX11_apart 84 = .ok (.invokevirtual 204, 3) := by decide +kernel
theorem dX11_apart_87 : decode cX11_apart 87 = .ok (.ireturn, 1) := by decide +kernel
theorem dX11_unlike_0 : decode cX11_unlike 0 = .ok (.aload_n 0, 1) := by decide +kernel
theorem dX11_unlike_1 : decode cX11_unlike 1 = .ok (.iload_n 1, 1) := by decide +kernel
theorem dX11_unlike_2 : decode cX11_unlike 2 = .ok (.invokevirtual 237, 3) := by decide +kernel
theorem dX11_unlike_5 : decode cX11_unlike 5 = .ok (.astore_n 3, 1) := by decide +kernel
theorem dX11_unlike_6 : decode cX11_unlike 6 = .ok (.aload_n 0, 1) := by decide +kernel
theorem dX11_unlike_7 : decode cX11_unlike 7 = .ok (.iload_n 2, 1) := by decide +kernel
theorem dX11_unlike_8 : decode cX11_unlike 8 = .ok (.invokevirtual 237, 3) := by decide +kernel
theorem dX11_unlike_11 : decode cX11_unlike 11 = .ok (.astore 4, 2) := by decide +kernel
theorem dX11_unlike_13 : decode cX11_unlike 13 = .ok (.aload_n 3, 1) := by decide +kernel
theorem dX11_unlike_14 : decode cX11_unlike 14 = .ok (.ifnull 8, 3) := by decide +kernel
theorem dX11_unlike_17 : decode cX11_unlike 17 = .ok (.aload 4, 2) := by decide +kernel
theorem dX11_unlike_19 : decode cX11_unlike 19 = .ok (.ifnonnull 5, 3) := by decide +kernel
theorem dX11_unlike_22 : decode cX11_unlike 22 = .ok (.iconst (-1), 1) := by decide +kernel
theorem dX11_unlike_23 : decode cX11_unlike 23 = .ok (.ireturn, 1) := by decide +kernel
theorem dX11_unlike_24 : decode cX11_unlike 24 = .ok (.iconst 0, 1) := by decide +kernel
theorem dX11_unlike_25 : decode cX11_unlike 25 = .ok (.istore 5, 2) := by decide +kernel
theorem dX11_unlike_27 : decode cX11_unlike 27 = .ok (.iload 5, 2) := by decide +kernel
theorem dX11_unlike_29 : decode cX11_unlike 29 = .ok (.aload_n 0, 1) := by decide +kernel
theorem dX11_unlike_30 : decode cX11_unlike 30 = .ok (.getfield 23, 3) := by decide +kernel
theorem dX11_unlike_33 : decode cX11_unlike 33 = .ok (.getfield 77, 3) := by decide +kernel
theorem dX11_unlike_36 : decode cX11_unlike 36 = .ok (.if_icmp .ge 28, 3) := by decide +kernel
theorem dX11_unlike_39 : decode cX11_unlike 39 = .ok (.aload_n 3, 1) := by decide +kernel
theorem dX11_unlike_40 : decode cX11_unlike 40 = .ok (.iload 5, 2) := by decide +kernel
theorem dX11_unlike_42 : decode cX11_unlike 42 = .ok (.invokevirtual 241, 3) := by decide +kernel
theorem dX11_unlike_45 : decode cX11_unlike 45 = .ok (.aload 4, 2) := by decide +kernel
theorem dX11_unlike_47 : decode cX11_unlike 47 = .ok (.iload 5, 2) := by decide +kernel
theorem dX11_unlike_49 : decode cX11_unlike 49 = .ok (.invokevirtual 241, 3) := by decide +kernel
theorem dX11_unlike_52 : decode cX11_unlike 52 = .ok (.if_icmp .eq 6, 3) := by decide +kernel
theorem dX11_unlike_55 : decode cX11_unlike 55 = .ok (.iload 5, 2) := by decide +kernel
theorem dX11_unlike_57 : decode cX11_unlike 57 = .ok (.ireturn, 1) := by decide +kernel
theorem dX11_unlike_58 : decode cX11_unlike 58 = .ok (.iinc 5 1, 3) := by decide +kernel
theorem dX11_unlike_61 : decode cX11_unlike 61 = .ok (.goto (-34), 3) := by decide +kernel
theorem dX11_unlike_64 : decode cX11_unlike 64 = .ok (.iconst (-1), 1) := by decide +kernel
theorem dX11_unlike_65 : decode cX11_unlike 65 = .ok (.ireturn, 1) := by decide +kernel
theorem dX11_spoiled_0 : decode cX11_spoiled 0 = .ok (.aload_n 0, 1) := by decide +kernel
theorem dX11_spoiled_1 : decode cX11_spoiled 1 = .ok (.iload_n 1, 1) := by decide +kernel
theorem dX11_spoiled_2 : decode cX11_spoiled 2 = .ok (.invokevirtual 237, 3) := by decide +kernel
theorem dX11_spoiled_5 : decode cX11_spoiled 5 = .ok (.astore_n 3, 1) := by decide +kernel
theorem dX11_spoiled_6 : decode cX11_spoiled 6 = .ok (.aload_n 0, 1) := by decide +kernel
theorem dX11_spoiled_7 : decode cX11_spoiled 7 = .ok (.iload_n 2, 1) := by decide +kernel
theorem dX11_spoiled_8 : decode cX11_spoiled 8 = .ok (.invokevirtual 191, 3) := by decide +kernel
theorem dX11_spoiled_11 : decode cX11_spoiled 11 = .ok (.astore 4, 2) := by decide +kernel
theorem dX11_spoiled_13 : decode cX11_spoiled 13 = .ok (.aload_n 3, 1) := by decide +kernel
theorem dX11_spoiled_14 : decode cX11_spoiled 14 = .ok (.ifnull 8, 3) := by decide +kernel
theorem dX11_spoiled_17 : decode cX11_spoiled 17 = .ok (.aload 4, 2) := by decide +kernel
theorem dX11_spoiled_19 : decode cX11_spoiled 19 = .ok (.ifnonnull 5, 3) := by decide +kernel
theorem dX11_spoiled_22 : decode cX11_spoiled 22 = .ok (.iconst (-1), 1) := by decide +kernel
theorem dX11_spoiled_23 : decode cX11_spoiled 23 = .ok (.ireturn, 1) := by decide +kernel
theorem dX11_spoiled_24 : decode cX11_spoiled 24 = .ok (.iconst 0, 1) := by decide +kernel
theorem dX11_spoiled_25 : decode cX11_spoiled 25 = .ok (.istore 5, 2) := by decide +kernel
theorem dX11_spoiled_27 : decode cX11_spoiled 27 = .ok (.iconst 0, 1) := by decide +kernel
theorem dX11_spoiled_28 : decode cX11_spoiled 28 = .ok (.istore 6, 2) := by decide +kernel
theorem dX11_spoiled_30 : decode cX11_spoiled 30 = .ok (.iload 6, 2) := by decide +kernel
theorem dX11_spoiled_32 : decode cX11_spoiled 32 = .ok (.aload_n 0, 1) := by decide +kernel
theorem dX11_spoiled_33 : decode cX11_spoiled 33 = .ok (.getfield 23, 3) := by decide +kernel
theorem dX11_spoiled_36 : decode cX11_spoiled 36 = .ok (.getfield 77, 3) := by decide +kernel
theorem dX11_spoiled_39 : decode cX11_spoiled 39 = .ok (.if_icmp .ge 39, 3) := by decide +kernel
theorem dX11_spoiled_42 : decode cX11_spoiled 42 = .ok (.aload_n 3, 1) := by decide +kernel
theorem dX11_spoiled_43 : decode cX11_spoiled 43 = .ok (.iload 6, 2) := by decide +kernel
theorem dX11_spoiled_45 : decode cX11_spoiled 45 = .ok (.invokevirtual 241, 3) := by decide +kernel
theorem dX11_spoiled_48 : decode cX11_spoiled 48 = .ok (.aload 4, 2) := by decide +kernel
theorem dX11_spoiled_50 : decode cX11_spoiled 50 = .ok (.getfield 164, 3) := by decide +kernel
theorem dX11_spoiled_53 : decode cX11_spoiled 53 = .ok (.iload 6, 2) := by decide +kernel
theorem dX11_spoiled_55 : decode cX11_spoiled 55 = .ok (.iaload, 1) := by decide +kernel
theorem dX11_spoiled_56 : decode cX11_spoiled 56 = .ok (.if_icmp .eq 16, 3) := by decide +kernel
theorem dX11_spoiled_59 : decode cX11_spoiled 59 = .ok (.iload 5, 2) := by decide +kernel
theorem dX11_spoiled_61 : decode cX11_spoiled 61 = .ok (.iconst 1, 1) := by decide +kernel
theorem dX11_spoiled_62 : decode cX11_spoiled 62 = .ok (.aload_n 3, 1) := by decide +kernel
theorem dX11_spoiled_63 : decode cX11_spoiled 63 = .ok (.iload 6, 2) := by decide +kernel
theorem dX11_spoiled_65 : decode cX11_spoiled 65 = .ok (.invokevirtual 244, 3) := by decide +kernel
theorem dX11_spoiled_68 : decode cX11_spoiled 68 = .ok (.ishl, 1) := by decide +kernel
theorem dX11_spoiled_69 : decode cX11_spoiled 69 = .ok (.ior, 1) := by decide +kernel
theorem dX11_spoiled_70 : decode cX11_spoiled 70 = .ok (.istore 5, 2) := by decide +kernel
theorem dX11_spoiled_72 : decode cX11_spoiled 72 = .ok (.iinc 6 1, 3) := by decide +kernel
theorem dX11_spoiled_75 : decode cX11_spoiled 75 = .ok (.goto (-45), 3) := by decide +kernel
theorem dX11_spoiled_78 : decode cX11_spoiled 78 = .ok (.iload 5, 2) := by decide +kernel
theorem dX11_spoiled_80 : decode cX11_spoiled 80 = .ok (.ireturn, 1) := by decide +kernel
theorem dX11_unused_0 : decode cX11_unused 0 = .ok (.aload_n 0, 1) := by decide +kernel
theorem dX11_unused_1 : decode cX11_unused 1 = .ok (.iload_n 1, 1) := by decide +kernel
theorem dX11_unused_2 : decode cX11_unused 2 = .ok (.invokevirtual 237, 3) := by decide +kernel
theorem dX11_unused_5 : decode cX11_unused 5 = .ok (.astore_n 2, 1) := by decide +kernel
theorem dX11_unused_6 : decode cX11_unused 6 = .ok (.aload_n 2, 1) := by decide +kernel
theorem dX11_unused_7 : decode cX11_unused 7 = .ok (.ifnonnull 5, 3) := by decide +kernel
theorem dX11_unused_10 : decode cX11_unused 10 = .ok (.iconst (-1), 1) := by decide +kernel
theorem dX11_unused_11 : decode cX11_unused 11 = .ok (.ireturn, 1) := by decide +kernel
theorem dX11_unused_12 : decode cX11_unused 12 = .ok (.iconst 0, 1) := by decide +kernel
theorem dX11_unused_13 : decode cX11_unused 13 = .ok (.istore_n 3, 1) := by decide +kernel
theorem dX11_unused_14 : decode cX11_unused 14 = .ok (.iconst 0, 1) := by decide +kernel
theorem dX11_unused_15 : decode cX11_unused 15 = .ok (.istore 4, 2) := by decide +kernel
theorem dX11_unused_17 : decode cX11_unused 17 = .ok (.iload 4, 2) := by decide +kernel
theorem dX11_unused_19 : decode cX11_unused 19 = .ok (.aload_n 0, 1) := by decide +kernel
theorem dX11_unused_20 : decode cX11_unused 20 = .ok (.getfield 23, 3) := by decide +kernel
theorem dX11_unused_23 : decode cX11_unused 23 = .ok (.getfield 77, 3) := by decide +kernel
theorem dX11_unused_26 : decode cX11_unused 26 = .ok (.if_icmp .ge 18, 3) := by decide +kernel
theorem dX11_unused_29 : decode cX11_unused 29 = .ok (.iload_n 3, 1) := by decide +kernel
theorem dX11_unused_30 : decode cX11_unused 30 = .ok (.aload_n 2, 1) := by decide +kernel
theorem dX11_unused_31 : decode cX11_unused 31 = .ok (.iload 4, 2) := by decide +kernel
theorem dX11_unused_33 : decode cX11_unused 33 = .ok (.invokevirtual 247, 3) := by decide +kernel
theorem dX11_unused_36 : decode cX11_unused 36 = .ok (.ior, 1) := by decide +kernel
theorem dX11_unused_37 : decode cX11_unused 37 = .ok (.istore_n 3, 1) := by decide +kernel
theorem dX11_unused_38 : decode cX11_unused 38 = .ok (.iinc 4 1, 3) := by decide +kernel
theorem dX11_unused_41 : decode cX11_unused 41 = .ok (.goto (-24), 3) := by decide +kernel
theorem dX11_unused_44 : decode cX11_unused 44 = .ok (.iconst 1, 1) := by decide +kernel
theorem dX11_unused_45 : decode cX11_unused 45 = .ok (.aload_n 2, 1) := by decide +kernel
theorem dX11_unused_46 : decode cX11_unused 46 = .ok (.getfield 250, 3) := by decide +kernel
theorem dX11_unused_49 : decode cX11_unused 49 = .ok (.ishl, 1) := by decide +kernel
theorem dX11_unused_50 : decode cX11_unused 50 = .ok (.iconst 1, 1) := by decide +kernel
theorem dX11_unused_51 : decode cX11_unused 51 = .ok (.isub, 1) := by decide +kernel
theorem dX11_unused_52 : decode cX11_unused 52 = .ok (.iload_n 3, 1) := by decide +kernel
theorem dX11_unused_53 : decode cX11_unused 53 = .ok (.iconst (-1), 1) := by decide +kernel
theorem dX11_unused_54 : decode cX11_unused 54 = .ok (.ixor, 1) := by decide +kernel
theorem dX11_unused_55 : decode cX11_unused 55 = .ok (.iand, 1) := by decide +kernel
theorem dX11_unused_56 : decode cX11_unused 56 = .ok (.ireturn, 1) := by decide +kernel
theorem dX11_set_0 : decode cX11_set 0 = .ok (.aload_n 0, 1) := by decide +kernel
theorem dX11_set_1 : decode cX11_set 1 = .ok (.getfield 71, 3) := by decide +kernel
theorem dX11_set_4 : decode cX11_set 4 = .ok (.iconst 1, 1) := by decide +kernel
theorem dX11_set_5 : decode cX11_set 5 = .ok (.putfield 253, 3) := by decide +kernel
theorem dX11_set_8 : decode cX11_set 8 = .ok (.iload_n 1, 1) := by decide +kernel
theorem dX11_set_9 : decode cX11_set 9 = .ok (.iconst 1, 1) := by decide +kernel
theorem dX11_set_10 : decode cX11_set 10 = .ok (.if_icmp .ne 15, 3) := by decide +kernel
theorem dX11_set_13 : decode cX11_set 13 = .ok (.aload_n 0, 1) := by decide +kernel
theorem dX11_set_14 : decode cX11_set 14 = .ok (.getfield 82, 3) := by decide +kernel
theorem dX11_set_17 : decode cX11_set 17 = .ok (.iload_n 2, 1) := by decide +kernel
theorem dX11_set_18 : decode cX11_set 18 = .ok (.iload_n 3, 1) := by decide +kernel
theorem dX11_set_19 : decode cX11_set 19 = .ok (.invokevirtual 257, 3) := by decide +kernel
theorem dX11_set_22 : decode cX11_set 22 = .ok (.goto 13, 3) := by decide +kernel
theorem dX11_set_25 : decode cX11_set 25 = .ok (.aload_n 0, 1) := by decide +kernel
theorem dX11_set_26 : decode cX11_set 26 = .ok (.getfield 55, 3) := by decide +kernel
theorem dX11_set_29 : decode cX11_set 29 = .ok (.iload_n 1, 1) := by decide +kernel
theorem dX11_set_30 : decode cX11_set 30 = .ok (.iload_n 2, 1) := by decide +kernel
theorem dX11_set_31 : decode cX11_set 31 = .ok (.iload_n 3, 1) := by decide +kernel
theorem dX11_set_32 : decode cX11_set 32 = .ok (.invokevirtual 260, 3) := by decide +kernel
theorem dX11_set_35 : decode cX11_set 35 = .ok (.ireturn, 1) := by decide +kernel
theorem dX11_sort_0 : decode cX11_sort 0 = .ok (.aload_n 0, 1) := by decide +kernel
theorem dX11_sort_1 : decode cX11_sort 1 = .ok (.getfield 71, 3) := by decide +kernel
theorem dX11_sort_4 : decode cX11_sort 4 = .ok (.iconst 1, 1) := by decide +kernel
theorem dX11_sort_5 : decode cX11_sort 5 = .ok (.putfield 253, 3) := by decide +kernel
theorem dX11_sort_8 : decode cX11_sort 8 = .ok (.aload_n 0, 1) := by decide +kernel
theorem dX11_sort_9 : decode cX11_sort 9 = .ok (.getfield 62, 3) := by decide +kernel
theorem dX11_sort_12 : decode cX11_sort 12 = .ok (.iload_n 1, 1) := by decide +kernel
theorem dX11_sort_13 : decode cX11_sort 13 = .ok (.invokevirtual 264, 3) := by decide +kernel
theorem dX11_sort_16 : decode cX11_sort 16 = .ok (.ireturn, 1) := by decide +kernel
theorem dX11_chance_0 : decode cX11_chance 0 = .ok (.aload_n 0, 1) := by decide +kernel
theorem dX11_chance_1 : decode cX11_chance 1 = .ok (.getfield 71, 3) := by decide +kernel
theorem dX11_chance_4 : decode cX11_chance 4 = .ok (.iconst 1, 1) := by decide +kernel
theorem dX11_chance_5 : decode cX11_chance 5 = .ok (.putfield 253, 3) := by decide +kernel
theorem dX11_chance_8 : decode cX11_chance 8 = .ok (.aload_n 0, 1) := by decide +kernel
theorem dX11_chance_9 : decode cX11_chance 9 = .ok (.getfield 62, 3) := by decide +kernel
theorem dX11_chance_12 : decode cX11_chance 12 = .ok (.iload_n 1, 1) := by decide +kernel
theorem dX11_chance_13 : decode cX11_chance 13 = .ok (.iload_n 2, 1) := by decide +kernel
theorem dX11_chance_14 : decode cX11_chance 14 = .ok (.iload_n 3, 1) := by decide +kernel
theorem dX11_chance_15 : decode cX11_chance 15 = .ok (.invokevirtual 266, 3) := by decide +kernel
theorem dX11_chance_18 : decode cX11_chance 18 = .ok (.ireturn, 1) := by decide +kernel
theorem dX11_share_0 : decode cX11_share 0 = .ok (.aload_n 0, 1) := by decide +kernel
theorem dX11_share_1 : decode cX11_share 1 = .ok (.getfield 23, 3) := by decide +kernel
theorem dX11_share_4 : decode cX11_share 4 = .ok (.iload_n 1, 1) := by decide +kernel
theorem dX11_share_5 : decode cX11_share 5 = .ok (.iload_n 2, 1) := by decide +kernel
theorem dX11_share_6 : decode cX11_share 6 = .ok (.invokevirtual 207, 3) := by decide +kernel
theorem dX11_share_9 : decode cX11_share 9 = .ok (.ifCond .eq 15, 3) := by decide +kernel
theorem dX11_share_12 : decode cX11_share 12 = .ok (.aload_n 0, 1) := by decide +kernel
theorem dX11_share_13 : decode cX11_share 13 = .ok (.getfield 62, 3) := by decide +kernel
theorem dX11_share_16 : decode cX11_share 16 = .ok (.iload_n 1, 1) := by decide +kernel
theorem dX11_share_17 : decode cX11_share 17 = .ok (.iload_n 2, 1) := by decide +kernel
theorem dX11_share_18 : decode cX11_share 18 = .ok (.invokevirtual 269, 3) := by decide +kernel
theorem dX11_share_21 : decode cX11_share 21 = .ok (.goto 6, 3) := by decide +kernel
theorem dX11_share_24 : decode cX11_share 24 = .ok (.ldc2_w 273, 3) := by decide +kernel
theorem dX11_share_27 : decode cX11_share 27 = .ok (.lreturn, 1) := by decide +kernel
theorem dX11_person_0 : decode cX11_person 0 = .ok (.aload_n 0, 1) := by decide +kernel
theorem dX11_person_1 : decode cX11_person 1 = .ok (.getfield 62, 3) := by decide +kernel
theorem dX11_person_4 : decode cX11_person 4 = .ok (.getfield 275, 3) := by decide +kernel
theorem dX11_person_7 : decode cX11_person 7 = .ok (.ifCond .eq 12, 3) := by decide +kernel
theorem dX11_person_10 : decode cX11_person 10 = .ok (.iload_n 3, 1) := by decide +kernel
theorem dX11_person_11 : decode cX11_person 11 = .ok (.ifCond .lt 8, 3) := by decide +kernel
theorem dX11_person_14 : decode cX11_person 14 = .ok (.iload_n 3, 1) := by decide +kernel
theorem dX11_person_15 : decode cX11_person 15 = .ok (.iconst 1, 1) := by decide +kernel
theorem dX11_person_16 : decode cX11_person 16 = .ok (.if_icmp .le 5, 3) := by decide +kernel
theorem dX11_person_19 : decode cX11_person 19 = .ok (.iconst (-1), 1) := by decide +kernel
theorem dX11_person_20 : decode cX11_person 20 = .ok (.ireturn, 1) := by decide +kernel
theorem dX11_person_21 : decode cX11_person 21 = .ok (.aload_n 0, 1) := by decide +kernel
theorem dX11_person_22 : decode cX11_person 22 = .ok (.getfield 62, 3) := by decide +kernel
theorem dX11_person_25 : decode cX11_person 25 = .ok (.lload_n 1, 1) := by decide +kernel
theorem dX11_person_26 : decode cX11_person 26 = .ok (.iload_n 3, 1) := by decide +kernel
theorem dX11_person_27 : decode cX11_person 27 = .ok (.ifCond .ne 7, 3) := by decide +kernel
theorem dX11_person_30 : decode cX11_person 30 = .ok (.iconst 1, 1) := by decide +kernel
theorem dX11_person_31 : decode cX11_person 31 = .ok (.goto 4, 3) := by decide +kernel
theorem dX11_person_34 : decode cX11_person 34 = .ok (.iconst 0, 1) := by decide +kernel
theorem dX11_person_35 : decode cX11_person 35 = .ok (.invokevirtual 278, 3) := by decide +kernel
theorem dX11_person_38 : decode cX11_person 38 = .ok (.ireturn, 1) := by decide +kernel
theorem dX11_likely_0 : decode cX11_likely 0 = .ok (.aload_n 0, 1) := by decide +kernel
theorem dX11_likely_1 : decode cX11_likely 1 = .ok (.iload_n 1, 1) := by decide +kernel
theorem dX11_likely_2 : decode cX11_likely 2 = .ok (.invokevirtual 191, 3) := by decide +kernel
theorem dX11_likely_5 : decode cX11_likely 5 = .ok (.astore 4, 2) := by decide +kernel
theorem dX11_likely_7 : decode cX11_likely 7 = .ok (.aload 4, 2) := by decide +kernel
theorem dX11_likely_9 : decode cX11_likely 9 = .ok (.ifnull 26, 3) := by decide +kernel
theorem dX11_likely_12 : decode cX11_likely 12 = .ok (.iload_n 2, 1) := by decide +kernel
theorem dX11_likely_13 : decode cX11_likely 13 = .ok (.invokestatic 282, 3) := by decide +kernel
theorem dX11_likely_16 : decode cX11_likely 16 = .ok (.ifCond .eq 19, 3) := by decide +kernel
theorem dX11_likely_19 : decode cX11_likely 19 = .ok (.iload_n 3, 1) := by decide +kernel
theorem dX11_likely_20 : decode cX11_likely 20 = .ok (.iconst (-1), 1) := by decide +kernel
theorem dX11_likely_21 : decode cX11_likely 21 = .ok (.if_icmp .lt 14, 3) := by decide +kernel
theorem dX11_likely_24 : decode cX11_likely 24 = .ok (.iload_n 3, 1) := by decide +kernel
theorem dX11_likely_25 : decode cX11_likely 25 = .ok (.aload_n 0, 1) := by decide +kernel
theorem dX11_likely_26 : decode cX11_likely 26 = .ok (.getfield 62, 3) := by decide +kernel
theorem dX11_likely_29 : decode cX11_likely 29 = .ok (.getfield 275, 3) := by decide +kernel
theorem dX11_likely_32 : decode cX11_likely 32 = .ok (.if_icmp .lt 7, 3) := by decide +kernel
theorem dX11_likely_35 : decode cX11_likely 35 = .ok (.ldc2_w 273, 3) := by decide +kernel
theorem dX11_likely_38 : decode cX11_likely 38 = .ok (.lreturn, 1) := by decide +kernel
theorem dX11_likely_39 : decode cX11_likely 39 = .ok (.lconst 0, 1) := by decide +kernel
theorem dX11_likely_40 : decode cX11_likely 40 = .ok (.lstore 5, 2) := by decide +kernel
theorem dX11_likely_42 : decode cX11_likely 42 = .ok (.iconst 0, 1) := by decide +kernel
theorem dX11_likely_43 : decode cX11_likely 43 = .ok (.istore 7, 2) := by decide +kernel
theorem dX11_likely_45 : decode cX11_likely 45 = .ok (.iload 7, 2) := by decide +kernel
theorem dX11_likely_47 : decode cX11_likely 47 = .ok (.aload_n 0, 1) := by decide +kernel
theorem dX11_likely_48 : decode cX11_likely 48 = .ok (.getfield 23, 3) := by decide +kernel
theorem dX11_likely_51 : decode cX11_likely 51 = .ok (.getfield 77, 3) := by decide +kernel
theorem dX11_likely_54 : decode cX11_likely 54 = .ok (.if_icmp .ge 67, 3) := by decide +kernel
theorem dX11_likely_57 : decode cX11_likely 57 = .ok (.aload 4, 2) := by decide +kernel
theorem dX11_likely_59 : decode cX11_likely 59 = .ok (.getfield 164, 3) := by decide +kernel
theorem dX11_likely_62 : decode cX11_likely 62 = .ok (.iload 7, 2) := by decide +kernel
theorem dX11_likely_64 : decode cX11_likely 64 = .ok (.iaload, 1) := by decide +kernel
theorem dX11_likely_65 : decode cX11_likely 65 = .ok (.iload_n 2, 1) := by decide +kernel
theorem dX11_likely_66 : decode cX11_likely 66 = .ok (.if_icmp .ne 49, 3) := by decide +kernel
theorem dX11_likely_69 : decode cX11_likely 69 = .ok (.lload 5, 2) := by decide +kernel
theorem dX11_likely_71 : decode cX11_likely 71 = .ok (.iload_n 3, 1) := by decide +kernel
theorem dX11_likely_72 : decode cX11_likely 72 = .ok (.iconst (-1), 1) := by decide +kernel
theorem dX11_likely_73 : decode cX11_likely 73 = .ok (.if_icmp .ne 22, 3) := by decide +kernel
theorem dX11_likely_76 : decode cX11_likely 76 = .ok (.aload_n 0, 1) := by decide +kernel
theorem dX11_likely_77 : decode cX11_likely 77 = .ok (.getfield 62, 3) := by decide +kernel
theorem dX11_likely_80 : decode cX11_likely 80 = .ok (.aload_n 0, 1) := by decide +kernel
theorem dX11_likely_81 : decode cX11_likely 81 = .ok (.getfield 23, 3) := by decide +kernel
theorem dX11_likely_84 : decode cX11_likely 84 = .ok (.getfield 217, 3) := by decide +kernel
theorem dX11_likely_87 : decode cX11_likely 87 = .ok (.iload 7, 2) := by decide +kernel
theorem dX11_likely_89 : decode cX11_likely 89 = .ok (.invokevirtual 269, 3) := by decide +kernel
theorem dX11_likely_92 : decode cX11_likely 92 = .ok (.goto 20, 3) := by decide +kernel
theorem dX11_likely_95 : decode cX11_likely 95 = .ok (.aload_n 0, 1) := by decide +kernel
theorem dX11_likely_96 : decode cX11_likely 96 = .ok (.getfield 62, 3) := by decide +kernel
theorem dX11_likely_99 : decode cX11_likely 99 = .ok (.iload_n 3, 1) := by decide +kernel
theorem dX11_likely_100 : decode cX11_likely 100 = .ok (.aload_n 0, 1) := by decide +kernel
theorem dX11_likely_101 : decode cX11_likely 101 = .ok (.getfield 23, 3) := by decide +kernel
theorem dX11_likely_104 : decode cX11_likely 104 = .ok (.getfield 217, 3) := by decide +kernel
theorem dX11_likely_107 : decode cX11_likely 107 = .ok (.iload 7, 2) := by decide +kernel
theorem dX11_likely_109 : decode cX11_likely 109 = .ok (.invokevirtual 285, 3) := by decide +kernel
theorem dX11_likely_112 : decode cX11_likely 112 = .ok (.ladd, 1) := by decide +kernel
theorem dX11_likely_113 : decode cX11_likely 113 = .ok (.lstore 5, 2) := by decide +kernel
theorem dX11_likely_115 : decode cX11_likely 115 = .ok (.iinc 7 1, 3) := by decide +kernel
theorem dX11_likely_118 : decode cX11_likely 118 = .ok (.goto (-73), 3) := by decide +kernel
theorem dX11_likely_121 : decode cX11_likely 121 = .ok (.lload 5, 2) := by decide +kernel
theorem dX11_likely_123 : decode cX11_likely 123 = .ok (.lreturn, 1) := by decide +kernel
theorem dX11_isOutcome_0 : decode cX11_isOutcome 0 = .ok (.iload_n 0, 1) := by decide +kernel
theorem dX11_isOutcome_1 : decode cX11_isOutcome 1 = .ok (.iconst (-1), 1) := by decide +kernel
theorem dX11_isOutcome_2 : decode cX11_isOutcome 2 = .ok (.if_icmp .lt 12, 3) := by decide +kernel
theorem dX11_isOutcome_5 : decode cX11_isOutcome 5 = .ok (.iload_n 0, 1) := by decide +kernel
theorem dX11_isOutcome_6 : decode cX11_isOutcome 6 = .ok (.iconst 5, 1) := by decide +kernel
theorem dX11_isOutcome_7 : decode cX11_isOutcome 7 = .ok (.if_icmp .gt 7, 3) := by decide +kernel
theorem dX11_isOutcome_10 : decode cX11_isOutcome 10 = .ok (.iconst 1, 1) := by decide +kernel
theorem dX11_isOutcome_11 : decode cX11_isOutcome 11 = .ok (.goto 4, 3) := by decide +kernel
theorem dX11_isOutcome_14 : decode cX11_isOutcome 14 = .ok (.iconst 0, 1) := by decide +kernel
theorem dX11_isOutcome_15 : decode cX11_isOutcome 15 = .ok (.ireturn, 1) := by decide +kernel
theorem dX11_mean_0 : decode cX11_mean 0 = .ok (.aload_n 0, 1) := by decide +kernel
theorem dX11_mean_1 : decode cX11_mean 1 = .ok (.iload_n 1, 1) := by decide +kernel
theorem dX11_mean_2 : decode cX11_mean 2 = .ok (.iload_n 2, 1) := by decide +kernel
theorem dX11_mean_3 : decode cX11_mean 3 = .ok (.iload_n 3, 1) := by decide +kernel
theorem dX11_mean_4 : decode cX11_mean 4 = .ok (.iload 4, 2) := by decide +kernel
theorem dX11_mean_6 : decode cX11_mean 6 = .ok (.invokevirtual 289, 3) := by decide +kernel
theorem dX11_mean_9 : decode cX11_mean 9 = .ok (.ifCond .eq 24, 3) := by decide +kernel
theorem dX11_mean_12 : decode cX11_mean 12 = .ok (.aload_n 0, 1) := by decide +kernel
theorem dX11_mean_13 : decode cX11_mean 13 = .ok (.getfield 71, 3) := by decide +kernel
theorem dX11_mean_16 : decode cX11_mean 16 = .ok (.getfield 293, 3) := by decide +kernel
theorem dX11_mean_19 : decode cX11_mean 19 = .ok (.aload_n 0, 1) := by decide +kernel
theorem dX11_mean_20 : decode cX11_mean 20 = .ok (.getfield 23, 3) := by decide +kernel
theorem dX11_mean_23 : decode cX11_mean 23 = .ok (.iload_n 3, 1) := by decide +kernel
theorem dX11_mean_24 : decode cX11_mean 24 = .ok (.iload 4, 2) := by decide +kernel
theorem dX11_mean_26 : decode cX11_mean 26 = .ok (.invokevirtual 211, 3) := by decide +kernel
theorem dX11_mean_29 : decode cX11_mean 29 = .ok (.laload, 1) := by decide +kernel
theorem dX11_mean_30 : decode cX11_mean 30 = .ok (.goto 6, 3) := by decide +kernel
theorem dX11_mean_33 : decode cX11_mean 33 = .ok (.ldc2_w 273, 3) := by decide +kernel
theorem dX11_mean_36 : decode cX11_mean 36 = .ok (.lreturn, 1) := by decide +kernel
theorem dX11_worst_0 : decode cX11_worst 0 = .ok (.aload_n 0, 1) := by decide +kernel
theorem dX11_worst_1 : decode cX11_worst 1 = .ok (.iload_n 1, 1) := by decide +kernel
theorem dX11_worst_2 : decode cX11_worst 2 = .ok (.iload_n 2, 1) := by decide +kernel
theorem dX11_worst_3 : decode cX11_worst 3 = .ok (.iload_n 3, 1) := by decide +kernel
theorem dX11_worst_4 : decode cX11_worst 4 = .ok (.iload 4, 2) := by decide +kernel
theorem dX11_worst_6 : decode cX11_worst 6 = .ok (.invokevirtual 289, 3) := by decide +kernel
theorem dX11_worst_9 : decode cX11_worst 9 = .ok (.ifCond .eq 24, 3) := by decide +kernel
theorem dX11_worst_12 : decode cX11_worst 12 = .ok (.aload_n 0, 1) := by decide +kernel
theorem dX11_worst_13 : decode cX11_worst 13 = .ok (.getfield 71, 3) := by decide +kernel
theorem dX11_worst_16 : decode cX11_worst 16 = .ok (.getfield 296, 3) := by decide +kernel
theorem dX11_worst_19 : decode cX11_worst 19 = .ok (.aload_n 0, 1) := by decide +kernel
theorem dX11_worst_20 : decode cX11_worst 20 = .ok (.getfield 23, 3) := by decide +kernel
theorem dX11_worst_23 : decode cX11_worst 23 = .ok (.iload_n 3, 1) := by decide +kernel
theorem dX11_worst_24 : decode cX11_worst 24 = .ok (.iload 4, 2) := by decide +kernel
theorem dX11_worst_26 : decode cX11_worst 26 = .ok (.invokevirtual 211, 3) := by decide +kernel
theorem dX11_worst_29 : decode cX11_worst 29 = .ok (.iaload, 1) := by decide +kernel
theorem dX11_worst_30 : decode cX11_worst 30 = .ok (.goto 4, 3) := by decide +kernel
theorem dX11_worst_33 : decode cX11_worst 33 = .ok (.iconst (-1), 1) := by decide +kernel
theorem dX11_worst_34 : decode cX11_worst 34 = .ok (.ireturn, 1) := by decide +kernel
theorem dX11_best_0 : decode cX11_best 0 = .ok (.iload 5, 2) := by decide +kernel
theorem dX11_best_2 : decode cX11_best 2 = .ok (.ifCond .lt 21, 3) := by decide +kernel
theorem dX11_best_5 : decode cX11_best 5 = .ok (.iload 5, 2) := by decide +kernel
theorem dX11_best_7 : decode cX11_best 7 = .ok (.iconst 1, 1) := by decide +kernel
theorem dX11_best_8 : decode cX11_best 8 = .ok (.if_icmp .gt 15, 3) := by decide +kernel
theorem dX11_best_11 : decode cX11_best 11 = .ok (.aload_n 0, 1) := by decide +kernel
theorem dX11_best_12 : decode cX11_best 12 = .ok (.iload_n 1, 1) := by decide +kernel
theorem dX11_best_13 : decode cX11_best 13 = .ok (.iload_n 2, 1) := by decide +kernel
theorem dX11_best_14 : decode cX11_best 14 = .ok (.iload_n 3, 1) := by decide +kernel
theorem dX11_best_15 : decode cX11_best 15 = .ok (.iload 4, 2) := by decide +kernel
theorem dX11_best_17 : decode cX11_best 17 = .ok (.invokevirtual 289, 3) := by decide +kernel
theorem dX11_best_20 : decode cX11_best 20 = .ok (.ifCond .ne 5, 3) := by decide +kernel
theorem dX11_best_23 : decode cX11_best 23 = .ok (.iconst (-1), 1) := by decide +kernel
theorem dX11_best_24 : decode cX11_best 24 = .ok (.ireturn, 1) := by decide +kernel
theorem dX11_best_25 : decode cX11_best 25 = .ok (.aload_n 0, 1) := by decide +kernel
theorem dX11_best_26 : decode cX11_best 26 = .ok (.getfield 71, 3) := by decide +kernel
theorem dX11_best_29 : decode cX11_best 29 = .ok (.aload_n 0, 1) := by decide +kernel
theorem dX11_best_30 : decode cX11_best 30 = .ok (.getfield 23, 3) := by decide +kernel
theorem dX11_best_33 : decode cX11_best 33 = .ok (.iload_n 3, 1) := by decide +kernel
theorem dX11_best_34 : decode cX11_best 34 = .ok (.iload 4, 2) := by decide +kernel
theorem dX11_best_36 : decode cX11_best 36 = .ok (.invokevirtual 211, 3) := by decide +kernel
theorem dX11_best_39 : decode cX11_best 39 = .ok (.aload_n 0, 1) := by decide +kernel
theorem dX11_best_40 : decode cX11_best 40 = .ok (.getfield 23, 3) := by decide +kernel
theorem dX11_best_43 : decode cX11_best 43 = .ok (.getfield 217, 3) := by decide +kernel
theorem dX11_best_46 : decode cX11_best 46 = .ok (.iload_n 3, 1) := by decide +kernel
theorem dX11_best_47 : decode cX11_best 47 = .ok (.iconst (-1), 1) := by decide +kernel
theorem dX11_best_48 : decode cX11_best 48 = .ok (.ixor, 1) := by decide +kernel
theorem dX11_best_49 : decode cX11_best 49 = .ok (.iand, 1) := by decide +kernel
theorem dX11_best_50 : decode cX11_best 50 = .ok (.iload 5, 2) := by decide +kernel
theorem dX11_best_52 : decode cX11_best 52 = .ok (.ifCond .ne 7, 3) := by decide +kernel
theorem dX11_best_55 : decode cX11_best 55 = .ok (.iconst 1, 1) := by decide +kernel
theorem dX11_best_56 : decode cX11_best 56 = .ok (.goto 4, 3) := by decide +kernel
theorem dX11_best_59 : decode cX11_best 59 = .ok (.iconst 0, 1) := by decide +kernel
theorem dX11_best_60 : decode cX11_best 60 = .ok (.invokevirtual 299, 3) := by decide +kernel
theorem dX11_best_63 : decode cX11_best 63 = .ok (.ireturn, 1) := by decide +kernel
theorem dX11_isReady_0 : decode cX11_isReady 0 = .ok (.aload_n 0, 1) := by decide +kernel
theorem dX11_isReady_1 : decode cX11_isReady 1 = .ok (.iload_n 1, 1) := by decide +kernel
theorem dX11_isReady_2 : decode cX11_isReady 2 = .ok (.invokevirtual 191, 3) := by decide +kernel
theorem dX11_isReady_5 : decode cX11_isReady 5 = .ok (.astore 5, 2) := by decide +kernel
theorem dX11_isReady_7 : decode cX11_isReady 7 = .ok (.aload_n 0, 1) := by decide +kernel
theorem dX11_isReady_8 : decode cX11_isReady 8 = .ok (.iload_n 2, 1) := by decide +kernel
theorem dX11_isReady_9 : decode cX11_isReady 9 = .ok (.invokevirtual 191, 3) := by decide +kernel
theorem dX11_isReady_12 : decode cX11_isReady 12 = .ok (.astore 6, 2) := by decide +kernel
theorem dX11_isReady_14 : decode cX11_isReady 14 = .ok (.aload 5, 2) := by decide +kernel
theorem dX11_isReady_16 : decode cX11_isReady 16 = .ok (.ifnull 26, 3) := by decide +kernel
theorem dX11_isReady_19 : decode cX11_isReady 19 = .ok (.aload 6, 2) := by decide +kernel
theorem dX11_isReady_21 : decode cX11_isReady 21 = .ok (.ifnonnull 8, 3) := by decide +kernel
theorem dX11_isReady_24 : decode cX11_isReady 24 = .ok (.iload_n 2, 1) := by decide +kernel
theorem dX11_isReady_25 : decode cX11_isReady 25 = .ok (.iconst (-1), 1) := by decide +kernel
theorem dX11_isReady_26 : decode cX11_isReady 26 = .ok (.if_icmp .ne 16, 3) := by decide +kernel
theorem dX11_isReady_29 : decode cX11_isReady 29 = .ok (.aload_n 0, 1) := by decide +kernel
theorem dX11_isReady_30 : decode cX11_isReady 30 = .ok (.getfield 23, 3) := by decide +kernel
theorem dX11_isReady_33 : decode cX11_isReady 33 = .ok (.iload_n 3, 1) := by decide +kernel
theorem dX11_isReady_34 : decode cX11_isReady 34 = .ok (.iload 4, 2) := by decide +kernel
theorem dX11_isReady_36 : decode cX11_isReady 36 = .ok (.invokevirtual 207, 3) := by decide +kernel
theorem dX11_isReady_39 : decode cX11_isReady 39 = .ok (.ifCond .ne 5, 3) := by decide +kernel
theorem dX11_isReady_42 : decode cX11_isReady 42 = .ok (.iconst 0, 1) := by decide +kernel
theorem dX11_isReady_43 : decode cX11_isReady 43 = .ok (.ireturn, 1) := by decide +kernel
theorem dX11_isReady_44 : decode cX11_isReady 44 = .ok (.aload_n 0, 1) := by decide +kernel
theorem dX11_isReady_45 : decode cX11_isReady 45 = .ok (.getfield 71, 3) := by decide +kernel
theorem dX11_isReady_48 : decode cX11_isReady 48 = .ok (.aload 5, 2) := by decide +kernel
theorem dX11_isReady_50 : decode cX11_isReady 50 = .ok (.aload 6, 2) := by decide +kernel
theorem dX11_isReady_52 : decode cX11_isReady 52 = .ok (.iload_n 3, 1) := by decide +kernel
theorem dX11_isReady_53 : decode cX11_isReady 53 = .ok (.iload 4, 2) := by decide +kernel
theorem dX11_isReady_55 : decode cX11_isReady 55 = .ok (.invokevirtual 303, 3) := by decide +kernel
theorem dX11_isReady_58 : decode cX11_isReady 58 = .ok (.iconst 1, 1) := by decide +kernel
theorem dX11_isReady_59 : decode cX11_isReady 59 = .ok (.ireturn, 1) := by decide +kernel
theorem dX11_cost_0 : decode cX11_cost 0 = .ok (.aload_n 0, 1) := by decide +kernel
theorem dX11_cost_1 : decode cX11_cost 1 = .ok (.iload_n 1, 1) := by decide +kernel
theorem dX11_cost_2 : decode cX11_cost 2 = .ok (.invokevirtual 237, 3) := by decide +kernel
theorem dX11_cost_5 : decode cX11_cost 5 = .ok (.astore_n 2, 1) := by decide +kernel
theorem dX11_cost_6 : decode cX11_cost 6 = .ok (.aload_n 2, 1) := by decide +kernel
theorem dX11_cost_7 : decode cX11_cost 7 = .ok (.ifnonnull 7, 3) := by decide +kernel
theorem dX11_cost_10 : decode cX11_cost 10 = .ok (.ldc2_w 273, 3) := by decide +kernel
theorem dX11_cost_13 : decode cX11_cost 13 = .ok (.lreturn, 1) := by decide +kernel
theorem dX11_cost_14 : decode cX11_cost 14 = .ok (.lconst 0, 1) := by decide +kernel
theorem dX11_cost_15 : decode cX11_cost 15 = .ok (.lstore_n 3, 1) := by decide +kernel
theorem dX11_cost_16 : decode cX11_cost 16 = .ok (.iconst 0, 1) := by decide +kernel
theorem dX11_cost_17 : decode cX11_cost 17 = .ok (.istore 5, 2) := by decide +kernel
theorem dX11_cost_19 : decode cX11_cost 19 = .ok (.iload 5, 2) := by decide +kernel
theorem dX11_cost_21 : decode cX11_cost 21 = .ok (.aload_n 0, 1) := by decide +kernel
theorem dX11_cost_22 : decode cX11_cost 22 = .ok (.getfield 23, 3) := by decide +kernel
theorem dX11_cost_25 : decode cX11_cost 25 = .ok (.getfield 77, 3) := by decide +kernel
theorem dX11_cost_28 : decode cX11_cost 28 = .ok (.if_icmp .ge 37, 3) := by decide +kernel
theorem dX11_cost_31 : decode cX11_cost 31 = .ok (.lload_n 3, 1) := by decide +kernel
theorem dX11_cost_32 : decode cX11_cost 32 = .ok (.aload_n 0, 1) := by decide +kernel
theorem dX11_cost_33 : decode cX11_cost 33 = .ok (.getfield 62, 3) := by decide +kernel
theorem dX11_cost_36 : decode cX11_cost 36 = .ok (.aload_n 0, 1) := by decide +kernel
theorem dX11_cost_37 : decode cX11_cost 37 = .ok (.getfield 23, 3) := by decide +kernel
theorem dX11_cost_40 : decode cX11_cost 40 = .ok (.getfield 217, 3) := by decide +kernel
theorem dX11_cost_43 : decode cX11_cost 43 = .ok (.iload 5, 2) := by decide +kernel
theorem dX11_cost_45 : decode cX11_cost 45 = .ok (.invokevirtual 269, 3) := by decide +kernel
theorem dX11_cost_48 : decode cX11_cost 48 = .ok (.aload_n 0, 1) := by decide +kernel
theorem dX11_cost_49 : decode cX11_cost 49 = .ok (.aload_n 2, 1) := by decide +kernel
theorem dX11_cost_50 : decode cX11_cost 50 = .ok (.iload 5, 2) := by decide +kernel
theorem dX11_cost_52 : decode cX11_cost 52 = .ok (.invokevirtual 307, 3) := by decide +kernel
theorem dX11_cost_55 : decode cX11_cost 55 = .ok (.i2l, 1) := by decide +kernel
theorem dX11_cost_56 : decode cX11_cost 56 = .ok (.lmul, 1) := by decide +kernel
theorem dX11_cost_57 : decode cX11_cost 57 = .ok (.ladd, 1) := by decide +kernel
theorem dX11_cost_58 : decode cX11_cost 58 = .ok (.lstore_n 3, 1) := by decide +kernel
theorem dX11_cost_59 : decode cX11_cost 59 = .ok (.iinc 5 1, 3) := by decide +kernel
theorem dX11_cost_62 : decode cX11_cost 62 = .ok (.goto (-43), 3) := by decide +kernel
theorem dX11_cost_65 : decode cX11_cost 65 = .ok (.lload_n 3, 1) := by decide +kernel
theorem dX11_cost_66 : decode cX11_cost 66 = .ok (.lreturn, 1) := by decide +kernel
theorem dX11_longest_0 : decode cX11_longest 0 = .ok (.aload_n 0, 1) := by decide +kernel
theorem dX11_longest_1 : decode cX11_longest 1 = .ok (.iload_n 1, 1) := by decide +kernel
theorem dX11_longest_2 : decode cX11_longest 2 = .ok (.invokevirtual 237, 3) := by decide +kernel
theorem dX11_longest_5 : decode cX11_longest 5 = .ok (.astore_n 2, 1) := by decide +kernel
theorem dX11_longest_6 : decode cX11_longest 6 = .ok (.aload_n 2, 1) := by decide +kernel
theorem dX11_longest_7 : decode cX11_longest 7 = .ok (.ifnonnull 5, 3) := by decide +kernel
theorem dX11_longest_10 : decode cX11_longest 10 = .ok (.iconst (-1), 1) := by decide +kernel
theorem dX11_longest_11 : decode cX11_longest 11 = .ok (.ireturn, 1) := by decide +kernel
theorem dX11_longest_12 : decode cX11_longest 12 = .ok (.iconst 0, 1) := by decide +kernel
theorem dX11_longest_13 : decode cX11_longest 13 = .ok (.istore_n 3, 1) := by decide +kernel
theorem dX11_longest_14 : decode cX11_longest 14 = .ok (.iconst 0, 1) := by decide +kernel
theorem dX11_longest_15 : decode cX11_longest 15 = .ok (.istore 4, 2) := by decide +kernel
theorem dX11_longest_17 : decode cX11_longest 17 = .ok (.iload 4, 2) := by decide +kernel
theorem dX11_longest_19 : decode cX11_longest 19 = .ok (.aload_n 0, 1) := by decide +kernel
theorem dX11_longest_20 : decode cX11_longest 20 = .ok (.getfield 23, 3) := by decide +kernel
theorem dX11_longest_23 : decode cX11_longest 23 = .ok (.getfield 77, 3) := by decide +kernel
theorem dX11_longest_26 : decode cX11_longest 26 = .ok (.if_icmp .ge 21, 3) := by decide +kernel
theorem dX11_longest_29 : decode cX11_longest 29 = .ok (.iload_n 3, 1) := by decide +kernel
theorem dX11_longest_30 : decode cX11_longest 30 = .ok (.aload_n 0, 1) := by decide +kernel
theorem dX11_longest_31 : decode cX11_longest 31 = .ok (.aload_n 2, 1) := by decide +kernel
theorem dX11_longest_32 : decode cX11_longest 32 = .ok (.iload 4, 2) := by decide +kernel
theorem dX11_longest_34 : decode cX11_longest 34 = .ok (.invokevirtual 307, 3) := by decide +kernel
theorem dX11_longest_37 : decode cX11_longest 37 = .ok (.invokestatic 15, 3) := by decide +kernel
theorem dX11_longest_40 : decode cX11_longest 40 = .ok (.istore_n 3, 1) := by decide +kernel
theorem dX11_longest_41 : decode cX11_longest 41 = .ok (.iinc 4 1, 3) := by decide +kernel
theorem dX11_longest_44 : decode cX11_longest 44 = .ok (.goto (-27), 3) := by decide +kernel
theorem dX11_longest_47 : decode cX11_longest 47 = .ok (.iload_n 3, 1) := by decide +kernel
theorem dX11_longest_48 : decode cX11_longest 48 = .ok (.ireturn, 1) := by decide +kernel
theorem dX11_minutesOn_0 : decode cX11_minutesOn 0 = .ok (.aload_n 1, 1) := by decide +kernel
theorem dX11_minutesOn_1 : decode cX11_minutesOn 1 = .ok (.iload_n 2, 1) := by decide +kernel
theorem dX11_minutesOn_2 : decode cX11_minutesOn 2 = .ok (.invokevirtual 247, 3) := by decide +kernel
theorem dX11_minutesOn_5 : decode cX11_minutesOn 5 = .ok (.istore_n 3, 1) := by decide +kernel
theorem dX11_minutesOn_6 : decode cX11_minutesOn 6 = .ok (.iconst 0, 1) := by decide +kernel
theorem dX11_minutesOn_7 : decode cX11_minutesOn 7 = .ok (.istore 4, 2) := by decide +kernel
theorem dX11_minutesOn_9 : decode cX11_minutesOn 9 = .ok (.iconst 0, 1) := by decide +kernel
theorem dX11_minutesOn_10 : decode cX11_minutesOn 10 = .ok (.istore 5, 2) := by decide +kernel
theorem dX11_minutesOn_12 : decode cX11_minutesOn 12 = .ok (.iload 5, 2) := by decide +kernel
theorem dX11_minutesOn_14 : decode cX11_minutesOn 14 = .ok (.aload_n 1, 1) := by decide +kernel
theorem dX11_minutesOn_15 : decode cX11_minutesOn 15 = .ok (.getfield 250, 3) := by decide +kernel
theorem dX11_minutesOn_18 : decode cX11_minutesOn 18 = .ok (.if_icmp .ge 38, 3) := by decide +kernel
theorem dX11_minutesOn_21 : decode cX11_minutesOn 21 = .ok (.iload_n 3, 1) := by decide +kernel
theorem dX11_minutesOn_22 : decode cX11_minutesOn 22 = .ok (.iload 5, 2) := by decide +kernel
theorem dX11_minutesOn_24 : decode cX11_minutesOn 24 = .ok (.ishr, 1) := by decide +kernel
theorem dX11_minutesOn_25 : decode cX11_minutesOn 25 = .ok (.iconst 1, 1) := by decide +kernel
theorem dX11_minutesOn_26 : decode cX11_minutesOn 26 = .ok (.iand, 1) := by decide +kernel
theorem dX11_minutesOn_27 : decode cX11_minutesOn 27 = .ok (.ifCond .eq 23, 3) := by decide +kernel
theorem dX11_minutesOn_30 : decode cX11_minutesOn 30 = .ok (.iload 4, 2) := by decide +kernel
theorem dX11_minutesOn_32 : decode cX11_minutesOn 32 = .ok (.aload_n 0, 1) := by decide +kernel
theorem dX11_minutesOn_33 : decode cX11_minutesOn 33 = .ok (.getfield 55, 3) := by decide +kernel
theorem dX11_minutesOn_36 : decode cX11_minutesOn 36 = .ok (.getfield 311, 3) := by decide +kernel
theorem dX11_minutesOn_39 : decode cX11_minutesOn 39 = .ok (.aload_n 1, 1) := by decide +kernel
theorem dX11_minutesOn_40 : decode cX11_minutesOn 40 = .ok (.getfield 314, 3) := by decide +kernel
theorem dX11_minutesOn_43 : decode cX11_minutesOn 43 = .ok (.iload 5, 2) := by decide +kernel
theorem dX11_minutesOn_45 : decode cX11_minutesOn 45 = .ok (.iaload, 1) := by decide +kernel
theorem dX11_minutesOn_46 : decode cX11_minutesOn 46 = .ok (.iaload, 1) := by decide +kernel
theorem dX11_minutesOn_47 : decode cX11_minutesOn 47 = .ok (.iadd, 1) := by decide +kernel
theorem dX11_minutesOn_48 : decode cX11_minutesOn 48 = .ok (.istore 4, 2) := by decide +kernel
theorem dX11_minutesOn_50 : decode cX11_minutesOn 50 = .ok (.iinc 5 1, 3) := by decide +kernel
theorem dX11_minutesOn_53 : decode cX11_minutesOn 53 = .ok (.goto (-41), 3) := by decide +kernel
theorem dX11_minutesOn_56 : decode cX11_minutesOn 56 = .ok (.iload 4, 2) := by decide +kernel
theorem dX11_minutesOn_58 : decode cX11_minutesOn 58 = .ok (.ireturn, 1) := by decide +kernel
theorem dX11_page_0 : decode cX11_page 0 = .ok (.aload_n 0, 1) := by decide +kernel
theorem dX11_page_1 : decode cX11_page 1 = .ok (.iload_n 1, 1) := by decide +kernel
theorem dX11_page_2 : decode cX11_page 2 = .ok (.invokevirtual 191, 3) := by decide +kernel
theorem dX11_page_5 : decode cX11_page 5 = .ok (.astore_n 2, 1) := by decide +kernel
theorem dX11_page_6 : decode cX11_page 6 = .ok (.aload_n 2, 1) := by decide +kernel
theorem dX11_page_7 : decode cX11_page 7 = .ok (.ifnonnull 7, 3) := by decide +kernel
theorem dX11_page_10 : decode cX11_page 10 = .ok (.iconst (-1), 1) := by decide +kernel
theorem dX11_page_11 : decode cX11_page 11 = .ok (.goto 14, 3) := by decide +kernel
theorem dX11_page_14 : decode cX11_page 14 = .ok (.aload_n 0, 1) := by decide +kernel
theorem dX11_page_15 : decode cX11_page 15 = .ok (.getfield 82, 3) := by decide +kernel
theorem dX11_page_18 : decode cX11_page 18 = .ok (.aload_n 2, 1) := by decide +kernel
theorem dX11_page_19 : decode cX11_page 19 = .ok (.getfield 164, 3) := by decide +kernel
theorem dX11_page_22 : decode cX11_page 22 = .ok (.invokevirtual 316, 3) := by decide +kernel
theorem dX11_page_25 : decode cX11_page 25 = .ok (.ireturn, 1) := by decide +kernel
theorem dX11_tells_0 : decode cX11_tells 0 = .ok (.aload_n 0, 1) := by decide +kernel
theorem dX11_tells_1 : decode cX11_tells 1 = .ok (.iload_n 2, 1) := by decide +kernel
theorem dX11_tells_2 : decode cX11_tells 2 = .ok (.invokevirtual 191, 3) := by decide +kernel
theorem dX11_tells_5 : decode cX11_tells 5 = .ok (.astore_n 3, 1) := by decide +kernel
theorem dX11_tells_6 : decode cX11_tells 6 = .ok (.aload_n 3, 1) := by decide +kernel
theorem dX11_tells_7 : decode cX11_tells 7 = .ok (.ifnull 18, 3) := by decide +kernel
theorem dX11_tells_10 : decode cX11_tells 10 = .ok (.iload_n 1, 1) := by decide +kernel
theorem dX11_tells_11 : decode cX11_tells 11 = .ok (.ifCond .lt 14, 3) := by decide +kernel
theorem dX11_tells_14 : decode cX11_tells 14 = .ok (.iload_n 1, 1) := by decide +kernel
theorem dX11_tells_15 : decode cX11_tells 15 = .ok (.aload_n 0, 1) := by decide +kernel
theorem dX11_tells_16 : decode cX11_tells 16 = .ok (.getfield 82, 3) := by decide +kernel
theorem dX11_tells_19 : decode cX11_tells 19 = .ok (.getfield 320, 3) := by decide +kernel
theorem dX11_tells_22 : decode cX11_tells 22 = .ok (.if_icmp .lt 5, 3) := by decide +kernel
theorem dX11_tells_25 : decode cX11_tells 25 = .ok (.iconst (-1), 1) := by decide +kernel
theorem dX11_tells_26 : decode cX11_tells 26 = .ok (.ireturn, 1) := by decide +kernel
theorem dX11_tells_27 : decode cX11_tells 27 = .ok (.aload_n 0, 1) := by decide +kernel
theorem dX11_tells_28 : decode cX11_tells 28 = .ok (.getfield 82, 3) := by decide +kernel
theorem dX11_tells_31 : decode cX11_tells 31 = .ok (.iload_n 1, 1) := by decide +kernel
theorem dX11_tells_32 : decode cX11_tells 32 = .ok (.aload_n 3, 1) := by decide +kernel
theorem dX11_tells_33 : decode cX11_tells 33 = .ok (.getfield 164, 3) := by decide +kernel
theorem dX11_tells_36 : decode cX11_tells 36 = .ok (.invokevirtual 323, 3) := by decide +kernel
theorem dX11_tells_39 : decode cX11_tells 39 = .ok (.ireturn, 1) := by decide +kernel
theorem dX11_given_0 : decode cX11_given 0 = .ok (.aload_n 0, 1) := by decide +kernel
theorem dX11_given_1 : decode cX11_given 1 = .ok (.iload_n 1, 1) := by decide +kernel
theorem dX11_given_2 : decode cX11_given 2 = .ok (.invokevirtual 191, 3) := by decide +kernel
theorem dX11_given_5 : decode cX11_given 5 = .ok (.astore 5, 2) := by decide +kernel
theorem dX11_given_7 : decode cX11_given 7 = .ok (.aload 5, 2) := by decide +kernel
theorem dX11_given_9 : decode cX11_given 9 = .ok (.ifnull 33, 3) := by decide +kernel
theorem dX11_given_12 : decode cX11_given 12 = .ok (.iload 4, 2) := by decide +kernel
theorem dX11_given_14 : decode cX11_given 14 = .ok (.ifCond .lt 28, 3) := by decide +kernel
theorem dX11_given_17 : decode cX11_given 17 = .ok (.iload 4, 2) := by decide +kernel
theorem dX11_given_19 : decode cX11_given 19 = .ok (.iconst 2, 1) := by decide +kernel
theorem dX11_given_20 : decode cX11_given 20 = .ok (.if_icmp .gt 22, 3) := by decide +kernel
theorem dX11_given_23 : decode cX11_given 23 = .ok (.aload_n 0, 1) := by decide +kernel
theorem dX11_given_24 : decode cX11_given 24 = .ok (.getfield 82, 3) := by decide +kernel
theorem dX11_given_27 : decode cX11_given 27 = .ok (.iload_n 2, 1) := by decide +kernel
theorem dX11_given_28 : decode cX11_given 28 = .ok (.invokevirtual 327, 3) := by decide +kernel
theorem dX11_given_31 : decode cX11_given 31 = .ok (.ifCond .eq 11, 3) := by decide +kernel
theorem dX11_given_34 : decode cX11_given 34 = .ok (.iload_n 3, 1) := by decide +kernel
theorem dX11_given_35 : decode cX11_given 35 = .ok (.iload_n 2, 1) := by decide +kernel
theorem dX11_given_36 : decode cX11_given 36 = .ok (.iconst (-1), 1) := by decide +kernel
theorem dX11_given_37 : decode cX11_given 37 = .ok (.ixor, 1) := by decide +kernel
theorem dX11_given_38 : decode cX11_given 38 = .ok (.iand, 1) := by decide +kernel
theorem dX11_given_39 : decode cX11_given 39 = .ok (.ifCond .eq 6, 3) := by decide +kernel
theorem dX11_given_42 : decode cX11_given 42 = .ok (.bipush (-2), 2) := by decide +kernel
theorem dX11_given_44 : decode cX11_given 44 = .ok (.ireturn, 1) := by decide +kernel
theorem dX11_given_45 : decode cX11_given 45 = .ok (.iload 4, 2) := by decide +kernel
theorem dX11_given_47 : decode cX11_given 47 = .ok (.iconst 1, 1) := by decide +kernel
theorem dX11_given_48 : decode cX11_given 48 = .ok (.if_icmp .ne 13, 3) := by decide +kernel
theorem dX11_given_51 : decode cX11_given 51 = .ok (.aload_n 0, 1) := by decide +kernel
theorem dX11_given_52 : decode cX11_given 52 = .ok (.getfield 82, 3) := by decide +kernel
theorem dX11_given_55 : decode cX11_given 55 = .ok (.iload_n 2, 1) := by decide +kernel
theorem dX11_given_56 : decode cX11_given 56 = .ok (.iload_n 3, 1) := by decide +kernel
theorem dX11_given_57 : decode cX11_given 57 = .ok (.invokevirtual 330, 3) := by decide +kernel
theorem dX11_given_60 : decode cX11_given 60 = .ok (.ireturn, 1) := by decide +kernel
theorem dX11_given_61 : decode cX11_given 61 = .ok (.aload_n 0, 1) := by decide +kernel
theorem dX11_given_62 : decode cX11_given 62 = .ok (.getfield 82, 3) := by decide +kernel
theorem dX11_given_65 : decode cX11_given 65 = .ok (.aload 5, 2) := by decide +kernel
theorem dX11_given_67 : decode cX11_given 67 = .ok (.getfield 164, 3) := by decide +kernel
theorem dX11_given_70 : decode cX11_given 70 = .ok (.iload_n 2, 1) := by decide +kernel
theorem dX11_given_71 : decode cX11_given 71 = .ok (.iload_n 3, 1) := by decide +kernel
theorem dX11_given_72 : decode cX11_given 72 = .ok (.invokevirtual 333, 3) := by decide +kernel
theorem dX11_given_75 : decode cX11_given 75 = .ok (.istore 6, 2) := by decide +kernel
theorem dX11_given_77 : decode cX11_given 77 = .ok (.iload 4, 2) := by decide +kernel
theorem dX11_given_79 : decode cX11_given 79 = .ok (.ifCond .ne 6, 3) := by decide +kernel
theorem dX11_given_82 : decode cX11_given 82 = .ok (.iload 6, 2) := by decide +kernel
theorem dX11_given_84 : decode cX11_given 84 = .ok (.ireturn, 1) := by decide +kernel
theorem dX11_given_85 : decode cX11_given 85 = .ok (.iload 6, 2) := by decide +kernel
theorem dX11_given_87 : decode cX11_given 87 = .ok (.bipush (-2), 2) := by decide +kernel
theorem dX11_given_89 : decode cX11_given 89 = .ok (.if_icmp .ne 15, 3) := by decide +kernel
theorem dX11_given_92 : decode cX11_given 92 = .ok (.aload_n 0, 1) := by decide +kernel
theorem dX11_given_93 : decode cX11_given 93 = .ok (.getfield 82, 3) := by decide +kernel
theorem dX11_given_96 : decode cX11_given 96 = .ok (.iload_n 2, 1) := by decide +kernel
theorem dX11_given_97 : decode cX11_given 97 = .ok (.iload_n 3, 1) := by decide +kernel
theorem dX11_given_98 : decode cX11_given 98 = .ok (.invokevirtual 337, 3) := by decide +kernel
theorem dX11_given_101 : decode cX11_given 101 = .ok (.goto 4, 3) := by decide +kernel
theorem dX11_given_104 : decode cX11_given 104 = .ok (.iconst (-1), 1) := by decide +kernel
theorem dX11_given_105 : decode cX11_given 105 = .ok (.ireturn, 1) := by decide +kernel
theorem dX11_off_0 : decode cX11_off 0 = .ok (.aload_n 0, 1) := by decide +kernel
theorem dX11_off_1 : decode cX11_off 1 = .ok (.iload_n 1, 1) := by decide +kernel
theorem dX11_off_2 : decode cX11_off 2 = .ok (.invokevirtual 237, 3) := by decide +kernel
theorem dX11_off_5 : decode cX11_off 5 = .ok (.astore 4, 2) := by decide +kernel
theorem dX11_off_7 : decode cX11_off 7 = .ok (.aload_n 0, 1) := by decide +kernel
theorem dX11_off_8 : decode cX11_off 8 = .ok (.iload_n 2, 1) := by decide +kernel
theorem dX11_off_9 : decode cX11_off 9 = .ok (.invokevirtual 191, 3) := by decide +kernel
theorem dX11_off_12 : decode cX11_off 12 = .ok (.astore 5, 2) := by decide +kernel
theorem dX11_off_14 : decode cX11_off 14 = .ok (.aload 4, 2) := by decide +kernel
theorem dX11_off_16 : decode cX11_off 16 = .ok (.ifnull 19, 3) := by decide +kernel
theorem dX11_off_19 : decode cX11_off 19 = .ok (.aload 5, 2) := by decide +kernel
theorem dX11_off_21 : decode cX11_off 21 = .ok (.ifnull 14, 3) := by decide +kernel
theorem dX11_off_24 : decode cX11_off 24 = .ok (.aload_n 0, 1) := by decide +kernel
theorem dX11_off_25 : decode cX11_off 25 = .ok (.getfield 23, 3) := by decide +kernel
theorem dX11_off_28 : decode cX11_off 28 = .ok (.iload_n 3, 1) := by decide +kernel
theorem dX11_off_29 : decode cX11_off 29 = .ok (.invokevirtual 195, 3) := by decide +kernel
theorem dX11_off_32 : decode cX11_off 32 = .ok (.ifCond .ne 9, 3) := by decide +kernel
theorem dX11_off_35 : decode cX11_off 35 = .ok (.ldc2_w 273, 3) := by decide +kernel
theorem dX11_off_38 : decode cX11_off 38 = .ok (.goto 13, 3) := by decide +kernel
theorem dX11_off_41 : decode cX11_off 41 = .ok (.aload_n 0, 1) := by decide +kernel
theorem dX11_off_42 : decode cX11_off 42 = .ok (.aload 4, 2) := by decide +kernel
theorem dX11_off_44 : decode cX11_off 44 = .ok (.aload 5, 2) := by decide +kernel
theorem dX11_off_46 : decode cX11_off 46 = .ok (.iload_n 3, 1) := by decide +kernel
theorem dX11_off_47 : decode cX11_off 47 = .ok (.iconst (-1), 1) := by decide +kernel
theorem dX11_off_48 : decode cX11_off 48 = .ok (.invokevirtual 340, 3) := by decide +kernel
theorem dX11_off_51 : decode cX11_off 51 = .ok (.lreturn, 1) := by decide +kernel
theorem dX11_weak_0 : decode cX11_weak 0 = .ok (.aload_n 0, 1) := by decide +kernel
theorem dX11_weak_1 : decode cX11_weak 1 = .ok (.iload_n 1, 1) := by decide +kernel
theorem dX11_weak_2 : decode cX11_weak 2 = .ok (.invokevirtual 237, 3) := by decide +kernel
theorem dX11_weak_5 : decode cX11_weak 5 = .ok (.astore_n 3, 1) := by decide +kernel
theorem dX11_weak_6 : decode cX11_weak 6 = .ok (.aload_n 0, 1) := by decide +kernel
theorem dX11_weak_7 : decode cX11_weak 7 = .ok (.iload_n 2, 1) := by decide +kernel
theorem dX11_weak_8 : decode cX11_weak 8 = .ok (.invokevirtual 191, 3) := by decide +kernel
theorem dX11_weak_11 : decode cX11_weak 11 = .ok (.astore 4, 2) := by decide +kernel
theorem dX11_weak_13 : decode cX11_weak 13 = .ok (.aload_n 3, 1) := by decide +kernel
theorem dX11_weak_14 : decode cX11_weak 14 = .ok (.ifnull 8, 3) := by decide +kernel
theorem dX11_weak_17 : decode cX11_weak 17 = .ok (.aload 4, 2) := by decide +kernel
theorem dX11_weak_19 : decode cX11_weak 19 = .ok (.ifnonnull 5, 3) := by decide +kernel
theorem dX11_weak_22 : decode cX11_weak 22 = .ok (.iconst (-1), 1) := by decide +kernel
theorem dX11_weak_23 : decode cX11_weak 23 = .ok (.ireturn, 1) := by decide +kernel
theorem dX11_weak_24 : decode cX11_weak 24 = .ok (.iconst (-1), 1) := by decide +kernel
theorem dX11_weak_25 : decode cX11_weak 25 = .ok (.istore 5, 2) := by decide +kernel
theorem dX11_weak_27 : decode cX11_weak 27 = .ok (.lconst 0, 1) := by decide +kernel
theorem dX11_weak_28 : decode cX11_weak 28 = .ok (.lstore 6, 2) := by decide +kernel
theorem dX11_weak_30 : decode cX11_weak 30 = .ok (.iconst 0, 1) := by decide +kernel
theorem dX11_weak_31 : decode cX11_weak 31 = .ok (.istore 8, 2) := by decide +kernel
theorem dX11_weak_33 : decode cX11_weak 33 = .ok (.iload 8, 2) := by decide +kernel
theorem dX11_weak_35 : decode cX11_weak 35 = .ok (.aload_n 0, 1) := by decide +kernel
theorem dX11_weak_36 : decode cX11_weak 36 = .ok (.getfield 23, 3) := by decide +kernel
theorem dX11_weak_39 : decode cX11_weak 39 = .ok (.getfield 224, 3) := by decide +kernel
theorem dX11_weak_42 : decode cX11_weak 42 = .ok (.if_icmp .ge 71, 3) := by decide +kernel
theorem dX11_weak_45 : decode cX11_weak 45 = .ok (.lconst 0, 1) := by decide +kernel
theorem dX11_weak_46 : decode cX11_weak 46 = .ok (.lstore 9, 2) := by decide +kernel
theorem dX11_weak_48 : decode cX11_weak 48 = .ok (.iconst 0, 1) := by decide +kernel
theorem dX11_weak_49 : decode cX11_weak 49 = .ok (.istore 11, 2) := by decide +kernel
theorem dX11_weak_51 : decode cX11_weak 51 = .ok (.iload 11, 2) := by decide +kernel
theorem dX11_weak_53 : decode cX11_weak 53 = .ok (.aload_n 0, 1) := by decide +kernel
theorem dX11_weak_54 : decode cX11_weak 54 = .ok (.getfield 23, 3) := by decide +kernel
theorem dX11_weak_57 : decode cX11_weak 57 = .ok (.getfield 77, 3) := by decide +kernel
theorem dX11_weak_60 : decode cX11_weak 60 = .ok (.if_icmp .ge 25, 3) := by decide +kernel
theorem dX11_weak_63 : decode cX11_weak 63 = .ok (.lload 9, 2) := by decide +kernel
theorem dX11_weak_65 : decode cX11_weak 65 = .ok (.aload_n 0, 1) := by decide +kernel
theorem dX11_weak_66 : decode cX11_weak 66 = .ok (.aload_n 3, 1) := by decide +kernel
theorem dX11_weak_67 : decode cX11_weak 67 = .ok (.aload 4, 2) := by decide +kernel
theorem dX11_weak_69 : decode cX11_weak 69 = .ok (.iload 11, 2) := by decide +kernel
theorem dX11_weak_71 : decode cX11_weak 71 = .ok (.iload 8, 2) := by decide +kernel
theorem dX11_weak_73 : decode cX11_weak 73 = .ok (.invokevirtual 340, 3) := by decide +kernel
theorem dX11_weak_76 : decode cX11_weak 76 = .ok (.ladd, 1) := by decide +kernel
theorem dX11_weak_77 : decode cX11_weak 77 = .ok (.lstore 9, 2) := by decide +kernel
theorem dX11_weak_79 : decode cX11_weak 79 = .ok (.iinc 11 1, 3) := by decide +kernel
theorem dX11_weak_82 : decode cX11_weak 82 = .ok (.goto (-31), 3) := by decide +kernel
theorem dX11_weak_85 : decode cX11_weak 85 = .ok (.iload 5, 2) := by decide +kernel
theorem dX11_weak_87 : decode cX11_weak 87 = .ok (.iconst (-1), 1) := by decide +kernel
theorem dX11_weak_88 : decode cX11_weak 88 = .ok (.if_icmp .eq 11, 3) := by decide +kernel
theorem dX11_weak_91 : decode cX11_weak 91 = .ok (.lload 9, 2) := by decide +kernel
theorem dX11_weak_93 : decode cX11_weak 93 = .ok (.lload 6, 2) := by decide +kernel
theorem dX11_weak_95 : decode cX11_weak 95 = .ok (.lcmp, 1) := by decide +kernel
theorem dX11_weak_96 : decode cX11_weak 96 = .ok (.ifCond .ge 11, 3) := by decide +kernel
theorem dX11_weak_99 : decode cX11_weak 99 = .ok (.iload 8, 2) := by decide +kernel
theorem dX11_weak_101 : decode cX11_weak 101 = .ok (.istore 5, 2) := by decide +kernel
theorem dX11_weak_103 : decode cX11_weak 103 = .ok (.lload 9, 2) := by decide +kernel
theorem dX11_weak_105 : decode cX11_weak 105 = .ok (.lstore 6, 2) := by decide +kernel
theorem dX11_weak_107 : decode cX11_weak 107 = .ok (.iinc 8 1, 3) := by decide +kernel
theorem dX11_weak_110 : decode cX11_weak 110 = .ok (.goto (-77), 3) := by decide +kernel
theorem dX11_weak_113 : decode cX11_weak 113 = .ok (.iload 5, 2) := by decide +kernel
theorem dX11_weak_115 : decode cX11_weak 115 = .ok (.ireturn, 1) := by decide +kernel
theorem dX11_offOn_0 : decode cX11_offOn 0 = .ok (.iconst 0, 1) := by decide +kernel
theorem dX11_offOn_1 : decode cX11_offOn 1 = .ok (.istore 5, 2) := by decide +kernel
theorem dX11_offOn_3 : decode cX11_offOn 3 = .ok (.iload 5, 2) := by decide +kernel
theorem dX11_offOn_5 : decode cX11_offOn 5 = .ok (.bipush 12, 2) := by decide +kernel
theorem dX11_offOn_7 : decode cX11_offOn 7 = .ok (.if_icmp .ge 17, 3) := by decide +kernel
theorem dX11_offOn_10 : decode cX11_offOn 10 = .ok (.aload_n 0, 1) := by decide +kernel
theorem dX11_offOn_11 : decode cX11_offOn 11 = .ok (.getfield 109, 3) := by decide +kernel
theorem dX11_offOn_14 : decode cX11_offOn 14 = .ok (.iload 5, 2) := by decide +kernel
theorem dX11_offOn_16 : decode cX11_offOn 16 = .ok (.lconst 0, 1) := by decide +kernel
theorem dX11_offOn_17 : decode cX11_offOn 17 = .ok (.lastore, 1) := by decide +kernel
theorem dX11_offOn_18 : decode cX11_offOn 18 = .ok (.iinc 5 1, 3) := by decide +kernel
theorem dX11_offOn_21 : decode cX11_offOn 21 = .ok (.goto (-18), 3) := by decide +kernel
theorem dX11_offOn_24 : decode cX11_offOn 24 = .ok (.aload_n 0, 1) := by decide +kernel
theorem dX11_offOn_25 : decode cX11_offOn 25 = .ok (.getfield 109, 3) := by decide +kernel
theorem dX11_offOn_28 : decode cX11_offOn 28 = .ok (.iconst 0, 1) := by decide +kernel
theorem dX11_offOn_29 : decode cX11_offOn 29 = .ok (.ldc2_w 344, 3) := by decide +kernel
theorem dX11_offOn_32 : decode cX11_offOn 32 = .ok (.lastore, 1) := by decide +kernel
theorem dX11_offOn_33 : decode cX11_offOn 33 = .ok (.lconst 0, 1) := by decide +kernel
theorem dX11_offOn_34 : decode cX11_offOn 34 = .ok (.lstore 5, 2) := by decide +kernel
theorem dX11_offOn_36 : decode cX11_offOn 36 = .ok (.iconst 0, 1) := by decide +kernel
theorem dX11_offOn_37 : decode cX11_offOn 37 = .ok (.istore 7, 2) := by decide +kernel
theorem dX11_offOn_39 : decode cX11_offOn 39 = .ok (.iload 7, 2) := by decide +kernel
theorem dX11_offOn_41 : decode cX11_offOn 41 = .ok (.aload_n 1, 1) := by decide +kernel
theorem dX11_offOn_42 : decode cX11_offOn 42 = .ok (.getfield 250, 3) := by decide +kernel
theorem dX11_offOn_45 : decode cX11_offOn 45 = .ok (.if_icmp .ge 148, 3) := by decide +kernel
theorem dX11_offOn_48 : decode cX11_offOn 48 = .ok (.aload_n 1, 1) := by decide +kernel
theorem dX11_offOn_49 : decode cX11_offOn 49 = .ok (.getfield 314, 3) := by decide +kernel
theorem dX11_offOn_52 : decode cX11_offOn 52 = .ok (.iload 7, 2) := by decide +kernel
theorem dX11_offOn_54 : decode cX11_offOn 54 = .ok (.iaload, 1) := by decide +kernel
theorem dX11_offOn_55 : decode cX11_offOn 55 = .ok (.istore 8, 2) := by decide +kernel
theorem dX11_offOn_57 : decode cX11_offOn 57 = .ok (.iload 8, 2) := by decide +kernel
theorem dX11_offOn_59 : decode cX11_offOn 59 = .ok (.iload 4, 2) := by decide +kernel
theorem dX11_offOn_61 : decode cX11_offOn 61 = .ok (.if_icmp .ne 7, 3) := by decide +kernel
theorem dX11_offOn_64 : decode cX11_offOn 64 = .ok (.lconst 0, 1) := by decide +kernel
theorem dX11_offOn_65 : decode cX11_offOn 65 = .ok (.goto 26, 3) := by decide +kernel
theorem dX11_offOn_68 : decode cX11_offOn 68 = .ok (.aload_n 0, 1) := by decide +kernel
theorem dX11_offOn_69 : decode cX11_offOn 69 = .ok (.getfield 109, 3) := by decide +kernel
theorem dX11_offOn_72 : decode cX11_offOn 72 = .ok (.iload 7, 2) := by decide +kernel
theorem dX11_offOn_74 : decode cX11_offOn 74 = .ok (.laload, 1) := by decide +kernel
theorem dX11_offOn_75 : decode cX11_offOn 75 = .ok (.ldc2_w 346, 3) := by decide +kernel
theorem dX11_offOn_78 : decode cX11_offOn 78 = .ok (.ldiv, 1) := by decide +kernel
theorem dX11_offOn_79 : decode cX11_offOn 79 = .ok (.aload_n 0, 1) := by decide +kernel
theorem dX11_offOn_80 : decode cX11_offOn 80 = .ok (.getfield 55, 3) := by decide +kernel
theorem dX11_offOn_83 : decode cX11_offOn 83 = .ok (.getfield 348, 3) := by decide +kernel
theorem dX11_offOn_86 : decode cX11_offOn 86 = .ok (.iload 8, 2) := by decide +kernel
theorem dX11_offOn_88 : decode cX11_offOn 88 = .ok (.iaload, 1) := by decide +kernel
theorem dX11_offOn_89 : decode cX11_offOn 89 = .ok (.i2l, 1) := by decide +kernel
theorem dX11_offOn_90 : decode cX11_offOn 90 = .ok (.lmul, 1) := by decide +kernel
theorem dX11_offOn_91 : decode cX11_offOn 91 = .ok (.lstore 9, 2) := by decide +kernel
theorem dX11_offOn_93 : decode cX11_offOn 93 = .ok (.iload_n 3, 1) := by decide +kernel
theorem dX11_offOn_94 : decode cX11_offOn 94 = .ok (.iload 8, 2) := by decide +kernel
theorem dX11_offOn_96 : decode cX11_offOn 96 = .ok (.ishr, 1) := by decide +kernel
theorem dX11_offOn_97 : decode cX11_offOn 97 = .ok (.iconst 1, 1) := by decide +kernel
theorem dX11_offOn_98 : decode cX11_offOn 98 = .ok (.iand, 1) := by decide +kernel
theorem dX11_offOn_99 : decode cX11_offOn 99 = .ok (.ifCond .eq 7, 3) := by decide +kernel
theorem dX11_offOn_102 : decode cX11_offOn 102 = .ok (.iconst 1, 1) := by decide +kernel
theorem dX11_offOn_103 : decode cX11_offOn 103 = .ok (.goto 4, 3) := by decide +kernel
theorem dX11_offOn_106 : decode cX11_offOn 106 = .ok (.iconst 0, 1) := by decide +kernel
theorem dX11_offOn_107 : decode cX11_offOn 107 = .ok (.istore 11, 2) := by decide +kernel
theorem dX11_offOn_109 : decode cX11_offOn 109 = .ok (.iload 11, 2) := by decide +kernel
theorem dX11_offOn_111 : decode cX11_offOn 111 = .ok (.ifCond .eq 16, 3) := by decide +kernel
theorem dX11_offOn_114 : decode cX11_offOn 114 = .ok (.aload_n 0, 1) := by decide +kernel
theorem dX11_offOn_115 : decode cX11_offOn 115 = .ok (.getfield 109, 3) := by decide +kernel
theorem dX11_offOn_118 : decode cX11_offOn 118 = .ok (.iload 7, 2) := by decide +kernel
theorem dX11_offOn_120 : decode cX11_offOn 120 = .ok (.laload, 1) := by decide +kernel
theorem dX11_offOn_121 : decode cX11_offOn 121 = .ok (.lload 9, 2) := by decide +kernel
theorem dX11_offOn_123 : decode cX11_offOn 123 = .ok (.lsub, 1) := by decide +kernel
theorem dX11_offOn_124 : decode cX11_offOn 124 = .ok (.goto 5, 3) := by decide +kernel
theorem dX11_offOn_127 : decode cX11_offOn 127 = .ok (.lload 9, 2) := by decide +kernel
theorem dX11_offOn_129 : decode cX11_offOn 129 = .ok (.lstore 12, 2) := by decide +kernel
theorem dX11_offOn_131 : decode cX11_offOn 131 = .ok (.lload 5, 2) := by decide +kernel
theorem dX11_offOn_133 : decode cX11_offOn 133 = .ok (.aload_n 0, 1) := by decide +kernel
theorem dX11_offOn_134 : decode cX11_offOn 134 = .ok (.aload_n 1, 1) := by decide +kernel
theorem dX11_offOn_135 : decode cX11_offOn 135 = .ok (.getfield 351, 3) := by decide +kernel
theorem dX11_offOn_138 : decode cX11_offOn 138 = .ok (.iload 7, 2) := by decide +kernel
theorem dX11_offOn_140 : decode cX11_offOn 140 = .ok (.iaload, 1) := by decide +kernel
theorem dX11_offOn_141 : decode cX11_offOn 141 = .ok (.lload 12, 2) := by decide +kernel
theorem dX11_offOn_143 : decode cX11_offOn 143 = .ok (.aload_n 2, 1) := by decide +kernel
theorem dX11_offOn_144 : decode cX11_offOn 144 = .ok (.getfield 164, 3) := by decide +kernel
theorem dX11_offOn_147 : decode cX11_offOn 147 = .ok (.iload_n 3, 1) := by decide +kernel
theorem dX11_offOn_148 : decode cX11_offOn 148 = .ok (.iaload, 1) := by decide +kernel
theorem dX11_offOn_149 : decode cX11_offOn 149 = .ok (.invokevirtual 354, 3) := by decide +kernel
theorem dX11_offOn_152 : decode cX11_offOn 152 = .ok (.ladd, 1) := by decide +kernel
theorem dX11_offOn_153 : decode cX11_offOn 153 = .ok (.lstore 5, 2) := by decide +kernel
theorem dX11_offOn_155 : decode cX11_offOn 155 = .ok (.lload 5, 2) := by decide +kernel
theorem dX11_offOn_157 : decode cX11_offOn 157 = .ok (.aload_n 0, 1) := by decide +kernel
theorem dX11_offOn_158 : decode cX11_offOn 158 = .ok (.aload_n 1, 1) := by decide +kernel
theorem dX11_offOn_159 : decode cX11_offOn 159 = .ok (.getfield 358, 3) := by decide +kernel
theorem dX11_offOn_162 : decode cX11_offOn 162 = .ok (.iload 7, 2) := by decide +kernel
theorem dX11_offOn_164 : decode cX11_offOn 164 = .ok (.iaload, 1) := by decide +kernel
theorem dX11_offOn_165 : decode cX11_offOn 165 = .ok (.aload_n 0, 1) := by decide +kernel
theorem dX11_offOn_166 : decode cX11_offOn 166 = .ok (.getfield 109, 3) := by decide +kernel
theorem dX11_offOn_169 : decode cX11_offOn 169 = .ok (.iload 7, 2) := by decide +kernel
theorem dX11_offOn_171 : decode cX11_offOn 171 = .ok (.laload, 1) := by decide +kernel
theorem dX11_offOn_172 : decode cX11_offOn 172 = .ok (.lload 12, 2) := by decide +kernel
theorem dX11_offOn_174 : decode cX11_offOn 174 = .ok (.lsub, 1) := by decide +kernel
theorem dX11_offOn_175 : decode cX11_offOn 175 = .ok (.aload_n 2, 1) := by decide +kernel
theorem dX11_offOn_176 : decode cX11_offOn 176 = .ok (.getfield 164, 3) := by decide +kernel
theorem dX11_offOn_179 : decode cX11_offOn 179 = .ok (.iload_n 3, 1) := by decide +kernel
theorem dX11_offOn_180 : decode cX11_offOn 180 = .ok (.iaload, 1) := by decide +kernel
theorem dX11_offOn_181 : decode cX11_offOn 181 = .ok (.invokevirtual 354, 3) := by decide +kernel
theorem dX11_offOn_184 : decode cX11_offOn 184 = .ok (.ladd, 1) := by decide +kernel
theorem dX11_offOn_185 : decode cX11_offOn 185 = .ok (.lstore 5, 2) := by decide +kernel
theorem dX11_offOn_187 : decode cX11_offOn 187 = .ok (.iinc 7 1, 3) := by decide +kernel
theorem dX11_offOn_190 : decode cX11_offOn 190 = .ok (.goto (-151), 3) := by decide +kernel
theorem dX11_offOn_193 : decode cX11_offOn 193 = .ok (.lload 5, 2) := by decide +kernel
theorem dX11_offOn_195 : decode cX11_offOn 195 = .ok (.lreturn, 1) := by decide +kernel
theorem dX11_offBehind_0 : decode cX11_offBehind 0 = .ok (.iload_n 1, 1) := by decide +kernel
theorem dX11_offBehind_1 : decode cX11_offBehind 1 = .ok (.ifCond .lt 21, 3) := by decide +kernel
theorem dX11_offBehind_4 : decode cX11_offBehind 4 = .ok (.iload_n 1, 1) := by decide +kernel
theorem dX11_offBehind_5 : decode cX11_offBehind 5 = .ok (.bipush 12, 2) := by decide +kernel
theorem dX11_offBehind_7 : decode cX11_offBehind 7 = .ok (.if_icmp .ge 15, 3) := by decide +kernel
theorem dX11_offBehind_10 : decode cX11_offBehind 10 = .ok (.aload_n 0, 1) := by decide +kernel
theorem dX11_offBehind_11 : decode cX11_offBehind 11 = .ok (.getfield 109, 3) := by decide +kernel
theorem dX11_offBehind_14 : decode cX11_offBehind 14 = .ok (.iload_n 1, 1) := by decide +kernel
theorem dX11_offBehind_15 : decode cX11_offBehind 15 = .ok (.dup2, 1) := by decide +kernel
theorem dX11_offBehind_16 : decode cX11_offBehind 16 = .ok (.laload, 1) := by decide +kernel
theorem dX11_offBehind_17 : decode cX11_offBehind 17 = .ok (.lload_n 2, 1) := by decide +kernel
theorem dX11_offBehind_18 : decode cX11_offBehind 18 = .ok (.ladd, 1) := by decide +kernel
theorem dX11_offBehind_19 : decode cX11_offBehind 19 = .ok (.lastore, 1) := by decide +kernel
theorem dX11_offBehind_20 : decode cX11_offBehind 20 = .ok (.lconst 0, 1) := by decide +kernel
theorem dX11_offBehind_21 : decode cX11_offBehind 21 = .ok (.lreturn, 1) := by decide +kernel
theorem dX11_offBehind_22 : decode cX11_offBehind 22 = .ok (.iload_n 1, 1) := by decide +kernel
theorem dX11_offBehind_23 : decode cX11_offBehind 23 = .ok (.bipush 13, 2) := by decide +kernel
theorem dX11_offBehind_25 : decode cX11_offBehind 25 = .ok (.isub, 1) := by decide +kernel
theorem dX11_offBehind_26 : decode cX11_offBehind 26 = .ok (.iload 4, 2) := by decide +kernel
theorem dX11_offBehind_28 : decode cX11_offBehind 28 = .ok (.if_icmp .ne 7, 3) := by decide +kernel
theorem dX11_offBehind_31 : decode cX11_offBehind 31 = .ok (.lconst 0, 1) := by decide +kernel
theorem dX11_offBehind_32 : decode cX11_offBehind 32 = .ok (.goto 4, 3) := by decide +kernel
theorem dX11_offBehind_35 : decode cX11_offBehind 35 = .ok (.lload_n 2, 1) := by decide +kernel
theorem dX11_offBehind_36 : decode cX11_offBehind 36 = .ok (.lreturn, 1) := by decide +kernel
theorem dX11_mend_0 : decode cX11_mend 0 = .ok (.aload_n 0, 1) := by decide +kernel
theorem dX11_mend_1 : decode cX11_mend 1 = .ok (.iload_n 1, 1) := by decide +kernel
theorem dX11_mend_2 : decode cX11_mend 2 = .ok (.invokevirtual 191, 3) := by decide +kernel
theorem dX11_mend_5 : decode cX11_mend 5 = .ok (.astore_n 3, 1) := by decide +kernel
theorem dX11_mend_6 : decode cX11_mend 6 = .ok (.aload_n 0, 1) := by decide +kernel
theorem dX11_mend_7 : decode cX11_mend 7 = .ok (.iload_n 2, 1) := by decide +kernel
theorem dX11_mend_8 : decode cX11_mend 8 = .ok (.invokevirtual 191, 3) := by decide +kernel
theorem dX11_mend_11 : decode cX11_mend 11 = .ok (.astore 4, 2) := by decide +kernel
theorem dX11_mend_13 : decode cX11_mend 13 = .ok (.aload_n 3, 1) := by decide +kernel
theorem dX11_mend_14 : decode cX11_mend 14 = .ok (.ifnull 8, 3) := by decide +kernel
theorem dX11_mend_17 : decode cX11_mend 17 = .ok (.aload 4, 2) := by decide +kernel
theorem dX11_mend_19 : decode cX11_mend 19 = .ok (.ifnonnull 5, 3) := by decide +kernel
theorem dX11_mend_22 : decode cX11_mend 22 = .ok (.iconst (-1), 1) := by decide +kernel
theorem dX11_mend_23 : decode cX11_mend 23 = .ok (.ireturn, 1) := by decide +kernel
theorem dX11_mend_24 : decode cX11_mend 24 = .ok (.iconst 0, 1) := by decide +kernel
theorem dX11_mend_25 : decode cX11_mend 25 = .ok (.istore 5, 2) := by decide +kernel
theorem dX11_mend_27 : decode cX11_mend 27 = .ok (.iconst 0, 1) := by decide +kernel
theorem dX11_mend_28 : decode cX11_mend 28 = .ok (.istore 6, 2) := by decide +kernel
theorem dX11_mend_30 : decode cX11_mend 30 = .ok (.iload 6, 2) := by decide +kernel
theorem dX11_mend_32 : decode cX11_mend 32 = .ok (.aload_n 0, 1) := by decide +kernel
theorem dX11_mend_33 : decode cX11_mend 33 = .ok (.getfield 23, 3) := by decide +kernel
theorem dX11_mend_36 : decode cX11_mend 36 = .ok (.getfield 77, 3) := by decide +kernel
theorem dX11_mend_39 : decode cX11_mend 39 = .ok (.if_icmp .ge 30, 3) := by decide +kernel
theorem dX11_mend_42 : decode cX11_mend 42 = .ok (.iload 5, 2) := by decide +kernel
theorem dX11_mend_44 : decode cX11_mend 44 = .ok (.aload_n 3, 1) := by decide +kernel
theorem dX11_mend_45 : decode cX11_mend 45 = .ok (.getfield 158, 3) := by decide +kernel
theorem dX11_mend_48 : decode cX11_mend 48 = .ok (.iload 6, 2) := by decide +kernel
theorem dX11_mend_50 : decode cX11_mend 50 = .ok (.iaload, 1) := by decide +kernel
theorem dX11_mend_51 : decode cX11_mend 51 = .ok (.aload 4, 2) := by decide +kernel
theorem dX11_mend_53 : decode cX11_mend 53 = .ok (.getfield 158, 3) := by decide +kernel
theorem dX11_mend_56 : decode cX11_mend 56 = .ok (.iload 6, 2) := by decide +kernel
theorem dX11_mend_58 : decode cX11_mend 58 = .ok (.iaload, 1) := by decide +kernel
theorem dX11_mend_59 : decode cX11_mend 59 = .ok (.ixor, 1) := by decide +kernel
theorem dX11_mend_60 : decode cX11_mend 60 = .ok (.ior, 1) := by decide +kernel
theorem dX11_mend_61 : decode cX11_mend 61 = .ok (.istore 5, 2) := by decide +kernel
theorem dX11_mend_63 : decode cX11_mend 63 = .ok (.iinc 6 1, 3) := by decide +kernel
theorem dX11_mend_66 : decode cX11_mend 66 = .ok (.goto (-36), 3) := by decide +kernel
theorem dX11_mend_69 : decode cX11_mend 69 = .ok (.iconst 0, 1) := by decide +kernel
theorem dX11_mend_70 : decode cX11_mend 70 = .ok (.istore 6, 2) := by decide +kernel
theorem dX11_mend_72 : decode cX11_mend 72 = .ok (.iload 6, 2) := by decide +kernel
theorem dX11_mend_74 : decode cX11_mend 74 = .ok (.aload 4, 2) := by decide +kernel
theorem dX11_mend_76 : decode cX11_mend 76 = .ok (.getfield 361, 3) := by decide +kernel
theorem dX11_mend_79 : decode cX11_mend 79 = .ok (.if_icmp .ge 45, 3) := by decide +kernel
theorem dX11_mend_82 : decode cX11_mend 82 = .ok (.iload 6, 2) := by decide +kernel
theorem dX11_mend_84 : decode cX11_mend 84 = .ok (.aload_n 3, 1) := by decide +kernel
theorem dX11_mend_85 : decode cX11_mend 85 = .ok (.getfield 361, 3) := by decide +kernel
theorem dX11_mend_88 : decode cX11_mend 88 = .ok (.if_icmp .ge 21, 3) := by decide +kernel
theorem dX11_mend_91 : decode cX11_mend 91 = .ok (.aload_n 3, 1) := by decide +kernel
theorem dX11_mend_92 : decode cX11_mend 92 = .ok (.getfield 151, 3) := by decide +kernel
theorem dX11_mend_95 : decode cX11_mend 95 = .ok (.iload 6, 2) := by decide +kernel
theorem dX11_mend_97 : decode cX11_mend 97 = .ok (.iaload, 1) := by decide +kernel
theorem dX11_mend_98 : decode cX11_mend 98 = .ok (.aload 4, 2) := by decide +kernel
theorem dX11_mend_100 : decode cX11_mend 100 = .ok (.getfield 151, 3) := by decide +kernel
theorem dX11_mend_103 : decode cX11_mend 103 = .ok (.iload 6, 2) := by decide +kernel
theorem dX11_mend_105 : decode cX11_mend 105 = .ok (.iaload, 1) := by decide +kernel
theorem dX11_mend_106 : decode cX11_mend 106 = .ok (.if_icmp .eq 12, 3) := by decide +kernel
theorem dX11_mend_109 : decode cX11_mend 109 = .ok (.iload 5, 2) := by decide +kernel
theorem dX11_mend_111 : decode cX11_mend 111 = .ok (.iconst 1, 1) := by decide +kernel
theorem dX11_mend_112 : decode cX11_mend 112 = .ok (.iload 6, 2) := by decide +kernel
theorem dX11_mend_114 : decode cX11_mend 114 = .ok (.ishl, 1) := by decide +kernel
theorem dX11_mend_115 : decode cX11_mend 115 = .ok (.ior, 1) := by decide +kernel
theorem dX11_mend_116 : decode cX11_mend 116 = .ok (.istore 5, 2) := by decide +kernel
theorem dX11_mend_118 : decode cX11_mend 118 = .ok (.iinc 6 1, 3) := by decide +kernel
theorem dX11_mend_121 : decode cX11_mend 121 = .ok (.goto (-49), 3) := by decide +kernel
theorem dX11_mend_124 : decode cX11_mend 124 = .ok (.iload 5, 2) := by decide +kernel
theorem dX11_mend_126 : decode cX11_mend 126 = .ok (.iconst 1, 1) := by decide +kernel
theorem dX11_mend_127 : decode cX11_mend 127 = .ok (.aload 4, 2) := by decide +kernel
theorem dX11_mend_129 : decode cX11_mend 129 = .ok (.getfield 361, 3) := by decide +kernel
theorem dX11_mend_132 : decode cX11_mend 132 = .ok (.ishl, 1) := by decide +kernel
theorem dX11_mend_133 : decode cX11_mend 133 = .ok (.iconst 1, 1) := by decide +kernel
theorem dX11_mend_134 : decode cX11_mend 134 = .ok (.isub, 1) := by decide +kernel
theorem dX11_mend_135 : decode cX11_mend 135 = .ok (.iand, 1) := by decide +kernel
theorem dX11_mend_136 : decode cX11_mend 136 = .ok (.ireturn, 1) := by decide +kernel
theorem dX11_swap_0 : decode cX11_swap 0 = .ok (.aload_n 0, 1) := by decide +kernel
theorem dX11_swap_1 : decode cX11_swap 1 = .ok (.iload_n 1, 1) := by decide +kernel
theorem dX11_swap_2 : decode cX11_swap 2 = .ok (.invokevirtual 191, 3) := by decide +kernel
theorem dX11_swap_5 : decode cX11_swap 5 = .ok (.astore_n 3, 1) := by decide +kernel
theorem dX11_swap_6 : decode cX11_swap 6 = .ok (.aload_n 3, 1) := by decide +kernel
theorem dX11_swap_7 : decode cX11_swap 7 = .ok (.ifnull 17, 3) := by decide +kernel
theorem dX11_swap_10 : decode cX11_swap 10 = .ok (.iload_n 2, 1) := by decide +kernel
theorem dX11_swap_11 : decode cX11_swap 11 = .ok (.ifCond .lt 13, 3) := by decide +kernel
theorem dX11_swap_14 : decode cX11_swap 14 = .ok (.iload_n 2, 1) := by decide +kernel
theorem dX11_swap_15 : decode cX11_swap 15 = .ok (.aload_n 3, 1) := by decide +kernel
theorem dX11_swap_16 : decode cX11_swap 16 = .ok (.getfield 361, 3) := by decide +kernel
theorem dX11_swap_19 : decode cX11_swap 19 = .ok (.iconst 1, 1) := by decide +kernel
theorem dX11_swap_20 : decode cX11_swap 20 = .ok (.isub, 1) := by decide +kernel
theorem dX11_swap_21 : decode cX11_swap 21 = .ok (.if_icmp .lt 5, 3) := by decide +kernel
theorem dX11_swap_24 : decode cX11_swap 24 = .ok (.iconst (-1), 1) := by decide +kernel
theorem dX11_swap_25 : decode cX11_swap 25 = .ok (.ireturn, 1) := by decide +kernel
theorem dX11_swap_26 : decode cX11_swap 26 = .ok (.aload_n 3, 1) := by decide +kernel
theorem dX11_swap_27 : decode cX11_swap 27 = .ok (.getfield 151, 3) := by decide +kernel
theorem dX11_swap_30 : decode cX11_swap 30 = .ok (.iload_n 2, 1) := by decide +kernel
theorem dX11_swap_31 : decode cX11_swap 31 = .ok (.iaload, 1) := by decide +kernel
theorem dX11_swap_32 : decode cX11_swap 32 = .ok (.aload_n 3, 1) := by decide +kernel
theorem dX11_swap_33 : decode cX11_swap 33 = .ok (.getfield 151, 3) := by decide +kernel
theorem dX11_swap_36 : decode cX11_swap 36 = .ok (.iload_n 2, 1) := by decide +kernel
theorem dX11_swap_37 : decode cX11_swap 37 = .ok (.iconst 1, 1) := by decide +kernel
theorem dX11_swap_38 : decode cX11_swap 38 = .ok (.iadd, 1) := by decide +kernel
theorem dX11_swap_39 : decode cX11_swap 39 = .ok (.iaload, 1) := by decide +kernel
theorem dX11_swap_40 : decode cX11_swap 40 = .ok (.if_icmp .ne 5, 3) := by decide +kernel
theorem dX11_swap_43 : decode cX11_swap 43 = .ok (.iconst 1, 1) := by decide +kernel
theorem dX11_swap_44 : decode cX11_swap 44 = .ok (.ireturn, 1) := by decide +kernel
theorem dX11_swap_45 : decode cX11_swap 45 = .ok (.iconst 0, 1) := by decide +kernel
theorem dX11_swap_46 : decode cX11_swap 46 = .ok (.istore 4, 2) := by decide +kernel
theorem dX11_swap_48 : decode cX11_swap 48 = .ok (.iload 4, 2) := by decide +kernel
theorem dX11_swap_50 : decode cX11_swap 50 = .ok (.aload_n 0, 1) := by decide +kernel
theorem dX11_swap_51 : decode cX11_swap 51 = .ok (.getfield 23, 3) := by decide +kernel
theorem dX11_swap_54 : decode cX11_swap 54 = .ok (.getfield 77, 3) := by decide +kernel
theorem dX11_swap_57 : decode cX11_swap 57 = .ok (.if_icmp .ge 30, 3) := by decide +kernel
theorem dX11_swap_60 : decode cX11_swap 60 = .ok (.aload_n 3, 1) := by decide +kernel
theorem dX11_swap_61 : decode cX11_swap 61 = .ok (.getfield 158, 3) := by decide +kernel
theorem dX11_swap_64 : decode cX11_swap 64 = .ok (.iload 4, 2) := by decide +kernel
theorem dX11_swap_66 : decode cX11_swap 66 = .ok (.iaload, 1) := by decide +kernel
theorem dX11_swap_67 : decode cX11_swap 67 = .ok (.iconst 4, 1) := by decide +kernel
theorem dX11_swap_68 : decode cX11_swap 68 = .ok (.iload_n 2, 1) := by decide +kernel
theorem dX11_swap_69 : decode cX11_swap 69 = .ok (.ishl, 1) := by decide +kernel
theorem dX11_swap_70 : decode cX11_swap 70 = .ok (.iconst 1, 1) := by decide +kernel
theorem dX11_swap_71 : decode cX11_swap 71 = .ok (.isub, 1) := by decide +kernel
theorem dX11_swap_72 : decode cX11_swap 72 = .ok (.iand, 1) := by decide +kernel
theorem dX11_swap_73 : decode cX11_swap 73 = .ok (.iconst 3, 1) := by decide +kernel
theorem dX11_swap_74 : decode cX11_swap 74 = .ok (.iload_n 2, 1) := by decide +kernel
theorem dX11_swap_75 : decode cX11_swap 75 = .ok (.ishl, 1) := by decide +kernel
theorem dX11_swap_76 : decode cX11_swap 76 = .ok (.if_icmp .ne 5, 3) := by decide +kernel
theorem dX11_swap_79 : decode cX11_swap 79 = .ok (.iconst 0, 1) := by decide +kernel
theorem dX11_swap_80 : decode cX11_swap 80 = .ok (.ireturn, 1) := by decide +kernel
theorem dX11_swap_81 : decode cX11_swap 81 = .ok (.iinc 4 1, 3) := by decide +kernel
theorem dX11_swap_84 : decode cX11_swap 84 = .ok (.goto (-36), 3) := by decide +kernel
theorem dX11_swap_87 : decode cX11_swap 87 = .ok (.iconst 1, 1) := by decide +kernel
theorem dX11_swap_88 : decode cX11_swap 88 = .ok (.ireturn, 1) := by decide +kernel
theorem dX11_burden_0 : decode cX11_burden 0 = .ok (.aload_n 0, 1) := by decide +kernel
theorem dX11_burden_1 : decode cX11_burden 1 = .ok (.iload_n 1, 1) := by decide +kernel
theorem dX11_burden_2 : decode cX11_burden 2 = .ok (.invokevirtual 191, 3) := by decide +kernel
theorem dX11_burden_5 : decode cX11_burden 5 = .ok (.astore_n 3, 1) := by decide +kernel
theorem dX11_burden_6 : decode cX11_burden 6 = .ok (.aload_n 3, 1) := by decide +kernel
theorem dX11_burden_7 : decode cX11_burden 7 = .ok (.ifnull 16, 3) := by decide +kernel
theorem dX11_burden_10 : decode cX11_burden 10 = .ok (.iload_n 2, 1) := by decide +kernel
theorem dX11_burden_11 : decode cX11_burden 11 = .ok (.iconst (-1), 1) := by decide +kernel
theorem dX11_burden_12 : decode cX11_burden 12 = .ok (.if_icmp .lt 11, 3) := by decide +kernel
theorem dX11_burden_15 : decode cX11_burden 15 = .ok (.iload_n 2, 1) := by decide +kernel
theorem dX11_burden_16 : decode cX11_burden 16 = .ok (.aload_n 3, 1) := by decide +kernel
theorem dX11_burden_17 : decode cX11_burden 17 = .ok (.getfield 361, 3) := by decide +kernel
theorem dX11_burden_20 : decode cX11_burden 20 = .ok (.if_icmp .lt 5, 3) := by decide +kernel
theorem dX11_burden_23 : decode cX11_burden 23 = .ok (.iconst (-1), 1) := by decide +kernel
theorem dX11_burden_24 : decode cX11_burden 24 = .ok (.ireturn, 1) := by decide +kernel
theorem dX11_burden_25 : decode cX11_burden 25 = .ok (.iload_n 2, 1) := by decide +kernel
theorem dX11_burden_26 : decode cX11_burden 26 = .ok (.iconst (-1), 1) := by decide +kernel
theorem dX11_burden_27 : decode cX11_burden 27 = .ok (.if_icmp .eq 10, 3) := by decide +kernel
theorem dX11_burden_30 : decode cX11_burden 30 = .ok (.aload_n 0, 1) := by decide +kernel
theorem dX11_burden_31 : decode cX11_burden 31 = .ok (.aload_n 3, 1) := by decide +kernel
theorem dX11_burden_32 : decode cX11_burden 32 = .ok (.iload_n 2, 1) := by decide +kernel
theorem dX11_burden_33 : decode cX11_burden 33 = .ok (.invokevirtual 364, 3) := by decide +kernel
theorem dX11_burden_36 : decode cX11_burden 36 = .ok (.ireturn, 1) := by decide +kernel
theorem dX11_burden_37 : decode cX11_burden 37 = .ok (.iconst 0, 1) := by decide +kernel
theorem dX11_burden_38 : decode cX11_burden 38 = .ok (.istore 4, 2) := by decide +kernel
theorem dX11_burden_40 : decode cX11_burden 40 = .ok (.iconst 0, 1) := by decide +kernel
theorem dX11_burden_41 : decode cX11_burden 41 = .ok (.istore 5, 2) := by decide +kernel
theorem dX11_burden_43 : decode cX11_burden 43 = .ok (.iload 5, 2) := by decide +kernel
theorem dX11_burden_45 : decode cX11_burden 45 = .ok (.aload_n 3, 1) := by decide +kernel
theorem dX11_burden_46 : decode cX11_burden 46 = .ok (.getfield 361, 3) := by decide +kernel
theorem dX11_burden_49 : decode cX11_burden 49 = .ok (.if_icmp .ge 28, 3) := by decide +kernel
theorem dX11_burden_52 : decode cX11_burden 52 = .ok (.aload_n 0, 1) := by decide +kernel
theorem dX11_burden_53 : decode cX11_burden 53 = .ok (.aload_n 3, 1) := by decide +kernel
theorem dX11_burden_54 : decode cX11_burden 54 = .ok (.iload 5, 2) := by decide +kernel
theorem dX11_burden_56 : decode cX11_burden 56 = .ok (.invokevirtual 364, 3) := by decide +kernel
theorem dX11_burden_59 : decode cX11_burden 59 = .ok (.ifCond .ne 12, 3) := by decide +kernel
theorem dX11_burden_62 : decode cX11_burden 62 = .ok (.iload 4, 2) := by decide +kernel
theorem dX11_burden_64 : decode cX11_burden 64 = .ok (.iconst 1, 1) := by decide +kernel
theorem dX11_burden_65 : decode cX11_burden 65 = .ok (.iload 5, 2) := by decide +kernel
theorem dX11_burden_67 : decode cX11_burden 67 = .ok (.ishl, 1) := by decide +kernel
theorem dX11_burden_68 : decode cX11_burden 68 = .ok (.ior, 1) := by decide +kernel
theorem dX11_burden_69 : decode cX11_burden 69 = .ok (.istore 4, 2) := by decide +kernel
theorem dX11_burden_71 : decode cX11_burden 71 = .ok (.iinc 5 1, 3) := by decide +kernel
theorem dX11_burden_74 : decode cX11_burden 74 = .ok (.goto (-31), 3) := by decide +kernel
theorem dX11_burden_77 : decode cX11_burden 77 = .ok (.iload 4, 2) := by decide +kernel
theorem dX11_burden_79 : decode cX11_burden 79 = .ok (.ireturn, 1) := by decide +kernel
theorem dX11_burdenOf_0 : decode cX11_burdenOf 0 = .ok (.iconst 0, 1) := by decide +kernel
theorem dX11_burdenOf_1 : decode cX11_burdenOf 1 = .ok (.istore_n 3, 1) := by decide +kernel
theorem dX11_burdenOf_2 : decode cX11_burdenOf 2 = .ok (.iconst 0, 1) := by decide +kernel
theorem dX11_burdenOf_3 : decode cX11_burdenOf 3 = .ok (.istore 4, 2) := by decide +kernel
theorem dX11_burdenOf_5 : decode cX11_burdenOf 5 = .ok (.iload 4, 2) := by decide +kernel
theorem dX11_burdenOf_7 : decode cX11_burdenOf 7 = .ok (.aload_n 0, 1) := by decide +kernel
theorem dX11_burdenOf_8 : decode cX11_burdenOf 8 = .ok (.getfield 23, 3) := by decide +kernel
theorem dX11_burdenOf_11 : decode cX11_burdenOf 11 = .ok (.getfield 77, 3) := by decide +kernel
theorem dX11_burdenOf_14 : decode cX11_burdenOf 14 = .ok (.if_icmp .ge 39, 3) := by decide +kernel
theorem dX11_burdenOf_17 : decode cX11_burdenOf 17 = .ok (.aload_n 1, 1) := by decide +kernel
theorem dX11_burdenOf_18 : decode cX11_burdenOf 18 = .ok (.aload_n 1, 1) := by decide +kernel
theorem dX11_burdenOf_19 : decode cX11_burdenOf 19 = .ok (.getfield 158, 3) := by decide +kernel
theorem dX11_burdenOf_22 : decode cX11_burdenOf 22 = .ok (.iload 4, 2) := by decide +kernel
theorem dX11_burdenOf_24 : decode cX11_burdenOf 24 = .ok (.iaload, 1) := by decide +kernel
theorem dX11_burdenOf_25 : decode cX11_burdenOf 25 = .ok (.iconst 1, 1) := by decide +kernel
theorem dX11_burdenOf_26 : decode cX11_burdenOf 26 = .ok (.iload_n 2, 1) := by decide +kernel
theorem dX11_burdenOf_27 : decode cX11_burdenOf 27 = .ok (.ishl, 1) := by decide +kernel
theorem dX11_burdenOf_28 : decode cX11_burdenOf 28 = .ok (.iconst (-1), 1) := by decide +kernel
theorem dX11_burdenOf_29 : decode cX11_burdenOf 29 = .ok (.ixor, 1) := by decide +kernel
theorem dX11_burdenOf_30 : decode cX11_burdenOf 30 = .ok (.iand, 1) := by decide +kernel
theorem dX11_burdenOf_31 : decode cX11_burdenOf 31 = .ok (.invokevirtual 167, 3) := by decide +kernel
theorem dX11_burdenOf_34 : decode cX11_burdenOf 34 = .ok (.aload_n 1, 1) := by decide +kernel
theorem dX11_burdenOf_35 : decode cX11_burdenOf 35 = .ok (.getfield 164, 3) := by decide +kernel
theorem dX11_burdenOf_38 : decode cX11_burdenOf 38 = .ok (.iload 4, 2) := by decide +kernel
theorem dX11_burdenOf_40 : decode cX11_burdenOf 40 = .ok (.iaload, 1) := by decide +kernel
theorem dX11_burdenOf_41 : decode cX11_burdenOf 41 = .ok (.if_icmp .eq 6, 3) := by decide +kernel
theorem dX11_burdenOf_44 : decode cX11_burdenOf 44 = .ok (.iinc 3 1, 3) := by decide +kernel
theorem dX11_burdenOf_47 : decode cX11_burdenOf 47 = .ok (.iinc 4 1, 3) := by decide +kernel
theorem dX11_burdenOf_50 : decode cX11_burdenOf 50 = .ok (.goto (-45), 3) := by decide +kernel
theorem dX11_burdenOf_53 : decode cX11_burdenOf 53 = .ok (.iload_n 3, 1) := by decide +kernel
theorem dX11_burdenOf_54 : decode cX11_burdenOf 54 = .ok (.ireturn, 1) := by decide +kernel
theorem dX11_office_0 : decode cX11_office 0 = .ok (.aload_n 0, 1) := by decide +kernel
theorem dX11_office_1 : decode cX11_office 1 = .ok (.iload_n 1, 1) := by decide +kernel
theorem dX11_office_2 : decode cX11_office 2 = .ok (.invokevirtual 191, 3) := by decide +kernel
theorem dX11_office_5 : decode cX11_office 5 = .ok (.astore 4, 2) := by decide +kernel
theorem dX11_office_7 : decode cX11_office 7 = .ok (.aload 4, 2) := by decide +kernel
theorem dX11_office_9 : decode cX11_office 9 = .ok (.ifnull 30, 3) := by decide +kernel
theorem dX11_office_12 : decode cX11_office 12 = .ok (.aload_n 0, 1) := by decide +kernel
theorem dX11_office_13 : decode cX11_office 13 = .ok (.getfield 23, 3) := by decide +kernel
theorem dX11_office_16 : decode cX11_office 16 = .ok (.iload_n 2, 1) := by decide +kernel
theorem dX11_office_17 : decode cX11_office 17 = .ok (.invokevirtual 367, 3) := by decide +kernel
theorem dX11_office_20 : decode cX11_office 20 = .ok (.ifCond .eq 19, 3) := by decide +kernel
theorem dX11_office_23 : decode cX11_office 23 = .ok (.aload_n 0, 1) := by decide +kernel
theorem dX11_office_24 : decode cX11_office 24 = .ok (.getfield 23, 3) := by decide +kernel
theorem dX11_office_27 : decode cX11_office 27 = .ok (.iload_n 3, 1) := by decide +kernel
theorem dX11_office_28 : decode cX11_office 28 = .ok (.invokevirtual 367, 3) := by decide +kernel
theorem dX11_office_31 : decode cX11_office 31 = .ok (.ifCond .eq 8, 3) := by decide +kernel
theorem dX11_office_34 : decode cX11_office 34 = .ok (.iload_n 2, 1) := by decide +kernel
theorem dX11_office_35 : decode cX11_office 35 = .ok (.iload_n 3, 1) := by decide +kernel
theorem dX11_office_36 : decode cX11_office 36 = .ok (.if_icmp .ne 5, 3) := by decide +kernel
theorem dX11_office_39 : decode cX11_office 39 = .ok (.iconst (-1), 1) := by decide +kernel
theorem dX11_office_40 : decode cX11_office 40 = .ok (.ireturn, 1) := by decide +kernel
theorem dX11_office_41 : decode cX11_office 41 = .ok (.iconst 0, 1) := by decide +kernel
theorem dX11_office_42 : decode cX11_office 42 = .ok (.istore 5, 2) := by decide +kernel
theorem dX11_office_44 : decode cX11_office 44 = .ok (.iconst 0, 1) := by decide +kernel
theorem dX11_office_45 : decode cX11_office 45 = .ok (.istore 6, 2) := by decide +kernel
theorem dX11_office_47 : decode cX11_office 47 = .ok (.iload 6, 2) := by decide +kernel
theorem dX11_office_49 : decode cX11_office 49 = .ok (.aload_n 0, 1) := by decide +kernel
theorem dX11_office_50 : decode cX11_office 50 = .ok (.getfield 23, 3) := by decide +kernel
theorem dX11_office_53 : decode cX11_office 53 = .ok (.getfield 77, 3) := by decide +kernel
theorem dX11_office_56 : decode cX11_office 56 = .ok (.if_icmp .ge 75, 3) := by decide +kernel
theorem dX11_office_59 : decode cX11_office 59 = .ok (.iload 6, 2) := by decide +kernel
theorem dX11_office_61 : decode cX11_office 61 = .ok (.iload_n 2, 1) := by decide +kernel
theorem dX11_office_62 : decode cX11_office 62 = .ok (.ishr, 1) := by decide +kernel
theorem dX11_office_63 : decode cX11_office 63 = .ok (.iconst 1, 1) := by decide +kernel
theorem dX11_office_64 : decode cX11_office 64 = .ok (.iand, 1) := by decide +kernel
theorem dX11_office_65 : decode cX11_office 65 = .ok (.iload 6, 2) := by decide +kernel
theorem dX11_office_67 : decode cX11_office 67 = .ok (.iload_n 3, 1) := by decide +kernel
theorem dX11_office_68 : decode cX11_office 68 = .ok (.ishr, 1) := by decide +kernel
theorem dX11_office_69 : decode cX11_office 69 = .ok (.iconst 1, 1) := by decide +kernel
theorem dX11_office_70 : decode cX11_office 70 = .ok (.iand, 1) := by decide +kernel
theorem dX11_office_71 : decode cX11_office 71 = .ok (.if_icmp .ne 7, 3) := by decide +kernel
theorem dX11_office_74 : decode cX11_office 74 = .ok (.iconst 1, 1) := by decide +kernel
theorem dX11_office_75 : decode cX11_office 75 = .ok (.goto 4, 3) := by decide +kernel
theorem dX11_office_78 : decode cX11_office 78 = .ok (.iconst 0, 1) := by decide +kernel
theorem dX11_office_79 : decode cX11_office 79 = .ok (.istore 7, 2) := by decide +kernel
theorem dX11_office_81 : decode cX11_office 81 = .ok (.iload 7, 2) := by decide +kernel
theorem dX11_office_83 : decode cX11_office 83 = .ok (.ifCond .eq 8, 3) := by decide +kernel
theorem dX11_office_86 : decode cX11_office 86 = .ok (.iload 6, 2) := by decide +kernel
theorem dX11_office_88 : decode cX11_office 88 = .ok (.goto 13, 3) := by decide +kernel
theorem dX11_office_91 : decode cX11_office 91 = .ok (.iload 6, 2) := by decide +kernel
theorem dX11_office_93 : decode cX11_office 93 = .ok (.iconst 1, 1) := by decide +kernel
theorem dX11_office_94 : decode cX11_office 94 = .ok (.iload_n 2, 1) := by decide +kernel
theorem dX11_office_95 : decode cX11_office 95 = .ok (.ishl, 1) := by decide +kernel
theorem dX11_office_96 : decode cX11_office 96 = .ok (.iconst 1, 1) := by decide +kernel
theorem dX11_office_97 : decode cX11_office 97 = .ok (.iload_n 3, 1) := by decide +kernel
theorem dX11_office_98 : decode cX11_office 98 = .ok (.ishl, 1) := by decide +kernel
theorem dX11_office_99 : decode cX11_office 99 = .ok (.ior, 1) := by decide +kernel
theorem dX11_office_100 : decode cX11_office 100 = .ok (.ixor, 1) := by decide +kernel
theorem dX11_office_101 : decode cX11_office 101 = .ok (.istore 8, 2) := by decide +kernel
theorem dX11_office_103 : decode cX11_office 103 = .ok (.aload 4, 2) := by decide +kernel
theorem dX11_office_105 : decode cX11_office 105 = .ok (.getfield 164, 3) := by decide +kernel
theorem dX11_office_108 : decode cX11_office 108 = .ok (.iload 8, 2) := by decide +kernel
theorem dX11_office_110 : decode cX11_office 110 = .ok (.iaload, 1) := by decide +kernel
theorem dX11_office_111 : decode cX11_office 111 = .ok (.aload 4, 2) := by decide +kernel
theorem dX11_office_113 : decode cX11_office 113 = .ok (.getfield 164, 3) := by decide +kernel
theorem dX11_office_116 : decode cX11_office 116 = .ok (.iload 6, 2) := by decide +kernel
theorem dX11_office_118 : decode cX11_office 118 = .ok (.iaload, 1) := by decide +kernel
theorem dX11_office_119 : decode cX11_office 119 = .ok (.if_icmp .eq 6, 3) := by decide +kernel
theorem dX11_office_122 : decode cX11_office 122 = .ok (.iinc 5 1, 3) := by decide +kernel
theorem dX11_office_125 : decode cX11_office 125 = .ok (.iinc 6 1, 3) := by decide +kernel
theorem dX11_office_128 : decode cX11_office 128 = .ok (.goto (-81), 3) := by decide +kernel
theorem dX11_office_131 : decode cX11_office 131 = .ok (.iload 5, 2) := by decide +kernel
theorem dX11_office_133 : decode cX11_office 133 = .ok (.ireturn, 1) := by decide +kernel
theorem dX11_chart_0 : decode cX11_chart 0 = .ok (.aload_n 0, 1) := by decide +kernel
theorem dX11_chart_1 : decode cX11_chart 1 = .ok (.iload_n 1, 1) := by decide +kernel
theorem dX11_chart_2 : decode cX11_chart 2 = .ok (.invokevirtual 191, 3) := by decide +kernel
theorem dX11_chart_5 : decode cX11_chart 5 = .ok (.astore 4, 2) := by decide +kernel
theorem dX11_chart_7 : decode cX11_chart 7 = .ok (.aload 4, 2) := by decide +kernel
theorem dX11_chart_9 : decode cX11_chart 9 = .ok (.ifnull 23, 3) := by decide +kernel
theorem dX11_chart_12 : decode cX11_chart 12 = .ok (.iload_n 3, 1) := by decide +kernel
theorem dX11_chart_13 : decode cX11_chart 13 = .ok (.ifCond .lt 19, 3) := by decide +kernel
theorem dX11_chart_16 : decode cX11_chart 16 = .ok (.iload_n 3, 1) := by decide +kernel
theorem dX11_chart_17 : decode cX11_chart 17 = .ok (.iconst 1, 1) := by decide +kernel
theorem dX11_chart_18 : decode cX11_chart 18 = .ok (.if_icmp .gt 14, 3) := by decide +kernel
theorem dX11_chart_21 : decode cX11_chart 21 = .ok (.aload_n 0, 1) := by decide +kernel
theorem dX11_chart_22 : decode cX11_chart 22 = .ok (.getfield 48, 3) := by decide +kernel
theorem dX11_chart_25 : decode cX11_chart 25 = .ok (.iload_n 2, 1) := by decide +kernel
theorem dX11_chart_26 : decode cX11_chart 26 = .ok (.invokevirtual 370, 3) := by decide +kernel
theorem dX11_chart_29 : decode cX11_chart 29 = .ok (.ifCond .ne 5, 3) := by decide +kernel
theorem dX11_chart_32 : decode cX11_chart 32 = .ok (.iconst (-1), 1) := by decide +kernel
theorem dX11_chart_33 : decode cX11_chart 33 = .ok (.ireturn, 1) := by decide +kernel
theorem dX11_chart_34 : decode cX11_chart 34 = .ok (.aload_n 0, 1) := by decide +kernel
theorem dX11_chart_35 : decode cX11_chart 35 = .ok (.getfield 48, 3) := by decide +kernel
theorem dX11_chart_38 : decode cX11_chart 38 = .ok (.aload 4, 2) := by decide +kernel
theorem dX11_chart_40 : decode cX11_chart 40 = .ok (.iload_n 3, 1) := by decide +kernel
theorem dX11_chart_41 : decode cX11_chart 41 = .ok (.iconst 1, 1) := by decide +kernel
theorem dX11_chart_42 : decode cX11_chart 42 = .ok (.if_icmp .ne 7, 3) := by decide +kernel
theorem dX11_chart_45 : decode cX11_chart 45 = .ok (.iconst 1, 1) := by decide +kernel
theorem dX11_chart_46 : decode cX11_chart 46 = .ok (.goto 4, 3) := by decide +kernel
theorem dX11_chart_49 : decode cX11_chart 49 = .ok (.iconst 0, 1) := by decide +kernel
theorem dX11_chart_50 : decode cX11_chart 50 = .ok (.invokevirtual 373, 3) := by decide +kernel
theorem dX11_chart_53 : decode cX11_chart 53 = .ok (.ireturn, 1) := by decide +kernel
theorem dX11_least_0 : decode cX11_least 0 = .ok (.aload_n 0, 1) := by decide +kernel
theorem dX11_least_1 : decode cX11_least 1 = .ok (.iload_n 1, 1) := by decide +kernel
theorem dX11_least_2 : decode cX11_least 2 = .ok (.invokevirtual 191, 3) := by decide +kernel
theorem dX11_least_5 : decode cX11_least 5 = .ok (.astore_n 3, 1) := by decide +kernel
theorem dX11_least_6 : decode cX11_least 6 = .ok (.aload_n 3, 1) := by decide +kernel
theorem dX11_least_7 : decode cX11_least 7 = .ok (.ifnull 12, 3) := by decide +kernel
theorem dX11_least_10 : decode cX11_least 10 = .ok (.iload_n 2, 1) := by decide +kernel
theorem dX11_least_11 : decode cX11_least 11 = .ok (.ifCond .lt 8, 3) := by decide +kernel
theorem dX11_least_14 : decode cX11_least 14 = .ok (.iload_n 2, 1) := by decide +kernel
theorem dX11_least_15 : decode cX11_least 15 = .ok (.iconst 1, 1) := by decide +kernel
theorem dX11_least_16 : decode cX11_least 16 = .ok (.if_icmp .le 5, 3) := by decide +kernel
theorem dX11_least_19 : decode cX11_least 19 = .ok (.iconst (-1), 1) := by decide +kernel
theorem dX11_least_20 : decode cX11_least 20 = .ok (.ireturn, 1) := by decide +kernel
theorem dX11_least_21 : decode cX11_least 21 = .ok (.aload_n 0, 1) := by decide +kernel
theorem dX11_least_22 : decode cX11_least 22 = .ok (.getfield 48, 3) := by decide +kernel
theorem dX11_least_25 : decode cX11_least 25 = .ok (.aload_n 3, 1) := by decide +kernel
theorem dX11_least_26 : decode cX11_least 26 = .ok (.invokevirtual 377, 3) := by decide +kernel
theorem dX11_least_29 : decode cX11_least 29 = .ok (.iload_n 2, 1) := by decide +kernel
theorem dX11_least_30 : decode cX11_least 30 = .ok (.ifCond .ne 10, 3) := by decide +kernel
theorem dX11_least_33 : decode cX11_least 33 = .ok (.aload_n 3, 1) := by decide +kernel
theorem dX11_least_34 : decode cX11_least 34 = .ok (.getfield 380, 3) := by decide +kernel
theorem dX11_least_37 : decode cX11_least 37 = .ok (.goto 7, 3) := by decide +kernel
theorem dX11_least_40 : decode cX11_least 40 = .ok (.aload_n 3, 1) := by decide +kernel
theorem dX11_least_41 : decode cX11_least 41 = .ok (.getfield 383, 3) := by decide +kernel
theorem dX11_least_44 : decode cX11_least 44 = .ok (.ireturn, 1) := by decide +kernel
theorem dX11_straight_0 : decode cX11_straight 0 = .ok (.aload_n 0, 1) := by decide +kernel
theorem dX11_straight_1 : decode cX11_straight 1 = .ok (.iload_n 1, 1) := by decide +kernel
theorem dX11_straight_2 : decode cX11_straight 2 = .ok (.invokevirtual 191, 3) := by decide +kernel
theorem dX11_straight_5 : decode cX11_straight 5 = .ok (.astore 4, 2) := by decide +kernel
theorem dX11_straight_7 : decode cX11_straight 7 = .ok (.aload 4, 2) := by decide +kernel
theorem dX11_straight_9 : decode cX11_straight 9 = .ok (.ifnull 30, 3) := by decide +kernel
theorem dX11_straight_12 : decode cX11_straight 12 = .ok (.iload_n 3, 1) := by decide +kernel
theorem dX11_straight_13 : decode cX11_straight 13 = .ok (.iconst (-1), 1) := by decide +kernel
theorem dX11_straight_14 : decode cX11_straight 14 = .ok (.if_icmp .eq 14, 3) := by decide +kernel
theorem dX11_straight_17 : decode cX11_straight 17 = .ok (.aload_n 0, 1) := by decide +kernel
theorem dX11_straight_18 : decode cX11_straight 18 = .ok (.getfield 23, 3) := by decide +kernel
theorem dX11_straight_21 : decode cX11_straight 21 = .ok (.iload_n 3, 1) := by decide +kernel
theorem dX11_straight_22 : decode cX11_straight 22 = .ok (.invokevirtual 195, 3) := by decide +kernel
theorem dX11_straight_25 : decode cX11_straight 25 = .ok (.ifCond .eq 14, 3) := by decide +kernel
theorem dX11_straight_28 : decode cX11_straight 28 = .ok (.aload_n 0, 1) := by decide +kernel
theorem dX11_straight_29 : decode cX11_straight 29 = .ok (.getfield 48, 3) := by decide +kernel
theorem dX11_straight_32 : decode cX11_straight 32 = .ok (.iload_n 2, 1) := by decide +kernel
theorem dX11_straight_33 : decode cX11_straight 33 = .ok (.invokevirtual 370, 3) := by decide +kernel
theorem dX11_straight_36 : decode cX11_straight 36 = .ok (.ifCond .ne 5, 3) := by decide +kernel
theorem dX11_straight_39 : decode cX11_straight 39 = .ok (.iconst (-1), 1) := by decide +kernel
theorem dX11_straight_40 : decode cX11_straight 40 = .ok (.ireturn, 1) := by decide +kernel
theorem dX11_straight_41 : decode cX11_straight 41 = .ok (.iload_n 3, 1) := by decide +kernel
theorem dX11_straight_42 : decode cX11_straight 42 = .ok (.iconst (-1), 1) := by decide +kernel
theorem dX11_straight_43 : decode cX11_straight 43 = .ok (.if_icmp .eq 17, 3) := by decide +kernel
theorem dX11_straight_46 : decode cX11_straight 46 = .ok (.aload_n 0, 1) := by decide +kernel
theorem dX11_straight_47 : decode cX11_straight 47 = .ok (.getfield 48, 3) := by decide +kernel
theorem dX11_straight_50 : decode cX11_straight 50 = .ok (.aload 4, 2) := by decide +kernel
theorem dX11_straight_52 : decode cX11_straight 52 = .ok (.iload_n 3, 1) := by decide +kernel
theorem dX11_straight_53 : decode cX11_straight 53 = .ok (.invokevirtual 386, 3) := by decide +kernel
theorem dX11_straight_56 : decode cX11_straight 56 = .ok (.invokestatic 389, 3) := by decide +kernel
theorem dX11_straight_59 : decode cX11_straight 59 = .ok (.ireturn, 1) := by decide +kernel
theorem dX11_straight_60 : decode cX11_straight 60 = .ok (.iconst 0, 1) := by decide +kernel
theorem dX11_straight_61 : decode cX11_straight 61 = .ok (.istore 5, 2) := by decide +kernel
theorem dX11_straight_63 : decode cX11_straight 63 = .ok (.iconst 0, 1) := by decide +kernel
theorem dX11_straight_64 : decode cX11_straight 64 = .ok (.istore 6, 2) := by decide +kernel
theorem dX11_straight_66 : decode cX11_straight 66 = .ok (.iload 6, 2) := by decide +kernel
theorem dX11_straight_68 : decode cX11_straight 68 = .ok (.aload_n 0, 1) := by decide +kernel
theorem dX11_straight_69 : decode cX11_straight 69 = .ok (.getfield 23, 3) := by decide +kernel
theorem dX11_straight_72 : decode cX11_straight 72 = .ok (.getfield 77, 3) := by decide +kernel
theorem dX11_straight_75 : decode cX11_straight 75 = .ok (.if_icmp .ge 34, 3) := by decide +kernel
theorem dX11_straight_78 : decode cX11_straight 78 = .ok (.iload 5, 2) := by decide +kernel
theorem dX11_straight_80 : decode cX11_straight 80 = .ok (.aload_n 0, 1) := by decide +kernel
theorem dX11_straight_81 : decode cX11_straight 81 = .ok (.getfield 55, 3) := by decide +kernel
theorem dX11_straight_84 : decode cX11_straight 84 = .ok (.aload_n 0, 1) := by decide +kernel
theorem dX11_straight_85 : decode cX11_straight 85 = .ok (.getfield 48, 3) := by decide +kernel
theorem dX11_straight_88 : decode cX11_straight 88 = .ok (.aload 4, 2) := by decide +kernel
theorem dX11_straight_90 : decode cX11_straight 90 = .ok (.iload 6, 2) := by decide +kernel
theorem dX11_straight_92 : decode cX11_straight 92 = .ok (.invokevirtual 386, 3) := by decide +kernel
theorem dX11_straight_95 : decode cX11_straight 95 = .ok (.invokevirtual 394, 3) := by decide +kernel
theorem dX11_straight_98 : decode cX11_straight 98 = .ok (.invokestatic 15, 3) := by decide +kernel
theorem dX11_straight_101 : decode cX11_straight 101 = .ok (.istore 5, 2) := by decide +kernel
theorem dX11_straight_103 : decode cX11_straight 103 = .ok (.iinc 6 1, 3) := by decide +kernel
theorem dX11_straight_106 : decode cX11_straight 106 = .ok (.goto (-40), 3) := by decide +kernel
theorem dX11_straight_109 : decode cX11_straight 109 = .ok (.iload 5, 2) := by decide +kernel
theorem dX11_straight_111 : decode cX11_straight 111 = .ok (.ireturn, 1) := by decide +kernel
theorem dX11_ruling_0 : decode cX11_ruling 0 = .ok (.aload_n 0, 1) := by decide +kernel
theorem dX11_ruling_1 : decode cX11_ruling 1 = .ok (.getfield 23, 3) := by decide +kernel
theorem dX11_ruling_4 : decode cX11_ruling 4 = .ok (.iload_n 1, 1) := by decide +kernel
theorem dX11_ruling_5 : decode cX11_ruling 5 = .ok (.invokevirtual 195, 3) := by decide +kernel
theorem dX11_ruling_8 : decode cX11_ruling 8 = .ok (.ifCond .eq 22, 3) := by decide +kernel
theorem dX11_ruling_11 : decode cX11_ruling 11 = .ok (.iload_n 2, 1) := by decide +kernel
theorem dX11_ruling_12 : decode cX11_ruling 12 = .ok (.invokestatic 282, 3) := by decide +kernel
theorem dX11_ruling_15 : decode cX11_ruling 15 = .ok (.ifCond .eq 15, 3) := by decide +kernel
theorem dX11_ruling_18 : decode cX11_ruling 18 = .ok (.aload_n 0, 1) := by decide +kernel
theorem dX11_ruling_19 : decode cX11_ruling 19 = .ok (.getfield 89, 3) := by decide +kernel
theorem dX11_ruling_22 : decode cX11_ruling 22 = .ok (.iload_n 1, 1) := by decide +kernel
theorem dX11_ruling_23 : decode cX11_ruling 23 = .ok (.iload_n 2, 1) := by decide +kernel
theorem dX11_ruling_24 : decode cX11_ruling 24 = .ok (.invokevirtual 397, 3) := by decide +kernel
theorem dX11_ruling_27 : decode cX11_ruling 27 = .ok (.goto 4, 3) := by decide +kernel
theorem dX11_ruling_30 : decode cX11_ruling 30 = .ok (.iconst (-1), 1) := by decide +kernel
theorem dX11_ruling_31 : decode cX11_ruling 31 = .ok (.ireturn, 1) := by decide +kernel
theorem dX11_against_0 : decode cX11_against 0 = .ok (.aload_n 0, 1) := by decide +kernel
theorem dX11_against_1 : decode cX11_against 1 = .ok (.iload_n 1, 1) := by decide +kernel
theorem dX11_against_2 : decode cX11_against 2 = .ok (.invokevirtual 191, 3) := by decide +kernel
theorem dX11_against_5 : decode cX11_against 5 = .ok (.astore_n 2, 1) := by decide +kernel
theorem dX11_against_6 : decode cX11_against 6 = .ok (.aload_n 2, 1) := by decide +kernel
theorem dX11_against_7 : decode cX11_against 7 = .ok (.ifnonnull 7, 3) := by decide +kernel
theorem dX11_against_10 : decode cX11_against 10 = .ok (.iconst (-1), 1) := by decide +kernel
theorem dX11_against_11 : decode cX11_against 11 = .ok (.goto 12, 3) := by decide +kernel
theorem dX11_against_14 : decode cX11_against 14 = .ok (.aload_n 0, 1) := by decide +kernel
theorem dX11_against_15 : decode cX11_against 15 = .ok (.getfield 89, 3) := by decide +kernel
theorem dX11_against_18 : decode cX11_against 18 = .ok (.aload_n 2, 1) := by decide +kernel
theorem dX11_against_19 : decode cX11_against 19 = .ok (.iconst 0, 1) := by decide +kernel
theorem dX11_against_20 : decode cX11_against 20 = .ok (.invokevirtual 399, 3) := by decide +kernel
theorem dX11_against_23 : decode cX11_against 23 = .ok (.ireturn, 1) := by decide +kernel
theorem dX11_cure_0 : decode cX11_cure 0 = .ok (.aload_n 0, 1) := by decide +kernel
theorem dX11_cure_1 : decode cX11_cure 1 = .ok (.iload_n 1, 1) := by decide +kernel
theorem dX11_cure_2 : decode cX11_cure 2 = .ok (.invokevirtual 191, 3) := by decide +kernel
theorem dX11_cure_5 : decode cX11_cure 5 = .ok (.astore_n 2, 1) := by decide +kernel
theorem dX11_cure_6 : decode cX11_cure 6 = .ok (.aload_n 2, 1) := by decide +kernel
theorem dX11_cure_7 : decode cX11_cure 7 = .ok (.ifnonnull 5, 3) := by decide +kernel
theorem dX11_cure_10 : decode cX11_cure 10 = .ok (.iconst (-1), 1) := by decide +kernel
theorem dX11_cure_11 : decode cX11_cure 11 = .ok (.ireturn, 1) := by decide +kernel
theorem dX11_cure_12 : decode cX11_cure 12 = .ok (.iconst (-1), 1) := by decide +kernel
theorem dX11_cure_13 : decode cX11_cure 13 = .ok (.istore_n 3, 1) := by decide +kernel
theorem dX11_cure_14 : decode cX11_cure 14 = .ok (.iconst 0, 1) := by decide +kernel
theorem dX11_cure_15 : decode cX11_cure 15 = .ok (.istore 4, 2) := by decide +kernel
theorem dX11_cure_17 : decode cX11_cure 17 = .ok (.iload 4, 2) := by decide +kernel
theorem dX11_cure_19 : decode cX11_cure 19 = .ok (.iconst 1, 1) := by decide +kernel
theorem dX11_cure_20 : decode cX11_cure 20 = .ok (.aload_n 2, 1) := by decide +kernel
theorem dX11_cure_21 : decode cX11_cure 21 = .ok (.getfield 361, 3) := by decide +kernel
theorem dX11_cure_24 : decode cX11_cure 24 = .ok (.ishl, 1) := by decide +kernel
theorem dX11_cure_25 : decode cX11_cure 25 = .ok (.if_icmp .ge 34, 3) := by decide +kernel
theorem dX11_cure_28 : decode cX11_cure 28 = .ok (.iload 4, 2) := by decide +kernel
theorem dX11_cure_30 : decode cX11_cure 30 = .ok (.iload_n 3, 1) := by decide +kernel
theorem dX11_cure_31 : decode cX11_cure 31 = .ok (.invokestatic 227, 3) := by decide +kernel
theorem dX11_cure_34 : decode cX11_cure 34 = .ok (.ifCond .eq 19, 3) := by decide +kernel
theorem dX11_cure_37 : decode cX11_cure 37 = .ok (.aload_n 0, 1) := by decide +kernel
theorem dX11_cure_38 : decode cX11_cure 38 = .ok (.getfield 89, 3) := by decide +kernel
theorem dX11_cure_41 : decode cX11_cure 41 = .ok (.aload_n 2, 1) := by decide +kernel
theorem dX11_cure_42 : decode cX11_cure 42 = .ok (.iload 4, 2) := by decide +kernel
theorem dX11_cure_44 : decode cX11_cure 44 = .ok (.invokevirtual 399, 3) := by decide +kernel
theorem dX11_cure_47 : decode cX11_cure 47 = .ok (.ifCond .ne 6, 3) := by decide +kernel
theorem dX11_cure_50 : decode cX11_cure 50 = .ok (.iload 4, 2) := by decide +kernel
theorem dX11_cure_52 : decode cX11_cure 52 = .ok (.istore_n 3, 1) := by decide +kernel
theorem dX11_cure_53 : decode cX11_cure 53 = .ok (.iinc 4 1, 3) := by decide +kernel
theorem dX11_cure_56 : decode cX11_cure 56 = .ok (.goto (-39), 3) := by decide +kernel
theorem dX11_cure_59 : decode cX11_cure 59 = .ok (.iload_n 3, 1) := by decide +kernel
theorem dX11_cure_60 : decode cX11_cure 60 = .ok (.ireturn, 1) := by decide +kernel
theorem dX11_count_0 : decode cX11_count 0 = .ok (.iload_n 1, 1) := by decide +kernel
theorem dX11_count_1 : decode cX11_count 1 = .ok (.tableswitch 93 0 6 #[43, 48, 56, 61, 69, 77, 85], 43) := by decide +kernel
theorem dX11_count_44 : decode cX11_count 44 = .ok (.aload_n 0, 1) := by decide +kernel
theorem dX11_count_45 : decode cX11_count 45 = .ok (.getfield 136, 3) := by decide +kernel
theorem dX11_count_48 : decode cX11_count 48 = .ok (.ireturn, 1) := by decide +kernel
theorem dX11_count_49 : decode cX11_count 49 = .ok (.aload_n 0, 1) := by decide +kernel
theorem dX11_count_50 : decode cX11_count 50 = .ok (.getfield 82, 3) := by decide +kernel
theorem dX11_count_53 : decode cX11_count 53 = .ok (.getfield 320, 3) := by decide +kernel
theorem dX11_count_56 : decode cX11_count 56 = .ok (.ireturn, 1) := by decide +kernel
theorem dX11_count_57 : decode cX11_count 57 = .ok (.aload_n 0, 1) := by decide +kernel
theorem dX11_count_58 : decode cX11_count 58 = .ok (.getfield 184, 3) := by decide +kernel
theorem dX11_count_61 : decode cX11_count 61 = .ok (.ireturn, 1) := by decide +kernel
theorem dX11_count_62 : decode cX11_count 62 = .ok (.aload_n 0, 1) := by decide +kernel
theorem dX11_count_63 : decode cX11_count 63 = .ok (.getfield 62, 3) := by decide +kernel
theorem dX11_count_66 : decode cX11_count 66 = .ok (.getfield 275, 3) := by decide +kernel
theorem dX11_count_69 : decode cX11_count 69 = .ok (.ireturn, 1) := by decide +kernel
theorem dX11_count_70 : decode cX11_count 70 = .ok (.aload_n 0, 1) := by decide +kernel
theorem dX11_count_71 : decode cX11_count 71 = .ok (.getfield 23, 3) := by decide +kernel
theorem dX11_count_74 : decode cX11_count 74 = .ok (.getfield 224, 3) := by decide +kernel
theorem dX11_count_77 : decode cX11_count 77 = .ok (.ireturn, 1) := by decide +kernel
theorem dX11_count_78 : decode cX11_count 78 = .ok (.aload_n 0, 1) := by decide +kernel
theorem dX11_count_79 : decode cX11_count 79 = .ok (.getfield 30, 3) := by decide +kernel
theorem dX11_count_82 : decode cX11_count 82 = .ok (.getfield 117, 3) := by decide +kernel
theorem dX11_count_85 : decode cX11_count 85 = .ok (.ireturn, 1) := by decide +kernel
theorem dX11_count_86 : decode cX11_count 86 = .ok (.aload_n 0, 1) := by decide +kernel
theorem dX11_count_87 : decode cX11_count 87 = .ok (.getfield 89, 3) := by decide +kernel
theorem dX11_count_90 : decode cX11_count 90 = .ok (.getfield 402, 3) := by decide +kernel
theorem dX11_count_93 : decode cX11_count 93 = .ok (.ireturn, 1) := by decide +kernel
theorem dX11_count_94 : decode cX11_count 94 = .ok (.iconst (-1), 1) := by decide +kernel
theorem dX11_count_95 : decode cX11_count 95 = .ok (.ireturn, 1) := by decide +kernel
theorem dX11_lowest_0 : decode cX11_lowest 0 = .ok (.iload_n 0, 1) := by decide +kernel
theorem dX11_lowest_1 : decode cX11_lowest 1 = .ok (.iload_n 0, 1) := by decide +kernel
theorem dX11_lowest_2 : decode cX11_lowest 2 = .ok (.ineg, 1) := by decide +kernel
theorem dX11_lowest_3 : decode cX11_lowest 3 = .ok (.iand, 1) := by decide +kernel
theorem dX11_lowest_4 : decode cX11_lowest 4 = .ok (.iconst 1, 1) := by decide +kernel
theorem dX11_lowest_5 : decode cX11_lowest 5 = .ok (.isub, 1) := by decide +kernel
theorem dX11_lowest_6 : decode cX11_lowest 6 = .ok (.invokestatic 389, 3) := by decide +kernel
theorem dX11_lowest_9 : decode cX11_lowest 9 = .ok (.ireturn, 1) := by decide +kernel
theorem dX11_isAhead_0 : decode cX11_isAhead 0 = .ok (.iload_n 1, 1) := by decide +kernel
theorem dX11_isAhead_1 : decode cX11_isAhead 1 = .ok (.iconst (-1), 1) := by decide +kernel
theorem dX11_isAhead_2 : decode cX11_isAhead 2 = .ok (.if_icmp .ne 5, 3) := by decide +kernel
theorem dX11_isAhead_5 : decode cX11_isAhead 5 = .ok (.iconst 1, 1) := by decide +kernel
theorem dX11_isAhead_6 : decode cX11_isAhead 6 = .ok (.ireturn, 1) := by decide +kernel
theorem dX11_isAhead_7 : decode cX11_isAhead 7 = .ok (.iload_n 0, 1) := by decide +kernel
theorem dX11_isAhead_8 : decode cX11_isAhead 8 = .ok (.invokestatic 389, 3) := by decide +kernel
theorem dX11_isAhead_11 : decode cX11_isAhead 11 = .ok (.iload_n 1, 1) := by decide +kernel
theorem dX11_isAhead_12 : decode cX11_isAhead 12 = .ok (.invokestatic 389, 3) := by decide +kernel
theorem dX11_isAhead_15 : decode cX11_isAhead 15 = .ok (.isub, 1) := by decide +kernel
theorem dX11_isAhead_16 : decode cX11_isAhead 16 = .ok (.istore_n 2, 1) := by decide +kernel
theorem dX11_isAhead_17 : decode cX11_isAhead 17 = .ok (.iload_n 0, 1) := by decide +kernel
theorem dX11_isAhead_18 : decode cX11_isAhead 18 = .ok (.iload_n 1, 1) := by decide +kernel
theorem dX11_isAhead_19 : decode cX11_isAhead 19 = .ok (.ixor, 1) := by decide +kernel
theorem dX11_isAhead_20 : decode cX11_isAhead 20 = .ok (.istore_n 3, 1) := by decide +kernel
theorem dX11_isAhead_21 : decode cX11_isAhead 21 = .ok (.iload_n 2, 1) := by decide +kernel
theorem dX11_isAhead_22 : decode cX11_isAhead 22 = .ok (.ifCond .lt 16, 3) := by decide +kernel
theorem dX11_isAhead_25 : decode cX11_isAhead 25 = .ok (.iload_n 2, 1) := by decide +kernel
theorem dX11_isAhead_26 : decode cX11_isAhead 26 = .ok (.ifCond .ne 16, 3) := by decide +kernel
theorem dX11_isAhead_29 : decode cX11_isAhead 29 = .ok (.iload_n 0, 1) := by decide +kernel
theorem dX11_isAhead_30 : decode cX11_isAhead 30 = .ok (.iload_n 3, 1) := by decide +kernel
theorem dX11_isAhead_31 : decode cX11_isAhead 31 = .ok (.iand, 1) := by decide +kernel
theorem dX11_isAhead_32 : decode cX11_isAhead 32 = .ok (.iload_n 3, 1) := by decide +kernel
theorem dX11_isAhead_33 : decode cX11_isAhead 33 = .ok (.ineg, 1) := by decide +kernel
theorem dX11_isAhead_34 : decode cX11_isAhead 34 = .ok (.iand, 1) := by decide +kernel
theorem dX11_isAhead_35 : decode cX11_isAhead 35 = .ok (.ifCond .eq 7, 3) := by decide +kernel
theorem dX11_isAhead_38 : decode cX11_isAhead 38 = .ok (.iconst 1, 1) := by decide +kernel
theorem dX11_isAhead_39 : decode cX11_isAhead 39 = .ok (.goto 4, 3) := by decide +kernel
theorem dX11_isAhead_42 : decode cX11_isAhead 42 = .ok (.iconst 0, 1) := by decide +kernel
theorem dX11_isAhead_43 : decode cX11_isAhead 43 = .ok (.ireturn, 1) := by decide +kernel

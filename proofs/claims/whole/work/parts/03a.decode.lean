theorem dX0_init_0 : decode cX0_init 0 = .ok (.aload_n 0, 1) := by decide +kernel
theorem dX0_init_1 : decode cX0_init 1 = .ok (.invokespecial 3, 3) := by decide +kernel
theorem dX0_init_4 : decode cX0_init 4 = .ok (.aload_n 0, 1) := by decide +kernel
theorem dX0_init_5 : decode cX0_init 5 = .ok (.new 9, 3) := by decide +kernel
theorem dX0_init_8 : decode cX0_init 8 = .ok (.dup, 1) := by decide +kernel
theorem dX0_init_9 : decode cX0_init 9 = .ok (.invokespecial 11, 3) := by decide +kernel
theorem dX0_init_12 : decode cX0_init 12 = .ok (.putfield 12, 3) := by decide +kernel
theorem dX0_init_15 : decode cX0_init 15 = .ok (.aload_n 0, 1) := by decide +kernel
theorem dX0_init_16 : decode cX0_init 16 = .ok (.iconst (-1), 1) := by decide +kernel
theorem dX0_init_17 : decode cX0_init 17 = .ok (.putfield 18, 3) := by decide +kernel
theorem dX0_init_20 : decode cX0_init 20 = .ok (.aload_n 0, 1) := by decide +kernel
theorem dX0_init_21 : decode cX0_init 21 = .ok (.aload_n 1, 1) := by decide +kernel
theorem dX0_init_22 : decode cX0_init 22 = .ok (.putfield 22, 3) := by decide +kernel
theorem dX0_init_25 : decode cX0_init 25 = .ok (.aload_n 0, 1) := by decide +kernel
theorem dX0_init_26 : decode cX0_init 26 = .ok (.aload_n 2, 1) := by decide +kernel
theorem dX0_init_27 : decode cX0_init 27 = .ok (.putfield 26, 3) := by decide +kernel
theorem dX0_init_30 : decode cX0_init 30 = .ok (.return_, 1) := by decide +kernel
theorem dX0_parse_0 : decode cX0_parse 0 = .ok (.aload_n 0, 1) := by decide +kernel
theorem dX0_parse_1 : decode cX0_parse 1 = .ok (.iconst (-1), 1) := by decide +kernel
theorem dX0_parse_2 : decode cX0_parse 2 = .ok (.putfield 18, 3) := by decide +kernel
theorem dX0_parse_5 : decode cX0_parse 5 = .ok (.aload_n 0, 1) := by decide +kernel
theorem dX0_parse_6 : decode cX0_parse 6 = .ok (.getfield 12, 3) := by decide +kernel
theorem dX0_parse_9 : decode cX0_parse 9 = .ok (.iconst 0, 1) := by decide +kernel
theorem dX0_parse_10 : decode cX0_parse 10 = .ok (.putfield 30, 3) := by decide +kernel
theorem dX0_parse_13 : decode cX0_parse 13 = .ok (.aload_n 0, 1) := by decide +kernel
theorem dX0_parse_14 : decode cX0_parse 14 = .ok (.iconst 0, 1) := by decide +kernel
theorem dX0_parse_15 : decode cX0_parse 15 = .ok (.putfield 33, 3) := by decide +kernel
theorem dX0_parse_18 : decode cX0_parse 18 = .ok (.aload_n 0, 1) := by decide +kernel
theorem dX0_parse_19 : decode cX0_parse 19 = .ok (.invokevirtual 36, 3) := by decide +kernel
theorem dX0_parse_22 : decode cX0_parse 22 = .ok (.iconst 0, 1) := by decide +kernel
theorem dX0_parse_23 : decode cX0_parse 23 = .ok (.istore_n 1, 1) := by decide +kernel
theorem dX0_parse_24 : decode cX0_parse 24 = .ok (.iload_n 1, 1) := by decide +kernel
theorem dX0_parse_25 : decode cX0_parse 25 = .ok (.sipush 200, 3) := by decide +kernel
theorem dX0_parse_28 : decode cX0_parse 28 = .ok (.if_icmp .gt 38, 3) := by decide +kernel
theorem dX0_parse_31 : decode cX0_parse 31 = .ok (.aload_n 0, 1) := by decide +kernel
theorem dX0_parse_32 : decode cX0_parse 32 = .ok (.getfield 33, 3) := by decide +kernel
theorem dX0_parse_35 : decode cX0_parse 35 = .ok (.aload_n 0, 1) := by decide +kernel
theorem dX0_parse_36 : decode cX0_parse 36 = .ok (.getfield 22, 3) := by decide +kernel
theorem dX0_parse_39 : decode cX0_parse 39 = .ok (.getfield 39, 3) := by decide +kernel
theorem dX0_parse_42 : decode cX0_parse 42 = .ok (.if_icmp .ge 24, 3) := by decide +kernel
theorem dX0_parse_45 : decode cX0_parse 45 = .ok (.aload_n 0, 1) := by decide +kernel
theorem dX0_parse_46 : decode cX0_parse 46 = .ok (.invokevirtual 42, 3) := by decide +kernel
theorem dX0_parse_49 : decode cX0_parse 49 = .ok (.istore_n 2, 1) := by decide +kernel
theorem dX0_parse_50 : decode cX0_parse 50 = .ok (.iload_n 2, 1) := by decide +kernel
theorem dX0_parse_51 : decode cX0_parse 51 = .ok (.ifCond .eq 5, 3) := by decide +kernel
theorem dX0_parse_54 : decode cX0_parse 54 = .ok (.iload_n 2, 1) := by decide +kernel
theorem dX0_parse_55 : decode cX0_parse 55 = .ok (.ireturn, 1) := by decide +kernel
theorem dX0_parse_56 : decode cX0_parse 56 = .ok (.aload_n 0, 1) := by decide +kernel
theorem dX0_parse_57 : decode cX0_parse 57 = .ok (.invokevirtual 36, 3) := by decide +kernel
theorem dX0_parse_60 : decode cX0_parse 60 = .ok (.iinc 1 1, 3) := by decide +kernel
theorem dX0_parse_63 : decode cX0_parse 63 = .ok (.goto (-39), 3) := by decide +kernel
theorem dX0_parse_66 : decode cX0_parse 66 = .ok (.iconst 0, 1) := by decide +kernel
theorem dX0_parse_67 : decode cX0_parse 67 = .ok (.ireturn, 1) := by decide +kernel
theorem dX0_parseClause_0 : decode cX0_parseClause 0 = .ok (.aload_n 0, 1) := by decide +kernel
theorem dX0_parseClause_1 : decode cX0_parseClause 1 = .ok (.invokevirtual 46, 3) := by decide +kernel
theorem dX0_parseClause_4 : decode cX0_parseClause 4 = .ok (.istore_n 1, 1) := by decide +kernel
theorem dX0_parseClause_5 : decode cX0_parseClause 5 = .ok (.iload_n 1, 1) := by decide +kernel
theorem dX0_parseClause_6 : decode cX0_parseClause 6 = .ok (.ifCond .ne 8, 3) := by decide +kernel
theorem dX0_parseClause_9 : decode cX0_parseClause 9 = .ok (.aload_n 0, 1) := by decide +kernel
theorem dX0_parseClause_10 : decode cX0_parseClause 10 = .ok (.invokevirtual 49, 3) := by decide +kernel
theorem dX0_parseClause_13 : decode cX0_parseClause 13 = .ok (.istore_n 1, 1) := by decide +kernel
theorem dX0_parseClause_14 : decode cX0_parseClause 14 = .ok (.iload_n 1, 1) := by decide +kernel
theorem dX0_parseClause_15 : decode cX0_parseClause 15 = .ok (.ifCond .ne 8, 3) := by decide +kernel
theorem dX0_parseClause_18 : decode cX0_parseClause 18 = .ok (.aload_n 0, 1) := by decide +kernel
theorem dX0_parseClause_19 : decode cX0_parseClause 19 = .ok (.invokevirtual 52, 3) := by decide +kernel
theorem dX0_parseClause_22 : decode cX0_parseClause 22 = .ok (.istore_n 1, 1) := by decide +kernel
theorem dX0_parseClause_23 : decode cX0_parseClause 23 = .ok (.iload_n 1, 1) := by decide +kernel
theorem dX0_parseClause_24 : decode cX0_parseClause 24 = .ok (.ifCond .eq 5, 3) := by decide +kernel
theorem dX0_parseClause_27 : decode cX0_parseClause 27 = .ok (.iload_n 1, 1) := by decide +kernel
theorem dX0_parseClause_28 : decode cX0_parseClause 28 = .ok (.ireturn, 1) := by decide +kernel
theorem dX0_parseClause_29 : decode cX0_parseClause 29 = .ok (.aload_n 0, 1) := by decide +kernel
theorem dX0_parseClause_30 : decode cX0_parseClause 30 = .ok (.invokevirtual 55, 3) := by decide +kernel
theorem dX0_parseClause_33 : decode cX0_parseClause 33 = .ok (.bipush 59, 2) := by decide +kernel
theorem dX0_parseClause_35 : decode cX0_parseClause 35 = .ok (.if_icmp .eq 13, 3) := by decide +kernel
theorem dX0_parseClause_38 : decode cX0_parseClause 38 = .ok (.aload_n 0, 1) := by decide +kernel
theorem dX0_parseClause_39 : decode cX0_parseClause 39 = .ok (.iconst 1, 1) := by decide +kernel
theorem dX0_parseClause_40 : decode cX0_parseClause 40 = .ok (.aload_n 0, 1) := by decide +kernel
theorem dX0_parseClause_41 : decode cX0_parseClause 41 = .ok (.getfield 33, 3) := by decide +kernel
theorem dX0_parseClause_44 : decode cX0_parseClause 44 = .ok (.invokevirtual 58, 3) := by decide +kernel
theorem dX0_parseClause_47 : decode cX0_parseClause 47 = .ok (.ireturn, 1) := by decide +kernel
theorem dX0_parseClause_48 : decode cX0_parseClause 48 = .ok (.aload_n 0, 1) := by decide +kernel
theorem dX0_parseClause_49 : decode cX0_parseClause 49 = .ok (.dup, 1) := by decide +kernel
theorem dX0_parseClause_50 : decode cX0_parseClause 50 = .ok (.getfield 33, 3) := by decide +kernel
theorem dX0_parseClause_53 : decode cX0_parseClause 53 = .ok (.iconst 1, 1) := by decide +kernel
theorem dX0_parseClause_54 : decode cX0_parseClause 54 = .ok (.iadd, 1) := by decide +kernel
theorem dX0_parseClause_55 : decode cX0_parseClause 55 = .ok (.putfield 33, 3) := by decide +kernel
theorem dX0_parseClause_58 : decode cX0_parseClause 58 = .ok (.aload_n 0, 1) := by decide +kernel
theorem dX0_parseClause_59 : decode cX0_parseClause 59 = .ok (.getfield 12, 3) := by decide +kernel
theorem dX0_parseClause_62 : decode cX0_parseClause 62 = .ok (.dup, 1) := by decide +kernel
theorem dX0_parseClause_63 : decode cX0_parseClause 63 = .ok (.getfield 30, 3) := by decide +kernel
theorem dX0_parseClause_66 : decode cX0_parseClause 66 = .ok (.iconst 1, 1) := by decide +kernel
theorem dX0_parseClause_67 : decode cX0_parseClause 67 = .ok (.iadd, 1) := by decide +kernel
theorem dX0_parseClause_68 : decode cX0_parseClause 68 = .ok (.putfield 30, 3) := by decide +kernel
theorem dX0_parseClause_71 : decode cX0_parseClause 71 = .ok (.iconst 0, 1) := by decide +kernel
theorem dX0_parseClause_72 : decode cX0_parseClause 72 = .ok (.ireturn, 1) := by decide +kernel
theorem dX0_parseLetters_0 : decode cX0_parseLetters 0 = .ok (.aload_n 0, 1) := by decide +kernel
theorem dX0_parseLetters_1 : decode cX0_parseLetters 1 = .ok (.getfield 33, 3) := by decide +kernel
theorem dX0_parseLetters_4 : decode cX0_parseLetters 4 = .ok (.istore_n 1, 1) := by decide +kernel
theorem dX0_parseLetters_5 : decode cX0_parseLetters 5 = .ok (.aload_n 0, 1) := by decide +kernel
theorem dX0_parseLetters_6 : decode cX0_parseLetters 6 = .ok (.invokevirtual 55, 3) := by decide +kernel
theorem dX0_parseLetters_9 : decode cX0_parseLetters 9 = .ok (.invokestatic 62, 3) := by decide +kernel
theorem dX0_parseLetters_12 : decode cX0_parseLetters 12 = .ok (.ifCond .ne 13, 3) := by decide +kernel
theorem dX0_parseLetters_15 : decode cX0_parseLetters 15 = .ok (.aload_n 0, 1) := by decide +kernel
theorem dX0_parseLetters_16 : decode cX0_parseLetters 16 = .ok (.iconst 1, 1) := by decide +kernel
theorem dX0_parseLetters_17 : decode cX0_parseLetters 17 = .ok (.aload_n 0, 1) := by decide +kernel
theorem dX0_parseLetters_18 : decode cX0_parseLetters 18 = .ok (.getfield 33, 3) := by decide +kernel
theorem dX0_parseLetters_21 : decode cX0_parseLetters 21 = .ok (.invokevirtual 58, 3) := by decide +kernel
theorem dX0_parseLetters_24 : decode cX0_parseLetters 24 = .ok (.ireturn, 1) := by decide +kernel
theorem dX0_parseLetters_25 : decode cX0_parseLetters 25 = .ok (.aload_n 0, 1) := by decide +kernel
theorem dX0_parseLetters_26 : decode cX0_parseLetters 26 = .ok (.getfield 12, 3) := by decide +kernel
theorem dX0_parseLetters_29 : decode cX0_parseLetters 29 = .ok (.getfield 30, 3) := by decide +kernel
theorem dX0_parseLetters_32 : decode cX0_parseLetters 32 = .ok (.istore_n 2, 1) := by decide +kernel
theorem dX0_parseLetters_33 : decode cX0_parseLetters 33 = .ok (.iconst 0, 1) := by decide +kernel
theorem dX0_parseLetters_34 : decode cX0_parseLetters 34 = .ok (.istore_n 3, 1) := by decide +kernel
theorem dX0_parseLetters_35 : decode cX0_parseLetters 35 = .ok (.aload_n 0, 1) := by decide +kernel
theorem dX0_parseLetters_36 : decode cX0_parseLetters 36 = .ok (.getfield 33, 3) := by decide +kernel
theorem dX0_parseLetters_39 : decode cX0_parseLetters 39 = .ok (.aload_n 0, 1) := by decide +kernel
theorem dX0_parseLetters_40 : decode cX0_parseLetters 40 = .ok (.getfield 22, 3) := by decide +kernel
theorem dX0_parseLetters_43 : decode cX0_parseLetters 43 = .ok (.getfield 39, 3) := by decide +kernel
theorem dX0_parseLetters_46 : decode cX0_parseLetters 46 = .ok (.if_icmp .ge 109, 3) := by decide +kernel
theorem dX0_parseLetters_49 : decode cX0_parseLetters 49 = .ok (.aload_n 0, 1) := by decide +kernel
theorem dX0_parseLetters_50 : decode cX0_parseLetters 50 = .ok (.invokevirtual 55, 3) := by decide +kernel
theorem dX0_parseLetters_53 : decode cX0_parseLetters 53 = .ok (.invokestatic 62, 3) := by decide +kernel
theorem dX0_parseLetters_56 : decode cX0_parseLetters 56 = .ok (.ifCond .eq 99, 3) := by decide +kernel
theorem dX0_parseLetters_59 : decode cX0_parseLetters 59 = .ok (.aload_n 0, 1) := by decide +kernel
theorem dX0_parseLetters_60 : decode cX0_parseLetters 60 = .ok (.invokevirtual 55, 3) := by decide +kernel
theorem dX0_parseLetters_63 : decode cX0_parseLetters 63 = .ok (.bipush 97, 2) := by decide +kernel
theorem dX0_parseLetters_65 : decode cX0_parseLetters 65 = .ok (.isub, 1) := by decide +kernel
theorem dX0_parseLetters_66 : decode cX0_parseLetters 66 = .ok (.istore 4, 2) := by decide +kernel
theorem dX0_parseLetters_68 : decode cX0_parseLetters 68 = .ok (.iload 4, 2) := by decide +kernel
theorem dX0_parseLetters_70 : decode cX0_parseLetters 70 = .ok (.aload_n 0, 1) := by decide +kernel
theorem dX0_parseLetters_71 : decode cX0_parseLetters 71 = .ok (.getfield 26, 3) := by decide +kernel
theorem dX0_parseLetters_74 : decode cX0_parseLetters 74 = .ok (.getfield 66, 3) := by decide +kernel
theorem dX0_parseLetters_77 : decode cX0_parseLetters 77 = .ok (.if_icmp .lt 13, 3) := by decide +kernel
theorem dX0_parseLetters_80 : decode cX0_parseLetters 80 = .ok (.aload_n 0, 1) := by decide +kernel
theorem dX0_parseLetters_81 : decode cX0_parseLetters 81 = .ok (.iconst 2, 1) := by decide +kernel
theorem dX0_parseLetters_82 : decode cX0_parseLetters 82 = .ok (.aload_n 0, 1) := by decide +kernel
theorem dX0_parseLetters_83 : decode cX0_parseLetters 83 = .ok (.getfield 33, 3) := by decide +kernel
theorem dX0_parseLetters_86 : decode cX0_parseLetters 86 = .ok (.invokevirtual 58, 3) := by decide +kernel
theorem dX0_parseLetters_89 : decode cX0_parseLetters 89 = .ok (.ireturn, 1) := by decide +kernel
theorem dX0_parseLetters_90 : decode cX0_parseLetters 90 = .ok (.iload_n 2, 1) := by decide +kernel
theorem dX0_parseLetters_91 : decode cX0_parseLetters 91 = .ok (.bipush 16, 2) := by decide +kernel
theorem dX0_parseLetters_93 : decode cX0_parseLetters 93 = .ok (.if_icmp .lt 10, 3) := by decide +kernel
theorem dX0_parseLetters_96 : decode cX0_parseLetters 96 = .ok (.aload_n 0, 1) := by decide +kernel
theorem dX0_parseLetters_97 : decode cX0_parseLetters 97 = .ok (.iconst 5, 1) := by decide +kernel
theorem dX0_parseLetters_98 : decode cX0_parseLetters 98 = .ok (.iload_n 1, 1) := by decide +kernel
theorem dX0_parseLetters_99 : decode cX0_parseLetters 99 = .ok (.invokevirtual 58, 3) := by decide +kernel
theorem dX0_parseLetters_102 : decode cX0_parseLetters 102 = .ok (.ireturn, 1) := by decide +kernel
theorem dX0_parseLetters_103 : decode cX0_parseLetters 103 = .ok (.iload_n 3, 1) := by decide +kernel
theorem dX0_parseLetters_104 : decode cX0_parseLetters 104 = .ok (.bipush 8, 2) := by decide +kernel
theorem dX0_parseLetters_106 : decode cX0_parseLetters 106 = .ok (.if_icmp .lt 13, 3) := by decide +kernel
theorem dX0_parseLetters_109 : decode cX0_parseLetters 109 = .ok (.aload_n 0, 1) := by decide +kernel
theorem dX0_parseLetters_110 : decode cX0_parseLetters 110 = .ok (.iconst 3, 1) := by decide +kernel
theorem dX0_parseLetters_111 : decode cX0_parseLetters 111 = .ok (.aload_n 0, 1) := by decide +kernel
theorem dX0_parseLetters_112 : decode cX0_parseLetters 112 = .ok (.getfield 33, 3) := by decide +kernel
theorem dX0_parseLetters_115 : decode cX0_parseLetters 115 = .ok (.invokevirtual 58, 3) := by decide +kernel
theorem dX0_parseLetters_118 : decode cX0_parseLetters 118 = .ok (.ireturn, 1) := by decide +kernel
theorem dX0_parseLetters_119 : decode cX0_parseLetters 119 = .ok (.aload_n 0, 1) := by decide +kernel
theorem dX0_parseLetters_120 : decode cX0_parseLetters 120 = .ok (.getfield 12, 3) := by decide +kernel
theorem dX0_parseLetters_123 : decode cX0_parseLetters 123 = .ok (.getfield 71, 3) := by decide +kernel
theorem dX0_parseLetters_126 : decode cX0_parseLetters 126 = .ok (.iload_n 2, 1) := by decide +kernel
theorem dX0_parseLetters_127 : decode cX0_parseLetters 127 = .ok (.bipush 8, 2) := by decide +kernel
theorem dX0_parseLetters_129 : decode cX0_parseLetters 129 = .ok (.imul, 1) := by decide +kernel
theorem dX0_parseLetters_130 : decode cX0_parseLetters 130 = .ok (.iload_n 3, 1) := by decide +kernel
theorem dX0_parseLetters_131 : decode cX0_parseLetters 131 = .ok (.iadd, 1) := by decide +kernel
theorem dX0_parseLetters_132 : decode cX0_parseLetters 132 = .ok (.iload 4, 2) := by decide +kernel
theorem dX0_parseLetters_134 : decode cX0_parseLetters 134 = .ok (.iastore, 1) := by decide +kernel
theorem dX0_parseLetters_135 : decode cX0_parseLetters 135 = .ok (.iinc 3 1, 3) := by decide +kernel
theorem dX0_parseLetters_138 : decode cX0_parseLetters 138 = .ok (.aload_n 0, 1) := by decide +kernel
theorem dX0_parseLetters_139 : decode cX0_parseLetters 139 = .ok (.dup, 1) := by decide +kernel
theorem dX0_parseLetters_140 : decode cX0_parseLetters 140 = .ok (.getfield 33, 3) := by decide +kernel
theorem dX0_parseLetters_143 : decode cX0_parseLetters 143 = .ok (.iconst 1, 1) := by decide +kernel
theorem dX0_parseLetters_144 : decode cX0_parseLetters 144 = .ok (.iadd, 1) := by decide +kernel
theorem dX0_parseLetters_145 : decode cX0_parseLetters 145 = .ok (.putfield 33, 3) := by decide +kernel
theorem dX0_parseLetters_148 : decode cX0_parseLetters 148 = .ok (.aload_n 0, 1) := by decide +kernel
theorem dX0_parseLetters_149 : decode cX0_parseLetters 149 = .ok (.invokevirtual 36, 3) := by decide +kernel
theorem dX0_parseLetters_152 : decode cX0_parseLetters 152 = .ok (.goto (-117), 3) := by decide +kernel
theorem dX0_parseLetters_155 : decode cX0_parseLetters 155 = .ok (.aload_n 0, 1) := by decide +kernel
theorem dX0_parseLetters_156 : decode cX0_parseLetters 156 = .ok (.getfield 12, 3) := by decide +kernel
theorem dX0_parseLetters_159 : decode cX0_parseLetters 159 = .ok (.getfield 75, 3) := by decide +kernel
theorem dX0_parseLetters_162 : decode cX0_parseLetters 162 = .ok (.iload_n 2, 1) := by decide +kernel
theorem dX0_parseLetters_163 : decode cX0_parseLetters 163 = .ok (.iload_n 3, 1) := by decide +kernel
theorem dX0_parseLetters_164 : decode cX0_parseLetters 164 = .ok (.iastore, 1) := by decide +kernel
theorem dX0_parseLetters_165 : decode cX0_parseLetters 165 = .ok (.aload_n 0, 1) := by decide +kernel
theorem dX0_parseLetters_166 : decode cX0_parseLetters 166 = .ok (.getfield 12, 3) := by decide +kernel
theorem dX0_parseLetters_169 : decode cX0_parseLetters 169 = .ok (.getfield 78, 3) := by decide +kernel
theorem dX0_parseLetters_172 : decode cX0_parseLetters 172 = .ok (.iload_n 2, 1) := by decide +kernel
theorem dX0_parseLetters_173 : decode cX0_parseLetters 173 = .ok (.iconst 1, 1) := by decide +kernel
theorem dX0_parseLetters_174 : decode cX0_parseLetters 174 = .ok (.iastore, 1) := by decide +kernel
theorem dX0_parseLetters_175 : decode cX0_parseLetters 175 = .ok (.aload_n 0, 1) := by decide +kernel
theorem dX0_parseLetters_176 : decode cX0_parseLetters 176 = .ok (.getfield 12, 3) := by decide +kernel
theorem dX0_parseLetters_179 : decode cX0_parseLetters 179 = .ok (.getfield 81, 3) := by decide +kernel
theorem dX0_parseLetters_182 : decode cX0_parseLetters 182 = .ok (.iload_n 2, 1) := by decide +kernel
theorem dX0_parseLetters_183 : decode cX0_parseLetters 183 = .ok (.iconst 0, 1) := by decide +kernel
theorem dX0_parseLetters_184 : decode cX0_parseLetters 184 = .ok (.iastore, 1) := by decide +kernel
theorem dX0_parseLetters_185 : decode cX0_parseLetters 185 = .ok (.aload_n 0, 1) := by decide +kernel
theorem dX0_parseLetters_186 : decode cX0_parseLetters 186 = .ok (.iload_n 2, 1) := by decide +kernel
theorem dX0_parseLetters_187 : decode cX0_parseLetters 187 = .ok (.invokevirtual 84, 3) := by decide +kernel
theorem dX0_parseLetters_190 : decode cX0_parseLetters 190 = .ok (.ifCond .eq 12, 3) := by decide +kernel
theorem dX0_parseLetters_193 : decode cX0_parseLetters 193 = .ok (.aload_n 0, 1) := by decide +kernel
theorem dX0_parseLetters_194 : decode cX0_parseLetters 194 = .ok (.iconst 4, 1) := by decide +kernel
theorem dX0_parseLetters_195 : decode cX0_parseLetters 195 = .ok (.iload_n 1, 1) := by decide +kernel
theorem dX0_parseLetters_196 : decode cX0_parseLetters 196 = .ok (.invokevirtual 58, 3) := by decide +kernel
theorem dX0_parseLetters_199 : decode cX0_parseLetters 199 = .ok (.goto 4, 3) := by decide +kernel
theorem dX0_parseLetters_202 : decode cX0_parseLetters 202 = .ok (.iconst 0, 1) := by decide +kernel
theorem dX0_parseLetters_203 : decode cX0_parseLetters 203 = .ok (.ireturn, 1) := by decide +kernel
theorem dX0_isToldAgain_0 : decode cX0_isToldAgain 0 = .ok (.iconst 0, 1) := by decide +kernel
theorem dX0_isToldAgain_1 : decode cX0_isToldAgain 1 = .ok (.istore_n 2, 1) := by decide +kernel
theorem dX0_isToldAgain_2 : decode cX0_isToldAgain 2 = .ok (.iload_n 2, 1) := by decide +kernel
theorem dX0_isToldAgain_3 : decode cX0_isToldAgain 3 = .ok (.iload_n 1, 1) := by decide +kernel
theorem dX0_isToldAgain_4 : decode cX0_isToldAgain 4 = .ok (.if_icmp .ge 23, 3) := by decide +kernel
theorem dX0_isToldAgain_7 : decode cX0_isToldAgain 7 = .ok (.aload_n 0, 1) := by decide +kernel
theorem dX0_isToldAgain_8 : decode cX0_isToldAgain 8 = .ok (.getfield 12, 3) := by decide +kernel
theorem dX0_isToldAgain_11 : decode cX0_isToldAgain 11 = .ok (.iload_n 2, 1) := by decide +kernel
theorem dX0_isToldAgain_12 : decode cX0_isToldAgain 12 = .ok (.iload_n 1, 1) := by decide +kernel
theorem dX0_isToldAgain_13 : decode cX0_isToldAgain 13 = .ok (.invokevirtual 87, 3) := by decide +kernel
theorem dX0_isToldAgain_16 : decode cX0_isToldAgain 16 = .ok (.ifCond .eq 5, 3) := by decide +kernel
theorem dX0_isToldAgain_19 : decode cX0_isToldAgain 19 = .ok (.iconst 1, 1) := by decide +kernel
theorem dX0_isToldAgain_20 : decode cX0_isToldAgain 20 = .ok (.ireturn, 1) := by decide +kernel
theorem dX0_isToldAgain_21 : decode cX0_isToldAgain 21 = .ok (.iinc 2 1, 3) := by decide +kernel
theorem dX0_isToldAgain_24 : decode cX0_isToldAgain 24 = .ok (.goto (-22), 3) := by decide +kernel
theorem dX0_isToldAgain_27 : decode cX0_isToldAgain 27 = .ok (.iconst 0, 1) := by decide +kernel
theorem dX0_isToldAgain_28 : decode cX0_isToldAgain 28 = .ok (.ireturn, 1) := by decide +kernel
theorem dX0_parseCost_0 : decode cX0_parseCost 0 = .ok (.aload_n 0, 1) := by decide +kernel
theorem dX0_parseCost_1 : decode cX0_parseCost 1 = .ok (.bipush 58, 2) := by decide +kernel
theorem dX0_parseCost_3 : decode cX0_parseCost 3 = .ok (.iconst 2, 1) := by decide +kernel
theorem dX0_parseCost_4 : decode cX0_parseCost 4 = .ok (.bipush 99, 2) := by decide +kernel
theorem dX0_parseCost_6 : decode cX0_parseCost 6 = .ok (.invokevirtual 91, 3) := by decide +kernel
theorem dX0_parseCost_9 : decode cX0_parseCost 9 = .ok (.istore_n 1, 1) := by decide +kernel
theorem dX0_parseCost_10 : decode cX0_parseCost 10 = .ok (.iload_n 1, 1) := by decide +kernel
theorem dX0_parseCost_11 : decode cX0_parseCost 11 = .ok (.ifCond .ne 30, 3) := by decide +kernel
theorem dX0_parseCost_14 : decode cX0_parseCost 14 = .ok (.aload_n 0, 1) := by decide +kernel
theorem dX0_parseCost_15 : decode cX0_parseCost 15 = .ok (.getfield 95, 3) := by decide +kernel
theorem dX0_parseCost_18 : decode cX0_parseCost 18 = .ok (.iconst (-1), 1) := by decide +kernel
theorem dX0_parseCost_19 : decode cX0_parseCost 19 = .ok (.if_icmp .eq 22, 3) := by decide +kernel
theorem dX0_parseCost_22 : decode cX0_parseCost 22 = .ok (.aload_n 0, 1) := by decide +kernel
theorem dX0_parseCost_23 : decode cX0_parseCost 23 = .ok (.getfield 12, 3) := by decide +kernel
theorem dX0_parseCost_26 : decode cX0_parseCost 26 = .ok (.getfield 78, 3) := by decide +kernel
theorem dX0_parseCost_29 : decode cX0_parseCost 29 = .ok (.aload_n 0, 1) := by decide +kernel
theorem dX0_parseCost_30 : decode cX0_parseCost 30 = .ok (.getfield 12, 3) := by decide +kernel
theorem dX0_parseCost_33 : decode cX0_parseCost 33 = .ok (.getfield 30, 3) := by decide +kernel
theorem dX0_parseCost_36 : decode cX0_parseCost 36 = .ok (.aload_n 0, 1) := by decide +kernel
theorem dX0_parseCost_37 : decode cX0_parseCost 37 = .ok (.getfield 95, 3) := by decide +kernel
theorem dX0_parseCost_40 : decode cX0_parseCost 40 = .ok (.iastore, 1) := by decide +kernel
theorem dX0_parseCost_41 : decode cX0_parseCost 41 = .ok (.iload_n 1, 1) := by decide +kernel
theorem dX0_parseCost_42 : decode cX0_parseCost 42 = .ok (.ireturn, 1) := by decide +kernel
theorem dX0_parseKind_0 : decode cX0_parseKind 0 = .ok (.aload_n 0, 1) := by decide +kernel
theorem dX0_parseKind_1 : decode cX0_parseKind 1 = .ok (.bipush 47, 2) := by decide +kernel
theorem dX0_parseKind_3 : decode cX0_parseKind 3 = .ok (.iconst 1, 1) := by decide +kernel
theorem dX0_parseKind_4 : decode cX0_parseKind 4 = .ok (.iconst 3, 1) := by decide +kernel
theorem dX0_parseKind_5 : decode cX0_parseKind 5 = .ok (.invokevirtual 91, 3) := by decide +kernel
theorem dX0_parseKind_8 : decode cX0_parseKind 8 = .ok (.istore_n 1, 1) := by decide +kernel
theorem dX0_parseKind_9 : decode cX0_parseKind 9 = .ok (.iload_n 1, 1) := by decide +kernel
theorem dX0_parseKind_10 : decode cX0_parseKind 10 = .ok (.ifCond .ne 30, 3) := by decide +kernel
theorem dX0_parseKind_13 : decode cX0_parseKind 13 = .ok (.aload_n 0, 1) := by decide +kernel
theorem dX0_parseKind_14 : decode cX0_parseKind 14 = .ok (.getfield 95, 3) := by decide +kernel
theorem dX0_parseKind_17 : decode cX0_parseKind 17 = .ok (.iconst (-1), 1) := by decide +kernel
theorem dX0_parseKind_18 : decode cX0_parseKind 18 = .ok (.if_icmp .eq 22, 3) := by decide +kernel
theorem dX0_parseKind_21 : decode cX0_parseKind 21 = .ok (.aload_n 0, 1) := by decide +kernel
theorem dX0_parseKind_22 : decode cX0_parseKind 22 = .ok (.getfield 12, 3) := by decide +kernel
theorem dX0_parseKind_25 : decode cX0_parseKind 25 = .ok (.getfield 81, 3) := by decide +kernel
theorem dX0_parseKind_28 : decode cX0_parseKind 28 = .ok (.aload_n 0, 1) := by decide +kernel
theorem dX0_parseKind_29 : decode cX0_parseKind 29 = .ok (.getfield 12, 3) := by decide +kernel
theorem dX0_parseKind_32 : decode cX0_parseKind 32 = .ok (.getfield 30, 3) := by decide +kernel
theorem dX0_parseKind_35 : decode cX0_parseKind 35 = .ok (.aload_n 0, 1) := by decide +kernel
theorem dX0_parseKind_36 : decode cX0_parseKind 36 = .ok (.getfield 95, 3) := by decide +kernel
theorem dX0_parseKind_39 : decode cX0_parseKind 39 = .ok (.iastore, 1) := by decide +kernel
theorem dX0_parseKind_40 : decode cX0_parseKind 40 = .ok (.iload_n 1, 1) := by decide +kernel
theorem dX0_parseKind_41 : decode cX0_parseKind 41 = .ok (.ireturn, 1) := by decide +kernel
theorem dX0_parseNumber_0 : decode cX0_parseNumber 0 = .ok (.aload_n 0, 1) := by decide +kernel
theorem dX0_parseNumber_1 : decode cX0_parseNumber 1 = .ok (.iconst (-1), 1) := by decide +kernel
theorem dX0_parseNumber_2 : decode cX0_parseNumber 2 = .ok (.putfield 95, 3) := by decide +kernel
theorem dX0_parseNumber_5 : decode cX0_parseNumber 5 = .ok (.aload_n 0, 1) := by decide +kernel
theorem dX0_parseNumber_6 : decode cX0_parseNumber 6 = .ok (.invokevirtual 55, 3) := by decide +kernel
theorem dX0_parseNumber_9 : decode cX0_parseNumber 9 = .ok (.iload_n 1, 1) := by decide +kernel
theorem dX0_parseNumber_10 : decode cX0_parseNumber 10 = .ok (.if_icmp .eq 5, 3) := by decide +kernel
theorem dX0_parseNumber_13 : decode cX0_parseNumber 13 = .ok (.iconst 0, 1) := by decide +kernel
theorem dX0_parseNumber_14 : decode cX0_parseNumber 14 = .ok (.ireturn, 1) := by decide +kernel
theorem dX0_parseNumber_15 : decode cX0_parseNumber 15 = .ok (.aload_n 0, 1) := by decide +kernel
theorem dX0_parseNumber_16 : decode cX0_parseNumber 16 = .ok (.dup, 1) := by decide +kernel
theorem dX0_parseNumber_17 : decode cX0_parseNumber 17 = .ok (.getfield 33, 3) := by decide +kernel
theorem dX0_parseNumber_20 : decode cX0_parseNumber 20 = .ok (.iconst 1, 1) := by decide +kernel
theorem dX0_parseNumber_21 : decode cX0_parseNumber 21 = .ok (.iadd, 1) := by decide +kernel
theorem dX0_parseNumber_22 : decode cX0_parseNumber 22 = .ok (.putfield 33, 3) := by decide +kernel
theorem dX0_parseNumber_25 : decode cX0_parseNumber 25 = .ok (.aload_n 0, 1) := by decide +kernel
theorem dX0_parseNumber_26 : decode cX0_parseNumber 26 = .ok (.invokevirtual 36, 3) := by decide +kernel
theorem dX0_parseNumber_29 : decode cX0_parseNumber 29 = .ok (.aload_n 0, 1) := by decide +kernel
theorem dX0_parseNumber_30 : decode cX0_parseNumber 30 = .ok (.getfield 33, 3) := by decide +kernel
theorem dX0_parseNumber_33 : decode cX0_parseNumber 33 = .ok (.istore 4, 2) := by decide +kernel
theorem dX0_parseNumber_35 : decode cX0_parseNumber 35 = .ok (.iconst 0, 1) := by decide +kernel
theorem dX0_parseNumber_36 : decode cX0_parseNumber 36 = .ok (.istore 5, 2) := by decide +kernel
theorem dX0_parseNumber_38 : decode cX0_parseNumber 38 = .ok (.aload_n 0, 1) := by decide +kernel
theorem dX0_parseNumber_39 : decode cX0_parseNumber 39 = .ok (.getfield 33, 3) := by decide +kernel
theorem dX0_parseNumber_42 : decode cX0_parseNumber 42 = .ok (.aload_n 0, 1) := by decide +kernel
theorem dX0_parseNumber_43 : decode cX0_parseNumber 43 = .ok (.getfield 22, 3) := by decide +kernel
theorem dX0_parseNumber_46 : decode cX0_parseNumber 46 = .ok (.getfield 39, 3) := by decide +kernel
theorem dX0_parseNumber_49 : decode cX0_parseNumber 49 = .ok (.if_icmp .ge 46, 3) := by decide +kernel
theorem dX0_parseNumber_52 : decode cX0_parseNumber 52 = .ok (.aload_n 0, 1) := by decide +kernel
theorem dX0_parseNumber_53 : decode cX0_parseNumber 53 = .ok (.invokevirtual 55, 3) := by decide +kernel
theorem dX0_parseNumber_56 : decode cX0_parseNumber 56 = .ok (.invokestatic 98, 3) := by decide +kernel
theorem dX0_parseNumber_59 : decode cX0_parseNumber 59 = .ok (.ifCond .eq 36, 3) := by decide +kernel
theorem dX0_parseNumber_62 : decode cX0_parseNumber 62 = .ok (.iload 5, 2) := by decide +kernel
theorem dX0_parseNumber_64 : decode cX0_parseNumber 64 = .ok (.bipush 10, 2) := by decide +kernel
theorem dX0_parseNumber_66 : decode cX0_parseNumber 66 = .ok (.imul, 1) := by decide +kernel
theorem dX0_parseNumber_67 : decode cX0_parseNumber 67 = .ok (.aload_n 0, 1) := by decide +kernel
theorem dX0_parseNumber_68 : decode cX0_parseNumber 68 = .ok (.invokevirtual 55, 3) := by decide +kernel
theorem dX0_parseNumber_71 : decode cX0_parseNumber 71 = .ok (.iadd, 1) := by decide +kernel
theorem dX0_parseNumber_72 : decode cX0_parseNumber 72 = .ok (.bipush 48, 2) := by decide +kernel
theorem dX0_parseNumber_74 : decode cX0_parseNumber 74 = .ok (.isub, 1) := by decide +kernel
theorem dX0_parseNumber_75 : decode cX0_parseNumber 75 = .ok (.bipush 100, 2) := by decide +kernel
theorem dX0_parseNumber_77 : decode cX0_parseNumber 77 = .ok (.invokestatic 101, 3) := by decide +kernel
theorem dX0_parseNumber_80 : decode cX0_parseNumber 80 = .ok (.istore 5, 2) := by decide +kernel
theorem dX0_parseNumber_82 : decode cX0_parseNumber 82 = .ok (.aload_n 0, 1) := by decide +kernel
theorem dX0_parseNumber_83 : decode cX0_parseNumber 83 = .ok (.dup, 1) := by decide +kernel
theorem dX0_parseNumber_84 : decode cX0_parseNumber 84 = .ok (.getfield 33, 3) := by decide +kernel
theorem dX0_parseNumber_87 : decode cX0_parseNumber 87 = .ok (.iconst 1, 1) := by decide +kernel
theorem dX0_parseNumber_88 : decode cX0_parseNumber 88 = .ok (.iadd, 1) := by decide +kernel
theorem dX0_parseNumber_89 : decode cX0_parseNumber 89 = .ok (.putfield 33, 3) := by decide +kernel
theorem dX0_parseNumber_92 : decode cX0_parseNumber 92 = .ok (.goto (-54), 3) := by decide +kernel
theorem dX0_parseNumber_95 : decode cX0_parseNumber 95 = .ok (.aload_n 0, 1) := by decide +kernel
theorem dX0_parseNumber_96 : decode cX0_parseNumber 96 = .ok (.getfield 33, 3) := by decide +kernel
theorem dX0_parseNumber_99 : decode cX0_parseNumber 99 = .ok (.iload 4, 2) := by decide +kernel
theorem dX0_parseNumber_101 : decode cX0_parseNumber 101 = .ok (.if_icmp .ne 13, 3) := by decide +kernel
theorem dX0_parseNumber_104 : decode cX0_parseNumber 104 = .ok (.aload_n 0, 1) := by decide +kernel
theorem dX0_parseNumber_105 : decode cX0_parseNumber 105 = .ok (.iconst 1, 1) := by decide +kernel
theorem dX0_parseNumber_106 : decode cX0_parseNumber 106 = .ok (.aload_n 0, 1) := by decide +kernel
theorem dX0_parseNumber_107 : decode cX0_parseNumber 107 = .ok (.getfield 33, 3) := by decide +kernel
theorem dX0_parseNumber_110 : decode cX0_parseNumber 110 = .ok (.invokevirtual 58, 3) := by decide +kernel
theorem dX0_parseNumber_113 : decode cX0_parseNumber 113 = .ok (.ireturn, 1) := by decide +kernel
theorem dX0_parseNumber_114 : decode cX0_parseNumber 114 = .ok (.aload_n 0, 1) := by decide +kernel
theorem dX0_parseNumber_115 : decode cX0_parseNumber 115 = .ok (.getfield 33, 3) := by decide +kernel
theorem dX0_parseNumber_118 : decode cX0_parseNumber 118 = .ok (.iload 4, 2) := by decide +kernel
theorem dX0_parseNumber_120 : decode cX0_parseNumber 120 = .ok (.isub, 1) := by decide +kernel
theorem dX0_parseNumber_121 : decode cX0_parseNumber 121 = .ok (.iload_n 2, 1) := by decide +kernel
theorem dX0_parseNumber_122 : decode cX0_parseNumber 122 = .ok (.if_icmp .gt 9, 3) := by decide +kernel
theorem dX0_parseNumber_125 : decode cX0_parseNumber 125 = .ok (.iload 5, 2) := by decide +kernel
theorem dX0_parseNumber_127 : decode cX0_parseNumber 127 = .ok (.iload_n 3, 1) := by decide +kernel
theorem dX0_parseNumber_128 : decode cX0_parseNumber 128 = .ok (.if_icmp .le 11, 3) := by decide +kernel
theorem dX0_parseNumber_131 : decode cX0_parseNumber 131 = .ok (.aload_n 0, 1) := by decide +kernel
theorem dX0_parseNumber_132 : decode cX0_parseNumber 132 = .ok (.iconst 2, 1) := by decide +kernel
theorem dX0_parseNumber_133 : decode cX0_parseNumber 133 = .ok (.iload 4, 2) := by decide +kernel
theorem dX0_parseNumber_135 : decode cX0_parseNumber 135 = .ok (.invokevirtual 58, 3) := by decide +kernel
theorem dX0_parseNumber_138 : decode cX0_parseNumber 138 = .ok (.ireturn, 1) := by decide +kernel
theorem dX0_parseNumber_139 : decode cX0_parseNumber 139 = .ok (.aload_n 0, 1) := by decide +kernel
theorem dX0_parseNumber_140 : decode cX0_parseNumber 140 = .ok (.iload 5, 2) := by decide +kernel
theorem dX0_parseNumber_142 : decode cX0_parseNumber 142 = .ok (.putfield 95, 3) := by decide +kernel
theorem dX0_parseNumber_145 : decode cX0_parseNumber 145 = .ok (.aload_n 0, 1) := by decide +kernel
theorem dX0_parseNumber_146 : decode cX0_parseNumber 146 = .ok (.invokevirtual 36, 3) := by decide +kernel
theorem dX0_parseNumber_149 : decode cX0_parseNumber 149 = .ok (.iconst 0, 1) := by decide +kernel
theorem dX0_parseNumber_150 : decode cX0_parseNumber 150 = .ok (.ireturn, 1) := by decide +kernel
theorem dX0_skipBlanks_0 : decode cX0_skipBlanks 0 = .ok (.aload_n 0, 1) := by decide +kernel
theorem dX0_skipBlanks_1 : decode cX0_skipBlanks 1 = .ok (.getfield 33, 3) := by decide +kernel
theorem dX0_skipBlanks_4 : decode cX0_skipBlanks 4 = .ok (.aload_n 0, 1) := by decide +kernel
theorem dX0_skipBlanks_5 : decode cX0_skipBlanks 5 = .ok (.getfield 22, 3) := by decide +kernel
theorem dX0_skipBlanks_8 : decode cX0_skipBlanks 8 = .ok (.getfield 39, 3) := by decide +kernel
theorem dX0_skipBlanks_11 : decode cX0_skipBlanks 11 = .ok (.if_icmp .ge 25, 3) := by decide +kernel
theorem dX0_skipBlanks_14 : decode cX0_skipBlanks 14 = .ok (.aload_n 0, 1) := by decide +kernel
theorem dX0_skipBlanks_15 : decode cX0_skipBlanks 15 = .ok (.invokevirtual 55, 3) := by decide +kernel
theorem dX0_skipBlanks_18 : decode cX0_skipBlanks 18 = .ok (.bipush 32, 2) := by decide +kernel
theorem dX0_skipBlanks_20 : decode cX0_skipBlanks 20 = .ok (.if_icmp .ne 16, 3) := by decide +kernel
theorem dX0_skipBlanks_23 : decode cX0_skipBlanks 23 = .ok (.aload_n 0, 1) := by decide +kernel
theorem dX0_skipBlanks_24 : decode cX0_skipBlanks 24 = .ok (.dup, 1) := by decide +kernel
theorem dX0_skipBlanks_25 : decode cX0_skipBlanks 25 = .ok (.getfield 33, 3) := by decide +kernel
theorem dX0_skipBlanks_28 : decode cX0_skipBlanks 28 = .ok (.iconst 1, 1) := by decide +kernel
theorem dX0_skipBlanks_29 : decode cX0_skipBlanks 29 = .ok (.iadd, 1) := by decide +kernel
theorem dX0_skipBlanks_30 : decode cX0_skipBlanks 30 = .ok (.putfield 33, 3) := by decide +kernel
theorem dX0_skipBlanks_33 : decode cX0_skipBlanks 33 = .ok (.goto (-33), 3) := by decide +kernel
theorem dX0_skipBlanks_36 : decode cX0_skipBlanks 36 = .ok (.return_, 1) := by decide +kernel
theorem dX0_here_0 : decode cX0_here 0 = .ok (.aload_n 0, 1) := by decide +kernel
theorem dX0_here_1 : decode cX0_here 1 = .ok (.getfield 33, 3) := by decide +kernel
theorem dX0_here_4 : decode cX0_here 4 = .ok (.ifCond .lt 32, 3) := by decide +kernel
theorem dX0_here_7 : decode cX0_here 7 = .ok (.aload_n 0, 1) := by decide +kernel
theorem dX0_here_8 : decode cX0_here 8 = .ok (.getfield 33, 3) := by decide +kernel
theorem dX0_here_11 : decode cX0_here 11 = .ok (.aload_n 0, 1) := by decide +kernel
theorem dX0_here_12 : decode cX0_here 12 = .ok (.getfield 22, 3) := by decide +kernel
theorem dX0_here_15 : decode cX0_here 15 = .ok (.getfield 39, 3) := by decide +kernel
theorem dX0_here_18 : decode cX0_here 18 = .ok (.if_icmp .ge 18, 3) := by decide +kernel
theorem dX0_here_21 : decode cX0_here 21 = .ok (.aload_n 0, 1) := by decide +kernel
theorem dX0_here_22 : decode cX0_here 22 = .ok (.getfield 22, 3) := by decide +kernel
theorem dX0_here_25 : decode cX0_here 25 = .ok (.getfield 106, 3) := by decide +kernel
theorem dX0_here_28 : decode cX0_here 28 = .ok (.aload_n 0, 1) := by decide +kernel
theorem dX0_here_29 : decode cX0_here 29 = .ok (.getfield 33, 3) := by decide +kernel
theorem dX0_here_32 : decode cX0_here 32 = .ok (.iaload, 1) := by decide +kernel
theorem dX0_here_33 : decode cX0_here 33 = .ok (.goto 4, 3) := by decide +kernel
theorem dX0_here_36 : decode cX0_here 36 = .ok (.iconst (-1), 1) := by decide +kernel
theorem dX0_here_37 : decode cX0_here 37 = .ok (.ireturn, 1) := by decide +kernel
theorem dX0_blame_0 : decode cX0_blame 0 = .ok (.aload_n 0, 1) := by decide +kernel
theorem dX0_blame_1 : decode cX0_blame 1 = .ok (.iload_n 2, 1) := by decide +kernel
theorem dX0_blame_2 : decode cX0_blame 2 = .ok (.putfield 18, 3) := by decide +kernel
theorem dX0_blame_5 : decode cX0_blame 5 = .ok (.iload_n 1, 1) := by decide +kernel
theorem dX0_blame_6 : decode cX0_blame 6 = .ok (.ireturn, 1) := by decide +kernel
theorem dX0_isLetter_0 : decode cX0_isLetter 0 = .ok (.iload_n 0, 1) := by decide +kernel
theorem dX0_isLetter_1 : decode cX0_isLetter 1 = .ok (.bipush 97, 2) := by decide +kernel
theorem dX0_isLetter_3 : decode cX0_isLetter 3 = .ok (.if_icmp .lt 13, 3) := by decide +kernel
theorem dX0_isLetter_6 : decode cX0_isLetter 6 = .ok (.iload_n 0, 1) := by decide +kernel
theorem dX0_isLetter_7 : decode cX0_isLetter 7 = .ok (.bipush 104, 2) := by decide +kernel
theorem dX0_isLetter_9 : decode cX0_isLetter 9 = .ok (.if_icmp .gt 7, 3) := by decide +kernel
theorem dX0_isLetter_12 : decode cX0_isLetter 12 = .ok (.iconst 1, 1) := by decide +kernel
theorem dX0_isLetter_13 : decode cX0_isLetter 13 = .ok (.goto 4, 3) := by decide +kernel
theorem dX0_isLetter_16 : decode cX0_isLetter 16 = .ok (.iconst 0, 1) := by decide +kernel
theorem dX0_isLetter_17 : decode cX0_isLetter 17 = .ok (.ireturn, 1) := by decide +kernel
theorem dX0_isFigure_0 : decode cX0_isFigure 0 = .ok (.iload_n 0, 1) := by decide +kernel
theorem dX0_isFigure_1 : decode cX0_isFigure 1 = .ok (.bipush 48, 2) := by decide +kernel
theorem dX0_isFigure_3 : decode cX0_isFigure 3 = .ok (.if_icmp .lt 13, 3) := by decide +kernel
theorem dX0_isFigure_6 : decode cX0_isFigure 6 = .ok (.iload_n 0, 1) := by decide +kernel
theorem dX0_isFigure_7 : decode cX0_isFigure 7 = .ok (.bipush 57, 2) := by decide +kernel
theorem dX0_isFigure_9 : decode cX0_isFigure 9 = .ok (.if_icmp .gt 7, 3) := by decide +kernel
theorem dX0_isFigure_12 : decode cX0_isFigure 12 = .ok (.iconst 1, 1) := by decide +kernel
theorem dX0_isFigure_13 : decode cX0_isFigure 13 = .ok (.goto 4, 3) := by decide +kernel
theorem dX0_isFigure_16 : decode cX0_isFigure 16 = .ok (.iconst 0, 1) := by decide +kernel
theorem dX0_isFigure_17 : decode cX0_isFigure 17 = .ok (.ireturn, 1) := by decide +kernel
theorem dX1_init_0 : decode cX1_init 0 = .ok (.aload_n 0, 1) := by decide +kernel
theorem dX1_init_1 : decode cX1_init 1 = .ok (.invokespecial 3, 3) := by decide +kernel
theorem dX1_init_4 : decode cX1_init 4 = .ok (.aload_n 0, 1) := by decide +kernel
theorem dX1_init_5 : decode cX1_init 5 = .ok (.sipush 2000, 3) := by decide +kernel
theorem dX1_init_8 : decode cX1_init 8 = .ok (.newarray .long, 2) := by decide +kernel
theorem dX1_init_10 : decode cX1_init 10 = .ok (.putfield 9, 3) := by decide +kernel
theorem dX1_init_13 : decode cX1_init 13 = .ok (.aload_n 0, 1) := by decide +kernel
theorem dX1_init_14 : decode cX1_init 14 = .ok (.sipush 2000, 3) := by decide +kernel
theorem dX1_init_17 : decode cX1_init 17 = .ok (.newarray .long, 2) := by decide +kernel
theorem dX1_init_19 : decode cX1_init 19 = .ok (.putfield 15, 3) := by decide +kernel
theorem dX1_init_22 : decode cX1_init 22 = .ok (.aload_n 0, 1) := by decide +kernel
theorem dX1_init_23 : decode cX1_init 23 = .ok (.sipush 1024, 3) := by decide +kernel
theorem dX1_init_26 : decode cX1_init 26 = .ok (.newarray .int, 2) := by decide +kernel
theorem dX1_init_28 : decode cX1_init 28 = .ok (.putfield 18, 3) := by decide +kernel
theorem dX1_init_31 : decode cX1_init 31 = .ok (.aload_n 0, 1) := by decide +kernel
theorem dX1_init_32 : decode cX1_init 32 = .ok (.sipush 2000, 3) := by decide +kernel
theorem dX1_init_35 : decode cX1_init 35 = .ok (.newarray .int, 2) := by decide +kernel
theorem dX1_init_37 : decode cX1_init 37 = .ok (.putfield 22, 3) := by decide +kernel
theorem dX1_init_40 : decode cX1_init 40 = .ok (.aload_n 0, 1) := by decide +kernel
theorem dX1_init_41 : decode cX1_init 41 = .ok (.sipush 2000, 3) := by decide +kernel
theorem dX1_init_44 : decode cX1_init 44 = .ok (.newarray .int, 2) := by decide +kernel
theorem dX1_init_46 : decode cX1_init 46 = .ok (.putfield 25, 3) := by decide +kernel
theorem dX1_init_49 : decode cX1_init 49 = .ok (.aload_n 0, 1) := by decide +kernel
theorem dX1_init_50 : decode cX1_init 50 = .ok (.sipush 2000, 3) := by decide +kernel
theorem dX1_init_53 : decode cX1_init 53 = .ok (.newarray .int, 2) := by decide +kernel
theorem dX1_init_55 : decode cX1_init 55 = .ok (.putfield 28, 3) := by decide +kernel
theorem dX1_init_58 : decode cX1_init 58 = .ok (.aload_n 0, 1) := by decide +kernel
theorem dX1_init_59 : decode cX1_init 59 = .ok (.sipush 2000, 3) := by decide +kernel
theorem dX1_init_62 : decode cX1_init 62 = .ok (.newarray .long, 2) := by decide +kernel
theorem dX1_init_64 : decode cX1_init 64 = .ok (.putfield 31, 3) := by decide +kernel
theorem dX1_init_67 : decode cX1_init 67 = .ok (.aload_n 0, 1) := by decide +kernel
theorem dX1_init_68 : decode cX1_init 68 = .ok (.sipush 2000, 3) := by decide +kernel
theorem dX1_init_71 : decode cX1_init 71 = .ok (.newarray .long, 2) := by decide +kernel
theorem dX1_init_73 : decode cX1_init 73 = .ok (.putfield 34, 3) := by decide +kernel
theorem dX1_init_76 : decode cX1_init 76 = .ok (.aload_n 0, 1) := by decide +kernel
theorem dX1_init_77 : decode cX1_init 77 = .ok (.bipush 8, 2) := by decide +kernel
theorem dX1_init_79 : decode cX1_init 79 = .ok (.newarray .long, 2) := by decide +kernel
theorem dX1_init_81 : decode cX1_init 81 = .ok (.putfield 37, 3) := by decide +kernel
theorem dX1_init_84 : decode cX1_init 84 = .ok (.aload_n 0, 1) := by decide +kernel
theorem dX1_init_85 : decode cX1_init 85 = .ok (.bipush 8, 2) := by decide +kernel
theorem dX1_init_87 : decode cX1_init 87 = .ok (.newarray .long, 2) := by decide +kernel
theorem dX1_init_89 : decode cX1_init 89 = .ok (.putfield 40, 3) := by decide +kernel
theorem dX1_init_92 : decode cX1_init 92 = .ok (.aload_n 0, 1) := by decide +kernel
theorem dX1_init_93 : decode cX1_init 93 = .ok (.new 43, 3) := by decide +kernel
theorem dX1_init_96 : decode cX1_init 96 = .ok (.dup, 1) := by decide +kernel
theorem dX1_init_97 : decode cX1_init 97 = .ok (.invokespecial 45, 3) := by decide +kernel
theorem dX1_init_100 : decode cX1_init 100 = .ok (.putfield 46, 3) := by decide +kernel
theorem dX1_init_103 : decode cX1_init 103 = .ok (.aload_n 0, 1) := by decide +kernel
theorem dX1_init_104 : decode cX1_init 104 = .ok (.new 43, 3) := by decide +kernel
theorem dX1_init_107 : decode cX1_init 107 = .ok (.dup, 1) := by decide +kernel
theorem dX1_init_108 : decode cX1_init 108 = .ok (.invokespecial 45, 3) := by decide +kernel
theorem dX1_init_111 : decode cX1_init 111 = .ok (.putfield 50, 3) := by decide +kernel
theorem dX1_init_114 : decode cX1_init 114 = .ok (.aload_n 0, 1) := by decide +kernel
theorem dX1_init_115 : decode cX1_init 115 = .ok (.new 43, 3) := by decide +kernel
theorem dX1_init_118 : decode cX1_init 118 = .ok (.dup, 1) := by decide +kernel
theorem dX1_init_119 : decode cX1_init 119 = .ok (.invokespecial 45, 3) := by decide +kernel
theorem dX1_init_122 : decode cX1_init 122 = .ok (.putfield 53, 3) := by decide +kernel
theorem dX1_init_125 : decode cX1_init 125 = .ok (.aload_n 0, 1) := by decide +kernel
theorem dX1_init_126 : decode cX1_init 126 = .ok (.aload_n 1, 1) := by decide +kernel
theorem dX1_init_127 : decode cX1_init 127 = .ok (.putfield 56, 3) := by decide +kernel
theorem dX1_init_130 : decode cX1_init 130 = .ok (.aload_n 0, 1) := by decide +kernel
theorem dX1_init_131 : decode cX1_init 131 = .ok (.aload_n 2, 1) := by decide +kernel
theorem dX1_init_132 : decode cX1_init 132 = .ok (.putfield 60, 3) := by decide +kernel
theorem dX1_init_135 : decode cX1_init 135 = .ok (.return_, 1) := by decide +kernel
theorem dX1_search_0 : decode cX1_search 0 = .ok (.aload_n 0, 1) := by decide +kernel
theorem dX1_search_1 : decode cX1_search 1 = .ok (.invokevirtual 64, 3) := by decide +kernel
theorem dX1_search_4 : decode cX1_search 4 = .ok (.aload_n 0, 1) := by decide +kernel
theorem dX1_search_5 : decode cX1_search 5 = .ok (.invokevirtual 67, 3) := by decide +kernel
theorem dX1_search_8 : decode cX1_search 8 = .ok (.aload_n 0, 1) := by decide +kernel
theorem dX1_search_9 : decode cX1_search 9 = .ok (.invokevirtual 70, 3) := by decide +kernel
theorem dX1_search_12 : decode cX1_search 12 = .ok (.aload_n 1, 1) := by decide +kernel
theorem dX1_search_13 : decode cX1_search 13 = .ok (.iconst 1, 1) := by decide +kernel
theorem dX1_search_14 : decode cX1_search 14 = .ok (.putfield 73, 3) := by decide +kernel
theorem dX1_search_17 : decode cX1_search 17 = .ok (.aload_n 1, 1) := by decide +kernel
theorem dX1_search_18 : decode cX1_search 18 = .ok (.aload_n 1, 1) := by decide +kernel
theorem dX1_search_19 : decode cX1_search 19 = .ok (.getfield 79, 3) := by decide +kernel
theorem dX1_search_22 : decode cX1_search 22 = .ok (.ifCond .eq 21, 3) := by decide +kernel
theorem dX1_search_25 : decode cX1_search 25 = .ok (.aload_n 0, 1) := by decide +kernel
theorem dX1_search_26 : decode cX1_search 26 = .ok (.getfield 53, 3) := by decide +kernel
theorem dX1_search_29 : decode cX1_search 29 = .ok (.aload_n 0, 1) := by decide +kernel
theorem dX1_search_30 : decode cX1_search 30 = .ok (.getfield 46, 3) := by decide +kernel
theorem dX1_search_33 : decode cX1_search 33 = .ok (.invokevirtual 82, 3) := by decide +kernel
theorem dX1_search_36 : decode cX1_search 36 = .ok (.ifCond .eq 7, 3) := by decide +kernel
theorem dX1_search_39 : decode cX1_search 39 = .ok (.iconst 0, 1) := by decide +kernel
theorem dX1_search_40 : decode cX1_search 40 = .ok (.goto 4, 3) := by decide +kernel
theorem dX1_search_43 : decode cX1_search 43 = .ok (.iconst (-1), 1) := by decide +kernel
theorem dX1_search_44 : decode cX1_search 44 = .ok (.putfield 86, 3) := by decide +kernel
theorem dX1_search_47 : decode cX1_search 47 = .ok (.iconst 0, 1) := by decide +kernel
theorem dX1_search_48 : decode cX1_search 48 = .ok (.istore_n 2, 1) := by decide +kernel
theorem dX1_search_49 : decode cX1_search 49 = .ok (.iconst 1, 1) := by decide +kernel
theorem dX1_search_50 : decode cX1_search 50 = .ok (.istore_n 3, 1) := by decide +kernel
theorem dX1_search_51 : decode cX1_search 51 = .ok (.iload_n 3, 1) := by decide +kernel
theorem dX1_search_52 : decode cX1_search 52 = .ok (.bipush 12, 2) := by decide +kernel
theorem dX1_search_54 : decode cX1_search 54 = .ok (.if_icmp .gt 58, 3) := by decide +kernel
theorem dX1_search_57 : decode cX1_search 57 = .ok (.aload_n 1, 1) := by decide +kernel
theorem dX1_search_58 : decode cX1_search 58 = .ok (.getfield 86, 3) := by decide +kernel
theorem dX1_search_61 : decode cX1_search 61 = .ok (.iconst (-1), 1) := by decide +kernel
theorem dX1_search_62 : decode cX1_search 62 = .ok (.if_icmp .ne 50, 3) := by decide +kernel
theorem dX1_search_65 : decode cX1_search 65 = .ok (.aload_n 0, 1) := by decide +kernel
theorem dX1_search_66 : decode cX1_search 66 = .ok (.getfield 90, 3) := by decide +kernel
theorem dX1_search_69 : decode cX1_search 69 = .ok (.istore 4, 2) := by decide +kernel
theorem dX1_search_71 : decode cX1_search 71 = .ok (.iload_n 2, 1) := by decide +kernel
theorem dX1_search_72 : decode cX1_search 72 = .ok (.istore 5, 2) := by decide +kernel
theorem dX1_search_74 : decode cX1_search 74 = .ok (.iload 5, 2) := by decide +kernel
theorem dX1_search_76 : decode cX1_search 76 = .ok (.iload 4, 2) := by decide +kernel
theorem dX1_search_78 : decode cX1_search 78 = .ok (.if_icmp .ge 25, 3) := by decide +kernel
theorem dX1_search_81 : decode cX1_search 81 = .ok (.aload_n 1, 1) := by decide +kernel
theorem dX1_search_82 : decode cX1_search 82 = .ok (.getfield 86, 3) := by decide +kernel
theorem dX1_search_85 : decode cX1_search 85 = .ok (.iconst (-1), 1) := by decide +kernel
theorem dX1_search_86 : decode cX1_search 86 = .ok (.if_icmp .ne 17, 3) := by decide +kernel
theorem dX1_search_89 : decode cX1_search 89 = .ok (.aload_n 0, 1) := by decide +kernel
theorem dX1_search_90 : decode cX1_search 90 = .ok (.iload 5, 2) := by decide +kernel
theorem dX1_search_92 : decode cX1_search 92 = .ok (.iload_n 3, 1) := by decide +kernel
theorem dX1_search_93 : decode cX1_search 93 = .ok (.aload_n 1, 1) := by decide +kernel
theorem dX1_search_94 : decode cX1_search 94 = .ok (.invokevirtual 93, 3) := by decide +kernel
theorem dX1_search_97 : decode cX1_search 97 = .ok (.iinc 5 1, 3) := by decide +kernel
theorem dX1_search_100 : decode cX1_search 100 = .ok (.goto (-26), 3) := by decide +kernel
theorem dX1_search_103 : decode cX1_search 103 = .ok (.iload 4, 2) := by decide +kernel
theorem dX1_search_105 : decode cX1_search 105 = .ok (.istore_n 2, 1) := by decide +kernel
theorem dX1_search_106 : decode cX1_search 106 = .ok (.iinc 3 1, 3) := by decide +kernel
theorem dX1_search_109 : decode cX1_search 109 = .ok (.goto (-58), 3) := by decide +kernel
theorem dX1_search_112 : decode cX1_search 112 = .ok (.return_, 1) := by decide +kernel
theorem dX1_beAnywhere_0 : decode cX1_beAnywhere 0 = .ok (.aload_n 0, 1) := by decide +kernel
theorem dX1_beAnywhere_1 : decode cX1_beAnywhere 1 = .ok (.getfield 53, 3) := by decide +kernel
theorem dX1_beAnywhere_4 : decode cX1_beAnywhere 4 = .ok (.invokevirtual 97, 3) := by decide +kernel
theorem dX1_beAnywhere_7 : decode cX1_beAnywhere 7 = .ok (.iconst 0, 1) := by decide +kernel
theorem dX1_beAnywhere_8 : decode cX1_beAnywhere 8 = .ok (.istore_n 1, 1) := by decide +kernel
theorem dX1_beAnywhere_9 : decode cX1_beAnywhere 9 = .ok (.iload_n 1, 1) := by decide +kernel
theorem dX1_beAnywhere_10 : decode cX1_beAnywhere 10 = .ok (.bipush 8, 2) := by decide +kernel
theorem dX1_beAnywhere_12 : decode cX1_beAnywhere 12 = .ok (.if_icmp .ge 45, 3) := by decide +kernel
theorem dX1_beAnywhere_15 : decode cX1_beAnywhere 15 = .ok (.aload_n 0, 1) := by decide +kernel
theorem dX1_beAnywhere_16 : decode cX1_beAnywhere 16 = .ok (.getfield 53, 3) := by decide +kernel
theorem dX1_beAnywhere_19 : decode cX1_beAnywhere 19 = .ok (.dup, 1) := by decide +kernel
theorem dX1_beAnywhere_20 : decode cX1_beAnywhere 20 = .ok (.getfield 100, 3) := by decide +kernel
theorem dX1_beAnywhere_23 : decode cX1_beAnywhere 23 = .ok (.aload_n 0, 1) := by decide +kernel
theorem dX1_beAnywhere_24 : decode cX1_beAnywhere 24 = .ok (.getfield 37, 3) := by decide +kernel
theorem dX1_beAnywhere_27 : decode cX1_beAnywhere 27 = .ok (.iload_n 1, 1) := by decide +kernel
theorem dX1_beAnywhere_28 : decode cX1_beAnywhere 28 = .ok (.laload, 1) := by decide +kernel
theorem dX1_beAnywhere_29 : decode cX1_beAnywhere 29 = .ok (.lor, 1) := by decide +kernel
theorem dX1_beAnywhere_30 : decode cX1_beAnywhere 30 = .ok (.putfield 100, 3) := by decide +kernel
theorem dX1_beAnywhere_33 : decode cX1_beAnywhere 33 = .ok (.aload_n 0, 1) := by decide +kernel
theorem dX1_beAnywhere_34 : decode cX1_beAnywhere 34 = .ok (.getfield 53, 3) := by decide +kernel
theorem dX1_beAnywhere_37 : decode cX1_beAnywhere 37 = .ok (.dup, 1) := by decide +kernel
theorem dX1_beAnywhere_38 : decode cX1_beAnywhere 38 = .ok (.getfield 104, 3) := by decide +kernel
theorem dX1_beAnywhere_41 : decode cX1_beAnywhere 41 = .ok (.aload_n 0, 1) := by decide +kernel
theorem dX1_beAnywhere_42 : decode cX1_beAnywhere 42 = .ok (.getfield 40, 3) := by decide +kernel
theorem dX1_beAnywhere_45 : decode cX1_beAnywhere 45 = .ok (.iload_n 1, 1) := by decide +kernel
theorem dX1_beAnywhere_46 : decode cX1_beAnywhere 46 = .ok (.laload, 1) := by decide +kernel
theorem dX1_beAnywhere_47 : decode cX1_beAnywhere 47 = .ok (.lor, 1) := by decide +kernel
theorem dX1_beAnywhere_48 : decode cX1_beAnywhere 48 = .ok (.putfield 104, 3) := by decide +kernel
theorem dX1_beAnywhere_51 : decode cX1_beAnywhere 51 = .ok (.iinc 1 1, 3) := by decide +kernel
theorem dX1_beAnywhere_54 : decode cX1_beAnywhere 54 = .ok (.goto (-45), 3) := by decide +kernel
theorem dX1_beAnywhere_57 : decode cX1_beAnywhere 57 = .ok (.return_, 1) := by decide +kernel
theorem dX1_searchBehind_0 : decode cX1_searchBehind 0 = .ok (.iconst 0, 1) := by decide +kernel
theorem dX1_searchBehind_1 : decode cX1_searchBehind 1 = .ok (.istore 4, 2) := by decide +kernel
theorem dX1_searchBehind_3 : decode cX1_searchBehind 3 = .ok (.iload 4, 2) := by decide +kernel
theorem dX1_searchBehind_5 : decode cX1_searchBehind 5 = .ok (.aload_n 0, 1) := by decide +kernel
theorem dX1_searchBehind_6 : decode cX1_searchBehind 6 = .ok (.getfield 60, 3) := by decide +kernel
theorem dX1_searchBehind_9 : decode cX1_searchBehind 9 = .ok (.getfield 107, 3) := by decide +kernel
theorem dX1_searchBehind_12 : decode cX1_searchBehind 12 = .ok (.if_icmp .ge 129, 3) := by decide +kernel
theorem dX1_searchBehind_15 : decode cX1_searchBehind 15 = .ok (.aload_n 0, 1) := by decide +kernel
theorem dX1_searchBehind_16 : decode cX1_searchBehind 16 = .ok (.iload_n 1, 1) := by decide +kernel
theorem dX1_searchBehind_17 : decode cX1_searchBehind 17 = .ok (.iload 4, 2) := by decide +kernel
theorem dX1_searchBehind_19 : decode cX1_searchBehind 19 = .ok (.invokevirtual 112, 3) := by decide +kernel
theorem dX1_searchBehind_22 : decode cX1_searchBehind 22 = .ok (.aload_n 3, 1) := by decide +kernel
theorem dX1_searchBehind_23 : decode cX1_searchBehind 23 = .ok (.getfield 79, 3) := by decide +kernel
theorem dX1_searchBehind_26 : decode cX1_searchBehind 26 = .ok (.ifCond .eq 17, 3) := by decide +kernel
theorem dX1_searchBehind_29 : decode cX1_searchBehind 29 = .ok (.aload_n 0, 1) := by decide +kernel
theorem dX1_searchBehind_30 : decode cX1_searchBehind 30 = .ok (.getfield 53, 3) := by decide +kernel
theorem dX1_searchBehind_33 : decode cX1_searchBehind 33 = .ok (.aload_n 0, 1) := by decide +kernel
theorem dX1_searchBehind_34 : decode cX1_searchBehind 34 = .ok (.getfield 46, 3) := by decide +kernel
theorem dX1_searchBehind_37 : decode cX1_searchBehind 37 = .ok (.invokevirtual 82, 3) := by decide +kernel
theorem dX1_searchBehind_40 : decode cX1_searchBehind 40 = .ok (.goto 10, 3) := by decide +kernel
theorem dX1_searchBehind_43 : decode cX1_searchBehind 43 = .ok (.aload_n 0, 1) := by decide +kernel
theorem dX1_searchBehind_44 : decode cX1_searchBehind 44 = .ok (.getfield 53, 3) := by decide +kernel
theorem dX1_searchBehind_47 : decode cX1_searchBehind 47 = .ok (.invokevirtual 116, 3) := by decide +kernel
theorem dX1_searchBehind_50 : decode cX1_searchBehind 50 = .ok (.istore 5, 2) := by decide +kernel
theorem dX1_searchBehind_52 : decode cX1_searchBehind 52 = .ok (.iload 5, 2) := by decide +kernel
theorem dX1_searchBehind_54 : decode cX1_searchBehind 54 = .ok (.ifCond .eq 17, 3) := by decide +kernel
theorem dX1_searchBehind_57 : decode cX1_searchBehind 57 = .ok (.aload_n 3, 1) := by decide +kernel
theorem dX1_searchBehind_58 : decode cX1_searchBehind 58 = .ok (.iload_n 2, 1) := by decide +kernel
theorem dX1_searchBehind_59 : decode cX1_searchBehind 59 = .ok (.putfield 86, 3) := by decide +kernel
theorem dX1_searchBehind_62 : decode cX1_searchBehind 62 = .ok (.aload_n 0, 1) := by decide +kernel
theorem dX1_searchBehind_63 : decode cX1_searchBehind 63 = .ok (.iload_n 1, 1) := by decide +kernel
theorem dX1_searchBehind_64 : decode cX1_searchBehind 64 = .ok (.iload 4, 2) := by decide +kernel
theorem dX1_searchBehind_66 : decode cX1_searchBehind 66 = .ok (.aload_n 3, 1) := by decide +kernel
theorem dX1_searchBehind_67 : decode cX1_searchBehind 67 = .ok (.invokevirtual 120, 3) := by decide +kernel
theorem dX1_searchBehind_70 : decode cX1_searchBehind 70 = .ok (.return_, 1) := by decide +kernel
theorem dX1_searchBehind_71 : decode cX1_searchBehind 71 = .ok (.aload_n 0, 1) := by decide +kernel
theorem dX1_searchBehind_72 : decode cX1_searchBehind 72 = .ok (.getfield 53, 3) := by decide +kernel
theorem dX1_searchBehind_75 : decode cX1_searchBehind 75 = .ok (.invokevirtual 116, 3) := by decide +kernel
theorem dX1_searchBehind_78 : decode cX1_searchBehind 78 = .ok (.ifCond .ne 57, 3) := by decide +kernel
theorem dX1_searchBehind_81 : decode cX1_searchBehind 81 = .ok (.aload_n 0, 1) := by decide +kernel
theorem dX1_searchBehind_82 : decode cX1_searchBehind 82 = .ok (.invokevirtual 123, 3) := by decide +kernel
theorem dX1_searchBehind_85 : decode cX1_searchBehind 85 = .ok (.iconst (-1), 1) := by decide +kernel
theorem dX1_searchBehind_86 : decode cX1_searchBehind 86 = .ok (.if_icmp .eq 6, 3) := by decide +kernel
theorem dX1_searchBehind_89 : decode cX1_searchBehind 89 = .ok (.goto 46, 3) := by decide +kernel
theorem dX1_searchBehind_92 : decode cX1_searchBehind 92 = .ok (.aload_n 0, 1) := by decide +kernel
theorem dX1_searchBehind_93 : decode cX1_searchBehind 93 = .ok (.getfield 90, 3) := by decide +kernel
theorem dX1_searchBehind_96 : decode cX1_searchBehind 96 = .ok (.sipush 2000, 3) := by decide +kernel
theorem dX1_searchBehind_99 : decode cX1_searchBehind 99 = .ok (.if_icmp .lt 11, 3) := by decide +kernel
theorem dX1_searchBehind_102 : decode cX1_searchBehind 102 = .ok (.aload_n 3, 1) := by decide +kernel
theorem dX1_searchBehind_103 : decode cX1_searchBehind 103 = .ok (.sipush (-1005), 3) := by decide +kernel
theorem dX1_searchBehind_106 : decode cX1_searchBehind 106 = .ok (.putfield 86, 3) := by decide +kernel
theorem dX1_searchBehind_109 : decode cX1_searchBehind 109 = .ok (.return_, 1) := by decide +kernel
theorem dX1_searchBehind_110 : decode cX1_searchBehind 110 = .ok (.aload_n 0, 1) := by decide +kernel
theorem dX1_searchBehind_111 : decode cX1_searchBehind 111 = .ok (.getfield 25, 3) := by decide +kernel
theorem dX1_searchBehind_114 : decode cX1_searchBehind 114 = .ok (.aload_n 0, 1) := by decide +kernel
theorem dX1_searchBehind_115 : decode cX1_searchBehind 115 = .ok (.getfield 90, 3) := by decide +kernel
theorem dX1_searchBehind_118 : decode cX1_searchBehind 118 = .ok (.iload_n 1, 1) := by decide +kernel
theorem dX1_searchBehind_119 : decode cX1_searchBehind 119 = .ok (.iastore, 1) := by decide +kernel
theorem dX1_searchBehind_120 : decode cX1_searchBehind 120 = .ok (.aload_n 0, 1) := by decide +kernel
theorem dX1_searchBehind_121 : decode cX1_searchBehind 121 = .ok (.getfield 28, 3) := by decide +kernel
theorem dX1_searchBehind_124 : decode cX1_searchBehind 124 = .ok (.aload_n 0, 1) := by decide +kernel
theorem dX1_searchBehind_125 : decode cX1_searchBehind 125 = .ok (.getfield 90, 3) := by decide +kernel
theorem dX1_searchBehind_128 : decode cX1_searchBehind 128 = .ok (.iload 4, 2) := by decide +kernel
theorem dX1_searchBehind_130 : decode cX1_searchBehind 130 = .ok (.iastore, 1) := by decide +kernel
theorem dX1_searchBehind_131 : decode cX1_searchBehind 131 = .ok (.aload_n 0, 1) := by decide +kernel
theorem dX1_searchBehind_132 : decode cX1_searchBehind 132 = .ok (.invokevirtual 127, 3) := by decide +kernel
theorem dX1_searchBehind_135 : decode cX1_searchBehind 135 = .ok (.iinc 4 1, 3) := by decide +kernel
theorem dX1_searchBehind_138 : decode cX1_searchBehind 138 = .ok (.goto (-135), 3) := by decide +kernel
theorem dX1_searchBehind_141 : decode cX1_searchBehind 141 = .ok (.return_, 1) := by decide +kernel
theorem dX1_spell_0 : decode cX1_spell 0 = .ok (.aload_n 3, 1) := by decide +kernel
theorem dX1_spell_1 : decode cX1_spell 1 = .ok (.getfield 130, 3) := by decide +kernel
theorem dX1_spell_4 : decode cX1_spell 4 = .ok (.aload_n 3, 1) := by decide +kernel
theorem dX1_spell_5 : decode cX1_spell 5 = .ok (.getfield 86, 3) := by decide +kernel
theorem dX1_spell_8 : decode cX1_spell 8 = .ok (.iconst 1, 1) := by decide +kernel
theorem dX1_spell_9 : decode cX1_spell 9 = .ok (.isub, 1) := by decide +kernel
theorem dX1_spell_10 : decode cX1_spell 10 = .ok (.iload_n 2, 1) := by decide +kernel
theorem dX1_spell_11 : decode cX1_spell 11 = .ok (.iastore, 1) := by decide +kernel
theorem dX1_spell_12 : decode cX1_spell 12 = .ok (.iload_n 1, 1) := by decide +kernel
theorem dX1_spell_13 : decode cX1_spell 13 = .ok (.istore 4, 2) := by decide +kernel
theorem dX1_spell_15 : decode cX1_spell 15 = .ok (.aload_n 3, 1) := by decide +kernel
theorem dX1_spell_16 : decode cX1_spell 16 = .ok (.getfield 86, 3) := by decide +kernel
theorem dX1_spell_19 : decode cX1_spell 19 = .ok (.iconst 2, 1) := by decide +kernel
theorem dX1_spell_20 : decode cX1_spell 20 = .ok (.isub, 1) := by decide +kernel
theorem dX1_spell_21 : decode cX1_spell 21 = .ok (.istore 5, 2) := by decide +kernel
theorem dX1_spell_23 : decode cX1_spell 23 = .ok (.iload 5, 2) := by decide +kernel
theorem dX1_spell_25 : decode cX1_spell 25 = .ok (.ifCond .lt 32, 3) := by decide +kernel
theorem dX1_spell_28 : decode cX1_spell 28 = .ok (.aload_n 3, 1) := by decide +kernel
theorem dX1_spell_29 : decode cX1_spell 29 = .ok (.getfield 130, 3) := by decide +kernel
theorem dX1_spell_32 : decode cX1_spell 32 = .ok (.iload 5, 2) := by decide +kernel
theorem dX1_spell_34 : decode cX1_spell 34 = .ok (.aload_n 0, 1) := by decide +kernel
theorem dX1_spell_35 : decode cX1_spell 35 = .ok (.getfield 28, 3) := by decide +kernel
theorem dX1_spell_38 : decode cX1_spell 38 = .ok (.iload 4, 2) := by decide +kernel
theorem dX1_spell_40 : decode cX1_spell 40 = .ok (.iaload, 1) := by decide +kernel
theorem dX1_spell_41 : decode cX1_spell 41 = .ok (.iastore, 1) := by decide +kernel
theorem dX1_spell_42 : decode cX1_spell 42 = .ok (.aload_n 0, 1) := by decide +kernel
theorem dX1_spell_43 : decode cX1_spell 43 = .ok (.getfield 25, 3) := by decide +kernel
theorem dX1_spell_46 : decode cX1_spell 46 = .ok (.iload 4, 2) := by decide +kernel
theorem dX1_spell_48 : decode cX1_spell 48 = .ok (.iaload, 1) := by decide +kernel
theorem dX1_spell_49 : decode cX1_spell 49 = .ok (.istore 4, 2) := by decide +kernel
theorem dX1_spell_51 : decode cX1_spell 51 = .ok (.iinc 5 (-1), 3) := by decide +kernel
theorem dX1_spell_54 : decode cX1_spell 54 = .ok (.goto (-31), 3) := by decide +kernel
theorem dX1_spell_57 : decode cX1_spell 57 = .ok (.return_, 1) := by decide +kernel
theorem dX1_countRows_0 : decode cX1_countRows 0 = .ok (.aload_n 0, 1) := by decide +kernel
theorem dX1_countRows_1 : decode cX1_countRows 1 = .ok (.invokevirtual 64, 3) := by decide +kernel
theorem dX1_countRows_4 : decode cX1_countRows 4 = .ok (.aload_n 0, 1) := by decide +kernel
theorem dX1_countRows_5 : decode cX1_countRows 5 = .ok (.getfield 53, 3) := by decide +kernel
theorem dX1_countRows_8 : decode cX1_countRows 8 = .ok (.aload_n 0, 1) := by decide +kernel
theorem dX1_countRows_9 : decode cX1_countRows 9 = .ok (.getfield 46, 3) := by decide +kernel
theorem dX1_countRows_12 : decode cX1_countRows 12 = .ok (.invokevirtual 133, 3) := by decide +kernel
theorem dX1_countRows_15 : decode cX1_countRows 15 = .ok (.aload_n 0, 1) := by decide +kernel
theorem dX1_countRows_16 : decode cX1_countRows 16 = .ok (.invokevirtual 70, 3) := by decide +kernel
theorem dX1_countRows_19 : decode cX1_countRows 19 = .ok (.aload_n 0, 1) := by decide +kernel
theorem dX1_countRows_20 : decode cX1_countRows 20 = .ok (.getfield 31, 3) := by decide +kernel
theorem dX1_countRows_23 : decode cX1_countRows 23 = .ok (.iconst 0, 1) := by decide +kernel
theorem dX1_countRows_24 : decode cX1_countRows 24 = .ok (.lconst 1, 1) := by decide +kernel
theorem dX1_countRows_25 : decode cX1_countRows 25 = .ok (.lastore, 1) := by decide +kernel
theorem dX1_countRows_26 : decode cX1_countRows 26 = .ok (.iconst 1, 1) := by decide +kernel
theorem dX1_countRows_27 : decode cX1_countRows 27 = .ok (.istore_n 2, 1) := by decide +kernel
theorem dX1_countRows_28 : decode cX1_countRows 28 = .ok (.iload_n 2, 1) := by decide +kernel
theorem dX1_countRows_29 : decode cX1_countRows 29 = .ok (.iload_n 1, 1) := by decide +kernel
theorem dX1_countRows_30 : decode cX1_countRows 30 = .ok (.if_icmp .gt 20, 3) := by decide +kernel
theorem dX1_countRows_33 : decode cX1_countRows 33 = .ok (.aload_n 0, 1) := by decide +kernel
theorem dX1_countRows_34 : decode cX1_countRows 34 = .ok (.invokevirtual 137, 3) := by decide +kernel
theorem dX1_countRows_37 : decode cX1_countRows 37 = .ok (.ifCond .ne 7, 3) := by decide +kernel
theorem dX1_countRows_40 : decode cX1_countRows 40 = .ok (.ldc2_w 140, 3) := by decide +kernel
theorem dX1_countRows_43 : decode cX1_countRows 43 = .ok (.lreturn, 1) := by decide +kernel
theorem dX1_countRows_44 : decode cX1_countRows 44 = .ok (.iinc 2 1, 3) := by decide +kernel
theorem dX1_countRows_47 : decode cX1_countRows 47 = .ok (.goto (-19), 3) := by decide +kernel
theorem dX1_countRows_50 : decode cX1_countRows 50 = .ok (.lconst 0, 1) := by decide +kernel
theorem dX1_countRows_51 : decode cX1_countRows 51 = .ok (.lstore_n 2, 1) := by decide +kernel
theorem dX1_countRows_52 : decode cX1_countRows 52 = .ok (.iconst 0, 1) := by decide +kernel
theorem dX1_countRows_53 : decode cX1_countRows 53 = .ok (.istore 4, 2) := by decide +kernel
theorem dX1_countRows_55 : decode cX1_countRows 55 = .ok (.iload 4, 2) := by decide +kernel
theorem dX1_countRows_57 : decode cX1_countRows 57 = .ok (.aload_n 0, 1) := by decide +kernel
theorem dX1_countRows_58 : decode cX1_countRows 58 = .ok (.getfield 90, 3) := by decide +kernel
theorem dX1_countRows_61 : decode cX1_countRows 61 = .ok (.if_icmp .ge 59, 3) := by decide +kernel
theorem dX1_countRows_64 : decode cX1_countRows 64 = .ok (.aload_n 0, 1) := by decide +kernel
theorem dX1_countRows_65 : decode cX1_countRows 65 = .ok (.getfield 9, 3) := by decide +kernel
theorem dX1_countRows_68 : decode cX1_countRows 68 = .ok (.iload 4, 2) := by decide +kernel
theorem dX1_countRows_70 : decode cX1_countRows 70 = .ok (.laload, 1) := by decide +kernel
theorem dX1_countRows_71 : decode cX1_countRows 71 = .ok (.aload_n 0, 1) := by decide +kernel
theorem dX1_countRows_72 : decode cX1_countRows 72 = .ok (.getfield 46, 3) := by decide +kernel
theorem dX1_countRows_75 : decode cX1_countRows 75 = .ok (.getfield 100, 3) := by decide +kernel
theorem dX1_countRows_78 : decode cX1_countRows 78 = .ok (.land, 1) := by decide +kernel
theorem dX1_countRows_79 : decode cX1_countRows 79 = .ok (.lconst 0, 1) := by decide +kernel
theorem dX1_countRows_80 : decode cX1_countRows 80 = .ok (.lcmp, 1) := by decide +kernel
theorem dX1_countRows_81 : decode cX1_countRows 81 = .ok (.ifCond .ne 23, 3) := by decide +kernel
theorem dX1_countRows_84 : decode cX1_countRows 84 = .ok (.aload_n 0, 1) := by decide +kernel
theorem dX1_countRows_85 : decode cX1_countRows 85 = .ok (.getfield 15, 3) := by decide +kernel
theorem dX1_countRows_88 : decode cX1_countRows 88 = .ok (.iload 4, 2) := by decide +kernel
theorem dX1_countRows_90 : decode cX1_countRows 90 = .ok (.laload, 1) := by decide +kernel
theorem dX1_countRows_91 : decode cX1_countRows 91 = .ok (.aload_n 0, 1) := by decide +kernel
theorem dX1_countRows_92 : decode cX1_countRows 92 = .ok (.getfield 46, 3) := by decide +kernel
theorem dX1_countRows_95 : decode cX1_countRows 95 = .ok (.getfield 104, 3) := by decide +kernel
theorem dX1_countRows_98 : decode cX1_countRows 98 = .ok (.land, 1) := by decide +kernel
theorem dX1_countRows_99 : decode cX1_countRows 99 = .ok (.lconst 0, 1) := by decide +kernel
theorem dX1_countRows_100 : decode cX1_countRows 100 = .ok (.lcmp, 1) := by decide +kernel
theorem dX1_countRows_101 : decode cX1_countRows 101 = .ok (.ifCond .eq 13, 3) := by decide +kernel
theorem dX1_countRows_104 : decode cX1_countRows 104 = .ok (.lload_n 2, 1) := by decide +kernel
theorem dX1_countRows_105 : decode cX1_countRows 105 = .ok (.aload_n 0, 1) := by decide +kernel
theorem dX1_countRows_106 : decode cX1_countRows 106 = .ok (.getfield 31, 3) := by decide +kernel
theorem dX1_countRows_109 : decode cX1_countRows 109 = .ok (.iload 4, 2) := by decide +kernel
theorem dX1_countRows_111 : decode cX1_countRows 111 = .ok (.laload, 1) := by decide +kernel
theorem dX1_countRows_112 : decode cX1_countRows 112 = .ok (.ladd, 1) := by decide +kernel
theorem dX1_countRows_113 : decode cX1_countRows 113 = .ok (.lstore_n 2, 1) := by decide +kernel
theorem dX1_countRows_114 : decode cX1_countRows 114 = .ok (.iinc 4 1, 3) := by decide +kernel
theorem dX1_countRows_117 : decode cX1_countRows 117 = .ok (.goto (-62), 3) := by decide +kernel
theorem dX1_countRows_120 : decode cX1_countRows 120 = .ok (.lload_n 2, 1) := by decide +kernel
theorem dX1_countRows_121 : decode cX1_countRows 121 = .ok (.lreturn, 1) := by decide +kernel
theorem dX1_countOn_0 : decode cX1_countOn 0 = .ok (.aload_n 0, 1) := by decide +kernel
theorem dX1_countOn_1 : decode cX1_countOn 1 = .ok (.getfield 90, 3) := by decide +kernel
theorem dX1_countOn_4 : decode cX1_countOn 4 = .ok (.istore_n 1, 1) := by decide +kernel
theorem dX1_countOn_5 : decode cX1_countOn 5 = .ok (.iconst 0, 1) := by decide +kernel
theorem dX1_countOn_6 : decode cX1_countOn 6 = .ok (.istore_n 2, 1) := by decide +kernel
theorem dX1_countOn_7 : decode cX1_countOn 7 = .ok (.iload_n 2, 1) := by decide +kernel
theorem dX1_countOn_8 : decode cX1_countOn 8 = .ok (.iload_n 1, 1) := by decide +kernel
theorem dX1_countOn_9 : decode cX1_countOn 9 = .ok (.if_icmp .ge 16, 3) := by decide +kernel
theorem dX1_countOn_12 : decode cX1_countOn 12 = .ok (.aload_n 0, 1) := by decide +kernel
theorem dX1_countOn_13 : decode cX1_countOn 13 = .ok (.getfield 34, 3) := by decide +kernel
theorem dX1_countOn_16 : decode cX1_countOn 16 = .ok (.iload_n 2, 1) := by decide +kernel
theorem dX1_countOn_17 : decode cX1_countOn 17 = .ok (.lconst 0, 1) := by decide +kernel
theorem dX1_countOn_18 : decode cX1_countOn 18 = .ok (.lastore, 1) := by decide +kernel
theorem dX1_countOn_19 : decode cX1_countOn 19 = .ok (.iinc 2 1, 3) := by decide +kernel
theorem dX1_countOn_22 : decode cX1_countOn 22 = .ok (.goto (-15), 3) := by decide +kernel
theorem dX1_countOn_25 : decode cX1_countOn 25 = .ok (.iconst 0, 1) := by decide +kernel
theorem dX1_countOn_26 : decode cX1_countOn 26 = .ok (.istore_n 2, 1) := by decide +kernel
theorem dX1_countOn_27 : decode cX1_countOn 27 = .ok (.iload_n 2, 1) := by decide +kernel
theorem dX1_countOn_28 : decode cX1_countOn 28 = .ok (.iload_n 1, 1) := by decide +kernel
theorem dX1_countOn_29 : decode cX1_countOn 29 = .ok (.if_icmp .ge 116, 3) := by decide +kernel
theorem dX1_countOn_32 : decode cX1_countOn 32 = .ok (.iconst 0, 1) := by decide +kernel
theorem dX1_countOn_33 : decode cX1_countOn 33 = .ok (.istore_n 3, 1) := by decide +kernel
theorem dX1_countOn_34 : decode cX1_countOn 34 = .ok (.iload_n 3, 1) := by decide +kernel
theorem dX1_countOn_35 : decode cX1_countOn 35 = .ok (.aload_n 0, 1) := by decide +kernel
theorem dX1_countOn_36 : decode cX1_countOn 36 = .ok (.getfield 60, 3) := by decide +kernel
theorem dX1_countOn_39 : decode cX1_countOn 39 = .ok (.getfield 107, 3) := by decide +kernel
theorem dX1_countOn_42 : decode cX1_countOn 42 = .ok (.if_icmp .ge 97, 3) := by decide +kernel
theorem dX1_countOn_45 : decode cX1_countOn 45 = .ok (.aload_n 0, 1) := by decide +kernel
theorem dX1_countOn_46 : decode cX1_countOn 46 = .ok (.getfield 31, 3) := by decide +kernel
theorem dX1_countOn_49 : decode cX1_countOn 49 = .ok (.iload_n 2, 1) := by decide +kernel
theorem dX1_countOn_50 : decode cX1_countOn 50 = .ok (.laload, 1) := by decide +kernel
theorem dX1_countOn_51 : decode cX1_countOn 51 = .ok (.lconst 0, 1) := by decide +kernel
theorem dX1_countOn_52 : decode cX1_countOn 52 = .ok (.lcmp, 1) := by decide +kernel
theorem dX1_countOn_53 : decode cX1_countOn 53 = .ok (.ifCond .le 86, 3) := by decide +kernel
theorem dX1_countOn_56 : decode cX1_countOn 56 = .ok (.aload_n 0, 1) := by decide +kernel
theorem dX1_countOn_57 : decode cX1_countOn 57 = .ok (.iload_n 2, 1) := by decide +kernel
theorem dX1_countOn_58 : decode cX1_countOn 58 = .ok (.iload_n 3, 1) := by decide +kernel
theorem dX1_countOn_59 : decode cX1_countOn 59 = .ok (.invokevirtual 112, 3) := by decide +kernel
theorem dX1_countOn_62 : decode cX1_countOn 62 = .ok (.aload_n 0, 1) := by decide +kernel
theorem dX1_countOn_63 : decode cX1_countOn 63 = .ok (.getfield 53, 3) := by decide +kernel
theorem dX1_countOn_66 : decode cX1_countOn 66 = .ok (.invokevirtual 116, 3) := by decide +kernel
theorem dX1_countOn_69 : decode cX1_countOn 69 = .ok (.ifCond .eq 6, 3) := by decide +kernel
theorem dX1_countOn_72 : decode cX1_countOn 72 = .ok (.goto 61, 3) := by decide +kernel
theorem dX1_countOn_75 : decode cX1_countOn 75 = .ok (.aload_n 0, 1) := by decide +kernel
theorem dX1_countOn_76 : decode cX1_countOn 76 = .ok (.invokevirtual 123, 3) := by decide +kernel
theorem dX1_countOn_79 : decode cX1_countOn 79 = .ok (.istore 4, 2) := by decide +kernel
theorem dX1_countOn_81 : decode cX1_countOn 81 = .ok (.iload 4, 2) := by decide +kernel
theorem dX1_countOn_83 : decode cX1_countOn 83 = .ok (.iconst (-1), 1) := by decide +kernel
theorem dX1_countOn_84 : decode cX1_countOn 84 = .ok (.if_icmp .ne 33, 3) := by decide +kernel
theorem dX1_countOn_87 : decode cX1_countOn 87 = .ok (.aload_n 0, 1) := by decide +kernel
theorem dX1_countOn_88 : decode cX1_countOn 88 = .ok (.getfield 90, 3) := by decide +kernel
theorem dX1_countOn_91 : decode cX1_countOn 91 = .ok (.sipush 2000, 3) := by decide +kernel
theorem dX1_countOn_94 : decode cX1_countOn 94 = .ok (.if_icmp .lt 5, 3) := by decide +kernel
theorem dX1_countOn_97 : decode cX1_countOn 97 = .ok (.iconst 0, 1) := by decide +kernel
theorem dX1_countOn_98 : decode cX1_countOn 98 = .ok (.ireturn, 1) := by decide +kernel
theorem dX1_countOn_99 : decode cX1_countOn 99 = .ok (.aload_n 0, 1) := by decide +kernel
theorem dX1_countOn_100 : decode cX1_countOn 100 = .ok (.getfield 90, 3) := by decide +kernel
theorem dX1_countOn_103 : decode cX1_countOn 103 = .ok (.istore 4, 2) := by decide +kernel
theorem dX1_countOn_105 : decode cX1_countOn 105 = .ok (.aload_n 0, 1) := by decide +kernel
theorem dX1_countOn_106 : decode cX1_countOn 106 = .ok (.getfield 34, 3) := by decide +kernel
theorem dX1_countOn_109 : decode cX1_countOn 109 = .ok (.iload 4, 2) := by decide +kernel
theorem dX1_countOn_111 : decode cX1_countOn 111 = .ok (.lconst 0, 1) := by decide +kernel
theorem dX1_countOn_112 : decode cX1_countOn 112 = .ok (.lastore, 1) := by decide +kernel
theorem dX1_countOn_113 : decode cX1_countOn 113 = .ok (.aload_n 0, 1) := by decide +kernel
theorem dX1_countOn_114 : decode cX1_countOn 114 = .ok (.invokevirtual 127, 3) := by decide +kernel
theorem dX1_countOn_117 : decode cX1_countOn 117 = .ok (.aload_n 0, 1) := by decide +kernel
theorem dX1_countOn_118 : decode cX1_countOn 118 = .ok (.getfield 34, 3) := by decide +kernel
theorem dX1_countOn_121 : decode cX1_countOn 121 = .ok (.iload 4, 2) := by decide +kernel
theorem dX1_countOn_123 : decode cX1_countOn 123 = .ok (.dup2, 1) := by decide +kernel
theorem dX1_countOn_124 : decode cX1_countOn 124 = .ok (.laload, 1) := by decide +kernel
theorem dX1_countOn_125 : decode cX1_countOn 125 = .ok (.aload_n 0, 1) := by decide +kernel
theorem dX1_countOn_126 : decode cX1_countOn 126 = .ok (.getfield 31, 3) := by decide +kernel
theorem dX1_countOn_129 : decode cX1_countOn 129 = .ok (.iload_n 2, 1) := by decide +kernel
theorem dX1_countOn_130 : decode cX1_countOn 130 = .ok (.laload, 1) := by decide +kernel
theorem dX1_countOn_131 : decode cX1_countOn 131 = .ok (.ladd, 1) := by decide +kernel
theorem dX1_countOn_132 : decode cX1_countOn 132 = .ok (.lastore, 1) := by decide +kernel
theorem dX1_countOn_133 : decode cX1_countOn 133 = .ok (.iinc 3 1, 3) := by decide +kernel
theorem dX1_countOn_136 : decode cX1_countOn 136 = .ok (.goto (-102), 3) := by decide +kernel
theorem dX1_countOn_139 : decode cX1_countOn 139 = .ok (.iinc 2 1, 3) := by decide +kernel
theorem dX1_countOn_142 : decode cX1_countOn 142 = .ok (.goto (-115), 3) := by decide +kernel
theorem dX1_countOn_145 : decode cX1_countOn 145 = .ok (.iconst 0, 1) := by decide +kernel
theorem dX1_countOn_146 : decode cX1_countOn 146 = .ok (.istore_n 2, 1) := by decide +kernel
theorem dX1_countOn_147 : decode cX1_countOn 147 = .ok (.iload_n 2, 1) := by decide +kernel
theorem dX1_countOn_148 : decode cX1_countOn 148 = .ok (.aload_n 0, 1) := by decide +kernel
theorem dX1_countOn_149 : decode cX1_countOn 149 = .ok (.getfield 90, 3) := by decide +kernel
theorem dX1_countOn_152 : decode cX1_countOn 152 = .ok (.if_icmp .ge 21, 3) := by decide +kernel
theorem dX1_countOn_155 : decode cX1_countOn 155 = .ok (.aload_n 0, 1) := by decide +kernel
theorem dX1_countOn_156 : decode cX1_countOn 156 = .ok (.getfield 31, 3) := by decide +kernel
theorem dX1_countOn_159 : decode cX1_countOn 159 = .ok (.iload_n 2, 1) := by decide +kernel
theorem dX1_countOn_160 : decode cX1_countOn 160 = .ok (.aload_n 0, 1) := by decide +kernel
theorem dX1_countOn_161 : decode cX1_countOn 161 = .ok (.getfield 34, 3) := by decide +kernel
theorem dX1_countOn_164 : decode cX1_countOn 164 = .ok (.iload_n 2, 1) := by decide +kernel
theorem dX1_countOn_165 : decode cX1_countOn 165 = .ok (.laload, 1) := by decide +kernel
theorem dX1_countOn_166 : decode cX1_countOn 166 = .ok (.lastore, 1) := by decide +kernel
theorem dX1_countOn_167 : decode cX1_countOn 167 = .ok (.iinc 2 1, 3) := by decide +kernel
theorem dX1_countOn_170 : decode cX1_countOn 170 = .ok (.goto (-23), 3) := by decide +kernel
theorem dX1_countOn_173 : decode cX1_countOn 173 = .ok (.iconst 1, 1) := by decide +kernel
theorem dX1_countOn_174 : decode cX1_countOn 174 = .ok (.ireturn, 1) := by decide +kernel
theorem dX1_layOut_0 : decode cX1_layOut 0 = .ok (.aload_n 0, 1) := by decide +kernel
theorem dX1_layOut_1 : decode cX1_layOut 1 = .ok (.getfield 46, 3) := by decide +kernel
theorem dX1_layOut_4 : decode cX1_layOut 4 = .ok (.invokevirtual 97, 3) := by decide +kernel
theorem dX1_layOut_7 : decode cX1_layOut 7 = .ok (.aload_n 0, 1) := by decide +kernel
theorem dX1_layOut_8 : decode cX1_layOut 8 = .ok (.getfield 50, 3) := by decide +kernel
theorem dX1_layOut_11 : decode cX1_layOut 11 = .ok (.invokevirtual 97, 3) := by decide +kernel
theorem dX1_layOut_14 : decode cX1_layOut 14 = .ok (.iconst 0, 1) := by decide +kernel
theorem dX1_layOut_15 : decode cX1_layOut 15 = .ok (.istore_n 1, 1) := by decide +kernel
theorem dX1_layOut_16 : decode cX1_layOut 16 = .ok (.iload_n 1, 1) := by decide +kernel
theorem dX1_layOut_17 : decode cX1_layOut 17 = .ok (.bipush 8, 2) := by decide +kernel
theorem dX1_layOut_19 : decode cX1_layOut 19 = .ok (.if_icmp .ge 23, 3) := by decide +kernel
theorem dX1_layOut_22 : decode cX1_layOut 22 = .ok (.aload_n 0, 1) := by decide +kernel
theorem dX1_layOut_23 : decode cX1_layOut 23 = .ok (.getfield 37, 3) := by decide +kernel
theorem dX1_layOut_26 : decode cX1_layOut 26 = .ok (.iload_n 1, 1) := by decide +kernel
theorem dX1_layOut_27 : decode cX1_layOut 27 = .ok (.lconst 0, 1) := by decide +kernel
theorem dX1_layOut_28 : decode cX1_layOut 28 = .ok (.lastore, 1) := by decide +kernel
theorem dX1_layOut_29 : decode cX1_layOut 29 = .ok (.aload_n 0, 1) := by decide +kernel
theorem dX1_layOut_30 : decode cX1_layOut 30 = .ok (.getfield 40, 3) := by decide +kernel
theorem dX1_layOut_33 : decode cX1_layOut 33 = .ok (.iload_n 1, 1) := by decide +kernel
theorem dX1_layOut_34 : decode cX1_layOut 34 = .ok (.lconst 0, 1) := by decide +kernel
theorem dX1_layOut_35 : decode cX1_layOut 35 = .ok (.lastore, 1) := by decide +kernel
theorem dX1_layOut_36 : decode cX1_layOut 36 = .ok (.iinc 1 1, 3) := by decide +kernel
theorem dX1_layOut_39 : decode cX1_layOut 39 = .ok (.goto (-23), 3) := by decide +kernel
theorem dX1_layOut_42 : decode cX1_layOut 42 = .ok (.iconst 0, 1) := by decide +kernel
theorem dX1_layOut_43 : decode cX1_layOut 43 = .ok (.istore_n 1, 1) := by decide +kernel
theorem dX1_layOut_44 : decode cX1_layOut 44 = .ok (.iconst 0, 1) := by decide +kernel
theorem dX1_layOut_45 : decode cX1_layOut 45 = .ok (.istore_n 2, 1) := by decide +kernel
theorem dX1_layOut_46 : decode cX1_layOut 46 = .ok (.iload_n 2, 1) := by decide +kernel
theorem dX1_layOut_47 : decode cX1_layOut 47 = .ok (.aload_n 0, 1) := by decide +kernel
theorem dX1_layOut_48 : decode cX1_layOut 48 = .ok (.getfield 56, 3) := by decide +kernel
theorem dX1_layOut_51 : decode cX1_layOut 51 = .ok (.getfield 142, 3) := by decide +kernel
theorem dX1_layOut_54 : decode cX1_layOut 54 = .ok (.if_icmp .ge 90, 3) := by decide +kernel
theorem dX1_layOut_57 : decode cX1_layOut 57 = .ok (.aload_n 0, 1) := by decide +kernel
theorem dX1_layOut_58 : decode cX1_layOut 58 = .ok (.getfield 46, 3) := by decide +kernel
theorem dX1_layOut_61 : decode cX1_layOut 61 = .ok (.iload_n 1, 1) := by decide +kernel
theorem dX1_layOut_62 : decode cX1_layOut 62 = .ok (.invokevirtual 145, 3) := by decide +kernel
theorem dX1_layOut_65 : decode cX1_layOut 65 = .ok (.iconst 0, 1) := by decide +kernel
theorem dX1_layOut_66 : decode cX1_layOut 66 = .ok (.istore_n 3, 1) := by decide +kernel
theorem dX1_layOut_67 : decode cX1_layOut 67 = .ok (.iload_n 3, 1) := by decide +kernel
theorem dX1_layOut_68 : decode cX1_layOut 68 = .ok (.aload_n 0, 1) := by decide +kernel
theorem dX1_layOut_69 : decode cX1_layOut 69 = .ok (.getfield 56, 3) := by decide +kernel
theorem dX1_layOut_72 : decode cX1_layOut 72 = .ok (.getfield 149, 3) := by decide +kernel
theorem dX1_layOut_75 : decode cX1_layOut 75 = .ok (.iload_n 2, 1) := by decide +kernel
theorem dX1_layOut_76 : decode cX1_layOut 76 = .ok (.iaload, 1) := by decide +kernel
theorem dX1_layOut_77 : decode cX1_layOut 77 = .ok (.if_icmp .ge 51, 3) := by decide +kernel
theorem dX1_layOut_80 : decode cX1_layOut 80 = .ok (.aload_n 0, 1) := by decide +kernel
theorem dX1_layOut_81 : decode cX1_layOut 81 = .ok (.getfield 56, 3) := by decide +kernel
theorem dX1_layOut_84 : decode cX1_layOut 84 = .ok (.iload_n 2, 1) := by decide +kernel
theorem dX1_layOut_85 : decode cX1_layOut 85 = .ok (.iload_n 3, 1) := by decide +kernel
theorem dX1_layOut_86 : decode cX1_layOut 86 = .ok (.invokevirtual 152, 3) := by decide +kernel
theorem dX1_layOut_89 : decode cX1_layOut 89 = .ok (.istore 4, 2) := by decide +kernel
theorem dX1_layOut_91 : decode cX1_layOut 91 = .ok (.aload_n 0, 1) := by decide +kernel
theorem dX1_layOut_92 : decode cX1_layOut 92 = .ok (.getfield 37, 3) := by decide +kernel
theorem dX1_layOut_95 : decode cX1_layOut 95 = .ok (.iload 4, 2) := by decide +kernel
theorem dX1_layOut_97 : decode cX1_layOut 97 = .ok (.dup2, 1) := by decide +kernel
theorem dX1_layOut_98 : decode cX1_layOut 98 = .ok (.laload, 1) := by decide +kernel
theorem dX1_layOut_99 : decode cX1_layOut 99 = .ok (.iload_n 1, 1) := by decide +kernel
theorem dX1_layOut_100 : decode cX1_layOut 100 = .ok (.invokestatic 156, 3) := by decide +kernel
theorem dX1_layOut_103 : decode cX1_layOut 103 = .ok (.lor, 1) := by decide +kernel
theorem dX1_layOut_104 : decode cX1_layOut 104 = .ok (.lastore, 1) := by decide +kernel
theorem dX1_layOut_105 : decode cX1_layOut 105 = .ok (.aload_n 0, 1) := by decide +kernel
theorem dX1_layOut_106 : decode cX1_layOut 106 = .ok (.getfield 40, 3) := by decide +kernel
theorem dX1_layOut_109 : decode cX1_layOut 109 = .ok (.iload 4, 2) := by decide +kernel
theorem dX1_layOut_111 : decode cX1_layOut 111 = .ok (.dup2, 1) := by decide +kernel
theorem dX1_layOut_112 : decode cX1_layOut 112 = .ok (.laload, 1) := by decide +kernel
theorem dX1_layOut_113 : decode cX1_layOut 113 = .ok (.iload_n 1, 1) := by decide +kernel
theorem dX1_layOut_114 : decode cX1_layOut 114 = .ok (.invokestatic 160, 3) := by decide +kernel
theorem dX1_layOut_117 : decode cX1_layOut 117 = .ok (.lor, 1) := by decide +kernel
theorem dX1_layOut_118 : decode cX1_layOut 118 = .ok (.lastore, 1) := by decide +kernel
theorem dX1_layOut_119 : decode cX1_layOut 119 = .ok (.iinc 1 1, 3) := by decide +kernel
theorem dX1_layOut_122 : decode cX1_layOut 122 = .ok (.iinc 3 1, 3) := by decide +kernel
theorem dX1_layOut_125 : decode cX1_layOut 125 = .ok (.goto (-58), 3) := by decide +kernel
theorem dX1_layOut_128 : decode cX1_layOut 128 = .ok (.aload_n 0, 1) := by decide +kernel
theorem dX1_layOut_129 : decode cX1_layOut 129 = .ok (.getfield 50, 3) := by decide +kernel
theorem dX1_layOut_132 : decode cX1_layOut 132 = .ok (.iload_n 1, 1) := by decide +kernel
theorem dX1_layOut_133 : decode cX1_layOut 133 = .ok (.iconst 1, 1) := by decide +kernel
theorem dX1_layOut_134 : decode cX1_layOut 134 = .ok (.isub, 1) := by decide +kernel
theorem dX1_layOut_135 : decode cX1_layOut 135 = .ok (.invokevirtual 145, 3) := by decide +kernel
theorem dX1_layOut_138 : decode cX1_layOut 138 = .ok (.iinc 2 1, 3) := by decide +kernel
theorem dX1_layOut_141 : decode cX1_layOut 141 = .ok (.goto (-95), 3) := by decide +kernel
theorem dX1_layOut_144 : decode cX1_layOut 144 = .ok (.return_, 1) := by decide +kernel
theorem dX1_begin_0 : decode cX1_begin 0 = .ok (.iconst 0, 1) := by decide +kernel
theorem dX1_begin_1 : decode cX1_begin 1 = .ok (.istore_n 1, 1) := by decide +kernel
theorem dX1_begin_2 : decode cX1_begin 2 = .ok (.iload_n 1, 1) := by decide +kernel
theorem dX1_begin_3 : decode cX1_begin 3 = .ok (.sipush 1024, 3) := by decide +kernel
theorem dX1_begin_6 : decode cX1_begin 6 = .ok (.if_icmp .ge 16, 3) := by decide +kernel
theorem dX1_begin_9 : decode cX1_begin 9 = .ok (.aload_n 0, 1) := by decide +kernel
theorem dX1_begin_10 : decode cX1_begin 10 = .ok (.getfield 18, 3) := by decide +kernel
theorem dX1_begin_13 : decode cX1_begin 13 = .ok (.iload_n 1, 1) := by decide +kernel
theorem dX1_begin_14 : decode cX1_begin 14 = .ok (.iconst (-1), 1) := by decide +kernel
theorem dX1_begin_15 : decode cX1_begin 15 = .ok (.iastore, 1) := by decide +kernel
theorem dX1_begin_16 : decode cX1_begin 16 = .ok (.iinc 1 1, 3) := by decide +kernel
theorem dX1_begin_19 : decode cX1_begin 19 = .ok (.goto (-17), 3) := by decide +kernel
theorem dX1_begin_22 : decode cX1_begin 22 = .ok (.aload_n 0, 1) := by decide +kernel
theorem dX1_begin_23 : decode cX1_begin 23 = .ok (.iconst 0, 1) := by decide +kernel
theorem dX1_begin_24 : decode cX1_begin 24 = .ok (.putfield 90, 3) := by decide +kernel
theorem dX1_begin_27 : decode cX1_begin 27 = .ok (.aload_n 0, 1) := by decide +kernel
theorem dX1_begin_28 : decode cX1_begin 28 = .ok (.invokevirtual 127, 3) := by decide +kernel
theorem dX1_begin_31 : decode cX1_begin 31 = .ok (.return_, 1) := by decide +kernel
theorem dX1_stepFrom_0 : decode cX1_stepFrom 0 = .ok (.aload_n 0, 1) := by decide +kernel
theorem dX1_stepFrom_1 : decode cX1_stepFrom 1 = .ok (.getfield 9, 3) := by decide +kernel
theorem dX1_stepFrom_4 : decode cX1_stepFrom 4 = .ok (.iload_n 1, 1) := by decide +kernel
theorem dX1_stepFrom_5 : decode cX1_stepFrom 5 = .ok (.laload, 1) := by decide +kernel
theorem dX1_stepFrom_6 : decode cX1_stepFrom 6 = .ok (.aload_n 0, 1) := by decide +kernel
theorem dX1_stepFrom_7 : decode cX1_stepFrom 7 = .ok (.getfield 37, 3) := by decide +kernel
theorem dX1_stepFrom_10 : decode cX1_stepFrom 10 = .ok (.iload_n 2, 1) := by decide +kernel
theorem dX1_stepFrom_11 : decode cX1_stepFrom 11 = .ok (.laload, 1) := by decide +kernel
theorem dX1_stepFrom_12 : decode cX1_stepFrom 12 = .ok (.land, 1) := by decide +kernel
theorem dX1_stepFrom_13 : decode cX1_stepFrom 13 = .ok (.lstore_n 3, 1) := by decide +kernel
theorem dX1_stepFrom_14 : decode cX1_stepFrom 14 = .ok (.aload_n 0, 1) := by decide +kernel
theorem dX1_stepFrom_15 : decode cX1_stepFrom 15 = .ok (.getfield 15, 3) := by decide +kernel
theorem dX1_stepFrom_18 : decode cX1_stepFrom 18 = .ok (.iload_n 1, 1) := by decide +kernel
theorem dX1_stepFrom_19 : decode cX1_stepFrom 19 = .ok (.laload, 1) := by decide +kernel
theorem dX1_stepFrom_20 : decode cX1_stepFrom 20 = .ok (.aload_n 0, 1) := by decide +kernel
theorem dX1_stepFrom_21 : decode cX1_stepFrom 21 = .ok (.getfield 40, 3) := by decide +kernel
theorem dX1_stepFrom_24 : decode cX1_stepFrom 24 = .ok (.iload_n 2, 1) := by decide +kernel
theorem dX1_stepFrom_25 : decode cX1_stepFrom 25 = .ok (.laload, 1) := by decide +kernel
theorem dX1_stepFrom_26 : decode cX1_stepFrom 26 = .ok (.land, 1) := by decide +kernel
theorem dX1_stepFrom_27 : decode cX1_stepFrom 27 = .ok (.lstore 5, 2) := by decide +kernel
theorem dX1_stepFrom_29 : decode cX1_stepFrom 29 = .ok (.lload_n 3, 1) := by decide +kernel
theorem dX1_stepFrom_30 : decode cX1_stepFrom 30 = .ok (.aload_n 0, 1) := by decide +kernel
theorem dX1_stepFrom_31 : decode cX1_stepFrom 31 = .ok (.getfield 50, 3) := by decide +kernel
theorem dX1_stepFrom_34 : decode cX1_stepFrom 34 = .ok (.getfield 100, 3) := by decide +kernel
theorem dX1_stepFrom_37 : decode cX1_stepFrom 37 = .ok (.land, 1) := by decide +kernel
theorem dX1_stepFrom_38 : decode cX1_stepFrom 38 = .ok (.lconst 0, 1) := by decide +kernel
theorem dX1_stepFrom_39 : decode cX1_stepFrom 39 = .ok (.lcmp, 1) := by decide +kernel
theorem dX1_stepFrom_40 : decode cX1_stepFrom 40 = .ok (.ifCond .ne 18, 3) := by decide +kernel
theorem dX1_stepFrom_43 : decode cX1_stepFrom 43 = .ok (.lload 5, 2) := by decide +kernel
theorem dX1_stepFrom_45 : decode cX1_stepFrom 45 = .ok (.aload_n 0, 1) := by decide +kernel
theorem dX1_stepFrom_46 : decode cX1_stepFrom 46 = .ok (.getfield 50, 3) := by decide +kernel
theorem dX1_stepFrom_49 : decode cX1_stepFrom 49 = .ok (.getfield 104, 3) := by decide +kernel
theorem dX1_stepFrom_52 : decode cX1_stepFrom 52 = .ok (.land, 1) := by decide +kernel
theorem dX1_stepFrom_53 : decode cX1_stepFrom 53 = .ok (.lconst 0, 1) := by decide +kernel
theorem dX1_stepFrom_54 : decode cX1_stepFrom 54 = .ok (.lcmp, 1) := by decide +kernel
theorem dX1_stepFrom_55 : decode cX1_stepFrom 55 = .ok (.ifCond .eq 7, 3) := by decide +kernel
theorem dX1_stepFrom_58 : decode cX1_stepFrom 58 = .ok (.iconst 1, 1) := by decide +kernel
theorem dX1_stepFrom_59 : decode cX1_stepFrom 59 = .ok (.goto 4, 3) := by decide +kernel
theorem dX1_stepFrom_62 : decode cX1_stepFrom 62 = .ok (.iconst 0, 1) := by decide +kernel
theorem dX1_stepFrom_63 : decode cX1_stepFrom 63 = .ok (.istore 7, 2) := by decide +kernel
theorem dX1_stepFrom_65 : decode cX1_stepFrom 65 = .ok (.lload_n 3, 1) := by decide +kernel
theorem dX1_stepFrom_66 : decode cX1_stepFrom 66 = .ok (.aload_n 0, 1) := by decide +kernel
theorem dX1_stepFrom_67 : decode cX1_stepFrom 67 = .ok (.getfield 50, 3) := by decide +kernel
theorem dX1_stepFrom_70 : decode cX1_stepFrom 70 = .ok (.getfield 100, 3) := by decide +kernel
theorem dX1_stepFrom_73 : decode cX1_stepFrom 73 = .ok (.ldc2_w 163, 3) := by decide +kernel
theorem dX1_stepFrom_76 : decode cX1_stepFrom 76 = .ok (.lxor, 1) := by decide +kernel
theorem dX1_stepFrom_77 : decode cX1_stepFrom 77 = .ok (.land, 1) := by decide +kernel
theorem dX1_stepFrom_78 : decode cX1_stepFrom 78 = .ok (.lstore_n 3, 1) := by decide +kernel
theorem dX1_stepFrom_79 : decode cX1_stepFrom 79 = .ok (.lload 5, 2) := by decide +kernel
theorem dX1_stepFrom_81 : decode cX1_stepFrom 81 = .ok (.aload_n 0, 1) := by decide +kernel
theorem dX1_stepFrom_82 : decode cX1_stepFrom 82 = .ok (.getfield 50, 3) := by decide +kernel
theorem dX1_stepFrom_85 : decode cX1_stepFrom 85 = .ok (.getfield 104, 3) := by decide +kernel
theorem dX1_stepFrom_88 : decode cX1_stepFrom 88 = .ok (.ldc2_w 163, 3) := by decide +kernel
theorem dX1_stepFrom_91 : decode cX1_stepFrom 91 = .ok (.lxor, 1) := by decide +kernel
theorem dX1_stepFrom_92 : decode cX1_stepFrom 92 = .ok (.land, 1) := by decide +kernel
theorem dX1_stepFrom_93 : decode cX1_stepFrom 93 = .ok (.lstore 5, 2) := by decide +kernel
theorem dX1_stepFrom_95 : decode cX1_stepFrom 95 = .ok (.aload_n 0, 1) := by decide +kernel
theorem dX1_stepFrom_96 : decode cX1_stepFrom 96 = .ok (.getfield 53, 3) := by decide +kernel
theorem dX1_stepFrom_99 : decode cX1_stepFrom 99 = .ok (.lload_n 3, 1) := by decide +kernel
theorem dX1_stepFrom_100 : decode cX1_stepFrom 100 = .ok (.iconst 1, 1) := by decide +kernel
theorem dX1_stepFrom_101 : decode cX1_stepFrom 101 = .ok (.lshl, 1) := by decide +kernel
theorem dX1_stepFrom_102 : decode cX1_stepFrom 102 = .ok (.iload 7, 2) := by decide +kernel
theorem dX1_stepFrom_104 : decode cX1_stepFrom 104 = .ok (.ifCond .eq 13, 3) := by decide +kernel
theorem dX1_stepFrom_107 : decode cX1_stepFrom 107 = .ok (.aload_n 0, 1) := by decide +kernel
theorem dX1_stepFrom_108 : decode cX1_stepFrom 108 = .ok (.getfield 46, 3) := by decide +kernel
theorem dX1_stepFrom_111 : decode cX1_stepFrom 111 = .ok (.getfield 100, 3) := by decide +kernel
theorem dX1_stepFrom_114 : decode cX1_stepFrom 114 = .ok (.goto 4, 3) := by decide +kernel
theorem dX1_stepFrom_117 : decode cX1_stepFrom 117 = .ok (.lconst 0, 1) := by decide +kernel
theorem dX1_stepFrom_118 : decode cX1_stepFrom 118 = .ok (.lor, 1) := by decide +kernel
theorem dX1_stepFrom_119 : decode cX1_stepFrom 119 = .ok (.putfield 100, 3) := by decide +kernel
theorem dX1_stepFrom_122 : decode cX1_stepFrom 122 = .ok (.aload_n 0, 1) := by decide +kernel
theorem dX1_stepFrom_123 : decode cX1_stepFrom 123 = .ok (.getfield 53, 3) := by decide +kernel
theorem dX1_stepFrom_126 : decode cX1_stepFrom 126 = .ok (.lload 5, 2) := by decide +kernel
theorem dX1_stepFrom_128 : decode cX1_stepFrom 128 = .ok (.iconst 1, 1) := by decide +kernel
theorem dX1_stepFrom_129 : decode cX1_stepFrom 129 = .ok (.lshl, 1) := by decide +kernel
theorem dX1_stepFrom_130 : decode cX1_stepFrom 130 = .ok (.lload_n 3, 1) := by decide +kernel
theorem dX1_stepFrom_131 : decode cX1_stepFrom 131 = .ok (.bipush 63, 2) := by decide +kernel
theorem dX1_stepFrom_133 : decode cX1_stepFrom 133 = .ok (.lushr, 1) := by decide +kernel
theorem dX1_stepFrom_134 : decode cX1_stepFrom 134 = .ok (.lor, 1) := by decide +kernel
theorem dX1_stepFrom_135 : decode cX1_stepFrom 135 = .ok (.iload 7, 2) := by decide +kernel
theorem dX1_stepFrom_137 : decode cX1_stepFrom 137 = .ok (.ifCond .eq 13, 3) := by decide +kernel
theorem dX1_stepFrom_140 : decode cX1_stepFrom 140 = .ok (.aload_n 0, 1) := by decide +kernel
theorem dX1_stepFrom_141 : decode cX1_stepFrom 141 = .ok (.getfield 46, 3) := by decide +kernel
theorem dX1_stepFrom_144 : decode cX1_stepFrom 144 = .ok (.getfield 104, 3) := by decide +kernel
theorem dX1_stepFrom_147 : decode cX1_stepFrom 147 = .ok (.goto 4, 3) := by decide +kernel
theorem dX1_stepFrom_150 : decode cX1_stepFrom 150 = .ok (.lconst 0, 1) := by decide +kernel
theorem dX1_stepFrom_151 : decode cX1_stepFrom 151 = .ok (.lor, 1) := by decide +kernel
theorem dX1_stepFrom_152 : decode cX1_stepFrom 152 = .ok (.putfield 104, 3) := by decide +kernel
theorem dX1_stepFrom_155 : decode cX1_stepFrom 155 = .ok (.return_, 1) := by decide +kernel
theorem dX1_find_0 : decode cX1_find 0 = .ok (.aload_n 0, 1) := by decide +kernel
theorem dX1_find_1 : decode cX1_find 1 = .ok (.getfield 18, 3) := by decide +kernel
theorem dX1_find_4 : decode cX1_find 4 = .ok (.aload_n 0, 1) := by decide +kernel
theorem dX1_find_5 : decode cX1_find 5 = .ok (.getfield 53, 3) := by decide +kernel
theorem dX1_find_8 : decode cX1_find 8 = .ok (.invokevirtual 165, 3) := by decide +kernel
theorem dX1_find_11 : decode cX1_find 11 = .ok (.iaload, 1) := by decide +kernel
theorem dX1_find_12 : decode cX1_find 12 = .ok (.istore_n 1, 1) := by decide +kernel
theorem dX1_find_13 : decode cX1_find 13 = .ok (.iconst 0, 1) := by decide +kernel
theorem dX1_find_14 : decode cX1_find 14 = .ok (.istore_n 2, 1) := by decide +kernel
theorem dX1_find_15 : decode cX1_find 15 = .ok (.iload_n 2, 1) := by decide +kernel
theorem dX1_find_16 : decode cX1_find 16 = .ok (.sipush 2000, 3) := by decide +kernel
theorem dX1_find_19 : decode cX1_find 19 = .ok (.if_icmp .ge 57, 3) := by decide +kernel
theorem dX1_find_22 : decode cX1_find 22 = .ok (.iload_n 1, 1) := by decide +kernel
theorem dX1_find_23 : decode cX1_find 23 = .ok (.iconst (-1), 1) := by decide +kernel
theorem dX1_find_24 : decode cX1_find 24 = .ok (.if_icmp .eq 52, 3) := by decide +kernel
theorem dX1_find_27 : decode cX1_find 27 = .ok (.aload_n 0, 1) := by decide +kernel
theorem dX1_find_28 : decode cX1_find 28 = .ok (.getfield 9, 3) := by decide +kernel
theorem dX1_find_31 : decode cX1_find 31 = .ok (.iload_n 1, 1) := by decide +kernel
theorem dX1_find_32 : decode cX1_find 32 = .ok (.laload, 1) := by decide +kernel
theorem dX1_find_33 : decode cX1_find 33 = .ok (.aload_n 0, 1) := by decide +kernel
theorem dX1_find_34 : decode cX1_find 34 = .ok (.getfield 53, 3) := by decide +kernel
theorem dX1_find_37 : decode cX1_find 37 = .ok (.getfield 100, 3) := by decide +kernel
theorem dX1_find_40 : decode cX1_find 40 = .ok (.lcmp, 1) := by decide +kernel
theorem dX1_find_41 : decode cX1_find 41 = .ok (.ifCond .ne 22, 3) := by decide +kernel
theorem dX1_find_44 : decode cX1_find 44 = .ok (.aload_n 0, 1) := by decide +kernel
theorem dX1_find_45 : decode cX1_find 45 = .ok (.getfield 15, 3) := by decide +kernel
theorem dX1_find_48 : decode cX1_find 48 = .ok (.iload_n 1, 1) := by decide +kernel
theorem dX1_find_49 : decode cX1_find 49 = .ok (.laload, 1) := by decide +kernel
theorem dX1_find_50 : decode cX1_find 50 = .ok (.aload_n 0, 1) := by decide +kernel
theorem dX1_find_51 : decode cX1_find 51 = .ok (.getfield 53, 3) := by decide +kernel
theorem dX1_find_54 : decode cX1_find 54 = .ok (.getfield 104, 3) := by decide +kernel
theorem dX1_find_57 : decode cX1_find 57 = .ok (.lcmp, 1) := by decide +kernel
theorem dX1_find_58 : decode cX1_find 58 = .ok (.ifCond .ne 5, 3) := by decide +kernel
theorem dX1_find_61 : decode cX1_find 61 = .ok (.iload_n 1, 1) := by decide +kernel
theorem dX1_find_62 : decode cX1_find 62 = .ok (.ireturn, 1) := by decide +kernel
theorem dX1_find_63 : decode cX1_find 63 = .ok (.aload_n 0, 1) := by decide +kernel
theorem dX1_find_64 : decode cX1_find 64 = .ok (.getfield 22, 3) := by decide +kernel
theorem dX1_find_67 : decode cX1_find 67 = .ok (.iload_n 1, 1) := by decide +kernel
theorem dX1_find_68 : decode cX1_find 68 = .ok (.iaload, 1) := by decide +kernel
theorem dX1_find_69 : decode cX1_find 69 = .ok (.istore_n 1, 1) := by decide +kernel
theorem dX1_find_70 : decode cX1_find 70 = .ok (.iinc 2 1, 3) := by decide +kernel
theorem dX1_find_73 : decode cX1_find 73 = .ok (.goto (-58), 3) := by decide +kernel
theorem dX1_find_76 : decode cX1_find 76 = .ok (.iconst (-1), 1) := by decide +kernel
theorem dX1_find_77 : decode cX1_find 77 = .ok (.ireturn, 1) := by decide +kernel
theorem dX1_keep_0 : decode cX1_keep 0 = .ok (.aload_n 0, 1) := by decide +kernel
theorem dX1_keep_1 : decode cX1_keep 1 = .ok (.getfield 90, 3) := by decide +kernel
theorem dX1_keep_4 : decode cX1_keep 4 = .ok (.sipush 2000, 3) := by decide +kernel
theorem dX1_keep_7 : decode cX1_keep 7 = .ok (.if_icmp .ge 82, 3) := by decide +kernel
theorem dX1_keep_10 : decode cX1_keep 10 = .ok (.aload_n 0, 1) := by decide +kernel
theorem dX1_keep_11 : decode cX1_keep 11 = .ok (.getfield 9, 3) := by decide +kernel
theorem dX1_keep_14 : decode cX1_keep 14 = .ok (.aload_n 0, 1) := by decide +kernel
theorem dX1_keep_15 : decode cX1_keep 15 = .ok (.getfield 90, 3) := by decide +kernel
theorem dX1_keep_18 : decode cX1_keep 18 = .ok (.aload_n 0, 1) := by decide +kernel
theorem dX1_keep_19 : decode cX1_keep 19 = .ok (.getfield 53, 3) := by decide +kernel
theorem dX1_keep_22 : decode cX1_keep 22 = .ok (.getfield 100, 3) := by decide +kernel
theorem dX1_keep_25 : decode cX1_keep 25 = .ok (.lastore, 1) := by decide +kernel
theorem dX1_keep_26 : decode cX1_keep 26 = .ok (.aload_n 0, 1) := by decide +kernel
theorem dX1_keep_27 : decode cX1_keep 27 = .ok (.getfield 15, 3) := by decide +kernel
theorem dX1_keep_30 : decode cX1_keep 30 = .ok (.aload_n 0, 1) := by decide +kernel
theorem dX1_keep_31 : decode cX1_keep 31 = .ok (.getfield 90, 3) := by decide +kernel
theorem dX1_keep_34 : decode cX1_keep 34 = .ok (.aload_n 0, 1) := by decide +kernel
theorem dX1_keep_35 : decode cX1_keep 35 = .ok (.getfield 53, 3) := by decide +kernel
theorem dX1_keep_38 : decode cX1_keep 38 = .ok (.getfield 104, 3) := by decide +kernel
theorem dX1_keep_41 : decode cX1_keep 41 = .ok (.lastore, 1) := by decide +kernel
theorem dX1_keep_42 : decode cX1_keep 42 = .ok (.aload_n 0, 1) := by decide +kernel
theorem dX1_keep_43 : decode cX1_keep 43 = .ok (.getfield 22, 3) := by decide +kernel
theorem dX1_keep_46 : decode cX1_keep 46 = .ok (.aload_n 0, 1) := by decide +kernel
theorem dX1_keep_47 : decode cX1_keep 47 = .ok (.getfield 90, 3) := by decide +kernel
theorem dX1_keep_50 : decode cX1_keep 50 = .ok (.aload_n 0, 1) := by decide +kernel
theorem dX1_keep_51 : decode cX1_keep 51 = .ok (.getfield 18, 3) := by decide +kernel
theorem dX1_keep_54 : decode cX1_keep 54 = .ok (.aload_n 0, 1) := by decide +kernel
theorem dX1_keep_55 : decode cX1_keep 55 = .ok (.getfield 53, 3) := by decide +kernel
theorem dX1_keep_58 : decode cX1_keep 58 = .ok (.invokevirtual 165, 3) := by decide +kernel
theorem dX1_keep_61 : decode cX1_keep 61 = .ok (.iaload, 1) := by decide +kernel
theorem dX1_keep_62 : decode cX1_keep 62 = .ok (.iastore, 1) := by decide +kernel
theorem dX1_keep_63 : decode cX1_keep 63 = .ok (.aload_n 0, 1) := by decide +kernel
theorem dX1_keep_64 : decode cX1_keep 64 = .ok (.getfield 18, 3) := by decide +kernel
theorem dX1_keep_67 : decode cX1_keep 67 = .ok (.aload_n 0, 1) := by decide +kernel
theorem dX1_keep_68 : decode cX1_keep 68 = .ok (.getfield 53, 3) := by decide +kernel
theorem dX1_keep_71 : decode cX1_keep 71 = .ok (.invokevirtual 165, 3) := by decide +kernel
theorem dX1_keep_74 : decode cX1_keep 74 = .ok (.aload_n 0, 1) := by decide +kernel

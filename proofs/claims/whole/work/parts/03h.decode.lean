theorem dX11_useLine_145 : decode cX11_useLine 145 = .ok (.iconst 1, 1) := by decide +kernel
theorem dX11_useLine_146 : decode cX11_useLine 146 = .ok (.iadd, 1) := by decide +kernel
theorem dX11_useLine_147 : decode cX11_useLine 147 = .ok (.putfield 319, 3) := by decide +kernel
theorem dX11_useLine_150 : decode cX11_useLine 150 = .ok (.iinc 3 1, 3) := by decide +kernel
theorem dX11_useLine_153 : decode cX11_useLine 153 = .ok (.goto 33, 3) := by decide +kernel
theorem dX11_useLine_156 : decode cX11_useLine 156 = .ok (.aload_n 0, 1) := by decide +kernel
theorem dX11_useLine_157 : decode cX11_useLine 157 = .ok (.getfield 118, 3) := by decide +kernel
theorem dX11_useLine_160 : decode cX11_useLine 160 = .ok (.iload 5, 2) := by decide +kernel
theorem dX11_useLine_162 : decode cX11_useLine 162 = .ok (.dup2, 1) := by decide +kernel
theorem dX11_useLine_163 : decode cX11_useLine 163 = .ok (.iaload, 1) := by decide +kernel
theorem dX11_useLine_164 : decode cX11_useLine 164 = .ok (.iconst 1, 1) := by decide +kernel
theorem dX11_useLine_165 : decode cX11_useLine 165 = .ok (.iadd, 1) := by decide +kernel
theorem dX11_useLine_166 : decode cX11_useLine 166 = .ok (.iastore, 1) := by decide +kernel
theorem dX11_useLine_167 : decode cX11_useLine 167 = .ok (.iload_n 3, 1) := by decide +kernel
theorem dX11_useLine_168 : decode cX11_useLine 168 = .ok (.aload_n 0, 1) := by decide +kernel
theorem dX11_useLine_169 : decode cX11_useLine 169 = .ok (.getfield 13, 3) := by decide +kernel
theorem dX11_useLine_172 : decode cX11_useLine 172 = .ok (.iload 5, 2) := by decide +kernel
theorem dX11_useLine_174 : decode cX11_useLine 174 = .ok (.iaload, 1) := by decide +kernel
theorem dX11_useLine_175 : decode cX11_useLine 175 = .ok (.iadd, 1) := by decide +kernel
theorem dX11_useLine_176 : decode cX11_useLine 176 = .ok (.istore_n 3, 1) := by decide +kernel
theorem dX11_useLine_177 : decode cX11_useLine 177 = .ok (.aload_n 0, 1) := by decide +kernel
theorem dX11_useLine_178 : decode cX11_useLine 178 = .ok (.getfield 19, 3) := by decide +kernel
theorem dX11_useLine_181 : decode cX11_useLine 181 = .ok (.iload 5, 2) := by decide +kernel
theorem dX11_useLine_183 : decode cX11_useLine 183 = .ok (.iaload, 1) := by decide +kernel
theorem dX11_useLine_184 : decode cX11_useLine 184 = .ok (.istore 4, 2) := by decide +kernel
theorem dX11_useLine_186 : decode cX11_useLine 186 = .ok (.goto (-175), 3) := by decide +kernel
theorem dX11_useLine_189 : decode cX11_useLine 189 = .ok (.return_, 1) := by decide +kernel
theorem dX11_findUses_0 : decode cX11_findUses 0 = .ok (.aload_n 0, 1) := by decide +kernel
theorem dX11_findUses_1 : decode cX11_findUses 1 = .ok (.iconst 0, 1) := by decide +kernel
theorem dX11_findUses_2 : decode cX11_findUses 2 = .ok (.putfield 319, 3) := by decide +kernel
theorem dX11_findUses_5 : decode cX11_findUses 5 = .ok (.iconst 0, 1) := by decide +kernel
theorem dX11_findUses_6 : decode cX11_findUses 6 = .ok (.istore_n 1, 1) := by decide +kernel
theorem dX11_findUses_7 : decode cX11_findUses 7 = .ok (.iload_n 1, 1) := by decide +kernel
theorem dX11_findUses_8 : decode cX11_findUses 8 = .ok (.bipush 17, 2) := by decide +kernel
theorem dX11_findUses_10 : decode cX11_findUses 10 = .ok (.if_icmp .ge 16, 3) := by decide +kernel
theorem dX11_findUses_13 : decode cX11_findUses 13 = .ok (.aload_n 0, 1) := by decide +kernel
theorem dX11_findUses_14 : decode cX11_findUses 14 = .ok (.getfield 118, 3) := by decide +kernel
theorem dX11_findUses_17 : decode cX11_findUses 17 = .ok (.iload_n 1, 1) := by decide +kernel
theorem dX11_findUses_18 : decode cX11_findUses 18 = .ok (.iconst 0, 1) := by decide +kernel
theorem dX11_findUses_19 : decode cX11_findUses 19 = .ok (.iastore, 1) := by decide +kernel
theorem dX11_findUses_20 : decode cX11_findUses 20 = .ok (.iinc 1 1, 3) := by decide +kernel
theorem dX11_findUses_23 : decode cX11_findUses 23 = .ok (.goto (-16), 3) := by decide +kernel
theorem dX11_findUses_26 : decode cX11_findUses 26 = .ok (.iconst 0, 1) := by decide +kernel
theorem dX11_findUses_27 : decode cX11_findUses 27 = .ok (.istore_n 1, 1) := by decide +kernel
theorem dX11_findUses_28 : decode cX11_findUses 28 = .ok (.iload_n 1, 1) := by decide +kernel
theorem dX11_findUses_29 : decode cX11_findUses 29 = .ok (.aload_n 0, 1) := by decide +kernel
theorem dX11_findUses_30 : decode cX11_findUses 30 = .ok (.getfield 138, 3) := by decide +kernel
theorem dX11_findUses_33 : decode cX11_findUses 33 = .ok (.if_icmp .ge 14, 3) := by decide +kernel
theorem dX11_findUses_36 : decode cX11_findUses 36 = .ok (.aload_n 0, 1) := by decide +kernel
theorem dX11_findUses_37 : decode cX11_findUses 37 = .ok (.iload_n 1, 1) := by decide +kernel
theorem dX11_findUses_38 : decode cX11_findUses 38 = .ok (.invokevirtual 322, 3) := by decide +kernel
theorem dX11_findUses_41 : decode cX11_findUses 41 = .ok (.iinc 1 1, 3) := by decide +kernel
theorem dX11_findUses_44 : decode cX11_findUses 44 = .ok (.goto (-16), 3) := by decide +kernel
theorem dX11_findUses_47 : decode cX11_findUses 47 = .ok (.return_, 1) := by decide +kernel
theorem dX11_uses_0 : decode cX11_uses 0 = .ok (.iload_n 1, 1) := by decide +kernel
theorem dX11_uses_1 : decode cX11_uses 1 = .ok (.iconst (-1), 1) := by decide +kernel
theorem dX11_uses_2 : decode cX11_uses 2 = .ok (.if_icmp .eq 15, 3) := by decide +kernel
theorem dX11_uses_5 : decode cX11_uses 5 = .ok (.aload_n 0, 1) := by decide +kernel
theorem dX11_uses_6 : decode cX11_uses 6 = .ok (.iload_n 1, 1) := by decide +kernel
theorem dX11_uses_7 : decode cX11_uses 7 = .ok (.invokevirtual 188, 3) := by decide +kernel
theorem dX11_uses_10 : decode cX11_uses 10 = .ok (.ifCond .eq 7, 3) := by decide +kernel
theorem dX11_uses_13 : decode cX11_uses 13 = .ok (.sipush (-1001), 3) := by decide +kernel
theorem dX11_uses_16 : decode cX11_uses 16 = .ok (.ireturn, 1) := by decide +kernel
theorem dX11_uses_17 : decode cX11_uses 17 = .ok (.aload_n 0, 1) := by decide +kernel
theorem dX11_uses_18 : decode cX11_uses 18 = .ok (.invokevirtual 325, 3) := by decide +kernel
theorem dX11_uses_21 : decode cX11_uses 21 = .ok (.iload_n 1, 1) := by decide +kernel
theorem dX11_uses_22 : decode cX11_uses 22 = .ok (.iconst (-1), 1) := by decide +kernel
theorem dX11_uses_23 : decode cX11_uses 23 = .ok (.if_icmp .ne 10, 3) := by decide +kernel
theorem dX11_uses_26 : decode cX11_uses 26 = .ok (.aload_n 0, 1) := by decide +kernel
theorem dX11_uses_27 : decode cX11_uses 27 = .ok (.getfield 319, 3) := by decide +kernel
theorem dX11_uses_30 : decode cX11_uses 30 = .ok (.goto 9, 3) := by decide +kernel
theorem dX11_uses_33 : decode cX11_uses 33 = .ok (.aload_n 0, 1) := by decide +kernel
theorem dX11_uses_34 : decode cX11_uses 34 = .ok (.getfield 118, 3) := by decide +kernel
theorem dX11_uses_37 : decode cX11_uses 37 = .ok (.iload_n 1, 1) := by decide +kernel
theorem dX11_uses_38 : decode cX11_uses 38 = .ok (.iaload, 1) := by decide +kernel
theorem dX11_uses_39 : decode cX11_uses 39 = .ok (.ireturn, 1) := by decide +kernel
theorem dX11_learnOnce_0 : decode cX11_learnOnce 0 = .ok (.aload_n 0, 1) := by decide +kernel
theorem dX11_learnOnce_1 : decode cX11_learnOnce 1 = .ok (.invokevirtual 325, 3) := by decide +kernel
theorem dX11_learnOnce_4 : decode cX11_learnOnce 4 = .ok (.iconst 0, 1) := by decide +kernel
theorem dX11_learnOnce_5 : decode cX11_learnOnce 5 = .ok (.istore_n 1, 1) := by decide +kernel
theorem dX11_learnOnce_6 : decode cX11_learnOnce 6 = .ok (.iconst 0, 1) := by decide +kernel
theorem dX11_learnOnce_7 : decode cX11_learnOnce 7 = .ok (.istore_n 2, 1) := by decide +kernel
theorem dX11_learnOnce_8 : decode cX11_learnOnce 8 = .ok (.iload_n 2, 1) := by decide +kernel
theorem dX11_learnOnce_9 : decode cX11_learnOnce 9 = .ok (.aload_n 0, 1) := by decide +kernel
theorem dX11_learnOnce_10 : decode cX11_learnOnce 10 = .ok (.getfield 135, 3) := by decide +kernel
theorem dX11_learnOnce_13 : decode cX11_learnOnce 13 = .ok (.if_icmp .ge 83, 3) := by decide +kernel
theorem dX11_learnOnce_16 : decode cX11_learnOnce 16 = .ok (.iconst 1, 1) := by decide +kernel
theorem dX11_learnOnce_17 : decode cX11_learnOnce 17 = .ok (.istore_n 3, 1) := by decide +kernel
theorem dX11_learnOnce_18 : decode cX11_learnOnce 18 = .ok (.iconst 0, 1) := by decide +kernel
theorem dX11_learnOnce_19 : decode cX11_learnOnce 19 = .ok (.istore 4, 2) := by decide +kernel
theorem dX11_learnOnce_21 : decode cX11_learnOnce 21 = .ok (.iload 4, 2) := by decide +kernel
theorem dX11_learnOnce_23 : decode cX11_learnOnce 23 = .ok (.aload_n 0, 1) := by decide +kernel
theorem dX11_learnOnce_24 : decode cX11_learnOnce 24 = .ok (.getfield 135, 3) := by decide +kernel
theorem dX11_learnOnce_27 : decode cX11_learnOnce 27 = .ok (.if_icmp .ge 36, 3) := by decide +kernel
theorem dX11_learnOnce_30 : decode cX11_learnOnce 30 = .ok (.iload_n 3, 1) := by decide +kernel
theorem dX11_learnOnce_31 : decode cX11_learnOnce 31 = .ok (.aload_n 0, 1) := by decide +kernel
theorem dX11_learnOnce_32 : decode cX11_learnOnce 32 = .ok (.getfield 118, 3) := by decide +kernel
theorem dX11_learnOnce_35 : decode cX11_learnOnce 35 = .ok (.iload 4, 2) := by decide +kernel
theorem dX11_learnOnce_37 : decode cX11_learnOnce 37 = .ok (.iaload, 1) := by decide +kernel
theorem dX11_learnOnce_38 : decode cX11_learnOnce 38 = .ok (.aload_n 0, 1) := by decide +kernel
theorem dX11_learnOnce_39 : decode cX11_learnOnce 39 = .ok (.getfield 118, 3) := by decide +kernel
theorem dX11_learnOnce_42 : decode cX11_learnOnce 42 = .ok (.iload_n 2, 1) := by decide +kernel
theorem dX11_learnOnce_43 : decode cX11_learnOnce 43 = .ok (.iaload, 1) := by decide +kernel
theorem dX11_learnOnce_44 : decode cX11_learnOnce 44 = .ok (.if_icmp .le 7, 3) := by decide +kernel
theorem dX11_learnOnce_47 : decode cX11_learnOnce 47 = .ok (.iconst 1, 1) := by decide +kernel
theorem dX11_learnOnce_48 : decode cX11_learnOnce 48 = .ok (.goto 4, 3) := by decide +kernel
theorem dX11_learnOnce_51 : decode cX11_learnOnce 51 = .ok (.iconst 0, 1) := by decide +kernel
theorem dX11_learnOnce_52 : decode cX11_learnOnce 52 = .ok (.invokestatic 195, 3) := by decide +kernel
theorem dX11_learnOnce_55 : decode cX11_learnOnce 55 = .ok (.iadd, 1) := by decide +kernel
theorem dX11_learnOnce_56 : decode cX11_learnOnce 56 = .ok (.istore_n 3, 1) := by decide +kernel
theorem dX11_learnOnce_57 : decode cX11_learnOnce 57 = .ok (.iinc 4 1, 3) := by decide +kernel
theorem dX11_learnOnce_60 : decode cX11_learnOnce 60 = .ok (.goto (-39), 3) := by decide +kernel
theorem dX11_learnOnce_63 : decode cX11_learnOnce 63 = .ok (.iload_n 1, 1) := by decide +kernel
theorem dX11_learnOnce_64 : decode cX11_learnOnce 64 = .ok (.ifCond .ne 13, 3) := by decide +kernel
theorem dX11_learnOnce_67 : decode cX11_learnOnce 67 = .ok (.aload_n 0, 1) := by decide +kernel
theorem dX11_learnOnce_68 : decode cX11_learnOnce 68 = .ok (.getfield 16, 3) := by decide +kernel
theorem dX11_learnOnce_71 : decode cX11_learnOnce 71 = .ok (.iload_n 2, 1) := by decide +kernel
theorem dX11_learnOnce_72 : decode cX11_learnOnce 72 = .ok (.iaload, 1) := by decide +kernel
theorem dX11_learnOnce_73 : decode cX11_learnOnce 73 = .ok (.iload_n 3, 1) := by decide +kernel
theorem dX11_learnOnce_74 : decode cX11_learnOnce 74 = .ok (.if_icmp .eq 7, 3) := by decide +kernel
theorem dX11_learnOnce_77 : decode cX11_learnOnce 77 = .ok (.iconst 1, 1) := by decide +kernel
theorem dX11_learnOnce_78 : decode cX11_learnOnce 78 = .ok (.goto 4, 3) := by decide +kernel
theorem dX11_learnOnce_81 : decode cX11_learnOnce 81 = .ok (.iconst 0, 1) := by decide +kernel
theorem dX11_learnOnce_82 : decode cX11_learnOnce 82 = .ok (.istore_n 1, 1) := by decide +kernel
theorem dX11_learnOnce_83 : decode cX11_learnOnce 83 = .ok (.aload_n 0, 1) := by decide +kernel
theorem dX11_learnOnce_84 : decode cX11_learnOnce 84 = .ok (.getfield 16, 3) := by decide +kernel
theorem dX11_learnOnce_87 : decode cX11_learnOnce 87 = .ok (.iload_n 2, 1) := by decide +kernel
theorem dX11_learnOnce_88 : decode cX11_learnOnce 88 = .ok (.iload_n 3, 1) := by decide +kernel
theorem dX11_learnOnce_89 : decode cX11_learnOnce 89 = .ok (.iastore, 1) := by decide +kernel
theorem dX11_learnOnce_90 : decode cX11_learnOnce 90 = .ok (.iinc 2 1, 3) := by decide +kernel
theorem dX11_learnOnce_93 : decode cX11_learnOnce 93 = .ok (.goto (-85), 3) := by decide +kernel
theorem dX11_learnOnce_96 : decode cX11_learnOnce 96 = .ok (.iload_n 1, 1) := by decide +kernel
theorem dX11_learnOnce_97 : decode cX11_learnOnce 97 = .ok (.ireturn, 1) := by decide +kernel
theorem dX11_learn_0 : decode cX11_learn 0 = .ok (.iload_n 1, 1) := by decide +kernel
theorem dX11_learn_1 : decode cX11_learn 1 = .ok (.i2l, 1) := by decide +kernel
theorem dX11_learn_2 : decode cX11_learn 2 = .ok (.lconst 1, 1) := by decide +kernel
theorem dX11_learn_3 : decode cX11_learn 3 = .ok (.ldc2_w 287, 3) := by decide +kernel
theorem dX11_learn_6 : decode cX11_learn 6 = .ok (.invokestatic 131, 3) := by decide +kernel
theorem dX11_learn_9 : decode cX11_learn 9 = .ok (.ifCond .ne 7, 3) := by decide +kernel
theorem dX11_learn_12 : decode cX11_learn 12 = .ok (.sipush (-1002), 3) := by decide +kernel
theorem dX11_learn_15 : decode cX11_learn 15 = .ok (.ireturn, 1) := by decide +kernel
theorem dX11_learn_16 : decode cX11_learn 16 = .ok (.iconst 0, 1) := by decide +kernel
theorem dX11_learn_17 : decode cX11_learn 17 = .ok (.istore_n 2, 1) := by decide +kernel
theorem dX11_learn_18 : decode cX11_learn 18 = .ok (.iload_n 2, 1) := by decide +kernel
theorem dX11_learn_19 : decode cX11_learn 19 = .ok (.iload_n 1, 1) := by decide +kernel
theorem dX11_learn_20 : decode cX11_learn 20 = .ok (.if_icmp .ge 18, 3) := by decide +kernel
theorem dX11_learn_23 : decode cX11_learn 23 = .ok (.aload_n 0, 1) := by decide +kernel
theorem dX11_learn_24 : decode cX11_learn 24 = .ok (.invokevirtual 328, 3) := by decide +kernel
theorem dX11_learn_27 : decode cX11_learn 27 = .ok (.ifCond .ne 5, 3) := by decide +kernel
theorem dX11_learn_30 : decode cX11_learn 30 = .ok (.iload_n 2, 1) := by decide +kernel
theorem dX11_learn_31 : decode cX11_learn 31 = .ok (.ireturn, 1) := by decide +kernel
theorem dX11_learn_32 : decode cX11_learn 32 = .ok (.iinc 2 1, 3) := by decide +kernel
theorem dX11_learn_35 : decode cX11_learn 35 = .ok (.goto (-17), 3) := by decide +kernel
theorem dX11_learn_38 : decode cX11_learn 38 = .ok (.iconst (-1), 1) := by decide +kernel
theorem dX11_learn_39 : decode cX11_learn 39 = .ok (.ireturn, 1) := by decide +kernel
theorem dX11_layWord_0 : decode cX11_layWord 0 = .ok (.aload_n 0, 1) := by decide +kernel
theorem dX11_layWord_1 : decode cX11_layWord 1 = .ok (.getfield 13, 3) := by decide +kernel
theorem dX11_layWord_4 : decode cX11_layWord 4 = .ok (.aload_n 0, 1) := by decide +kernel
theorem dX11_layWord_5 : decode cX11_layWord 5 = .ok (.getfield 135, 3) := by decide +kernel
theorem dX11_layWord_8 : decode cX11_layWord 8 = .ok (.iload_n 3, 1) := by decide +kernel
theorem dX11_layWord_9 : decode cX11_layWord 9 = .ok (.iastore, 1) := by decide +kernel
theorem dX11_layWord_10 : decode cX11_layWord 10 = .ok (.aload_n 0, 1) := by decide +kernel
theorem dX11_layWord_11 : decode cX11_layWord 11 = .ok (.getfield 19, 3) := by decide +kernel
theorem dX11_layWord_14 : decode cX11_layWord 14 = .ok (.aload_n 0, 1) := by decide +kernel
theorem dX11_layWord_15 : decode cX11_layWord 15 = .ok (.getfield 135, 3) := by decide +kernel
theorem dX11_layWord_18 : decode cX11_layWord 18 = .ok (.iconst 0, 1) := by decide +kernel
theorem dX11_layWord_19 : decode cX11_layWord 19 = .ok (.iastore, 1) := by decide +kernel
theorem dX11_layWord_20 : decode cX11_layWord 20 = .ok (.iconst 0, 1) := by decide +kernel
theorem dX11_layWord_21 : decode cX11_layWord 21 = .ok (.istore 4, 2) := by decide +kernel
theorem dX11_layWord_23 : decode cX11_layWord 23 = .ok (.iload 4, 2) := by decide +kernel
theorem dX11_layWord_25 : decode cX11_layWord 25 = .ok (.iload_n 3, 1) := by decide +kernel
theorem dX11_layWord_26 : decode cX11_layWord 26 = .ok (.if_icmp .ge 38, 3) := by decide +kernel
theorem dX11_layWord_29 : decode cX11_layWord 29 = .ok (.aload_n 0, 1) := by decide +kernel
theorem dX11_layWord_30 : decode cX11_layWord 30 = .ok (.getfield 7, 3) := by decide +kernel
theorem dX11_layWord_33 : decode cX11_layWord 33 = .ok (.bipush 8, 2) := by decide +kernel
theorem dX11_layWord_35 : decode cX11_layWord 35 = .ok (.aload_n 0, 1) := by decide +kernel
theorem dX11_layWord_36 : decode cX11_layWord 36 = .ok (.getfield 135, 3) := by decide +kernel
theorem dX11_layWord_39 : decode cX11_layWord 39 = .ok (.imul, 1) := by decide +kernel
theorem dX11_layWord_40 : decode cX11_layWord 40 = .ok (.iload 4, 2) := by decide +kernel
theorem dX11_layWord_42 : decode cX11_layWord 42 = .ok (.iadd, 1) := by decide +kernel
theorem dX11_layWord_43 : decode cX11_layWord 43 = .ok (.aload_n 0, 1) := by decide +kernel
theorem dX11_layWord_44 : decode cX11_layWord 44 = .ok (.getfield 32, 3) := by decide +kernel
theorem dX11_layWord_47 : decode cX11_layWord 47 = .ok (.bipush 24, 2) := by decide +kernel
theorem dX11_layWord_49 : decode cX11_layWord 49 = .ok (.iload_n 1, 1) := by decide +kernel
theorem dX11_layWord_50 : decode cX11_layWord 50 = .ok (.imul, 1) := by decide +kernel
theorem dX11_layWord_51 : decode cX11_layWord 51 = .ok (.iload_n 2, 1) := by decide +kernel
theorem dX11_layWord_52 : decode cX11_layWord 52 = .ok (.iadd, 1) := by decide +kernel
theorem dX11_layWord_53 : decode cX11_layWord 53 = .ok (.iload 4, 2) := by decide +kernel
theorem dX11_layWord_55 : decode cX11_layWord 55 = .ok (.iadd, 1) := by decide +kernel
theorem dX11_layWord_56 : decode cX11_layWord 56 = .ok (.iaload, 1) := by decide +kernel
theorem dX11_layWord_57 : decode cX11_layWord 57 = .ok (.iastore, 1) := by decide +kernel
theorem dX11_layWord_58 : decode cX11_layWord 58 = .ok (.iinc 4 1, 3) := by decide +kernel
theorem dX11_layWord_61 : decode cX11_layWord 61 = .ok (.goto (-38), 3) := by decide +kernel
theorem dX11_layWord_64 : decode cX11_layWord 64 = .ok (.iconst 1, 1) := by decide +kernel
theorem dX11_layWord_65 : decode cX11_layWord 65 = .ok (.istore 4, 2) := by decide +kernel
theorem dX11_layWord_67 : decode cX11_layWord 67 = .ok (.iconst 0, 1) := by decide +kernel
theorem dX11_layWord_68 : decode cX11_layWord 68 = .ok (.istore 5, 2) := by decide +kernel
theorem dX11_layWord_70 : decode cX11_layWord 70 = .ok (.iload 5, 2) := by decide +kernel
theorem dX11_layWord_72 : decode cX11_layWord 72 = .ok (.aload_n 0, 1) := by decide +kernel
theorem dX11_layWord_73 : decode cX11_layWord 73 = .ok (.getfield 135, 3) := by decide +kernel
theorem dX11_layWord_76 : decode cX11_layWord 76 = .ok (.if_icmp .ge 102, 3) := by decide +kernel
theorem dX11_layWord_79 : decode cX11_layWord 79 = .ok (.iload 4, 2) := by decide +kernel
theorem dX11_layWord_81 : decode cX11_layWord 81 = .ok (.ifCond .eq 97, 3) := by decide +kernel
theorem dX11_layWord_84 : decode cX11_layWord 84 = .ok (.aload_n 0, 1) := by decide +kernel
theorem dX11_layWord_85 : decode cX11_layWord 85 = .ok (.getfield 13, 3) := by decide +kernel
theorem dX11_layWord_88 : decode cX11_layWord 88 = .ok (.iload 5, 2) := by decide +kernel
theorem dX11_layWord_90 : decode cX11_layWord 90 = .ok (.iaload, 1) := by decide +kernel
theorem dX11_layWord_91 : decode cX11_layWord 91 = .ok (.iload_n 3, 1) := by decide +kernel
theorem dX11_layWord_92 : decode cX11_layWord 92 = .ok (.if_icmp .ne 7, 3) := by decide +kernel
theorem dX11_layWord_95 : decode cX11_layWord 95 = .ok (.iconst 1, 1) := by decide +kernel
theorem dX11_layWord_96 : decode cX11_layWord 96 = .ok (.goto 4, 3) := by decide +kernel
theorem dX11_layWord_99 : decode cX11_layWord 99 = .ok (.iconst 0, 1) := by decide +kernel
theorem dX11_layWord_100 : decode cX11_layWord 100 = .ok (.istore 6, 2) := by decide +kernel
theorem dX11_layWord_102 : decode cX11_layWord 102 = .ok (.iconst 0, 1) := by decide +kernel
theorem dX11_layWord_103 : decode cX11_layWord 103 = .ok (.istore 7, 2) := by decide +kernel
theorem dX11_layWord_105 : decode cX11_layWord 105 = .ok (.iload 7, 2) := by decide +kernel
theorem dX11_layWord_107 : decode cX11_layWord 107 = .ok (.iload_n 3, 1) := by decide +kernel
theorem dX11_layWord_108 : decode cX11_layWord 108 = .ok (.if_icmp .ge 52, 3) := by decide +kernel
theorem dX11_layWord_111 : decode cX11_layWord 111 = .ok (.iload 6, 2) := by decide +kernel
theorem dX11_layWord_113 : decode cX11_layWord 113 = .ok (.ifCond .eq 47, 3) := by decide +kernel
theorem dX11_layWord_116 : decode cX11_layWord 116 = .ok (.aload_n 0, 1) := by decide +kernel
theorem dX11_layWord_117 : decode cX11_layWord 117 = .ok (.getfield 7, 3) := by decide +kernel
theorem dX11_layWord_120 : decode cX11_layWord 120 = .ok (.bipush 8, 2) := by decide +kernel
theorem dX11_layWord_122 : decode cX11_layWord 122 = .ok (.iload 5, 2) := by decide +kernel
theorem dX11_layWord_124 : decode cX11_layWord 124 = .ok (.imul, 1) := by decide +kernel
theorem dX11_layWord_125 : decode cX11_layWord 125 = .ok (.iload 7, 2) := by decide +kernel
theorem dX11_layWord_127 : decode cX11_layWord 127 = .ok (.iadd, 1) := by decide +kernel
theorem dX11_layWord_128 : decode cX11_layWord 128 = .ok (.iaload, 1) := by decide +kernel
theorem dX11_layWord_129 : decode cX11_layWord 129 = .ok (.aload_n 0, 1) := by decide +kernel
theorem dX11_layWord_130 : decode cX11_layWord 130 = .ok (.getfield 7, 3) := by decide +kernel
theorem dX11_layWord_133 : decode cX11_layWord 133 = .ok (.bipush 8, 2) := by decide +kernel
theorem dX11_layWord_135 : decode cX11_layWord 135 = .ok (.aload_n 0, 1) := by decide +kernel
theorem dX11_layWord_136 : decode cX11_layWord 136 = .ok (.getfield 135, 3) := by decide +kernel
theorem dX11_layWord_139 : decode cX11_layWord 139 = .ok (.imul, 1) := by decide +kernel
theorem dX11_layWord_140 : decode cX11_layWord 140 = .ok (.iload 7, 2) := by decide +kernel
theorem dX11_layWord_142 : decode cX11_layWord 142 = .ok (.iadd, 1) := by decide +kernel
theorem dX11_layWord_143 : decode cX11_layWord 143 = .ok (.iaload, 1) := by decide +kernel
theorem dX11_layWord_144 : decode cX11_layWord 144 = .ok (.if_icmp .ne 7, 3) := by decide +kernel
theorem dX11_layWord_147 : decode cX11_layWord 147 = .ok (.iconst 1, 1) := by decide +kernel
theorem dX11_layWord_148 : decode cX11_layWord 148 = .ok (.goto 4, 3) := by decide +kernel
theorem dX11_layWord_151 : decode cX11_layWord 151 = .ok (.iconst 0, 1) := by decide +kernel
theorem dX11_layWord_152 : decode cX11_layWord 152 = .ok (.istore 6, 2) := by decide +kernel
theorem dX11_layWord_154 : decode cX11_layWord 154 = .ok (.iinc 7 1, 3) := by decide +kernel
theorem dX11_layWord_157 : decode cX11_layWord 157 = .ok (.goto (-52), 3) := by decide +kernel
theorem dX11_layWord_160 : decode cX11_layWord 160 = .ok (.iload 6, 2) := by decide +kernel
theorem dX11_layWord_162 : decode cX11_layWord 162 = .ok (.ifCond .ne 7, 3) := by decide +kernel
theorem dX11_layWord_165 : decode cX11_layWord 165 = .ok (.iconst 1, 1) := by decide +kernel
theorem dX11_layWord_166 : decode cX11_layWord 166 = .ok (.goto 4, 3) := by decide +kernel
theorem dX11_layWord_169 : decode cX11_layWord 169 = .ok (.iconst 0, 1) := by decide +kernel
theorem dX11_layWord_170 : decode cX11_layWord 170 = .ok (.istore 4, 2) := by decide +kernel
theorem dX11_layWord_172 : decode cX11_layWord 172 = .ok (.iinc 5 1, 3) := by decide +kernel
theorem dX11_layWord_175 : decode cX11_layWord 175 = .ok (.goto (-105), 3) := by decide +kernel
theorem dX11_layWord_178 : decode cX11_layWord 178 = .ok (.iload 4, 2) := by decide +kernel
theorem dX11_layWord_180 : decode cX11_layWord 180 = .ok (.ireturn, 1) := by decide +kernel
theorem dX11_isAheadOfBest_0 : decode cX11_isAheadOfBest 0 = .ok (.iconst 0, 1) := by decide +kernel
theorem dX11_isAheadOfBest_1 : decode cX11_isAheadOfBest 1 = .ok (.istore_n 2, 1) := by decide +kernel
theorem dX11_isAheadOfBest_2 : decode cX11_isAheadOfBest 2 = .ok (.iload_n 2, 1) := by decide +kernel
theorem dX11_isAheadOfBest_3 : decode cX11_isAheadOfBest 3 = .ok (.iload_n 1, 1) := by decide +kernel
theorem dX11_isAheadOfBest_4 : decode cX11_isAheadOfBest 4 = .ok (.if_icmp .ge 53, 3) := by decide +kernel
theorem dX11_isAheadOfBest_7 : decode cX11_isAheadOfBest 7 = .ok (.iload_n 2, 1) := by decide +kernel
theorem dX11_isAheadOfBest_8 : decode cX11_isAheadOfBest 8 = .ok (.aload_n 0, 1) := by decide +kernel
theorem dX11_isAheadOfBest_9 : decode cX11_isAheadOfBest 9 = .ok (.getfield 332, 3) := by decide +kernel
theorem dX11_isAheadOfBest_12 : decode cX11_isAheadOfBest 12 = .ok (.if_icmp .ge 45, 3) := by decide +kernel
theorem dX11_isAheadOfBest_15 : decode cX11_isAheadOfBest 15 = .ok (.aload_n 0, 1) := by decide +kernel
theorem dX11_isAheadOfBest_16 : decode cX11_isAheadOfBest 16 = .ok (.getfield 7, 3) := by decide +kernel
theorem dX11_isAheadOfBest_19 : decode cX11_isAheadOfBest 19 = .ok (.bipush 8, 2) := by decide +kernel
theorem dX11_isAheadOfBest_21 : decode cX11_isAheadOfBest 21 = .ok (.aload_n 0, 1) := by decide +kernel
theorem dX11_isAheadOfBest_22 : decode cX11_isAheadOfBest 22 = .ok (.getfield 135, 3) := by decide +kernel
theorem dX11_isAheadOfBest_25 : decode cX11_isAheadOfBest 25 = .ok (.imul, 1) := by decide +kernel
theorem dX11_isAheadOfBest_26 : decode cX11_isAheadOfBest 26 = .ok (.iload_n 2, 1) := by decide +kernel
theorem dX11_isAheadOfBest_27 : decode cX11_isAheadOfBest 27 = .ok (.iadd, 1) := by decide +kernel
theorem dX11_isAheadOfBest_28 : decode cX11_isAheadOfBest 28 = .ok (.iaload, 1) := by decide +kernel
theorem dX11_isAheadOfBest_29 : decode cX11_isAheadOfBest 29 = .ok (.aload_n 0, 1) := by decide +kernel
theorem dX11_isAheadOfBest_30 : decode cX11_isAheadOfBest 30 = .ok (.getfield 121, 3) := by decide +kernel
theorem dX11_isAheadOfBest_33 : decode cX11_isAheadOfBest 33 = .ok (.iload_n 2, 1) := by decide +kernel
theorem dX11_isAheadOfBest_34 : decode cX11_isAheadOfBest 34 = .ok (.iaload, 1) := by decide +kernel
theorem dX11_isAheadOfBest_35 : decode cX11_isAheadOfBest 35 = .ok (.isub, 1) := by decide +kernel
theorem dX11_isAheadOfBest_36 : decode cX11_isAheadOfBest 36 = .ok (.istore_n 3, 1) := by decide +kernel
theorem dX11_isAheadOfBest_37 : decode cX11_isAheadOfBest 37 = .ok (.iload_n 3, 1) := by decide +kernel
theorem dX11_isAheadOfBest_38 : decode cX11_isAheadOfBest 38 = .ok (.ifCond .eq 13, 3) := by decide +kernel
theorem dX11_isAheadOfBest_41 : decode cX11_isAheadOfBest 41 = .ok (.iload_n 3, 1) := by decide +kernel
theorem dX11_isAheadOfBest_42 : decode cX11_isAheadOfBest 42 = .ok (.ifCond .ge 7, 3) := by decide +kernel
theorem dX11_isAheadOfBest_45 : decode cX11_isAheadOfBest 45 = .ok (.iconst 1, 1) := by decide +kernel
theorem dX11_isAheadOfBest_46 : decode cX11_isAheadOfBest 46 = .ok (.goto 4, 3) := by decide +kernel
theorem dX11_isAheadOfBest_49 : decode cX11_isAheadOfBest 49 = .ok (.iconst 0, 1) := by decide +kernel
theorem dX11_isAheadOfBest_50 : decode cX11_isAheadOfBest 50 = .ok (.ireturn, 1) := by decide +kernel
theorem dX11_isAheadOfBest_51 : decode cX11_isAheadOfBest 51 = .ok (.iinc 2 1, 3) := by decide +kernel
theorem dX11_isAheadOfBest_54 : decode cX11_isAheadOfBest 54 = .ok (.goto (-52), 3) := by decide +kernel
theorem dX11_isAheadOfBest_57 : decode cX11_isAheadOfBest 57 = .ok (.iload_n 1, 1) := by decide +kernel
theorem dX11_isAheadOfBest_58 : decode cX11_isAheadOfBest 58 = .ok (.aload_n 0, 1) := by decide +kernel
theorem dX11_isAheadOfBest_59 : decode cX11_isAheadOfBest 59 = .ok (.getfield 332, 3) := by decide +kernel
theorem dX11_isAheadOfBest_62 : decode cX11_isAheadOfBest 62 = .ok (.if_icmp .ge 7, 3) := by decide +kernel
theorem dX11_isAheadOfBest_65 : decode cX11_isAheadOfBest 65 = .ok (.iconst 1, 1) := by decide +kernel
theorem dX11_isAheadOfBest_66 : decode cX11_isAheadOfBest 66 = .ok (.goto 4, 3) := by decide +kernel
theorem dX11_isAheadOfBest_69 : decode cX11_isAheadOfBest 69 = .ok (.iconst 0, 1) := by decide +kernel
theorem dX11_isAheadOfBest_70 : decode cX11_isAheadOfBest 70 = .ok (.ireturn, 1) := by decide +kernel
theorem dX11_tryWord_0 : decode cX11_tryWord 0 = .ok (.aload_n 0, 1) := by decide +kernel
theorem dX11_tryWord_1 : decode cX11_tryWord 1 = .ok (.dup, 1) := by decide +kernel
theorem dX11_tryWord_2 : decode cX11_tryWord 2 = .ok (.getfield 135, 3) := by decide +kernel
theorem dX11_tryWord_5 : decode cX11_tryWord 5 = .ok (.iconst 1, 1) := by decide +kernel
theorem dX11_tryWord_6 : decode cX11_tryWord 6 = .ok (.iadd, 1) := by decide +kernel
theorem dX11_tryWord_7 : decode cX11_tryWord 7 = .ok (.putfield 135, 3) := by decide +kernel
theorem dX11_tryWord_10 : decode cX11_tryWord 10 = .ok (.iload_n 2, 1) := by decide +kernel
theorem dX11_tryWord_11 : decode cX11_tryWord 11 = .ok (.aload_n 0, 1) := by decide +kernel
theorem dX11_tryWord_12 : decode cX11_tryWord 12 = .ok (.invokevirtual 335, 3) := by decide +kernel
theorem dX11_tryWord_15 : decode cX11_tryWord 15 = .ok (.isub, 1) := by decide +kernel
theorem dX11_tryWord_16 : decode cX11_tryWord 16 = .ok (.istore_n 3, 1) := by decide +kernel
theorem dX11_tryWord_17 : decode cX11_tryWord 17 = .ok (.aload_n 0, 1) := by decide +kernel
theorem dX11_tryWord_18 : decode cX11_tryWord 18 = .ok (.dup, 1) := by decide +kernel
theorem dX11_tryWord_19 : decode cX11_tryWord 19 = .ok (.getfield 135, 3) := by decide +kernel
theorem dX11_tryWord_22 : decode cX11_tryWord 22 = .ok (.iconst 1, 1) := by decide +kernel
theorem dX11_tryWord_23 : decode cX11_tryWord 23 = .ok (.isub, 1) := by decide +kernel
theorem dX11_tryWord_24 : decode cX11_tryWord 24 = .ok (.putfield 135, 3) := by decide +kernel
theorem dX11_tryWord_27 : decode cX11_tryWord 27 = .ok (.iload_n 3, 1) := by decide +kernel
theorem dX11_tryWord_28 : decode cX11_tryWord 28 = .ok (.aload_n 0, 1) := by decide +kernel
theorem dX11_tryWord_29 : decode cX11_tryWord 29 = .ok (.getfield 338, 3) := by decide +kernel
theorem dX11_tryWord_32 : decode cX11_tryWord 32 = .ok (.if_icmp .gt 23, 3) := by decide +kernel
theorem dX11_tryWord_35 : decode cX11_tryWord 35 = .ok (.iload_n 3, 1) := by decide +kernel
theorem dX11_tryWord_36 : decode cX11_tryWord 36 = .ok (.ifCond .le 66, 3) := by decide +kernel
theorem dX11_tryWord_39 : decode cX11_tryWord 39 = .ok (.iload_n 3, 1) := by decide +kernel
theorem dX11_tryWord_40 : decode cX11_tryWord 40 = .ok (.aload_n 0, 1) := by decide +kernel
theorem dX11_tryWord_41 : decode cX11_tryWord 41 = .ok (.getfield 338, 3) := by decide +kernel
theorem dX11_tryWord_44 : decode cX11_tryWord 44 = .ok (.if_icmp .ne 58, 3) := by decide +kernel
theorem dX11_tryWord_47 : decode cX11_tryWord 47 = .ok (.aload_n 0, 1) := by decide +kernel
theorem dX11_tryWord_48 : decode cX11_tryWord 48 = .ok (.iload_n 1, 1) := by decide +kernel
theorem dX11_tryWord_49 : decode cX11_tryWord 49 = .ok (.invokevirtual 341, 3) := by decide +kernel
theorem dX11_tryWord_52 : decode cX11_tryWord 52 = .ok (.ifCond .eq 50, 3) := by decide +kernel
theorem dX11_tryWord_55 : decode cX11_tryWord 55 = .ok (.aload_n 0, 1) := by decide +kernel
theorem dX11_tryWord_56 : decode cX11_tryWord 56 = .ok (.iload_n 3, 1) := by decide +kernel
theorem dX11_tryWord_57 : decode cX11_tryWord 57 = .ok (.putfield 338, 3) := by decide +kernel
theorem dX11_tryWord_60 : decode cX11_tryWord 60 = .ok (.aload_n 0, 1) := by decide +kernel
theorem dX11_tryWord_61 : decode cX11_tryWord 61 = .ok (.iload_n 1, 1) := by decide +kernel
theorem dX11_tryWord_62 : decode cX11_tryWord 62 = .ok (.putfield 332, 3) := by decide +kernel
theorem dX11_tryWord_65 : decode cX11_tryWord 65 = .ok (.iconst 0, 1) := by decide +kernel
theorem dX11_tryWord_66 : decode cX11_tryWord 66 = .ok (.istore 4, 2) := by decide +kernel
theorem dX11_tryWord_68 : decode cX11_tryWord 68 = .ok (.iload 4, 2) := by decide +kernel
theorem dX11_tryWord_70 : decode cX11_tryWord 70 = .ok (.iload_n 1, 1) := by decide +kernel
theorem dX11_tryWord_71 : decode cX11_tryWord 71 = .ok (.if_icmp .ge 31, 3) := by decide +kernel
theorem dX11_tryWord_74 : decode cX11_tryWord 74 = .ok (.aload_n 0, 1) := by decide +kernel
theorem dX11_tryWord_75 : decode cX11_tryWord 75 = .ok (.getfield 121, 3) := by decide +kernel
theorem dX11_tryWord_78 : decode cX11_tryWord 78 = .ok (.iload 4, 2) := by decide +kernel
theorem dX11_tryWord_80 : decode cX11_tryWord 80 = .ok (.aload_n 0, 1) := by decide +kernel
theorem dX11_tryWord_81 : decode cX11_tryWord 81 = .ok (.getfield 7, 3) := by decide +kernel
theorem dX11_tryWord_84 : decode cX11_tryWord 84 = .ok (.bipush 8, 2) := by decide +kernel
theorem dX11_tryWord_86 : decode cX11_tryWord 86 = .ok (.aload_n 0, 1) := by decide +kernel
theorem dX11_tryWord_87 : decode cX11_tryWord 87 = .ok (.getfield 135, 3) := by decide +kernel
theorem dX11_tryWord_90 : decode cX11_tryWord 90 = .ok (.imul, 1) := by decide +kernel
theorem dX11_tryWord_91 : decode cX11_tryWord 91 = .ok (.iload 4, 2) := by decide +kernel
theorem dX11_tryWord_93 : decode cX11_tryWord 93 = .ok (.iadd, 1) := by decide +kernel
theorem dX11_tryWord_94 : decode cX11_tryWord 94 = .ok (.iaload, 1) := by decide +kernel
theorem dX11_tryWord_95 : decode cX11_tryWord 95 = .ok (.iastore, 1) := by decide +kernel
theorem dX11_tryWord_96 : decode cX11_tryWord 96 = .ok (.iinc 4 1, 3) := by decide +kernel
theorem dX11_tryWord_99 : decode cX11_tryWord 99 = .ok (.goto (-31), 3) := by decide +kernel
theorem dX11_tryWord_102 : decode cX11_tryWord 102 = .ok (.return_, 1) := by decide +kernel
theorem dX11_fresh_0 : decode cX11_fresh 0 = .ok (.iload_n 1, 1) := by decide +kernel
theorem dX11_fresh_1 : decode cX11_fresh 1 = .ok (.i2l, 1) := by decide +kernel
theorem dX11_fresh_2 : decode cX11_fresh 2 = .ok (.lconst 0, 1) := by decide +kernel
theorem dX11_fresh_3 : decode cX11_fresh 3 = .ok (.ldc2_w 289, 3) := by decide +kernel
theorem dX11_fresh_6 : decode cX11_fresh 6 = .ok (.invokestatic 131, 3) := by decide +kernel
theorem dX11_fresh_9 : decode cX11_fresh 9 = .ok (.ifCond .eq 15, 3) := by decide +kernel
theorem dX11_fresh_12 : decode cX11_fresh 12 = .ok (.iload_n 2, 1) := by decide +kernel
theorem dX11_fresh_13 : decode cX11_fresh 13 = .ok (.i2l, 1) := by decide +kernel
theorem dX11_fresh_14 : decode cX11_fresh 14 = .ok (.lconst 0, 1) := by decide +kernel
theorem dX11_fresh_15 : decode cX11_fresh 15 = .ok (.ldc2_w 344, 3) := by decide +kernel
theorem dX11_fresh_18 : decode cX11_fresh 18 = .ok (.invokestatic 131, 3) := by decide +kernel
theorem dX11_fresh_21 : decode cX11_fresh 21 = .ok (.ifCond .ne 7, 3) := by decide +kernel
theorem dX11_fresh_24 : decode cX11_fresh 24 = .ok (.sipush (-1002), 3) := by decide +kernel
theorem dX11_fresh_27 : decode cX11_fresh 27 = .ok (.ireturn, 1) := by decide +kernel
theorem dX11_fresh_28 : decode cX11_fresh 28 = .ok (.aload_n 0, 1) := by decide +kernel
theorem dX11_fresh_29 : decode cX11_fresh 29 = .ok (.getfield 135, 3) := by decide +kernel
theorem dX11_fresh_32 : decode cX11_fresh 32 = .ok (.bipush 16, 2) := by decide +kernel
theorem dX11_fresh_34 : decode cX11_fresh 34 = .ok (.if_icmp .ne 7, 3) := by decide +kernel
theorem dX11_fresh_37 : decode cX11_fresh 37 = .ok (.sipush (-1003), 3) := by decide +kernel
theorem dX11_fresh_40 : decode cX11_fresh 40 = .ok (.ireturn, 1) := by decide +kernel
theorem dX11_fresh_41 : decode cX11_fresh 41 = .ok (.aload_n 0, 1) := by decide +kernel
theorem dX11_fresh_42 : decode cX11_fresh 42 = .ok (.invokevirtual 335, 3) := by decide +kernel
theorem dX11_fresh_45 : decode cX11_fresh 45 = .ok (.istore_n 3, 1) := by decide +kernel
theorem dX11_fresh_46 : decode cX11_fresh 46 = .ok (.aload_n 0, 1) := by decide +kernel
theorem dX11_fresh_47 : decode cX11_fresh 47 = .ok (.iconst 0, 1) := by decide +kernel
theorem dX11_fresh_48 : decode cX11_fresh 48 = .ok (.putfield 338, 3) := by decide +kernel
theorem dX11_fresh_51 : decode cX11_fresh 51 = .ok (.aload_n 0, 1) := by decide +kernel
theorem dX11_fresh_52 : decode cX11_fresh 52 = .ok (.iconst 0, 1) := by decide +kernel
theorem dX11_fresh_53 : decode cX11_fresh 53 = .ok (.putfield 332, 3) := by decide +kernel
theorem dX11_fresh_56 : decode cX11_fresh 56 = .ok (.aload_n 0, 1) := by decide +kernel
theorem dX11_fresh_57 : decode cX11_fresh 57 = .ok (.getfield 16, 3) := by decide +kernel
theorem dX11_fresh_60 : decode cX11_fresh 60 = .ok (.aload_n 0, 1) := by decide +kernel
theorem dX11_fresh_61 : decode cX11_fresh 61 = .ok (.getfield 135, 3) := by decide +kernel
theorem dX11_fresh_64 : decode cX11_fresh 64 = .ok (.iload_n 1, 1) := by decide +kernel
theorem dX11_fresh_65 : decode cX11_fresh 65 = .ok (.iastore, 1) := by decide +kernel
theorem dX11_fresh_66 : decode cX11_fresh 66 = .ok (.iconst 0, 1) := by decide +kernel
theorem dX11_fresh_67 : decode cX11_fresh 67 = .ok (.istore 4, 2) := by decide +kernel
theorem dX11_fresh_69 : decode cX11_fresh 69 = .ok (.iload 4, 2) := by decide +kernel
theorem dX11_fresh_71 : decode cX11_fresh 71 = .ok (.aload_n 0, 1) := by decide +kernel
theorem dX11_fresh_72 : decode cX11_fresh 72 = .ok (.getfield 138, 3) := by decide +kernel
theorem dX11_fresh_75 : decode cX11_fresh 75 = .ok (.if_icmp .ge 81, 3) := by decide +kernel
theorem dX11_fresh_78 : decode cX11_fresh 78 = .ok (.iconst 0, 1) := by decide +kernel
theorem dX11_fresh_79 : decode cX11_fresh 79 = .ok (.istore 5, 2) := by decide +kernel
theorem dX11_fresh_81 : decode cX11_fresh 81 = .ok (.iload 5, 2) := by decide +kernel
theorem dX11_fresh_83 : decode cX11_fresh 83 = .ok (.aload_n 0, 1) := by decide +kernel
theorem dX11_fresh_84 : decode cX11_fresh 84 = .ok (.getfield 35, 3) := by decide +kernel
theorem dX11_fresh_87 : decode cX11_fresh 87 = .ok (.iload 4, 2) := by decide +kernel
theorem dX11_fresh_89 : decode cX11_fresh 89 = .ok (.iaload, 1) := by decide +kernel
theorem dX11_fresh_90 : decode cX11_fresh 90 = .ok (.if_icmp .ge 60, 3) := by decide +kernel
theorem dX11_fresh_93 : decode cX11_fresh 93 = .ok (.iconst 2, 1) := by decide +kernel
theorem dX11_fresh_94 : decode cX11_fresh 94 = .ok (.istore 6, 2) := by decide +kernel
theorem dX11_fresh_96 : decode cX11_fresh 96 = .ok (.iload 6, 2) := by decide +kernel
theorem dX11_fresh_98 : decode cX11_fresh 98 = .ok (.bipush 6, 2) := by decide +kernel
theorem dX11_fresh_100 : decode cX11_fresh 100 = .ok (.if_icmp .ge 44, 3) := by decide +kernel
theorem dX11_fresh_103 : decode cX11_fresh 103 = .ok (.iload 5, 2) := by decide +kernel
theorem dX11_fresh_105 : decode cX11_fresh 105 = .ok (.iload 6, 2) := by decide +kernel
theorem dX11_fresh_107 : decode cX11_fresh 107 = .ok (.iadd, 1) := by decide +kernel
theorem dX11_fresh_108 : decode cX11_fresh 108 = .ok (.aload_n 0, 1) := by decide +kernel
theorem dX11_fresh_109 : decode cX11_fresh 109 = .ok (.getfield 35, 3) := by decide +kernel
theorem dX11_fresh_112 : decode cX11_fresh 112 = .ok (.iload 4, 2) := by decide +kernel
theorem dX11_fresh_114 : decode cX11_fresh 114 = .ok (.iaload, 1) := by decide +kernel
theorem dX11_fresh_115 : decode cX11_fresh 115 = .ok (.if_icmp .gt 29, 3) := by decide +kernel
theorem dX11_fresh_118 : decode cX11_fresh 118 = .ok (.aload_n 0, 1) := by decide +kernel
theorem dX11_fresh_119 : decode cX11_fresh 119 = .ok (.iload 4, 2) := by decide +kernel
theorem dX11_fresh_121 : decode cX11_fresh 121 = .ok (.iload 5, 2) := by decide +kernel
theorem dX11_fresh_123 : decode cX11_fresh 123 = .ok (.iload 6, 2) := by decide +kernel
theorem dX11_fresh_125 : decode cX11_fresh 125 = .ok (.invokevirtual 346, 3) := by decide +kernel
theorem dX11_fresh_128 : decode cX11_fresh 128 = .ok (.ifCond .eq 10, 3) := by decide +kernel
theorem dX11_fresh_131 : decode cX11_fresh 131 = .ok (.aload_n 0, 1) := by decide +kernel
theorem dX11_fresh_132 : decode cX11_fresh 132 = .ok (.iload 6, 2) := by decide +kernel
theorem dX11_fresh_134 : decode cX11_fresh 134 = .ok (.iload_n 3, 1) := by decide +kernel
theorem dX11_fresh_135 : decode cX11_fresh 135 = .ok (.invokevirtual 349, 3) := by decide +kernel
theorem dX11_fresh_138 : decode cX11_fresh 138 = .ok (.iinc 6 1, 3) := by decide +kernel
theorem dX11_fresh_141 : decode cX11_fresh 141 = .ok (.goto (-45), 3) := by decide +kernel
theorem dX11_fresh_144 : decode cX11_fresh 144 = .ok (.iinc 5 1, 3) := by decide +kernel
theorem dX11_fresh_147 : decode cX11_fresh 147 = .ok (.goto (-66), 3) := by decide +kernel
theorem dX11_fresh_150 : decode cX11_fresh 150 = .ok (.iinc 4 1, 3) := by decide +kernel
theorem dX11_fresh_153 : decode cX11_fresh 153 = .ok (.goto (-84), 3) := by decide +kernel
theorem dX11_fresh_156 : decode cX11_fresh 156 = .ok (.aload_n 0, 1) := by decide +kernel
theorem dX11_fresh_157 : decode cX11_fresh 157 = .ok (.getfield 338, 3) := by decide +kernel
theorem dX11_fresh_160 : decode cX11_fresh 160 = .ok (.ifCond .ne 5, 3) := by decide +kernel
theorem dX11_fresh_163 : decode cX11_fresh 163 = .ok (.iconst (-1), 1) := by decide +kernel
theorem dX11_fresh_164 : decode cX11_fresh 164 = .ok (.ireturn, 1) := by decide +kernel
theorem dX11_fresh_165 : decode cX11_fresh 165 = .ok (.iload_n 2, 1) := by decide +kernel
theorem dX11_fresh_166 : decode cX11_fresh 166 = .ok (.ifCond .ne 10, 3) := by decide +kernel
theorem dX11_fresh_169 : decode cX11_fresh 169 = .ok (.aload_n 0, 1) := by decide +kernel
theorem dX11_fresh_170 : decode cX11_fresh 170 = .ok (.getfield 338, 3) := by decide +kernel
theorem dX11_fresh_173 : decode cX11_fresh 173 = .ok (.goto 37, 3) := by decide +kernel
theorem dX11_fresh_176 : decode cX11_fresh 176 = .ok (.iload_n 2, 1) := by decide +kernel
theorem dX11_fresh_177 : decode cX11_fresh 177 = .ok (.iconst 1, 1) := by decide +kernel
theorem dX11_fresh_178 : decode cX11_fresh 178 = .ok (.if_icmp .ne 10, 3) := by decide +kernel
theorem dX11_fresh_181 : decode cX11_fresh 181 = .ok (.aload_n 0, 1) := by decide +kernel
theorem dX11_fresh_182 : decode cX11_fresh 182 = .ok (.getfield 332, 3) := by decide +kernel
theorem dX11_fresh_185 : decode cX11_fresh 185 = .ok (.goto 25, 3) := by decide +kernel
theorem dX11_fresh_188 : decode cX11_fresh 188 = .ok (.iload_n 2, 1) := by decide +kernel
theorem dX11_fresh_189 : decode cX11_fresh 189 = .ok (.iconst 2, 1) := by decide +kernel
theorem dX11_fresh_190 : decode cX11_fresh 190 = .ok (.isub, 1) := by decide +kernel
theorem dX11_fresh_191 : decode cX11_fresh 191 = .ok (.aload_n 0, 1) := by decide +kernel
theorem dX11_fresh_192 : decode cX11_fresh 192 = .ok (.getfield 332, 3) := by decide +kernel
theorem dX11_fresh_195 : decode cX11_fresh 195 = .ok (.if_icmp .ge 14, 3) := by decide +kernel
theorem dX11_fresh_198 : decode cX11_fresh 198 = .ok (.aload_n 0, 1) := by decide +kernel
theorem dX11_fresh_199 : decode cX11_fresh 199 = .ok (.getfield 121, 3) := by decide +kernel
theorem dX11_fresh_202 : decode cX11_fresh 202 = .ok (.iload_n 2, 1) := by decide +kernel
theorem dX11_fresh_203 : decode cX11_fresh 203 = .ok (.iconst 2, 1) := by decide +kernel
theorem dX11_fresh_204 : decode cX11_fresh 204 = .ok (.isub, 1) := by decide +kernel
theorem dX11_fresh_205 : decode cX11_fresh 205 = .ok (.iaload, 1) := by decide +kernel
theorem dX11_fresh_206 : decode cX11_fresh 206 = .ok (.goto 4, 3) := by decide +kernel
theorem dX11_fresh_209 : decode cX11_fresh 209 = .ok (.iconst (-1), 1) := by decide +kernel
theorem dX11_fresh_210 : decode cX11_fresh 210 = .ok (.ireturn, 1) := by decide +kernel
theorem dJ9_max_7cf53_0 : decode cJ9_max_7cf53 0 = .ok (.iload_n 0, 1) := by decide +kernel
theorem dJ9_max_7cf53_1 : decode cJ9_max_7cf53 1 = .ok (.iload_n 1, 1) := by decide +kernel
theorem dJ9_max_7cf53_2 : decode cJ9_max_7cf53 2 = .ok (.if_icmp .lt 7, 3) := by decide +kernel
theorem dJ9_max_7cf53_5 : decode cJ9_max_7cf53 5 = .ok (.iload_n 0, 1) := by decide +kernel
theorem dJ9_max_7cf53_6 : decode cJ9_max_7cf53 6 = .ok (.goto 4, 3) := by decide +kernel
theorem dJ9_max_7cf53_9 : decode cJ9_max_7cf53 9 = .ok (.iload_n 1, 1) := by decide +kernel
theorem dJ9_max_7cf53_10 : decode cJ9_max_7cf53 10 = .ok (.ireturn, 1) := by decide +kernel
theorem dJ9_min_7cf53_0 : decode cJ9_min_7cf53 0 = .ok (.iload_n 0, 1) := by decide +kernel
theorem dJ9_min_7cf53_1 : decode cJ9_min_7cf53 1 = .ok (.iload_n 1, 1) := by decide +kernel
theorem dJ9_min_7cf53_2 : decode cJ9_min_7cf53 2 = .ok (.if_icmp .gt 7, 3) := by decide +kernel
theorem dJ9_min_7cf53_5 : decode cJ9_min_7cf53 5 = .ok (.iload_n 0, 1) := by decide +kernel
theorem dJ9_min_7cf53_6 : decode cJ9_min_7cf53 6 = .ok (.goto 4, 3) := by decide +kernel
theorem dJ9_min_7cf53_9 : decode cJ9_min_7cf53 9 = .ok (.iload_n 1, 1) := by decide +kernel
theorem dJ9_min_7cf53_10 : decode cJ9_min_7cf53 10 = .ok (.ireturn, 1) := by decide +kernel
theorem dJ9_min_f86c9_0 : decode cJ9_min_f86c9 0 = .ok (.lload_n 0, 1) := by decide +kernel
theorem dJ9_min_f86c9_1 : decode cJ9_min_f86c9 1 = .ok (.lload_n 2, 1) := by decide +kernel
theorem dJ9_min_f86c9_2 : decode cJ9_min_f86c9 2 = .ok (.lcmp, 1) := by decide +kernel
theorem dJ9_min_f86c9_3 : decode cJ9_min_f86c9 3 = .ok (.ifCond .gt 7, 3) := by decide +kernel
theorem dJ9_min_f86c9_6 : decode cJ9_min_f86c9 6 = .ok (.lload_n 0, 1) := by decide +kernel
theorem dJ9_min_f86c9_7 : decode cJ9_min_f86c9 7 = .ok (.goto 4, 3) := by decide +kernel
theorem dJ9_min_f86c9_10 : decode cJ9_min_f86c9 10 = .ok (.lload_n 2, 1) := by decide +kernel
theorem dJ9_min_f86c9_11 : decode cJ9_min_f86c9 11 = .ok (.lreturn, 1) := by decide +kernel
theorem dL_law_0 : decode cL_law 0 = .ok (.new 7, 3) := by decide +kernel
theorem dL_law_3 : decode cL_law 3 = .ok (.dup, 1) := by decide +kernel
theorem dL_law_4 : decode cL_law 4 = .ok (.invokespecial 9, 3) := by decide +kernel
theorem dL_law_7 : decode cL_law 7 = .ok (.astore_n 1, 1) := by decide +kernel
theorem dL_law_8 : decode cL_law 8 = .ok (.new 10, 3) := by decide +kernel
theorem dL_law_11 : decode cL_law 11 = .ok (.dup, 1) := by decide +kernel
theorem dL_law_12 : decode cL_law 12 = .ok (.invokespecial 12, 3) := by decide +kernel
theorem dL_law_15 : decode cL_law 15 = .ok (.astore_n 2, 1) := by decide +kernel
theorem dL_law_16 : decode cL_law 16 = .ok (.iconst 0, 1) := by decide +kernel
theorem dL_law_17 : decode cL_law 17 = .ok (.istore_n 3, 1) := by decide +kernel
theorem dL_law_18 : decode cL_law 18 = .ok (.iload_n 3, 1) := by decide +kernel
theorem dL_law_19 : decode cL_law 19 = .ok (.aload_n 0, 1) := by decide +kernel
theorem dL_law_20 : decode cL_law 20 = .ok (.arraylength, 1) := by decide +kernel
theorem dL_law_21 : decode cL_law 21 = .ok (.iconst 4, 1) := by decide +kernel
theorem dL_law_22 : decode cL_law 22 = .ok (.isub, 1) := by decide +kernel
theorem dL_law_23 : decode cL_law 23 = .ok (.if_icmp .gt 866, 3) := by decide +kernel
theorem dL_law_26 : decode cL_law 26 = .ok (.aload_n 0, 1) := by decide +kernel
theorem dL_law_27 : decode cL_law 27 = .ok (.iload_n 3, 1) := by decide +kernel
theorem dL_law_28 : decode cL_law 28 = .ok (.iaload, 1) := by decide +kernel
theorem dL_law_29 : decode cL_law 29 = .ok (.bipush 31, 2) := by decide +kernel
theorem dL_law_31 : decode cL_law 31 = .ok (.iand, 1) := by decide +kernel
theorem dL_law_32 : decode cL_law 32 = .ok (.tableswitch 851 0 27 #[128, 151, 214, 227, 240, 273, 332, 355, 378, 401, 414, 428, 491, 514, 537, 560, 583, 606, 629, 653, 677, 710, 733, 746, 759, 772, 795, 818], 128) := by decide +kernel
theorem dL_law_160 : decode cL_law 160 = .ok (.aload_n 1, 1) := by decide +kernel
theorem dL_law_161 : decode cL_law 161 = .ok (.aload_n 0, 1) := by decide +kernel
theorem dL_law_162 : decode cL_law 162 = .ok (.iload_n 3, 1) := by decide +kernel
theorem dL_law_163 : decode cL_law 163 = .ok (.iconst 1, 1) := by decide +kernel
theorem dL_law_164 : decode cL_law 164 = .ok (.iadd, 1) := by decide +kernel
theorem dL_law_165 : decode cL_law 165 = .ok (.iaload, 1) := by decide +kernel
theorem dL_law_166 : decode cL_law 166 = .ok (.invokevirtual 13, 3) := by decide +kernel
theorem dL_law_169 : decode cL_law 169 = .ok (.aload_n 2, 1) := by decide +kernel
theorem dL_law_170 : decode cL_law 170 = .ok (.aload_n 0, 1) := by decide +kernel
theorem dL_law_171 : decode cL_law 171 = .ok (.iload_n 3, 1) := by decide +kernel
theorem dL_law_172 : decode cL_law 172 = .ok (.iconst 1, 1) := by decide +kernel
theorem dL_law_173 : decode cL_law 173 = .ok (.iadd, 1) := by decide +kernel
theorem dL_law_174 : decode cL_law 174 = .ok (.iaload, 1) := by decide +kernel
theorem dL_law_175 : decode cL_law 175 = .ok (.invokevirtual 17, 3) := by decide +kernel
theorem dL_law_178 : decode cL_law 178 = .ok (.if_icmp .eq 705, 3) := by decide +kernel
theorem dL_law_181 : decode cL_law 181 = .ok (.iconst 0, 1) := by decide +kernel
theorem dL_law_182 : decode cL_law 182 = .ok (.ireturn, 1) := by decide +kernel
theorem dL_law_183 : decode cL_law 183 = .ok (.aload_n 1, 1) := by decide +kernel
theorem dL_law_184 : decode cL_law 184 = .ok (.aload_n 0, 1) := by decide +kernel
theorem dL_law_185 : decode cL_law 185 = .ok (.iload_n 3, 1) := by decide +kernel
theorem dL_law_186 : decode cL_law 186 = .ok (.iconst 1, 1) := by decide +kernel
theorem dL_law_187 : decode cL_law 187 = .ok (.iadd, 1) := by decide +kernel
theorem dL_law_188 : decode cL_law 188 = .ok (.iaload, 1) := by decide +kernel
theorem dL_law_189 : decode cL_law 189 = .ok (.aload_n 0, 1) := by decide +kernel
theorem dL_law_190 : decode cL_law 190 = .ok (.iload_n 3, 1) := by decide +kernel
theorem dL_law_191 : decode cL_law 191 = .ok (.iconst 2, 1) := by decide +kernel
theorem dL_law_192 : decode cL_law 192 = .ok (.iadd, 1) := by decide +kernel
theorem dL_law_193 : decode cL_law 193 = .ok (.iaload, 1) := by decide +kernel
theorem dL_law_194 : decode cL_law 194 = .ok (.i2l, 1) := by decide +kernel
theorem dL_law_195 : decode cL_law 195 = .ok (.bipush 32, 2) := by decide +kernel
theorem dL_law_197 : decode cL_law 197 = .ok (.lshl, 1) := by decide +kernel
theorem dL_law_198 : decode cL_law 198 = .ok (.aload_n 0, 1) := by decide +kernel
theorem dL_law_199 : decode cL_law 199 = .ok (.iload_n 3, 1) := by decide +kernel
theorem dL_law_200 : decode cL_law 200 = .ok (.iconst 3, 1) := by decide +kernel
theorem dL_law_201 : decode cL_law 201 = .ok (.iadd, 1) := by decide +kernel
theorem dL_law_202 : decode cL_law 202 = .ok (.iaload, 1) := by decide +kernel
theorem dL_law_203 : decode cL_law 203 = .ok (.i2l, 1) := by decide +kernel
theorem dL_law_204 : decode cL_law 204 = .ok (.ldc2_w 18, 3) := by decide +kernel
theorem dL_law_207 : decode cL_law 207 = .ok (.land, 1) := by decide +kernel
theorem dL_law_208 : decode cL_law 208 = .ok (.lor, 1) := by decide +kernel
theorem dL_law_209 : decode cL_law 209 = .ok (.invokevirtual 20, 3) := by decide +kernel
theorem dL_law_212 : decode cL_law 212 = .ok (.aload_n 2, 1) := by decide +kernel
theorem dL_law_213 : decode cL_law 213 = .ok (.aload_n 0, 1) := by decide +kernel
theorem dL_law_214 : decode cL_law 214 = .ok (.iload_n 3, 1) := by decide +kernel
theorem dL_law_215 : decode cL_law 215 = .ok (.iconst 1, 1) := by decide +kernel
theorem dL_law_216 : decode cL_law 216 = .ok (.iadd, 1) := by decide +kernel
theorem dL_law_217 : decode cL_law 217 = .ok (.iaload, 1) := by decide +kernel
theorem dL_law_218 : decode cL_law 218 = .ok (.aload_n 0, 1) := by decide +kernel
theorem dL_law_219 : decode cL_law 219 = .ok (.iload_n 3, 1) := by decide +kernel
theorem dL_law_220 : decode cL_law 220 = .ok (.iconst 2, 1) := by decide +kernel
theorem dL_law_221 : decode cL_law 221 = .ok (.iadd, 1) := by decide +kernel
theorem dL_law_222 : decode cL_law 222 = .ok (.iaload, 1) := by decide +kernel
theorem dL_law_223 : decode cL_law 223 = .ok (.i2l, 1) := by decide +kernel
theorem dL_law_224 : decode cL_law 224 = .ok (.bipush 32, 2) := by decide +kernel
theorem dL_law_226 : decode cL_law 226 = .ok (.lshl, 1) := by decide +kernel
theorem dL_law_227 : decode cL_law 227 = .ok (.aload_n 0, 1) := by decide +kernel
theorem dL_law_228 : decode cL_law 228 = .ok (.iload_n 3, 1) := by decide +kernel
theorem dL_law_229 : decode cL_law 229 = .ok (.iconst 3, 1) := by decide +kernel
theorem dL_law_230 : decode cL_law 230 = .ok (.iadd, 1) := by decide +kernel
theorem dL_law_231 : decode cL_law 231 = .ok (.iaload, 1) := by decide +kernel
theorem dL_law_232 : decode cL_law 232 = .ok (.i2l, 1) := by decide +kernel
theorem dL_law_233 : decode cL_law 233 = .ok (.ldc2_w 18, 3) := by decide +kernel
theorem dL_law_236 : decode cL_law 236 = .ok (.land, 1) := by decide +kernel
theorem dL_law_237 : decode cL_law 237 = .ok (.lor, 1) := by decide +kernel
theorem dL_law_238 : decode cL_law 238 = .ok (.invokevirtual 24, 3) := by decide +kernel
theorem dL_law_241 : decode cL_law 241 = .ok (.if_icmp .eq 642, 3) := by decide +kernel
theorem dL_law_244 : decode cL_law 244 = .ok (.iconst 0, 1) := by decide +kernel
theorem dL_law_245 : decode cL_law 245 = .ok (.ireturn, 1) := by decide +kernel
theorem dL_law_246 : decode cL_law 246 = .ok (.aload_n 1, 1) := by decide +kernel
theorem dL_law_247 : decode cL_law 247 = .ok (.invokevirtual 25, 3) := by decide +kernel
theorem dL_law_250 : decode cL_law 250 = .ok (.aload_n 2, 1) := by decide +kernel
theorem dL_law_251 : decode cL_law 251 = .ok (.invokevirtual 29, 3) := by decide +kernel
theorem dL_law_254 : decode cL_law 254 = .ok (.if_icmp .eq 629, 3) := by decide +kernel
theorem dL_law_257 : decode cL_law 257 = .ok (.iconst 0, 1) := by decide +kernel
theorem dL_law_258 : decode cL_law 258 = .ok (.ireturn, 1) := by decide +kernel
theorem dL_law_259 : decode cL_law 259 = .ok (.aload_n 1, 1) := by decide +kernel
theorem dL_law_260 : decode cL_law 260 = .ok (.invokevirtual 30, 3) := by decide +kernel
theorem dL_law_263 : decode cL_law 263 = .ok (.aload_n 2, 1) := by decide +kernel
theorem dL_law_264 : decode cL_law 264 = .ok (.invokevirtual 33, 3) := by decide +kernel
theorem dL_law_267 : decode cL_law 267 = .ok (.if_icmp .eq 616, 3) := by decide +kernel
theorem dL_law_270 : decode cL_law 270 = .ok (.iconst 0, 1) := by decide +kernel
theorem dL_law_271 : decode cL_law 271 = .ok (.ireturn, 1) := by decide +kernel
theorem dL_law_272 : decode cL_law 272 = .ok (.aload_n 1, 1) := by decide +kernel
theorem dL_law_273 : decode cL_law 273 = .ok (.aload_n 0, 1) := by decide +kernel
theorem dL_law_274 : decode cL_law 274 = .ok (.iload_n 3, 1) := by decide +kernel
theorem dL_law_275 : decode cL_law 275 = .ok (.iconst 1, 1) := by decide +kernel
theorem dL_law_276 : decode cL_law 276 = .ok (.iadd, 1) := by decide +kernel
theorem dL_law_277 : decode cL_law 277 = .ok (.iaload, 1) := by decide +kernel
theorem dL_law_278 : decode cL_law 278 = .ok (.aload_n 0, 1) := by decide +kernel
theorem dL_law_279 : decode cL_law 279 = .ok (.iload_n 3, 1) := by decide +kernel
theorem dL_law_280 : decode cL_law 280 = .ok (.iconst 2, 1) := by decide +kernel
theorem dL_law_281 : decode cL_law 281 = .ok (.iadd, 1) := by decide +kernel
theorem dL_law_282 : decode cL_law 282 = .ok (.iaload, 1) := by decide +kernel
theorem dL_law_283 : decode cL_law 283 = .ok (.invokevirtual 34, 3) := by decide +kernel
theorem dL_law_286 : decode cL_law 286 = .ok (.aload_n 2, 1) := by decide +kernel
theorem dL_law_287 : decode cL_law 287 = .ok (.aload_n 0, 1) := by decide +kernel
theorem dL_law_288 : decode cL_law 288 = .ok (.iload_n 3, 1) := by decide +kernel
theorem dL_law_289 : decode cL_law 289 = .ok (.iconst 1, 1) := by decide +kernel
theorem dL_law_290 : decode cL_law 290 = .ok (.iadd, 1) := by decide +kernel
theorem dL_law_291 : decode cL_law 291 = .ok (.iaload, 1) := by decide +kernel
theorem dL_law_292 : decode cL_law 292 = .ok (.aload_n 0, 1) := by decide +kernel
theorem dL_law_293 : decode cL_law 293 = .ok (.iload_n 3, 1) := by decide +kernel
theorem dL_law_294 : decode cL_law 294 = .ok (.iconst 2, 1) := by decide +kernel
theorem dL_law_295 : decode cL_law 295 = .ok (.iadd, 1) := by decide +kernel
theorem dL_law_296 : decode cL_law 296 = .ok (.iaload, 1) := by decide +kernel
theorem dL_law_297 : decode cL_law 297 = .ok (.invokevirtual 38, 3) := by decide +kernel
theorem dL_law_300 : decode cL_law 300 = .ok (.if_icmp .eq 583, 3) := by decide +kernel
theorem dL_law_303 : decode cL_law 303 = .ok (.iconst 0, 1) := by decide +kernel
theorem dL_law_304 : decode cL_law 304 = .ok (.ireturn, 1) := by decide +kernel
theorem dL_law_305 : decode cL_law 305 = .ok (.aload_n 1, 1) := by decide +kernel
theorem dL_law_306 : decode cL_law 306 = .ok (.aload_n 0, 1) := by decide +kernel
theorem dL_law_307 : decode cL_law 307 = .ok (.iload_n 3, 1) := by decide +kernel
theorem dL_law_308 : decode cL_law 308 = .ok (.iconst 1, 1) := by decide +kernel
theorem dL_law_309 : decode cL_law 309 = .ok (.iadd, 1) := by decide +kernel
theorem dL_law_310 : decode cL_law 310 = .ok (.iaload, 1) := by decide +kernel
theorem dL_law_311 : decode cL_law 311 = .ok (.aload_n 0, 1) := by decide +kernel
theorem dL_law_312 : decode cL_law 312 = .ok (.iload_n 3, 1) := by decide +kernel
theorem dL_law_313 : decode cL_law 313 = .ok (.iconst 2, 1) := by decide +kernel
theorem dL_law_314 : decode cL_law 314 = .ok (.iadd, 1) := by decide +kernel
theorem dL_law_315 : decode cL_law 315 = .ok (.iaload, 1) := by decide +kernel
theorem dL_law_316 : decode cL_law 316 = .ok (.aload_n 0, 1) := by decide +kernel
theorem dL_law_317 : decode cL_law 317 = .ok (.iload_n 3, 1) := by decide +kernel
theorem dL_law_318 : decode cL_law 318 = .ok (.iconst 3, 1) := by decide +kernel
theorem dL_law_319 : decode cL_law 319 = .ok (.iadd, 1) := by decide +kernel
theorem dL_law_320 : decode cL_law 320 = .ok (.iaload, 1) := by decide +kernel
theorem dL_law_321 : decode cL_law 321 = .ok (.ifCond .eq 7, 3) := by decide +kernel
theorem dL_law_324 : decode cL_law 324 = .ok (.iconst 1, 1) := by decide +kernel
theorem dL_law_325 : decode cL_law 325 = .ok (.goto 4, 3) := by decide +kernel
theorem dL_law_328 : decode cL_law 328 = .ok (.iconst 0, 1) := by decide +kernel
theorem dL_law_329 : decode cL_law 329 = .ok (.invokevirtual 39, 3) := by decide +kernel
theorem dL_law_332 : decode cL_law 332 = .ok (.aload_n 2, 1) := by decide +kernel
theorem dL_law_333 : decode cL_law 333 = .ok (.aload_n 0, 1) := by decide +kernel
theorem dL_law_334 : decode cL_law 334 = .ok (.iload_n 3, 1) := by decide +kernel
theorem dL_law_335 : decode cL_law 335 = .ok (.iconst 1, 1) := by decide +kernel
theorem dL_law_336 : decode cL_law 336 = .ok (.iadd, 1) := by decide +kernel
theorem dL_law_337 : decode cL_law 337 = .ok (.iaload, 1) := by decide +kernel
theorem dL_law_338 : decode cL_law 338 = .ok (.aload_n 0, 1) := by decide +kernel
theorem dL_law_339 : decode cL_law 339 = .ok (.iload_n 3, 1) := by decide +kernel
theorem dL_law_340 : decode cL_law 340 = .ok (.iconst 2, 1) := by decide +kernel
theorem dL_law_341 : decode cL_law 341 = .ok (.iadd, 1) := by decide +kernel
theorem dL_law_342 : decode cL_law 342 = .ok (.iaload, 1) := by decide +kernel
theorem dL_law_343 : decode cL_law 343 = .ok (.aload_n 0, 1) := by decide +kernel
theorem dL_law_344 : decode cL_law 344 = .ok (.iload_n 3, 1) := by decide +kernel
theorem dL_law_345 : decode cL_law 345 = .ok (.iconst 3, 1) := by decide +kernel
theorem dL_law_346 : decode cL_law 346 = .ok (.iadd, 1) := by decide +kernel
theorem dL_law_347 : decode cL_law 347 = .ok (.iaload, 1) := by decide +kernel
theorem dL_law_348 : decode cL_law 348 = .ok (.ifCond .eq 7, 3) := by decide +kernel
theorem dL_law_351 : decode cL_law 351 = .ok (.iconst 1, 1) := by decide +kernel
theorem dL_law_352 : decode cL_law 352 = .ok (.goto 4, 3) := by decide +kernel
theorem dL_law_355 : decode cL_law 355 = .ok (.iconst 0, 1) := by decide +kernel
theorem dL_law_356 : decode cL_law 356 = .ok (.invokevirtual 43, 3) := by decide +kernel
theorem dL_law_359 : decode cL_law 359 = .ok (.if_icmp .eq 524, 3) := by decide +kernel
theorem dL_law_362 : decode cL_law 362 = .ok (.iconst 0, 1) := by decide +kernel
theorem dL_law_363 : decode cL_law 363 = .ok (.ireturn, 1) := by decide +kernel
theorem dL_law_364 : decode cL_law 364 = .ok (.aload_n 1, 1) := by decide +kernel
theorem dL_law_365 : decode cL_law 365 = .ok (.aload_n 0, 1) := by decide +kernel
theorem dL_law_366 : decode cL_law 366 = .ok (.iload_n 3, 1) := by decide +kernel
theorem dL_law_367 : decode cL_law 367 = .ok (.iconst 1, 1) := by decide +kernel
theorem dL_law_368 : decode cL_law 368 = .ok (.iadd, 1) := by decide +kernel
theorem dL_law_369 : decode cL_law 369 = .ok (.iaload, 1) := by decide +kernel
theorem dL_law_370 : decode cL_law 370 = .ok (.invokevirtual 44, 3) := by decide +kernel
theorem dL_law_373 : decode cL_law 373 = .ok (.aload_n 2, 1) := by decide +kernel
theorem dL_law_374 : decode cL_law 374 = .ok (.aload_n 0, 1) := by decide +kernel
theorem dL_law_375 : decode cL_law 375 = .ok (.iload_n 3, 1) := by decide +kernel
theorem dL_law_376 : decode cL_law 376 = .ok (.iconst 1, 1) := by decide +kernel
theorem dL_law_377 : decode cL_law 377 = .ok (.iadd, 1) := by decide +kernel
theorem dL_law_378 : decode cL_law 378 = .ok (.iaload, 1) := by decide +kernel
theorem dL_law_379 : decode cL_law 379 = .ok (.invokevirtual 47, 3) := by decide +kernel
theorem dL_law_382 : decode cL_law 382 = .ok (.if_icmp .eq 501, 3) := by decide +kernel
theorem dL_law_385 : decode cL_law 385 = .ok (.iconst 0, 1) := by decide +kernel
theorem dL_law_386 : decode cL_law 386 = .ok (.ireturn, 1) := by decide +kernel
theorem dL_law_387 : decode cL_law 387 = .ok (.aload_n 1, 1) := by decide +kernel
theorem dL_law_388 : decode cL_law 388 = .ok (.aload_n 0, 1) := by decide +kernel
theorem dL_law_389 : decode cL_law 389 = .ok (.iload_n 3, 1) := by decide +kernel
theorem dL_law_390 : decode cL_law 390 = .ok (.iconst 1, 1) := by decide +kernel
theorem dL_law_391 : decode cL_law 391 = .ok (.iadd, 1) := by decide +kernel
theorem dL_law_392 : decode cL_law 392 = .ok (.iaload, 1) := by decide +kernel
theorem dL_law_393 : decode cL_law 393 = .ok (.invokevirtual 48, 3) := by decide +kernel
theorem dL_law_396 : decode cL_law 396 = .ok (.aload_n 2, 1) := by decide +kernel
theorem dL_law_397 : decode cL_law 397 = .ok (.aload_n 0, 1) := by decide +kernel
theorem dL_law_398 : decode cL_law 398 = .ok (.iload_n 3, 1) := by decide +kernel
theorem dL_law_399 : decode cL_law 399 = .ok (.iconst 1, 1) := by decide +kernel
theorem dL_law_400 : decode cL_law 400 = .ok (.iadd, 1) := by decide +kernel
theorem dL_law_401 : decode cL_law 401 = .ok (.iaload, 1) := by decide +kernel
theorem dL_law_402 : decode cL_law 402 = .ok (.invokevirtual 51, 3) := by decide +kernel
theorem dL_law_405 : decode cL_law 405 = .ok (.if_icmp .eq 478, 3) := by decide +kernel
theorem dL_law_408 : decode cL_law 408 = .ok (.iconst 0, 1) := by decide +kernel
theorem dL_law_409 : decode cL_law 409 = .ok (.ireturn, 1) := by decide +kernel
theorem dL_law_410 : decode cL_law 410 = .ok (.aload_n 1, 1) := by decide +kernel
theorem dL_law_411 : decode cL_law 411 = .ok (.aload_n 0, 1) := by decide +kernel
theorem dL_law_412 : decode cL_law 412 = .ok (.iload_n 3, 1) := by decide +kernel
theorem dL_law_413 : decode cL_law 413 = .ok (.iconst 1, 1) := by decide +kernel
theorem dL_law_414 : decode cL_law 414 = .ok (.iadd, 1) := by decide +kernel
theorem dL_law_415 : decode cL_law 415 = .ok (.iaload, 1) := by decide +kernel
theorem dL_law_416 : decode cL_law 416 = .ok (.invokevirtual 52, 3) := by decide +kernel
theorem dL_law_419 : decode cL_law 419 = .ok (.aload_n 2, 1) := by decide +kernel
theorem dL_law_420 : decode cL_law 420 = .ok (.aload_n 0, 1) := by decide +kernel
theorem dL_law_421 : decode cL_law 421 = .ok (.iload_n 3, 1) := by decide +kernel
theorem dL_law_422 : decode cL_law 422 = .ok (.iconst 1, 1) := by decide +kernel
theorem dL_law_423 : decode cL_law 423 = .ok (.iadd, 1) := by decide +kernel
theorem dL_law_424 : decode cL_law 424 = .ok (.iaload, 1) := by decide +kernel
theorem dL_law_425 : decode cL_law 425 = .ok (.invokevirtual 55, 3) := by decide +kernel
theorem dL_law_428 : decode cL_law 428 = .ok (.if_icmp .eq 455, 3) := by decide +kernel
theorem dL_law_431 : decode cL_law 431 = .ok (.iconst 0, 1) := by decide +kernel
theorem dL_law_432 : decode cL_law 432 = .ok (.ireturn, 1) := by decide +kernel
theorem dL_law_433 : decode cL_law 433 = .ok (.aload_n 1, 1) := by decide +kernel
theorem dL_law_434 : decode cL_law 434 = .ok (.invokevirtual 56, 3) := by decide +kernel
theorem dL_law_437 : decode cL_law 437 = .ok (.aload_n 2, 1) := by decide +kernel
theorem dL_law_438 : decode cL_law 438 = .ok (.invokevirtual 59, 3) := by decide +kernel
theorem dL_law_441 : decode cL_law 441 = .ok (.if_icmp .eq 442, 3) := by decide +kernel
theorem dL_law_444 : decode cL_law 444 = .ok (.iconst 0, 1) := by decide +kernel
theorem dL_law_445 : decode cL_law 445 = .ok (.ireturn, 1) := by decide +kernel
theorem dL_law_446 : decode cL_law 446 = .ok (.aload_n 1, 1) := by decide +kernel
theorem dL_law_447 : decode cL_law 447 = .ok (.invokevirtual 60, 3) := by decide +kernel
theorem dL_law_450 : decode cL_law 450 = .ok (.aload_n 2, 1) := by decide +kernel
theorem dL_law_451 : decode cL_law 451 = .ok (.invokevirtual 64, 3) := by decide +kernel
theorem dL_law_454 : decode cL_law 454 = .ok (.lcmp, 1) := by decide +kernel
theorem dL_law_455 : decode cL_law 455 = .ok (.ifCond .eq 428, 3) := by decide +kernel
theorem dL_law_458 : decode cL_law 458 = .ok (.iconst 0, 1) := by decide +kernel
theorem dL_law_459 : decode cL_law 459 = .ok (.ireturn, 1) := by decide +kernel
theorem dL_law_460 : decode cL_law 460 = .ok (.aload_n 1, 1) := by decide +kernel
theorem dL_law_461 : decode cL_law 461 = .ok (.aload_n 0, 1) := by decide +kernel
theorem dL_law_462 : decode cL_law 462 = .ok (.iload_n 3, 1) := by decide +kernel
theorem dL_law_463 : decode cL_law 463 = .ok (.iconst 1, 1) := by decide +kernel
theorem dL_law_464 : decode cL_law 464 = .ok (.iadd, 1) := by decide +kernel
theorem dL_law_465 : decode cL_law 465 = .ok (.iaload, 1) := by decide +kernel
theorem dL_law_466 : decode cL_law 466 = .ok (.i2l, 1) := by decide +kernel
theorem dL_law_467 : decode cL_law 467 = .ok (.bipush 32, 2) := by decide +kernel
theorem dL_law_469 : decode cL_law 469 = .ok (.lshl, 1) := by decide +kernel
theorem dL_law_470 : decode cL_law 470 = .ok (.aload_n 0, 1) := by decide +kernel
theorem dL_law_471 : decode cL_law 471 = .ok (.iload_n 3, 1) := by decide +kernel
theorem dL_law_472 : decode cL_law 472 = .ok (.iconst 2, 1) := by decide +kernel
theorem dL_law_473 : decode cL_law 473 = .ok (.iadd, 1) := by decide +kernel
theorem dL_law_474 : decode cL_law 474 = .ok (.iaload, 1) := by decide +kernel
theorem dL_law_475 : decode cL_law 475 = .ok (.i2l, 1) := by decide +kernel
theorem dL_law_476 : decode cL_law 476 = .ok (.ldc2_w 18, 3) := by decide +kernel
theorem dL_law_479 : decode cL_law 479 = .ok (.land, 1) := by decide +kernel
theorem dL_law_480 : decode cL_law 480 = .ok (.lor, 1) := by decide +kernel
theorem dL_law_481 : decode cL_law 481 = .ok (.aload_n 0, 1) := by decide +kernel
theorem dL_law_482 : decode cL_law 482 = .ok (.iload_n 3, 1) := by decide +kernel
theorem dL_law_483 : decode cL_law 483 = .ok (.iconst 3, 1) := by decide +kernel
theorem dL_law_484 : decode cL_law 484 = .ok (.iadd, 1) := by decide +kernel
theorem dL_law_485 : decode cL_law 485 = .ok (.iaload, 1) := by decide +kernel
theorem dL_law_486 : decode cL_law 486 = .ok (.invokevirtual 65, 3) := by decide +kernel
theorem dL_law_489 : decode cL_law 489 = .ok (.aload_n 2, 1) := by decide +kernel
theorem dL_law_490 : decode cL_law 490 = .ok (.aload_n 0, 1) := by decide +kernel
theorem dL_law_491 : decode cL_law 491 = .ok (.iload_n 3, 1) := by decide +kernel
theorem dL_law_492 : decode cL_law 492 = .ok (.iconst 1, 1) := by decide +kernel
theorem dL_law_493 : decode cL_law 493 = .ok (.iadd, 1) := by decide +kernel
theorem dL_law_494 : decode cL_law 494 = .ok (.iaload, 1) := by decide +kernel
theorem dL_law_495 : decode cL_law 495 = .ok (.i2l, 1) := by decide +kernel
theorem dL_law_496 : decode cL_law 496 = .ok (.bipush 32, 2) := by decide +kernel
theorem dL_law_498 : decode cL_law 498 = .ok (.lshl, 1) := by decide +kernel
theorem dL_law_499 : decode cL_law 499 = .ok (.aload_n 0, 1) := by decide +kernel
theorem dL_law_500 : decode cL_law 500 = .ok (.iload_n 3, 1) := by decide +kernel
theorem dL_law_501 : decode cL_law 501 = .ok (.iconst 2, 1) := by decide +kernel
theorem dL_law_502 : decode cL_law 502 = .ok (.iadd, 1) := by decide +kernel
theorem dL_law_503 : decode cL_law 503 = .ok (.iaload, 1) := by decide +kernel
theorem dL_law_504 : decode cL_law 504 = .ok (.i2l, 1) := by decide +kernel
theorem dL_law_505 : decode cL_law 505 = .ok (.ldc2_w 18, 3) := by decide +kernel
theorem dL_law_508 : decode cL_law 508 = .ok (.land, 1) := by decide +kernel
theorem dL_law_509 : decode cL_law 509 = .ok (.lor, 1) := by decide +kernel
theorem dL_law_510 : decode cL_law 510 = .ok (.aload_n 0, 1) := by decide +kernel
theorem dL_law_511 : decode cL_law 511 = .ok (.iload_n 3, 1) := by decide +kernel
theorem dL_law_512 : decode cL_law 512 = .ok (.iconst 3, 1) := by decide +kernel
theorem dL_law_513 : decode cL_law 513 = .ok (.iadd, 1) := by decide +kernel
theorem dL_law_514 : decode cL_law 514 = .ok (.iaload, 1) := by decide +kernel
theorem dL_law_515 : decode cL_law 515 = .ok (.invokevirtual 69, 3) := by decide +kernel
theorem dL_law_518 : decode cL_law 518 = .ok (.if_icmp .eq 365, 3) := by decide +kernel
theorem dL_law_521 : decode cL_law 521 = .ok (.iconst 0, 1) := by decide +kernel
theorem dL_law_522 : decode cL_law 522 = .ok (.ireturn, 1) := by decide +kernel
theorem dL_law_523 : decode cL_law 523 = .ok (.aload_n 1, 1) := by decide +kernel
theorem dL_law_524 : decode cL_law 524 = .ok (.aload_n 0, 1) := by decide +kernel
theorem dL_law_525 : decode cL_law 525 = .ok (.iload_n 3, 1) := by decide +kernel
theorem dL_law_526 : decode cL_law 526 = .ok (.iconst 1, 1) := by decide +kernel
theorem dL_law_527 : decode cL_law 527 = .ok (.iadd, 1) := by decide +kernel
theorem dL_law_528 : decode cL_law 528 = .ok (.iaload, 1) := by decide +kernel
theorem dL_law_529 : decode cL_law 529 = .ok (.invokevirtual 70, 3) := by decide +kernel
theorem dL_law_532 : decode cL_law 532 = .ok (.aload_n 2, 1) := by decide +kernel
theorem dL_law_533 : decode cL_law 533 = .ok (.aload_n 0, 1) := by decide +kernel
theorem dL_law_534 : decode cL_law 534 = .ok (.iload_n 3, 1) := by decide +kernel
theorem dL_law_535 : decode cL_law 535 = .ok (.iconst 1, 1) := by decide +kernel
theorem dL_law_536 : decode cL_law 536 = .ok (.iadd, 1) := by decide +kernel
theorem dL_law_537 : decode cL_law 537 = .ok (.iaload, 1) := by decide +kernel
theorem dL_law_538 : decode cL_law 538 = .ok (.invokevirtual 73, 3) := by decide +kernel
theorem dL_law_541 : decode cL_law 541 = .ok (.if_icmp .eq 342, 3) := by decide +kernel
theorem dL_law_544 : decode cL_law 544 = .ok (.iconst 0, 1) := by decide +kernel
theorem dL_law_545 : decode cL_law 545 = .ok (.ireturn, 1) := by decide +kernel
theorem dL_law_546 : decode cL_law 546 = .ok (.aload_n 1, 1) := by decide +kernel
theorem dL_law_547 : decode cL_law 547 = .ok (.aload_n 0, 1) := by decide +kernel
theorem dL_law_548 : decode cL_law 548 = .ok (.iload_n 3, 1) := by decide +kernel
theorem dL_law_549 : decode cL_law 549 = .ok (.iconst 1, 1) := by decide +kernel
theorem dL_law_550 : decode cL_law 550 = .ok (.iadd, 1) := by decide +kernel
theorem dL_law_551 : decode cL_law 551 = .ok (.iaload, 1) := by decide +kernel
theorem dL_law_552 : decode cL_law 552 = .ok (.invokevirtual 74, 3) := by decide +kernel
theorem dL_law_555 : decode cL_law 555 = .ok (.aload_n 2, 1) := by decide +kernel
theorem dL_law_556 : decode cL_law 556 = .ok (.aload_n 0, 1) := by decide +kernel
theorem dL_law_557 : decode cL_law 557 = .ok (.iload_n 3, 1) := by decide +kernel
theorem dL_law_558 : decode cL_law 558 = .ok (.iconst 1, 1) := by decide +kernel
theorem dL_law_559 : decode cL_law 559 = .ok (.iadd, 1) := by decide +kernel
theorem dL_law_560 : decode cL_law 560 = .ok (.iaload, 1) := by decide +kernel
theorem dL_law_561 : decode cL_law 561 = .ok (.invokevirtual 77, 3) := by decide +kernel
theorem dL_law_564 : decode cL_law 564 = .ok (.if_icmp .eq 319, 3) := by decide +kernel
theorem dL_law_567 : decode cL_law 567 = .ok (.iconst 0, 1) := by decide +kernel
theorem dL_law_568 : decode cL_law 568 = .ok (.ireturn, 1) := by decide +kernel
theorem dL_law_569 : decode cL_law 569 = .ok (.aload_n 1, 1) := by decide +kernel
theorem dL_law_570 : decode cL_law 570 = .ok (.aload_n 0, 1) := by decide +kernel
theorem dL_law_571 : decode cL_law 571 = .ok (.iload_n 3, 1) := by decide +kernel
theorem dL_law_572 : decode cL_law 572 = .ok (.iconst 1, 1) := by decide +kernel
theorem dL_law_573 : decode cL_law 573 = .ok (.iadd, 1) := by decide +kernel
theorem dL_law_574 : decode cL_law 574 = .ok (.iaload, 1) := by decide +kernel
theorem dL_law_575 : decode cL_law 575 = .ok (.invokevirtual 78, 3) := by decide +kernel
theorem dL_law_578 : decode cL_law 578 = .ok (.aload_n 2, 1) := by decide +kernel
theorem dL_law_579 : decode cL_law 579 = .ok (.aload_n 0, 1) := by decide +kernel
theorem dL_law_580 : decode cL_law 580 = .ok (.iload_n 3, 1) := by decide +kernel
theorem dL_law_581 : decode cL_law 581 = .ok (.iconst 1, 1) := by decide +kernel
theorem dL_law_582 : decode cL_law 582 = .ok (.iadd, 1) := by decide +kernel
theorem dL_law_583 : decode cL_law 583 = .ok (.iaload, 1) := by decide +kernel
theorem dL_law_584 : decode cL_law 584 = .ok (.invokevirtual 81, 3) := by decide +kernel
theorem dL_law_587 : decode cL_law 587 = .ok (.if_icmp .eq 296, 3) := by decide +kernel
theorem dL_law_590 : decode cL_law 590 = .ok (.iconst 0, 1) := by decide +kernel
theorem dL_law_591 : decode cL_law 591 = .ok (.ireturn, 1) := by decide +kernel
theorem dL_law_592 : decode cL_law 592 = .ok (.aload_n 1, 1) := by decide +kernel
theorem dL_law_593 : decode cL_law 593 = .ok (.aload_n 0, 1) := by decide +kernel
theorem dL_law_594 : decode cL_law 594 = .ok (.iload_n 3, 1) := by decide +kernel
theorem dL_law_595 : decode cL_law 595 = .ok (.iconst 1, 1) := by decide +kernel
theorem dL_law_596 : decode cL_law 596 = .ok (.iadd, 1) := by decide +kernel
theorem dL_law_597 : decode cL_law 597 = .ok (.iaload, 1) := by decide +kernel
theorem dL_law_598 : decode cL_law 598 = .ok (.invokevirtual 82, 3) := by decide +kernel
theorem dL_law_601 : decode cL_law 601 = .ok (.aload_n 2, 1) := by decide +kernel
theorem dL_law_602 : decode cL_law 602 = .ok (.aload_n 0, 1) := by decide +kernel
theorem dL_law_603 : decode cL_law 603 = .ok (.iload_n 3, 1) := by decide +kernel
theorem dL_law_604 : decode cL_law 604 = .ok (.iconst 1, 1) := by decide +kernel
theorem dL_law_605 : decode cL_law 605 = .ok (.iadd, 1) := by decide +kernel
theorem dL_law_606 : decode cL_law 606 = .ok (.iaload, 1) := by decide +kernel
theorem dL_law_607 : decode cL_law 607 = .ok (.invokevirtual 85, 3) := by decide +kernel
theorem dL_law_610 : decode cL_law 610 = .ok (.if_icmp .eq 273, 3) := by decide +kernel
theorem dL_law_613 : decode cL_law 613 = .ok (.iconst 0, 1) := by decide +kernel
theorem dL_law_614 : decode cL_law 614 = .ok (.ireturn, 1) := by decide +kernel
theorem dL_law_615 : decode cL_law 615 = .ok (.aload_n 1, 1) := by decide +kernel
theorem dL_law_616 : decode cL_law 616 = .ok (.aload_n 0, 1) := by decide +kernel
theorem dL_law_617 : decode cL_law 617 = .ok (.iload_n 3, 1) := by decide +kernel
theorem dL_law_618 : decode cL_law 618 = .ok (.iconst 1, 1) := by decide +kernel
theorem dL_law_619 : decode cL_law 619 = .ok (.iadd, 1) := by decide +kernel
theorem dL_law_620 : decode cL_law 620 = .ok (.iaload, 1) := by decide +kernel
theorem dL_law_621 : decode cL_law 621 = .ok (.invokevirtual 86, 3) := by decide +kernel
theorem dL_law_624 : decode cL_law 624 = .ok (.aload_n 2, 1) := by decide +kernel
theorem dL_law_625 : decode cL_law 625 = .ok (.aload_n 0, 1) := by decide +kernel
theorem dL_law_626 : decode cL_law 626 = .ok (.iload_n 3, 1) := by decide +kernel
theorem dL_law_627 : decode cL_law 627 = .ok (.iconst 1, 1) := by decide +kernel
theorem dL_law_628 : decode cL_law 628 = .ok (.iadd, 1) := by decide +kernel
theorem dL_law_629 : decode cL_law 629 = .ok (.iaload, 1) := by decide +kernel
theorem dL_law_630 : decode cL_law 630 = .ok (.invokevirtual 89, 3) := by decide +kernel
theorem dL_law_633 : decode cL_law 633 = .ok (.if_icmp .eq 250, 3) := by decide +kernel
theorem dL_law_636 : decode cL_law 636 = .ok (.iconst 0, 1) := by decide +kernel
theorem dL_law_637 : decode cL_law 637 = .ok (.ireturn, 1) := by decide +kernel
theorem dL_law_638 : decode cL_law 638 = .ok (.aload_n 1, 1) := by decide +kernel
theorem dL_law_639 : decode cL_law 639 = .ok (.aload_n 0, 1) := by decide +kernel
theorem dL_law_640 : decode cL_law 640 = .ok (.iload_n 3, 1) := by decide +kernel
theorem dL_law_641 : decode cL_law 641 = .ok (.iconst 1, 1) := by decide +kernel
theorem dL_law_642 : decode cL_law 642 = .ok (.iadd, 1) := by decide +kernel
theorem dL_law_643 : decode cL_law 643 = .ok (.iaload, 1) := by decide +kernel
theorem dL_law_644 : decode cL_law 644 = .ok (.invokevirtual 90, 3) := by decide +kernel
theorem dL_law_647 : decode cL_law 647 = .ok (.aload_n 2, 1) := by decide +kernel
theorem dL_law_648 : decode cL_law 648 = .ok (.aload_n 0, 1) := by decide +kernel
theorem dL_law_649 : decode cL_law 649 = .ok (.iload_n 3, 1) := by decide +kernel
theorem dL_law_650 : decode cL_law 650 = .ok (.iconst 1, 1) := by decide +kernel
theorem dL_law_651 : decode cL_law 651 = .ok (.iadd, 1) := by decide +kernel
theorem dL_law_652 : decode cL_law 652 = .ok (.iaload, 1) := by decide +kernel
theorem dL_law_653 : decode cL_law 653 = .ok (.invokevirtual 93, 3) := by decide +kernel
theorem dL_law_656 : decode cL_law 656 = .ok (.if_icmp .eq 227, 3) := by decide +kernel
theorem dL_law_659 : decode cL_law 659 = .ok (.iconst 0, 1) := by decide +kernel
theorem dL_law_660 : decode cL_law 660 = .ok (.ireturn, 1) := by decide +kernel
theorem dL_law_661 : decode cL_law 661 = .ok (.aload_n 1, 1) := by decide +kernel
theorem dL_law_662 : decode cL_law 662 = .ok (.aload_n 0, 1) := by decide +kernel
theorem dL_law_663 : decode cL_law 663 = .ok (.iload_n 3, 1) := by decide +kernel
theorem dL_law_664 : decode cL_law 664 = .ok (.iconst 1, 1) := by decide +kernel
theorem dL_law_665 : decode cL_law 665 = .ok (.iadd, 1) := by decide +kernel
theorem dL_law_666 : decode cL_law 666 = .ok (.iaload, 1) := by decide +kernel
theorem dL_law_667 : decode cL_law 667 = .ok (.invokevirtual 94, 3) := by decide +kernel
theorem dL_law_670 : decode cL_law 670 = .ok (.aload_n 2, 1) := by decide +kernel
theorem dL_law_671 : decode cL_law 671 = .ok (.aload_n 0, 1) := by decide +kernel
theorem dL_law_672 : decode cL_law 672 = .ok (.iload_n 3, 1) := by decide +kernel
theorem dL_law_673 : decode cL_law 673 = .ok (.iconst 1, 1) := by decide +kernel
theorem dL_law_674 : decode cL_law 674 = .ok (.iadd, 1) := by decide +kernel
theorem dL_law_675 : decode cL_law 675 = .ok (.iaload, 1) := by decide +kernel
theorem dL_law_676 : decode cL_law 676 = .ok (.invokevirtual 98, 3) := by decide +kernel
theorem dL_law_679 : decode cL_law 679 = .ok (.lcmp, 1) := by decide +kernel
theorem dL_law_680 : decode cL_law 680 = .ok (.ifCond .eq 203, 3) := by decide +kernel
theorem dL_law_683 : decode cL_law 683 = .ok (.iconst 0, 1) := by decide +kernel
theorem dL_law_684 : decode cL_law 684 = .ok (.ireturn, 1) := by decide +kernel
theorem dL_law_685 : decode cL_law 685 = .ok (.aload_n 1, 1) := by decide +kernel
theorem dL_law_686 : decode cL_law 686 = .ok (.aload_n 0, 1) := by decide +kernel
theorem dL_law_687 : decode cL_law 687 = .ok (.iload_n 3, 1) := by decide +kernel
theorem dL_law_688 : decode cL_law 688 = .ok (.iconst 1, 1) := by decide +kernel
theorem dL_law_689 : decode cL_law 689 = .ok (.iadd, 1) := by decide +kernel
theorem dL_law_690 : decode cL_law 690 = .ok (.iaload, 1) := by decide +kernel
theorem dL_law_691 : decode cL_law 691 = .ok (.invokevirtual 99, 3) := by decide +kernel
theorem dL_law_694 : decode cL_law 694 = .ok (.aload_n 2, 1) := by decide +kernel
theorem dL_law_695 : decode cL_law 695 = .ok (.aload_n 0, 1) := by decide +kernel
theorem dL_law_696 : decode cL_law 696 = .ok (.iload_n 3, 1) := by decide +kernel
theorem dL_law_697 : decode cL_law 697 = .ok (.iconst 1, 1) := by decide +kernel
theorem dL_law_698 : decode cL_law 698 = .ok (.iadd, 1) := by decide +kernel
theorem dL_law_699 : decode cL_law 699 = .ok (.iaload, 1) := by decide +kernel
theorem dL_law_700 : decode cL_law 700 = .ok (.invokevirtual 102, 3) := by decide +kernel
theorem dL_law_703 : decode cL_law 703 = .ok (.lcmp, 1) := by decide +kernel
theorem dL_law_704 : decode cL_law 704 = .ok (.ifCond .eq 179, 3) := by decide +kernel
theorem dL_law_707 : decode cL_law 707 = .ok (.iconst 0, 1) := by decide +kernel
theorem dL_law_708 : decode cL_law 708 = .ok (.ireturn, 1) := by decide +kernel
theorem dL_law_709 : decode cL_law 709 = .ok (.aload_n 1, 1) := by decide +kernel
theorem dL_law_710 : decode cL_law 710 = .ok (.aload_n 0, 1) := by decide +kernel
theorem dL_law_711 : decode cL_law 711 = .ok (.iload_n 3, 1) := by decide +kernel
theorem dL_law_712 : decode cL_law 712 = .ok (.iconst 1, 1) := by decide +kernel
theorem dL_law_713 : decode cL_law 713 = .ok (.iadd, 1) := by decide +kernel
theorem dL_law_714 : decode cL_law 714 = .ok (.iaload, 1) := by decide +kernel
theorem dL_law_715 : decode cL_law 715 = .ok (.aload_n 0, 1) := by decide +kernel
theorem dL_law_716 : decode cL_law 716 = .ok (.iload_n 3, 1) := by decide +kernel
theorem dL_law_717 : decode cL_law 717 = .ok (.iconst 2, 1) := by decide +kernel
theorem dL_law_718 : decode cL_law 718 = .ok (.iadd, 1) := by decide +kernel
theorem dL_law_719 : decode cL_law 719 = .ok (.iaload, 1) := by decide +kernel
theorem dL_law_720 : decode cL_law 720 = .ok (.invokevirtual 103, 3) := by decide +kernel
theorem dL_law_723 : decode cL_law 723 = .ok (.aload_n 2, 1) := by decide +kernel
theorem dL_law_724 : decode cL_law 724 = .ok (.aload_n 0, 1) := by decide +kernel
theorem dL_law_725 : decode cL_law 725 = .ok (.iload_n 3, 1) := by decide +kernel
theorem dL_law_726 : decode cL_law 726 = .ok (.iconst 1, 1) := by decide +kernel
theorem dL_law_727 : decode cL_law 727 = .ok (.iadd, 1) := by decide +kernel
theorem dL_law_728 : decode cL_law 728 = .ok (.iaload, 1) := by decide +kernel
theorem dL_law_729 : decode cL_law 729 = .ok (.aload_n 0, 1) := by decide +kernel
theorem dL_law_730 : decode cL_law 730 = .ok (.iload_n 3, 1) := by decide +kernel
theorem dL_law_731 : decode cL_law 731 = .ok (.iconst 2, 1) := by decide +kernel
theorem dL_law_732 : decode cL_law 732 = .ok (.iadd, 1) := by decide +kernel
theorem dL_law_733 : decode cL_law 733 = .ok (.iaload, 1) := by decide +kernel
theorem dL_law_734 : decode cL_law 734 = .ok (.invokevirtual 106, 3) := by decide +kernel
theorem dL_law_737 : decode cL_law 737 = .ok (.if_icmp .eq 146, 3) := by decide +kernel
theorem dL_law_740 : decode cL_law 740 = .ok (.iconst 0, 1) := by decide +kernel
theorem dL_law_741 : decode cL_law 741 = .ok (.ireturn, 1) := by decide +kernel
theorem dL_law_742 : decode cL_law 742 = .ok (.aload_n 1, 1) := by decide +kernel
theorem dL_law_743 : decode cL_law 743 = .ok (.aload_n 0, 1) := by decide +kernel
theorem dL_law_744 : decode cL_law 744 = .ok (.iload_n 3, 1) := by decide +kernel
theorem dL_law_745 : decode cL_law 745 = .ok (.iconst 1, 1) := by decide +kernel
theorem dL_law_746 : decode cL_law 746 = .ok (.iadd, 1) := by decide +kernel
theorem dL_law_747 : decode cL_law 747 = .ok (.iaload, 1) := by decide +kernel
theorem dL_law_748 : decode cL_law 748 = .ok (.invokevirtual 107, 3) := by decide +kernel
theorem dL_law_751 : decode cL_law 751 = .ok (.aload_n 2, 1) := by decide +kernel
theorem dL_law_752 : decode cL_law 752 = .ok (.aload_n 0, 1) := by decide +kernel
theorem dL_law_753 : decode cL_law 753 = .ok (.iload_n 3, 1) := by decide +kernel
theorem dL_law_754 : decode cL_law 754 = .ok (.iconst 1, 1) := by decide +kernel
theorem dL_law_755 : decode cL_law 755 = .ok (.iadd, 1) := by decide +kernel
theorem dL_law_756 : decode cL_law 756 = .ok (.iaload, 1) := by decide +kernel
theorem dL_law_757 : decode cL_law 757 = .ok (.invokevirtual 110, 3) := by decide +kernel
theorem dL_law_760 : decode cL_law 760 = .ok (.if_icmp .eq 123, 3) := by decide +kernel
theorem dL_law_763 : decode cL_law 763 = .ok (.iconst 0, 1) := by decide +kernel
theorem dL_law_764 : decode cL_law 764 = .ok (.ireturn, 1) := by decide +kernel
theorem dL_law_765 : decode cL_law 765 = .ok (.aload_n 1, 1) := by decide +kernel
theorem dL_law_766 : decode cL_law 766 = .ok (.invokevirtual 111, 3) := by decide +kernel
theorem dL_law_769 : decode cL_law 769 = .ok (.aload_n 2, 1) := by decide +kernel
theorem dL_law_770 : decode cL_law 770 = .ok (.invokevirtual 114, 3) := by decide +kernel
theorem dL_law_773 : decode cL_law 773 = .ok (.if_icmp .eq 110, 3) := by decide +kernel
theorem dL_law_776 : decode cL_law 776 = .ok (.iconst 0, 1) := by decide +kernel
theorem dL_law_777 : decode cL_law 777 = .ok (.ireturn, 1) := by decide +kernel
theorem dL_law_778 : decode cL_law 778 = .ok (.aload_n 1, 1) := by decide +kernel
theorem dL_law_779 : decode cL_law 779 = .ok (.invokevirtual 115, 3) := by decide +kernel
theorem dL_law_782 : decode cL_law 782 = .ok (.aload_n 2, 1) := by decide +kernel
theorem dL_law_783 : decode cL_law 783 = .ok (.invokevirtual 118, 3) := by decide +kernel
theorem dL_law_786 : decode cL_law 786 = .ok (.if_icmp .eq 97, 3) := by decide +kernel
theorem dL_law_789 : decode cL_law 789 = .ok (.iconst 0, 1) := by decide +kernel
theorem dL_law_790 : decode cL_law 790 = .ok (.ireturn, 1) := by decide +kernel
theorem dL_law_791 : decode cL_law 791 = .ok (.aload_n 1, 1) := by decide +kernel
theorem dL_law_792 : decode cL_law 792 = .ok (.invokevirtual 119, 3) := by decide +kernel
theorem dL_law_795 : decode cL_law 795 = .ok (.aload_n 2, 1) := by decide +kernel
theorem dL_law_796 : decode cL_law 796 = .ok (.invokevirtual 122, 3) := by decide +kernel
theorem dL_law_799 : decode cL_law 799 = .ok (.if_icmp .eq 84, 3) := by decide +kernel
theorem dL_law_802 : decode cL_law 802 = .ok (.iconst 0, 1) := by decide +kernel
theorem dL_law_803 : decode cL_law 803 = .ok (.ireturn, 1) := by decide +kernel
theorem dL_law_804 : decode cL_law 804 = .ok (.aload_n 1, 1) := by decide +kernel
theorem dL_law_805 : decode cL_law 805 = .ok (.aload_n 0, 1) := by decide +kernel
theorem dL_law_806 : decode cL_law 806 = .ok (.iload_n 3, 1) := by decide +kernel
theorem dL_law_807 : decode cL_law 807 = .ok (.iconst 1, 1) := by decide +kernel
theorem dL_law_808 : decode cL_law 808 = .ok (.iadd, 1) := by decide +kernel
theorem dL_law_809 : decode cL_law 809 = .ok (.iaload, 1) := by decide +kernel
theorem dL_law_810 : decode cL_law 810 = .ok (.invokevirtual 123, 3) := by decide +kernel
theorem dL_law_813 : decode cL_law 813 = .ok (.aload_n 2, 1) := by decide +kernel
theorem dL_law_814 : decode cL_law 814 = .ok (.aload_n 0, 1) := by decide +kernel
theorem dL_law_815 : decode cL_law 815 = .ok (.iload_n 3, 1) := by decide +kernel
theorem dL_law_816 : decode cL_law 816 = .ok (.iconst 1, 1) := by decide +kernel
theorem dL_law_817 : decode cL_law 817 = .ok (.iadd, 1) := by decide +kernel
theorem dL_law_818 : decode cL_law 818 = .ok (.iaload, 1) := by decide +kernel
theorem dL_law_819 : decode cL_law 819 = .ok (.invokevirtual 126, 3) := by decide +kernel
theorem dL_law_822 : decode cL_law 822 = .ok (.if_icmp .eq 61, 3) := by decide +kernel
theorem dL_law_825 : decode cL_law 825 = .ok (.iconst 0, 1) := by decide +kernel
theorem dL_law_826 : decode cL_law 826 = .ok (.ireturn, 1) := by decide +kernel
theorem dL_law_827 : decode cL_law 827 = .ok (.aload_n 1, 1) := by decide +kernel
theorem dL_law_828 : decode cL_law 828 = .ok (.aload_n 0, 1) := by decide +kernel
theorem dL_law_829 : decode cL_law 829 = .ok (.iload_n 3, 1) := by decide +kernel
theorem dL_law_830 : decode cL_law 830 = .ok (.iconst 1, 1) := by decide +kernel
theorem dL_law_831 : decode cL_law 831 = .ok (.iadd, 1) := by decide +kernel
theorem dL_law_832 : decode cL_law 832 = .ok (.iaload, 1) := by decide +kernel
theorem dL_law_833 : decode cL_law 833 = .ok (.invokevirtual 127, 3) := by decide +kernel
theorem dL_law_836 : decode cL_law 836 = .ok (.aload_n 2, 1) := by decide +kernel
theorem dL_law_837 : decode cL_law 837 = .ok (.aload_n 0, 1) := by decide +kernel
theorem dL_law_838 : decode cL_law 838 = .ok (.iload_n 3, 1) := by decide +kernel
theorem dL_law_839 : decode cL_law 839 = .ok (.iconst 1, 1) := by decide +kernel
theorem dL_law_840 : decode cL_law 840 = .ok (.iadd, 1) := by decide +kernel
theorem dL_law_841 : decode cL_law 841 = .ok (.iaload, 1) := by decide +kernel
theorem dL_law_842 : decode cL_law 842 = .ok (.invokevirtual 130, 3) := by decide +kernel
theorem dL_law_845 : decode cL_law 845 = .ok (.if_icmp .eq 38, 3) := by decide +kernel
theorem dL_law_848 : decode cL_law 848 = .ok (.iconst 0, 1) := by decide +kernel
theorem dL_law_849 : decode cL_law 849 = .ok (.ireturn, 1) := by decide +kernel
theorem dL_law_850 : decode cL_law 850 = .ok (.aload_n 1, 1) := by decide +kernel
theorem dL_law_851 : decode cL_law 851 = .ok (.aload_n 0, 1) := by decide +kernel
theorem dL_law_852 : decode cL_law 852 = .ok (.iload_n 3, 1) := by decide +kernel
theorem dL_law_853 : decode cL_law 853 = .ok (.iconst 1, 1) := by decide +kernel
theorem dL_law_854 : decode cL_law 854 = .ok (.iadd, 1) := by decide +kernel
theorem dL_law_855 : decode cL_law 855 = .ok (.iaload, 1) := by decide +kernel
theorem dL_law_856 : decode cL_law 856 = .ok (.aload_n 0, 1) := by decide +kernel
theorem dL_law_857 : decode cL_law 857 = .ok (.iload_n 3, 1) := by decide +kernel
theorem dL_law_858 : decode cL_law 858 = .ok (.iconst 2, 1) := by decide +kernel
theorem dL_law_859 : decode cL_law 859 = .ok (.iadd, 1) := by decide +kernel
theorem dL_law_860 : decode cL_law 860 = .ok (.iaload, 1) := by decide +kernel
theorem dL_law_861 : decode cL_law 861 = .ok (.invokevirtual 131, 3) := by decide +kernel
theorem dL_law_864 : decode cL_law 864 = .ok (.aload_n 2, 1) := by decide +kernel
theorem dL_law_865 : decode cL_law 865 = .ok (.aload_n 0, 1) := by decide +kernel
theorem dL_law_866 : decode cL_law 866 = .ok (.iload_n 3, 1) := by decide +kernel
theorem dL_law_867 : decode cL_law 867 = .ok (.iconst 1, 1) := by decide +kernel
theorem dL_law_868 : decode cL_law 868 = .ok (.iadd, 1) := by decide +kernel
theorem dL_law_869 : decode cL_law 869 = .ok (.iaload, 1) := by decide +kernel
theorem dL_law_870 : decode cL_law 870 = .ok (.aload_n 0, 1) := by decide +kernel
theorem dL_law_871 : decode cL_law 871 = .ok (.iload_n 3, 1) := by decide +kernel
theorem dL_law_872 : decode cL_law 872 = .ok (.iconst 2, 1) := by decide +kernel
theorem dL_law_873 : decode cL_law 873 = .ok (.iadd, 1) := by decide +kernel
theorem dL_law_874 : decode cL_law 874 = .ok (.iaload, 1) := by decide +kernel
theorem dL_law_875 : decode cL_law 875 = .ok (.invokevirtual 134, 3) := by decide +kernel
theorem dL_law_878 : decode cL_law 878 = .ok (.if_icmp .eq 5, 3) := by decide +kernel
theorem dL_law_881 : decode cL_law 881 = .ok (.iconst 0, 1) := by decide +kernel
theorem dL_law_882 : decode cL_law 882 = .ok (.ireturn, 1) := by decide +kernel
theorem dL_law_883 : decode cL_law 883 = .ok (.iinc 3 4, 3) := by decide +kernel
theorem dL_law_886 : decode cL_law 886 = .ok (.goto (-868), 3) := by decide +kernel
theorem dL_law_889 : decode cL_law 889 = .ok (.iconst 1, 1) := by decide +kernel
theorem dL_law_890 : decode cL_law 890 = .ok (.ireturn, 1) := by decide +kernel

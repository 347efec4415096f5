theorem dX11_addWord_230 : decode cX11_addWord 230 = .ok (.aload_n 0, 1) := by decide +kernel
theorem dX11_addWord_231 : decode cX11_addWord 231 = .ok (.getfield 70, 3) := by decide +kernel
theorem dX11_addWord_234 : decode cX11_addWord 234 = .ok (.iload_n 1, 1) := by decide +kernel
theorem dX11_addWord_235 : decode cX11_addWord 235 = .ok (.iaload, 1) := by decide +kernel
theorem dX11_addWord_236 : decode cX11_addWord 236 = .ok (.iastore, 1) := by decide +kernel
theorem dX11_addWord_237 : decode cX11_addWord 237 = .ok (.return_, 1) := by decide +kernel
theorem dX11_findReadings_0 : decode cX11_findReadings 0 = .ok (.aload_n 0, 1) := by decide +kernel
theorem dX11_findReadings_1 : decode cX11_findReadings 1 = .ok (.getfield 141, 3) := by decide +kernel
theorem dX11_findReadings_4 : decode cX11_findReadings 4 = .ok (.istore_n 1, 1) := by decide +kernel
theorem dX11_findReadings_5 : decode cX11_findReadings 5 = .ok (.iload_n 1, 1) := by decide +kernel
theorem dX11_findReadings_6 : decode cX11_findReadings 6 = .ok (.ifCond .lt 118, 3) := by decide +kernel
theorem dX11_findReadings_9 : decode cX11_findReadings 9 = .ok (.iconst 0, 1) := by decide +kernel
theorem dX11_findReadings_10 : decode cX11_findReadings 10 = .ok (.istore_n 2, 1) := by decide +kernel
theorem dX11_findReadings_11 : decode cX11_findReadings 11 = .ok (.iload_n 2, 1) := by decide +kernel
theorem dX11_findReadings_12 : decode cX11_findReadings 12 = .ok (.iconst 4, 1) := by decide +kernel
theorem dX11_findReadings_13 : decode cX11_findReadings 13 = .ok (.if_icmp .gt 105, 3) := by decide +kernel
theorem dX11_findReadings_16 : decode cX11_findReadings 16 = .ok (.iload_n 1, 1) := by decide +kernel
theorem dX11_findReadings_17 : decode cX11_findReadings 17 = .ok (.iload_n 2, 1) := by decide +kernel
theorem dX11_findReadings_18 : decode cX11_findReadings 18 = .ok (.invokestatic 201, 3) := by decide +kernel
theorem dX11_findReadings_21 : decode cX11_findReadings 21 = .ok (.istore_n 3, 1) := by decide +kernel
theorem dX11_findReadings_22 : decode cX11_findReadings 22 = .ok (.aload_n 0, 1) := by decide +kernel
theorem dX11_findReadings_23 : decode cX11_findReadings 23 = .ok (.iload_n 3, 1) := by decide +kernel
theorem dX11_findReadings_24 : decode cX11_findReadings 24 = .ok (.iload_n 1, 1) := by decide +kernel
theorem dX11_findReadings_25 : decode cX11_findReadings 25 = .ok (.aload_n 0, 1) := by decide +kernel
theorem dX11_findReadings_26 : decode cX11_findReadings 26 = .ok (.getfield 141, 3) := by decide +kernel
theorem dX11_findReadings_29 : decode cX11_findReadings 29 = .ok (.if_icmp .ne 7, 3) := by decide +kernel
theorem dX11_findReadings_32 : decode cX11_findReadings 32 = .ok (.iconst 1, 1) := by decide +kernel
theorem dX11_findReadings_33 : decode cX11_findReadings 33 = .ok (.goto 4, 3) := by decide +kernel
theorem dX11_findReadings_36 : decode cX11_findReadings 36 = .ok (.iconst 0, 1) := by decide +kernel
theorem dX11_findReadings_37 : decode cX11_findReadings 37 = .ok (.invokevirtual 205, 3) := by decide +kernel
theorem dX11_findReadings_40 : decode cX11_findReadings 40 = .ok (.iconst 0, 1) := by decide +kernel
theorem dX11_findReadings_41 : decode cX11_findReadings 41 = .ok (.istore 4, 2) := by decide +kernel
theorem dX11_findReadings_43 : decode cX11_findReadings 43 = .ok (.iload 4, 2) := by decide +kernel
theorem dX11_findReadings_45 : decode cX11_findReadings 45 = .ok (.aload_n 0, 1) := by decide +kernel
theorem dX11_findReadings_46 : decode cX11_findReadings 46 = .ok (.getfield 135, 3) := by decide +kernel
theorem dX11_findReadings_49 : decode cX11_findReadings 49 = .ok (.if_icmp .ge 63, 3) := by decide +kernel
theorem dX11_findReadings_52 : decode cX11_findReadings 52 = .ok (.iload_n 1, 1) := by decide +kernel
theorem dX11_findReadings_53 : decode cX11_findReadings 53 = .ok (.aload_n 0, 1) := by decide +kernel
theorem dX11_findReadings_54 : decode cX11_findReadings 54 = .ok (.getfield 141, 3) := by decide +kernel
theorem dX11_findReadings_57 : decode cX11_findReadings 57 = .ok (.if_icmp .ge 55, 3) := by decide +kernel
theorem dX11_findReadings_60 : decode cX11_findReadings 60 = .ok (.aload_n 0, 1) := by decide +kernel
theorem dX11_findReadings_61 : decode cX11_findReadings 61 = .ok (.iload_n 2, 1) := by decide +kernel
theorem dX11_findReadings_62 : decode cX11_findReadings 62 = .ok (.iload 4, 2) := by decide +kernel
theorem dX11_findReadings_64 : decode cX11_findReadings 64 = .ok (.invokevirtual 209, 3) := by decide +kernel
theorem dX11_findReadings_67 : decode cX11_findReadings 67 = .ok (.ifCond .eq 39, 3) := by decide +kernel
theorem dX11_findReadings_70 : decode cX11_findReadings 70 = .ok (.aload_n 0, 1) := by decide +kernel
theorem dX11_findReadings_71 : decode cX11_findReadings 71 = .ok (.iload 4, 2) := by decide +kernel
theorem dX11_findReadings_73 : decode cX11_findReadings 73 = .ok (.iload_n 1, 1) := by decide +kernel
theorem dX11_findReadings_74 : decode cX11_findReadings 74 = .ok (.invokevirtual 212, 3) := by decide +kernel
theorem dX11_findReadings_77 : decode cX11_findReadings 77 = .ok (.ifCond .eq 29, 3) := by decide +kernel
theorem dX11_findReadings_80 : decode cX11_findReadings 80 = .ok (.aload_n 0, 1) := by decide +kernel
theorem dX11_findReadings_81 : decode cX11_findReadings 81 = .ok (.iload_n 3, 1) := by decide +kernel
theorem dX11_findReadings_82 : decode cX11_findReadings 82 = .ok (.iload 4, 2) := by decide +kernel
theorem dX11_findReadings_84 : decode cX11_findReadings 84 = .ok (.iload_n 1, 1) := by decide +kernel
theorem dX11_findReadings_85 : decode cX11_findReadings 85 = .ok (.aload_n 0, 1) := by decide +kernel
theorem dX11_findReadings_86 : decode cX11_findReadings 86 = .ok (.getfield 13, 3) := by decide +kernel
theorem dX11_findReadings_89 : decode cX11_findReadings 89 = .ok (.iload 4, 2) := by decide +kernel
theorem dX11_findReadings_91 : decode cX11_findReadings 91 = .ok (.iaload, 1) := by decide +kernel
theorem dX11_findReadings_92 : decode cX11_findReadings 92 = .ok (.iadd, 1) := by decide +kernel
theorem dX11_findReadings_93 : decode cX11_findReadings 93 = .ok (.aload_n 0, 1) := by decide +kernel
theorem dX11_findReadings_94 : decode cX11_findReadings 94 = .ok (.getfield 19, 3) := by decide +kernel
theorem dX11_findReadings_97 : decode cX11_findReadings 97 = .ok (.iload 4, 2) := by decide +kernel
theorem dX11_findReadings_99 : decode cX11_findReadings 99 = .ok (.iaload, 1) := by decide +kernel
theorem dX11_findReadings_100 : decode cX11_findReadings 100 = .ok (.invokestatic 201, 3) := by decide +kernel
theorem dX11_findReadings_103 : decode cX11_findReadings 103 = .ok (.invokevirtual 215, 3) := by decide +kernel
theorem dX11_findReadings_106 : decode cX11_findReadings 106 = .ok (.iinc 4 1, 3) := by decide +kernel
theorem dX11_findReadings_109 : decode cX11_findReadings 109 = .ok (.goto (-66), 3) := by decide +kernel
theorem dX11_findReadings_112 : decode cX11_findReadings 112 = .ok (.iinc 2 1, 3) := by decide +kernel
theorem dX11_findReadings_115 : decode cX11_findReadings 115 = .ok (.goto (-104), 3) := by decide +kernel
theorem dX11_findReadings_118 : decode cX11_findReadings 118 = .ok (.iinc 1 (-1), 3) := by decide +kernel
theorem dX11_findReadings_121 : decode cX11_findReadings 121 = .ok (.goto (-116), 3) := by decide +kernel
theorem dX11_findReadings_124 : decode cX11_findReadings 124 = .ok (.return_, 1) := by decide +kernel
theorem dX11_readings_0 : decode cX11_readings 0 = .ok (.aload_n 0, 1) := by decide +kernel
theorem dX11_readings_1 : decode cX11_readings 1 = .ok (.invokevirtual 219, 3) := by decide +kernel
theorem dX11_readings_4 : decode cX11_readings 4 = .ok (.aload_n 0, 1) := by decide +kernel
theorem dX11_readings_5 : decode cX11_readings 5 = .ok (.getfield 57, 3) := by decide +kernel
theorem dX11_readings_8 : decode cX11_readings 8 = .ok (.iconst 0, 1) := by decide +kernel
theorem dX11_readings_9 : decode cX11_readings 9 = .ok (.iconst 4, 1) := by decide +kernel
theorem dX11_readings_10 : decode cX11_readings 10 = .ok (.invokestatic 201, 3) := by decide +kernel
theorem dX11_readings_13 : decode cX11_readings 13 = .ok (.laload, 1) := by decide +kernel
theorem dX11_readings_14 : decode cX11_readings 14 = .ok (.ldc2_w 222, 3) := by decide +kernel
theorem dX11_readings_17 : decode cX11_readings 17 = .ok (.lcmp, 1) := by decide +kernel
theorem dX11_readings_18 : decode cX11_readings 18 = .ok (.ifCond .le 9, 3) := by decide +kernel
theorem dX11_readings_21 : decode cX11_readings 21 = .ok (.ldc2_w 224, 3) := by decide +kernel
theorem dX11_readings_24 : decode cX11_readings 24 = .ok (.goto 13, 3) := by decide +kernel
theorem dX11_readings_27 : decode cX11_readings 27 = .ok (.aload_n 0, 1) := by decide +kernel
theorem dX11_readings_28 : decode cX11_readings 28 = .ok (.getfield 57, 3) := by decide +kernel
theorem dX11_readings_31 : decode cX11_readings 31 = .ok (.iconst 0, 1) := by decide +kernel
theorem dX11_readings_32 : decode cX11_readings 32 = .ok (.iconst 4, 1) := by decide +kernel
theorem dX11_readings_33 : decode cX11_readings 33 = .ok (.invokestatic 201, 3) := by decide +kernel
theorem dX11_readings_36 : decode cX11_readings 36 = .ok (.laload, 1) := by decide +kernel
theorem dX11_readings_37 : decode cX11_readings 37 = .ok (.lreturn, 1) := by decide +kernel
theorem dX11_reading_0 : decode cX11_reading 0 = .ok (.lload_n 1, 1) := by decide +kernel
theorem dX11_reading_1 : decode cX11_reading 1 = .ok (.lconst 0, 1) := by decide +kernel
theorem dX11_reading_2 : decode cX11_reading 2 = .ok (.ldc2_w 222, 3) := by decide +kernel
theorem dX11_reading_5 : decode cX11_reading 5 = .ok (.invokestatic 131, 3) := by decide +kernel
theorem dX11_reading_8 : decode cX11_reading 8 = .ok (.ifCond .ne 7, 3) := by decide +kernel
theorem dX11_reading_11 : decode cX11_reading 11 = .ok (.sipush (-1002), 3) := by decide +kernel
theorem dX11_reading_14 : decode cX11_reading 14 = .ok (.ireturn, 1) := by decide +kernel
theorem dX11_reading_15 : decode cX11_reading 15 = .ok (.aload_n 0, 1) := by decide +kernel
theorem dX11_reading_16 : decode cX11_reading 16 = .ok (.invokevirtual 219, 3) := by decide +kernel
theorem dX11_reading_19 : decode cX11_reading 19 = .ok (.aload_n 0, 1) := by decide +kernel
theorem dX11_reading_20 : decode cX11_reading 20 = .ok (.getfield 57, 3) := by decide +kernel
theorem dX11_reading_23 : decode cX11_reading 23 = .ok (.iconst 0, 1) := by decide +kernel
theorem dX11_reading_24 : decode cX11_reading 24 = .ok (.iconst 4, 1) := by decide +kernel
theorem dX11_reading_25 : decode cX11_reading 25 = .ok (.invokestatic 201, 3) := by decide +kernel
theorem dX11_reading_28 : decode cX11_reading 28 = .ok (.laload, 1) := by decide +kernel
theorem dX11_reading_29 : decode cX11_reading 29 = .ok (.lload_n 1, 1) := by decide +kernel
theorem dX11_reading_30 : decode cX11_reading 30 = .ok (.lcmp, 1) := by decide +kernel
theorem dX11_reading_31 : decode cX11_reading 31 = .ok (.ifCond .le 7, 3) := by decide +kernel
theorem dX11_reading_34 : decode cX11_reading 34 = .ok (.iload_n 3, 1) := by decide +kernel
theorem dX11_reading_35 : decode cX11_reading 35 = .ok (.ifCond .ge 5, 3) := by decide +kernel
theorem dX11_reading_38 : decode cX11_reading 38 = .ok (.iconst (-1), 1) := by decide +kernel
theorem dX11_reading_39 : decode cX11_reading 39 = .ok (.ireturn, 1) := by decide +kernel
theorem dX11_reading_40 : decode cX11_reading 40 = .ok (.lload_n 1, 1) := by decide +kernel
theorem dX11_reading_41 : decode cX11_reading 41 = .ok (.lstore 4, 2) := by decide +kernel
theorem dX11_reading_43 : decode cX11_reading 43 = .ok (.iconst 0, 1) := by decide +kernel
theorem dX11_reading_44 : decode cX11_reading 44 = .ok (.istore 6, 2) := by decide +kernel
theorem dX11_reading_46 : decode cX11_reading 46 = .ok (.iconst 4, 1) := by decide +kernel
theorem dX11_reading_47 : decode cX11_reading 47 = .ok (.istore 7, 2) := by decide +kernel
theorem dX11_reading_49 : decode cX11_reading 49 = .ok (.iconst 0, 1) := by decide +kernel
theorem dX11_reading_50 : decode cX11_reading 50 = .ok (.istore 8, 2) := by decide +kernel
theorem dX11_reading_52 : decode cX11_reading 52 = .ok (.iload 6, 2) := by decide +kernel
theorem dX11_reading_54 : decode cX11_reading 54 = .ok (.aload_n 0, 1) := by decide +kernel
theorem dX11_reading_55 : decode cX11_reading 55 = .ok (.getfield 141, 3) := by decide +kernel
theorem dX11_reading_58 : decode cX11_reading 58 = .ok (.if_icmp .ge 136, 3) := by decide +kernel
theorem dX11_reading_61 : decode cX11_reading 61 = .ok (.iconst (-1), 1) := by decide +kernel
theorem dX11_reading_62 : decode cX11_reading 62 = .ok (.istore 9, 2) := by decide +kernel
theorem dX11_reading_64 : decode cX11_reading 64 = .ok (.iconst 0, 1) := by decide +kernel
theorem dX11_reading_65 : decode cX11_reading 65 = .ok (.istore 10, 2) := by decide +kernel
theorem dX11_reading_67 : decode cX11_reading 67 = .ok (.iload 10, 2) := by decide +kernel
theorem dX11_reading_69 : decode cX11_reading 69 = .ok (.aload_n 0, 1) := by decide +kernel
theorem dX11_reading_70 : decode cX11_reading 70 = .ok (.getfield 135, 3) := by decide +kernel
theorem dX11_reading_73 : decode cX11_reading 73 = .ok (.if_icmp .ge 85, 3) := by decide +kernel
theorem dX11_reading_76 : decode cX11_reading 76 = .ok (.iload 9, 2) := by decide +kernel
theorem dX11_reading_78 : decode cX11_reading 78 = .ok (.ifCond .ge 80, 3) := by decide +kernel
theorem dX11_reading_81 : decode cX11_reading 81 = .ok (.aload_n 0, 1) := by decide +kernel
theorem dX11_reading_82 : decode cX11_reading 82 = .ok (.iload 7, 2) := by decide +kernel
theorem dX11_reading_84 : decode cX11_reading 84 = .ok (.iload 10, 2) := by decide +kernel
theorem dX11_reading_86 : decode cX11_reading 86 = .ok (.invokevirtual 209, 3) := by decide +kernel
theorem dX11_reading_89 : decode cX11_reading 89 = .ok (.ifCond .eq 63, 3) := by decide +kernel
theorem dX11_reading_92 : decode cX11_reading 92 = .ok (.aload_n 0, 1) := by decide +kernel
theorem dX11_reading_93 : decode cX11_reading 93 = .ok (.iload 10, 2) := by decide +kernel
theorem dX11_reading_95 : decode cX11_reading 95 = .ok (.iload 6, 2) := by decide +kernel
theorem dX11_reading_97 : decode cX11_reading 97 = .ok (.invokevirtual 212, 3) := by decide +kernel
theorem dX11_reading_100 : decode cX11_reading 100 = .ok (.ifCond .eq 52, 3) := by decide +kernel
theorem dX11_reading_103 : decode cX11_reading 103 = .ok (.aload_n 0, 1) := by decide +kernel
theorem dX11_reading_104 : decode cX11_reading 104 = .ok (.getfield 57, 3) := by decide +kernel
theorem dX11_reading_107 : decode cX11_reading 107 = .ok (.iload 6, 2) := by decide +kernel
theorem dX11_reading_109 : decode cX11_reading 109 = .ok (.aload_n 0, 1) := by decide +kernel
theorem dX11_reading_110 : decode cX11_reading 110 = .ok (.getfield 13, 3) := by decide +kernel
theorem dX11_reading_113 : decode cX11_reading 113 = .ok (.iload 10, 2) := by decide +kernel
theorem dX11_reading_115 : decode cX11_reading 115 = .ok (.iaload, 1) := by decide +kernel
theorem dX11_reading_116 : decode cX11_reading 116 = .ok (.iadd, 1) := by decide +kernel
theorem dX11_reading_117 : decode cX11_reading 117 = .ok (.aload_n 0, 1) := by decide +kernel
theorem dX11_reading_118 : decode cX11_reading 118 = .ok (.getfield 19, 3) := by decide +kernel
theorem dX11_reading_121 : decode cX11_reading 121 = .ok (.iload 10, 2) := by decide +kernel
theorem dX11_reading_123 : decode cX11_reading 123 = .ok (.iaload, 1) := by decide +kernel
theorem dX11_reading_124 : decode cX11_reading 124 = .ok (.invokestatic 201, 3) := by decide +kernel
theorem dX11_reading_127 : decode cX11_reading 127 = .ok (.laload, 1) := by decide +kernel
theorem dX11_reading_128 : decode cX11_reading 128 = .ok (.lstore 11, 2) := by decide +kernel
theorem dX11_reading_130 : decode cX11_reading 130 = .ok (.lload 4, 2) := by decide +kernel
theorem dX11_reading_132 : decode cX11_reading 132 = .ok (.lload 11, 2) := by decide +kernel
theorem dX11_reading_134 : decode cX11_reading 134 = .ok (.lcmp, 1) := by decide +kernel
theorem dX11_reading_135 : decode cX11_reading 135 = .ok (.ifCond .ge 10, 3) := by decide +kernel
theorem dX11_reading_138 : decode cX11_reading 138 = .ok (.iload 10, 2) := by decide +kernel
theorem dX11_reading_140 : decode cX11_reading 140 = .ok (.istore 9, 2) := by decide +kernel
theorem dX11_reading_142 : decode cX11_reading 142 = .ok (.goto 10, 3) := by decide +kernel
theorem dX11_reading_145 : decode cX11_reading 145 = .ok (.lload 4, 2) := by decide +kernel
theorem dX11_reading_147 : decode cX11_reading 147 = .ok (.lload 11, 2) := by decide +kernel
theorem dX11_reading_149 : decode cX11_reading 149 = .ok (.lsub, 1) := by decide +kernel
theorem dX11_reading_150 : decode cX11_reading 150 = .ok (.lstore 4, 2) := by decide +kernel
theorem dX11_reading_152 : decode cX11_reading 152 = .ok (.iinc 10 1, 3) := by decide +kernel
theorem dX11_reading_155 : decode cX11_reading 155 = .ok (.goto (-88), 3) := by decide +kernel
theorem dX11_reading_158 : decode cX11_reading 158 = .ok (.iload 8, 2) := by decide +kernel
theorem dX11_reading_160 : decode cX11_reading 160 = .ok (.iload_n 3, 1) := by decide +kernel
theorem dX11_reading_161 : decode cX11_reading 161 = .ok (.if_icmp .ne 6, 3) := by decide +kernel
theorem dX11_reading_164 : decode cX11_reading 164 = .ok (.iload 9, 2) := by decide +kernel
theorem dX11_reading_166 : decode cX11_reading 166 = .ok (.ireturn, 1) := by decide +kernel
theorem dX11_reading_167 : decode cX11_reading 167 = .ok (.iload 6, 2) := by decide +kernel
theorem dX11_reading_169 : decode cX11_reading 169 = .ok (.aload_n 0, 1) := by decide +kernel
theorem dX11_reading_170 : decode cX11_reading 170 = .ok (.getfield 13, 3) := by decide +kernel
theorem dX11_reading_173 : decode cX11_reading 173 = .ok (.iload 9, 2) := by decide +kernel
theorem dX11_reading_175 : decode cX11_reading 175 = .ok (.iaload, 1) := by decide +kernel
theorem dX11_reading_176 : decode cX11_reading 176 = .ok (.iadd, 1) := by decide +kernel
theorem dX11_reading_177 : decode cX11_reading 177 = .ok (.istore 6, 2) := by decide +kernel
theorem dX11_reading_179 : decode cX11_reading 179 = .ok (.aload_n 0, 1) := by decide +kernel
theorem dX11_reading_180 : decode cX11_reading 180 = .ok (.getfield 19, 3) := by decide +kernel
theorem dX11_reading_183 : decode cX11_reading 183 = .ok (.iload 9, 2) := by decide +kernel
theorem dX11_reading_185 : decode cX11_reading 185 = .ok (.iaload, 1) := by decide +kernel
theorem dX11_reading_186 : decode cX11_reading 186 = .ok (.istore 7, 2) := by decide +kernel
theorem dX11_reading_188 : decode cX11_reading 188 = .ok (.iinc 8 1, 3) := by decide +kernel
theorem dX11_reading_191 : decode cX11_reading 191 = .ok (.goto (-139), 3) := by decide +kernel
theorem dX11_reading_194 : decode cX11_reading 194 = .ok (.iconst (-1), 1) := by decide +kernel
theorem dX11_reading_195 : decode cX11_reading 195 = .ok (.ireturn, 1) := by decide +kernel
theorem dX11_best_0 : decode cX11_best 0 = .ok (.iload_n 1, 1) := by decide +kernel
theorem dX11_best_1 : decode cX11_best 1 = .ok (.i2l, 1) := by decide +kernel
theorem dX11_best_2 : decode cX11_best 2 = .ok (.lconst 0, 1) := by decide +kernel
theorem dX11_best_3 : decode cX11_best 3 = .ok (.ldc2_w 193, 3) := by decide +kernel
theorem dX11_best_6 : decode cX11_best 6 = .ok (.invokestatic 131, 3) := by decide +kernel
theorem dX11_best_9 : decode cX11_best 9 = .ok (.ifCond .ne 7, 3) := by decide +kernel
theorem dX11_best_12 : decode cX11_best 12 = .ok (.sipush (-1002), 3) := by decide +kernel
theorem dX11_best_15 : decode cX11_best 15 = .ok (.ireturn, 1) := by decide +kernel
theorem dX11_best_16 : decode cX11_best 16 = .ok (.aload_n 0, 1) := by decide +kernel
theorem dX11_best_17 : decode cX11_best 17 = .ok (.invokevirtual 219, 3) := by decide +kernel
theorem dX11_best_20 : decode cX11_best 20 = .ok (.iconst 0, 1) := by decide +kernel
theorem dX11_best_21 : decode cX11_best 21 = .ok (.iconst 4, 1) := by decide +kernel
theorem dX11_best_22 : decode cX11_best 22 = .ok (.invokestatic 201, 3) := by decide +kernel
theorem dX11_best_25 : decode cX11_best 25 = .ok (.istore_n 2, 1) := by decide +kernel
theorem dX11_best_26 : decode cX11_best 26 = .ok (.iload_n 1, 1) := by decide +kernel
theorem dX11_best_27 : decode cX11_best 27 = .ok (.tableswitch 66 0 2 #[25, 32, 59], 25) := by decide +kernel
theorem dX11_best_52 : decode cX11_best 52 = .ok (.aload_n 0, 1) := by decide +kernel
theorem dX11_best_53 : decode cX11_best 53 = .ok (.getfield 61, 3) := by decide +kernel
theorem dX11_best_56 : decode cX11_best 56 = .ok (.iload_n 2, 1) := by decide +kernel
theorem dX11_best_57 : decode cX11_best 57 = .ok (.iaload, 1) := by decide +kernel
theorem dX11_best_58 : decode cX11_best 58 = .ok (.ireturn, 1) := by decide +kernel
theorem dX11_best_59 : decode cX11_best 59 = .ok (.aload_n 0, 1) := by decide +kernel
theorem dX11_best_60 : decode cX11_best 60 = .ok (.getfield 64, 3) := by decide +kernel
theorem dX11_best_63 : decode cX11_best 63 = .ok (.iload_n 2, 1) := by decide +kernel
theorem dX11_best_64 : decode cX11_best 64 = .ok (.laload, 1) := by decide +kernel
theorem dX11_best_65 : decode cX11_best 65 = .ok (.ldc2_w 226, 3) := by decide +kernel
theorem dX11_best_68 : decode cX11_best 68 = .ok (.lcmp, 1) := by decide +kernel
theorem dX11_best_69 : decode cX11_best 69 = .ok (.ifCond .le 9, 3) := by decide +kernel
theorem dX11_best_72 : decode cX11_best 72 = .ok (.sipush (-1005), 3) := by decide +kernel
theorem dX11_best_75 : decode cX11_best 75 = .ok (.goto 10, 3) := by decide +kernel
theorem dX11_best_78 : decode cX11_best 78 = .ok (.aload_n 0, 1) := by decide +kernel
theorem dX11_best_79 : decode cX11_best 79 = .ok (.getfield 64, 3) := by decide +kernel
theorem dX11_best_82 : decode cX11_best 82 = .ok (.iload_n 2, 1) := by decide +kernel
theorem dX11_best_83 : decode cX11_best 83 = .ok (.laload, 1) := by decide +kernel
theorem dX11_best_84 : decode cX11_best 84 = .ok (.l2i, 1) := by decide +kernel
theorem dX11_best_85 : decode cX11_best 85 = .ok (.ireturn, 1) := by decide +kernel
theorem dX11_best_86 : decode cX11_best 86 = .ok (.aload_n 0, 1) := by decide +kernel
theorem dX11_best_87 : decode cX11_best 87 = .ok (.getfield 67, 3) := by decide +kernel
theorem dX11_best_90 : decode cX11_best 90 = .ok (.iload_n 2, 1) := by decide +kernel
theorem dX11_best_91 : decode cX11_best 91 = .ok (.iaload, 1) := by decide +kernel
theorem dX11_best_92 : decode cX11_best 92 = .ok (.ireturn, 1) := by decide +kernel
theorem dX11_best_93 : decode cX11_best 93 = .ok (.aload_n 0, 1) := by decide +kernel
theorem dX11_best_94 : decode cX11_best 94 = .ok (.getfield 70, 3) := by decide +kernel
theorem dX11_best_97 : decode cX11_best 97 = .ok (.iload_n 2, 1) := by decide +kernel
theorem dX11_best_98 : decode cX11_best 98 = .ok (.iaload, 1) := by decide +kernel
theorem dX11_best_99 : decode cX11_best 99 = .ok (.ireturn, 1) := by decide +kernel
theorem dX11_cheapest_0 : decode cX11_cheapest 0 = .ok (.aload_n 0, 1) := by decide +kernel
theorem dX11_cheapest_1 : decode cX11_cheapest 1 = .ok (.invokevirtual 219, 3) := by decide +kernel
theorem dX11_cheapest_4 : decode cX11_cheapest 4 = .ok (.iload_n 1, 1) := by decide +kernel
theorem dX11_cheapest_5 : decode cX11_cheapest 5 = .ok (.ifCond .lt 18, 3) := by decide +kernel
theorem dX11_cheapest_8 : decode cX11_cheapest 8 = .ok (.aload_n 0, 1) := by decide +kernel
theorem dX11_cheapest_9 : decode cX11_cheapest 9 = .ok (.getfield 57, 3) := by decide +kernel
theorem dX11_cheapest_12 : decode cX11_cheapest 12 = .ok (.iconst 0, 1) := by decide +kernel
theorem dX11_cheapest_13 : decode cX11_cheapest 13 = .ok (.iconst 4, 1) := by decide +kernel
theorem dX11_cheapest_14 : decode cX11_cheapest 14 = .ok (.invokestatic 201, 3) := by decide +kernel
theorem dX11_cheapest_17 : decode cX11_cheapest 17 = .ok (.laload, 1) := by decide +kernel
theorem dX11_cheapest_18 : decode cX11_cheapest 18 = .ok (.lconst 0, 1) := by decide +kernel
theorem dX11_cheapest_19 : decode cX11_cheapest 19 = .ok (.lcmp, 1) := by decide +kernel
theorem dX11_cheapest_20 : decode cX11_cheapest 20 = .ok (.ifCond .ne 5, 3) := by decide +kernel
theorem dX11_cheapest_23 : decode cX11_cheapest 23 = .ok (.iconst (-1), 1) := by decide +kernel
theorem dX11_cheapest_24 : decode cX11_cheapest 24 = .ok (.ireturn, 1) := by decide +kernel
theorem dX11_cheapest_25 : decode cX11_cheapest 25 = .ok (.iconst 0, 1) := by decide +kernel
theorem dX11_cheapest_26 : decode cX11_cheapest 26 = .ok (.istore_n 2, 1) := by decide +kernel
theorem dX11_cheapest_27 : decode cX11_cheapest 27 = .ok (.iconst 4, 1) := by decide +kernel
theorem dX11_cheapest_28 : decode cX11_cheapest 28 = .ok (.istore_n 3, 1) := by decide +kernel
theorem dX11_cheapest_29 : decode cX11_cheapest 29 = .ok (.iconst 0, 1) := by decide +kernel
theorem dX11_cheapest_30 : decode cX11_cheapest 30 = .ok (.istore 4, 2) := by decide +kernel
theorem dX11_cheapest_32 : decode cX11_cheapest 32 = .ok (.iload_n 2, 1) := by decide +kernel
theorem dX11_cheapest_33 : decode cX11_cheapest 33 = .ok (.aload_n 0, 1) := by decide +kernel
theorem dX11_cheapest_34 : decode cX11_cheapest 34 = .ok (.getfield 141, 3) := by decide +kernel
theorem dX11_cheapest_37 : decode cX11_cheapest 37 = .ok (.if_icmp .ge 163, 3) := by decide +kernel
theorem dX11_cheapest_40 : decode cX11_cheapest 40 = .ok (.iconst (-1), 1) := by decide +kernel
theorem dX11_cheapest_41 : decode cX11_cheapest 41 = .ok (.istore 5, 2) := by decide +kernel
theorem dX11_cheapest_43 : decode cX11_cheapest 43 = .ok (.iconst 0, 1) := by decide +kernel
theorem dX11_cheapest_44 : decode cX11_cheapest 44 = .ok (.istore 6, 2) := by decide +kernel
theorem dX11_cheapest_46 : decode cX11_cheapest 46 = .ok (.iload 6, 2) := by decide +kernel
theorem dX11_cheapest_48 : decode cX11_cheapest 48 = .ok (.aload_n 0, 1) := by decide +kernel
theorem dX11_cheapest_49 : decode cX11_cheapest 49 = .ok (.getfield 135, 3) := by decide +kernel
theorem dX11_cheapest_52 : decode cX11_cheapest 52 = .ok (.if_icmp .ge 115, 3) := by decide +kernel
theorem dX11_cheapest_55 : decode cX11_cheapest 55 = .ok (.iload 5, 2) := by decide +kernel
theorem dX11_cheapest_57 : decode cX11_cheapest 57 = .ok (.ifCond .ge 110, 3) := by decide +kernel
theorem dX11_cheapest_60 : decode cX11_cheapest 60 = .ok (.iload_n 2, 1) := by decide +kernel
theorem dX11_cheapest_61 : decode cX11_cheapest 61 = .ok (.aload_n 0, 1) := by decide +kernel
theorem dX11_cheapest_62 : decode cX11_cheapest 62 = .ok (.getfield 13, 3) := by decide +kernel
theorem dX11_cheapest_65 : decode cX11_cheapest 65 = .ok (.iload 6, 2) := by decide +kernel
theorem dX11_cheapest_67 : decode cX11_cheapest 67 = .ok (.iaload, 1) := by decide +kernel
theorem dX11_cheapest_68 : decode cX11_cheapest 68 = .ok (.iadd, 1) := by decide +kernel
theorem dX11_cheapest_69 : decode cX11_cheapest 69 = .ok (.aload_n 0, 1) := by decide +kernel
theorem dX11_cheapest_70 : decode cX11_cheapest 70 = .ok (.getfield 19, 3) := by decide +kernel
theorem dX11_cheapest_73 : decode cX11_cheapest 73 = .ok (.iload 6, 2) := by decide +kernel
theorem dX11_cheapest_75 : decode cX11_cheapest 75 = .ok (.iaload, 1) := by decide +kernel
theorem dX11_cheapest_76 : decode cX11_cheapest 76 = .ok (.invokestatic 201, 3) := by decide +kernel
theorem dX11_cheapest_79 : decode cX11_cheapest 79 = .ok (.istore 7, 2) := by decide +kernel
theorem dX11_cheapest_81 : decode cX11_cheapest 81 = .ok (.aload_n 0, 1) := by decide +kernel
theorem dX11_cheapest_82 : decode cX11_cheapest 82 = .ok (.iload_n 3, 1) := by decide +kernel
theorem dX11_cheapest_83 : decode cX11_cheapest 83 = .ok (.iload 6, 2) := by decide +kernel
theorem dX11_cheapest_85 : decode cX11_cheapest 85 = .ok (.invokevirtual 209, 3) := by decide +kernel
theorem dX11_cheapest_88 : decode cX11_cheapest 88 = .ok (.ifCond .eq 57, 3) := by decide +kernel
theorem dX11_cheapest_91 : decode cX11_cheapest 91 = .ok (.aload_n 0, 1) := by decide +kernel
theorem dX11_cheapest_92 : decode cX11_cheapest 92 = .ok (.iload 6, 2) := by decide +kernel
theorem dX11_cheapest_94 : decode cX11_cheapest 94 = .ok (.iload_n 2, 1) := by decide +kernel
theorem dX11_cheapest_95 : decode cX11_cheapest 95 = .ok (.invokevirtual 212, 3) := by decide +kernel
theorem dX11_cheapest_98 : decode cX11_cheapest 98 = .ok (.ifCond .eq 47, 3) := by decide +kernel
theorem dX11_cheapest_101 : decode cX11_cheapest 101 = .ok (.aload_n 0, 1) := by decide +kernel
theorem dX11_cheapest_102 : decode cX11_cheapest 102 = .ok (.getfield 57, 3) := by decide +kernel
theorem dX11_cheapest_105 : decode cX11_cheapest 105 = .ok (.iload 7, 2) := by decide +kernel
theorem dX11_cheapest_107 : decode cX11_cheapest 107 = .ok (.laload, 1) := by decide +kernel
theorem dX11_cheapest_108 : decode cX11_cheapest 108 = .ok (.lconst 0, 1) := by decide +kernel
theorem dX11_cheapest_109 : decode cX11_cheapest 109 = .ok (.lcmp, 1) := by decide +kernel
theorem dX11_cheapest_110 : decode cX11_cheapest 110 = .ok (.ifCond .le 35, 3) := by decide +kernel
theorem dX11_cheapest_113 : decode cX11_cheapest 113 = .ok (.aload_n 0, 1) := by decide +kernel
theorem dX11_cheapest_114 : decode cX11_cheapest 114 = .ok (.getfield 16, 3) := by decide +kernel
theorem dX11_cheapest_117 : decode cX11_cheapest 117 = .ok (.iload 6, 2) := by decide +kernel
theorem dX11_cheapest_119 : decode cX11_cheapest 119 = .ok (.iaload, 1) := by decide +kernel
theorem dX11_cheapest_120 : decode cX11_cheapest 120 = .ok (.aload_n 0, 1) := by decide +kernel
theorem dX11_cheapest_121 : decode cX11_cheapest 121 = .ok (.getfield 61, 3) := by decide +kernel
theorem dX11_cheapest_124 : decode cX11_cheapest 124 = .ok (.iload 7, 2) := by decide +kernel
theorem dX11_cheapest_126 : decode cX11_cheapest 126 = .ok (.iaload, 1) := by decide +kernel
theorem dX11_cheapest_127 : decode cX11_cheapest 127 = .ok (.iadd, 1) := by decide +kernel
theorem dX11_cheapest_128 : decode cX11_cheapest 128 = .ok (.aload_n 0, 1) := by decide +kernel
theorem dX11_cheapest_129 : decode cX11_cheapest 129 = .ok (.getfield 61, 3) := by decide +kernel
theorem dX11_cheapest_132 : decode cX11_cheapest 132 = .ok (.iload_n 2, 1) := by decide +kernel
theorem dX11_cheapest_133 : decode cX11_cheapest 133 = .ok (.iload_n 3, 1) := by decide +kernel
theorem dX11_cheapest_134 : decode cX11_cheapest 134 = .ok (.invokestatic 201, 3) := by decide +kernel
theorem dX11_cheapest_137 : decode cX11_cheapest 137 = .ok (.iaload, 1) := by decide +kernel
theorem dX11_cheapest_138 : decode cX11_cheapest 138 = .ok (.if_icmp .ne 7, 3) := by decide +kernel
theorem dX11_cheapest_141 : decode cX11_cheapest 141 = .ok (.iconst 1, 1) := by decide +kernel
theorem dX11_cheapest_142 : decode cX11_cheapest 142 = .ok (.goto 4, 3) := by decide +kernel
theorem dX11_cheapest_145 : decode cX11_cheapest 145 = .ok (.iconst 0, 1) := by decide +kernel
theorem dX11_cheapest_146 : decode cX11_cheapest 146 = .ok (.istore 8, 2) := by decide +kernel
theorem dX11_cheapest_148 : decode cX11_cheapest 148 = .ok (.iload 8, 2) := by decide +kernel
theorem dX11_cheapest_150 : decode cX11_cheapest 150 = .ok (.ifCond .eq 8, 3) := by decide +kernel
theorem dX11_cheapest_153 : decode cX11_cheapest 153 = .ok (.iload 6, 2) := by decide +kernel
theorem dX11_cheapest_155 : decode cX11_cheapest 155 = .ok (.goto 4, 3) := by decide +kernel
theorem dX11_cheapest_158 : decode cX11_cheapest 158 = .ok (.iconst (-1), 1) := by decide +kernel
theorem dX11_cheapest_159 : decode cX11_cheapest 159 = .ok (.istore 5, 2) := by decide +kernel
theorem dX11_cheapest_161 : decode cX11_cheapest 161 = .ok (.iinc 6 1, 3) := by decide +kernel
theorem dX11_cheapest_164 : decode cX11_cheapest 164 = .ok (.goto (-118), 3) := by decide +kernel
theorem dX11_cheapest_167 : decode cX11_cheapest 167 = .ok (.iload 4, 2) := by decide +kernel
theorem dX11_cheapest_169 : decode cX11_cheapest 169 = .ok (.iload_n 1, 1) := by decide +kernel
theorem dX11_cheapest_170 : decode cX11_cheapest 170 = .ok (.if_icmp .ne 6, 3) := by decide +kernel
theorem dX11_cheapest_173 : decode cX11_cheapest 173 = .ok (.iload 5, 2) := by decide +kernel
theorem dX11_cheapest_175 : decode cX11_cheapest 175 = .ok (.ireturn, 1) := by decide +kernel
theorem dX11_cheapest_176 : decode cX11_cheapest 176 = .ok (.iload_n 2, 1) := by decide +kernel
theorem dX11_cheapest_177 : decode cX11_cheapest 177 = .ok (.aload_n 0, 1) := by decide +kernel
theorem dX11_cheapest_178 : decode cX11_cheapest 178 = .ok (.getfield 13, 3) := by decide +kernel
theorem dX11_cheapest_181 : decode cX11_cheapest 181 = .ok (.iload 5, 2) := by decide +kernel
theorem dX11_cheapest_183 : decode cX11_cheapest 183 = .ok (.iaload, 1) := by decide +kernel
theorem dX11_cheapest_184 : decode cX11_cheapest 184 = .ok (.iadd, 1) := by decide +kernel
theorem dX11_cheapest_185 : decode cX11_cheapest 185 = .ok (.istore_n 2, 1) := by decide +kernel
theorem dX11_cheapest_186 : decode cX11_cheapest 186 = .ok (.aload_n 0, 1) := by decide +kernel
theorem dX11_cheapest_187 : decode cX11_cheapest 187 = .ok (.getfield 19, 3) := by decide +kernel
theorem dX11_cheapest_190 : decode cX11_cheapest 190 = .ok (.iload 5, 2) := by decide +kernel
theorem dX11_cheapest_192 : decode cX11_cheapest 192 = .ok (.iaload, 1) := by decide +kernel
theorem dX11_cheapest_193 : decode cX11_cheapest 193 = .ok (.istore_n 3, 1) := by decide +kernel
theorem dX11_cheapest_194 : decode cX11_cheapest 194 = .ok (.iinc 4 1, 3) := by decide +kernel
theorem dX11_cheapest_197 : decode cX11_cheapest 197 = .ok (.goto (-165), 3) := by decide +kernel
theorem dX11_cheapest_200 : decode cX11_cheapest 200 = .ok (.iconst (-1), 1) := by decide +kernel
theorem dX11_cheapest_201 : decode cX11_cheapest 201 = .ok (.ireturn, 1) := by decide +kernel
theorem dX11_end_0 : decode cX11_end 0 = .ok (.iload_n 1, 1) := by decide +kernel
theorem dX11_end_1 : decode cX11_end 1 = .ok (.i2l, 1) := by decide +kernel
theorem dX11_end_2 : decode cX11_end 2 = .ok (.lconst 0, 1) := by decide +kernel
theorem dX11_end_3 : decode cX11_end 3 = .ok (.aload_n 0, 1) := by decide +kernel
theorem dX11_end_4 : decode cX11_end 4 = .ok (.getfield 141, 3) := by decide +kernel
theorem dX11_end_7 : decode cX11_end 7 = .ok (.i2l, 1) := by decide +kernel
theorem dX11_end_8 : decode cX11_end 8 = .ok (.invokestatic 131, 3) := by decide +kernel
theorem dX11_end_11 : decode cX11_end 11 = .ok (.ifCond .ne 7, 3) := by decide +kernel
theorem dX11_end_14 : decode cX11_end 14 = .ok (.sipush (-1002), 3) := by decide +kernel
theorem dX11_end_17 : decode cX11_end 17 = .ok (.ireturn, 1) := by decide +kernel
theorem dX11_end_18 : decode cX11_end 18 = .ok (.aload_n 0, 1) := by decide +kernel
theorem dX11_end_19 : decode cX11_end 19 = .ok (.invokevirtual 219, 3) := by decide +kernel
theorem dX11_end_22 : decode cX11_end 22 = .ok (.iconst 0, 1) := by decide +kernel
theorem dX11_end_23 : decode cX11_end 23 = .ok (.istore_n 2, 1) := by decide +kernel
theorem dX11_end_24 : decode cX11_end 24 = .ok (.iload_n 2, 1) := by decide +kernel
theorem dX11_end_25 : decode cX11_end 25 = .ok (.sipush 245, 3) := by decide +kernel
theorem dX11_end_28 : decode cX11_end 28 = .ok (.if_icmp .ge 29, 3) := by decide +kernel
theorem dX11_end_31 : decode cX11_end 31 = .ok (.aload_n 0, 1) := by decide +kernel
theorem dX11_end_32 : decode cX11_end 32 = .ok (.getfield 73, 3) := by decide +kernel
theorem dX11_end_35 : decode cX11_end 35 = .ok (.iload_n 2, 1) := by decide +kernel
theorem dX11_end_36 : decode cX11_end 36 = .ok (.iload_n 2, 1) := by decide +kernel
theorem dX11_end_37 : decode cX11_end 37 = .ok (.iconst 0, 1) := by decide +kernel
theorem dX11_end_38 : decode cX11_end 38 = .ok (.iconst 4, 1) := by decide +kernel
theorem dX11_end_39 : decode cX11_end 39 = .ok (.invokestatic 201, 3) := by decide +kernel
theorem dX11_end_42 : decode cX11_end 42 = .ok (.if_icmp .ne 7, 3) := by decide +kernel
theorem dX11_end_45 : decode cX11_end 45 = .ok (.iconst 1, 1) := by decide +kernel
theorem dX11_end_46 : decode cX11_end 46 = .ok (.goto 4, 3) := by decide +kernel
theorem dX11_end_49 : decode cX11_end 49 = .ok (.iconst 0, 1) := by decide +kernel
theorem dX11_end_50 : decode cX11_end 50 = .ok (.bastore, 1) := by decide +kernel
theorem dX11_end_51 : decode cX11_end 51 = .ok (.iinc 2 1, 3) := by decide +kernel
theorem dX11_end_54 : decode cX11_end 54 = .ok (.goto (-30), 3) := by decide +kernel
theorem dX11_end_57 : decode cX11_end 57 = .ok (.iconst 0, 1) := by decide +kernel
theorem dX11_end_58 : decode cX11_end 58 = .ok (.istore_n 2, 1) := by decide +kernel
theorem dX11_end_59 : decode cX11_end 59 = .ok (.iconst 0, 1) := by decide +kernel
theorem dX11_end_60 : decode cX11_end 60 = .ok (.istore_n 3, 1) := by decide +kernel
theorem dX11_end_61 : decode cX11_end 61 = .ok (.iload_n 3, 1) := by decide +kernel
theorem dX11_end_62 : decode cX11_end 62 = .ok (.aload_n 0, 1) := by decide +kernel
theorem dX11_end_63 : decode cX11_end 63 = .ok (.getfield 141, 3) := by decide +kernel
theorem dX11_end_66 : decode cX11_end 66 = .ok (.if_icmp .ge 159, 3) := by decide +kernel
theorem dX11_end_69 : decode cX11_end 69 = .ok (.iconst 0, 1) := by decide +kernel
theorem dX11_end_70 : decode cX11_end 70 = .ok (.istore 4, 2) := by decide +kernel
theorem dX11_end_72 : decode cX11_end 72 = .ok (.iload 4, 2) := by decide +kernel
theorem dX11_end_74 : decode cX11_end 74 = .ok (.iconst 4, 1) := by decide +kernel
theorem dX11_end_75 : decode cX11_end 75 = .ok (.if_icmp .gt 144, 3) := by decide +kernel
theorem dX11_end_78 : decode cX11_end 78 = .ok (.iconst 0, 1) := by decide +kernel
theorem dX11_end_79 : decode cX11_end 79 = .ok (.istore 5, 2) := by decide +kernel
theorem dX11_end_81 : decode cX11_end 81 = .ok (.iload 5, 2) := by decide +kernel
theorem dX11_end_83 : decode cX11_end 83 = .ok (.aload_n 0, 1) := by decide +kernel
theorem dX11_end_84 : decode cX11_end 84 = .ok (.getfield 135, 3) := by decide +kernel
theorem dX11_end_87 : decode cX11_end 87 = .ok (.if_icmp .ge 126, 3) := by decide +kernel
theorem dX11_end_90 : decode cX11_end 90 = .ok (.aload_n 0, 1) := by decide +kernel
theorem dX11_end_91 : decode cX11_end 91 = .ok (.getfield 73, 3) := by decide +kernel
theorem dX11_end_94 : decode cX11_end 94 = .ok (.iload_n 3, 1) := by decide +kernel
theorem dX11_end_95 : decode cX11_end 95 = .ok (.iload 4, 2) := by decide +kernel
theorem dX11_end_97 : decode cX11_end 97 = .ok (.invokestatic 201, 3) := by decide +kernel
theorem dX11_end_100 : decode cX11_end 100 = .ok (.baload, 1) := by decide +kernel
theorem dX11_end_101 : decode cX11_end 101 = .ok (.ifCond .eq 112, 3) := by decide +kernel
theorem dX11_end_104 : decode cX11_end 104 = .ok (.aload_n 0, 1) := by decide +kernel
theorem dX11_end_105 : decode cX11_end 105 = .ok (.iload 4, 2) := by decide +kernel
theorem dX11_end_107 : decode cX11_end 107 = .ok (.iload 5, 2) := by decide +kernel
theorem dX11_end_109 : decode cX11_end 109 = .ok (.invokevirtual 209, 3) := by decide +kernel
theorem dX11_end_112 : decode cX11_end 112 = .ok (.ifCond .eq 95, 3) := by decide +kernel
theorem dX11_end_115 : decode cX11_end 115 = .ok (.aload_n 0, 1) := by decide +kernel
theorem dX11_end_116 : decode cX11_end 116 = .ok (.iload 5, 2) := by decide +kernel
theorem dX11_end_118 : decode cX11_end 118 = .ok (.iload_n 3, 1) := by decide +kernel
theorem dX11_end_119 : decode cX11_end 119 = .ok (.invokevirtual 212, 3) := by decide +kernel
theorem dX11_end_122 : decode cX11_end 122 = .ok (.ifCond .eq 85, 3) := by decide +kernel
theorem dX11_end_125 : decode cX11_end 125 = .ok (.aload_n 0, 1) := by decide +kernel
theorem dX11_end_126 : decode cX11_end 126 = .ok (.getfield 57, 3) := by decide +kernel
theorem dX11_end_129 : decode cX11_end 129 = .ok (.iload_n 3, 1) := by decide +kernel
theorem dX11_end_130 : decode cX11_end 130 = .ok (.aload_n 0, 1) := by decide +kernel
theorem dX11_end_131 : decode cX11_end 131 = .ok (.getfield 13, 3) := by decide +kernel
theorem dX11_end_134 : decode cX11_end 134 = .ok (.iload 5, 2) := by decide +kernel
theorem dX11_end_136 : decode cX11_end 136 = .ok (.iaload, 1) := by decide +kernel
theorem dX11_end_137 : decode cX11_end 137 = .ok (.iadd, 1) := by decide +kernel
theorem dX11_end_138 : decode cX11_end 138 = .ok (.aload_n 0, 1) := by decide +kernel
theorem dX11_end_139 : decode cX11_end 139 = .ok (.getfield 19, 3) := by decide +kernel
theorem dX11_end_142 : decode cX11_end 142 = .ok (.iload 5, 2) := by decide +kernel
theorem dX11_end_144 : decode cX11_end 144 = .ok (.iaload, 1) := by decide +kernel
theorem dX11_end_145 : decode cX11_end 145 = .ok (.invokestatic 201, 3) := by decide +kernel
theorem dX11_end_148 : decode cX11_end 148 = .ok (.laload, 1) := by decide +kernel
theorem dX11_end_149 : decode cX11_end 149 = .ok (.lconst 0, 1) := by decide +kernel
theorem dX11_end_150 : decode cX11_end 150 = .ok (.lcmp, 1) := by decide +kernel
theorem dX11_end_151 : decode cX11_end 151 = .ok (.ifCond .le 56, 3) := by decide +kernel
theorem dX11_end_154 : decode cX11_end 154 = .ok (.aload_n 0, 1) := by decide +kernel
theorem dX11_end_155 : decode cX11_end 155 = .ok (.getfield 73, 3) := by decide +kernel
theorem dX11_end_158 : decode cX11_end 158 = .ok (.iload_n 3, 1) := by decide +kernel
theorem dX11_end_159 : decode cX11_end 159 = .ok (.aload_n 0, 1) := by decide +kernel
theorem dX11_end_160 : decode cX11_end 160 = .ok (.getfield 13, 3) := by decide +kernel
theorem dX11_end_163 : decode cX11_end 163 = .ok (.iload 5, 2) := by decide +kernel
theorem dX11_end_165 : decode cX11_end 165 = .ok (.iaload, 1) := by decide +kernel
theorem dX11_end_166 : decode cX11_end 166 = .ok (.iadd, 1) := by decide +kernel
theorem dX11_end_167 : decode cX11_end 167 = .ok (.aload_n 0, 1) := by decide +kernel
theorem dX11_end_168 : decode cX11_end 168 = .ok (.getfield 19, 3) := by decide +kernel
theorem dX11_end_171 : decode cX11_end 171 = .ok (.iload 5, 2) := by decide +kernel
theorem dX11_end_173 : decode cX11_end 173 = .ok (.iaload, 1) := by decide +kernel
theorem dX11_end_174 : decode cX11_end 174 = .ok (.invokestatic 201, 3) := by decide +kernel
theorem dX11_end_177 : decode cX11_end 177 = .ok (.iconst 1, 1) := by decide +kernel
theorem dX11_end_178 : decode cX11_end 178 = .ok (.bastore, 1) := by decide +kernel
theorem dX11_end_179 : decode cX11_end 179 = .ok (.iload_n 2, 1) := by decide +kernel
theorem dX11_end_180 : decode cX11_end 180 = .ok (.ifCond .ne 21, 3) := by decide +kernel
theorem dX11_end_183 : decode cX11_end 183 = .ok (.iload_n 3, 1) := by decide +kernel
theorem dX11_end_184 : decode cX11_end 184 = .ok (.iload_n 1, 1) := by decide +kernel
theorem dX11_end_185 : decode cX11_end 185 = .ok (.if_icmp .ge 20, 3) := by decide +kernel
theorem dX11_end_188 : decode cX11_end 188 = .ok (.iload_n 1, 1) := by decide +kernel
theorem dX11_end_189 : decode cX11_end 189 = .ok (.iload_n 3, 1) := by decide +kernel
theorem dX11_end_190 : decode cX11_end 190 = .ok (.aload_n 0, 1) := by decide +kernel
theorem dX11_end_191 : decode cX11_end 191 = .ok (.getfield 13, 3) := by decide +kernel
theorem dX11_end_194 : decode cX11_end 194 = .ok (.iload 5, 2) := by decide +kernel
theorem dX11_end_196 : decode cX11_end 196 = .ok (.iaload, 1) := by decide +kernel
theorem dX11_end_197 : decode cX11_end 197 = .ok (.iadd, 1) := by decide +kernel
theorem dX11_end_198 : decode cX11_end 198 = .ok (.if_icmp .ge 7, 3) := by decide +kernel
theorem dX11_end_201 : decode cX11_end 201 = .ok (.iconst 1, 1) := by decide +kernel
theorem dX11_end_202 : decode cX11_end 202 = .ok (.goto 4, 3) := by decide +kernel
theorem dX11_end_205 : decode cX11_end 205 = .ok (.iconst 0, 1) := by decide +kernel
theorem dX11_end_206 : decode cX11_end 206 = .ok (.istore_n 2, 1) := by decide +kernel
theorem dX11_end_207 : decode cX11_end 207 = .ok (.iinc 5 1, 3) := by decide +kernel
theorem dX11_end_210 : decode cX11_end 210 = .ok (.goto (-129), 3) := by decide +kernel
theorem dX11_end_213 : decode cX11_end 213 = .ok (.iinc 4 1, 3) := by decide +kernel
theorem dX11_end_216 : decode cX11_end 216 = .ok (.goto (-144), 3) := by decide +kernel
theorem dX11_end_219 : decode cX11_end 219 = .ok (.iinc 3 1, 3) := by decide +kernel
theorem dX11_end_222 : decode cX11_end 222 = .ok (.goto (-161), 3) := by decide +kernel
theorem dX11_end_225 : decode cX11_end 225 = .ok (.iconst 0, 1) := by decide +kernel
theorem dX11_end_226 : decode cX11_end 226 = .ok (.istore_n 3, 1) := by decide +kernel
theorem dX11_end_227 : decode cX11_end 227 = .ok (.iconst 0, 1) := by decide +kernel
theorem dX11_end_228 : decode cX11_end 228 = .ok (.istore 4, 2) := by decide +kernel
theorem dX11_end_230 : decode cX11_end 230 = .ok (.iload 4, 2) := by decide +kernel
theorem dX11_end_232 : decode cX11_end 232 = .ok (.iconst 4, 1) := by decide +kernel
theorem dX11_end_233 : decode cX11_end 233 = .ok (.if_icmp .gt 49, 3) := by decide +kernel
theorem dX11_end_236 : decode cX11_end 236 = .ok (.iload_n 3, 1) := by decide +kernel
theorem dX11_end_237 : decode cX11_end 237 = .ok (.ifCond .ne 33, 3) := by decide +kernel
theorem dX11_end_240 : decode cX11_end 240 = .ok (.aload_n 0, 1) := by decide +kernel
theorem dX11_end_241 : decode cX11_end 241 = .ok (.getfield 73, 3) := by decide +kernel
theorem dX11_end_244 : decode cX11_end 244 = .ok (.iload_n 1, 1) := by decide +kernel
theorem dX11_end_245 : decode cX11_end 245 = .ok (.iload 4, 2) := by decide +kernel
theorem dX11_end_247 : decode cX11_end 247 = .ok (.invokestatic 201, 3) := by decide +kernel
theorem dX11_end_250 : decode cX11_end 250 = .ok (.baload, 1) := by decide +kernel
theorem dX11_end_251 : decode cX11_end 251 = .ok (.ifCond .eq 23, 3) := by decide +kernel
theorem dX11_end_254 : decode cX11_end 254 = .ok (.aload_n 0, 1) := by decide +kernel
theorem dX11_end_255 : decode cX11_end 255 = .ok (.getfield 57, 3) := by decide +kernel
theorem dX11_end_258 : decode cX11_end 258 = .ok (.iload_n 1, 1) := by decide +kernel
theorem dX11_end_259 : decode cX11_end 259 = .ok (.iload 4, 2) := by decide +kernel
theorem dX11_end_261 : decode cX11_end 261 = .ok (.invokestatic 201, 3) := by decide +kernel
theorem dX11_end_264 : decode cX11_end 264 = .ok (.laload, 1) := by decide +kernel
theorem dX11_end_265 : decode cX11_end 265 = .ok (.lconst 0, 1) := by decide +kernel
theorem dX11_end_266 : decode cX11_end 266 = .ok (.lcmp, 1) := by decide +kernel
theorem dX11_end_267 : decode cX11_end 267 = .ok (.ifCond .le 7, 3) := by decide +kernel
theorem dX11_end_270 : decode cX11_end 270 = .ok (.iconst 1, 1) := by decide +kernel
theorem dX11_end_271 : decode cX11_end 271 = .ok (.goto 4, 3) := by decide +kernel
theorem dX11_end_274 : decode cX11_end 274 = .ok (.iconst 0, 1) := by decide +kernel
theorem dX11_end_275 : decode cX11_end 275 = .ok (.istore_n 3, 1) := by decide +kernel
theorem dX11_end_276 : decode cX11_end 276 = .ok (.iinc 4 1, 3) := by decide +kernel
theorem dX11_end_279 : decode cX11_end 279 = .ok (.goto (-49), 3) := by decide +kernel
theorem dX11_end_282 : decode cX11_end 282 = .ok (.iload_n 3, 1) := by decide +kernel
theorem dX11_end_283 : decode cX11_end 283 = .ok (.ifCond .ne 7, 3) := by decide +kernel
theorem dX11_end_286 : decode cX11_end 286 = .ok (.iconst 0, 1) := by decide +kernel
theorem dX11_end_287 : decode cX11_end 287 = .ok (.goto 12, 3) := by decide +kernel
theorem dX11_end_290 : decode cX11_end 290 = .ok (.iload_n 2, 1) := by decide +kernel
theorem dX11_end_291 : decode cX11_end 291 = .ok (.ifCond .eq 7, 3) := by decide +kernel
theorem dX11_end_294 : decode cX11_end 294 = .ok (.iconst 1, 1) := by decide +kernel
theorem dX11_end_295 : decode cX11_end 295 = .ok (.goto 4, 3) := by decide +kernel
theorem dX11_end_298 : decode cX11_end 298 = .ok (.iconst 2, 1) := by decide +kernel
theorem dX11_end_299 : decode cX11_end 299 = .ok (.ireturn, 1) := by decide +kernel
theorem dX11_letterOf_0 : decode cX11_letterOf 0 = .ok (.iload_n 3, 1) := by decide +kernel
theorem dX11_letterOf_1 : decode cX11_letterOf 1 = .ok (.aload_n 0, 1) := by decide +kernel
theorem dX11_letterOf_2 : decode cX11_letterOf 2 = .ok (.getfield 13, 3) := by decide +kernel
theorem dX11_letterOf_5 : decode cX11_letterOf 5 = .ok (.iload_n 1, 1) := by decide +kernel
theorem dX11_letterOf_6 : decode cX11_letterOf 6 = .ok (.iaload, 1) := by decide +kernel
theorem dX11_letterOf_7 : decode cX11_letterOf 7 = .ok (.if_icmp .ge 17, 3) := by decide +kernel
theorem dX11_letterOf_10 : decode cX11_letterOf 10 = .ok (.aload_n 0, 1) := by decide +kernel
theorem dX11_letterOf_11 : decode cX11_letterOf 11 = .ok (.getfield 7, 3) := by decide +kernel
theorem dX11_letterOf_14 : decode cX11_letterOf 14 = .ok (.bipush 8, 2) := by decide +kernel
theorem dX11_letterOf_16 : decode cX11_letterOf 16 = .ok (.iload_n 1, 1) := by decide +kernel
theorem dX11_letterOf_17 : decode cX11_letterOf 17 = .ok (.imul, 1) := by decide +kernel
theorem dX11_letterOf_18 : decode cX11_letterOf 18 = .ok (.iload_n 3, 1) := by decide +kernel
theorem dX11_letterOf_19 : decode cX11_letterOf 19 = .ok (.iadd, 1) := by decide +kernel
theorem dX11_letterOf_20 : decode cX11_letterOf 20 = .ok (.iaload, 1) := by decide +kernel
theorem dX11_letterOf_21 : decode cX11_letterOf 21 = .ok (.goto 21, 3) := by decide +kernel
theorem dX11_letterOf_24 : decode cX11_letterOf 24 = .ok (.aload_n 0, 1) := by decide +kernel
theorem dX11_letterOf_25 : decode cX11_letterOf 25 = .ok (.getfield 7, 3) := by decide +kernel
theorem dX11_letterOf_28 : decode cX11_letterOf 28 = .ok (.bipush 8, 2) := by decide +kernel
theorem dX11_letterOf_30 : decode cX11_letterOf 30 = .ok (.iload_n 2, 1) := by decide +kernel
theorem dX11_letterOf_31 : decode cX11_letterOf 31 = .ok (.imul, 1) := by decide +kernel
theorem dX11_letterOf_32 : decode cX11_letterOf 32 = .ok (.iload_n 3, 1) := by decide +kernel
theorem dX11_letterOf_33 : decode cX11_letterOf 33 = .ok (.iadd, 1) := by decide +kernel
theorem dX11_letterOf_34 : decode cX11_letterOf 34 = .ok (.aload_n 0, 1) := by decide +kernel
theorem dX11_letterOf_35 : decode cX11_letterOf 35 = .ok (.getfield 13, 3) := by decide +kernel
theorem dX11_letterOf_38 : decode cX11_letterOf 38 = .ok (.iload_n 1, 1) := by decide +kernel
theorem dX11_letterOf_39 : decode cX11_letterOf 39 = .ok (.iaload, 1) := by decide +kernel
theorem dX11_letterOf_40 : decode cX11_letterOf 40 = .ok (.isub, 1) := by decide +kernel
theorem dX11_letterOf_41 : decode cX11_letterOf 41 = .ok (.iaload, 1) := by decide +kernel
theorem dX11_letterOf_42 : decode cX11_letterOf 42 = .ok (.ireturn, 1) := by decide +kernel
theorem dX11_comesIn_0 : decode cX11_comesIn 0 = .ok (.iload 4, 2) := by decide +kernel
theorem dX11_comesIn_2 : decode cX11_comesIn 2 = .ok (.aload_n 0, 1) := by decide +kernel
theorem dX11_comesIn_3 : decode cX11_comesIn 3 = .ok (.getfield 13, 3) := by decide +kernel
theorem dX11_comesIn_6 : decode cX11_comesIn 6 = .ok (.iload_n 1, 1) := by decide +kernel
theorem dX11_comesIn_7 : decode cX11_comesIn 7 = .ok (.iaload, 1) := by decide +kernel
theorem dX11_comesIn_8 : decode cX11_comesIn 8 = .ok (.iadd, 1) := by decide +kernel
theorem dX11_comesIn_9 : decode cX11_comesIn 9 = .ok (.aload_n 0, 1) := by decide +kernel
theorem dX11_comesIn_10 : decode cX11_comesIn 10 = .ok (.getfield 13, 3) := by decide +kernel
theorem dX11_comesIn_13 : decode cX11_comesIn 13 = .ok (.iload_n 2, 1) := by decide +kernel
theorem dX11_comesIn_14 : decode cX11_comesIn 14 = .ok (.iaload, 1) := by decide +kernel
theorem dX11_comesIn_15 : decode cX11_comesIn 15 = .ok (.aload_n 0, 1) := by decide +kernel
theorem dX11_comesIn_16 : decode cX11_comesIn 16 = .ok (.getfield 13, 3) := by decide +kernel
theorem dX11_comesIn_19 : decode cX11_comesIn 19 = .ok (.iload_n 3, 1) := by decide +kernel
theorem dX11_comesIn_20 : decode cX11_comesIn 20 = .ok (.iaload, 1) := by decide +kernel
theorem dX11_comesIn_21 : decode cX11_comesIn 21 = .ok (.iadd, 1) := by decide +kernel
theorem dX11_comesIn_22 : decode cX11_comesIn 22 = .ok (.if_icmp .gt 7, 3) := by decide +kernel
theorem dX11_comesIn_25 : decode cX11_comesIn 25 = .ok (.iconst 1, 1) := by decide +kernel
theorem dX11_comesIn_26 : decode cX11_comesIn 26 = .ok (.goto 4, 3) := by decide +kernel
theorem dX11_comesIn_29 : decode cX11_comesIn 29 = .ok (.iconst 0, 1) := by decide +kernel
theorem dX11_comesIn_30 : decode cX11_comesIn 30 = .ok (.istore 5, 2) := by decide +kernel
theorem dX11_comesIn_32 : decode cX11_comesIn 32 = .ok (.iconst 0, 1) := by decide +kernel
theorem dX11_comesIn_33 : decode cX11_comesIn 33 = .ok (.istore 6, 2) := by decide +kernel
theorem dX11_comesIn_35 : decode cX11_comesIn 35 = .ok (.iload 6, 2) := by decide +kernel
theorem dX11_comesIn_37 : decode cX11_comesIn 37 = .ok (.aload_n 0, 1) := by decide +kernel
theorem dX11_comesIn_38 : decode cX11_comesIn 38 = .ok (.getfield 13, 3) := by decide +kernel
theorem dX11_comesIn_41 : decode cX11_comesIn 41 = .ok (.iload_n 1, 1) := by decide +kernel
theorem dX11_comesIn_42 : decode cX11_comesIn 42 = .ok (.iaload, 1) := by decide +kernel
theorem dX11_comesIn_43 : decode cX11_comesIn 43 = .ok (.if_icmp .ge 47, 3) := by decide +kernel
theorem dX11_comesIn_46 : decode cX11_comesIn 46 = .ok (.iload 5, 2) := by decide +kernel
theorem dX11_comesIn_48 : decode cX11_comesIn 48 = .ok (.ifCond .eq 42, 3) := by decide +kernel
theorem dX11_comesIn_51 : decode cX11_comesIn 51 = .ok (.aload_n 0, 1) := by decide +kernel
theorem dX11_comesIn_52 : decode cX11_comesIn 52 = .ok (.getfield 7, 3) := by decide +kernel
theorem dX11_comesIn_55 : decode cX11_comesIn 55 = .ok (.bipush 8, 2) := by decide +kernel
theorem dX11_comesIn_57 : decode cX11_comesIn 57 = .ok (.iload_n 1, 1) := by decide +kernel
theorem dX11_comesIn_58 : decode cX11_comesIn 58 = .ok (.imul, 1) := by decide +kernel
theorem dX11_comesIn_59 : decode cX11_comesIn 59 = .ok (.iload 6, 2) := by decide +kernel
theorem dX11_comesIn_61 : decode cX11_comesIn 61 = .ok (.iadd, 1) := by decide +kernel
theorem dX11_comesIn_62 : decode cX11_comesIn 62 = .ok (.iaload, 1) := by decide +kernel
theorem dX11_comesIn_63 : decode cX11_comesIn 63 = .ok (.aload_n 0, 1) := by decide +kernel
theorem dX11_comesIn_64 : decode cX11_comesIn 64 = .ok (.iload_n 2, 1) := by decide +kernel
theorem dX11_comesIn_65 : decode cX11_comesIn 65 = .ok (.iload_n 3, 1) := by decide +kernel
theorem dX11_comesIn_66 : decode cX11_comesIn 66 = .ok (.iload 4, 2) := by decide +kernel
theorem dX11_comesIn_68 : decode cX11_comesIn 68 = .ok (.iload 6, 2) := by decide +kernel
theorem dX11_comesIn_70 : decode cX11_comesIn 70 = .ok (.iadd, 1) := by decide +kernel
theorem dX11_comesIn_71 : decode cX11_comesIn 71 = .ok (.invokevirtual 228, 3) := by decide +kernel
theorem dX11_comesIn_74 : decode cX11_comesIn 74 = .ok (.if_icmp .ne 7, 3) := by decide +kernel
theorem dX11_comesIn_77 : decode cX11_comesIn 77 = .ok (.iconst 1, 1) := by decide +kernel
theorem dX11_comesIn_78 : decode cX11_comesIn 78 = .ok (.goto 4, 3) := by decide +kernel
theorem dX11_comesIn_81 : decode cX11_comesIn 81 = .ok (.iconst 0, 1) := by decide +kernel
theorem dX11_comesIn_82 : decode cX11_comesIn 82 = .ok (.istore 5, 2) := by decide +kernel
theorem dX11_comesIn_84 : decode cX11_comesIn 84 = .ok (.iinc 6 1, 3) := by decide +kernel
theorem dX11_comesIn_87 : decode cX11_comesIn 87 = .ok (.goto (-52), 3) := by decide +kernel
theorem dX11_comesIn_90 : decode cX11_comesIn 90 = .ok (.iload 5, 2) := by decide +kernel
theorem dX11_comesIn_92 : decode cX11_comesIn 92 = .ok (.ireturn, 1) := by decide +kernel
theorem dX11_hides_0 : decode cX11_hides 0 = .ok (.iconst 0, 1) := by decide +kernel
theorem dX11_hides_1 : decode cX11_hides 1 = .ok (.istore_n 2, 1) := by decide +kernel
theorem dX11_hides_2 : decode cX11_hides 2 = .ok (.iload_n 2, 1) := by decide +kernel
theorem dX11_hides_3 : decode cX11_hides 3 = .ok (.aload_n 0, 1) := by decide +kernel
theorem dX11_hides_4 : decode cX11_hides 4 = .ok (.getfield 135, 3) := by decide +kernel
theorem dX11_hides_7 : decode cX11_hides 7 = .ok (.if_icmp .ge 104, 3) := by decide +kernel
theorem dX11_hides_10 : decode cX11_hides 10 = .ok (.iconst 0, 1) := by decide +kernel
theorem dX11_hides_11 : decode cX11_hides 11 = .ok (.istore_n 3, 1) := by decide +kernel
theorem dX11_hides_12 : decode cX11_hides 12 = .ok (.iload_n 3, 1) := by decide +kernel
theorem dX11_hides_13 : decode cX11_hides 13 = .ok (.aload_n 0, 1) := by decide +kernel
theorem dX11_hides_14 : decode cX11_hides 14 = .ok (.getfield 135, 3) := by decide +kernel
theorem dX11_hides_17 : decode cX11_hides 17 = .ok (.if_icmp .ge 88, 3) := by decide +kernel
theorem dX11_hides_20 : decode cX11_hides 20 = .ok (.iconst 0, 1) := by decide +kernel
theorem dX11_hides_21 : decode cX11_hides 21 = .ok (.istore 4, 2) := by decide +kernel
theorem dX11_hides_23 : decode cX11_hides 23 = .ok (.iload 4, 2) := by decide +kernel
theorem dX11_hides_25 : decode cX11_hides 25 = .ok (.aload_n 0, 1) := by decide +kernel
theorem dX11_hides_26 : decode cX11_hides 26 = .ok (.getfield 13, 3) := by decide +kernel
theorem dX11_hides_29 : decode cX11_hides 29 = .ok (.iload_n 2, 1) := by decide +kernel
theorem dX11_hides_30 : decode cX11_hides 30 = .ok (.iaload, 1) := by decide +kernel
theorem dX11_hides_31 : decode cX11_hides 31 = .ok (.aload_n 0, 1) := by decide +kernel
theorem dX11_hides_32 : decode cX11_hides 32 = .ok (.getfield 13, 3) := by decide +kernel
theorem dX11_hides_35 : decode cX11_hides 35 = .ok (.iload_n 3, 1) := by decide +kernel
theorem dX11_hides_36 : decode cX11_hides 36 = .ok (.iaload, 1) := by decide +kernel
theorem dX11_hides_37 : decode cX11_hides 37 = .ok (.iadd, 1) := by decide +kernel
theorem dX11_hides_38 : decode cX11_hides 38 = .ok (.if_icmp .ge 61, 3) := by decide +kernel
theorem dX11_hides_41 : decode cX11_hides 41 = .ok (.iload 4, 2) := by decide +kernel
theorem dX11_hides_43 : decode cX11_hides 43 = .ok (.ifCond .ne 8, 3) := by decide +kernel
theorem dX11_hides_46 : decode cX11_hides 46 = .ok (.iload_n 1, 1) := by decide +kernel
theorem dX11_hides_47 : decode cX11_hides 47 = .ok (.iload_n 2, 1) := by decide +kernel
theorem dX11_hides_48 : decode cX11_hides 48 = .ok (.if_icmp .eq 19, 3) := by decide +kernel
theorem dX11_hides_51 : decode cX11_hides 51 = .ok (.iload 4, 2) := by decide +kernel
theorem dX11_hides_53 : decode cX11_hides 53 = .ok (.aload_n 0, 1) := by decide +kernel
theorem dX11_hides_54 : decode cX11_hides 54 = .ok (.getfield 13, 3) := by decide +kernel
theorem dX11_hides_57 : decode cX11_hides 57 = .ok (.iload_n 2, 1) := by decide +kernel
theorem dX11_hides_58 : decode cX11_hides 58 = .ok (.iaload, 1) := by decide +kernel
theorem dX11_hides_59 : decode cX11_hides 59 = .ok (.if_icmp .ne 12, 3) := by decide +kernel
theorem dX11_hides_62 : decode cX11_hides 62 = .ok (.iload_n 1, 1) := by decide +kernel
theorem dX11_hides_63 : decode cX11_hides 63 = .ok (.iload_n 3, 1) := by decide +kernel
theorem dX11_hides_64 : decode cX11_hides 64 = .ok (.if_icmp .ne 7, 3) := by decide +kernel
theorem dX11_hides_67 : decode cX11_hides 67 = .ok (.iconst 1, 1) := by decide +kernel
theorem dX11_hides_68 : decode cX11_hides 68 = .ok (.goto 4, 3) := by decide +kernel
theorem dX11_hides_71 : decode cX11_hides 71 = .ok (.iconst 0, 1) := by decide +kernel
theorem dX11_hides_72 : decode cX11_hides 72 = .ok (.istore 5, 2) := by decide +kernel
theorem dX11_hides_74 : decode cX11_hides 74 = .ok (.iload 5, 2) := by decide +kernel
theorem dX11_hides_76 : decode cX11_hides 76 = .ok (.ifCond .ne 17, 3) := by decide +kernel
theorem dX11_hides_79 : decode cX11_hides 79 = .ok (.aload_n 0, 1) := by decide +kernel
theorem dX11_hides_80 : decode cX11_hides 80 = .ok (.iload_n 1, 1) := by decide +kernel
theorem dX11_hides_81 : decode cX11_hides 81 = .ok (.iload_n 2, 1) := by decide +kernel
theorem dX11_hides_82 : decode cX11_hides 82 = .ok (.iload_n 3, 1) := by decide +kernel
theorem dX11_hides_83 : decode cX11_hides 83 = .ok (.iload 4, 2) := by decide +kernel
theorem dX11_hides_85 : decode cX11_hides 85 = .ok (.invokevirtual 232, 3) := by decide +kernel
theorem dX11_hides_88 : decode cX11_hides 88 = .ok (.ifCond .eq 5, 3) := by decide +kernel
theorem dX11_hides_91 : decode cX11_hides 91 = .ok (.iconst 1, 1) := by decide +kernel
theorem dX11_hides_92 : decode cX11_hides 92 = .ok (.ireturn, 1) := by decide +kernel
theorem dX11_hides_93 : decode cX11_hides 93 = .ok (.iinc 4 1, 3) := by decide +kernel
theorem dX11_hides_96 : decode cX11_hides 96 = .ok (.goto (-73), 3) := by decide +kernel
theorem dX11_hides_99 : decode cX11_hides 99 = .ok (.iinc 3 1, 3) := by decide +kernel
theorem dX11_hides_102 : decode cX11_hides 102 = .ok (.goto (-90), 3) := by decide +kernel
theorem dX11_hides_105 : decode cX11_hides 105 = .ok (.iinc 2 1, 3) := by decide +kernel
theorem dX11_hides_108 : decode cX11_hides 108 = .ok (.goto (-106), 3) := by decide +kernel
theorem dX11_hides_111 : decode cX11_hides 111 = .ok (.iconst 0, 1) := by decide +kernel
theorem dX11_hides_112 : decode cX11_hides 112 = .ok (.ireturn, 1) := by decide +kernel
theorem dX11_within_0 : decode cX11_within 0 = .ok (.iload_n 1, 1) := by decide +kernel
theorem dX11_within_1 : decode cX11_within 1 = .ok (.i2l, 1) := by decide +kernel
theorem dX11_within_2 : decode cX11_within 2 = .ok (.lconst 0, 1) := by decide +kernel
theorem dX11_within_3 : decode cX11_within 3 = .ok (.ldc2_w 127, 3) := by decide +kernel
theorem dX11_within_6 : decode cX11_within 6 = .ok (.invokestatic 131, 3) := by decide +kernel
theorem dX11_within_9 : decode cX11_within 9 = .ok (.ifCond .ne 7, 3) := by decide +kernel
theorem dX11_within_12 : decode cX11_within 12 = .ok (.sipush (-1002), 3) := by decide +kernel
theorem dX11_within_15 : decode cX11_within 15 = .ok (.ireturn, 1) := by decide +kernel
theorem dX11_within_16 : decode cX11_within 16 = .ok (.iconst 0, 1) := by decide +kernel
theorem dX11_within_17 : decode cX11_within 17 = .ok (.istore_n 2, 1) := by decide +kernel
theorem dX11_within_18 : decode cX11_within 18 = .ok (.iconst 0, 1) := by decide +kernel
theorem dX11_within_19 : decode cX11_within 19 = .ok (.istore_n 3, 1) := by decide +kernel
theorem dX11_within_20 : decode cX11_within 20 = .ok (.iload_n 3, 1) := by decide +kernel
theorem dX11_within_21 : decode cX11_within 21 = .ok (.aload_n 0, 1) := by decide +kernel
theorem dX11_within_22 : decode cX11_within 22 = .ok (.getfield 135, 3) := by decide +kernel
theorem dX11_within_25 : decode cX11_within 25 = .ok (.if_icmp .ge 177, 3) := by decide +kernel
theorem dX11_within_28 : decode cX11_within 28 = .ok (.iload_n 2, 1) := by decide +kernel
theorem dX11_within_29 : decode cX11_within 29 = .ok (.iload_n 1, 1) := by decide +kernel
theorem dX11_within_30 : decode cX11_within 30 = .ok (.iconst 2, 1) := by decide +kernel
theorem dX11_within_31 : decode cX11_within 31 = .ok (.if_icmp .ne 15, 3) := by decide +kernel
theorem dX11_within_34 : decode cX11_within 34 = .ok (.aload_n 0, 1) := by decide +kernel
theorem dX11_within_35 : decode cX11_within 35 = .ok (.iload_n 3, 1) := by decide +kernel
theorem dX11_within_36 : decode cX11_within 36 = .ok (.invokevirtual 236, 3) := by decide +kernel
theorem dX11_within_39 : decode cX11_within 39 = .ok (.ifCond .eq 7, 3) := by decide +kernel
theorem dX11_within_42 : decode cX11_within 42 = .ok (.iconst 1, 1) := by decide +kernel
theorem dX11_within_43 : decode cX11_within 43 = .ok (.goto 4, 3) := by decide +kernel
theorem dX11_within_46 : decode cX11_within 46 = .ok (.iconst 0, 1) := by decide +kernel
theorem dX11_within_47 : decode cX11_within 47 = .ok (.invokestatic 195, 3) := by decide +kernel
theorem dX11_within_50 : decode cX11_within 50 = .ok (.iadd, 1) := by decide +kernel
theorem dX11_within_51 : decode cX11_within 51 = .ok (.istore_n 2, 1) := by decide +kernel
theorem dX11_within_52 : decode cX11_within 52 = .ok (.iconst 0, 1) := by decide +kernel
theorem dX11_within_53 : decode cX11_within 53 = .ok (.istore 4, 2) := by decide +kernel
theorem dX11_within_55 : decode cX11_within 55 = .ok (.iload 4, 2) := by decide +kernel
theorem dX11_within_57 : decode cX11_within 57 = .ok (.aload_n 0, 1) := by decide +kernel
theorem dX11_within_58 : decode cX11_within 58 = .ok (.getfield 135, 3) := by decide +kernel
theorem dX11_within_61 : decode cX11_within 61 = .ok (.if_icmp .ge 135, 3) := by decide +kernel
theorem dX11_within_64 : decode cX11_within 64 = .ok (.iload_n 1, 1) := by decide +kernel
theorem dX11_within_65 : decode cX11_within 65 = .ok (.iconst 2, 1) := by decide +kernel
theorem dX11_within_66 : decode cX11_within 66 = .ok (.if_icmp .ge 130, 3) := by decide +kernel
theorem dX11_within_69 : decode cX11_within 69 = .ok (.iload_n 3, 1) := by decide +kernel
theorem dX11_within_70 : decode cX11_within 70 = .ok (.iload 4, 2) := by decide +kernel
theorem dX11_within_72 : decode cX11_within 72 = .ok (.if_icmp .eq 23, 3) := by decide +kernel
theorem dX11_within_75 : decode cX11_within 75 = .ok (.aload_n 0, 1) := by decide +kernel
theorem dX11_within_76 : decode cX11_within 76 = .ok (.getfield 13, 3) := by decide +kernel
theorem dX11_within_79 : decode cX11_within 79 = .ok (.iload_n 3, 1) := by decide +kernel
theorem dX11_within_80 : decode cX11_within 80 = .ok (.iaload, 1) := by decide +kernel
theorem dX11_within_81 : decode cX11_within 81 = .ok (.aload_n 0, 1) := by decide +kernel
theorem dX11_within_82 : decode cX11_within 82 = .ok (.getfield 13, 3) := by decide +kernel
theorem dX11_within_85 : decode cX11_within 85 = .ok (.iload 4, 2) := by decide +kernel
theorem dX11_within_87 : decode cX11_within 87 = .ok (.iaload, 1) := by decide +kernel
theorem dX11_within_88 : decode cX11_within 88 = .ok (.if_icmp .gt 7, 3) := by decide +kernel
theorem dX11_within_91 : decode cX11_within 91 = .ok (.iconst 1, 1) := by decide +kernel
theorem dX11_within_92 : decode cX11_within 92 = .ok (.goto 4, 3) := by decide +kernel
theorem dX11_within_95 : decode cX11_within 95 = .ok (.iconst 0, 1) := by decide +kernel
theorem dX11_within_96 : decode cX11_within 96 = .ok (.istore 5, 2) := by decide +kernel
theorem dX11_within_98 : decode cX11_within 98 = .ok (.iconst 0, 1) := by decide +kernel
theorem dX11_within_99 : decode cX11_within 99 = .ok (.istore 6, 2) := by decide +kernel
theorem dX11_within_101 : decode cX11_within 101 = .ok (.iload 6, 2) := by decide +kernel
theorem dX11_within_103 : decode cX11_within 103 = .ok (.aload_n 0, 1) := by decide +kernel
theorem dX11_within_104 : decode cX11_within 104 = .ok (.getfield 13, 3) := by decide +kernel
theorem dX11_within_107 : decode cX11_within 107 = .ok (.iload_n 3, 1) := by decide +kernel
theorem dX11_within_108 : decode cX11_within 108 = .ok (.iaload, 1) := by decide +kernel
theorem dX11_within_109 : decode cX11_within 109 = .ok (.if_icmp .ge 73, 3) := by decide +kernel
theorem dX11_within_112 : decode cX11_within 112 = .ok (.iload 5, 2) := by decide +kernel
theorem dX11_within_114 : decode cX11_within 114 = .ok (.ifCond .eq 68, 3) := by decide +kernel
theorem dX11_within_117 : decode cX11_within 117 = .ok (.aload_n 0, 1) := by decide +kernel
theorem dX11_within_118 : decode cX11_within 118 = .ok (.getfield 7, 3) := by decide +kernel
theorem dX11_within_121 : decode cX11_within 121 = .ok (.bipush 8, 2) := by decide +kernel
theorem dX11_within_123 : decode cX11_within 123 = .ok (.iload_n 3, 1) := by decide +kernel
theorem dX11_within_124 : decode cX11_within 124 = .ok (.imul, 1) := by decide +kernel
theorem dX11_within_125 : decode cX11_within 125 = .ok (.iload 6, 2) := by decide +kernel
theorem dX11_within_127 : decode cX11_within 127 = .ok (.iadd, 1) := by decide +kernel
theorem dX11_within_128 : decode cX11_within 128 = .ok (.iaload, 1) := by decide +kernel
theorem dX11_within_129 : decode cX11_within 129 = .ok (.aload_n 0, 1) := by decide +kernel
theorem dX11_within_130 : decode cX11_within 130 = .ok (.getfield 7, 3) := by decide +kernel
theorem dX11_within_133 : decode cX11_within 133 = .ok (.bipush 8, 2) := by decide +kernel
theorem dX11_within_135 : decode cX11_within 135 = .ok (.iload 4, 2) := by decide +kernel
theorem dX11_within_137 : decode cX11_within 137 = .ok (.imul, 1) := by decide +kernel
theorem dX11_within_138 : decode cX11_within 138 = .ok (.iload_n 1, 1) := by decide +kernel
theorem dX11_within_139 : decode cX11_within 139 = .ok (.ifCond .ne 8, 3) := by decide +kernel
theorem dX11_within_142 : decode cX11_within 142 = .ok (.iload 6, 2) := by decide +kernel
theorem dX11_within_144 : decode cX11_within 144 = .ok (.goto 20, 3) := by decide +kernel
theorem dX11_within_147 : decode cX11_within 147 = .ok (.aload_n 0, 1) := by decide +kernel
theorem dX11_within_148 : decode cX11_within 148 = .ok (.getfield 13, 3) := by decide +kernel
theorem dX11_within_151 : decode cX11_within 151 = .ok (.iload 4, 2) := by decide +kernel
theorem dX11_within_153 : decode cX11_within 153 = .ok (.iaload, 1) := by decide +kernel
theorem dX11_within_154 : decode cX11_within 154 = .ok (.aload_n 0, 1) := by decide +kernel
theorem dX11_within_155 : decode cX11_within 155 = .ok (.getfield 13, 3) := by decide +kernel
theorem dX11_within_158 : decode cX11_within 158 = .ok (.iload_n 3, 1) := by decide +kernel
theorem dX11_within_159 : decode cX11_within 159 = .ok (.iaload, 1) := by decide +kernel
theorem dX11_within_160 : decode cX11_within 160 = .ok (.isub, 1) := by decide +kernel
theorem dX11_within_161 : decode cX11_within 161 = .ok (.iload 6, 2) := by decide +kernel
theorem dX11_within_163 : decode cX11_within 163 = .ok (.iadd, 1) := by decide +kernel
theorem dX11_within_164 : decode cX11_within 164 = .ok (.iadd, 1) := by decide +kernel
theorem dX11_within_165 : decode cX11_within 165 = .ok (.iaload, 1) := by decide +kernel
theorem dX11_within_166 : decode cX11_within 166 = .ok (.if_icmp .ne 7, 3) := by decide +kernel
theorem dX11_within_169 : decode cX11_within 169 = .ok (.iconst 1, 1) := by decide +kernel
theorem dX11_within_170 : decode cX11_within 170 = .ok (.goto 4, 3) := by decide +kernel
theorem dX11_within_173 : decode cX11_within 173 = .ok (.iconst 0, 1) := by decide +kernel
theorem dX11_within_174 : decode cX11_within 174 = .ok (.istore 5, 2) := by decide +kernel
theorem dX11_within_176 : decode cX11_within 176 = .ok (.iinc 6 1, 3) := by decide +kernel
theorem dX11_within_179 : decode cX11_within 179 = .ok (.goto (-78), 3) := by decide +kernel
theorem dX11_within_182 : decode cX11_within 182 = .ok (.iload_n 2, 1) := by decide +kernel
theorem dX11_within_183 : decode cX11_within 183 = .ok (.iload 5, 2) := by decide +kernel
theorem dX11_within_185 : decode cX11_within 185 = .ok (.invokestatic 195, 3) := by decide +kernel
theorem dX11_within_188 : decode cX11_within 188 = .ok (.iadd, 1) := by decide +kernel
theorem dX11_within_189 : decode cX11_within 189 = .ok (.istore_n 2, 1) := by decide +kernel
theorem dX11_within_190 : decode cX11_within 190 = .ok (.iinc 4 1, 3) := by decide +kernel
theorem dX11_within_193 : decode cX11_within 193 = .ok (.goto (-138), 3) := by decide +kernel
theorem dX11_within_196 : decode cX11_within 196 = .ok (.iinc 3 1, 3) := by decide +kernel
theorem dX11_within_199 : decode cX11_within 199 = .ok (.goto (-179), 3) := by decide +kernel
theorem dX11_within_202 : decode cX11_within 202 = .ok (.iload_n 2, 1) := by decide +kernel
theorem dX11_within_203 : decode cX11_within 203 = .ok (.ireturn, 1) := by decide +kernel
theorem dX11_mark_0 : decode cX11_mark 0 = .ok (.iload_n 2, 1) := by decide +kernel
theorem dX11_mark_1 : decode cX11_mark 1 = .ok (.aload_n 0, 1) := by decide +kernel
theorem dX11_mark_2 : decode cX11_mark 2 = .ok (.getfield 13, 3) := by decide +kernel
theorem dX11_mark_5 : decode cX11_mark 5 = .ok (.iload_n 1, 1) := by decide +kernel
theorem dX11_mark_6 : decode cX11_mark 6 = .ok (.iaload, 1) := by decide +kernel
theorem dX11_mark_7 : decode cX11_mark 7 = .ok (.if_icmp .ne 16, 3) := by decide +kernel
theorem dX11_mark_10 : decode cX11_mark 10 = .ok (.aload_n 0, 1) := by decide +kernel
theorem dX11_mark_11 : decode cX11_mark 11 = .ok (.dup, 1) := by decide +kernel
theorem dX11_mark_12 : decode cX11_mark 12 = .ok (.getfield 239, 3) := by decide +kernel
theorem dX11_mark_15 : decode cX11_mark 15 = .ok (.lconst 1, 1) := by decide +kernel
theorem dX11_mark_16 : decode cX11_mark 16 = .ok (.lor, 1) := by decide +kernel
theorem dX11_mark_17 : decode cX11_mark 17 = .ok (.putfield 239, 3) := by decide +kernel
theorem dX11_mark_20 : decode cX11_mark 20 = .ok (.goto 49, 3) := by decide +kernel
theorem dX11_mark_23 : decode cX11_mark 23 = .ok (.iload_n 1, 1) := by decide +kernel
theorem dX11_mark_24 : decode cX11_mark 24 = .ok (.bipush 8, 2) := by decide +kernel
theorem dX11_mark_26 : decode cX11_mark 26 = .ok (.if_icmp .ge 23, 3) := by decide +kernel
theorem dX11_mark_29 : decode cX11_mark 29 = .ok (.aload_n 0, 1) := by decide +kernel
theorem dX11_mark_30 : decode cX11_mark 30 = .ok (.dup, 1) := by decide +kernel
theorem dX11_mark_31 : decode cX11_mark 31 = .ok (.getfield 239, 3) := by decide +kernel
theorem dX11_mark_34 : decode cX11_mark 34 = .ok (.lconst 1, 1) := by decide +kernel
theorem dX11_mark_35 : decode cX11_mark 35 = .ok (.bipush 8, 2) := by decide +kernel
theorem dX11_mark_37 : decode cX11_mark 37 = .ok (.iload_n 1, 1) := by decide +kernel
theorem dX11_mark_38 : decode cX11_mark 38 = .ok (.imul, 1) := by decide +kernel
theorem dX11_mark_39 : decode cX11_mark 39 = .ok (.iload_n 2, 1) := by decide +kernel
theorem dX11_mark_40 : decode cX11_mark 40 = .ok (.iadd, 1) := by decide +kernel
theorem dX11_mark_41 : decode cX11_mark 41 = .ok (.lshl, 1) := by decide +kernel
theorem dX11_mark_42 : decode cX11_mark 42 = .ok (.lor, 1) := by decide +kernel
theorem dX11_mark_43 : decode cX11_mark 43 = .ok (.putfield 239, 3) := by decide +kernel
theorem dX11_mark_46 : decode cX11_mark 46 = .ok (.goto 23, 3) := by decide +kernel
theorem dX11_mark_49 : decode cX11_mark 49 = .ok (.aload_n 0, 1) := by decide +kernel
theorem dX11_mark_50 : decode cX11_mark 50 = .ok (.dup, 1) := by decide +kernel
theorem dX11_mark_51 : decode cX11_mark 51 = .ok (.getfield 243, 3) := by decide +kernel
theorem dX11_mark_54 : decode cX11_mark 54 = .ok (.lconst 1, 1) := by decide +kernel
theorem dX11_mark_55 : decode cX11_mark 55 = .ok (.bipush 8, 2) := by decide +kernel
theorem dX11_mark_57 : decode cX11_mark 57 = .ok (.iload_n 1, 1) := by decide +kernel
theorem dX11_mark_58 : decode cX11_mark 58 = .ok (.bipush 8, 2) := by decide +kernel
theorem dX11_mark_60 : decode cX11_mark 60 = .ok (.isub, 1) := by decide +kernel
theorem dX11_mark_61 : decode cX11_mark 61 = .ok (.imul, 1) := by decide +kernel
theorem dX11_mark_62 : decode cX11_mark 62 = .ok (.iload_n 2, 1) := by decide +kernel
theorem dX11_mark_63 : decode cX11_mark 63 = .ok (.iadd, 1) := by decide +kernel
theorem dX11_mark_64 : decode cX11_mark 64 = .ok (.lshl, 1) := by decide +kernel
theorem dX11_mark_65 : decode cX11_mark 65 = .ok (.lor, 1) := by decide +kernel
theorem dX11_mark_66 : decode cX11_mark 66 = .ok (.putfield 243, 3) := by decide +kernel
theorem dX11_mark_69 : decode cX11_mark 69 = .ok (.return_, 1) := by decide +kernel
theorem dX11_isMarked_0 : decode cX11_isMarked 0 = .ok (.iload_n 2, 1) := by decide +kernel
theorem dX11_isMarked_1 : decode cX11_isMarked 1 = .ok (.bipush 8, 2) := by decide +kernel
theorem dX11_isMarked_3 : decode cX11_isMarked 3 = .ok (.if_icmp .ge 12, 3) := by decide +kernel
theorem dX11_isMarked_6 : decode cX11_isMarked 6 = .ok (.aload_n 0, 1) := by decide +kernel
theorem dX11_isMarked_7 : decode cX11_isMarked 7 = .ok (.getfield 76, 3) := by decide +kernel
theorem dX11_isMarked_10 : decode cX11_isMarked 10 = .ok (.iload_n 1, 1) := by decide +kernel
theorem dX11_isMarked_11 : decode cX11_isMarked 11 = .ok (.laload, 1) := by decide +kernel
theorem dX11_isMarked_12 : decode cX11_isMarked 12 = .ok (.goto 9, 3) := by decide +kernel
theorem dX11_isMarked_15 : decode cX11_isMarked 15 = .ok (.aload_n 0, 1) := by decide +kernel
theorem dX11_isMarked_16 : decode cX11_isMarked 16 = .ok (.getfield 79, 3) := by decide +kernel
theorem dX11_isMarked_19 : decode cX11_isMarked 19 = .ok (.iload_n 1, 1) := by decide +kernel
theorem dX11_isMarked_20 : decode cX11_isMarked 20 = .ok (.laload, 1) := by decide +kernel
theorem dX11_isMarked_21 : decode cX11_isMarked 21 = .ok (.lstore 4, 2) := by decide +kernel
theorem dX11_isMarked_23 : decode cX11_isMarked 23 = .ok (.lload 4, 2) := by decide +kernel
theorem dX11_isMarked_25 : decode cX11_isMarked 25 = .ok (.bipush 8, 2) := by decide +kernel
theorem dX11_isMarked_27 : decode cX11_isMarked 27 = .ok (.iload_n 2, 1) := by decide +kernel
theorem dX11_isMarked_28 : decode cX11_isMarked 28 = .ok (.bipush 7, 2) := by decide +kernel
theorem dX11_isMarked_30 : decode cX11_isMarked 30 = .ok (.iand, 1) := by decide +kernel
theorem dX11_isMarked_31 : decode cX11_isMarked 31 = .ok (.imul, 1) := by decide +kernel
theorem dX11_isMarked_32 : decode cX11_isMarked 32 = .ok (.iload_n 3, 1) := by decide +kernel
theorem dX11_isMarked_33 : decode cX11_isMarked 33 = .ok (.iadd, 1) := by decide +kernel
theorem dX11_isMarked_34 : decode cX11_isMarked 34 = .ok (.lshr, 1) := by decide +kernel
theorem dX11_isMarked_35 : decode cX11_isMarked 35 = .ok (.lconst 1, 1) := by decide +kernel
theorem dX11_isMarked_36 : decode cX11_isMarked 36 = .ok (.land, 1) := by decide +kernel
theorem dX11_isMarked_37 : decode cX11_isMarked 37 = .ok (.lconst 1, 1) := by decide +kernel
theorem dX11_isMarked_38 : decode cX11_isMarked 38 = .ok (.lcmp, 1) := by decide +kernel
theorem dX11_isMarked_39 : decode cX11_isMarked 39 = .ok (.ifCond .ne 7, 3) := by decide +kernel
theorem dX11_isMarked_42 : decode cX11_isMarked 42 = .ok (.iconst 1, 1) := by decide +kernel
theorem dX11_isMarked_43 : decode cX11_isMarked 43 = .ok (.goto 4, 3) := by decide +kernel
theorem dX11_isMarked_46 : decode cX11_isMarked 46 = .ok (.iconst 0, 1) := by decide +kernel
theorem dX11_isMarked_47 : decode cX11_isMarked 47 = .ok (.ireturn, 1) := by decide +kernel
theorem dX11_goOn_0 : decode cX11_goOn 0 = .ok (.aload_n 0, 1) := by decide +kernel
theorem dX11_goOn_1 : decode cX11_goOn 1 = .ok (.lconst 0, 1) := by decide +kernel
theorem dX11_goOn_2 : decode cX11_goOn 2 = .ok (.putfield 239, 3) := by decide +kernel
theorem dX11_goOn_5 : decode cX11_goOn 5 = .ok (.aload_n 0, 1) := by decide +kernel
theorem dX11_goOn_6 : decode cX11_goOn 6 = .ok (.lconst 0, 1) := by decide +kernel
theorem dX11_goOn_7 : decode cX11_goOn 7 = .ok (.putfield 243, 3) := by decide +kernel
theorem dX11_goOn_10 : decode cX11_goOn 10 = .ok (.aload_n 0, 1) := by decide +kernel
theorem dX11_goOn_11 : decode cX11_goOn 11 = .ok (.getfield 76, 3) := by decide +kernel
theorem dX11_goOn_14 : decode cX11_goOn 14 = .ok (.iload_n 1, 1) := by decide +kernel
theorem dX11_goOn_15 : decode cX11_goOn 15 = .ok (.laload, 1) := by decide +kernel
theorem dX11_goOn_16 : decode cX11_goOn 16 = .ok (.lconst 1, 1) := by decide +kernel
theorem dX11_goOn_17 : decode cX11_goOn 17 = .ok (.land, 1) := by decide +kernel
theorem dX11_goOn_18 : decode cX11_goOn 18 = .ok (.lconst 1, 1) := by decide +kernel
theorem dX11_goOn_19 : decode cX11_goOn 19 = .ok (.lcmp, 1) := by decide +kernel
theorem dX11_goOn_20 : decode cX11_goOn 20 = .ok (.ifCond .ne 7, 3) := by decide +kernel
theorem dX11_goOn_23 : decode cX11_goOn 23 = .ok (.iconst 1, 1) := by decide +kernel
theorem dX11_goOn_24 : decode cX11_goOn 24 = .ok (.goto 4, 3) := by decide +kernel
theorem dX11_goOn_27 : decode cX11_goOn 27 = .ok (.iconst 0, 1) := by decide +kernel
theorem dX11_goOn_28 : decode cX11_goOn 28 = .ok (.istore_n 3, 1) := by decide +kernel
theorem dX11_goOn_29 : decode cX11_goOn 29 = .ok (.iconst 0, 1) := by decide +kernel
theorem dX11_goOn_30 : decode cX11_goOn 30 = .ok (.istore 4, 2) := by decide +kernel
theorem dX11_goOn_32 : decode cX11_goOn 32 = .ok (.iload 4, 2) := by decide +kernel
theorem dX11_goOn_34 : decode cX11_goOn 34 = .ok (.aload_n 0, 1) := by decide +kernel
theorem dX11_goOn_35 : decode cX11_goOn 35 = .ok (.getfield 135, 3) := by decide +kernel
theorem dX11_goOn_38 : decode cX11_goOn 38 = .ok (.if_icmp .ge 94, 3) := by decide +kernel
theorem dX11_goOn_41 : decode cX11_goOn 41 = .ok (.iload_n 3, 1) := by decide +kernel
theorem dX11_goOn_42 : decode cX11_goOn 42 = .ok (.ifCond .eq 24, 3) := by decide +kernel
theorem dX11_goOn_45 : decode cX11_goOn 45 = .ok (.aload_n 0, 1) := by decide +kernel
theorem dX11_goOn_46 : decode cX11_goOn 46 = .ok (.getfield 7, 3) := by decide +kernel
theorem dX11_goOn_49 : decode cX11_goOn 49 = .ok (.bipush 8, 2) := by decide +kernel
theorem dX11_goOn_51 : decode cX11_goOn 51 = .ok (.iload 4, 2) := by decide +kernel
theorem dX11_goOn_53 : decode cX11_goOn 53 = .ok (.imul, 1) := by decide +kernel
theorem dX11_goOn_54 : decode cX11_goOn 54 = .ok (.iaload, 1) := by decide +kernel
theorem dX11_goOn_55 : decode cX11_goOn 55 = .ok (.iload_n 2, 1) := by decide +kernel
theorem dX11_goOn_56 : decode cX11_goOn 56 = .ok (.if_icmp .ne 10, 3) := by decide +kernel
theorem dX11_goOn_59 : decode cX11_goOn 59 = .ok (.aload_n 0, 1) := by decide +kernel
theorem dX11_goOn_60 : decode cX11_goOn 60 = .ok (.iload 4, 2) := by decide +kernel
theorem dX11_goOn_62 : decode cX11_goOn 62 = .ok (.iconst 1, 1) := by decide +kernel
theorem dX11_goOn_63 : decode cX11_goOn 63 = .ok (.invokevirtual 246, 3) := by decide +kernel
theorem dX11_goOn_66 : decode cX11_goOn 66 = .ok (.iconst 1, 1) := by decide +kernel
theorem dX11_goOn_67 : decode cX11_goOn 67 = .ok (.istore 5, 2) := by decide +kernel
theorem dX11_goOn_69 : decode cX11_goOn 69 = .ok (.iload 5, 2) := by decide +kernel
theorem dX11_goOn_71 : decode cX11_goOn 71 = .ok (.aload_n 0, 1) := by decide +kernel
theorem dX11_goOn_72 : decode cX11_goOn 72 = .ok (.getfield 13, 3) := by decide +kernel
theorem dX11_goOn_75 : decode cX11_goOn 75 = .ok (.iload 4, 2) := by decide +kernel
theorem dX11_goOn_77 : decode cX11_goOn 77 = .ok (.iaload, 1) := by decide +kernel
theorem dX11_goOn_78 : decode cX11_goOn 78 = .ok (.if_icmp .ge 48, 3) := by decide +kernel
theorem dX11_goOn_81 : decode cX11_goOn 81 = .ok (.aload_n 0, 1) := by decide +kernel
theorem dX11_goOn_82 : decode cX11_goOn 82 = .ok (.iload_n 1, 1) := by decide +kernel
theorem dX11_goOn_83 : decode cX11_goOn 83 = .ok (.iload 4, 2) := by decide +kernel
theorem dX11_goOn_85 : decode cX11_goOn 85 = .ok (.iload 5, 2) := by decide +kernel
theorem dX11_goOn_87 : decode cX11_goOn 87 = .ok (.invokevirtual 250, 3) := by decide +kernel
theorem dX11_goOn_90 : decode cX11_goOn 90 = .ok (.ifCond .eq 30, 3) := by decide +kernel
theorem dX11_goOn_93 : decode cX11_goOn 93 = .ok (.aload_n 0, 1) := by decide +kernel
theorem dX11_goOn_94 : decode cX11_goOn 94 = .ok (.getfield 7, 3) := by decide +kernel
theorem dX11_goOn_97 : decode cX11_goOn 97 = .ok (.bipush 8, 2) := by decide +kernel
theorem dX11_goOn_99 : decode cX11_goOn 99 = .ok (.iload 4, 2) := by decide +kernel
theorem dX11_goOn_101 : decode cX11_goOn 101 = .ok (.imul, 1) := by decide +kernel
theorem dX11_goOn_102 : decode cX11_goOn 102 = .ok (.iload 5, 2) := by decide +kernel
theorem dX11_goOn_104 : decode cX11_goOn 104 = .ok (.iadd, 1) := by decide +kernel
theorem dX11_goOn_105 : decode cX11_goOn 105 = .ok (.iaload, 1) := by decide +kernel
theorem dX11_goOn_106 : decode cX11_goOn 106 = .ok (.iload_n 2, 1) := by decide +kernel
theorem dX11_goOn_107 : decode cX11_goOn 107 = .ok (.if_icmp .ne 13, 3) := by decide +kernel
theorem dX11_goOn_110 : decode cX11_goOn 110 = .ok (.aload_n 0, 1) := by decide +kernel
theorem dX11_goOn_111 : decode cX11_goOn 111 = .ok (.iload 4, 2) := by decide +kernel
theorem dX11_goOn_113 : decode cX11_goOn 113 = .ok (.iload 5, 2) := by decide +kernel
theorem dX11_goOn_115 : decode cX11_goOn 115 = .ok (.iconst 1, 1) := by decide +kernel
theorem dX11_goOn_116 : decode cX11_goOn 116 = .ok (.iadd, 1) := by decide +kernel
theorem dX11_goOn_117 : decode cX11_goOn 117 = .ok (.invokevirtual 246, 3) := by decide +kernel
theorem dX11_goOn_120 : decode cX11_goOn 120 = .ok (.iinc 5 1, 3) := by decide +kernel
theorem dX11_goOn_123 : decode cX11_goOn 123 = .ok (.goto (-54), 3) := by decide +kernel
theorem dX11_goOn_126 : decode cX11_goOn 126 = .ok (.iinc 4 1, 3) := by decide +kernel
theorem dX11_goOn_129 : decode cX11_goOn 129 = .ok (.goto (-97), 3) := by decide +kernel
theorem dX11_goOn_132 : decode cX11_goOn 132 = .ok (.return_, 1) := by decide +kernel
theorem dX11_findState_0 : decode cX11_findState 0 = .ok (.iconst 0, 1) := by decide +kernel
theorem dX11_findState_1 : decode cX11_findState 1 = .ok (.istore_n 1, 1) := by decide +kernel
theorem dX11_findState_2 : decode cX11_findState 2 = .ok (.iload_n 1, 1) := by decide +kernel
theorem dX11_findState_3 : decode cX11_findState 3 = .ok (.aload_n 0, 1) := by decide +kernel
theorem dX11_findState_4 : decode cX11_findState 4 = .ok (.getfield 254, 3) := by decide +kernel
theorem dX11_findState_7 : decode cX11_findState 7 = .ok (.if_icmp .ge 39, 3) := by decide +kernel
theorem dX11_findState_10 : decode cX11_findState 10 = .ok (.aload_n 0, 1) := by decide +kernel
theorem dX11_findState_11 : decode cX11_findState 11 = .ok (.getfield 76, 3) := by decide +kernel
theorem dX11_findState_14 : decode cX11_findState 14 = .ok (.iload_n 1, 1) := by decide +kernel
theorem dX11_findState_15 : decode cX11_findState 15 = .ok (.laload, 1) := by decide +kernel
theorem dX11_findState_16 : decode cX11_findState 16 = .ok (.aload_n 0, 1) := by decide +kernel
theorem dX11_findState_17 : decode cX11_findState 17 = .ok (.getfield 239, 3) := by decide +kernel
theorem dX11_findState_20 : decode cX11_findState 20 = .ok (.lcmp, 1) := by decide +kernel
theorem dX11_findState_21 : decode cX11_findState 21 = .ok (.ifCond .ne 19, 3) := by decide +kernel
theorem dX11_findState_24 : decode cX11_findState 24 = .ok (.aload_n 0, 1) := by decide +kernel
theorem dX11_findState_25 : decode cX11_findState 25 = .ok (.getfield 79, 3) := by decide +kernel
theorem dX11_findState_28 : decode cX11_findState 28 = .ok (.iload_n 1, 1) := by decide +kernel
theorem dX11_findState_29 : decode cX11_findState 29 = .ok (.laload, 1) := by decide +kernel
theorem dX11_findState_30 : decode cX11_findState 30 = .ok (.aload_n 0, 1) := by decide +kernel
theorem dX11_findState_31 : decode cX11_findState 31 = .ok (.getfield 243, 3) := by decide +kernel
theorem dX11_findState_34 : decode cX11_findState 34 = .ok (.lcmp, 1) := by decide +kernel
theorem dX11_findState_35 : decode cX11_findState 35 = .ok (.ifCond .ne 5, 3) := by decide +kernel
theorem dX11_findState_38 : decode cX11_findState 38 = .ok (.iload_n 1, 1) := by decide +kernel
theorem dX11_findState_39 : decode cX11_findState 39 = .ok (.ireturn, 1) := by decide +kernel
theorem dX11_findState_40 : decode cX11_findState 40 = .ok (.iinc 1 1, 3) := by decide +kernel
theorem dX11_findState_43 : decode cX11_findState 43 = .ok (.goto (-41), 3) := by decide +kernel
theorem dX11_findState_46 : decode cX11_findState 46 = .ok (.iconst (-1), 1) := by decide +kernel
theorem dX11_findState_47 : decode cX11_findState 47 = .ok (.ireturn, 1) := by decide +kernel
theorem dX11_addState_0 : decode cX11_addState 0 = .ok (.aload_n 0, 1) := by decide +kernel
theorem dX11_addState_1 : decode cX11_addState 1 = .ok (.getfield 76, 3) := by decide +kernel
theorem dX11_addState_4 : decode cX11_addState 4 = .ok (.aload_n 0, 1) := by decide +kernel
theorem dX11_addState_5 : decode cX11_addState 5 = .ok (.getfield 254, 3) := by decide +kernel
theorem dX11_addState_8 : decode cX11_addState 8 = .ok (.aload_n 0, 1) := by decide +kernel
theorem dX11_addState_9 : decode cX11_addState 9 = .ok (.getfield 239, 3) := by decide +kernel
theorem dX11_addState_12 : decode cX11_addState 12 = .ok (.lastore, 1) := by decide +kernel
theorem dX11_addState_13 : decode cX11_addState 13 = .ok (.aload_n 0, 1) := by decide +kernel
theorem dX11_addState_14 : decode cX11_addState 14 = .ok (.getfield 79, 3) := by decide +kernel
theorem dX11_addState_17 : decode cX11_addState 17 = .ok (.aload_n 0, 1) := by decide +kernel
theorem dX11_addState_18 : decode cX11_addState 18 = .ok (.getfield 254, 3) := by decide +kernel
theorem dX11_addState_21 : decode cX11_addState 21 = .ok (.aload_n 0, 1) := by decide +kernel
theorem dX11_addState_22 : decode cX11_addState 22 = .ok (.getfield 243, 3) := by decide +kernel
theorem dX11_addState_25 : decode cX11_addState 25 = .ok (.lastore, 1) := by decide +kernel
theorem dX11_addState_26 : decode cX11_addState 26 = .ok (.aload_n 0, 1) := by decide +kernel
theorem dX11_addState_27 : decode cX11_addState 27 = .ok (.getfield 82, 3) := by decide +kernel
theorem dX11_addState_30 : decode cX11_addState 30 = .ok (.aload_n 0, 1) := by decide +kernel
theorem dX11_addState_31 : decode cX11_addState 31 = .ok (.getfield 254, 3) := by decide +kernel
theorem dX11_addState_34 : decode cX11_addState 34 = .ok (.iload_n 1, 1) := by decide +kernel
theorem dX11_addState_35 : decode cX11_addState 35 = .ok (.iastore, 1) := by decide +kernel
theorem dX11_addState_36 : decode cX11_addState 36 = .ok (.aload_n 0, 1) := by decide +kernel
theorem dX11_addState_37 : decode cX11_addState 37 = .ok (.getfield 85, 3) := by decide +kernel
theorem dX11_addState_40 : decode cX11_addState 40 = .ok (.aload_n 0, 1) := by decide +kernel
theorem dX11_addState_41 : decode cX11_addState 41 = .ok (.getfield 254, 3) := by decide +kernel
theorem dX11_addState_44 : decode cX11_addState 44 = .ok (.iload_n 2, 1) := by decide +kernel
theorem dX11_addState_45 : decode cX11_addState 45 = .ok (.iastore, 1) := by decide +kernel
theorem dX11_addState_46 : decode cX11_addState 46 = .ok (.aload_n 0, 1) := by decide +kernel
theorem dX11_addState_47 : decode cX11_addState 47 = .ok (.getfield 88, 3) := by decide +kernel
theorem dX11_addState_50 : decode cX11_addState 50 = .ok (.aload_n 0, 1) := by decide +kernel
theorem dX11_addState_51 : decode cX11_addState 51 = .ok (.getfield 254, 3) := by decide +kernel
theorem dX11_addState_54 : decode cX11_addState 54 = .ok (.iload_n 3, 1) := by decide +kernel
theorem dX11_addState_55 : decode cX11_addState 55 = .ok (.iastore, 1) := by decide +kernel
theorem dX11_addState_56 : decode cX11_addState 56 = .ok (.aload_n 0, 1) := by decide +kernel
theorem dX11_addState_57 : decode cX11_addState 57 = .ok (.dup, 1) := by decide +kernel
theorem dX11_addState_58 : decode cX11_addState 58 = .ok (.getfield 254, 3) := by decide +kernel
theorem dX11_addState_61 : decode cX11_addState 61 = .ok (.iconst 1, 1) := by decide +kernel
theorem dX11_addState_62 : decode cX11_addState 62 = .ok (.iadd, 1) := by decide +kernel
theorem dX11_addState_63 : decode cX11_addState 63 = .ok (.putfield 254, 3) := by decide +kernel
theorem dX11_addState_66 : decode cX11_addState 66 = .ok (.return_, 1) := by decide +kernel
theorem dX11_beginStates_0 : decode cX11_beginStates 0 = .ok (.aload_n 0, 1) := by decide +kernel
theorem dX11_beginStates_1 : decode cX11_beginStates 1 = .ok (.iconst 0, 1) := by decide +kernel
theorem dX11_beginStates_2 : decode cX11_beginStates 2 = .ok (.putfield 254, 3) := by decide +kernel
theorem dX11_beginStates_5 : decode cX11_beginStates 5 = .ok (.aload_n 0, 1) := by decide +kernel
theorem dX11_beginStates_6 : decode cX11_beginStates 6 = .ok (.lconst 1, 1) := by decide +kernel
theorem dX11_beginStates_7 : decode cX11_beginStates 7 = .ok (.putfield 239, 3) := by decide +kernel
theorem dX11_beginStates_10 : decode cX11_beginStates 10 = .ok (.aload_n 0, 1) := by decide +kernel
theorem dX11_beginStates_11 : decode cX11_beginStates 11 = .ok (.lconst 0, 1) := by decide +kernel
theorem dX11_beginStates_12 : decode cX11_beginStates 12 = .ok (.putfield 243, 3) := by decide +kernel
theorem dX11_beginStates_15 : decode cX11_beginStates 15 = .ok (.iconst 0, 1) := by decide +kernel
theorem dX11_beginStates_16 : decode cX11_beginStates 16 = .ok (.istore_n 2, 1) := by decide +kernel
theorem dX11_beginStates_17 : decode cX11_beginStates 17 = .ok (.iload_n 2, 1) := by decide +kernel
theorem dX11_beginStates_18 : decode cX11_beginStates 18 = .ok (.aload_n 0, 1) := by decide +kernel
theorem dX11_beginStates_19 : decode cX11_beginStates 19 = .ok (.getfield 135, 3) := by decide +kernel
theorem dX11_beginStates_22 : decode cX11_beginStates 22 = .ok (.if_icmp .ge 37, 3) := by decide +kernel
theorem dX11_beginStates_25 : decode cX11_beginStates 25 = .ok (.iload_n 1, 1) := by decide +kernel
theorem dX11_beginStates_26 : decode cX11_beginStates 26 = .ok (.ifCond .eq 33, 3) := by decide +kernel
theorem dX11_beginStates_29 : decode cX11_beginStates 29 = .ok (.iconst 1, 1) := by decide +kernel
theorem dX11_beginStates_30 : decode cX11_beginStates 30 = .ok (.istore_n 3, 1) := by decide +kernel
theorem dX11_beginStates_31 : decode cX11_beginStates 31 = .ok (.iload_n 3, 1) := by decide +kernel
theorem dX11_beginStates_32 : decode cX11_beginStates 32 = .ok (.aload_n 0, 1) := by decide +kernel
theorem dX11_beginStates_33 : decode cX11_beginStates 33 = .ok (.getfield 13, 3) := by decide +kernel
theorem dX11_beginStates_36 : decode cX11_beginStates 36 = .ok (.iload_n 2, 1) := by decide +kernel
theorem dX11_beginStates_37 : decode cX11_beginStates 37 = .ok (.iaload, 1) := by decide +kernel
theorem dX11_beginStates_38 : decode cX11_beginStates 38 = .ok (.if_icmp .ge 15, 3) := by decide +kernel
theorem dX11_beginStates_41 : decode cX11_beginStates 41 = .ok (.aload_n 0, 1) := by decide +kernel
theorem dX11_beginStates_42 : decode cX11_beginStates 42 = .ok (.iload_n 2, 1) := by decide +kernel
theorem dX11_beginStates_43 : decode cX11_beginStates 43 = .ok (.iload_n 3, 1) := by decide +kernel
theorem dX11_beginStates_44 : decode cX11_beginStates 44 = .ok (.invokevirtual 246, 3) := by decide +kernel
theorem dX11_beginStates_47 : decode cX11_beginStates 47 = .ok (.iinc 3 1, 3) := by decide +kernel
theorem dX11_beginStates_50 : decode cX11_beginStates 50 = .ok (.goto (-19), 3) := by decide +kernel
theorem dX11_beginStates_53 : decode cX11_beginStates 53 = .ok (.iinc 2 1, 3) := by decide +kernel
theorem dX11_beginStates_56 : decode cX11_beginStates 56 = .ok (.goto (-39), 3) := by decide +kernel
theorem dX11_beginStates_59 : decode cX11_beginStates 59 = .ok (.aload_n 0, 1) := by decide +kernel
theorem dX11_beginStates_60 : decode cX11_beginStates 60 = .ok (.iconst (-1), 1) := by decide +kernel
theorem dX11_beginStates_61 : decode cX11_beginStates 61 = .ok (.iconst (-1), 1) := by decide +kernel
theorem dX11_beginStates_62 : decode cX11_beginStates 62 = .ok (.iconst 0, 1) := by decide +kernel
theorem dX11_beginStates_63 : decode cX11_beginStates 63 = .ok (.invokevirtual 257, 3) := by decide +kernel
theorem dX11_beginStates_66 : decode cX11_beginStates 66 = .ok (.return_, 1) := by decide +kernel
theorem dX11_layRow_0 : decode cX11_layRow 0 = .ok (.aload_n 0, 1) := by decide +kernel
theorem dX11_layRow_1 : decode cX11_layRow 1 = .ok (.aload_n 0, 1) := by decide +kernel
theorem dX11_layRow_2 : decode cX11_layRow 2 = .ok (.getfield 88, 3) := by decide +kernel
theorem dX11_layRow_5 : decode cX11_layRow 5 = .ok (.iload_n 1, 1) := by decide +kernel
theorem dX11_layRow_6 : decode cX11_layRow 6 = .ok (.iaload, 1) := by decide +kernel
theorem dX11_layRow_7 : decode cX11_layRow 7 = .ok (.iconst 1, 1) := by decide +kernel
theorem dX11_layRow_8 : decode cX11_layRow 8 = .ok (.iadd, 1) := by decide +kernel
theorem dX11_layRow_9 : decode cX11_layRow 9 = .ok (.putfield 260, 3) := by decide +kernel
theorem dX11_layRow_12 : decode cX11_layRow 12 = .ok (.aload_n 0, 1) := by decide +kernel
theorem dX11_layRow_13 : decode cX11_layRow 13 = .ok (.getfield 91, 3) := by decide +kernel
theorem dX11_layRow_16 : decode cX11_layRow 16 = .ok (.aload_n 0, 1) := by decide +kernel
theorem dX11_layRow_17 : decode cX11_layRow 17 = .ok (.getfield 260, 3) := by decide +kernel
theorem dX11_layRow_20 : decode cX11_layRow 20 = .ok (.iconst 1, 1) := by decide +kernel
theorem dX11_layRow_21 : decode cX11_layRow 21 = .ok (.isub, 1) := by decide +kernel
theorem dX11_layRow_22 : decode cX11_layRow 22 = .ok (.iload_n 2, 1) := by decide +kernel
theorem dX11_layRow_23 : decode cX11_layRow 23 = .ok (.iastore, 1) := by decide +kernel
theorem dX11_layRow_24 : decode cX11_layRow 24 = .ok (.iload_n 1, 1) := by decide +kernel
theorem dX11_layRow_25 : decode cX11_layRow 25 = .ok (.istore_n 3, 1) := by decide +kernel
theorem dX11_layRow_26 : decode cX11_layRow 26 = .ok (.aload_n 0, 1) := by decide +kernel
theorem dX11_layRow_27 : decode cX11_layRow 27 = .ok (.getfield 260, 3) := by decide +kernel
theorem dX11_layRow_30 : decode cX11_layRow 30 = .ok (.iconst 2, 1) := by decide +kernel
theorem dX11_layRow_31 : decode cX11_layRow 31 = .ok (.isub, 1) := by decide +kernel
theorem dX11_layRow_32 : decode cX11_layRow 32 = .ok (.istore 4, 2) := by decide +kernel
theorem dX11_layRow_34 : decode cX11_layRow 34 = .ok (.iload 4, 2) := by decide +kernel
theorem dX11_layRow_36 : decode cX11_layRow 36 = .ok (.ifCond .lt 29, 3) := by decide +kernel
theorem dX11_layRow_39 : decode cX11_layRow 39 = .ok (.aload_n 0, 1) := by decide +kernel
theorem dX11_layRow_40 : decode cX11_layRow 40 = .ok (.getfield 91, 3) := by decide +kernel
theorem dX11_layRow_43 : decode cX11_layRow 43 = .ok (.iload 4, 2) := by decide +kernel
theorem dX11_layRow_45 : decode cX11_layRow 45 = .ok (.aload_n 0, 1) := by decide +kernel
theorem dX11_layRow_46 : decode cX11_layRow 46 = .ok (.getfield 85, 3) := by decide +kernel
theorem dX11_layRow_49 : decode cX11_layRow 49 = .ok (.iload_n 3, 1) := by decide +kernel
theorem dX11_layRow_50 : decode cX11_layRow 50 = .ok (.iaload, 1) := by decide +kernel
theorem dX11_layRow_51 : decode cX11_layRow 51 = .ok (.iastore, 1) := by decide +kernel
theorem dX11_layRow_52 : decode cX11_layRow 52 = .ok (.aload_n 0, 1) := by decide +kernel
theorem dX11_layRow_53 : decode cX11_layRow 53 = .ok (.getfield 82, 3) := by decide +kernel
theorem dX11_layRow_56 : decode cX11_layRow 56 = .ok (.iload_n 3, 1) := by decide +kernel
theorem dX11_layRow_57 : decode cX11_layRow 57 = .ok (.iaload, 1) := by decide +kernel
theorem dX11_layRow_58 : decode cX11_layRow 58 = .ok (.istore_n 3, 1) := by decide +kernel
theorem dX11_layRow_59 : decode cX11_layRow 59 = .ok (.iinc 4 (-1), 3) := by decide +kernel
theorem dX11_layRow_62 : decode cX11_layRow 62 = .ok (.goto (-28), 3) := by decide +kernel
theorem dX11_layRow_65 : decode cX11_layRow 65 = .ok (.return_, 1) := by decide +kernel
theorem dX11_look_0 : decode cX11_look 0 = .ok (.aload_n 0, 1) := by decide +kernel
theorem dX11_look_1 : decode cX11_look 1 = .ok (.iconst 1, 1) := by decide +kernel
theorem dX11_look_2 : decode cX11_look 2 = .ok (.invokevirtual 263, 3) := by decide +kernel
theorem dX11_look_5 : decode cX11_look 5 = .ok (.aload_n 0, 1) := by decide +kernel
theorem dX11_look_6 : decode cX11_look 6 = .ok (.iconst 0, 1) := by decide +kernel
theorem dX11_look_7 : decode cX11_look 7 = .ok (.putfield 260, 3) := by decide +kernel
theorem dX11_look_10 : decode cX11_look 10 = .ok (.iload_n 1, 1) := by decide +kernel
theorem dX11_look_11 : decode cX11_look 11 = .ok (.ifCond .eq 27, 3) := by decide +kernel
theorem dX11_look_14 : decode cX11_look 14 = .ok (.aload_n 0, 1) := by decide +kernel
theorem dX11_look_15 : decode cX11_look 15 = .ok (.getfield 76, 3) := by decide +kernel
theorem dX11_look_18 : decode cX11_look 18 = .ok (.iconst 0, 1) := by decide +kernel
theorem dX11_look_19 : decode cX11_look 19 = .ok (.laload, 1) := by decide +kernel
theorem dX11_look_20 : decode cX11_look 20 = .ok (.lconst 1, 1) := by decide +kernel
theorem dX11_look_21 : decode cX11_look 21 = .ok (.lcmp, 1) := by decide +kernel
theorem dX11_look_22 : decode cX11_look 22 = .ok (.ifCond .ne 16, 3) := by decide +kernel
theorem dX11_look_25 : decode cX11_look 25 = .ok (.aload_n 0, 1) := by decide +kernel
theorem dX11_look_26 : decode cX11_look 26 = .ok (.getfield 79, 3) := by decide +kernel
theorem dX11_look_29 : decode cX11_look 29 = .ok (.iconst 0, 1) := by decide +kernel
theorem dX11_look_30 : decode cX11_look 30 = .ok (.laload, 1) := by decide +kernel
theorem dX11_look_31 : decode cX11_look 31 = .ok (.lconst 0, 1) := by decide +kernel
theorem dX11_look_32 : decode cX11_look 32 = .ok (.lcmp, 1) := by decide +kernel
theorem dX11_look_33 : decode cX11_look 33 = .ok (.ifCond .ne 5, 3) := by decide +kernel
theorem dX11_look_36 : decode cX11_look 36 = .ok (.iconst 0, 1) := by decide +kernel
theorem dX11_look_37 : decode cX11_look 37 = .ok (.ireturn, 1) := by decide +kernel
theorem dX11_look_38 : decode cX11_look 38 = .ok (.iconst 0, 1) := by decide +kernel
theorem dX11_look_39 : decode cX11_look 39 = .ok (.istore_n 2, 1) := by decide +kernel
theorem dX11_look_40 : decode cX11_look 40 = .ok (.iload_n 2, 1) := by decide +kernel
theorem dX11_look_41 : decode cX11_look 41 = .ok (.aload_n 0, 1) := by decide +kernel
theorem dX11_look_42 : decode cX11_look 42 = .ok (.getfield 254, 3) := by decide +kernel

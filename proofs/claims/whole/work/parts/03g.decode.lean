theorem dX11_look_45 : decode cX11_look 45 = .ok (.if_icmp .ge 148, 3) := by decide +kernel
theorem dX11_look_48 : decode cX11_look 48 = .ok (.aload_n 0, 1) := by decide +kernel
theorem dX11_look_49 : decode cX11_look 49 = .ok (.getfield 88, 3) := by decide +kernel
theorem dX11_look_52 : decode cX11_look 52 = .ok (.iload_n 2, 1) := by decide +kernel
theorem dX11_look_53 : decode cX11_look 53 = .ok (.iaload, 1) := by decide +kernel
theorem dX11_look_54 : decode cX11_look 54 = .ok (.bipush 12, 2) := by decide +kernel
theorem dX11_look_56 : decode cX11_look 56 = .ok (.if_icmp .ge 137, 3) := by decide +kernel
theorem dX11_look_59 : decode cX11_look 59 = .ok (.iconst 0, 1) := by decide +kernel
theorem dX11_look_60 : decode cX11_look 60 = .ok (.istore_n 3, 1) := by decide +kernel
theorem dX11_look_61 : decode cX11_look 61 = .ok (.iload_n 3, 1) := by decide +kernel
theorem dX11_look_62 : decode cX11_look 62 = .ok (.aload_n 0, 1) := by decide +kernel
theorem dX11_look_63 : decode cX11_look 63 = .ok (.getfield 124, 3) := by decide +kernel
theorem dX11_look_66 : decode cX11_look 66 = .ok (.if_icmp .ge 121, 3) := by decide +kernel
theorem dX11_look_69 : decode cX11_look 69 = .ok (.aload_n 0, 1) := by decide +kernel
theorem dX11_look_70 : decode cX11_look 70 = .ok (.iload_n 2, 1) := by decide +kernel
theorem dX11_look_71 : decode cX11_look 71 = .ok (.iload_n 3, 1) := by decide +kernel
theorem dX11_look_72 : decode cX11_look 72 = .ok (.invokevirtual 267, 3) := by decide +kernel
theorem dX11_look_75 : decode cX11_look 75 = .ok (.aload_n 0, 1) := by decide +kernel
theorem dX11_look_76 : decode cX11_look 76 = .ok (.getfield 239, 3) := by decide +kernel
theorem dX11_look_79 : decode cX11_look 79 = .ok (.lconst 0, 1) := by decide +kernel
theorem dX11_look_80 : decode cX11_look 80 = .ok (.lcmp, 1) := by decide +kernel
theorem dX11_look_81 : decode cX11_look 81 = .ok (.ifCond .ne 16, 3) := by decide +kernel
theorem dX11_look_84 : decode cX11_look 84 = .ok (.aload_n 0, 1) := by decide +kernel
theorem dX11_look_85 : decode cX11_look 85 = .ok (.getfield 243, 3) := by decide +kernel
theorem dX11_look_88 : decode cX11_look 88 = .ok (.lconst 0, 1) := by decide +kernel
theorem dX11_look_89 : decode cX11_look 89 = .ok (.lcmp, 1) := by decide +kernel
theorem dX11_look_90 : decode cX11_look 90 = .ok (.ifCond .ne 7, 3) := by decide +kernel
theorem dX11_look_93 : decode cX11_look 93 = .ok (.iconst 1, 1) := by decide +kernel
theorem dX11_look_94 : decode cX11_look 94 = .ok (.goto 4, 3) := by decide +kernel
theorem dX11_look_97 : decode cX11_look 97 = .ok (.iconst 0, 1) := by decide +kernel
theorem dX11_look_98 : decode cX11_look 98 = .ok (.istore 4, 2) := by decide +kernel
theorem dX11_look_100 : decode cX11_look 100 = .ok (.iload_n 1, 1) := by decide +kernel
theorem dX11_look_101 : decode cX11_look 101 = .ok (.ifCond .eq 24, 3) := by decide +kernel
theorem dX11_look_104 : decode cX11_look 104 = .ok (.aload_n 0, 1) := by decide +kernel
theorem dX11_look_105 : decode cX11_look 105 = .ok (.getfield 239, 3) := by decide +kernel
theorem dX11_look_108 : decode cX11_look 108 = .ok (.lconst 1, 1) := by decide +kernel
theorem dX11_look_109 : decode cX11_look 109 = .ok (.lcmp, 1) := by decide +kernel
theorem dX11_look_110 : decode cX11_look 110 = .ok (.ifCond .ne 31, 3) := by decide +kernel
theorem dX11_look_113 : decode cX11_look 113 = .ok (.aload_n 0, 1) := by decide +kernel
theorem dX11_look_114 : decode cX11_look 114 = .ok (.getfield 243, 3) := by decide +kernel
theorem dX11_look_117 : decode cX11_look 117 = .ok (.lconst 0, 1) := by decide +kernel
theorem dX11_look_118 : decode cX11_look 118 = .ok (.lcmp, 1) := by decide +kernel
theorem dX11_look_119 : decode cX11_look 119 = .ok (.ifCond .ne 22, 3) := by decide +kernel
theorem dX11_look_122 : decode cX11_look 122 = .ok (.goto 8, 3) := by decide +kernel
theorem dX11_look_125 : decode cX11_look 125 = .ok (.iload 4, 2) := by decide +kernel
theorem dX11_look_127 : decode cX11_look 127 = .ok (.ifCond .eq 14, 3) := by decide +kernel
theorem dX11_look_130 : decode cX11_look 130 = .ok (.aload_n 0, 1) := by decide +kernel
theorem dX11_look_131 : decode cX11_look 131 = .ok (.iload_n 2, 1) := by decide +kernel
theorem dX11_look_132 : decode cX11_look 132 = .ok (.iload_n 3, 1) := by decide +kernel
theorem dX11_look_133 : decode cX11_look 133 = .ok (.invokevirtual 270, 3) := by decide +kernel
theorem dX11_look_136 : decode cX11_look 136 = .ok (.aload_n 0, 1) := by decide +kernel
theorem dX11_look_137 : decode cX11_look 137 = .ok (.getfield 260, 3) := by decide +kernel
theorem dX11_look_140 : decode cX11_look 140 = .ok (.ireturn, 1) := by decide +kernel
theorem dX11_look_141 : decode cX11_look 141 = .ok (.iload 4, 2) := by decide +kernel
theorem dX11_look_143 : decode cX11_look 143 = .ok (.ifCond .ne 38, 3) := by decide +kernel
theorem dX11_look_146 : decode cX11_look 146 = .ok (.aload_n 0, 1) := by decide +kernel
theorem dX11_look_147 : decode cX11_look 147 = .ok (.invokevirtual 273, 3) := by decide +kernel
theorem dX11_look_150 : decode cX11_look 150 = .ok (.ifCond .ge 31, 3) := by decide +kernel
theorem dX11_look_153 : decode cX11_look 153 = .ok (.aload_n 0, 1) := by decide +kernel
theorem dX11_look_154 : decode cX11_look 154 = .ok (.getfield 254, 3) := by decide +kernel
theorem dX11_look_157 : decode cX11_look 157 = .ok (.sipush 2000, 3) := by decide +kernel
theorem dX11_look_160 : decode cX11_look 160 = .ok (.if_icmp .ne 7, 3) := by decide +kernel
theorem dX11_look_163 : decode cX11_look 163 = .ok (.sipush (-1005), 3) := by decide +kernel
theorem dX11_look_166 : decode cX11_look 166 = .ok (.ireturn, 1) := by decide +kernel
theorem dX11_look_167 : decode cX11_look 167 = .ok (.aload_n 0, 1) := by decide +kernel
theorem dX11_look_168 : decode cX11_look 168 = .ok (.iload_n 2, 1) := by decide +kernel
theorem dX11_look_169 : decode cX11_look 169 = .ok (.iload_n 3, 1) := by decide +kernel
theorem dX11_look_170 : decode cX11_look 170 = .ok (.aload_n 0, 1) := by decide +kernel
theorem dX11_look_171 : decode cX11_look 171 = .ok (.getfield 88, 3) := by decide +kernel
theorem dX11_look_174 : decode cX11_look 174 = .ok (.iload_n 2, 1) := by decide +kernel
theorem dX11_look_175 : decode cX11_look 175 = .ok (.iaload, 1) := by decide +kernel
theorem dX11_look_176 : decode cX11_look 176 = .ok (.iconst 1, 1) := by decide +kernel
theorem dX11_look_177 : decode cX11_look 177 = .ok (.iadd, 1) := by decide +kernel
theorem dX11_look_178 : decode cX11_look 178 = .ok (.invokevirtual 257, 3) := by decide +kernel
theorem dX11_look_181 : decode cX11_look 181 = .ok (.iinc 3 1, 3) := by decide +kernel
theorem dX11_look_184 : decode cX11_look 184 = .ok (.goto (-123), 3) := by decide +kernel
theorem dX11_look_187 : decode cX11_look 187 = .ok (.iinc 2 1, 3) := by decide +kernel
theorem dX11_look_190 : decode cX11_look 190 = .ok (.goto (-150), 3) := by decide +kernel
theorem dX11_look_193 : decode cX11_look 193 = .ok (.iconst (-1), 1) := by decide +kernel
theorem dX11_look_194 : decode cX11_look 194 = .ok (.ireturn, 1) := by decide +kernel
theorem dX11_shortest_0 : decode cX11_shortest 0 = .ok (.aload_n 0, 1) := by decide +kernel
theorem dX11_shortest_1 : decode cX11_shortest 1 = .ok (.getfield 135, 3) := by decide +kernel
theorem dX11_shortest_4 : decode cX11_shortest 4 = .ok (.ifCond .ne 7, 3) := by decide +kernel
theorem dX11_shortest_7 : decode cX11_shortest 7 = .ok (.sipush (-1003), 3) := by decide +kernel
theorem dX11_shortest_10 : decode cX11_shortest 10 = .ok (.ireturn, 1) := by decide +kernel
theorem dX11_shortest_11 : decode cX11_shortest 11 = .ok (.aload_n 0, 1) := by decide +kernel
theorem dX11_shortest_12 : decode cX11_shortest 12 = .ok (.iload_n 1, 1) := by decide +kernel
theorem dX11_shortest_13 : decode cX11_shortest 13 = .ok (.invokevirtual 276, 3) := by decide +kernel
theorem dX11_shortest_16 : decode cX11_shortest 16 = .ok (.istore_n 3, 1) := by decide +kernel
theorem dX11_shortest_17 : decode cX11_shortest 17 = .ok (.iload_n 3, 1) := by decide +kernel
theorem dX11_shortest_18 : decode cX11_shortest 18 = .ok (.ifCond .lt 8, 3) := by decide +kernel
theorem dX11_shortest_21 : decode cX11_shortest 21 = .ok (.iload_n 2, 1) := by decide +kernel
theorem dX11_shortest_22 : decode cX11_shortest 22 = .ok (.iconst (-1), 1) := by decide +kernel
theorem dX11_shortest_23 : decode cX11_shortest 23 = .ok (.if_icmp .ne 7, 3) := by decide +kernel
theorem dX11_shortest_26 : decode cX11_shortest 26 = .ok (.iload_n 3, 1) := by decide +kernel
theorem dX11_shortest_27 : decode cX11_shortest 27 = .ok (.goto 26, 3) := by decide +kernel
theorem dX11_shortest_30 : decode cX11_shortest 30 = .ok (.iload_n 2, 1) := by decide +kernel
theorem dX11_shortest_31 : decode cX11_shortest 31 = .ok (.i2l, 1) := by decide +kernel
theorem dX11_shortest_32 : decode cX11_shortest 32 = .ok (.lconst 0, 1) := by decide +kernel
theorem dX11_shortest_33 : decode cX11_shortest 33 = .ok (.iload_n 3, 1) := by decide +kernel
theorem dX11_shortest_34 : decode cX11_shortest 34 = .ok (.iconst 1, 1) := by decide +kernel
theorem dX11_shortest_35 : decode cX11_shortest 35 = .ok (.isub, 1) := by decide +kernel
theorem dX11_shortest_36 : decode cX11_shortest 36 = .ok (.i2l, 1) := by decide +kernel
theorem dX11_shortest_37 : decode cX11_shortest 37 = .ok (.invokestatic 131, 3) := by decide +kernel
theorem dX11_shortest_40 : decode cX11_shortest 40 = .ok (.ifCond .eq 12, 3) := by decide +kernel
theorem dX11_shortest_43 : decode cX11_shortest 43 = .ok (.aload_n 0, 1) := by decide +kernel
theorem dX11_shortest_44 : decode cX11_shortest 44 = .ok (.getfield 91, 3) := by decide +kernel
theorem dX11_shortest_47 : decode cX11_shortest 47 = .ok (.iload_n 2, 1) := by decide +kernel
theorem dX11_shortest_48 : decode cX11_shortest 48 = .ok (.iaload, 1) := by decide +kernel
theorem dX11_shortest_49 : decode cX11_shortest 49 = .ok (.goto 4, 3) := by decide +kernel
theorem dX11_shortest_52 : decode cX11_shortest 52 = .ok (.iconst (-1), 1) := by decide +kernel
theorem dX11_shortest_53 : decode cX11_shortest 53 = .ok (.ireturn, 1) := by decide +kernel
theorem dX11_key_0 : decode cX11_key 0 = .ok (.aload_n 0, 1) := by decide +kernel
theorem dX11_key_1 : decode cX11_key 1 = .ok (.iconst 1, 1) := by decide +kernel
theorem dX11_key_2 : decode cX11_key 2 = .ok (.iload_n 1, 1) := by decide +kernel
theorem dX11_key_3 : decode cX11_key 3 = .ok (.invokevirtual 279, 3) := by decide +kernel
theorem dX11_key_6 : decode cX11_key 6 = .ok (.ireturn, 1) := by decide +kernel
theorem dX11_strange_0 : decode cX11_strange 0 = .ok (.aload_n 0, 1) := by decide +kernel
theorem dX11_strange_1 : decode cX11_strange 1 = .ok (.iconst 0, 1) := by decide +kernel
theorem dX11_strange_2 : decode cX11_strange 2 = .ok (.iload_n 1, 1) := by decide +kernel
theorem dX11_strange_3 : decode cX11_strange 3 = .ok (.invokevirtual 279, 3) := by decide +kernel
theorem dX11_strange_6 : decode cX11_strange 6 = .ok (.ireturn, 1) := by decide +kernel
theorem dX11_ways_0 : decode cX11_ways 0 = .ok (.iload_n 1, 1) := by decide +kernel
theorem dX11_ways_1 : decode cX11_ways 1 = .ok (.i2l, 1) := by decide +kernel
theorem dX11_ways_2 : decode cX11_ways 2 = .ok (.lconst 0, 1) := by decide +kernel
theorem dX11_ways_3 : decode cX11_ways 3 = .ok (.ldc2_w 283, 3) := by decide +kernel
theorem dX11_ways_6 : decode cX11_ways 6 = .ok (.invokestatic 131, 3) := by decide +kernel
theorem dX11_ways_9 : decode cX11_ways 9 = .ok (.ifCond .ne 7, 3) := by decide +kernel
theorem dX11_ways_12 : decode cX11_ways 12 = .ok (.ldc2_w 285, 3) := by decide +kernel
theorem dX11_ways_15 : decode cX11_ways 15 = .ok (.lreturn, 1) := by decide +kernel
theorem dX11_ways_16 : decode cX11_ways 16 = .ok (.aload_n 0, 1) := by decide +kernel
theorem dX11_ways_17 : decode cX11_ways 17 = .ok (.getfield 94, 3) := by decide +kernel
theorem dX11_ways_20 : decode cX11_ways 20 = .ok (.iconst 0, 1) := by decide +kernel
theorem dX11_ways_21 : decode cX11_ways 21 = .ok (.lconst 1, 1) := by decide +kernel
theorem dX11_ways_22 : decode cX11_ways 22 = .ok (.lastore, 1) := by decide +kernel
theorem dX11_ways_23 : decode cX11_ways 23 = .ok (.iconst 1, 1) := by decide +kernel
theorem dX11_ways_24 : decode cX11_ways 24 = .ok (.istore_n 2, 1) := by decide +kernel
theorem dX11_ways_25 : decode cX11_ways 25 = .ok (.iload_n 2, 1) := by decide +kernel
theorem dX11_ways_26 : decode cX11_ways 26 = .ok (.iload_n 1, 1) := by decide +kernel
theorem dX11_ways_27 : decode cX11_ways 27 = .ok (.if_icmp .gt 82, 3) := by decide +kernel
theorem dX11_ways_30 : decode cX11_ways 30 = .ok (.lconst 0, 1) := by decide +kernel
theorem dX11_ways_31 : decode cX11_ways 31 = .ok (.lstore_n 3, 1) := by decide +kernel
theorem dX11_ways_32 : decode cX11_ways 32 = .ok (.iconst 0, 1) := by decide +kernel
theorem dX11_ways_33 : decode cX11_ways 33 = .ok (.istore 5, 2) := by decide +kernel
theorem dX11_ways_35 : decode cX11_ways 35 = .ok (.iload 5, 2) := by decide +kernel
theorem dX11_ways_37 : decode cX11_ways 37 = .ok (.aload_n 0, 1) := by decide +kernel
theorem dX11_ways_38 : decode cX11_ways 38 = .ok (.getfield 135, 3) := by decide +kernel
theorem dX11_ways_41 : decode cX11_ways 41 = .ok (.if_icmp .ge 41, 3) := by decide +kernel
theorem dX11_ways_44 : decode cX11_ways 44 = .ok (.lload_n 3, 1) := by decide +kernel
theorem dX11_ways_45 : decode cX11_ways 45 = .ok (.aload_n 0, 1) := by decide +kernel
theorem dX11_ways_46 : decode cX11_ways 46 = .ok (.getfield 13, 3) := by decide +kernel
theorem dX11_ways_49 : decode cX11_ways 49 = .ok (.iload 5, 2) := by decide +kernel
theorem dX11_ways_51 : decode cX11_ways 51 = .ok (.iaload, 1) := by decide +kernel
theorem dX11_ways_52 : decode cX11_ways 52 = .ok (.iload_n 2, 1) := by decide +kernel
theorem dX11_ways_53 : decode cX11_ways 53 = .ok (.if_icmp .gt 20, 3) := by decide +kernel
theorem dX11_ways_56 : decode cX11_ways 56 = .ok (.aload_n 0, 1) := by decide +kernel
theorem dX11_ways_57 : decode cX11_ways 57 = .ok (.getfield 94, 3) := by decide +kernel
theorem dX11_ways_60 : decode cX11_ways 60 = .ok (.iload_n 2, 1) := by decide +kernel
theorem dX11_ways_61 : decode cX11_ways 61 = .ok (.aload_n 0, 1) := by decide +kernel
theorem dX11_ways_62 : decode cX11_ways 62 = .ok (.getfield 13, 3) := by decide +kernel
theorem dX11_ways_65 : decode cX11_ways 65 = .ok (.iload 5, 2) := by decide +kernel
theorem dX11_ways_67 : decode cX11_ways 67 = .ok (.iaload, 1) := by decide +kernel
theorem dX11_ways_68 : decode cX11_ways 68 = .ok (.isub, 1) := by decide +kernel
theorem dX11_ways_69 : decode cX11_ways 69 = .ok (.laload, 1) := by decide +kernel
theorem dX11_ways_70 : decode cX11_ways 70 = .ok (.goto 4, 3) := by decide +kernel
theorem dX11_ways_73 : decode cX11_ways 73 = .ok (.lconst 0, 1) := by decide +kernel
theorem dX11_ways_74 : decode cX11_ways 74 = .ok (.ladd, 1) := by decide +kernel
theorem dX11_ways_75 : decode cX11_ways 75 = .ok (.lstore_n 3, 1) := by decide +kernel
theorem dX11_ways_76 : decode cX11_ways 76 = .ok (.iinc 5 1, 3) := by decide +kernel
theorem dX11_ways_79 : decode cX11_ways 79 = .ok (.goto (-44), 3) := by decide +kernel
theorem dX11_ways_82 : decode cX11_ways 82 = .ok (.aload_n 0, 1) := by decide +kernel
theorem dX11_ways_83 : decode cX11_ways 83 = .ok (.getfield 94, 3) := by decide +kernel
theorem dX11_ways_86 : decode cX11_ways 86 = .ok (.iload_n 2, 1) := by decide +kernel
theorem dX11_ways_87 : decode cX11_ways 87 = .ok (.lload_n 3, 1) := by decide +kernel
theorem dX11_ways_88 : decode cX11_ways 88 = .ok (.ldc2_w 199, 3) := by decide +kernel
theorem dX11_ways_91 : decode cX11_ways 91 = .ok (.lcmp, 1) := by decide +kernel
theorem dX11_ways_92 : decode cX11_ways 92 = .ok (.ifCond .le 9, 3) := by decide +kernel
theorem dX11_ways_95 : decode cX11_ways 95 = .ok (.ldc2_w 199, 3) := by decide +kernel
theorem dX11_ways_98 : decode cX11_ways 98 = .ok (.goto 4, 3) := by decide +kernel
theorem dX11_ways_101 : decode cX11_ways 101 = .ok (.lload_n 3, 1) := by decide +kernel
theorem dX11_ways_102 : decode cX11_ways 102 = .ok (.lastore, 1) := by decide +kernel
theorem dX11_ways_103 : decode cX11_ways 103 = .ok (.iinc 2 1, 3) := by decide +kernel
theorem dX11_ways_106 : decode cX11_ways 106 = .ok (.goto (-81), 3) := by decide +kernel
theorem dX11_ways_109 : decode cX11_ways 109 = .ok (.aload_n 0, 1) := by decide +kernel
theorem dX11_ways_110 : decode cX11_ways 110 = .ok (.getfield 94, 3) := by decide +kernel
theorem dX11_ways_113 : decode cX11_ways 113 = .ok (.iload_n 1, 1) := by decide +kernel
theorem dX11_ways_114 : decode cX11_ways 114 = .ok (.laload, 1) := by decide +kernel
theorem dX11_ways_115 : decode cX11_ways 115 = .ok (.ldc2_w 222, 3) := by decide +kernel
theorem dX11_ways_118 : decode cX11_ways 118 = .ok (.lcmp, 1) := by decide +kernel
theorem dX11_ways_119 : decode cX11_ways 119 = .ok (.ifCond .le 9, 3) := by decide +kernel
theorem dX11_ways_122 : decode cX11_ways 122 = .ok (.ldc2_w 224, 3) := by decide +kernel
theorem dX11_ways_125 : decode cX11_ways 125 = .ok (.goto 9, 3) := by decide +kernel
theorem dX11_ways_128 : decode cX11_ways 128 = .ok (.aload_n 0, 1) := by decide +kernel
theorem dX11_ways_129 : decode cX11_ways 129 = .ok (.getfield 94, 3) := by decide +kernel
theorem dX11_ways_132 : decode cX11_ways 132 = .ok (.iload_n 1, 1) := by decide +kernel
theorem dX11_ways_133 : decode cX11_ways 133 = .ok (.laload, 1) := by decide +kernel
theorem dX11_ways_134 : decode cX11_ways 134 = .ok (.lreturn, 1) := by decide +kernel
theorem dX11_rows_0 : decode cX11_rows 0 = .ok (.iload_n 1, 1) := by decide +kernel
theorem dX11_rows_1 : decode cX11_rows 1 = .ok (.i2l, 1) := by decide +kernel
theorem dX11_rows_2 : decode cX11_rows 2 = .ok (.lconst 0, 1) := by decide +kernel
theorem dX11_rows_3 : decode cX11_rows 3 = .ok (.ldc2_w 287, 3) := by decide +kernel
theorem dX11_rows_6 : decode cX11_rows 6 = .ok (.invokestatic 131, 3) := by decide +kernel
theorem dX11_rows_9 : decode cX11_rows 9 = .ok (.ifCond .ne 7, 3) := by decide +kernel
theorem dX11_rows_12 : decode cX11_rows 12 = .ok (.ldc2_w 285, 3) := by decide +kernel
theorem dX11_rows_15 : decode cX11_rows 15 = .ok (.lreturn, 1) := by decide +kernel
theorem dX11_rows_16 : decode cX11_rows 16 = .ok (.aload_n 0, 1) := by decide +kernel
theorem dX11_rows_17 : decode cX11_rows 17 = .ok (.iconst 0, 1) := by decide +kernel
theorem dX11_rows_18 : decode cX11_rows 18 = .ok (.invokevirtual 263, 3) := by decide +kernel
theorem dX11_rows_21 : decode cX11_rows 21 = .ok (.iconst 0, 1) := by decide +kernel
theorem dX11_rows_22 : decode cX11_rows 22 = .ok (.istore_n 2, 1) := by decide +kernel
theorem dX11_rows_23 : decode cX11_rows 23 = .ok (.iload_n 2, 1) := by decide +kernel
theorem dX11_rows_24 : decode cX11_rows 24 = .ok (.sipush 2000, 3) := by decide +kernel
theorem dX11_rows_27 : decode cX11_rows 27 = .ok (.if_icmp .gt 28, 3) := by decide +kernel
theorem dX11_rows_30 : decode cX11_rows 30 = .ok (.aload_n 0, 1) := by decide +kernel
theorem dX11_rows_31 : decode cX11_rows 31 = .ok (.getfield 97, 3) := by decide +kernel
theorem dX11_rows_34 : decode cX11_rows 34 = .ok (.iload_n 2, 1) := by decide +kernel
theorem dX11_rows_35 : decode cX11_rows 35 = .ok (.iload_n 2, 1) := by decide +kernel
theorem dX11_rows_36 : decode cX11_rows 36 = .ok (.ifCond .ne 7, 3) := by decide +kernel
theorem dX11_rows_39 : decode cX11_rows 39 = .ok (.iconst 1, 1) := by decide +kernel
theorem dX11_rows_40 : decode cX11_rows 40 = .ok (.goto 4, 3) := by decide +kernel
theorem dX11_rows_43 : decode cX11_rows 43 = .ok (.iconst 0, 1) := by decide +kernel
theorem dX11_rows_44 : decode cX11_rows 44 = .ok (.invokestatic 195, 3) := by decide +kernel
theorem dX11_rows_47 : decode cX11_rows 47 = .ok (.i2l, 1) := by decide +kernel
theorem dX11_rows_48 : decode cX11_rows 48 = .ok (.lastore, 1) := by decide +kernel
theorem dX11_rows_49 : decode cX11_rows 49 = .ok (.iinc 2 1, 3) := by decide +kernel
theorem dX11_rows_52 : decode cX11_rows 52 = .ok (.goto (-29), 3) := by decide +kernel
theorem dX11_rows_55 : decode cX11_rows 55 = .ok (.iconst 0, 1) := by decide +kernel
theorem dX11_rows_56 : decode cX11_rows 56 = .ok (.istore_n 2, 1) := by decide +kernel
theorem dX11_rows_57 : decode cX11_rows 57 = .ok (.iload_n 2, 1) := by decide +kernel
theorem dX11_rows_58 : decode cX11_rows 58 = .ok (.iload_n 1, 1) := by decide +kernel
theorem dX11_rows_59 : decode cX11_rows 59 = .ok (.if_icmp .ge 205, 3) := by decide +kernel
theorem dX11_rows_62 : decode cX11_rows 62 = .ok (.aload_n 0, 1) := by decide +kernel
theorem dX11_rows_63 : decode cX11_rows 63 = .ok (.getfield 254, 3) := by decide +kernel
theorem dX11_rows_66 : decode cX11_rows 66 = .ok (.istore_n 3, 1) := by decide +kernel
theorem dX11_rows_67 : decode cX11_rows 67 = .ok (.iconst 0, 1) := by decide +kernel
theorem dX11_rows_68 : decode cX11_rows 68 = .ok (.istore 4, 2) := by decide +kernel
theorem dX11_rows_70 : decode cX11_rows 70 = .ok (.iload 4, 2) := by decide +kernel
theorem dX11_rows_72 : decode cX11_rows 72 = .ok (.sipush 2000, 3) := by decide +kernel
theorem dX11_rows_75 : decode cX11_rows 75 = .ok (.if_icmp .gt 17, 3) := by decide +kernel
theorem dX11_rows_78 : decode cX11_rows 78 = .ok (.aload_n 0, 1) := by decide +kernel
theorem dX11_rows_79 : decode cX11_rows 79 = .ok (.getfield 100, 3) := by decide +kernel
theorem dX11_rows_82 : decode cX11_rows 82 = .ok (.iload 4, 2) := by decide +kernel
theorem dX11_rows_84 : decode cX11_rows 84 = .ok (.lconst 0, 1) := by decide +kernel
theorem dX11_rows_85 : decode cX11_rows 85 = .ok (.lastore, 1) := by decide +kernel
theorem dX11_rows_86 : decode cX11_rows 86 = .ok (.iinc 4 1, 3) := by decide +kernel
theorem dX11_rows_89 : decode cX11_rows 89 = .ok (.goto (-19), 3) := by decide +kernel
theorem dX11_rows_92 : decode cX11_rows 92 = .ok (.iconst 0, 1) := by decide +kernel
theorem dX11_rows_93 : decode cX11_rows 93 = .ok (.istore 4, 2) := by decide +kernel
theorem dX11_rows_95 : decode cX11_rows 95 = .ok (.iload 4, 2) := by decide +kernel
theorem dX11_rows_97 : decode cX11_rows 97 = .ok (.iload_n 3, 1) := by decide +kernel
theorem dX11_rows_98 : decode cX11_rows 98 = .ok (.if_icmp .ge 129, 3) := by decide +kernel
theorem dX11_rows_101 : decode cX11_rows 101 = .ok (.iconst 0, 1) := by decide +kernel
theorem dX11_rows_102 : decode cX11_rows 102 = .ok (.istore 5, 2) := by decide +kernel
theorem dX11_rows_104 : decode cX11_rows 104 = .ok (.iload 5, 2) := by decide +kernel
theorem dX11_rows_106 : decode cX11_rows 106 = .ok (.aload_n 0, 1) := by decide +kernel
theorem dX11_rows_107 : decode cX11_rows 107 = .ok (.getfield 124, 3) := by decide +kernel
theorem dX11_rows_110 : decode cX11_rows 110 = .ok (.if_icmp .ge 111, 3) := by decide +kernel
theorem dX11_rows_113 : decode cX11_rows 113 = .ok (.aload_n 0, 1) := by decide +kernel
theorem dX11_rows_114 : decode cX11_rows 114 = .ok (.getfield 97, 3) := by decide +kernel
theorem dX11_rows_117 : decode cX11_rows 117 = .ok (.iload 4, 2) := by decide +kernel
theorem dX11_rows_119 : decode cX11_rows 119 = .ok (.laload, 1) := by decide +kernel
theorem dX11_rows_120 : decode cX11_rows 120 = .ok (.lconst 0, 1) := by decide +kernel
theorem dX11_rows_121 : decode cX11_rows 121 = .ok (.lcmp, 1) := by decide +kernel
theorem dX11_rows_122 : decode cX11_rows 122 = .ok (.ifCond .le 99, 3) := by decide +kernel
theorem dX11_rows_125 : decode cX11_rows 125 = .ok (.aload_n 0, 1) := by decide +kernel
theorem dX11_rows_126 : decode cX11_rows 126 = .ok (.iload 4, 2) := by decide +kernel
theorem dX11_rows_128 : decode cX11_rows 128 = .ok (.iload 5, 2) := by decide +kernel
theorem dX11_rows_130 : decode cX11_rows 130 = .ok (.invokevirtual 267, 3) := by decide +kernel
theorem dX11_rows_133 : decode cX11_rows 133 = .ok (.aload_n 0, 1) := by decide +kernel
theorem dX11_rows_134 : decode cX11_rows 134 = .ok (.getfield 239, 3) := by decide +kernel
theorem dX11_rows_137 : decode cX11_rows 137 = .ok (.lconst 0, 1) := by decide +kernel
theorem dX11_rows_138 : decode cX11_rows 138 = .ok (.lcmp, 1) := by decide +kernel
theorem dX11_rows_139 : decode cX11_rows 139 = .ok (.ifCond .ne 12, 3) := by decide +kernel
theorem dX11_rows_142 : decode cX11_rows 142 = .ok (.aload_n 0, 1) := by decide +kernel
theorem dX11_rows_143 : decode cX11_rows 143 = .ok (.getfield 243, 3) := by decide +kernel
theorem dX11_rows_146 : decode cX11_rows 146 = .ok (.lconst 0, 1) := by decide +kernel
theorem dX11_rows_147 : decode cX11_rows 147 = .ok (.lcmp, 1) := by decide +kernel
theorem dX11_rows_148 : decode cX11_rows 148 = .ok (.ifCond .eq 67, 3) := by decide +kernel
theorem dX11_rows_151 : decode cX11_rows 151 = .ok (.aload_n 0, 1) := by decide +kernel
theorem dX11_rows_152 : decode cX11_rows 152 = .ok (.invokevirtual 273, 3) := by decide +kernel
theorem dX11_rows_155 : decode cX11_rows 155 = .ok (.istore 6, 2) := by decide +kernel
theorem dX11_rows_157 : decode cX11_rows 157 = .ok (.iload 6, 2) := by decide +kernel
theorem dX11_rows_159 : decode cX11_rows 159 = .ok (.ifCond .ge 34, 3) := by decide +kernel
theorem dX11_rows_162 : decode cX11_rows 162 = .ok (.aload_n 0, 1) := by decide +kernel
theorem dX11_rows_163 : decode cX11_rows 163 = .ok (.getfield 254, 3) := by decide +kernel
theorem dX11_rows_166 : decode cX11_rows 166 = .ok (.sipush 2000, 3) := by decide +kernel
theorem dX11_rows_169 : decode cX11_rows 169 = .ok (.if_icmp .ne 7, 3) := by decide +kernel
theorem dX11_rows_172 : decode cX11_rows 172 = .ok (.ldc2_w 224, 3) := by decide +kernel
theorem dX11_rows_175 : decode cX11_rows 175 = .ok (.lreturn, 1) := by decide +kernel
theorem dX11_rows_176 : decode cX11_rows 176 = .ok (.aload_n 0, 1) := by decide +kernel
theorem dX11_rows_177 : decode cX11_rows 177 = .ok (.getfield 254, 3) := by decide +kernel
theorem dX11_rows_180 : decode cX11_rows 180 = .ok (.istore 6, 2) := by decide +kernel
theorem dX11_rows_182 : decode cX11_rows 182 = .ok (.aload_n 0, 1) := by decide +kernel
theorem dX11_rows_183 : decode cX11_rows 183 = .ok (.iload 4, 2) := by decide +kernel
theorem dX11_rows_185 : decode cX11_rows 185 = .ok (.iload 5, 2) := by decide +kernel
theorem dX11_rows_187 : decode cX11_rows 187 = .ok (.iload_n 2, 1) := by decide +kernel
theorem dX11_rows_188 : decode cX11_rows 188 = .ok (.iconst 1, 1) := by decide +kernel
theorem dX11_rows_189 : decode cX11_rows 189 = .ok (.iadd, 1) := by decide +kernel
theorem dX11_rows_190 : decode cX11_rows 190 = .ok (.invokevirtual 257, 3) := by decide +kernel
theorem dX11_rows_193 : decode cX11_rows 193 = .ok (.aload_n 0, 1) := by decide +kernel
theorem dX11_rows_194 : decode cX11_rows 194 = .ok (.getfield 100, 3) := by decide +kernel
theorem dX11_rows_197 : decode cX11_rows 197 = .ok (.iload 6, 2) := by decide +kernel
theorem dX11_rows_199 : decode cX11_rows 199 = .ok (.aload_n 0, 1) := by decide +kernel
theorem dX11_rows_200 : decode cX11_rows 200 = .ok (.getfield 100, 3) := by decide +kernel
theorem dX11_rows_203 : decode cX11_rows 203 = .ok (.iload 6, 2) := by decide +kernel
theorem dX11_rows_205 : decode cX11_rows 205 = .ok (.laload, 1) := by decide +kernel
theorem dX11_rows_206 : decode cX11_rows 206 = .ok (.aload_n 0, 1) := by decide +kernel
theorem dX11_rows_207 : decode cX11_rows 207 = .ok (.getfield 97, 3) := by decide +kernel
theorem dX11_rows_210 : decode cX11_rows 210 = .ok (.iload 4, 2) := by decide +kernel
theorem dX11_rows_212 : decode cX11_rows 212 = .ok (.laload, 1) := by decide +kernel
theorem dX11_rows_213 : decode cX11_rows 213 = .ok (.ladd, 1) := by decide +kernel
theorem dX11_rows_214 : decode cX11_rows 214 = .ok (.lastore, 1) := by decide +kernel
theorem dX11_rows_215 : decode cX11_rows 215 = .ok (.iinc 5 1, 3) := by decide +kernel
theorem dX11_rows_218 : decode cX11_rows 218 = .ok (.goto (-114), 3) := by decide +kernel
theorem dX11_rows_221 : decode cX11_rows 221 = .ok (.iinc 4 1, 3) := by decide +kernel
theorem dX11_rows_224 : decode cX11_rows 224 = .ok (.goto (-129), 3) := by decide +kernel
theorem dX11_rows_227 : decode cX11_rows 227 = .ok (.iconst 0, 1) := by decide +kernel
theorem dX11_rows_228 : decode cX11_rows 228 = .ok (.istore 4, 2) := by decide +kernel
theorem dX11_rows_230 : decode cX11_rows 230 = .ok (.iload 4, 2) := by decide +kernel
theorem dX11_rows_232 : decode cX11_rows 232 = .ok (.sipush 2000, 3) := by decide +kernel
theorem dX11_rows_235 : decode cX11_rows 235 = .ok (.if_icmp .gt 23, 3) := by decide +kernel
theorem dX11_rows_238 : decode cX11_rows 238 = .ok (.aload_n 0, 1) := by decide +kernel
theorem dX11_rows_239 : decode cX11_rows 239 = .ok (.getfield 97, 3) := by decide +kernel
theorem dX11_rows_242 : decode cX11_rows 242 = .ok (.iload 4, 2) := by decide +kernel
theorem dX11_rows_244 : decode cX11_rows 244 = .ok (.aload_n 0, 1) := by decide +kernel
theorem dX11_rows_245 : decode cX11_rows 245 = .ok (.getfield 100, 3) := by decide +kernel
theorem dX11_rows_248 : decode cX11_rows 248 = .ok (.iload 4, 2) := by decide +kernel
theorem dX11_rows_250 : decode cX11_rows 250 = .ok (.laload, 1) := by decide +kernel
theorem dX11_rows_251 : decode cX11_rows 251 = .ok (.lastore, 1) := by decide +kernel
theorem dX11_rows_252 : decode cX11_rows 252 = .ok (.iinc 4 1, 3) := by decide +kernel
theorem dX11_rows_255 : decode cX11_rows 255 = .ok (.goto (-25), 3) := by decide +kernel
theorem dX11_rows_258 : decode cX11_rows 258 = .ok (.iinc 2 1, 3) := by decide +kernel
theorem dX11_rows_261 : decode cX11_rows 261 = .ok (.goto (-204), 3) := by decide +kernel
theorem dX11_rows_264 : decode cX11_rows 264 = .ok (.lconst 0, 1) := by decide +kernel
theorem dX11_rows_265 : decode cX11_rows 265 = .ok (.lstore_n 2, 1) := by decide +kernel
theorem dX11_rows_266 : decode cX11_rows 266 = .ok (.iconst 0, 1) := by decide +kernel
theorem dX11_rows_267 : decode cX11_rows 267 = .ok (.istore 4, 2) := by decide +kernel
theorem dX11_rows_269 : decode cX11_rows 269 = .ok (.iload 4, 2) := by decide +kernel
theorem dX11_rows_271 : decode cX11_rows 271 = .ok (.aload_n 0, 1) := by decide +kernel
theorem dX11_rows_272 : decode cX11_rows 272 = .ok (.getfield 254, 3) := by decide +kernel
theorem dX11_rows_275 : decode cX11_rows 275 = .ok (.if_icmp .ge 37, 3) := by decide +kernel
theorem dX11_rows_278 : decode cX11_rows 278 = .ok (.lload_n 2, 1) := by decide +kernel
theorem dX11_rows_279 : decode cX11_rows 279 = .ok (.aload_n 0, 1) := by decide +kernel
theorem dX11_rows_280 : decode cX11_rows 280 = .ok (.getfield 76, 3) := by decide +kernel
theorem dX11_rows_283 : decode cX11_rows 283 = .ok (.iload 4, 2) := by decide +kernel
theorem dX11_rows_285 : decode cX11_rows 285 = .ok (.laload, 1) := by decide +kernel
theorem dX11_rows_286 : decode cX11_rows 286 = .ok (.lconst 1, 1) := by decide +kernel
theorem dX11_rows_287 : decode cX11_rows 287 = .ok (.land, 1) := by decide +kernel
theorem dX11_rows_288 : decode cX11_rows 288 = .ok (.lconst 1, 1) := by decide +kernel
theorem dX11_rows_289 : decode cX11_rows 289 = .ok (.lcmp, 1) := by decide +kernel
theorem dX11_rows_290 : decode cX11_rows 290 = .ok (.ifCond .ne 13, 3) := by decide +kernel
theorem dX11_rows_293 : decode cX11_rows 293 = .ok (.aload_n 0, 1) := by decide +kernel
theorem dX11_rows_294 : decode cX11_rows 294 = .ok (.getfield 97, 3) := by decide +kernel
theorem dX11_rows_297 : decode cX11_rows 297 = .ok (.iload 4, 2) := by decide +kernel
theorem dX11_rows_299 : decode cX11_rows 299 = .ok (.laload, 1) := by decide +kernel
theorem dX11_rows_300 : decode cX11_rows 300 = .ok (.goto 4, 3) := by decide +kernel
theorem dX11_rows_303 : decode cX11_rows 303 = .ok (.lconst 0, 1) := by decide +kernel
theorem dX11_rows_304 : decode cX11_rows 304 = .ok (.ladd, 1) := by decide +kernel
theorem dX11_rows_305 : decode cX11_rows 305 = .ok (.lstore_n 2, 1) := by decide +kernel
theorem dX11_rows_306 : decode cX11_rows 306 = .ok (.iinc 4 1, 3) := by decide +kernel
theorem dX11_rows_309 : decode cX11_rows 309 = .ok (.goto (-40), 3) := by decide +kernel
theorem dX11_rows_312 : decode cX11_rows 312 = .ok (.lload_n 2, 1) := by decide +kernel
theorem dX11_rows_313 : decode cX11_rows 313 = .ok (.ldc2_w 222, 3) := by decide +kernel
theorem dX11_rows_316 : decode cX11_rows 316 = .ok (.lcmp, 1) := by decide +kernel
theorem dX11_rows_317 : decode cX11_rows 317 = .ok (.ifCond .le 9, 3) := by decide +kernel
theorem dX11_rows_320 : decode cX11_rows 320 = .ok (.ldc2_w 224, 3) := by decide +kernel
theorem dX11_rows_323 : decode cX11_rows 323 = .ok (.goto 4, 3) := by decide +kernel
theorem dX11_rows_326 : decode cX11_rows 326 = .ok (.lload_n 2, 1) := by decide +kernel
theorem dX11_rows_327 : decode cX11_rows 327 = .ok (.lreturn, 1) := by decide +kernel
theorem dX11_price_0 : decode cX11_price 0 = .ok (.iload_n 1, 1) := by decide +kernel
theorem dX11_price_1 : decode cX11_price 1 = .ok (.i2l, 1) := by decide +kernel
theorem dX11_price_2 : decode cX11_price 2 = .ok (.lconst 0, 1) := by decide +kernel
theorem dX11_price_3 : decode cX11_price 3 = .ok (.ldc2_w 127, 3) := by decide +kernel
theorem dX11_price_6 : decode cX11_price 6 = .ok (.invokestatic 131, 3) := by decide +kernel
theorem dX11_price_9 : decode cX11_price 9 = .ok (.ifCond .eq 15, 3) := by decide +kernel
theorem dX11_price_12 : decode cX11_price 12 = .ok (.iload_n 2, 1) := by decide +kernel
theorem dX11_price_13 : decode cX11_price 13 = .ok (.i2l, 1) := by decide +kernel
theorem dX11_price_14 : decode cX11_price 14 = .ok (.lconst 0, 1) := by decide +kernel
theorem dX11_price_15 : decode cX11_price 15 = .ok (.ldc2_w 289, 3) := by decide +kernel
theorem dX11_price_18 : decode cX11_price 18 = .ok (.invokestatic 131, 3) := by decide +kernel
theorem dX11_price_21 : decode cX11_price 21 = .ok (.ifCond .ne 7, 3) := by decide +kernel
theorem dX11_price_24 : decode cX11_price 24 = .ok (.sipush (-1002), 3) := by decide +kernel
theorem dX11_price_27 : decode cX11_price 27 = .ok (.ireturn, 1) := by decide +kernel
theorem dX11_price_28 : decode cX11_price 28 = .ok (.aload_n 0, 1) := by decide +kernel
theorem dX11_price_29 : decode cX11_price 29 = .ok (.getfield 26, 3) := by decide +kernel
theorem dX11_price_32 : decode cX11_price 32 = .ok (.iload_n 1, 1) := by decide +kernel
theorem dX11_price_33 : decode cX11_price 33 = .ok (.iaload, 1) := by decide +kernel
theorem dX11_price_34 : decode cX11_price 34 = .ok (.istore_n 3, 1) := by decide +kernel
theorem dX11_price_35 : decode cX11_price 35 = .ok (.aload_n 0, 1) := by decide +kernel
theorem dX11_price_36 : decode cX11_price 36 = .ok (.getfield 26, 3) := by decide +kernel
theorem dX11_price_39 : decode cX11_price 39 = .ok (.iload_n 1, 1) := by decide +kernel
theorem dX11_price_40 : decode cX11_price 40 = .ok (.iload_n 2, 1) := by decide +kernel
theorem dX11_price_41 : decode cX11_price 41 = .ok (.iastore, 1) := by decide +kernel
theorem dX11_price_42 : decode cX11_price 42 = .ok (.iload_n 3, 1) := by decide +kernel
theorem dX11_price_43 : decode cX11_price 43 = .ok (.ireturn, 1) := by decide +kernel
theorem dX11_least_0 : decode cX11_least 0 = .ok (.lload_n 0, 1) := by decide +kernel
theorem dX11_least_1 : decode cX11_least 1 = .ok (.lload_n 2, 1) := by decide +kernel
theorem dX11_least_2 : decode cX11_least 2 = .ok (.lcmp, 1) := by decide +kernel
theorem dX11_least_3 : decode cX11_least 3 = .ok (.ifCond .ge 7, 3) := by decide +kernel
theorem dX11_least_6 : decode cX11_least 6 = .ok (.lload_n 0, 1) := by decide +kernel
theorem dX11_least_7 : decode cX11_least 7 = .ok (.goto 4, 3) := by decide +kernel
theorem dX11_least_10 : decode cX11_least 10 = .ok (.lload_n 2, 1) := by decide +kernel
theorem dX11_least_11 : decode cX11_least 11 = .ok (.lreturn, 1) := by decide +kernel
theorem dX11_mistake_0 : decode cX11_mistake 0 = .ok (.aload_n 0, 1) := by decide +kernel
theorem dX11_mistake_1 : decode cX11_mistake 1 = .ok (.getfield 26, 3) := by decide +kernel
theorem dX11_mistake_4 : decode cX11_mistake 4 = .ok (.iload_n 1, 1) := by decide +kernel
theorem dX11_mistake_5 : decode cX11_mistake 5 = .ok (.iaload, 1) := by decide +kernel
theorem dX11_mistake_6 : decode cX11_mistake 6 = .ok (.i2l, 1) := by decide +kernel
theorem dX11_mistake_7 : decode cX11_mistake 7 = .ok (.ldc2_w 291, 3) := by decide +kernel
theorem dX11_mistake_10 : decode cX11_mistake 10 = .ok (.lmul, 1) := by decide +kernel
theorem dX11_mistake_11 : decode cX11_mistake 11 = .ok (.lconst 1, 1) := by decide +kernel
theorem dX11_mistake_12 : decode cX11_mistake 12 = .ok (.ladd, 1) := by decide +kernel
theorem dX11_mistake_13 : decode cX11_mistake 13 = .ok (.lreturn, 1) := by decide +kernel
theorem dX11_settle_0 : decode cX11_settle 0 = .ok (.iconst 1, 1) := by decide +kernel
theorem dX11_settle_1 : decode cX11_settle 1 = .ok (.istore_n 1, 1) := by decide +kernel
theorem dX11_settle_2 : decode cX11_settle 2 = .ok (.iload_n 1, 1) := by decide +kernel
theorem dX11_settle_3 : decode cX11_settle 3 = .ok (.ifCond .eq 224, 3) := by decide +kernel
theorem dX11_settle_6 : decode cX11_settle 6 = .ok (.iconst 0, 1) := by decide +kernel
theorem dX11_settle_7 : decode cX11_settle 7 = .ok (.istore_n 1, 1) := by decide +kernel
theorem dX11_settle_8 : decode cX11_settle 8 = .ok (.iconst 0, 1) := by decide +kernel
theorem dX11_settle_9 : decode cX11_settle 9 = .ok (.istore_n 2, 1) := by decide +kernel
theorem dX11_settle_10 : decode cX11_settle 10 = .ok (.iload_n 2, 1) := by decide +kernel
theorem dX11_settle_11 : decode cX11_settle 11 = .ok (.aload_n 0, 1) := by decide +kernel
theorem dX11_settle_12 : decode cX11_settle 12 = .ok (.getfield 135, 3) := by decide +kernel
theorem dX11_settle_15 : decode cX11_settle 15 = .ok (.if_icmp .ge 209, 3) := by decide +kernel
theorem dX11_settle_18 : decode cX11_settle 18 = .ok (.ldc2_w 293, 3) := by decide +kernel
theorem dX11_settle_21 : decode cX11_settle 21 = .ok (.lstore_n 3, 1) := by decide +kernel
theorem dX11_settle_22 : decode cX11_settle 22 = .ok (.iconst 0, 1) := by decide +kernel
theorem dX11_settle_23 : decode cX11_settle 23 = .ok (.istore 5, 2) := by decide +kernel
theorem dX11_settle_25 : decode cX11_settle 25 = .ok (.iload 5, 2) := by decide +kernel
theorem dX11_settle_27 : decode cX11_settle 27 = .ok (.iconst 4, 1) := by decide +kernel
theorem dX11_settle_28 : decode cX11_settle 28 = .ok (.if_icmp .gt 47, 3) := by decide +kernel
theorem dX11_settle_31 : decode cX11_settle 31 = .ok (.aload_n 0, 1) := by decide +kernel
theorem dX11_settle_32 : decode cX11_settle 32 = .ok (.iload 5, 2) := by decide +kernel
theorem dX11_settle_34 : decode cX11_settle 34 = .ok (.iload_n 2, 1) := by decide +kernel
theorem dX11_settle_35 : decode cX11_settle 35 = .ok (.invokevirtual 209, 3) := by decide +kernel
theorem dX11_settle_38 : decode cX11_settle 38 = .ok (.ifCond .eq 29, 3) := by decide +kernel
theorem dX11_settle_41 : decode cX11_settle 41 = .ok (.lload_n 3, 1) := by decide +kernel
theorem dX11_settle_42 : decode cX11_settle 42 = .ok (.aload_n 0, 1) := by decide +kernel
theorem dX11_settle_43 : decode cX11_settle 43 = .ok (.getfield 103, 3) := by decide +kernel
theorem dX11_settle_46 : decode cX11_settle 46 = .ok (.iload 5, 2) := by decide +kernel
theorem dX11_settle_48 : decode cX11_settle 48 = .ok (.laload, 1) := by decide +kernel
theorem dX11_settle_49 : decode cX11_settle 49 = .ok (.aload_n 0, 1) := by decide +kernel
theorem dX11_settle_50 : decode cX11_settle 50 = .ok (.getfield 16, 3) := by decide +kernel
theorem dX11_settle_53 : decode cX11_settle 53 = .ok (.iload_n 2, 1) := by decide +kernel
theorem dX11_settle_54 : decode cX11_settle 54 = .ok (.iaload, 1) := by decide +kernel
theorem dX11_settle_55 : decode cX11_settle 55 = .ok (.i2l, 1) := by decide +kernel
theorem dX11_settle_56 : decode cX11_settle 56 = .ok (.ldc2_w 291, 3) := by decide +kernel
theorem dX11_settle_59 : decode cX11_settle 59 = .ok (.lmul, 1) := by decide +kernel
theorem dX11_settle_60 : decode cX11_settle 60 = .ok (.ladd, 1) := by decide +kernel
theorem dX11_settle_61 : decode cX11_settle 61 = .ok (.invokestatic 295, 3) := by decide +kernel
theorem dX11_settle_64 : decode cX11_settle 64 = .ok (.goto 4, 3) := by decide +kernel
theorem dX11_settle_67 : decode cX11_settle 67 = .ok (.lload_n 3, 1) := by decide +kernel
theorem dX11_settle_68 : decode cX11_settle 68 = .ok (.lstore_n 3, 1) := by decide +kernel
theorem dX11_settle_69 : decode cX11_settle 69 = .ok (.iinc 5 1, 3) := by decide +kernel
theorem dX11_settle_72 : decode cX11_settle 72 = .ok (.goto (-47), 3) := by decide +kernel
theorem dX11_settle_75 : decode cX11_settle 75 = .ok (.aload_n 0, 1) := by decide +kernel
theorem dX11_settle_76 : decode cX11_settle 76 = .ok (.getfield 106, 3) := by decide +kernel
theorem dX11_settle_79 : decode cX11_settle 79 = .ok (.bipush 8, 2) := by decide +kernel
theorem dX11_settle_81 : decode cX11_settle 81 = .ok (.iload_n 2, 1) := by decide +kernel
theorem dX11_settle_82 : decode cX11_settle 82 = .ok (.imul, 1) := by decide +kernel
theorem dX11_settle_83 : decode cX11_settle 83 = .ok (.aload_n 0, 1) := by decide +kernel
theorem dX11_settle_84 : decode cX11_settle 84 = .ok (.getfield 106, 3) := by decide +kernel
theorem dX11_settle_87 : decode cX11_settle 87 = .ok (.bipush 8, 2) := by decide +kernel
theorem dX11_settle_89 : decode cX11_settle 89 = .ok (.iload_n 2, 1) := by decide +kernel
theorem dX11_settle_90 : decode cX11_settle 90 = .ok (.imul, 1) := by decide +kernel
theorem dX11_settle_91 : decode cX11_settle 91 = .ok (.laload, 1) := by decide +kernel
theorem dX11_settle_92 : decode cX11_settle 92 = .ok (.lload_n 3, 1) := by decide +kernel
theorem dX11_settle_93 : decode cX11_settle 93 = .ok (.invokestatic 295, 3) := by decide +kernel
theorem dX11_settle_96 : decode cX11_settle 96 = .ok (.lastore, 1) := by decide +kernel
theorem dX11_settle_97 : decode cX11_settle 97 = .ok (.iconst 0, 1) := by decide +kernel
theorem dX11_settle_98 : decode cX11_settle 98 = .ok (.istore 5, 2) := by decide +kernel
theorem dX11_settle_100 : decode cX11_settle 100 = .ok (.iload 5, 2) := by decide +kernel
theorem dX11_settle_102 : decode cX11_settle 102 = .ok (.aload_n 0, 1) := by decide +kernel
theorem dX11_settle_103 : decode cX11_settle 103 = .ok (.getfield 13, 3) := by decide +kernel
theorem dX11_settle_106 : decode cX11_settle 106 = .ok (.iload_n 2, 1) := by decide +kernel
theorem dX11_settle_107 : decode cX11_settle 107 = .ok (.iaload, 1) := by decide +kernel
theorem dX11_settle_108 : decode cX11_settle 108 = .ok (.if_icmp .ge 110, 3) := by decide +kernel
theorem dX11_settle_111 : decode cX11_settle 111 = .ok (.aload_n 0, 1) := by decide +kernel
theorem dX11_settle_112 : decode cX11_settle 112 = .ok (.getfield 106, 3) := by decide +kernel
theorem dX11_settle_115 : decode cX11_settle 115 = .ok (.bipush 8, 2) := by decide +kernel
theorem dX11_settle_117 : decode cX11_settle 117 = .ok (.iload_n 2, 1) := by decide +kernel
theorem dX11_settle_118 : decode cX11_settle 118 = .ok (.imul, 1) := by decide +kernel
theorem dX11_settle_119 : decode cX11_settle 119 = .ok (.iload 5, 2) := by decide +kernel
theorem dX11_settle_121 : decode cX11_settle 121 = .ok (.iadd, 1) := by decide +kernel
theorem dX11_settle_122 : decode cX11_settle 122 = .ok (.laload, 1) := by decide +kernel
theorem dX11_settle_123 : decode cX11_settle 123 = .ok (.aload_n 0, 1) := by decide +kernel
theorem dX11_settle_124 : decode cX11_settle 124 = .ok (.iconst 1, 1) := by decide +kernel
theorem dX11_settle_125 : decode cX11_settle 125 = .ok (.invokevirtual 299, 3) := by decide +kernel
theorem dX11_settle_128 : decode cX11_settle 128 = .ok (.ladd, 1) := by decide +kernel
theorem dX11_settle_129 : decode cX11_settle 129 = .ok (.lstore 6, 2) := by decide +kernel
theorem dX11_settle_131 : decode cX11_settle 131 = .ok (.iload 5, 2) := by decide +kernel
theorem dX11_settle_133 : decode cX11_settle 133 = .ok (.iconst 1, 1) := by decide +kernel
theorem dX11_settle_134 : decode cX11_settle 134 = .ok (.iadd, 1) := by decide +kernel
theorem dX11_settle_135 : decode cX11_settle 135 = .ok (.aload_n 0, 1) := by decide +kernel
theorem dX11_settle_136 : decode cX11_settle 136 = .ok (.getfield 13, 3) := by decide +kernel
theorem dX11_settle_139 : decode cX11_settle 139 = .ok (.iload_n 2, 1) := by decide +kernel
theorem dX11_settle_140 : decode cX11_settle 140 = .ok (.iaload, 1) := by decide +kernel
theorem dX11_settle_141 : decode cX11_settle 141 = .ok (.if_icmp .ge 39, 3) := by decide +kernel
theorem dX11_settle_144 : decode cX11_settle 144 = .ok (.aload_n 0, 1) := by decide +kernel
theorem dX11_settle_145 : decode cX11_settle 145 = .ok (.getfield 106, 3) := by decide +kernel
theorem dX11_settle_148 : decode cX11_settle 148 = .ok (.bipush 8, 2) := by decide +kernel
theorem dX11_settle_150 : decode cX11_settle 150 = .ok (.iload_n 2, 1) := by decide +kernel
theorem dX11_settle_151 : decode cX11_settle 151 = .ok (.imul, 1) := by decide +kernel
theorem dX11_settle_152 : decode cX11_settle 152 = .ok (.iload 5, 2) := by decide +kernel
theorem dX11_settle_154 : decode cX11_settle 154 = .ok (.iadd, 1) := by decide +kernel
theorem dX11_settle_155 : decode cX11_settle 155 = .ok (.iconst 1, 1) := by decide +kernel
theorem dX11_settle_156 : decode cX11_settle 156 = .ok (.iadd, 1) := by decide +kernel
theorem dX11_settle_157 : decode cX11_settle 157 = .ok (.aload_n 0, 1) := by decide +kernel
theorem dX11_settle_158 : decode cX11_settle 158 = .ok (.getfield 106, 3) := by decide +kernel
theorem dX11_settle_161 : decode cX11_settle 161 = .ok (.bipush 8, 2) := by decide +kernel
theorem dX11_settle_163 : decode cX11_settle 163 = .ok (.iload_n 2, 1) := by decide +kernel
theorem dX11_settle_164 : decode cX11_settle 164 = .ok (.imul, 1) := by decide +kernel
theorem dX11_settle_165 : decode cX11_settle 165 = .ok (.iload 5, 2) := by decide +kernel
theorem dX11_settle_167 : decode cX11_settle 167 = .ok (.iadd, 1) := by decide +kernel
theorem dX11_settle_168 : decode cX11_settle 168 = .ok (.iconst 1, 1) := by decide +kernel
theorem dX11_settle_169 : decode cX11_settle 169 = .ok (.iadd, 1) := by decide +kernel
theorem dX11_settle_170 : decode cX11_settle 170 = .ok (.laload, 1) := by decide +kernel
theorem dX11_settle_171 : decode cX11_settle 171 = .ok (.lload 6, 2) := by decide +kernel
theorem dX11_settle_173 : decode cX11_settle 173 = .ok (.invokestatic 295, 3) := by decide +kernel
theorem dX11_settle_176 : decode cX11_settle 176 = .ok (.lastore, 1) := by decide +kernel
theorem dX11_settle_177 : decode cX11_settle 177 = .ok (.goto 35, 3) := by decide +kernel
theorem dX11_settle_180 : decode cX11_settle 180 = .ok (.lload 6, 2) := by decide +kernel
theorem dX11_settle_182 : decode cX11_settle 182 = .ok (.aload_n 0, 1) := by decide +kernel
theorem dX11_settle_183 : decode cX11_settle 183 = .ok (.getfield 103, 3) := by decide +kernel
theorem dX11_settle_186 : decode cX11_settle 186 = .ok (.aload_n 0, 1) := by decide +kernel
theorem dX11_settle_187 : decode cX11_settle 187 = .ok (.getfield 19, 3) := by decide +kernel
theorem dX11_settle_190 : decode cX11_settle 190 = .ok (.iload_n 2, 1) := by decide +kernel
theorem dX11_settle_191 : decode cX11_settle 191 = .ok (.iaload, 1) := by decide +kernel
theorem dX11_settle_192 : decode cX11_settle 192 = .ok (.laload, 1) := by decide +kernel
theorem dX11_settle_193 : decode cX11_settle 193 = .ok (.lcmp, 1) := by decide +kernel
theorem dX11_settle_194 : decode cX11_settle 194 = .ok (.ifCond .ge 18, 3) := by decide +kernel
theorem dX11_settle_197 : decode cX11_settle 197 = .ok (.aload_n 0, 1) := by decide +kernel
theorem dX11_settle_198 : decode cX11_settle 198 = .ok (.getfield 103, 3) := by decide +kernel
theorem dX11_settle_201 : decode cX11_settle 201 = .ok (.aload_n 0, 1) := by decide +kernel
theorem dX11_settle_202 : decode cX11_settle 202 = .ok (.getfield 19, 3) := by decide +kernel
theorem dX11_settle_205 : decode cX11_settle 205 = .ok (.iload_n 2, 1) := by decide +kernel
theorem dX11_settle_206 : decode cX11_settle 206 = .ok (.iaload, 1) := by decide +kernel
theorem dX11_settle_207 : decode cX11_settle 207 = .ok (.lload 6, 2) := by decide +kernel
theorem dX11_settle_209 : decode cX11_settle 209 = .ok (.lastore, 1) := by decide +kernel
theorem dX11_settle_210 : decode cX11_settle 210 = .ok (.iconst 1, 1) := by decide +kernel
theorem dX11_settle_211 : decode cX11_settle 211 = .ok (.istore_n 1, 1) := by decide +kernel
theorem dX11_settle_212 : decode cX11_settle 212 = .ok (.iinc 5 1, 3) := by decide +kernel
theorem dX11_settle_215 : decode cX11_settle 215 = .ok (.goto (-115), 3) := by decide +kernel
theorem dX11_settle_218 : decode cX11_settle 218 = .ok (.iinc 2 1, 3) := by decide +kernel
theorem dX11_settle_221 : decode cX11_settle 221 = .ok (.goto (-211), 3) := by decide +kernel
theorem dX11_settle_224 : decode cX11_settle 224 = .ok (.goto (-222), 3) := by decide +kernel
theorem dX11_settle_227 : decode cX11_settle 227 = .ok (.return_, 1) := by decide +kernel
theorem dX11_takeDrafted_0 : decode cX11_takeDrafted 0 = .ok (.iconst 0, 1) := by decide +kernel
theorem dX11_takeDrafted_1 : decode cX11_takeDrafted 1 = .ok (.istore_n 2, 1) := by decide +kernel
theorem dX11_takeDrafted_2 : decode cX11_takeDrafted 2 = .ok (.iload_n 2, 1) := by decide +kernel
theorem dX11_takeDrafted_3 : decode cX11_takeDrafted 3 = .ok (.iconst 4, 1) := by decide +kernel
theorem dX11_takeDrafted_4 : decode cX11_takeDrafted 4 = .ok (.if_icmp .gt 27, 3) := by decide +kernel
theorem dX11_takeDrafted_7 : decode cX11_takeDrafted 7 = .ok (.aload_n 0, 1) := by decide +kernel
theorem dX11_takeDrafted_8 : decode cX11_takeDrafted 8 = .ok (.getfield 109, 3) := by decide +kernel
theorem dX11_takeDrafted_11 : decode cX11_takeDrafted 11 = .ok (.iload_n 2, 1) := by decide +kernel
theorem dX11_takeDrafted_12 : decode cX11_takeDrafted 12 = .ok (.aload_n 0, 1) := by decide +kernel
theorem dX11_takeDrafted_13 : decode cX11_takeDrafted 13 = .ok (.getfield 103, 3) := by decide +kernel
theorem dX11_takeDrafted_16 : decode cX11_takeDrafted 16 = .ok (.iload_n 2, 1) := by decide +kernel
theorem dX11_takeDrafted_17 : decode cX11_takeDrafted 17 = .ok (.laload, 1) := by decide +kernel
theorem dX11_takeDrafted_18 : decode cX11_takeDrafted 18 = .ok (.aload_n 0, 1) := by decide +kernel
theorem dX11_takeDrafted_19 : decode cX11_takeDrafted 19 = .ok (.iconst 2, 1) := by decide +kernel
theorem dX11_takeDrafted_20 : decode cX11_takeDrafted 20 = .ok (.invokevirtual 299, 3) := by decide +kernel
theorem dX11_takeDrafted_23 : decode cX11_takeDrafted 23 = .ok (.ladd, 1) := by decide +kernel
theorem dX11_takeDrafted_24 : decode cX11_takeDrafted 24 = .ok (.lastore, 1) := by decide +kernel
theorem dX11_takeDrafted_25 : decode cX11_takeDrafted 25 = .ok (.iinc 2 1, 3) := by decide +kernel
theorem dX11_takeDrafted_28 : decode cX11_takeDrafted 28 = .ok (.goto (-26), 3) := by decide +kernel
theorem dX11_takeDrafted_31 : decode cX11_takeDrafted 31 = .ok (.iconst 0, 1) := by decide +kernel
theorem dX11_takeDrafted_32 : decode cX11_takeDrafted 32 = .ok (.istore_n 2, 1) := by decide +kernel
theorem dX11_takeDrafted_33 : decode cX11_takeDrafted 33 = .ok (.iload_n 2, 1) := by decide +kernel
theorem dX11_takeDrafted_34 : decode cX11_takeDrafted 34 = .ok (.sipush 136, 3) := by decide +kernel
theorem dX11_takeDrafted_37 : decode cX11_takeDrafted 37 = .ok (.if_icmp .ge 27, 3) := by decide +kernel
theorem dX11_takeDrafted_40 : decode cX11_takeDrafted 40 = .ok (.aload_n 0, 1) := by decide +kernel
theorem dX11_takeDrafted_41 : decode cX11_takeDrafted 41 = .ok (.getfield 112, 3) := by decide +kernel
theorem dX11_takeDrafted_44 : decode cX11_takeDrafted 44 = .ok (.iload_n 2, 1) := by decide +kernel
theorem dX11_takeDrafted_45 : decode cX11_takeDrafted 45 = .ok (.aload_n 0, 1) := by decide +kernel
theorem dX11_takeDrafted_46 : decode cX11_takeDrafted 46 = .ok (.getfield 106, 3) := by decide +kernel
theorem dX11_takeDrafted_49 : decode cX11_takeDrafted 49 = .ok (.iload_n 2, 1) := by decide +kernel
theorem dX11_takeDrafted_50 : decode cX11_takeDrafted 50 = .ok (.laload, 1) := by decide +kernel
theorem dX11_takeDrafted_51 : decode cX11_takeDrafted 51 = .ok (.aload_n 0, 1) := by decide +kernel
theorem dX11_takeDrafted_52 : decode cX11_takeDrafted 52 = .ok (.iconst 2, 1) := by decide +kernel
theorem dX11_takeDrafted_53 : decode cX11_takeDrafted 53 = .ok (.invokevirtual 299, 3) := by decide +kernel
theorem dX11_takeDrafted_56 : decode cX11_takeDrafted 56 = .ok (.ladd, 1) := by decide +kernel
theorem dX11_takeDrafted_57 : decode cX11_takeDrafted 57 = .ok (.lastore, 1) := by decide +kernel
theorem dX11_takeDrafted_58 : decode cX11_takeDrafted 58 = .ok (.iinc 2 1, 3) := by decide +kernel
theorem dX11_takeDrafted_61 : decode cX11_takeDrafted 61 = .ok (.goto (-28), 3) := by decide +kernel
theorem dX11_takeDrafted_64 : decode cX11_takeDrafted 64 = .ok (.iconst 0, 1) := by decide +kernel
theorem dX11_takeDrafted_65 : decode cX11_takeDrafted 65 = .ok (.istore_n 2, 1) := by decide +kernel
theorem dX11_takeDrafted_66 : decode cX11_takeDrafted 66 = .ok (.iload_n 2, 1) := by decide +kernel
theorem dX11_takeDrafted_67 : decode cX11_takeDrafted 67 = .ok (.aload_n 0, 1) := by decide +kernel
theorem dX11_takeDrafted_68 : decode cX11_takeDrafted 68 = .ok (.getfield 135, 3) := by decide +kernel
theorem dX11_takeDrafted_71 : decode cX11_takeDrafted 71 = .ok (.if_icmp .ge 138, 3) := by decide +kernel
theorem dX11_takeDrafted_74 : decode cX11_takeDrafted 74 = .ok (.iconst 0, 1) := by decide +kernel
theorem dX11_takeDrafted_75 : decode cX11_takeDrafted 75 = .ok (.istore_n 3, 1) := by decide +kernel
theorem dX11_takeDrafted_76 : decode cX11_takeDrafted 76 = .ok (.iload_n 3, 1) := by decide +kernel
theorem dX11_takeDrafted_77 : decode cX11_takeDrafted 77 = .ok (.aload_n 0, 1) := by decide +kernel
theorem dX11_takeDrafted_78 : decode cX11_takeDrafted 78 = .ok (.getfield 13, 3) := by decide +kernel
theorem dX11_takeDrafted_81 : decode cX11_takeDrafted 81 = .ok (.iload_n 2, 1) := by decide +kernel
theorem dX11_takeDrafted_82 : decode cX11_takeDrafted 82 = .ok (.iaload, 1) := by decide +kernel
theorem dX11_takeDrafted_83 : decode cX11_takeDrafted 83 = .ok (.if_icmp .ge 120, 3) := by decide +kernel
theorem dX11_takeDrafted_86 : decode cX11_takeDrafted 86 = .ok (.aload_n 0, 1) := by decide +kernel
theorem dX11_takeDrafted_87 : decode cX11_takeDrafted 87 = .ok (.getfield 106, 3) := by decide +kernel
theorem dX11_takeDrafted_90 : decode cX11_takeDrafted 90 = .ok (.bipush 8, 2) := by decide +kernel
theorem dX11_takeDrafted_92 : decode cX11_takeDrafted 92 = .ok (.iload_n 2, 1) := by decide +kernel
theorem dX11_takeDrafted_93 : decode cX11_takeDrafted 93 = .ok (.imul, 1) := by decide +kernel
theorem dX11_takeDrafted_94 : decode cX11_takeDrafted 94 = .ok (.iload_n 3, 1) := by decide +kernel
theorem dX11_takeDrafted_95 : decode cX11_takeDrafted 95 = .ok (.iadd, 1) := by decide +kernel
theorem dX11_takeDrafted_96 : decode cX11_takeDrafted 96 = .ok (.laload, 1) := by decide +kernel
theorem dX11_takeDrafted_97 : decode cX11_takeDrafted 97 = .ok (.aload_n 0, 1) := by decide +kernel
theorem dX11_takeDrafted_98 : decode cX11_takeDrafted 98 = .ok (.getfield 7, 3) := by decide +kernel
theorem dX11_takeDrafted_101 : decode cX11_takeDrafted 101 = .ok (.bipush 8, 2) := by decide +kernel
theorem dX11_takeDrafted_103 : decode cX11_takeDrafted 103 = .ok (.iload_n 2, 1) := by decide +kernel
theorem dX11_takeDrafted_104 : decode cX11_takeDrafted 104 = .ok (.imul, 1) := by decide +kernel
theorem dX11_takeDrafted_105 : decode cX11_takeDrafted 105 = .ok (.iload_n 3, 1) := by decide +kernel
theorem dX11_takeDrafted_106 : decode cX11_takeDrafted 106 = .ok (.iadd, 1) := by decide +kernel
theorem dX11_takeDrafted_107 : decode cX11_takeDrafted 107 = .ok (.iaload, 1) := by decide +kernel
theorem dX11_takeDrafted_108 : decode cX11_takeDrafted 108 = .ok (.iload_n 1, 1) := by decide +kernel
theorem dX11_takeDrafted_109 : decode cX11_takeDrafted 109 = .ok (.if_icmp .ne 7, 3) := by decide +kernel
theorem dX11_takeDrafted_112 : decode cX11_takeDrafted 112 = .ok (.lconst 0, 1) := by decide +kernel
theorem dX11_takeDrafted_113 : decode cX11_takeDrafted 113 = .ok (.goto 8, 3) := by decide +kernel
theorem dX11_takeDrafted_116 : decode cX11_takeDrafted 116 = .ok (.aload_n 0, 1) := by decide +kernel
theorem dX11_takeDrafted_117 : decode cX11_takeDrafted 117 = .ok (.iconst 0, 1) := by decide +kernel
theorem dX11_takeDrafted_118 : decode cX11_takeDrafted 118 = .ok (.invokevirtual 299, 3) := by decide +kernel
theorem dX11_takeDrafted_121 : decode cX11_takeDrafted 121 = .ok (.ladd, 1) := by decide +kernel
theorem dX11_takeDrafted_122 : decode cX11_takeDrafted 122 = .ok (.lstore 4, 2) := by decide +kernel
theorem dX11_takeDrafted_124 : decode cX11_takeDrafted 124 = .ok (.iload_n 3, 1) := by decide +kernel
theorem dX11_takeDrafted_125 : decode cX11_takeDrafted 125 = .ok (.iconst 1, 1) := by decide +kernel
theorem dX11_takeDrafted_126 : decode cX11_takeDrafted 126 = .ok (.iadd, 1) := by decide +kernel
theorem dX11_takeDrafted_127 : decode cX11_takeDrafted 127 = .ok (.aload_n 0, 1) := by decide +kernel
theorem dX11_takeDrafted_128 : decode cX11_takeDrafted 128 = .ok (.getfield 13, 3) := by decide +kernel
theorem dX11_takeDrafted_131 : decode cX11_takeDrafted 131 = .ok (.iload_n 2, 1) := by decide +kernel
theorem dX11_takeDrafted_132 : decode cX11_takeDrafted 132 = .ok (.iaload, 1) := by decide +kernel
theorem dX11_takeDrafted_133 : decode cX11_takeDrafted 133 = .ok (.if_icmp .ge 37, 3) := by decide +kernel
theorem dX11_takeDrafted_136 : decode cX11_takeDrafted 136 = .ok (.aload_n 0, 1) := by decide +kernel
theorem dX11_takeDrafted_137 : decode cX11_takeDrafted 137 = .ok (.getfield 112, 3) := by decide +kernel
theorem dX11_takeDrafted_140 : decode cX11_takeDrafted 140 = .ok (.bipush 8, 2) := by decide +kernel
theorem dX11_takeDrafted_142 : decode cX11_takeDrafted 142 = .ok (.iload_n 2, 1) := by decide +kernel
theorem dX11_takeDrafted_143 : decode cX11_takeDrafted 143 = .ok (.imul, 1) := by decide +kernel
theorem dX11_takeDrafted_144 : decode cX11_takeDrafted 144 = .ok (.iload_n 3, 1) := by decide +kernel
theorem dX11_takeDrafted_145 : decode cX11_takeDrafted 145 = .ok (.iadd, 1) := by decide +kernel
theorem dX11_takeDrafted_146 : decode cX11_takeDrafted 146 = .ok (.iconst 1, 1) := by decide +kernel
theorem dX11_takeDrafted_147 : decode cX11_takeDrafted 147 = .ok (.iadd, 1) := by decide +kernel
theorem dX11_takeDrafted_148 : decode cX11_takeDrafted 148 = .ok (.aload_n 0, 1) := by decide +kernel
theorem dX11_takeDrafted_149 : decode cX11_takeDrafted 149 = .ok (.getfield 112, 3) := by decide +kernel
theorem dX11_takeDrafted_152 : decode cX11_takeDrafted 152 = .ok (.bipush 8, 2) := by decide +kernel
theorem dX11_takeDrafted_154 : decode cX11_takeDrafted 154 = .ok (.iload_n 2, 1) := by decide +kernel
theorem dX11_takeDrafted_155 : decode cX11_takeDrafted 155 = .ok (.imul, 1) := by decide +kernel
theorem dX11_takeDrafted_156 : decode cX11_takeDrafted 156 = .ok (.iload_n 3, 1) := by decide +kernel
theorem dX11_takeDrafted_157 : decode cX11_takeDrafted 157 = .ok (.iadd, 1) := by decide +kernel
theorem dX11_takeDrafted_158 : decode cX11_takeDrafted 158 = .ok (.iconst 1, 1) := by decide +kernel
theorem dX11_takeDrafted_159 : decode cX11_takeDrafted 159 = .ok (.iadd, 1) := by decide +kernel
theorem dX11_takeDrafted_160 : decode cX11_takeDrafted 160 = .ok (.laload, 1) := by decide +kernel
theorem dX11_takeDrafted_161 : decode cX11_takeDrafted 161 = .ok (.lload 4, 2) := by decide +kernel
theorem dX11_takeDrafted_163 : decode cX11_takeDrafted 163 = .ok (.invokestatic 295, 3) := by decide +kernel
theorem dX11_takeDrafted_166 : decode cX11_takeDrafted 166 = .ok (.lastore, 1) := by decide +kernel
theorem dX11_takeDrafted_167 : decode cX11_takeDrafted 167 = .ok (.goto 30, 3) := by decide +kernel
theorem dX11_takeDrafted_170 : decode cX11_takeDrafted 170 = .ok (.aload_n 0, 1) := by decide +kernel
theorem dX11_takeDrafted_171 : decode cX11_takeDrafted 171 = .ok (.getfield 109, 3) := by decide +kernel
theorem dX11_takeDrafted_174 : decode cX11_takeDrafted 174 = .ok (.aload_n 0, 1) := by decide +kernel
theorem dX11_takeDrafted_175 : decode cX11_takeDrafted 175 = .ok (.getfield 19, 3) := by decide +kernel
theorem dX11_takeDrafted_178 : decode cX11_takeDrafted 178 = .ok (.iload_n 2, 1) := by decide +kernel
theorem dX11_takeDrafted_179 : decode cX11_takeDrafted 179 = .ok (.iaload, 1) := by decide +kernel
theorem dX11_takeDrafted_180 : decode cX11_takeDrafted 180 = .ok (.aload_n 0, 1) := by decide +kernel
theorem dX11_takeDrafted_181 : decode cX11_takeDrafted 181 = .ok (.getfield 109, 3) := by decide +kernel
theorem dX11_takeDrafted_184 : decode cX11_takeDrafted 184 = .ok (.aload_n 0, 1) := by decide +kernel
theorem dX11_takeDrafted_185 : decode cX11_takeDrafted 185 = .ok (.getfield 19, 3) := by decide +kernel
theorem dX11_takeDrafted_188 : decode cX11_takeDrafted 188 = .ok (.iload_n 2, 1) := by decide +kernel
theorem dX11_takeDrafted_189 : decode cX11_takeDrafted 189 = .ok (.iaload, 1) := by decide +kernel
theorem dX11_takeDrafted_190 : decode cX11_takeDrafted 190 = .ok (.laload, 1) := by decide +kernel
theorem dX11_takeDrafted_191 : decode cX11_takeDrafted 191 = .ok (.lload 4, 2) := by decide +kernel
theorem dX11_takeDrafted_193 : decode cX11_takeDrafted 193 = .ok (.invokestatic 295, 3) := by decide +kernel
theorem dX11_takeDrafted_196 : decode cX11_takeDrafted 196 = .ok (.lastore, 1) := by decide +kernel
theorem dX11_takeDrafted_197 : decode cX11_takeDrafted 197 = .ok (.iinc 3 1, 3) := by decide +kernel
theorem dX11_takeDrafted_200 : decode cX11_takeDrafted 200 = .ok (.goto (-124), 3) := by decide +kernel
theorem dX11_takeDrafted_203 : decode cX11_takeDrafted 203 = .ok (.iinc 2 1, 3) := by decide +kernel
theorem dX11_takeDrafted_206 : decode cX11_takeDrafted 206 = .ok (.goto (-140), 3) := by decide +kernel
theorem dX11_takeDrafted_209 : decode cX11_takeDrafted 209 = .ok (.iconst 0, 1) := by decide +kernel
theorem dX11_takeDrafted_210 : decode cX11_takeDrafted 210 = .ok (.istore_n 2, 1) := by decide +kernel
theorem dX11_takeDrafted_211 : decode cX11_takeDrafted 211 = .ok (.iload_n 2, 1) := by decide +kernel
theorem dX11_takeDrafted_212 : decode cX11_takeDrafted 212 = .ok (.iconst 4, 1) := by decide +kernel
theorem dX11_takeDrafted_213 : decode cX11_takeDrafted 213 = .ok (.if_icmp .gt 21, 3) := by decide +kernel
theorem dX11_takeDrafted_216 : decode cX11_takeDrafted 216 = .ok (.aload_n 0, 1) := by decide +kernel
theorem dX11_takeDrafted_217 : decode cX11_takeDrafted 217 = .ok (.getfield 103, 3) := by decide +kernel
theorem dX11_takeDrafted_220 : decode cX11_takeDrafted 220 = .ok (.iload_n 2, 1) := by decide +kernel
theorem dX11_takeDrafted_221 : decode cX11_takeDrafted 221 = .ok (.aload_n 0, 1) := by decide +kernel
theorem dX11_takeDrafted_222 : decode cX11_takeDrafted 222 = .ok (.getfield 109, 3) := by decide +kernel
theorem dX11_takeDrafted_225 : decode cX11_takeDrafted 225 = .ok (.iload_n 2, 1) := by decide +kernel
theorem dX11_takeDrafted_226 : decode cX11_takeDrafted 226 = .ok (.laload, 1) := by decide +kernel
theorem dX11_takeDrafted_227 : decode cX11_takeDrafted 227 = .ok (.lastore, 1) := by decide +kernel
theorem dX11_takeDrafted_228 : decode cX11_takeDrafted 228 = .ok (.iinc 2 1, 3) := by decide +kernel
theorem dX11_takeDrafted_231 : decode cX11_takeDrafted 231 = .ok (.goto (-20), 3) := by decide +kernel
theorem dX11_takeDrafted_234 : decode cX11_takeDrafted 234 = .ok (.iconst 0, 1) := by decide +kernel
theorem dX11_takeDrafted_235 : decode cX11_takeDrafted 235 = .ok (.istore_n 2, 1) := by decide +kernel
theorem dX11_takeDrafted_236 : decode cX11_takeDrafted 236 = .ok (.iload_n 2, 1) := by decide +kernel
theorem dX11_takeDrafted_237 : decode cX11_takeDrafted 237 = .ok (.sipush 136, 3) := by decide +kernel
theorem dX11_takeDrafted_240 : decode cX11_takeDrafted 240 = .ok (.if_icmp .ge 21, 3) := by decide +kernel
theorem dX11_takeDrafted_243 : decode cX11_takeDrafted 243 = .ok (.aload_n 0, 1) := by decide +kernel
theorem dX11_takeDrafted_244 : decode cX11_takeDrafted 244 = .ok (.getfield 106, 3) := by decide +kernel
theorem dX11_takeDrafted_247 : decode cX11_takeDrafted 247 = .ok (.iload_n 2, 1) := by decide +kernel
theorem dX11_takeDrafted_248 : decode cX11_takeDrafted 248 = .ok (.aload_n 0, 1) := by decide +kernel
theorem dX11_takeDrafted_249 : decode cX11_takeDrafted 249 = .ok (.getfield 112, 3) := by decide +kernel
theorem dX11_takeDrafted_252 : decode cX11_takeDrafted 252 = .ok (.iload_n 2, 1) := by decide +kernel
theorem dX11_takeDrafted_253 : decode cX11_takeDrafted 253 = .ok (.laload, 1) := by decide +kernel
theorem dX11_takeDrafted_254 : decode cX11_takeDrafted 254 = .ok (.lastore, 1) := by decide +kernel
theorem dX11_takeDrafted_255 : decode cX11_takeDrafted 255 = .ok (.iinc 2 1, 3) := by decide +kernel
theorem dX11_takeDrafted_258 : decode cX11_takeDrafted 258 = .ok (.goto (-22), 3) := by decide +kernel
theorem dX11_takeDrafted_261 : decode cX11_takeDrafted 261 = .ok (.return_, 1) := by decide +kernel
theorem dX11_patched_0 : decode cX11_patched 0 = .ok (.iload_n 1, 1) := by decide +kernel
theorem dX11_patched_1 : decode cX11_patched 1 = .ok (.i2l, 1) := by decide +kernel
theorem dX11_patched_2 : decode cX11_patched 2 = .ok (.lconst 0, 1) := by decide +kernel
theorem dX11_patched_3 : decode cX11_patched 3 = .ok (.lconst 1, 1) := by decide +kernel
theorem dX11_patched_4 : decode cX11_patched 4 = .ok (.invokestatic 131, 3) := by decide +kernel
theorem dX11_patched_7 : decode cX11_patched 7 = .ok (.ifCond .ne 7, 3) := by decide +kernel
theorem dX11_patched_10 : decode cX11_patched 10 = .ok (.sipush (-1002), 3) := by decide +kernel
theorem dX11_patched_13 : decode cX11_patched 13 = .ok (.ireturn, 1) := by decide +kernel
theorem dX11_patched_14 : decode cX11_patched 14 = .ok (.iconst 0, 1) := by decide +kernel
theorem dX11_patched_15 : decode cX11_patched 15 = .ok (.istore_n 2, 1) := by decide +kernel
theorem dX11_patched_16 : decode cX11_patched 16 = .ok (.iload_n 2, 1) := by decide +kernel
theorem dX11_patched_17 : decode cX11_patched 17 = .ok (.iconst 4, 1) := by decide +kernel
theorem dX11_patched_18 : decode cX11_patched 18 = .ok (.if_icmp .gt 27, 3) := by decide +kernel
theorem dX11_patched_21 : decode cX11_patched 21 = .ok (.aload_n 0, 1) := by decide +kernel
theorem dX11_patched_22 : decode cX11_patched 22 = .ok (.getfield 103, 3) := by decide +kernel
theorem dX11_patched_25 : decode cX11_patched 25 = .ok (.iload_n 2, 1) := by decide +kernel
theorem dX11_patched_26 : decode cX11_patched 26 = .ok (.iload_n 2, 1) := by decide +kernel
theorem dX11_patched_27 : decode cX11_patched 27 = .ok (.iconst 4, 1) := by decide +kernel
theorem dX11_patched_28 : decode cX11_patched 28 = .ok (.if_icmp .ne 7, 3) := by decide +kernel
theorem dX11_patched_31 : decode cX11_patched 31 = .ok (.lconst 0, 1) := by decide +kernel
theorem dX11_patched_32 : decode cX11_patched 32 = .ok (.goto 6, 3) := by decide +kernel
theorem dX11_patched_35 : decode cX11_patched 35 = .ok (.ldc2_w 293, 3) := by decide +kernel
theorem dX11_patched_38 : decode cX11_patched 38 = .ok (.lastore, 1) := by decide +kernel
theorem dX11_patched_39 : decode cX11_patched 39 = .ok (.iinc 2 1, 3) := by decide +kernel
theorem dX11_patched_42 : decode cX11_patched 42 = .ok (.goto (-26), 3) := by decide +kernel
theorem dX11_patched_45 : decode cX11_patched 45 = .ok (.iconst 0, 1) := by decide +kernel
theorem dX11_patched_46 : decode cX11_patched 46 = .ok (.istore_n 2, 1) := by decide +kernel
theorem dX11_patched_47 : decode cX11_patched 47 = .ok (.iload_n 2, 1) := by decide +kernel
theorem dX11_patched_48 : decode cX11_patched 48 = .ok (.sipush 136, 3) := by decide +kernel
theorem dX11_patched_51 : decode cX11_patched 51 = .ok (.if_icmp .ge 18, 3) := by decide +kernel
theorem dX11_patched_54 : decode cX11_patched 54 = .ok (.aload_n 0, 1) := by decide +kernel
theorem dX11_patched_55 : decode cX11_patched 55 = .ok (.getfield 106, 3) := by decide +kernel
theorem dX11_patched_58 : decode cX11_patched 58 = .ok (.iload_n 2, 1) := by decide +kernel
theorem dX11_patched_59 : decode cX11_patched 59 = .ok (.ldc2_w 293, 3) := by decide +kernel
theorem dX11_patched_62 : decode cX11_patched 62 = .ok (.lastore, 1) := by decide +kernel
theorem dX11_patched_63 : decode cX11_patched 63 = .ok (.iinc 2 1, 3) := by decide +kernel
theorem dX11_patched_66 : decode cX11_patched 66 = .ok (.goto (-19), 3) := by decide +kernel
theorem dX11_patched_69 : decode cX11_patched 69 = .ok (.aload_n 0, 1) := by decide +kernel
theorem dX11_patched_70 : decode cX11_patched 70 = .ok (.invokevirtual 303, 3) := by decide +kernel
theorem dX11_patched_73 : decode cX11_patched 73 = .ok (.iconst 0, 1) := by decide +kernel
theorem dX11_patched_74 : decode cX11_patched 74 = .ok (.istore_n 2, 1) := by decide +kernel
theorem dX11_patched_75 : decode cX11_patched 75 = .ok (.iload_n 2, 1) := by decide +kernel
theorem dX11_patched_76 : decode cX11_patched 76 = .ok (.aload_n 0, 1) := by decide +kernel
theorem dX11_patched_77 : decode cX11_patched 77 = .ok (.getfield 141, 3) := by decide +kernel
theorem dX11_patched_80 : decode cX11_patched 80 = .ok (.if_icmp .ge 23, 3) := by decide +kernel
theorem dX11_patched_83 : decode cX11_patched 83 = .ok (.aload_n 0, 1) := by decide +kernel
theorem dX11_patched_84 : decode cX11_patched 84 = .ok (.aload_n 0, 1) := by decide +kernel
theorem dX11_patched_85 : decode cX11_patched 85 = .ok (.getfield 29, 3) := by decide +kernel
theorem dX11_patched_88 : decode cX11_patched 88 = .ok (.iload_n 2, 1) := by decide +kernel
theorem dX11_patched_89 : decode cX11_patched 89 = .ok (.iaload, 1) := by decide +kernel
theorem dX11_patched_90 : decode cX11_patched 90 = .ok (.invokevirtual 306, 3) := by decide +kernel
theorem dX11_patched_93 : decode cX11_patched 93 = .ok (.aload_n 0, 1) := by decide +kernel
theorem dX11_patched_94 : decode cX11_patched 94 = .ok (.invokevirtual 303, 3) := by decide +kernel
theorem dX11_patched_97 : decode cX11_patched 97 = .ok (.iinc 2 1, 3) := by decide +kernel
theorem dX11_patched_100 : decode cX11_patched 100 = .ok (.goto (-25), 3) := by decide +kernel
theorem dX11_patched_103 : decode cX11_patched 103 = .ok (.ldc2_w 293, 3) := by decide +kernel
theorem dX11_patched_106 : decode cX11_patched 106 = .ok (.lstore_n 2, 1) := by decide +kernel
theorem dX11_patched_107 : decode cX11_patched 107 = .ok (.iconst 0, 1) := by decide +kernel
theorem dX11_patched_108 : decode cX11_patched 108 = .ok (.istore 4, 2) := by decide +kernel
theorem dX11_patched_110 : decode cX11_patched 110 = .ok (.iload 4, 2) := by decide +kernel
theorem dX11_patched_112 : decode cX11_patched 112 = .ok (.iconst 4, 1) := by decide +kernel
theorem dX11_patched_113 : decode cX11_patched 113 = .ok (.if_icmp .gt 21, 3) := by decide +kernel
theorem dX11_patched_116 : decode cX11_patched 116 = .ok (.lload_n 2, 1) := by decide +kernel
theorem dX11_patched_117 : decode cX11_patched 117 = .ok (.aload_n 0, 1) := by decide +kernel
theorem dX11_patched_118 : decode cX11_patched 118 = .ok (.getfield 103, 3) := by decide +kernel
theorem dX11_patched_121 : decode cX11_patched 121 = .ok (.iload 4, 2) := by decide +kernel
theorem dX11_patched_123 : decode cX11_patched 123 = .ok (.laload, 1) := by decide +kernel
theorem dX11_patched_124 : decode cX11_patched 124 = .ok (.invokestatic 295, 3) := by decide +kernel
theorem dX11_patched_127 : decode cX11_patched 127 = .ok (.lstore_n 2, 1) := by decide +kernel
theorem dX11_patched_128 : decode cX11_patched 128 = .ok (.iinc 4 1, 3) := by decide +kernel
theorem dX11_patched_131 : decode cX11_patched 131 = .ok (.goto (-21), 3) := by decide +kernel
theorem dX11_patched_134 : decode cX11_patched 134 = .ok (.iload_n 1, 1) := by decide +kernel
theorem dX11_patched_135 : decode cX11_patched 135 = .ok (.ifCond .ne 11, 3) := by decide +kernel
theorem dX11_patched_138 : decode cX11_patched 138 = .ok (.lload_n 2, 1) := by decide +kernel
theorem dX11_patched_139 : decode cX11_patched 139 = .ok (.ldc2_w 291, 3) := by decide +kernel
theorem dX11_patched_142 : decode cX11_patched 142 = .ok (.ldiv, 1) := by decide +kernel
theorem dX11_patched_143 : decode cX11_patched 143 = .ok (.goto 8, 3) := by decide +kernel
theorem dX11_patched_146 : decode cX11_patched 146 = .ok (.lload_n 2, 1) := by decide +kernel
theorem dX11_patched_147 : decode cX11_patched 147 = .ok (.ldc2_w 291, 3) := by decide +kernel
theorem dX11_patched_150 : decode cX11_patched 150 = .ok (.lrem, 1) := by decide +kernel
theorem dX11_patched_151 : decode cX11_patched 151 = .ok (.l2i, 1) := by decide +kernel
theorem dX11_patched_152 : decode cX11_patched 152 = .ok (.ireturn, 1) := by decide +kernel
theorem dX11_line_0 : decode cX11_line 0 = .ok (.aload_n 0, 1) := by decide +kernel
theorem dX11_line_1 : decode cX11_line 1 = .ok (.getfield 141, 3) := by decide +kernel
theorem dX11_line_4 : decode cX11_line 4 = .ok (.i2l, 1) := by decide +kernel
theorem dX11_line_5 : decode cX11_line 5 = .ok (.lconst 1, 1) := by decide +kernel
theorem dX11_line_6 : decode cX11_line 6 = .ok (.ldc2_w 310, 3) := by decide +kernel
theorem dX11_line_9 : decode cX11_line 9 = .ok (.invokestatic 131, 3) := by decide +kernel
theorem dX11_line_12 : decode cX11_line 12 = .ok (.ifCond .ne 7, 3) := by decide +kernel
theorem dX11_line_15 : decode cX11_line 15 = .ok (.sipush (-1002), 3) := by decide +kernel
theorem dX11_line_18 : decode cX11_line 18 = .ok (.ireturn, 1) := by decide +kernel
theorem dX11_line_19 : decode cX11_line 19 = .ok (.aload_n 0, 1) := by decide +kernel
theorem dX11_line_20 : decode cX11_line 20 = .ok (.getfield 138, 3) := by decide +kernel
theorem dX11_line_23 : decode cX11_line 23 = .ok (.iconst 4, 1) := by decide +kernel
theorem dX11_line_24 : decode cX11_line 24 = .ok (.if_icmp .ne 7, 3) := by decide +kernel
theorem dX11_line_27 : decode cX11_line 27 = .ok (.sipush (-1004), 3) := by decide +kernel
theorem dX11_line_30 : decode cX11_line 30 = .ok (.ireturn, 1) := by decide +kernel
theorem dX11_line_31 : decode cX11_line 31 = .ok (.iconst 0, 1) := by decide +kernel
theorem dX11_line_32 : decode cX11_line 32 = .ok (.istore_n 1, 1) := by decide +kernel
theorem dX11_line_33 : decode cX11_line 33 = .ok (.iload_n 1, 1) := by decide +kernel
theorem dX11_line_34 : decode cX11_line 34 = .ok (.aload_n 0, 1) := by decide +kernel
theorem dX11_line_35 : decode cX11_line 35 = .ok (.getfield 141, 3) := by decide +kernel
theorem dX11_line_38 : decode cX11_line 38 = .ok (.if_icmp .ge 29, 3) := by decide +kernel
theorem dX11_line_41 : decode cX11_line 41 = .ok (.aload_n 0, 1) := by decide +kernel
theorem dX11_line_42 : decode cX11_line 42 = .ok (.getfield 32, 3) := by decide +kernel
theorem dX11_line_45 : decode cX11_line 45 = .ok (.bipush 24, 2) := by decide +kernel
theorem dX11_line_47 : decode cX11_line 47 = .ok (.aload_n 0, 1) := by decide +kernel
theorem dX11_line_48 : decode cX11_line 48 = .ok (.getfield 138, 3) := by decide +kernel
theorem dX11_line_51 : decode cX11_line 51 = .ok (.imul, 1) := by decide +kernel
theorem dX11_line_52 : decode cX11_line 52 = .ok (.iload_n 1, 1) := by decide +kernel
theorem dX11_line_53 : decode cX11_line 53 = .ok (.iadd, 1) := by decide +kernel
theorem dX11_line_54 : decode cX11_line 54 = .ok (.aload_n 0, 1) := by decide +kernel
theorem dX11_line_55 : decode cX11_line 55 = .ok (.getfield 29, 3) := by decide +kernel
theorem dX11_line_58 : decode cX11_line 58 = .ok (.iload_n 1, 1) := by decide +kernel
theorem dX11_line_59 : decode cX11_line 59 = .ok (.iaload, 1) := by decide +kernel
theorem dX11_line_60 : decode cX11_line 60 = .ok (.iastore, 1) := by decide +kernel
theorem dX11_line_61 : decode cX11_line 61 = .ok (.iinc 1 1, 3) := by decide +kernel
theorem dX11_line_64 : decode cX11_line 64 = .ok (.goto (-31), 3) := by decide +kernel
theorem dX11_line_67 : decode cX11_line 67 = .ok (.aload_n 0, 1) := by decide +kernel
theorem dX11_line_68 : decode cX11_line 68 = .ok (.getfield 35, 3) := by decide +kernel
theorem dX11_line_71 : decode cX11_line 71 = .ok (.aload_n 0, 1) := by decide +kernel
theorem dX11_line_72 : decode cX11_line 72 = .ok (.getfield 138, 3) := by decide +kernel
theorem dX11_line_75 : decode cX11_line 75 = .ok (.aload_n 0, 1) := by decide +kernel
theorem dX11_line_76 : decode cX11_line 76 = .ok (.getfield 141, 3) := by decide +kernel
theorem dX11_line_79 : decode cX11_line 79 = .ok (.iastore, 1) := by decide +kernel
theorem dX11_line_80 : decode cX11_line 80 = .ok (.aload_n 0, 1) := by decide +kernel
theorem dX11_line_81 : decode cX11_line 81 = .ok (.dup, 1) := by decide +kernel
theorem dX11_line_82 : decode cX11_line 82 = .ok (.getfield 138, 3) := by decide +kernel
theorem dX11_line_85 : decode cX11_line 85 = .ok (.iconst 1, 1) := by decide +kernel
theorem dX11_line_86 : decode cX11_line 86 = .ok (.iadd, 1) := by decide +kernel
theorem dX11_line_87 : decode cX11_line 87 = .ok (.putfield 138, 3) := by decide +kernel
theorem dX11_line_90 : decode cX11_line 90 = .ok (.aload_n 0, 1) := by decide +kernel
theorem dX11_line_91 : decode cX11_line 91 = .ok (.iconst 0, 1) := by decide +kernel
theorem dX11_line_92 : decode cX11_line 92 = .ok (.putfield 141, 3) := by decide +kernel
theorem dX11_line_95 : decode cX11_line 95 = .ok (.aload_n 0, 1) := by decide +kernel
theorem dX11_line_96 : decode cX11_line 96 = .ok (.getfield 138, 3) := by decide +kernel
theorem dX11_line_99 : decode cX11_line 99 = .ok (.ireturn, 1) := by decide +kernel
theorem dX11_drop_0 : decode cX11_drop 0 = .ok (.aload_n 0, 1) := by decide +kernel
theorem dX11_drop_1 : decode cX11_drop 1 = .ok (.getfield 138, 3) := by decide +kernel
theorem dX11_drop_4 : decode cX11_drop 4 = .ok (.istore_n 1, 1) := by decide +kernel
theorem dX11_drop_5 : decode cX11_drop 5 = .ok (.aload_n 0, 1) := by decide +kernel
theorem dX11_drop_6 : decode cX11_drop 6 = .ok (.iconst 0, 1) := by decide +kernel
theorem dX11_drop_7 : decode cX11_drop 7 = .ok (.putfield 138, 3) := by decide +kernel
theorem dX11_drop_10 : decode cX11_drop 10 = .ok (.iload_n 1, 1) := by decide +kernel
theorem dX11_drop_11 : decode cX11_drop 11 = .ok (.ireturn, 1) := by decide +kernel
theorem dX11_standsIn_0 : decode cX11_standsIn 0 = .ok (.iload_n 3, 1) := by decide +kernel
theorem dX11_standsIn_1 : decode cX11_standsIn 1 = .ok (.aload_n 0, 1) := by decide +kernel
theorem dX11_standsIn_2 : decode cX11_standsIn 2 = .ok (.getfield 13, 3) := by decide +kernel
theorem dX11_standsIn_5 : decode cX11_standsIn 5 = .ok (.iload_n 2, 1) := by decide +kernel
theorem dX11_standsIn_6 : decode cX11_standsIn 6 = .ok (.iaload, 1) := by decide +kernel
theorem dX11_standsIn_7 : decode cX11_standsIn 7 = .ok (.iadd, 1) := by decide +kernel
theorem dX11_standsIn_8 : decode cX11_standsIn 8 = .ok (.aload_n 0, 1) := by decide +kernel
theorem dX11_standsIn_9 : decode cX11_standsIn 9 = .ok (.getfield 35, 3) := by decide +kernel
theorem dX11_standsIn_12 : decode cX11_standsIn 12 = .ok (.iload_n 1, 1) := by decide +kernel
theorem dX11_standsIn_13 : decode cX11_standsIn 13 = .ok (.iaload, 1) := by decide +kernel
theorem dX11_standsIn_14 : decode cX11_standsIn 14 = .ok (.if_icmp .gt 7, 3) := by decide +kernel
theorem dX11_standsIn_17 : decode cX11_standsIn 17 = .ok (.iconst 1, 1) := by decide +kernel
theorem dX11_standsIn_18 : decode cX11_standsIn 18 = .ok (.goto 4, 3) := by decide +kernel
theorem dX11_standsIn_21 : decode cX11_standsIn 21 = .ok (.iconst 0, 1) := by decide +kernel
theorem dX11_standsIn_22 : decode cX11_standsIn 22 = .ok (.istore 4, 2) := by decide +kernel
theorem dX11_standsIn_24 : decode cX11_standsIn 24 = .ok (.iconst 0, 1) := by decide +kernel
theorem dX11_standsIn_25 : decode cX11_standsIn 25 = .ok (.istore 5, 2) := by decide +kernel
theorem dX11_standsIn_27 : decode cX11_standsIn 27 = .ok (.iload 5, 2) := by decide +kernel
theorem dX11_standsIn_29 : decode cX11_standsIn 29 = .ok (.aload_n 0, 1) := by decide +kernel
theorem dX11_standsIn_30 : decode cX11_standsIn 30 = .ok (.getfield 13, 3) := by decide +kernel
theorem dX11_standsIn_33 : decode cX11_standsIn 33 = .ok (.iload_n 2, 1) := by decide +kernel
theorem dX11_standsIn_34 : decode cX11_standsIn 34 = .ok (.iaload, 1) := by decide +kernel
theorem dX11_standsIn_35 : decode cX11_standsIn 35 = .ok (.if_icmp .ge 50, 3) := by decide +kernel
theorem dX11_standsIn_38 : decode cX11_standsIn 38 = .ok (.iload 4, 2) := by decide +kernel
theorem dX11_standsIn_40 : decode cX11_standsIn 40 = .ok (.ifCond .eq 45, 3) := by decide +kernel
theorem dX11_standsIn_43 : decode cX11_standsIn 43 = .ok (.aload_n 0, 1) := by decide +kernel
theorem dX11_standsIn_44 : decode cX11_standsIn 44 = .ok (.getfield 32, 3) := by decide +kernel
theorem dX11_standsIn_47 : decode cX11_standsIn 47 = .ok (.bipush 24, 2) := by decide +kernel
theorem dX11_standsIn_49 : decode cX11_standsIn 49 = .ok (.iload_n 1, 1) := by decide +kernel
theorem dX11_standsIn_50 : decode cX11_standsIn 50 = .ok (.imul, 1) := by decide +kernel
theorem dX11_standsIn_51 : decode cX11_standsIn 51 = .ok (.iload_n 3, 1) := by decide +kernel
theorem dX11_standsIn_52 : decode cX11_standsIn 52 = .ok (.iadd, 1) := by decide +kernel
theorem dX11_standsIn_53 : decode cX11_standsIn 53 = .ok (.iload 5, 2) := by decide +kernel
theorem dX11_standsIn_55 : decode cX11_standsIn 55 = .ok (.iadd, 1) := by decide +kernel
theorem dX11_standsIn_56 : decode cX11_standsIn 56 = .ok (.iaload, 1) := by decide +kernel
theorem dX11_standsIn_57 : decode cX11_standsIn 57 = .ok (.aload_n 0, 1) := by decide +kernel
theorem dX11_standsIn_58 : decode cX11_standsIn 58 = .ok (.getfield 7, 3) := by decide +kernel
theorem dX11_standsIn_61 : decode cX11_standsIn 61 = .ok (.bipush 8, 2) := by decide +kernel
theorem dX11_standsIn_63 : decode cX11_standsIn 63 = .ok (.iload_n 2, 1) := by decide +kernel
theorem dX11_standsIn_64 : decode cX11_standsIn 64 = .ok (.imul, 1) := by decide +kernel
theorem dX11_standsIn_65 : decode cX11_standsIn 65 = .ok (.iload 5, 2) := by decide +kernel
theorem dX11_standsIn_67 : decode cX11_standsIn 67 = .ok (.iadd, 1) := by decide +kernel
theorem dX11_standsIn_68 : decode cX11_standsIn 68 = .ok (.iaload, 1) := by decide +kernel
theorem dX11_standsIn_69 : decode cX11_standsIn 69 = .ok (.if_icmp .ne 7, 3) := by decide +kernel
theorem dX11_standsIn_72 : decode cX11_standsIn 72 = .ok (.iconst 1, 1) := by decide +kernel
theorem dX11_standsIn_73 : decode cX11_standsIn 73 = .ok (.goto 4, 3) := by decide +kernel
theorem dX11_standsIn_76 : decode cX11_standsIn 76 = .ok (.iconst 0, 1) := by decide +kernel
theorem dX11_standsIn_77 : decode cX11_standsIn 77 = .ok (.istore 4, 2) := by decide +kernel
theorem dX11_standsIn_79 : decode cX11_standsIn 79 = .ok (.iinc 5 1, 3) := by decide +kernel
theorem dX11_standsIn_82 : decode cX11_standsIn 82 = .ok (.goto (-55), 3) := by decide +kernel
theorem dX11_standsIn_85 : decode cX11_standsIn 85 = .ok (.iload 4, 2) := by decide +kernel
theorem dX11_standsIn_87 : decode cX11_standsIn 87 = .ok (.ireturn, 1) := by decide +kernel
theorem dX11_findSums_0 : decode cX11_findSums 0 = .ok (.aload_n 0, 1) := by decide +kernel
theorem dX11_findSums_1 : decode cX11_findSums 1 = .ok (.getfield 35, 3) := by decide +kernel
theorem dX11_findSums_4 : decode cX11_findSums 4 = .ok (.iload_n 1, 1) := by decide +kernel
theorem dX11_findSums_5 : decode cX11_findSums 5 = .ok (.iaload, 1) := by decide +kernel
theorem dX11_findSums_6 : decode cX11_findSums 6 = .ok (.istore_n 2, 1) := by decide +kernel
theorem dX11_findSums_7 : decode cX11_findSums 7 = .ok (.iload_n 2, 1) := by decide +kernel
theorem dX11_findSums_8 : decode cX11_findSums 8 = .ok (.istore_n 3, 1) := by decide +kernel
theorem dX11_findSums_9 : decode cX11_findSums 9 = .ok (.iload_n 3, 1) := by decide +kernel
theorem dX11_findSums_10 : decode cX11_findSums 10 = .ok (.ifCond .lt 163, 3) := by decide +kernel
theorem dX11_findSums_13 : decode cX11_findSums 13 = .ok (.iconst 0, 1) := by decide +kernel
theorem dX11_findSums_14 : decode cX11_findSums 14 = .ok (.istore 4, 2) := by decide +kernel
theorem dX11_findSums_16 : decode cX11_findSums 16 = .ok (.iload 4, 2) := by decide +kernel
theorem dX11_findSums_18 : decode cX11_findSums 18 = .ok (.iconst 4, 1) := by decide +kernel
theorem dX11_findSums_19 : decode cX11_findSums 19 = .ok (.if_icmp .gt 148, 3) := by decide +kernel
theorem dX11_findSums_22 : decode cX11_findSums 22 = .ok (.iload_n 3, 1) := by decide +kernel
theorem dX11_findSums_23 : decode cX11_findSums 23 = .ok (.iload_n 2, 1) := by decide +kernel
theorem dX11_findSums_24 : decode cX11_findSums 24 = .ok (.if_icmp .ne 7, 3) := by decide +kernel
theorem dX11_findSums_27 : decode cX11_findSums 27 = .ok (.iconst 0, 1) := by decide +kernel
theorem dX11_findSums_28 : decode cX11_findSums 28 = .ok (.goto 23, 3) := by decide +kernel
theorem dX11_findSums_31 : decode cX11_findSums 31 = .ok (.aload_n 0, 1) := by decide +kernel
theorem dX11_findSums_32 : decode cX11_findSums 32 = .ok (.getfield 26, 3) := by decide +kernel
theorem dX11_findSums_35 : decode cX11_findSums 35 = .ok (.iconst 2, 1) := by decide +kernel
theorem dX11_findSums_36 : decode cX11_findSums 36 = .ok (.iaload, 1) := by decide +kernel
theorem dX11_findSums_37 : decode cX11_findSums 37 = .ok (.aload_n 0, 1) := by decide +kernel
theorem dX11_findSums_38 : decode cX11_findSums 38 = .ok (.getfield 115, 3) := by decide +kernel
theorem dX11_findSums_41 : decode cX11_findSums 41 = .ok (.iload_n 3, 1) := by decide +kernel
theorem dX11_findSums_42 : decode cX11_findSums 42 = .ok (.iconst 1, 1) := by decide +kernel
theorem dX11_findSums_43 : decode cX11_findSums 43 = .ok (.iadd, 1) := by decide +kernel
theorem dX11_findSums_44 : decode cX11_findSums 44 = .ok (.iload 4, 2) := by decide +kernel
theorem dX11_findSums_46 : decode cX11_findSums 46 = .ok (.invokestatic 201, 3) := by decide +kernel
theorem dX11_findSums_49 : decode cX11_findSums 49 = .ok (.iaload, 1) := by decide +kernel
theorem dX11_findSums_50 : decode cX11_findSums 50 = .ok (.iadd, 1) := by decide +kernel
theorem dX11_findSums_51 : decode cX11_findSums 51 = .ok (.istore 5, 2) := by decide +kernel
theorem dX11_findSums_53 : decode cX11_findSums 53 = .ok (.iconst 0, 1) := by decide +kernel
theorem dX11_findSums_54 : decode cX11_findSums 54 = .ok (.istore 6, 2) := by decide +kernel
theorem dX11_findSums_56 : decode cX11_findSums 56 = .ok (.iload 6, 2) := by decide +kernel
theorem dX11_findSums_58 : decode cX11_findSums 58 = .ok (.aload_n 0, 1) := by decide +kernel
theorem dX11_findSums_59 : decode cX11_findSums 59 = .ok (.getfield 135, 3) := by decide +kernel
theorem dX11_findSums_62 : decode cX11_findSums 62 = .ok (.if_icmp .ge 86, 3) := by decide +kernel
theorem dX11_findSums_65 : decode cX11_findSums 65 = .ok (.iload_n 3, 1) := by decide +kernel
theorem dX11_findSums_66 : decode cX11_findSums 66 = .ok (.iload_n 2, 1) := by decide +kernel
theorem dX11_findSums_67 : decode cX11_findSums 67 = .ok (.if_icmp .ge 81, 3) := by decide +kernel
theorem dX11_findSums_70 : decode cX11_findSums 70 = .ok (.aload_n 0, 1) := by decide +kernel
theorem dX11_findSums_71 : decode cX11_findSums 71 = .ok (.iload 4, 2) := by decide +kernel
theorem dX11_findSums_73 : decode cX11_findSums 73 = .ok (.iload 6, 2) := by decide +kernel
theorem dX11_findSums_75 : decode cX11_findSums 75 = .ok (.invokevirtual 209, 3) := by decide +kernel
theorem dX11_findSums_78 : decode cX11_findSums 78 = .ok (.ifCond .eq 64, 3) := by decide +kernel
theorem dX11_findSums_81 : decode cX11_findSums 81 = .ok (.aload_n 0, 1) := by decide +kernel
theorem dX11_findSums_82 : decode cX11_findSums 82 = .ok (.iload_n 1, 1) := by decide +kernel
theorem dX11_findSums_83 : decode cX11_findSums 83 = .ok (.iload 6, 2) := by decide +kernel
theorem dX11_findSums_85 : decode cX11_findSums 85 = .ok (.iload_n 3, 1) := by decide +kernel
theorem dX11_findSums_86 : decode cX11_findSums 86 = .ok (.invokevirtual 312, 3) := by decide +kernel
theorem dX11_findSums_89 : decode cX11_findSums 89 = .ok (.ifCond .eq 53, 3) := by decide +kernel
theorem dX11_findSums_92 : decode cX11_findSums 92 = .ok (.aload_n 0, 1) := by decide +kernel
theorem dX11_findSums_93 : decode cX11_findSums 93 = .ok (.getfield 16, 3) := by decide +kernel
theorem dX11_findSums_96 : decode cX11_findSums 96 = .ok (.iload 6, 2) := by decide +kernel
theorem dX11_findSums_98 : decode cX11_findSums 98 = .ok (.iaload, 1) := by decide +kernel
theorem dX11_findSums_99 : decode cX11_findSums 99 = .ok (.aload_n 0, 1) := by decide +kernel
theorem dX11_findSums_100 : decode cX11_findSums 100 = .ok (.getfield 115, 3) := by decide +kernel
theorem dX11_findSums_103 : decode cX11_findSums 103 = .ok (.iload_n 3, 1) := by decide +kernel
theorem dX11_findSums_104 : decode cX11_findSums 104 = .ok (.aload_n 0, 1) := by decide +kernel
theorem dX11_findSums_105 : decode cX11_findSums 105 = .ok (.getfield 13, 3) := by decide +kernel
theorem dX11_findSums_108 : decode cX11_findSums 108 = .ok (.iload 6, 2) := by decide +kernel
theorem dX11_findSums_110 : decode cX11_findSums 110 = .ok (.iaload, 1) := by decide +kernel
theorem dX11_findSums_111 : decode cX11_findSums 111 = .ok (.iadd, 1) := by decide +kernel
theorem dX11_findSums_112 : decode cX11_findSums 112 = .ok (.aload_n 0, 1) := by decide +kernel
theorem dX11_findSums_113 : decode cX11_findSums 113 = .ok (.getfield 19, 3) := by decide +kernel
theorem dX11_findSums_116 : decode cX11_findSums 116 = .ok (.iload 6, 2) := by decide +kernel
theorem dX11_findSums_118 : decode cX11_findSums 118 = .ok (.iaload, 1) := by decide +kernel
theorem dX11_findSums_119 : decode cX11_findSums 119 = .ok (.invokestatic 201, 3) := by decide +kernel
theorem dX11_findSums_122 : decode cX11_findSums 122 = .ok (.iaload, 1) := by decide +kernel
theorem dX11_findSums_123 : decode cX11_findSums 123 = .ok (.iadd, 1) := by decide +kernel
theorem dX11_findSums_124 : decode cX11_findSums 124 = .ok (.istore 7, 2) := by decide +kernel
theorem dX11_findSums_126 : decode cX11_findSums 126 = .ok (.iload 7, 2) := by decide +kernel
theorem dX11_findSums_128 : decode cX11_findSums 128 = .ok (.iload 5, 2) := by decide +kernel
theorem dX11_findSums_130 : decode cX11_findSums 130 = .ok (.if_icmp .ge 8, 3) := by decide +kernel
theorem dX11_findSums_133 : decode cX11_findSums 133 = .ok (.iload 7, 2) := by decide +kernel
theorem dX11_findSums_135 : decode cX11_findSums 135 = .ok (.goto 5, 3) := by decide +kernel
theorem dX11_findSums_138 : decode cX11_findSums 138 = .ok (.iload 5, 2) := by decide +kernel
theorem dX11_findSums_140 : decode cX11_findSums 140 = .ok (.istore 5, 2) := by decide +kernel
theorem dX11_findSums_142 : decode cX11_findSums 142 = .ok (.iinc 6 1, 3) := by decide +kernel
theorem dX11_findSums_145 : decode cX11_findSums 145 = .ok (.goto (-89), 3) := by decide +kernel
theorem dX11_findSums_148 : decode cX11_findSums 148 = .ok (.aload_n 0, 1) := by decide +kernel
theorem dX11_findSums_149 : decode cX11_findSums 149 = .ok (.getfield 115, 3) := by decide +kernel
theorem dX11_findSums_152 : decode cX11_findSums 152 = .ok (.iload_n 3, 1) := by decide +kernel
theorem dX11_findSums_153 : decode cX11_findSums 153 = .ok (.iload 4, 2) := by decide +kernel
theorem dX11_findSums_155 : decode cX11_findSums 155 = .ok (.invokestatic 201, 3) := by decide +kernel
theorem dX11_findSums_158 : decode cX11_findSums 158 = .ok (.iload 5, 2) := by decide +kernel
theorem dX11_findSums_160 : decode cX11_findSums 160 = .ok (.iastore, 1) := by decide +kernel
theorem dX11_findSums_161 : decode cX11_findSums 161 = .ok (.iinc 4 1, 3) := by decide +kernel
theorem dX11_findSums_164 : decode cX11_findSums 164 = .ok (.goto (-148), 3) := by decide +kernel
theorem dX11_findSums_167 : decode cX11_findSums 167 = .ok (.iinc 3 (-1), 3) := by decide +kernel
theorem dX11_findSums_170 : decode cX11_findSums 170 = .ok (.goto (-161), 3) := by decide +kernel
theorem dX11_findSums_173 : decode cX11_findSums 173 = .ok (.aload_n 0, 1) := by decide +kernel
theorem dX11_findSums_174 : decode cX11_findSums 174 = .ok (.getfield 115, 3) := by decide +kernel
theorem dX11_findSums_177 : decode cX11_findSums 177 = .ok (.iconst 0, 1) := by decide +kernel
theorem dX11_findSums_178 : decode cX11_findSums 178 = .ok (.iconst 4, 1) := by decide +kernel
theorem dX11_findSums_179 : decode cX11_findSums 179 = .ok (.invokestatic 201, 3) := by decide +kernel
theorem dX11_findSums_182 : decode cX11_findSums 182 = .ok (.iaload, 1) := by decide +kernel
theorem dX11_findSums_183 : decode cX11_findSums 183 = .ok (.ireturn, 1) := by decide +kernel
theorem dX11_totals_0 : decode cX11_totals 0 = .ok (.iconst 0, 1) := by decide +kernel
theorem dX11_totals_1 : decode cX11_totals 1 = .ok (.istore_n 1, 1) := by decide +kernel
theorem dX11_totals_2 : decode cX11_totals 2 = .ok (.iconst 0, 1) := by decide +kernel
theorem dX11_totals_3 : decode cX11_totals 3 = .ok (.istore_n 2, 1) := by decide +kernel
theorem dX11_totals_4 : decode cX11_totals 4 = .ok (.iload_n 2, 1) := by decide +kernel
theorem dX11_totals_5 : decode cX11_totals 5 = .ok (.aload_n 0, 1) := by decide +kernel
theorem dX11_totals_6 : decode cX11_totals 6 = .ok (.getfield 138, 3) := by decide +kernel
theorem dX11_totals_9 : decode cX11_totals 9 = .ok (.if_icmp .ge 17, 3) := by decide +kernel
theorem dX11_totals_12 : decode cX11_totals 12 = .ok (.iload_n 1, 1) := by decide +kernel
theorem dX11_totals_13 : decode cX11_totals 13 = .ok (.aload_n 0, 1) := by decide +kernel
theorem dX11_totals_14 : decode cX11_totals 14 = .ok (.iload_n 2, 1) := by decide +kernel
theorem dX11_totals_15 : decode cX11_totals 15 = .ok (.invokevirtual 315, 3) := by decide +kernel
theorem dX11_totals_18 : decode cX11_totals 18 = .ok (.iadd, 1) := by decide +kernel
theorem dX11_totals_19 : decode cX11_totals 19 = .ok (.istore_n 1, 1) := by decide +kernel
theorem dX11_totals_20 : decode cX11_totals 20 = .ok (.iinc 2 1, 3) := by decide +kernel
theorem dX11_totals_23 : decode cX11_totals 23 = .ok (.goto (-19), 3) := by decide +kernel
theorem dX11_totals_26 : decode cX11_totals 26 = .ok (.iload_n 1, 1) := by decide +kernel
theorem dX11_totals_27 : decode cX11_totals 27 = .ok (.ireturn, 1) := by decide +kernel
theorem dX11_useLine_0 : decode cX11_useLine 0 = .ok (.aload_n 0, 1) := by decide +kernel
theorem dX11_useLine_1 : decode cX11_useLine 1 = .ok (.iload_n 1, 1) := by decide +kernel
theorem dX11_useLine_2 : decode cX11_useLine 2 = .ok (.invokevirtual 315, 3) := by decide +kernel
theorem dX11_useLine_5 : decode cX11_useLine 5 = .ok (.istore_n 2, 1) := by decide +kernel
theorem dX11_useLine_6 : decode cX11_useLine 6 = .ok (.iconst 0, 1) := by decide +kernel
theorem dX11_useLine_7 : decode cX11_useLine 7 = .ok (.istore_n 3, 1) := by decide +kernel
theorem dX11_useLine_8 : decode cX11_useLine 8 = .ok (.iconst 4, 1) := by decide +kernel
theorem dX11_useLine_9 : decode cX11_useLine 9 = .ok (.istore 4, 2) := by decide +kernel
theorem dX11_useLine_11 : decode cX11_useLine 11 = .ok (.iload_n 3, 1) := by decide +kernel
theorem dX11_useLine_12 : decode cX11_useLine 12 = .ok (.aload_n 0, 1) := by decide +kernel
theorem dX11_useLine_13 : decode cX11_useLine 13 = .ok (.getfield 35, 3) := by decide +kernel
theorem dX11_useLine_16 : decode cX11_useLine 16 = .ok (.iload_n 1, 1) := by decide +kernel
theorem dX11_useLine_17 : decode cX11_useLine 17 = .ok (.iaload, 1) := by decide +kernel
theorem dX11_useLine_18 : decode cX11_useLine 18 = .ok (.if_icmp .ge 171, 3) := by decide +kernel
theorem dX11_useLine_21 : decode cX11_useLine 21 = .ok (.iconst (-1), 1) := by decide +kernel
theorem dX11_useLine_22 : decode cX11_useLine 22 = .ok (.istore 5, 2) := by decide +kernel
theorem dX11_useLine_24 : decode cX11_useLine 24 = .ok (.iconst 0, 1) := by decide +kernel
theorem dX11_useLine_25 : decode cX11_useLine 25 = .ok (.istore 6, 2) := by decide +kernel
theorem dX11_useLine_27 : decode cX11_useLine 27 = .ok (.iload 6, 2) := by decide +kernel
theorem dX11_useLine_29 : decode cX11_useLine 29 = .ok (.aload_n 0, 1) := by decide +kernel
theorem dX11_useLine_30 : decode cX11_useLine 30 = .ok (.getfield 135, 3) := by decide +kernel
theorem dX11_useLine_33 : decode cX11_useLine 33 = .ok (.if_icmp .ge 102, 3) := by decide +kernel
theorem dX11_useLine_36 : decode cX11_useLine 36 = .ok (.iload 5, 2) := by decide +kernel
theorem dX11_useLine_38 : decode cX11_useLine 38 = .ok (.ifCond .ge 97, 3) := by decide +kernel
theorem dX11_useLine_41 : decode cX11_useLine 41 = .ok (.aload_n 0, 1) := by decide +kernel
theorem dX11_useLine_42 : decode cX11_useLine 42 = .ok (.iload 4, 2) := by decide +kernel
theorem dX11_useLine_44 : decode cX11_useLine 44 = .ok (.iload 6, 2) := by decide +kernel
theorem dX11_useLine_46 : decode cX11_useLine 46 = .ok (.invokevirtual 209, 3) := by decide +kernel
theorem dX11_useLine_49 : decode cX11_useLine 49 = .ok (.ifCond .eq 64, 3) := by decide +kernel
theorem dX11_useLine_52 : decode cX11_useLine 52 = .ok (.aload_n 0, 1) := by decide +kernel
theorem dX11_useLine_53 : decode cX11_useLine 53 = .ok (.iload_n 1, 1) := by decide +kernel
theorem dX11_useLine_54 : decode cX11_useLine 54 = .ok (.iload 6, 2) := by decide +kernel
theorem dX11_useLine_56 : decode cX11_useLine 56 = .ok (.iload_n 3, 1) := by decide +kernel
theorem dX11_useLine_57 : decode cX11_useLine 57 = .ok (.invokevirtual 312, 3) := by decide +kernel
theorem dX11_useLine_60 : decode cX11_useLine 60 = .ok (.ifCond .eq 53, 3) := by decide +kernel
theorem dX11_useLine_63 : decode cX11_useLine 63 = .ok (.aload_n 0, 1) := by decide +kernel
theorem dX11_useLine_64 : decode cX11_useLine 64 = .ok (.getfield 16, 3) := by decide +kernel
theorem dX11_useLine_67 : decode cX11_useLine 67 = .ok (.iload 6, 2) := by decide +kernel
theorem dX11_useLine_69 : decode cX11_useLine 69 = .ok (.iaload, 1) := by decide +kernel
theorem dX11_useLine_70 : decode cX11_useLine 70 = .ok (.aload_n 0, 1) := by decide +kernel
theorem dX11_useLine_71 : decode cX11_useLine 71 = .ok (.getfield 115, 3) := by decide +kernel
theorem dX11_useLine_74 : decode cX11_useLine 74 = .ok (.iload_n 3, 1) := by decide +kernel
theorem dX11_useLine_75 : decode cX11_useLine 75 = .ok (.aload_n 0, 1) := by decide +kernel
theorem dX11_useLine_76 : decode cX11_useLine 76 = .ok (.getfield 13, 3) := by decide +kernel
theorem dX11_useLine_79 : decode cX11_useLine 79 = .ok (.iload 6, 2) := by decide +kernel
theorem dX11_useLine_81 : decode cX11_useLine 81 = .ok (.iaload, 1) := by decide +kernel
theorem dX11_useLine_82 : decode cX11_useLine 82 = .ok (.iadd, 1) := by decide +kernel
theorem dX11_useLine_83 : decode cX11_useLine 83 = .ok (.aload_n 0, 1) := by decide +kernel
theorem dX11_useLine_84 : decode cX11_useLine 84 = .ok (.getfield 19, 3) := by decide +kernel
theorem dX11_useLine_87 : decode cX11_useLine 87 = .ok (.iload 6, 2) := by decide +kernel
theorem dX11_useLine_89 : decode cX11_useLine 89 = .ok (.iaload, 1) := by decide +kernel
theorem dX11_useLine_90 : decode cX11_useLine 90 = .ok (.invokestatic 201, 3) := by decide +kernel
theorem dX11_useLine_93 : decode cX11_useLine 93 = .ok (.iaload, 1) := by decide +kernel
theorem dX11_useLine_94 : decode cX11_useLine 94 = .ok (.iadd, 1) := by decide +kernel
theorem dX11_useLine_95 : decode cX11_useLine 95 = .ok (.aload_n 0, 1) := by decide +kernel
theorem dX11_useLine_96 : decode cX11_useLine 96 = .ok (.getfield 115, 3) := by decide +kernel
theorem dX11_useLine_99 : decode cX11_useLine 99 = .ok (.iload_n 3, 1) := by decide +kernel
theorem dX11_useLine_100 : decode cX11_useLine 100 = .ok (.iload 4, 2) := by decide +kernel
theorem dX11_useLine_102 : decode cX11_useLine 102 = .ok (.invokestatic 201, 3) := by decide +kernel
theorem dX11_useLine_105 : decode cX11_useLine 105 = .ok (.iaload, 1) := by decide +kernel
theorem dX11_useLine_106 : decode cX11_useLine 106 = .ok (.if_icmp .ne 7, 3) := by decide +kernel
theorem dX11_useLine_109 : decode cX11_useLine 109 = .ok (.iconst 1, 1) := by decide +kernel
theorem dX11_useLine_110 : decode cX11_useLine 110 = .ok (.goto 4, 3) := by decide +kernel
theorem dX11_useLine_113 : decode cX11_useLine 113 = .ok (.iconst 0, 1) := by decide +kernel
theorem dX11_useLine_114 : decode cX11_useLine 114 = .ok (.istore 7, 2) := by decide +kernel
theorem dX11_useLine_116 : decode cX11_useLine 116 = .ok (.iload 7, 2) := by decide +kernel
theorem dX11_useLine_118 : decode cX11_useLine 118 = .ok (.ifCond .eq 8, 3) := by decide +kernel
theorem dX11_useLine_121 : decode cX11_useLine 121 = .ok (.iload 6, 2) := by decide +kernel
theorem dX11_useLine_123 : decode cX11_useLine 123 = .ok (.goto 4, 3) := by decide +kernel
theorem dX11_useLine_126 : decode cX11_useLine 126 = .ok (.iconst (-1), 1) := by decide +kernel
theorem dX11_useLine_127 : decode cX11_useLine 127 = .ok (.istore 5, 2) := by decide +kernel
theorem dX11_useLine_129 : decode cX11_useLine 129 = .ok (.iinc 6 1, 3) := by decide +kernel
theorem dX11_useLine_132 : decode cX11_useLine 132 = .ok (.goto (-105), 3) := by decide +kernel
theorem dX11_useLine_135 : decode cX11_useLine 135 = .ok (.iload 5, 2) := by decide +kernel
theorem dX11_useLine_137 : decode cX11_useLine 137 = .ok (.ifCond .ge 19, 3) := by decide +kernel
theorem dX11_useLine_140 : decode cX11_useLine 140 = .ok (.aload_n 0, 1) := by decide +kernel
theorem dX11_useLine_141 : decode cX11_useLine 141 = .ok (.dup, 1) := by decide +kernel
theorem dX11_useLine_142 : decode cX11_useLine 142 = .ok (.getfield 319, 3) := by decide +kernel

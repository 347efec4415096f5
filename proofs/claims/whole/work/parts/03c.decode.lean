theorem dX3_takeLetter_102 : decode cX3_takeLetter 102 = .ok (.lstore 6, 2) := by decide +kernel
theorem dX3_takeLetter_104 : decode cX3_takeLetter 104 = .ok (.iload 5, 2) := by decide +kernel
theorem dX3_takeLetter_106 : decode cX3_takeLetter 106 = .ok (.iload 4, 2) := by decide +kernel
theorem dX3_takeLetter_108 : decode cX3_takeLetter 108 = .ok (.if_icmp .ge 21, 3) := by decide +kernel
theorem dX3_takeLetter_111 : decode cX3_takeLetter 111 = .ok (.aload_n 0, 1) := by decide +kernel
theorem dX3_takeLetter_112 : decode cX3_takeLetter 112 = .ok (.getfield 11, 3) := by decide +kernel
theorem dX3_takeLetter_115 : decode cX3_takeLetter 115 = .ok (.iload_n 3, 1) := by decide +kernel
theorem dX3_takeLetter_116 : decode cX3_takeLetter 116 = .ok (.iload 5, 2) := by decide +kernel
theorem dX3_takeLetter_118 : decode cX3_takeLetter 118 = .ok (.iadd, 1) := by decide +kernel
theorem dX3_takeLetter_119 : decode cX3_takeLetter 119 = .ok (.laload, 1) := by decide +kernel
theorem dX3_takeLetter_120 : decode cX3_takeLetter 120 = .ok (.aload_n 0, 1) := by decide +kernel
theorem dX3_takeLetter_121 : decode cX3_takeLetter 121 = .ok (.iconst 2, 1) := by decide +kernel
theorem dX3_takeLetter_122 : decode cX3_takeLetter 122 = .ok (.invokevirtual 77, 3) := by decide +kernel
theorem dX3_takeLetter_125 : decode cX3_takeLetter 125 = .ok (.ladd, 1) := by decide +kernel
theorem dX3_takeLetter_126 : decode cX3_takeLetter 126 = .ok (.goto 6, 3) := by decide +kernel
theorem dX3_takeLetter_129 : decode cX3_takeLetter 129 = .ok (.ldc2_w 36, 3) := by decide +kernel
theorem dX3_takeLetter_132 : decode cX3_takeLetter 132 = .ok (.lstore 8, 2) := by decide +kernel
theorem dX3_takeLetter_134 : decode cX3_takeLetter 134 = .ok (.aload_n 0, 1) := by decide +kernel
theorem dX3_takeLetter_135 : decode cX3_takeLetter 135 = .ok (.getfield 11, 3) := by decide +kernel
theorem dX3_takeLetter_138 : decode cX3_takeLetter 138 = .ok (.iload_n 3, 1) := by decide +kernel
theorem dX3_takeLetter_139 : decode cX3_takeLetter 139 = .ok (.iload 5, 2) := by decide +kernel
theorem dX3_takeLetter_141 : decode cX3_takeLetter 141 = .ok (.iadd, 1) := by decide +kernel
theorem dX3_takeLetter_142 : decode cX3_takeLetter 142 = .ok (.lload 6, 2) := by decide +kernel
theorem dX3_takeLetter_144 : decode cX3_takeLetter 144 = .ok (.lload 8, 2) := by decide +kernel
theorem dX3_takeLetter_146 : decode cX3_takeLetter 146 = .ok (.invokestatic 52, 3) := by decide +kernel
theorem dX3_takeLetter_149 : decode cX3_takeLetter 149 = .ok (.lastore, 1) := by decide +kernel
theorem dX3_takeLetter_150 : decode cX3_takeLetter 150 = .ok (.iinc 5 (-1), 3) := by decide +kernel
theorem dX3_takeLetter_153 : decode cX3_takeLetter 153 = .ok (.goto (-93), 3) := by decide +kernel
theorem dX3_takeLetter_156 : decode cX3_takeLetter 156 = .ok (.aload_n 0, 1) := by decide +kernel
theorem dX3_takeLetter_157 : decode cX3_takeLetter 157 = .ok (.getfield 11, 3) := by decide +kernel
theorem dX3_takeLetter_160 : decode cX3_takeLetter 160 = .ok (.iload_n 3, 1) := by decide +kernel
theorem dX3_takeLetter_161 : decode cX3_takeLetter 161 = .ok (.ldc2_w 36, 3) := by decide +kernel
theorem dX3_takeLetter_164 : decode cX3_takeLetter 164 = .ok (.lastore, 1) := by decide +kernel
theorem dX3_takeLetter_165 : decode cX3_takeLetter 165 = .ok (.iinc 2 1, 3) := by decide +kernel
theorem dX3_takeLetter_168 : decode cX3_takeLetter 168 = .ok (.goto (-139), 3) := by decide +kernel
theorem dX3_takeLetter_171 : decode cX3_takeLetter 171 = .ok (.return_, 1) := by decide +kernel
theorem dX3_mistake_0 : decode cX3_mistake 0 = .ok (.aload_n 0, 1) := by decide +kernel
theorem dX3_mistake_1 : decode cX3_mistake 1 = .ok (.getfield 26, 3) := by decide +kernel
theorem dX3_mistake_4 : decode cX3_mistake 4 = .ok (.getfield 85, 3) := by decide +kernel
theorem dX3_mistake_7 : decode cX3_mistake 7 = .ok (.iload_n 1, 1) := by decide +kernel
theorem dX3_mistake_8 : decode cX3_mistake 8 = .ok (.iaload, 1) := by decide +kernel
theorem dX3_mistake_9 : decode cX3_mistake 9 = .ok (.i2l, 1) := by decide +kernel
theorem dX3_mistake_10 : decode cX3_mistake 10 = .ok (.bipush 20, 2) := by decide +kernel
theorem dX3_mistake_12 : decode cX3_mistake 12 = .ok (.lshl, 1) := by decide +kernel
theorem dX3_mistake_13 : decode cX3_mistake 13 = .ok (.lconst 1, 1) := by decide +kernel
theorem dX3_mistake_14 : decode cX3_mistake 14 = .ok (.ladd, 1) := by decide +kernel
theorem dX3_mistake_15 : decode cX3_mistake 15 = .ok (.lreturn, 1) := by decide +kernel
theorem dX4_init_0 : decode cX4_init 0 = .ok (.aload_n 0, 1) := by decide +kernel
theorem dX4_init_1 : decode cX4_init 1 = .ok (.invokespecial 3, 3) := by decide +kernel
theorem dX4_init_4 : decode cX4_init 4 = .ok (.return_, 1) := by decide +kernel
theorem dX4_lowBit_0 : decode cX4_lowBit 0 = .ok (.iload_n 0, 1) := by decide +kernel
theorem dX4_lowBit_1 : decode cX4_lowBit 1 = .ok (.bipush 64, 2) := by decide +kernel
theorem dX4_lowBit_3 : decode cX4_lowBit 3 = .ok (.if_icmp .ge 9, 3) := by decide +kernel
theorem dX4_lowBit_6 : decode cX4_lowBit 6 = .ok (.lconst 1, 1) := by decide +kernel
theorem dX4_lowBit_7 : decode cX4_lowBit 7 = .ok (.iload_n 0, 1) := by decide +kernel
theorem dX4_lowBit_8 : decode cX4_lowBit 8 = .ok (.lshl, 1) := by decide +kernel
theorem dX4_lowBit_9 : decode cX4_lowBit 9 = .ok (.goto 4, 3) := by decide +kernel
theorem dX4_lowBit_12 : decode cX4_lowBit 12 = .ok (.lconst 0, 1) := by decide +kernel
theorem dX4_lowBit_13 : decode cX4_lowBit 13 = .ok (.lreturn, 1) := by decide +kernel
theorem dX4_highBit_0 : decode cX4_highBit 0 = .ok (.iload_n 0, 1) := by decide +kernel
theorem dX4_highBit_1 : decode cX4_highBit 1 = .ok (.bipush 64, 2) := by decide +kernel
theorem dX4_highBit_3 : decode cX4_highBit 3 = .ok (.if_icmp .ge 7, 3) := by decide +kernel
theorem dX4_highBit_6 : decode cX4_highBit 6 = .ok (.lconst 0, 1) := by decide +kernel
theorem dX4_highBit_7 : decode cX4_highBit 7 = .ok (.goto 9, 3) := by decide +kernel
theorem dX4_highBit_10 : decode cX4_highBit 10 = .ok (.lconst 1, 1) := by decide +kernel
theorem dX4_highBit_11 : decode cX4_highBit 11 = .ok (.iload_n 0, 1) := by decide +kernel
theorem dX4_highBit_12 : decode cX4_highBit 12 = .ok (.bipush 64, 2) := by decide +kernel
theorem dX4_highBit_14 : decode cX4_highBit 14 = .ok (.isub, 1) := by decide +kernel
theorem dX4_highBit_15 : decode cX4_highBit 15 = .ok (.lshl, 1) := by decide +kernel
theorem dX4_highBit_16 : decode cX4_highBit 16 = .ok (.lreturn, 1) := by decide +kernel
theorem dX4_add_0 : decode cX4_add 0 = .ok (.aload_n 0, 1) := by decide +kernel
theorem dX4_add_1 : decode cX4_add 1 = .ok (.dup, 1) := by decide +kernel
theorem dX4_add_2 : decode cX4_add 2 = .ok (.getfield 9, 3) := by decide +kernel
theorem dX4_add_5 : decode cX4_add 5 = .ok (.iload_n 1, 1) := by decide +kernel
theorem dX4_add_6 : decode cX4_add 6 = .ok (.invokestatic 15, 3) := by decide +kernel
theorem dX4_add_9 : decode cX4_add 9 = .ok (.lor, 1) := by decide +kernel
theorem dX4_add_10 : decode cX4_add 10 = .ok (.putfield 9, 3) := by decide +kernel
theorem dX4_add_13 : decode cX4_add 13 = .ok (.aload_n 0, 1) := by decide +kernel
theorem dX4_add_14 : decode cX4_add 14 = .ok (.dup, 1) := by decide +kernel
theorem dX4_add_15 : decode cX4_add 15 = .ok (.getfield 19, 3) := by decide +kernel
theorem dX4_add_18 : decode cX4_add 18 = .ok (.iload_n 1, 1) := by decide +kernel
theorem dX4_add_19 : decode cX4_add 19 = .ok (.invokestatic 22, 3) := by decide +kernel
theorem dX4_add_22 : decode cX4_add 22 = .ok (.lor, 1) := by decide +kernel
theorem dX4_add_23 : decode cX4_add 23 = .ok (.putfield 19, 3) := by decide +kernel
theorem dX4_add_26 : decode cX4_add 26 = .ok (.return_, 1) := by decide +kernel
theorem dX4_empty_0 : decode cX4_empty 0 = .ok (.aload_n 0, 1) := by decide +kernel
theorem dX4_empty_1 : decode cX4_empty 1 = .ok (.lconst 0, 1) := by decide +kernel
theorem dX4_empty_2 : decode cX4_empty 2 = .ok (.putfield 9, 3) := by decide +kernel
theorem dX4_empty_5 : decode cX4_empty 5 = .ok (.aload_n 0, 1) := by decide +kernel
theorem dX4_empty_6 : decode cX4_empty 6 = .ok (.lconst 0, 1) := by decide +kernel
theorem dX4_empty_7 : decode cX4_empty 7 = .ok (.putfield 19, 3) := by decide +kernel
theorem dX4_empty_10 : decode cX4_empty 10 = .ok (.return_, 1) := by decide +kernel
theorem dX4_become_0 : decode cX4_become 0 = .ok (.aload_n 0, 1) := by decide +kernel
theorem dX4_become_1 : decode cX4_become 1 = .ok (.aload_n 1, 1) := by decide +kernel
theorem dX4_become_2 : decode cX4_become 2 = .ok (.getfield 9, 3) := by decide +kernel
theorem dX4_become_5 : decode cX4_become 5 = .ok (.putfield 9, 3) := by decide +kernel
theorem dX4_become_8 : decode cX4_become 8 = .ok (.aload_n 0, 1) := by decide +kernel
theorem dX4_become_9 : decode cX4_become 9 = .ok (.aload_n 1, 1) := by decide +kernel
theorem dX4_become_10 : decode cX4_become 10 = .ok (.getfield 19, 3) := by decide +kernel
theorem dX4_become_13 : decode cX4_become 13 = .ok (.putfield 19, 3) := by decide +kernel
theorem dX4_become_16 : decode cX4_become 16 = .ok (.return_, 1) := by decide +kernel
theorem dX4_isEmpty_0 : decode cX4_isEmpty 0 = .ok (.aload_n 0, 1) := by decide +kernel
theorem dX4_isEmpty_1 : decode cX4_isEmpty 1 = .ok (.getfield 9, 3) := by decide +kernel
theorem dX4_isEmpty_4 : decode cX4_isEmpty 4 = .ok (.lconst 0, 1) := by decide +kernel
theorem dX4_isEmpty_5 : decode cX4_isEmpty 5 = .ok (.lcmp, 1) := by decide +kernel
theorem dX4_isEmpty_6 : decode cX4_isEmpty 6 = .ok (.ifCond .ne 16, 3) := by decide +kernel
theorem dX4_isEmpty_9 : decode cX4_isEmpty 9 = .ok (.aload_n 0, 1) := by decide +kernel
theorem dX4_isEmpty_10 : decode cX4_isEmpty 10 = .ok (.getfield 19, 3) := by decide +kernel
theorem dX4_isEmpty_13 : decode cX4_isEmpty 13 = .ok (.lconst 0, 1) := by decide +kernel
theorem dX4_isEmpty_14 : decode cX4_isEmpty 14 = .ok (.lcmp, 1) := by decide +kernel
theorem dX4_isEmpty_15 : decode cX4_isEmpty 15 = .ok (.ifCond .ne 7, 3) := by decide +kernel
theorem dX4_isEmpty_18 : decode cX4_isEmpty 18 = .ok (.iconst 1, 1) := by decide +kernel
theorem dX4_isEmpty_19 : decode cX4_isEmpty 19 = .ok (.goto 4, 3) := by decide +kernel
theorem dX4_isEmpty_22 : decode cX4_isEmpty 22 = .ok (.iconst 0, 1) := by decide +kernel
theorem dX4_isEmpty_23 : decode cX4_isEmpty 23 = .ok (.ireturn, 1) := by decide +kernel
theorem dX4_isLike_0 : decode cX4_isLike 0 = .ok (.aload_n 0, 1) := by decide +kernel
theorem dX4_isLike_1 : decode cX4_isLike 1 = .ok (.getfield 9, 3) := by decide +kernel
theorem dX4_isLike_4 : decode cX4_isLike 4 = .ok (.aload_n 1, 1) := by decide +kernel
theorem dX4_isLike_5 : decode cX4_isLike 5 = .ok (.getfield 9, 3) := by decide +kernel
theorem dX4_isLike_8 : decode cX4_isLike 8 = .ok (.lcmp, 1) := by decide +kernel
theorem dX4_isLike_9 : decode cX4_isLike 9 = .ok (.ifCond .ne 19, 3) := by decide +kernel
theorem dX4_isLike_12 : decode cX4_isLike 12 = .ok (.aload_n 0, 1) := by decide +kernel
theorem dX4_isLike_13 : decode cX4_isLike 13 = .ok (.getfield 19, 3) := by decide +kernel
theorem dX4_isLike_16 : decode cX4_isLike 16 = .ok (.aload_n 1, 1) := by decide +kernel
theorem dX4_isLike_17 : decode cX4_isLike 17 = .ok (.getfield 19, 3) := by decide +kernel
theorem dX4_isLike_20 : decode cX4_isLike 20 = .ok (.lcmp, 1) := by decide +kernel
theorem dX4_isLike_21 : decode cX4_isLike 21 = .ok (.ifCond .ne 7, 3) := by decide +kernel
theorem dX4_isLike_24 : decode cX4_isLike 24 = .ok (.iconst 1, 1) := by decide +kernel
theorem dX4_isLike_25 : decode cX4_isLike 25 = .ok (.goto 4, 3) := by decide +kernel
theorem dX4_isLike_28 : decode cX4_isLike 28 = .ok (.iconst 0, 1) := by decide +kernel
theorem dX4_isLike_29 : decode cX4_isLike 29 = .ok (.ireturn, 1) := by decide +kernel
theorem dX4_head_0 : decode cX4_head 0 = .ok (.aload_n 0, 1) := by decide +kernel
theorem dX4_head_1 : decode cX4_head 1 = .ok (.getfield 9, 3) := by decide +kernel
theorem dX4_head_4 : decode cX4_head 4 = .ok (.aload_n 0, 1) := by decide +kernel
theorem dX4_head_5 : decode cX4_head 5 = .ok (.getfield 19, 3) := by decide +kernel
theorem dX4_head_8 : decode cX4_head 8 = .ok (.ldc2_w 25, 3) := by decide +kernel
theorem dX4_head_11 : decode cX4_head 11 = .ok (.lmul, 1) := by decide +kernel
theorem dX4_head_12 : decode cX4_head 12 = .ok (.lxor, 1) := by decide +kernel
theorem dX4_head_13 : decode cX4_head 13 = .ok (.ldc2_w 27, 3) := by decide +kernel
theorem dX4_head_16 : decode cX4_head 16 = .ok (.lmul, 1) := by decide +kernel
theorem dX4_head_17 : decode cX4_head 17 = .ok (.lstore_n 1, 1) := by decide +kernel
theorem dX4_head_18 : decode cX4_head 18 = .ok (.lload_n 1, 1) := by decide +kernel
theorem dX4_head_19 : decode cX4_head 19 = .ok (.bipush 54, 2) := by decide +kernel
theorem dX4_head_21 : decode cX4_head 21 = .ok (.lushr, 1) := by decide +kernel
theorem dX4_head_22 : decode cX4_head 22 = .ok (.l2i, 1) := by decide +kernel
theorem dX4_head_23 : decode cX4_head 23 = .ok (.sipush 1023, 3) := by decide +kernel
theorem dX4_head_26 : decode cX4_head 26 = .ok (.iand, 1) := by decide +kernel
theorem dX4_head_27 : decode cX4_head 27 = .ok (.ireturn, 1) := by decide +kernel
theorem dX5_init_0 : decode cX5_init 0 = .ok (.aload_n 0, 1) := by decide +kernel
theorem dX5_init_1 : decode cX5_init 1 = .ok (.invokespecial 3, 3) := by decide +kernel
theorem dX5_init_4 : decode cX5_init 4 = .ok (.aload_n 0, 1) := by decide +kernel
theorem dX5_init_5 : decode cX5_init 5 = .ok (.bipush 49, 2) := by decide +kernel
theorem dX5_init_7 : decode cX5_init 7 = .ok (.newarray .int, 2) := by decide +kernel
theorem dX5_init_9 : decode cX5_init 9 = .ok (.putfield 9, 3) := by decide +kernel
theorem dX5_init_12 : decode cX5_init 12 = .ok (.aload_n 0, 1) := by decide +kernel
theorem dX5_init_13 : decode cX5_init 13 = .ok (.sipush 245, 3) := by decide +kernel
theorem dX5_init_16 : decode cX5_init 16 = .ok (.newarray .int, 2) := by decide +kernel
theorem dX5_init_18 : decode cX5_init 18 = .ok (.putfield 15, 3) := by decide +kernel
theorem dX5_init_21 : decode cX5_init 21 = .ok (.aload_n 0, 1) := by decide +kernel
theorem dX5_init_22 : decode cX5_init 22 = .ok (.sipush 245, 3) := by decide +kernel
theorem dX5_init_25 : decode cX5_init 25 = .ok (.newarray .long, 2) := by decide +kernel
theorem dX5_init_27 : decode cX5_init 27 = .ok (.putfield 18, 3) := by decide +kernel
theorem dX5_init_30 : decode cX5_init 30 = .ok (.aload_n 0, 1) := by decide +kernel
theorem dX5_init_31 : decode cX5_init 31 = .ok (.aload_n 1, 1) := by decide +kernel
theorem dX5_init_32 : decode cX5_init 32 = .ok (.putfield 22, 3) := by decide +kernel
theorem dX5_init_35 : decode cX5_init 35 = .ok (.aload_n 0, 1) := by decide +kernel
theorem dX5_init_36 : decode cX5_init 36 = .ok (.aload_n 2, 1) := by decide +kernel
theorem dX5_init_37 : decode cX5_init 37 = .ok (.putfield 26, 3) := by decide +kernel
theorem dX5_init_40 : decode cX5_init 40 = .ok (.aload_n 0, 1) := by decide +kernel
theorem dX5_init_41 : decode cX5_init 41 = .ok (.aload_n 3, 1) := by decide +kernel
theorem dX5_init_42 : decode cX5_init 42 = .ok (.putfield 30, 3) := by decide +kernel
theorem dX5_init_45 : decode cX5_init 45 = .ok (.return_, 1) := by decide +kernel
theorem dX5_measure_0 : decode cX5_measure 0 = .ok (.aload_n 0, 1) := by decide +kernel
theorem dX5_measure_1 : decode cX5_measure 1 = .ok (.iload_n 1, 1) := by decide +kernel
theorem dX5_measure_2 : decode cX5_measure 2 = .ok (.putfield 34, 3) := by decide +kernel
theorem dX5_measure_5 : decode cX5_measure 5 = .ok (.aload_n 0, 1) := by decide +kernel
theorem dX5_measure_6 : decode cX5_measure 6 = .ok (.iload_n 2, 1) := by decide +kernel
theorem dX5_measure_7 : decode cX5_measure 7 = .ok (.putfield 38, 3) := by decide +kernel
theorem dX5_measure_10 : decode cX5_measure 10 = .ok (.iconst 0, 1) := by decide +kernel
theorem dX5_measure_11 : decode cX5_measure 11 = .ok (.istore_n 3, 1) := by decide +kernel
theorem dX5_measure_12 : decode cX5_measure 12 = .ok (.iload_n 3, 1) := by decide +kernel
theorem dX5_measure_13 : decode cX5_measure 13 = .ok (.iconst 5, 1) := by decide +kernel
theorem dX5_measure_14 : decode cX5_measure 14 = .ok (.if_icmp .ge 43, 3) := by decide +kernel
theorem dX5_measure_17 : decode cX5_measure 17 = .ok (.aload_n 0, 1) := by decide +kernel
theorem dX5_measure_18 : decode cX5_measure 18 = .ok (.getfield 15, 3) := by decide +kernel
theorem dX5_measure_21 : decode cX5_measure 21 = .ok (.aload_n 0, 1) := by decide +kernel
theorem dX5_measure_22 : decode cX5_measure 22 = .ok (.getfield 22, 3) := by decide +kernel
theorem dX5_measure_25 : decode cX5_measure 25 = .ok (.getfield 41, 3) := by decide +kernel
theorem dX5_measure_28 : decode cX5_measure 28 = .ok (.iconst 5, 1) := by decide +kernel
theorem dX5_measure_29 : decode cX5_measure 29 = .ok (.imul, 1) := by decide +kernel
theorem dX5_measure_30 : decode cX5_measure 30 = .ok (.iload_n 3, 1) := by decide +kernel
theorem dX5_measure_31 : decode cX5_measure 31 = .ok (.iadd, 1) := by decide +kernel
theorem dX5_measure_32 : decode cX5_measure 32 = .ok (.iconst 0, 1) := by decide +kernel
theorem dX5_measure_33 : decode cX5_measure 33 = .ok (.iastore, 1) := by decide +kernel
theorem dX5_measure_34 : decode cX5_measure 34 = .ok (.aload_n 0, 1) := by decide +kernel
theorem dX5_measure_35 : decode cX5_measure 35 = .ok (.getfield 18, 3) := by decide +kernel
theorem dX5_measure_38 : decode cX5_measure 38 = .ok (.aload_n 0, 1) := by decide +kernel
theorem dX5_measure_39 : decode cX5_measure 39 = .ok (.getfield 22, 3) := by decide +kernel
theorem dX5_measure_42 : decode cX5_measure 42 = .ok (.getfield 41, 3) := by decide +kernel
theorem dX5_measure_45 : decode cX5_measure 45 = .ok (.iconst 5, 1) := by decide +kernel
theorem dX5_measure_46 : decode cX5_measure 46 = .ok (.imul, 1) := by decide +kernel
theorem dX5_measure_47 : decode cX5_measure 47 = .ok (.iload_n 3, 1) := by decide +kernel
theorem dX5_measure_48 : decode cX5_measure 48 = .ok (.iadd, 1) := by decide +kernel
theorem dX5_measure_49 : decode cX5_measure 49 = .ok (.lconst 1, 1) := by decide +kernel
theorem dX5_measure_50 : decode cX5_measure 50 = .ok (.lastore, 1) := by decide +kernel
theorem dX5_measure_51 : decode cX5_measure 51 = .ok (.iinc 3 1, 3) := by decide +kernel
theorem dX5_measure_54 : decode cX5_measure 54 = .ok (.goto (-42), 3) := by decide +kernel
theorem dX5_measure_57 : decode cX5_measure 57 = .ok (.aload_n 0, 1) := by decide +kernel
theorem dX5_measure_58 : decode cX5_measure 58 = .ok (.getfield 22, 3) := by decide +kernel
theorem dX5_measure_61 : decode cX5_measure 61 = .ok (.getfield 41, 3) := by decide +kernel
theorem dX5_measure_64 : decode cX5_measure 64 = .ok (.iconst 1, 1) := by decide +kernel
theorem dX5_measure_65 : decode cX5_measure 65 = .ok (.isub, 1) := by decide +kernel
theorem dX5_measure_66 : decode cX5_measure 66 = .ok (.istore_n 3, 1) := by decide +kernel
theorem dX5_measure_67 : decode cX5_measure 67 = .ok (.iload_n 3, 1) := by decide +kernel
theorem dX5_measure_68 : decode cX5_measure 68 = .ok (.ifCond .lt 49, 3) := by decide +kernel
theorem dX5_measure_71 : decode cX5_measure 71 = .ok (.aload_n 0, 1) := by decide +kernel
theorem dX5_measure_72 : decode cX5_measure 72 = .ok (.getfield 9, 3) := by decide +kernel
theorem dX5_measure_75 : decode cX5_measure 75 = .ok (.iload_n 3, 1) := by decide +kernel
theorem dX5_measure_76 : decode cX5_measure 76 = .ok (.aload_n 0, 1) := by decide +kernel
theorem dX5_measure_77 : decode cX5_measure 77 = .ok (.getfield 26, 3) := by decide +kernel
theorem dX5_measure_80 : decode cX5_measure 80 = .ok (.aload_n 0, 1) := by decide +kernel
theorem dX5_measure_81 : decode cX5_measure 81 = .ok (.getfield 22, 3) := by decide +kernel
theorem dX5_measure_84 : decode cX5_measure 84 = .ok (.iload_n 3, 1) := by decide +kernel
theorem dX5_measure_85 : decode cX5_measure 85 = .ok (.invokevirtual 46, 3) := by decide +kernel
theorem dX5_measure_88 : decode cX5_measure 88 = .ok (.iastore, 1) := by decide +kernel
theorem dX5_measure_89 : decode cX5_measure 89 = .ok (.iconst 0, 1) := by decide +kernel
theorem dX5_measure_90 : decode cX5_measure 90 = .ok (.istore 4, 2) := by decide +kernel
theorem dX5_measure_92 : decode cX5_measure 92 = .ok (.iload 4, 2) := by decide +kernel
theorem dX5_measure_94 : decode cX5_measure 94 = .ok (.iconst 5, 1) := by decide +kernel
theorem dX5_measure_95 : decode cX5_measure 95 = .ok (.if_icmp .ge 16, 3) := by decide +kernel
theorem dX5_measure_98 : decode cX5_measure 98 = .ok (.aload_n 0, 1) := by decide +kernel
theorem dX5_measure_99 : decode cX5_measure 99 = .ok (.iload_n 3, 1) := by decide +kernel
theorem dX5_measure_100 : decode cX5_measure 100 = .ok (.iload 4, 2) := by decide +kernel
theorem dX5_measure_102 : decode cX5_measure 102 = .ok (.invokevirtual 52, 3) := by decide +kernel
theorem dX5_measure_105 : decode cX5_measure 105 = .ok (.iinc 4 1, 3) := by decide +kernel
theorem dX5_measure_108 : decode cX5_measure 108 = .ok (.goto (-16), 3) := by decide +kernel
theorem dX5_measure_111 : decode cX5_measure 111 = .ok (.iinc 3 (-1), 3) := by decide +kernel
theorem dX5_measure_114 : decode cX5_measure 114 = .ok (.goto (-47), 3) := by decide +kernel
theorem dX5_measure_117 : decode cX5_measure 117 = .ok (.return_, 1) := by decide +kernel
theorem dX5_measureFrom_0 : decode cX5_measureFrom 0 = .ok (.ldc 56, 2) := by decide +kernel
theorem dX5_measureFrom_2 : decode cX5_measureFrom 2 = .ok (.istore_n 3, 1) := by decide +kernel
theorem dX5_measureFrom_3 : decode cX5_measureFrom 3 = .ok (.lconst 0, 1) := by decide +kernel
theorem dX5_measureFrom_4 : decode cX5_measureFrom 4 = .ok (.lstore 4, 2) := by decide +kernel
theorem dX5_measureFrom_6 : decode cX5_measureFrom 6 = .ok (.iconst 0, 1) := by decide +kernel
theorem dX5_measureFrom_7 : decode cX5_measureFrom 7 = .ok (.istore 6, 2) := by decide +kernel
theorem dX5_measureFrom_9 : decode cX5_measureFrom 9 = .ok (.iload 6, 2) := by decide +kernel
theorem dX5_measureFrom_11 : decode cX5_measureFrom 11 = .ok (.aload_n 0, 1) := by decide +kernel
theorem dX5_measureFrom_12 : decode cX5_measureFrom 12 = .ok (.getfield 26, 3) := by decide +kernel
theorem dX5_measureFrom_15 : decode cX5_measureFrom 15 = .ok (.getfield 57, 3) := by decide +kernel
theorem dX5_measureFrom_18 : decode cX5_measureFrom 18 = .ok (.if_icmp .ge 63, 3) := by decide +kernel
theorem dX5_measureFrom_21 : decode cX5_measureFrom 21 = .ok (.aload_n 0, 1) := by decide +kernel
theorem dX5_measureFrom_22 : decode cX5_measureFrom 22 = .ok (.iload_n 1, 1) := by decide +kernel
theorem dX5_measureFrom_23 : decode cX5_measureFrom 23 = .ok (.iload_n 2, 1) := by decide +kernel
theorem dX5_measureFrom_24 : decode cX5_measureFrom 24 = .ok (.iload 6, 2) := by decide +kernel
theorem dX5_measureFrom_26 : decode cX5_measureFrom 26 = .ok (.invokevirtual 58, 3) := by decide +kernel
theorem dX5_measureFrom_29 : decode cX5_measureFrom 29 = .ok (.istore 7, 2) := by decide +kernel
theorem dX5_measureFrom_31 : decode cX5_measureFrom 31 = .ok (.iload 7, 2) := by decide +kernel
theorem dX5_measureFrom_33 : decode cX5_measureFrom 33 = .ok (.iload_n 3, 1) := by decide +kernel
theorem dX5_measureFrom_34 : decode cX5_measureFrom 34 = .ok (.if_icmp .ge 9, 3) := by decide +kernel
theorem dX5_measureFrom_37 : decode cX5_measureFrom 37 = .ok (.iload 7, 2) := by decide +kernel
theorem dX5_measureFrom_39 : decode cX5_measureFrom 39 = .ok (.istore_n 3, 1) := by decide +kernel
theorem dX5_measureFrom_40 : decode cX5_measureFrom 40 = .ok (.lconst 0, 1) := by decide +kernel
theorem dX5_measureFrom_41 : decode cX5_measureFrom 41 = .ok (.lstore 4, 2) := by decide +kernel
theorem dX5_measureFrom_43 : decode cX5_measureFrom 43 = .ok (.iload 7, 2) := by decide +kernel
theorem dX5_measureFrom_45 : decode cX5_measureFrom 45 = .ok (.ldc 56, 2) := by decide +kernel
theorem dX5_measureFrom_47 : decode cX5_measureFrom 47 = .ok (.if_icmp .ge 28, 3) := by decide +kernel
theorem dX5_measureFrom_50 : decode cX5_measureFrom 50 = .ok (.iload 7, 2) := by decide +kernel
theorem dX5_measureFrom_52 : decode cX5_measureFrom 52 = .ok (.iload_n 3, 1) := by decide +kernel
theorem dX5_measureFrom_53 : decode cX5_measureFrom 53 = .ok (.if_icmp .ne 22, 3) := by decide +kernel
theorem dX5_measureFrom_56 : decode cX5_measureFrom 56 = .ok (.lload 4, 2) := by decide +kernel
theorem dX5_measureFrom_58 : decode cX5_measureFrom 58 = .ok (.aload_n 0, 1) := by decide +kernel
theorem dX5_measureFrom_59 : decode cX5_measureFrom 59 = .ok (.getfield 18, 3) := by decide +kernel
theorem dX5_measureFrom_62 : decode cX5_measureFrom 62 = .ok (.aload_n 0, 1) := by decide +kernel
theorem dX5_measureFrom_63 : decode cX5_measureFrom 63 = .ok (.iload_n 1, 1) := by decide +kernel
theorem dX5_measureFrom_64 : decode cX5_measureFrom 64 = .ok (.iload 6, 2) := by decide +kernel
theorem dX5_measureFrom_66 : decode cX5_measureFrom 66 = .ok (.invokevirtual 62, 3) := by decide +kernel
theorem dX5_measureFrom_69 : decode cX5_measureFrom 69 = .ok (.laload, 1) := by decide +kernel
theorem dX5_measureFrom_70 : decode cX5_measureFrom 70 = .ok (.invokestatic 66, 3) := by decide +kernel
theorem dX5_measureFrom_73 : decode cX5_measureFrom 73 = .ok (.lstore 4, 2) := by decide +kernel
theorem dX5_measureFrom_75 : decode cX5_measureFrom 75 = .ok (.iinc 6 1, 3) := by decide +kernel
theorem dX5_measureFrom_78 : decode cX5_measureFrom 78 = .ok (.goto (-69), 3) := by decide +kernel
theorem dX5_measureFrom_81 : decode cX5_measureFrom 81 = .ok (.aload_n 0, 1) := by decide +kernel
theorem dX5_measureFrom_82 : decode cX5_measureFrom 82 = .ok (.getfield 15, 3) := by decide +kernel
theorem dX5_measureFrom_85 : decode cX5_measureFrom 85 = .ok (.iload_n 1, 1) := by decide +kernel
theorem dX5_measureFrom_86 : decode cX5_measureFrom 86 = .ok (.iconst 5, 1) := by decide +kernel
theorem dX5_measureFrom_87 : decode cX5_measureFrom 87 = .ok (.imul, 1) := by decide +kernel
theorem dX5_measureFrom_88 : decode cX5_measureFrom 88 = .ok (.iload_n 2, 1) := by decide +kernel
theorem dX5_measureFrom_89 : decode cX5_measureFrom 89 = .ok (.iadd, 1) := by decide +kernel
theorem dX5_measureFrom_90 : decode cX5_measureFrom 90 = .ok (.iload_n 3, 1) := by decide +kernel
theorem dX5_measureFrom_91 : decode cX5_measureFrom 91 = .ok (.iastore, 1) := by decide +kernel
theorem dX5_measureFrom_92 : decode cX5_measureFrom 92 = .ok (.aload_n 0, 1) := by decide +kernel
theorem dX5_measureFrom_93 : decode cX5_measureFrom 93 = .ok (.getfield 18, 3) := by decide +kernel
theorem dX5_measureFrom_96 : decode cX5_measureFrom 96 = .ok (.iload_n 1, 1) := by decide +kernel
theorem dX5_measureFrom_97 : decode cX5_measureFrom 97 = .ok (.iconst 5, 1) := by decide +kernel
theorem dX5_measureFrom_98 : decode cX5_measureFrom 98 = .ok (.imul, 1) := by decide +kernel
theorem dX5_measureFrom_99 : decode cX5_measureFrom 99 = .ok (.iload_n 2, 1) := by decide +kernel
theorem dX5_measureFrom_100 : decode cX5_measureFrom 100 = .ok (.iadd, 1) := by decide +kernel
theorem dX5_measureFrom_101 : decode cX5_measureFrom 101 = .ok (.lload 4, 2) := by decide +kernel
theorem dX5_measureFrom_103 : decode cX5_measureFrom 103 = .ok (.lastore, 1) := by decide +kernel
theorem dX5_measureFrom_104 : decode cX5_measureFrom 104 = .ok (.return_, 1) := by decide +kernel
theorem dX5_weightFrom_0 : decode cX5_weightFrom 0 = .ok (.aload_n 0, 1) := by decide +kernel
theorem dX5_weightFrom_1 : decode cX5_weightFrom 1 = .ok (.getfield 9, 3) := by decide +kernel
theorem dX5_weightFrom_4 : decode cX5_weightFrom 4 = .ok (.iload_n 1, 1) := by decide +kernel
theorem dX5_weightFrom_5 : decode cX5_weightFrom 5 = .ok (.iaload, 1) := by decide +kernel
theorem dX5_weightFrom_6 : decode cX5_weightFrom 6 = .ok (.iload_n 3, 1) := by decide +kernel
theorem dX5_weightFrom_7 : decode cX5_weightFrom 7 = .ok (.ishr, 1) := by decide +kernel
theorem dX5_weightFrom_8 : decode cX5_weightFrom 8 = .ok (.iconst 1, 1) := by decide +kernel
theorem dX5_weightFrom_9 : decode cX5_weightFrom 9 = .ok (.iand, 1) := by decide +kernel
theorem dX5_weightFrom_10 : decode cX5_weightFrom 10 = .ok (.ifCond .eq 23, 3) := by decide +kernel
theorem dX5_weightFrom_13 : decode cX5_weightFrom 13 = .ok (.aload_n 0, 1) := by decide +kernel
theorem dX5_weightFrom_14 : decode cX5_weightFrom 14 = .ok (.getfield 30, 3) := by decide +kernel
theorem dX5_weightFrom_17 : decode cX5_weightFrom 17 = .ok (.iload_n 2, 1) := by decide +kernel
theorem dX5_weightFrom_18 : decode cX5_weightFrom 18 = .ok (.aload_n 0, 1) := by decide +kernel
theorem dX5_weightFrom_19 : decode cX5_weightFrom 19 = .ok (.getfield 26, 3) := by decide +kernel
theorem dX5_weightFrom_22 : decode cX5_weightFrom 22 = .ok (.getfield 70, 3) := by decide +kernel
theorem dX5_weightFrom_25 : decode cX5_weightFrom 25 = .ok (.iload_n 3, 1) := by decide +kernel
theorem dX5_weightFrom_26 : decode cX5_weightFrom 26 = .ok (.iaload, 1) := by decide +kernel
theorem dX5_weightFrom_27 : decode cX5_weightFrom 27 = .ok (.invokevirtual 73, 3) := by decide +kernel
theorem dX5_weightFrom_30 : decode cX5_weightFrom 30 = .ok (.ifCond .ne 6, 3) := by decide +kernel
theorem dX5_weightFrom_33 : decode cX5_weightFrom 33 = .ok (.ldc 56, 2) := by decide +kernel
theorem dX5_weightFrom_35 : decode cX5_weightFrom 35 = .ok (.ireturn, 1) := by decide +kernel
theorem dX5_weightFrom_36 : decode cX5_weightFrom 36 = .ok (.aload_n 0, 1) := by decide +kernel
theorem dX5_weightFrom_37 : decode cX5_weightFrom 37 = .ok (.getfield 15, 3) := by decide +kernel
theorem dX5_weightFrom_40 : decode cX5_weightFrom 40 = .ok (.aload_n 0, 1) := by decide +kernel
theorem dX5_weightFrom_41 : decode cX5_weightFrom 41 = .ok (.iload_n 1, 1) := by decide +kernel
theorem dX5_weightFrom_42 : decode cX5_weightFrom 42 = .ok (.iload_n 3, 1) := by decide +kernel
theorem dX5_weightFrom_43 : decode cX5_weightFrom 43 = .ok (.invokevirtual 62, 3) := by decide +kernel
theorem dX5_weightFrom_46 : decode cX5_weightFrom 46 = .ok (.iaload, 1) := by decide +kernel
theorem dX5_weightFrom_47 : decode cX5_weightFrom 47 = .ok (.istore 4, 2) := by decide +kernel
theorem dX5_weightFrom_49 : decode cX5_weightFrom 49 = .ok (.iload 4, 2) := by decide +kernel
theorem dX5_weightFrom_51 : decode cX5_weightFrom 51 = .ok (.ldc 56, 2) := by decide +kernel
theorem dX5_weightFrom_53 : decode cX5_weightFrom 53 = .ok (.if_icmp .lt 8, 3) := by decide +kernel
theorem dX5_weightFrom_56 : decode cX5_weightFrom 56 = .ok (.ldc 56, 2) := by decide +kernel
theorem dX5_weightFrom_58 : decode cX5_weightFrom 58 = .ok (.goto 22, 3) := by decide +kernel
theorem dX5_weightFrom_61 : decode cX5_weightFrom 61 = .ok (.iload 4, 2) := by decide +kernel
theorem dX5_weightFrom_63 : decode cX5_weightFrom 63 = .ok (.aload_n 0, 1) := by decide +kernel
theorem dX5_weightFrom_64 : decode cX5_weightFrom 64 = .ok (.iload_n 3, 1) := by decide +kernel
theorem dX5_weightFrom_65 : decode cX5_weightFrom 65 = .ok (.iload_n 1, 1) := by decide +kernel
theorem dX5_weightFrom_66 : decode cX5_weightFrom 66 = .ok (.aload_n 0, 1) := by decide +kernel
theorem dX5_weightFrom_67 : decode cX5_weightFrom 67 = .ok (.getfield 26, 3) := by decide +kernel
theorem dX5_weightFrom_70 : decode cX5_weightFrom 70 = .ok (.getfield 79, 3) := by decide +kernel
theorem dX5_weightFrom_73 : decode cX5_weightFrom 73 = .ok (.iload_n 3, 1) := by decide +kernel
theorem dX5_weightFrom_74 : decode cX5_weightFrom 74 = .ok (.iaload, 1) := by decide +kernel
theorem dX5_weightFrom_75 : decode cX5_weightFrom 75 = .ok (.iadd, 1) := by decide +kernel
theorem dX5_weightFrom_76 : decode cX5_weightFrom 76 = .ok (.invokevirtual 82, 3) := by decide +kernel
theorem dX5_weightFrom_79 : decode cX5_weightFrom 79 = .ok (.iadd, 1) := by decide +kernel
theorem dX5_weightFrom_80 : decode cX5_weightFrom 80 = .ok (.ireturn, 1) := by decide +kernel
theorem dX5_behind_0 : decode cX5_behind 0 = .ok (.iload_n 1, 1) := by decide +kernel
theorem dX5_behind_1 : decode cX5_behind 1 = .ok (.aload_n 0, 1) := by decide +kernel
theorem dX5_behind_2 : decode cX5_behind 2 = .ok (.getfield 26, 3) := by decide +kernel
theorem dX5_behind_5 : decode cX5_behind 5 = .ok (.getfield 79, 3) := by decide +kernel
theorem dX5_behind_8 : decode cX5_behind 8 = .ok (.iload_n 2, 1) := by decide +kernel
theorem dX5_behind_9 : decode cX5_behind 9 = .ok (.iaload, 1) := by decide +kernel
theorem dX5_behind_10 : decode cX5_behind 10 = .ok (.iadd, 1) := by decide +kernel
theorem dX5_behind_11 : decode cX5_behind 11 = .ok (.iconst 5, 1) := by decide +kernel
theorem dX5_behind_12 : decode cX5_behind 12 = .ok (.imul, 1) := by decide +kernel
theorem dX5_behind_13 : decode cX5_behind 13 = .ok (.aload_n 0, 1) := by decide +kernel
theorem dX5_behind_14 : decode cX5_behind 14 = .ok (.getfield 26, 3) := by decide +kernel
theorem dX5_behind_17 : decode cX5_behind 17 = .ok (.getfield 70, 3) := by decide +kernel
theorem dX5_behind_20 : decode cX5_behind 20 = .ok (.iload_n 2, 1) := by decide +kernel
theorem dX5_behind_21 : decode cX5_behind 21 = .ok (.iaload, 1) := by decide +kernel
theorem dX5_behind_22 : decode cX5_behind 22 = .ok (.iadd, 1) := by decide +kernel
theorem dX5_behind_23 : decode cX5_behind 23 = .ok (.ireturn, 1) := by decide +kernel
theorem dX5_weight_0 : decode cX5_weight 0 = .ok (.aload_n 0, 1) := by decide +kernel
theorem dX5_weight_1 : decode cX5_weight 1 = .ok (.getfield 34, 3) := by decide +kernel
theorem dX5_weight_4 : decode cX5_weight 4 = .ok (.tableswitch 78 1 5 #[36, 46, 48, 50, 64], 36) := by decide +kernel
theorem dX5_weight_40 : decode cX5_weight 40 = .ok (.aload_n 0, 1) := by decide +kernel
theorem dX5_weight_41 : decode cX5_weight 41 = .ok (.getfield 26, 3) := by decide +kernel
theorem dX5_weight_44 : decode cX5_weight 44 = .ok (.getfield 85, 3) := by decide +kernel
theorem dX5_weight_47 : decode cX5_weight 47 = .ok (.iload_n 1, 1) := by decide +kernel
theorem dX5_weight_48 : decode cX5_weight 48 = .ok (.iaload, 1) := by decide +kernel
theorem dX5_weight_49 : decode cX5_weight 49 = .ok (.ireturn, 1) := by decide +kernel
theorem dX5_weight_50 : decode cX5_weight 50 = .ok (.iconst 1, 1) := by decide +kernel
theorem dX5_weight_51 : decode cX5_weight 51 = .ok (.ireturn, 1) := by decide +kernel
theorem dX5_weight_52 : decode cX5_weight 52 = .ok (.iconst (-1), 1) := by decide +kernel
theorem dX5_weight_53 : decode cX5_weight 53 = .ok (.ireturn, 1) := by decide +kernel
theorem dX5_weight_54 : decode cX5_weight 54 = .ok (.iload_n 2, 1) := by decide +kernel
theorem dX5_weight_55 : decode cX5_weight 55 = .ok (.aload_n 0, 1) := by decide +kernel
theorem dX5_weight_56 : decode cX5_weight 56 = .ok (.getfield 38, 3) := by decide +kernel
theorem dX5_weight_59 : decode cX5_weight 59 = .ok (.if_icmp .ne 7, 3) := by decide +kernel
theorem dX5_weight_62 : decode cX5_weight 62 = .ok (.iconst 1, 1) := by decide +kernel
theorem dX5_weight_63 : decode cX5_weight 63 = .ok (.goto 4, 3) := by decide +kernel
theorem dX5_weight_66 : decode cX5_weight 66 = .ok (.iconst 0, 1) := by decide +kernel
theorem dX5_weight_67 : decode cX5_weight 67 = .ok (.ireturn, 1) := by decide +kernel
theorem dX5_weight_68 : decode cX5_weight 68 = .ok (.iload_n 2, 1) := by decide +kernel
theorem dX5_weight_69 : decode cX5_weight 69 = .ok (.aload_n 0, 1) := by decide +kernel
theorem dX5_weight_70 : decode cX5_weight 70 = .ok (.getfield 38, 3) := by decide +kernel
theorem dX5_weight_73 : decode cX5_weight 73 = .ok (.if_icmp .ne 7, 3) := by decide +kernel
theorem dX5_weight_76 : decode cX5_weight 76 = .ok (.iconst (-1), 1) := by decide +kernel
theorem dX5_weight_77 : decode cX5_weight 77 = .ok (.goto 4, 3) := by decide +kernel
theorem dX5_weight_80 : decode cX5_weight 80 = .ok (.iconst 0, 1) := by decide +kernel
theorem dX5_weight_81 : decode cX5_weight 81 = .ok (.ireturn, 1) := by decide +kernel
theorem dX5_weight_82 : decode cX5_weight 82 = .ok (.iconst 0, 1) := by decide +kernel
theorem dX5_weight_83 : decode cX5_weight 83 = .ok (.ireturn, 1) := by decide +kernel
theorem dX5_isReadable_0 : decode cX5_isReadable 0 = .ok (.aload_n 0, 1) := by decide +kernel
theorem dX5_isReadable_1 : decode cX5_isReadable 1 = .ok (.getfield 18, 3) := by decide +kernel
theorem dX5_isReadable_4 : decode cX5_isReadable 4 = .ok (.iconst 4, 1) := by decide +kernel
theorem dX5_isReadable_5 : decode cX5_isReadable 5 = .ok (.laload, 1) := by decide +kernel
theorem dX5_isReadable_6 : decode cX5_isReadable 6 = .ok (.lconst 0, 1) := by decide +kernel
theorem dX5_isReadable_7 : decode cX5_isReadable 7 = .ok (.lcmp, 1) := by decide +kernel
theorem dX5_isReadable_8 : decode cX5_isReadable 8 = .ok (.ifCond .le 7, 3) := by decide +kernel
theorem dX5_isReadable_11 : decode cX5_isReadable 11 = .ok (.iconst 1, 1) := by decide +kernel
theorem dX5_isReadable_12 : decode cX5_isReadable 12 = .ok (.goto 4, 3) := by decide +kernel
theorem dX5_isReadable_15 : decode cX5_isReadable 15 = .ok (.iconst 0, 1) := by decide +kernel
theorem dX5_isReadable_16 : decode cX5_isReadable 16 = .ok (.ireturn, 1) := by decide +kernel
theorem dX5_leastInAll_0 : decode cX5_leastInAll 0 = .ok (.aload_n 0, 1) := by decide +kernel
theorem dX5_leastInAll_1 : decode cX5_leastInAll 1 = .ok (.getfield 15, 3) := by decide +kernel
theorem dX5_leastInAll_4 : decode cX5_leastInAll 4 = .ok (.iconst 4, 1) := by decide +kernel
theorem dX5_leastInAll_5 : decode cX5_leastInAll 5 = .ok (.iaload, 1) := by decide +kernel
theorem dX5_leastInAll_6 : decode cX5_leastInAll 6 = .ok (.ireturn, 1) := by decide +kernel
theorem dX5_manyInAll_0 : decode cX5_manyInAll 0 = .ok (.aload_n 0, 1) := by decide +kernel
theorem dX5_manyInAll_1 : decode cX5_manyInAll 1 = .ok (.getfield 18, 3) := by decide +kernel
theorem dX5_manyInAll_4 : decode cX5_manyInAll 4 = .ok (.iconst 4, 1) := by decide +kernel
theorem dX5_manyInAll_5 : decode cX5_manyInAll 5 = .ok (.laload, 1) := by decide +kernel
theorem dX5_manyInAll_6 : decode cX5_manyInAll 6 = .ok (.lreturn, 1) := by decide +kernel
theorem dX5_wordOfLeast_0 : decode cX5_wordOfLeast 0 = .ok (.lload_n 1, 1) := by decide +kernel
theorem dX5_wordOfLeast_1 : decode cX5_wordOfLeast 1 = .ok (.aload_n 0, 1) := by decide +kernel
theorem dX5_wordOfLeast_2 : decode cX5_wordOfLeast 2 = .ok (.getfield 18, 3) := by decide +kernel
theorem dX5_wordOfLeast_5 : decode cX5_wordOfLeast 5 = .ok (.iconst 4, 1) := by decide +kernel
theorem dX5_wordOfLeast_6 : decode cX5_wordOfLeast 6 = .ok (.laload, 1) := by decide +kernel
theorem dX5_wordOfLeast_7 : decode cX5_wordOfLeast 7 = .ok (.lcmp, 1) := by decide +kernel
theorem dX5_wordOfLeast_8 : decode cX5_wordOfLeast 8 = .ok (.ifCond .lt 5, 3) := by decide +kernel
theorem dX5_wordOfLeast_11 : decode cX5_wordOfLeast 11 = .ok (.iconst (-1), 1) := by decide +kernel
theorem dX5_wordOfLeast_12 : decode cX5_wordOfLeast 12 = .ok (.ireturn, 1) := by decide +kernel
theorem dX5_wordOfLeast_13 : decode cX5_wordOfLeast 13 = .ok (.aload_n 0, 1) := by decide +kernel
theorem dX5_wordOfLeast_14 : decode cX5_wordOfLeast 14 = .ok (.lload_n 1, 1) := by decide +kernel
theorem dX5_wordOfLeast_15 : decode cX5_wordOfLeast 15 = .ok (.putfield 88, 3) := by decide +kernel
theorem dX5_wordOfLeast_18 : decode cX5_wordOfLeast 18 = .ok (.iconst 0, 1) := by decide +kernel
theorem dX5_wordOfLeast_19 : decode cX5_wordOfLeast 19 = .ok (.istore 4, 2) := by decide +kernel
theorem dX5_wordOfLeast_21 : decode cX5_wordOfLeast 21 = .ok (.iconst 4, 1) := by decide +kernel
theorem dX5_wordOfLeast_22 : decode cX5_wordOfLeast 22 = .ok (.istore 5, 2) := by decide +kernel
theorem dX5_wordOfLeast_24 : decode cX5_wordOfLeast 24 = .ok (.iconst 0, 1) := by decide +kernel
theorem dX5_wordOfLeast_25 : decode cX5_wordOfLeast 25 = .ok (.istore 6, 2) := by decide +kernel
theorem dX5_wordOfLeast_27 : decode cX5_wordOfLeast 27 = .ok (.iload 6, 2) := by decide +kernel
theorem dX5_wordOfLeast_29 : decode cX5_wordOfLeast 29 = .ok (.iload_n 3, 1) := by decide +kernel
theorem dX5_wordOfLeast_30 : decode cX5_wordOfLeast 30 = .ok (.if_icmp .gt 73, 3) := by decide +kernel
theorem dX5_wordOfLeast_33 : decode cX5_wordOfLeast 33 = .ok (.iload 4, 2) := by decide +kernel
theorem dX5_wordOfLeast_35 : decode cX5_wordOfLeast 35 = .ok (.aload_n 0, 1) := by decide +kernel
theorem dX5_wordOfLeast_36 : decode cX5_wordOfLeast 36 = .ok (.getfield 22, 3) := by decide +kernel
theorem dX5_wordOfLeast_39 : decode cX5_wordOfLeast 39 = .ok (.getfield 41, 3) := by decide +kernel
theorem dX5_wordOfLeast_42 : decode cX5_wordOfLeast 42 = .ok (.if_icmp .ge 61, 3) := by decide +kernel
theorem dX5_wordOfLeast_45 : decode cX5_wordOfLeast 45 = .ok (.aload_n 0, 1) := by decide +kernel
theorem dX5_wordOfLeast_46 : decode cX5_wordOfLeast 46 = .ok (.iload 4, 2) := by decide +kernel
theorem dX5_wordOfLeast_48 : decode cX5_wordOfLeast 48 = .ok (.iload 5, 2) := by decide +kernel
theorem dX5_wordOfLeast_50 : decode cX5_wordOfLeast 50 = .ok (.invokevirtual 92, 3) := by decide +kernel
theorem dX5_wordOfLeast_53 : decode cX5_wordOfLeast 53 = .ok (.istore 7, 2) := by decide +kernel
theorem dX5_wordOfLeast_55 : decode cX5_wordOfLeast 55 = .ok (.iload 7, 2) := by decide +kernel
theorem dX5_wordOfLeast_57 : decode cX5_wordOfLeast 57 = .ok (.iconst (-1), 1) := by decide +kernel
theorem dX5_wordOfLeast_58 : decode cX5_wordOfLeast 58 = .ok (.if_icmp .eq 9, 3) := by decide +kernel
theorem dX5_wordOfLeast_61 : decode cX5_wordOfLeast 61 = .ok (.iload 6, 2) := by decide +kernel
theorem dX5_wordOfLeast_63 : decode cX5_wordOfLeast 63 = .ok (.iload_n 3, 1) := by decide +kernel
theorem dX5_wordOfLeast_64 : decode cX5_wordOfLeast 64 = .ok (.if_icmp .ne 6, 3) := by decide +kernel
theorem dX5_wordOfLeast_67 : decode cX5_wordOfLeast 67 = .ok (.iload 7, 2) := by decide +kernel
theorem dX5_wordOfLeast_69 : decode cX5_wordOfLeast 69 = .ok (.ireturn, 1) := by decide +kernel
theorem dX5_wordOfLeast_70 : decode cX5_wordOfLeast 70 = .ok (.iload 4, 2) := by decide +kernel
theorem dX5_wordOfLeast_72 : decode cX5_wordOfLeast 72 = .ok (.aload_n 0, 1) := by decide +kernel
theorem dX5_wordOfLeast_73 : decode cX5_wordOfLeast 73 = .ok (.getfield 26, 3) := by decide +kernel
theorem dX5_wordOfLeast_76 : decode cX5_wordOfLeast 76 = .ok (.getfield 79, 3) := by decide +kernel
theorem dX5_wordOfLeast_79 : decode cX5_wordOfLeast 79 = .ok (.iload 7, 2) := by decide +kernel
theorem dX5_wordOfLeast_81 : decode cX5_wordOfLeast 81 = .ok (.iaload, 1) := by decide +kernel
theorem dX5_wordOfLeast_82 : decode cX5_wordOfLeast 82 = .ok (.iadd, 1) := by decide +kernel
theorem dX5_wordOfLeast_83 : decode cX5_wordOfLeast 83 = .ok (.istore 4, 2) := by decide +kernel
theorem dX5_wordOfLeast_85 : decode cX5_wordOfLeast 85 = .ok (.aload_n 0, 1) := by decide +kernel
theorem dX5_wordOfLeast_86 : decode cX5_wordOfLeast 86 = .ok (.getfield 26, 3) := by decide +kernel
theorem dX5_wordOfLeast_89 : decode cX5_wordOfLeast 89 = .ok (.getfield 70, 3) := by decide +kernel
theorem dX5_wordOfLeast_92 : decode cX5_wordOfLeast 92 = .ok (.iload 7, 2) := by decide +kernel
theorem dX5_wordOfLeast_94 : decode cX5_wordOfLeast 94 = .ok (.iaload, 1) := by decide +kernel
theorem dX5_wordOfLeast_95 : decode cX5_wordOfLeast 95 = .ok (.istore 5, 2) := by decide +kernel
theorem dX5_wordOfLeast_97 : decode cX5_wordOfLeast 97 = .ok (.iinc 6 1, 3) := by decide +kernel
theorem dX5_wordOfLeast_100 : decode cX5_wordOfLeast 100 = .ok (.goto (-73), 3) := by decide +kernel
theorem dX5_wordOfLeast_103 : decode cX5_wordOfLeast 103 = .ok (.iconst (-1), 1) := by decide +kernel
theorem dX5_wordOfLeast_104 : decode cX5_wordOfLeast 104 = .ok (.ireturn, 1) := by decide +kernel
theorem dX5_choose_0 : decode cX5_choose 0 = .ok (.aload_n 0, 1) := by decide +kernel
theorem dX5_choose_1 : decode cX5_choose 1 = .ok (.getfield 15, 3) := by decide +kernel
theorem dX5_choose_4 : decode cX5_choose 4 = .ok (.iload_n 1, 1) := by decide +kernel
theorem dX5_choose_5 : decode cX5_choose 5 = .ok (.iconst 5, 1) := by decide +kernel
theorem dX5_choose_6 : decode cX5_choose 6 = .ok (.imul, 1) := by decide +kernel
theorem dX5_choose_7 : decode cX5_choose 7 = .ok (.iload_n 2, 1) := by decide +kernel
theorem dX5_choose_8 : decode cX5_choose 8 = .ok (.iadd, 1) := by decide +kernel
theorem dX5_choose_9 : decode cX5_choose 9 = .ok (.iaload, 1) := by decide +kernel
theorem dX5_choose_10 : decode cX5_choose 10 = .ok (.istore_n 3, 1) := by decide +kernel
theorem dX5_choose_11 : decode cX5_choose 11 = .ok (.iconst 0, 1) := by decide +kernel
theorem dX5_choose_12 : decode cX5_choose 12 = .ok (.istore 4, 2) := by decide +kernel
theorem dX5_choose_14 : decode cX5_choose 14 = .ok (.iload 4, 2) := by decide +kernel
theorem dX5_choose_16 : decode cX5_choose 16 = .ok (.aload_n 0, 1) := by decide +kernel
theorem dX5_choose_17 : decode cX5_choose 17 = .ok (.getfield 26, 3) := by decide +kernel
theorem dX5_choose_20 : decode cX5_choose 20 = .ok (.getfield 57, 3) := by decide +kernel
theorem dX5_choose_23 : decode cX5_choose 23 = .ok (.if_icmp .ge 73, 3) := by decide +kernel
theorem dX5_choose_26 : decode cX5_choose 26 = .ok (.aload_n 0, 1) := by decide +kernel
theorem dX5_choose_27 : decode cX5_choose 27 = .ok (.iload_n 1, 1) := by decide +kernel
theorem dX5_choose_28 : decode cX5_choose 28 = .ok (.iload_n 2, 1) := by decide +kernel
theorem dX5_choose_29 : decode cX5_choose 29 = .ok (.iload 4, 2) := by decide +kernel
theorem dX5_choose_31 : decode cX5_choose 31 = .ok (.invokevirtual 58, 3) := by decide +kernel
theorem dX5_choose_34 : decode cX5_choose 34 = .ok (.istore 5, 2) := by decide +kernel
theorem dX5_choose_36 : decode cX5_choose 36 = .ok (.iload 5, 2) := by decide +kernel
theorem dX5_choose_38 : decode cX5_choose 38 = .ok (.ldc 56, 2) := by decide +kernel
theorem dX5_choose_40 : decode cX5_choose 40 = .ok (.if_icmp .ge 50, 3) := by decide +kernel
theorem dX5_choose_43 : decode cX5_choose 43 = .ok (.iload 5, 2) := by decide +kernel
theorem dX5_choose_45 : decode cX5_choose 45 = .ok (.iload_n 3, 1) := by decide +kernel
theorem dX5_choose_46 : decode cX5_choose 46 = .ok (.if_icmp .le 6, 3) := by decide +kernel
theorem dX5_choose_49 : decode cX5_choose 49 = .ok (.goto 41, 3) := by decide +kernel
theorem dX5_choose_52 : decode cX5_choose 52 = .ok (.aload_n 0, 1) := by decide +kernel
theorem dX5_choose_53 : decode cX5_choose 53 = .ok (.getfield 18, 3) := by decide +kernel
theorem dX5_choose_56 : decode cX5_choose 56 = .ok (.aload_n 0, 1) := by decide +kernel
theorem dX5_choose_57 : decode cX5_choose 57 = .ok (.iload_n 1, 1) := by decide +kernel
theorem dX5_choose_58 : decode cX5_choose 58 = .ok (.iload 4, 2) := by decide +kernel
theorem dX5_choose_60 : decode cX5_choose 60 = .ok (.invokevirtual 62, 3) := by decide +kernel
theorem dX5_choose_63 : decode cX5_choose 63 = .ok (.laload, 1) := by decide +kernel
theorem dX5_choose_64 : decode cX5_choose 64 = .ok (.lstore 6, 2) := by decide +kernel
theorem dX5_choose_66 : decode cX5_choose 66 = .ok (.aload_n 0, 1) := by decide +kernel
theorem dX5_choose_67 : decode cX5_choose 67 = .ok (.getfield 88, 3) := by decide +kernel
theorem dX5_choose_70 : decode cX5_choose 70 = .ok (.lload 6, 2) := by decide +kernel
theorem dX5_choose_72 : decode cX5_choose 72 = .ok (.lcmp, 1) := by decide +kernel
theorem dX5_choose_73 : decode cX5_choose 73 = .ok (.ifCond .ge 6, 3) := by decide +kernel
theorem dX5_choose_76 : decode cX5_choose 76 = .ok (.iload 4, 2) := by decide +kernel
theorem dX5_choose_78 : decode cX5_choose 78 = .ok (.ireturn, 1) := by decide +kernel
theorem dX5_choose_79 : decode cX5_choose 79 = .ok (.aload_n 0, 1) := by decide +kernel
theorem dX5_choose_80 : decode cX5_choose 80 = .ok (.dup, 1) := by decide +kernel
theorem dX5_choose_81 : decode cX5_choose 81 = .ok (.getfield 88, 3) := by decide +kernel
theorem dX5_choose_84 : decode cX5_choose 84 = .ok (.lload 6, 2) := by decide +kernel
theorem dX5_choose_86 : decode cX5_choose 86 = .ok (.lsub, 1) := by decide +kernel
theorem dX5_choose_87 : decode cX5_choose 87 = .ok (.putfield 88, 3) := by decide +kernel
theorem dX5_choose_90 : decode cX5_choose 90 = .ok (.iinc 4 1, 3) := by decide +kernel
theorem dX5_choose_93 : decode cX5_choose 93 = .ok (.goto (-79), 3) := by decide +kernel
theorem dX5_choose_96 : decode cX5_choose 96 = .ok (.iconst (-1), 1) := by decide +kernel
theorem dX5_choose_97 : decode cX5_choose 97 = .ok (.ireturn, 1) := by decide +kernel
theorem dX6_init_0 : decode cX6_init 0 = .ok (.aload_n 0, 1) := by decide +kernel
theorem dX6_init_1 : decode cX6_init 1 = .ok (.invokespecial 1, 3) := by decide +kernel
theorem dX6_init_4 : decode cX6_init 4 = .ok (.aload_n 0, 1) := by decide +kernel
theorem dX6_init_5 : decode cX6_init 5 = .ok (.iload_n 1, 1) := by decide +kernel
theorem dX6_init_6 : decode cX6_init 6 = .ok (.iconst 0, 1) := by decide +kernel
theorem dX6_init_7 : decode cX6_init 7 = .ok (.invokestatic 7, 3) := by decide +kernel
theorem dX6_init_10 : decode cX6_init 10 = .ok (.newarray .int, 2) := by decide +kernel
theorem dX6_init_12 : decode cX6_init 12 = .ok (.putfield 13, 3) := by decide +kernel
theorem dX6_init_15 : decode cX6_init 15 = .ok (.return_, 1) := by decide +kernel
theorem dX6_put_0 : decode cX6_put 0 = .ok (.aload_n 0, 1) := by decide +kernel
theorem dX6_put_1 : decode cX6_put 1 = .ok (.getfield 19, 3) := by decide +kernel
theorem dX6_put_4 : decode cX6_put 4 = .ok (.aload_n 0, 1) := by decide +kernel
theorem dX6_put_5 : decode cX6_put 5 = .ok (.getfield 13, 3) := by decide +kernel
theorem dX6_put_8 : decode cX6_put 8 = .ok (.arraylength, 1) := by decide +kernel
theorem dX6_put_9 : decode cX6_put 9 = .ok (.if_icmp .ge 23, 3) := by decide +kernel
theorem dX6_put_12 : decode cX6_put 12 = .ok (.aload_n 0, 1) := by decide +kernel
theorem dX6_put_13 : decode cX6_put 13 = .ok (.getfield 13, 3) := by decide +kernel
theorem dX6_put_16 : decode cX6_put 16 = .ok (.aload_n 0, 1) := by decide +kernel
theorem dX6_put_17 : decode cX6_put 17 = .ok (.getfield 19, 3) := by decide +kernel
theorem dX6_put_20 : decode cX6_put 20 = .ok (.iload_n 1, 1) := by decide +kernel
theorem dX6_put_21 : decode cX6_put 21 = .ok (.iastore, 1) := by decide +kernel
theorem dX6_put_22 : decode cX6_put 22 = .ok (.aload_n 0, 1) := by decide +kernel
theorem dX6_put_23 : decode cX6_put 23 = .ok (.dup, 1) := by decide +kernel
theorem dX6_put_24 : decode cX6_put 24 = .ok (.getfield 19, 3) := by decide +kernel
theorem dX6_put_27 : decode cX6_put 27 = .ok (.iconst 1, 1) := by decide +kernel
theorem dX6_put_28 : decode cX6_put 28 = .ok (.iadd, 1) := by decide +kernel
theorem dX6_put_29 : decode cX6_put 29 = .ok (.putfield 19, 3) := by decide +kernel
theorem dX6_put_32 : decode cX6_put 32 = .ok (.return_, 1) := by decide +kernel
theorem dX7_init_0 : decode cX7_init 0 = .ok (.aload_n 0, 1) := by decide +kernel
theorem dX7_init_1 : decode cX7_init 1 = .ok (.invokespecial 3, 3) := by decide +kernel
theorem dX7_init_4 : decode cX7_init 4 = .ok (.aload_n 0, 1) := by decide +kernel
theorem dX7_init_5 : decode cX7_init 5 = .ok (.iconst 2, 1) := by decide +kernel
theorem dX7_init_6 : decode cX7_init 6 = .ok (.putfield 9, 3) := by decide +kernel
theorem dX7_init_9 : decode cX7_init 9 = .ok (.aload_n 0, 1) := by decide +kernel
theorem dX7_init_10 : decode cX7_init 10 = .ok (.bipush 16, 2) := by decide +kernel
theorem dX7_init_12 : decode cX7_init 12 = .ok (.newarray .boolean, 2) := by decide +kernel
theorem dX7_init_14 : decode cX7_init 14 = .ok (.putfield 15, 3) := by decide +kernel
theorem dX7_init_17 : decode cX7_init 17 = .ok (.aload_n 0, 1) := by decide +kernel
theorem dX7_init_18 : decode cX7_init 18 = .ok (.iconst 3, 1) := by decide +kernel
theorem dX7_init_19 : decode cX7_init 19 = .ok (.newarray .int, 2) := by decide +kernel
theorem dX7_init_21 : decode cX7_init 21 = .ok (.putfield 19, 3) := by decide +kernel
theorem dX7_init_24 : decode cX7_init 24 = .ok (.aload_n 0, 1) := by decide +kernel
theorem dX7_init_25 : decode cX7_init 25 = .ok (.getfield 19, 3) := by decide +kernel
theorem dX7_init_28 : decode cX7_init 28 = .ok (.iconst 0, 1) := by decide +kernel
theorem dX7_init_29 : decode cX7_init 29 = .ok (.iconst 3, 1) := by decide +kernel
theorem dX7_init_30 : decode cX7_init 30 = .ok (.iastore, 1) := by decide +kernel
theorem dX7_init_31 : decode cX7_init 31 = .ok (.aload_n 0, 1) := by decide +kernel
theorem dX7_init_32 : decode cX7_init 32 = .ok (.getfield 19, 3) := by decide +kernel
theorem dX7_init_35 : decode cX7_init 35 = .ok (.iconst 1, 1) := by decide +kernel
theorem dX7_init_36 : decode cX7_init 36 = .ok (.iconst 4, 1) := by decide +kernel
theorem dX7_init_37 : decode cX7_init 37 = .ok (.iastore, 1) := by decide +kernel
theorem dX7_init_38 : decode cX7_init 38 = .ok (.aload_n 0, 1) := by decide +kernel
theorem dX7_init_39 : decode cX7_init 39 = .ok (.getfield 19, 3) := by decide +kernel
theorem dX7_init_42 : decode cX7_init 42 = .ok (.iconst 2, 1) := by decide +kernel
theorem dX7_init_43 : decode cX7_init 43 = .ok (.iconst 5, 1) := by decide +kernel
theorem dX7_init_44 : decode cX7_init 44 = .ok (.iastore, 1) := by decide +kernel
theorem dX7_init_45 : decode cX7_init 45 = .ok (.return_, 1) := by decide +kernel
theorem dX7_mayCome_0 : decode cX7_mayCome 0 = .ok (.iload_n 1, 1) := by decide +kernel
theorem dX7_mayCome_1 : decode cX7_mayCome 1 = .ok (.iconst 4, 1) := by decide +kernel
theorem dX7_mayCome_2 : decode cX7_mayCome 2 = .ok (.if_icmp .eq 16, 3) := by decide +kernel
theorem dX7_mayCome_5 : decode cX7_mayCome 5 = .ok (.aload_n 0, 1) := by decide +kernel
theorem dX7_mayCome_6 : decode cX7_mayCome 6 = .ok (.getfield 15, 3) := by decide +kernel
theorem dX7_mayCome_9 : decode cX7_mayCome 9 = .ok (.iload_n 1, 1) := by decide +kernel
theorem dX7_mayCome_10 : decode cX7_mayCome 10 = .ok (.iconst 4, 1) := by decide +kernel
theorem dX7_mayCome_11 : decode cX7_mayCome 11 = .ok (.imul, 1) := by decide +kernel
theorem dX7_mayCome_12 : decode cX7_mayCome 12 = .ok (.iload_n 2, 1) := by decide +kernel
theorem dX7_mayCome_13 : decode cX7_mayCome 13 = .ok (.iadd, 1) := by decide +kernel
theorem dX7_mayCome_14 : decode cX7_mayCome 14 = .ok (.baload, 1) := by decide +kernel
theorem dX7_mayCome_15 : decode cX7_mayCome 15 = .ok (.ifCond .ne 7, 3) := by decide +kernel
theorem dX7_mayCome_18 : decode cX7_mayCome 18 = .ok (.iconst 1, 1) := by decide +kernel
theorem dX7_mayCome_19 : decode cX7_mayCome 19 = .ok (.goto 4, 3) := by decide +kernel
theorem dX7_mayCome_22 : decode cX7_mayCome 22 = .ok (.iconst 0, 1) := by decide +kernel
theorem dX7_mayCome_23 : decode cX7_mayCome 23 = .ok (.ireturn, 1) := by decide +kernel
theorem dX8_init_0 : decode cX8_init 0 = .ok (.aload_n 0, 1) := by decide +kernel
theorem dX8_init_1 : decode cX8_init 1 = .ok (.invokespecial 3, 3) := by decide +kernel
theorem dX8_init_4 : decode cX8_init 4 = .ok (.aload_n 0, 1) := by decide +kernel
theorem dX8_init_5 : decode cX8_init 5 = .ok (.iconst (-1), 1) := by decide +kernel
theorem dX8_init_6 : decode cX8_init 6 = .ok (.putfield 9, 3) := by decide +kernel
theorem dX8_init_9 : decode cX8_init 9 = .ok (.aload_n 0, 1) := by decide +kernel
theorem dX8_init_10 : decode cX8_init 10 = .ok (.bipush 12, 2) := by decide +kernel
theorem dX8_init_12 : decode cX8_init 12 = .ok (.newarray .int, 2) := by decide +kernel
theorem dX8_init_14 : decode cX8_init 14 = .ok (.putfield 15, 3) := by decide +kernel
theorem dX8_init_17 : decode cX8_init 17 = .ok (.aload_n 0, 1) := by decide +kernel
theorem dX8_init_18 : decode cX8_init 18 = .ok (.iload_n 1, 1) := by decide +kernel
theorem dX8_init_19 : decode cX8_init 19 = .ok (.putfield 19, 3) := by decide +kernel
theorem dX8_init_22 : decode cX8_init 22 = .ok (.return_, 1) := by decide +kernel
theorem dX9_init_0 : decode cX9_init 0 = .ok (.aload_n 0, 1) := by decide +kernel
theorem dX9_init_1 : decode cX9_init 1 = .ok (.invokespecial 3, 3) := by decide +kernel
theorem dX9_init_4 : decode cX9_init 4 = .ok (.aload_n 0, 1) := by decide +kernel
theorem dX9_init_5 : decode cX9_init 5 = .ok (.sipush 128, 3) := by decide +kernel
theorem dX9_init_8 : decode cX9_init 8 = .ok (.newarray .int, 2) := by decide +kernel
theorem dX9_init_10 : decode cX9_init 10 = .ok (.putfield 9, 3) := by decide +kernel
theorem dX9_init_13 : decode cX9_init 13 = .ok (.aload_n 0, 1) := by decide +kernel
theorem dX9_init_14 : decode cX9_init 14 = .ok (.bipush 16, 2) := by decide +kernel
theorem dX9_init_16 : decode cX9_init 16 = .ok (.newarray .int, 2) := by decide +kernel
theorem dX9_init_18 : decode cX9_init 18 = .ok (.putfield 15, 3) := by decide +kernel
theorem dX9_init_21 : decode cX9_init 21 = .ok (.aload_n 0, 1) := by decide +kernel
theorem dX9_init_22 : decode cX9_init 22 = .ok (.bipush 16, 2) := by decide +kernel
theorem dX9_init_24 : decode cX9_init 24 = .ok (.newarray .int, 2) := by decide +kernel
theorem dX9_init_26 : decode cX9_init 26 = .ok (.putfield 18, 3) := by decide +kernel
theorem dX9_init_29 : decode cX9_init 29 = .ok (.aload_n 0, 1) := by decide +kernel
theorem dX9_init_30 : decode cX9_init 30 = .ok (.bipush 16, 2) := by decide +kernel
theorem dX9_init_32 : decode cX9_init 32 = .ok (.newarray .int, 2) := by decide +kernel
theorem dX9_init_34 : decode cX9_init 34 = .ok (.putfield 21, 3) := by decide +kernel
theorem dX9_init_37 : decode cX9_init 37 = .ok (.return_, 1) := by decide +kernel
theorem dX9_has_0 : decode cX9_has 0 = .ok (.iload_n 1, 1) := by decide +kernel
theorem dX9_has_1 : decode cX9_has 1 = .ok (.ifCond .lt 15, 3) := by decide +kernel
theorem dX9_has_4 : decode cX9_has 4 = .ok (.iload_n 1, 1) := by decide +kernel
theorem dX9_has_5 : decode cX9_has 5 = .ok (.aload_n 0, 1) := by decide +kernel
theorem dX9_has_6 : decode cX9_has 6 = .ok (.getfield 24, 3) := by decide +kernel
theorem dX9_has_9 : decode cX9_has 9 = .ok (.if_icmp .ge 7, 3) := by decide +kernel
theorem dX9_has_12 : decode cX9_has 12 = .ok (.iconst 1, 1) := by decide +kernel
theorem dX9_has_13 : decode cX9_has 13 = .ok (.goto 4, 3) := by decide +kernel
theorem dX9_has_16 : decode cX9_has 16 = .ok (.iconst 0, 1) := by decide +kernel
theorem dX9_has_17 : decode cX9_has 17 = .ok (.ireturn, 1) := by decide +kernel
theorem dX9_sign_0 : decode cX9_sign 0 = .ok (.aload_n 0, 1) := by decide +kernel
theorem dX9_sign_1 : decode cX9_sign 1 = .ok (.getfield 9, 3) := by decide +kernel
theorem dX9_sign_4 : decode cX9_sign 4 = .ok (.iload_n 1, 1) := by decide +kernel
theorem dX9_sign_5 : decode cX9_sign 5 = .ok (.bipush 8, 2) := by decide +kernel
theorem dX9_sign_7 : decode cX9_sign 7 = .ok (.imul, 1) := by decide +kernel
theorem dX9_sign_8 : decode cX9_sign 8 = .ok (.iload_n 2, 1) := by decide +kernel
theorem dX9_sign_9 : decode cX9_sign 9 = .ok (.iadd, 1) := by decide +kernel
theorem dX9_sign_10 : decode cX9_sign 10 = .ok (.iaload, 1) := by decide +kernel
theorem dX9_sign_11 : decode cX9_sign 11 = .ok (.ireturn, 1) := by decide +kernel
theorem dX9_become_0 : decode cX9_become 0 = .ok (.aload_n 0, 1) := by decide +kernel
theorem dX9_become_1 : decode cX9_become 1 = .ok (.aload_n 1, 1) := by decide +kernel
theorem dX9_become_2 : decode cX9_become 2 = .ok (.getfield 24, 3) := by decide +kernel
theorem dX9_become_5 : decode cX9_become 5 = .ok (.putfield 24, 3) := by decide +kernel
theorem dX9_become_8 : decode cX9_become 8 = .ok (.iconst 0, 1) := by decide +kernel
theorem dX9_become_9 : decode cX9_become 9 = .ok (.istore_n 2, 1) := by decide +kernel
theorem dX9_become_10 : decode cX9_become 10 = .ok (.iload_n 2, 1) := by decide +kernel
theorem dX9_become_11 : decode cX9_become 11 = .ok (.aload_n 0, 1) := by decide +kernel
theorem dX9_become_12 : decode cX9_become 12 = .ok (.getfield 24, 3) := by decide +kernel
theorem dX9_become_15 : decode cX9_become 15 = .ok (.if_icmp .ge 45, 3) := by decide +kernel
theorem dX9_become_18 : decode cX9_become 18 = .ok (.aload_n 0, 1) := by decide +kernel
theorem dX9_become_19 : decode cX9_become 19 = .ok (.getfield 15, 3) := by decide +kernel
theorem dX9_become_22 : decode cX9_become 22 = .ok (.iload_n 2, 1) := by decide +kernel
theorem dX9_become_23 : decode cX9_become 23 = .ok (.aload_n 1, 1) := by decide +kernel
theorem dX9_become_24 : decode cX9_become 24 = .ok (.getfield 15, 3) := by decide +kernel
theorem dX9_become_27 : decode cX9_become 27 = .ok (.iload_n 2, 1) := by decide +kernel
theorem dX9_become_28 : decode cX9_become 28 = .ok (.iaload, 1) := by decide +kernel
theorem dX9_become_29 : decode cX9_become 29 = .ok (.iastore, 1) := by decide +kernel
theorem dX9_become_30 : decode cX9_become 30 = .ok (.aload_n 0, 1) := by decide +kernel
theorem dX9_become_31 : decode cX9_become 31 = .ok (.getfield 18, 3) := by decide +kernel
theorem dX9_become_34 : decode cX9_become 34 = .ok (.iload_n 2, 1) := by decide +kernel
theorem dX9_become_35 : decode cX9_become 35 = .ok (.aload_n 1, 1) := by decide +kernel
theorem dX9_become_36 : decode cX9_become 36 = .ok (.getfield 18, 3) := by decide +kernel
theorem dX9_become_39 : decode cX9_become 39 = .ok (.iload_n 2, 1) := by decide +kernel
theorem dX9_become_40 : decode cX9_become 40 = .ok (.iaload, 1) := by decide +kernel
theorem dX9_become_41 : decode cX9_become 41 = .ok (.iastore, 1) := by decide +kernel
theorem dX9_become_42 : decode cX9_become 42 = .ok (.aload_n 0, 1) := by decide +kernel
theorem dX9_become_43 : decode cX9_become 43 = .ok (.getfield 21, 3) := by decide +kernel
theorem dX9_become_46 : decode cX9_become 46 = .ok (.iload_n 2, 1) := by decide +kernel
theorem dX9_become_47 : decode cX9_become 47 = .ok (.aload_n 1, 1) := by decide +kernel
theorem dX9_become_48 : decode cX9_become 48 = .ok (.getfield 21, 3) := by decide +kernel
theorem dX9_become_51 : decode cX9_become 51 = .ok (.iload_n 2, 1) := by decide +kernel
theorem dX9_become_52 : decode cX9_become 52 = .ok (.iaload, 1) := by decide +kernel
theorem dX9_become_53 : decode cX9_become 53 = .ok (.iastore, 1) := by decide +kernel
theorem dX9_become_54 : decode cX9_become 54 = .ok (.iinc 2 1, 3) := by decide +kernel
theorem dX9_become_57 : decode cX9_become 57 = .ok (.goto (-47), 3) := by decide +kernel
theorem dX9_become_60 : decode cX9_become 60 = .ok (.iconst 0, 1) := by decide +kernel
theorem dX9_become_61 : decode cX9_become 61 = .ok (.istore_n 2, 1) := by decide +kernel
theorem dX9_become_62 : decode cX9_become 62 = .ok (.iload_n 2, 1) := by decide +kernel
theorem dX9_become_63 : decode cX9_become 63 = .ok (.aload_n 0, 1) := by decide +kernel
theorem dX9_become_64 : decode cX9_become 64 = .ok (.getfield 24, 3) := by decide +kernel
theorem dX9_become_67 : decode cX9_become 67 = .ok (.bipush 8, 2) := by decide +kernel
theorem dX9_become_69 : decode cX9_become 69 = .ok (.imul, 1) := by decide +kernel
theorem dX9_become_70 : decode cX9_become 70 = .ok (.if_icmp .ge 21, 3) := by decide +kernel
theorem dX9_become_73 : decode cX9_become 73 = .ok (.aload_n 0, 1) := by decide +kernel
theorem dX9_become_74 : decode cX9_become 74 = .ok (.getfield 9, 3) := by decide +kernel
theorem dX9_become_77 : decode cX9_become 77 = .ok (.iload_n 2, 1) := by decide +kernel
theorem dX9_become_78 : decode cX9_become 78 = .ok (.aload_n 1, 1) := by decide +kernel
theorem dX9_become_79 : decode cX9_become 79 = .ok (.getfield 9, 3) := by decide +kernel
theorem dX9_become_82 : decode cX9_become 82 = .ok (.iload_n 2, 1) := by decide +kernel
theorem dX9_become_83 : decode cX9_become 83 = .ok (.iaload, 1) := by decide +kernel
theorem dX9_become_84 : decode cX9_become 84 = .ok (.iastore, 1) := by decide +kernel
theorem dX9_become_85 : decode cX9_become 85 = .ok (.iinc 2 1, 3) := by decide +kernel
theorem dX9_become_88 : decode cX9_become 88 = .ok (.goto (-26), 3) := by decide +kernel
theorem dX9_become_91 : decode cX9_become 91 = .ok (.return_, 1) := by decide +kernel
theorem dX9_isAlike_0 : decode cX9_isAlike 0 = .ok (.aload_n 0, 1) := by decide +kernel
theorem dX9_isAlike_1 : decode cX9_isAlike 1 = .ok (.getfield 15, 3) := by decide +kernel
theorem dX9_isAlike_4 : decode cX9_isAlike 4 = .ok (.iload_n 1, 1) := by decide +kernel
theorem dX9_isAlike_5 : decode cX9_isAlike 5 = .ok (.iaload, 1) := by decide +kernel
theorem dX9_isAlike_6 : decode cX9_isAlike 6 = .ok (.aload_n 0, 1) := by decide +kernel
theorem dX9_isAlike_7 : decode cX9_isAlike 7 = .ok (.getfield 15, 3) := by decide +kernel
theorem dX9_isAlike_10 : decode cX9_isAlike 10 = .ok (.iload_n 2, 1) := by decide +kernel
theorem dX9_isAlike_11 : decode cX9_isAlike 11 = .ok (.iaload, 1) := by decide +kernel
theorem dX9_isAlike_12 : decode cX9_isAlike 12 = .ok (.if_icmp .ne 18, 3) := by decide +kernel
theorem dX9_isAlike_15 : decode cX9_isAlike 15 = .ok (.aload_n 0, 1) := by decide +kernel
theorem dX9_isAlike_16 : decode cX9_isAlike 16 = .ok (.iload_n 1, 1) := by decide +kernel
theorem dX9_isAlike_17 : decode cX9_isAlike 17 = .ok (.iload_n 2, 1) := by decide +kernel
theorem dX9_isAlike_18 : decode cX9_isAlike 18 = .ok (.iload_n 2, 1) := by decide +kernel
theorem dX9_isAlike_19 : decode cX9_isAlike 19 = .ok (.iconst 0, 1) := by decide +kernel
theorem dX9_isAlike_20 : decode cX9_isAlike 20 = .ok (.invokevirtual 28, 3) := by decide +kernel
theorem dX9_isAlike_23 : decode cX9_isAlike 23 = .ok (.ifCond .eq 7, 3) := by decide +kernel
theorem dX9_isAlike_26 : decode cX9_isAlike 26 = .ok (.iconst 1, 1) := by decide +kernel
theorem dX9_isAlike_27 : decode cX9_isAlike 27 = .ok (.goto 4, 3) := by decide +kernel
theorem dX9_isAlike_30 : decode cX9_isAlike 30 = .ok (.iconst 0, 1) := by decide +kernel
theorem dX9_isAlike_31 : decode cX9_isAlike 31 = .ok (.ireturn, 1) := by decide +kernel
theorem dX9_liesAt_0 : decode cX9_liesAt 0 = .ok (.aload_n 0, 1) := by decide +kernel
theorem dX9_liesAt_1 : decode cX9_liesAt 1 = .ok (.getfield 15, 3) := by decide +kernel
theorem dX9_liesAt_4 : decode cX9_liesAt 4 = .ok (.iload_n 2, 1) := by decide +kernel
theorem dX9_liesAt_5 : decode cX9_liesAt 5 = .ok (.iaload, 1) := by decide +kernel
theorem dX9_liesAt_6 : decode cX9_liesAt 6 = .ok (.istore 5, 2) := by decide +kernel
theorem dX9_liesAt_8 : decode cX9_liesAt 8 = .ok (.iload 4, 2) := by decide +kernel
theorem dX9_liesAt_10 : decode cX9_liesAt 10 = .ok (.ifCond .lt 24, 3) := by decide +kernel
theorem dX9_liesAt_13 : decode cX9_liesAt 13 = .ok (.iload 4, 2) := by decide +kernel
theorem dX9_liesAt_15 : decode cX9_liesAt 15 = .ok (.aload_n 0, 1) := by decide +kernel
theorem dX9_liesAt_16 : decode cX9_liesAt 16 = .ok (.getfield 15, 3) := by decide +kernel
theorem dX9_liesAt_19 : decode cX9_liesAt 19 = .ok (.iload_n 1, 1) := by decide +kernel
theorem dX9_liesAt_20 : decode cX9_liesAt 20 = .ok (.iaload, 1) := by decide +kernel
theorem dX9_liesAt_21 : decode cX9_liesAt 21 = .ok (.iadd, 1) := by decide +kernel
theorem dX9_liesAt_22 : decode cX9_liesAt 22 = .ok (.iload 5, 2) := by decide +kernel
theorem dX9_liesAt_24 : decode cX9_liesAt 24 = .ok (.aload_n 0, 1) := by decide +kernel
theorem dX9_liesAt_25 : decode cX9_liesAt 25 = .ok (.getfield 15, 3) := by decide +kernel
theorem dX9_liesAt_28 : decode cX9_liesAt 28 = .ok (.iload_n 3, 1) := by decide +kernel
theorem dX9_liesAt_29 : decode cX9_liesAt 29 = .ok (.iaload, 1) := by decide +kernel
theorem dX9_liesAt_30 : decode cX9_liesAt 30 = .ok (.iadd, 1) := by decide +kernel
theorem dX9_liesAt_31 : decode cX9_liesAt 31 = .ok (.if_icmp .le 5, 3) := by decide +kernel
theorem dX9_liesAt_34 : decode cX9_liesAt 34 = .ok (.iconst 0, 1) := by decide +kernel
theorem dX9_liesAt_35 : decode cX9_liesAt 35 = .ok (.ireturn, 1) := by decide +kernel
theorem dX9_liesAt_36 : decode cX9_liesAt 36 = .ok (.iconst 0, 1) := by decide +kernel
theorem dX9_liesAt_37 : decode cX9_liesAt 37 = .ok (.istore 6, 2) := by decide +kernel
theorem dX9_liesAt_39 : decode cX9_liesAt 39 = .ok (.iload 6, 2) := by decide +kernel
theorem dX9_liesAt_41 : decode cX9_liesAt 41 = .ok (.aload_n 0, 1) := by decide +kernel
theorem dX9_liesAt_42 : decode cX9_liesAt 42 = .ok (.getfield 15, 3) := by decide +kernel
theorem dX9_liesAt_45 : decode cX9_liesAt 45 = .ok (.iload_n 1, 1) := by decide +kernel
theorem dX9_liesAt_46 : decode cX9_liesAt 46 = .ok (.iaload, 1) := by decide +kernel
theorem dX9_liesAt_47 : decode cX9_liesAt 47 = .ok (.if_icmp .ge 59, 3) := by decide +kernel
theorem dX9_liesAt_50 : decode cX9_liesAt 50 = .ok (.iload 4, 2) := by decide +kernel
theorem dX9_liesAt_52 : decode cX9_liesAt 52 = .ok (.iload 6, 2) := by decide +kernel
theorem dX9_liesAt_54 : decode cX9_liesAt 54 = .ok (.iadd, 1) := by decide +kernel
theorem dX9_liesAt_55 : decode cX9_liesAt 55 = .ok (.istore 7, 2) := by decide +kernel
theorem dX9_liesAt_57 : decode cX9_liesAt 57 = .ok (.iload 7, 2) := by decide +kernel
theorem dX9_liesAt_59 : decode cX9_liesAt 59 = .ok (.iload 5, 2) := by decide +kernel
theorem dX9_liesAt_61 : decode cX9_liesAt 61 = .ok (.if_icmp .ge 13, 3) := by decide +kernel
theorem dX9_liesAt_64 : decode cX9_liesAt 64 = .ok (.aload_n 0, 1) := by decide +kernel
theorem dX9_liesAt_65 : decode cX9_liesAt 65 = .ok (.iload_n 2, 1) := by decide +kernel
theorem dX9_liesAt_66 : decode cX9_liesAt 66 = .ok (.iload 7, 2) := by decide +kernel
theorem dX9_liesAt_68 : decode cX9_liesAt 68 = .ok (.invokevirtual 32, 3) := by decide +kernel
theorem dX9_liesAt_71 : decode cX9_liesAt 71 = .ok (.goto 13, 3) := by decide +kernel
theorem dX9_liesAt_74 : decode cX9_liesAt 74 = .ok (.aload_n 0, 1) := by decide +kernel
theorem dX9_liesAt_75 : decode cX9_liesAt 75 = .ok (.iload_n 3, 1) := by decide +kernel
theorem dX9_liesAt_76 : decode cX9_liesAt 76 = .ok (.iload 7, 2) := by decide +kernel
theorem dX9_liesAt_78 : decode cX9_liesAt 78 = .ok (.iload 5, 2) := by decide +kernel
theorem dX9_liesAt_80 : decode cX9_liesAt 80 = .ok (.isub, 1) := by decide +kernel
theorem dX9_liesAt_81 : decode cX9_liesAt 81 = .ok (.invokevirtual 32, 3) := by decide +kernel
theorem dX9_liesAt_84 : decode cX9_liesAt 84 = .ok (.istore 8, 2) := by decide +kernel
theorem dX9_liesAt_86 : decode cX9_liesAt 86 = .ok (.iload 8, 2) := by decide +kernel
theorem dX9_liesAt_88 : decode cX9_liesAt 88 = .ok (.aload_n 0, 1) := by decide +kernel
theorem dX9_liesAt_89 : decode cX9_liesAt 89 = .ok (.iload_n 1, 1) := by decide +kernel
theorem dX9_liesAt_90 : decode cX9_liesAt 90 = .ok (.iload 6, 2) := by decide +kernel
theorem dX9_liesAt_92 : decode cX9_liesAt 92 = .ok (.invokevirtual 32, 3) := by decide +kernel
theorem dX9_liesAt_95 : decode cX9_liesAt 95 = .ok (.if_icmp .eq 5, 3) := by decide +kernel
theorem dX9_liesAt_98 : decode cX9_liesAt 98 = .ok (.iconst 0, 1) := by decide +kernel
theorem dX9_liesAt_99 : decode cX9_liesAt 99 = .ok (.ireturn, 1) := by decide +kernel
theorem dX9_liesAt_100 : decode cX9_liesAt 100 = .ok (.iinc 6 1, 3) := by decide +kernel
theorem dX9_liesAt_103 : decode cX9_liesAt 103 = .ok (.goto (-64), 3) := by decide +kernel
theorem dX9_liesAt_106 : decode cX9_liesAt 106 = .ok (.iconst 1, 1) := by decide +kernel
theorem dX9_liesAt_107 : decode cX9_liesAt 107 = .ok (.ireturn, 1) := by decide +kernel
theorem dX9_standingAt_0 : decode cX9_standingAt 0 = .ok (.iconst 0, 1) := by decide +kernel
theorem dX9_standingAt_1 : decode cX9_standingAt 1 = .ok (.istore_n 3, 1) := by decide +kernel
theorem dX9_standingAt_2 : decode cX9_standingAt 2 = .ok (.iconst 0, 1) := by decide +kernel
theorem dX9_standingAt_3 : decode cX9_standingAt 3 = .ok (.istore 4, 2) := by decide +kernel
theorem dX9_standingAt_5 : decode cX9_standingAt 5 = .ok (.iload 4, 2) := by decide +kernel
theorem dX9_standingAt_7 : decode cX9_standingAt 7 = .ok (.aload_n 0, 1) := by decide +kernel
theorem dX9_standingAt_8 : decode cX9_standingAt 8 = .ok (.getfield 24, 3) := by decide +kernel
theorem dX9_standingAt_11 : decode cX9_standingAt 11 = .ok (.if_icmp .ge 27, 3) := by decide +kernel
theorem dX9_standingAt_14 : decode cX9_standingAt 14 = .ok (.aload_n 0, 1) := by decide +kernel
theorem dX9_standingAt_15 : decode cX9_standingAt 15 = .ok (.iload 4, 2) := by decide +kernel
theorem dX9_standingAt_17 : decode cX9_standingAt 17 = .ok (.aload_n 1, 1) := by decide +kernel
theorem dX9_standingAt_18 : decode cX9_standingAt 18 = .ok (.iload_n 2, 1) := by decide +kernel
theorem dX9_standingAt_19 : decode cX9_standingAt 19 = .ok (.invokevirtual 36, 3) := by decide +kernel
theorem dX9_standingAt_22 : decode cX9_standingAt 22 = .ok (.ifCond .eq 10, 3) := by decide +kernel
theorem dX9_standingAt_25 : decode cX9_standingAt 25 = .ok (.iload_n 3, 1) := by decide +kernel
theorem dX9_standingAt_26 : decode cX9_standingAt 26 = .ok (.iconst 1, 1) := by decide +kernel
theorem dX9_standingAt_27 : decode cX9_standingAt 27 = .ok (.iload 4, 2) := by decide +kernel
theorem dX9_standingAt_29 : decode cX9_standingAt 29 = .ok (.ishl, 1) := by decide +kernel
theorem dX9_standingAt_30 : decode cX9_standingAt 30 = .ok (.ior, 1) := by decide +kernel
theorem dX9_standingAt_31 : decode cX9_standingAt 31 = .ok (.istore_n 3, 1) := by decide +kernel
theorem dX9_standingAt_32 : decode cX9_standingAt 32 = .ok (.iinc 4 1, 3) := by decide +kernel
theorem dX9_standingAt_35 : decode cX9_standingAt 35 = .ok (.goto (-30), 3) := by decide +kernel
theorem dX9_standingAt_38 : decode cX9_standingAt 38 = .ok (.iload_n 3, 1) := by decide +kernel
theorem dX9_standingAt_39 : decode cX9_standingAt 39 = .ok (.ireturn, 1) := by decide +kernel
theorem dX9_standsAt_0 : decode cX9_standsAt 0 = .ok (.iload_n 3, 1) := by decide +kernel
theorem dX9_standsAt_1 : decode cX9_standsAt 1 = .ok (.ifCond .lt 18, 3) := by decide +kernel
theorem dX9_standsAt_4 : decode cX9_standsAt 4 = .ok (.iload_n 3, 1) := by decide +kernel
theorem dX9_standsAt_5 : decode cX9_standsAt 5 = .ok (.aload_n 0, 1) := by decide +kernel
theorem dX9_standsAt_6 : decode cX9_standsAt 6 = .ok (.getfield 15, 3) := by decide +kernel
theorem dX9_standsAt_9 : decode cX9_standsAt 9 = .ok (.iload_n 1, 1) := by decide +kernel
theorem dX9_standsAt_10 : decode cX9_standsAt 10 = .ok (.iaload, 1) := by decide +kernel
theorem dX9_standsAt_11 : decode cX9_standsAt 11 = .ok (.iadd, 1) := by decide +kernel
theorem dX9_standsAt_12 : decode cX9_standsAt 12 = .ok (.aload_n 2, 1) := by decide +kernel
theorem dX9_standsAt_13 : decode cX9_standsAt 13 = .ok (.getfield 40, 3) := by decide +kernel
theorem dX9_standsAt_16 : decode cX9_standsAt 16 = .ok (.if_icmp .le 5, 3) := by decide +kernel
theorem dX9_standsAt_19 : decode cX9_standsAt 19 = .ok (.iconst 0, 1) := by decide +kernel
theorem dX9_standsAt_20 : decode cX9_standsAt 20 = .ok (.ireturn, 1) := by decide +kernel
theorem dX9_standsAt_21 : decode cX9_standsAt 21 = .ok (.iconst 0, 1) := by decide +kernel
theorem dX9_standsAt_22 : decode cX9_standsAt 22 = .ok (.istore 4, 2) := by decide +kernel
theorem dX9_standsAt_24 : decode cX9_standsAt 24 = .ok (.iload 4, 2) := by decide +kernel
theorem dX9_standsAt_26 : decode cX9_standsAt 26 = .ok (.aload_n 0, 1) := by decide +kernel
theorem dX9_standsAt_27 : decode cX9_standsAt 27 = .ok (.getfield 15, 3) := by decide +kernel
theorem dX9_standsAt_30 : decode cX9_standsAt 30 = .ok (.iload_n 1, 1) := by decide +kernel
theorem dX9_standsAt_31 : decode cX9_standsAt 31 = .ok (.iaload, 1) := by decide +kernel
theorem dX9_standsAt_32 : decode cX9_standsAt 32 = .ok (.if_icmp .ge 30, 3) := by decide +kernel
theorem dX9_standsAt_35 : decode cX9_standsAt 35 = .ok (.aload_n 2, 1) := by decide +kernel
theorem dX9_standsAt_36 : decode cX9_standsAt 36 = .ok (.getfield 43, 3) := by decide +kernel
theorem dX9_standsAt_39 : decode cX9_standsAt 39 = .ok (.iload_n 3, 1) := by decide +kernel
theorem dX9_standsAt_40 : decode cX9_standsAt 40 = .ok (.iload 4, 2) := by decide +kernel
theorem dX9_standsAt_42 : decode cX9_standsAt 42 = .ok (.iadd, 1) := by decide +kernel
theorem dX9_standsAt_43 : decode cX9_standsAt 43 = .ok (.iaload, 1) := by decide +kernel
theorem dX9_standsAt_44 : decode cX9_standsAt 44 = .ok (.aload_n 0, 1) := by decide +kernel
theorem dX9_standsAt_45 : decode cX9_standsAt 45 = .ok (.iload_n 1, 1) := by decide +kernel
theorem dX9_standsAt_46 : decode cX9_standsAt 46 = .ok (.iload 4, 2) := by decide +kernel
theorem dX9_standsAt_48 : decode cX9_standsAt 48 = .ok (.invokevirtual 32, 3) := by decide +kernel
theorem dX9_standsAt_51 : decode cX9_standsAt 51 = .ok (.if_icmp .eq 5, 3) := by decide +kernel
theorem dX9_standsAt_54 : decode cX9_standsAt 54 = .ok (.iconst 0, 1) := by decide +kernel
theorem dX9_standsAt_55 : decode cX9_standsAt 55 = .ok (.ireturn, 1) := by decide +kernel
theorem dX9_standsAt_56 : decode cX9_standsAt 56 = .ok (.iinc 4 1, 3) := by decide +kernel
theorem dX9_standsAt_59 : decode cX9_standsAt 59 = .ok (.goto (-35), 3) := by decide +kernel
theorem dX9_standsAt_62 : decode cX9_standsAt 62 = .ok (.iconst 1, 1) := by decide +kernel
theorem dX9_standsAt_63 : decode cX9_standsAt 63 = .ok (.ireturn, 1) := by decide +kernel
theorem dX10_init_0 : decode cX10_init 0 = .ok (.aload_n 0, 1) := by decide +kernel
theorem dX10_init_1 : decode cX10_init 1 = .ok (.invokespecial 1, 3) := by decide +kernel
theorem dX10_init_4 : decode cX10_init 4 = .ok (.aload_n 0, 1) := by decide +kernel
theorem dX10_init_5 : decode cX10_init 5 = .ok (.new 7, 3) := by decide +kernel
theorem dX10_init_8 : decode cX10_init 8 = .ok (.dup, 1) := by decide +kernel
theorem dX10_init_9 : decode cX10_init 9 = .ok (.invokespecial 9, 3) := by decide +kernel
theorem dX10_init_12 : decode cX10_init 12 = .ok (.putfield 10, 3) := by decide +kernel
theorem dX10_init_15 : decode cX10_init 15 = .ok (.aload_n 0, 1) := by decide +kernel
theorem dX10_init_16 : decode cX10_init 16 = .ok (.new 16, 3) := by decide +kernel
theorem dX10_init_19 : decode cX10_init 19 = .ok (.dup, 1) := by decide +kernel
theorem dX10_init_20 : decode cX10_init 20 = .ok (.invokespecial 18, 3) := by decide +kernel
theorem dX10_init_23 : decode cX10_init 23 = .ok (.putfield 19, 3) := by decide +kernel
theorem dX10_init_26 : decode cX10_init 26 = .ok (.aload_n 0, 1) := by decide +kernel
theorem dX10_init_27 : decode cX10_init 27 = .ok (.new 23, 3) := by decide +kernel
theorem dX10_init_30 : decode cX10_init 30 = .ok (.dup, 1) := by decide +kernel
theorem dX10_init_31 : decode cX10_init 31 = .ok (.sipush 200, 3) := by decide +kernel
theorem dX10_init_34 : decode cX10_init 34 = .ok (.invokespecial 25, 3) := by decide +kernel
theorem dX10_init_37 : decode cX10_init 37 = .ok (.putfield 28, 3) := by decide +kernel
theorem dX10_init_40 : decode cX10_init 40 = .ok (.aload_n 0, 1) := by decide +kernel
theorem dX10_init_41 : decode cX10_init 41 = .ok (.new 23, 3) := by decide +kernel
theorem dX10_init_44 : decode cX10_init 44 = .ok (.dup, 1) := by decide +kernel
theorem dX10_init_45 : decode cX10_init 45 = .ok (.bipush 48, 2) := by decide +kernel
theorem dX10_init_47 : decode cX10_init 47 = .ok (.invokespecial 25, 3) := by decide +kernel
theorem dX10_init_50 : decode cX10_init 50 = .ok (.putfield 32, 3) := by decide +kernel
theorem dX10_init_53 : decode cX10_init 53 = .ok (.aload_n 0, 1) := by decide +kernel
theorem dX10_init_54 : decode cX10_init 54 = .ok (.new 35, 3) := by decide +kernel
theorem dX10_init_57 : decode cX10_init 57 = .ok (.dup, 1) := by decide +kernel
theorem dX10_init_58 : decode cX10_init 58 = .ok (.aload_n 0, 1) := by decide +kernel
theorem dX10_init_59 : decode cX10_init 59 = .ok (.getfield 28, 3) := by decide +kernel
theorem dX10_init_62 : decode cX10_init 62 = .ok (.aload_n 0, 1) := by decide +kernel
theorem dX10_init_63 : decode cX10_init 63 = .ok (.getfield 10, 3) := by decide +kernel
theorem dX10_init_66 : decode cX10_init 66 = .ok (.invokespecial 37, 3) := by decide +kernel
theorem dX10_init_69 : decode cX10_init 69 = .ok (.putfield 40, 3) := by decide +kernel
theorem dX10_init_72 : decode cX10_init 72 = .ok (.aload_n 0, 1) := by decide +kernel
theorem dX10_init_73 : decode cX10_init 73 = .ok (.new 44, 3) := by decide +kernel
theorem dX10_init_76 : decode cX10_init 76 = .ok (.dup, 1) := by decide +kernel
theorem dX10_init_77 : decode cX10_init 77 = .ok (.aload_n 0, 1) := by decide +kernel
theorem dX10_init_78 : decode cX10_init 78 = .ok (.getfield 32, 3) := by decide +kernel
theorem dX10_init_81 : decode cX10_init 81 = .ok (.aload_n 0, 1) := by decide +kernel
theorem dX10_init_82 : decode cX10_init 82 = .ok (.getfield 19, 3) := by decide +kernel
theorem dX10_init_85 : decode cX10_init 85 = .ok (.aload_n 0, 1) := by decide +kernel
theorem dX10_init_86 : decode cX10_init 86 = .ok (.getfield 10, 3) := by decide +kernel
theorem dX10_init_89 : decode cX10_init 89 = .ok (.invokespecial 46, 3) := by decide +kernel
theorem dX10_init_92 : decode cX10_init 92 = .ok (.putfield 49, 3) := by decide +kernel
theorem dX10_init_95 : decode cX10_init 95 = .ok (.aload_n 0, 1) := by decide +kernel
theorem dX10_init_96 : decode cX10_init 96 = .ok (.new 53, 3) := by decide +kernel
theorem dX10_init_99 : decode cX10_init 99 = .ok (.dup, 1) := by decide +kernel
theorem dX10_init_100 : decode cX10_init 100 = .ok (.aload_n 0, 1) := by decide +kernel
theorem dX10_init_101 : decode cX10_init 101 = .ok (.getfield 32, 3) := by decide +kernel
theorem dX10_init_104 : decode cX10_init 104 = .ok (.aload_n 0, 1) := by decide +kernel
theorem dX10_init_105 : decode cX10_init 105 = .ok (.getfield 19, 3) := by decide +kernel
theorem dX10_init_108 : decode cX10_init 108 = .ok (.aload_n 0, 1) := by decide +kernel
theorem dX10_init_109 : decode cX10_init 109 = .ok (.getfield 10, 3) := by decide +kernel
theorem dX10_init_112 : decode cX10_init 112 = .ok (.invokespecial 55, 3) := by decide +kernel
theorem dX10_init_115 : decode cX10_init 115 = .ok (.putfield 56, 3) := by decide +kernel
theorem dX10_init_118 : decode cX10_init 118 = .ok (.aload_n 0, 1) := by decide +kernel
theorem dX10_init_119 : decode cX10_init 119 = .ok (.new 60, 3) := by decide +kernel
theorem dX10_init_122 : decode cX10_init 122 = .ok (.dup, 1) := by decide +kernel
theorem dX10_init_123 : decode cX10_init 123 = .ok (.aload_n 0, 1) := by decide +kernel
theorem dX10_init_124 : decode cX10_init 124 = .ok (.getfield 19, 3) := by decide +kernel
theorem dX10_init_127 : decode cX10_init 127 = .ok (.aload_n 0, 1) := by decide +kernel
theorem dX10_init_128 : decode cX10_init 128 = .ok (.getfield 10, 3) := by decide +kernel
theorem dX10_init_131 : decode cX10_init 131 = .ok (.invokespecial 62, 3) := by decide +kernel
theorem dX10_init_134 : decode cX10_init 134 = .ok (.putfield 65, 3) := by decide +kernel
theorem dX10_init_137 : decode cX10_init 137 = .ok (.aload_n 0, 1) := by decide +kernel
theorem dX10_init_138 : decode cX10_init 138 = .ok (.bipush 41, 2) := by decide +kernel
theorem dX10_init_140 : decode cX10_init 140 = .ok (.newarray .long, 2) := by decide +kernel
theorem dX10_init_142 : decode cX10_init 142 = .ok (.putfield 69, 3) := by decide +kernel
theorem dX10_init_145 : decode cX10_init 145 = .ok (.aload_n 0, 1) := by decide +kernel
theorem dX10_init_146 : decode cX10_init 146 = .ok (.new 73, 3) := by decide +kernel
theorem dX10_init_149 : decode cX10_init 149 = .ok (.dup, 1) := by decide +kernel
theorem dX10_init_150 : decode cX10_init 150 = .ok (.iconst 1, 1) := by decide +kernel
theorem dX10_init_151 : decode cX10_init 151 = .ok (.invokespecial 75, 3) := by decide +kernel
theorem dX10_init_154 : decode cX10_init 154 = .ok (.putfield 78, 3) := by decide +kernel
theorem dX10_init_157 : decode cX10_init 157 = .ok (.aload_n 0, 1) := by decide +kernel
theorem dX10_init_158 : decode cX10_init 158 = .ok (.new 73, 3) := by decide +kernel
theorem dX10_init_161 : decode cX10_init 161 = .ok (.dup, 1) := by decide +kernel
theorem dX10_init_162 : decode cX10_init 162 = .ok (.iconst 0, 1) := by decide +kernel
theorem dX10_init_163 : decode cX10_init 163 = .ok (.invokespecial 75, 3) := by decide +kernel
theorem dX10_init_166 : decode cX10_init 166 = .ok (.putfield 82, 3) := by decide +kernel
theorem dX10_init_169 : decode cX10_init 169 = .ok (.return_, 1) := by decide +kernel
theorem dX10_letters_0 : decode cX10_letters 0 = .ok (.iload_n 1, 1) := by decide +kernel
theorem dX10_letters_1 : decode cX10_letters 1 = .ok (.iconst 2, 1) := by decide +kernel
theorem dX10_letters_2 : decode cX10_letters 2 = .ok (.if_icmp .lt 9, 3) := by decide +kernel
theorem dX10_letters_5 : decode cX10_letters 5 = .ok (.iload_n 1, 1) := by decide +kernel
theorem dX10_letters_6 : decode cX10_letters 6 = .ok (.bipush 8, 2) := by decide +kernel
theorem dX10_letters_8 : decode cX10_letters 8 = .ok (.if_icmp .le 7, 3) := by decide +kernel
theorem dX10_letters_11 : decode cX10_letters 11 = .ok (.sipush (-1002), 3) := by decide +kernel
theorem dX10_letters_14 : decode cX10_letters 14 = .ok (.ireturn, 1) := by decide +kernel
theorem dX10_letters_15 : decode cX10_letters 15 = .ok (.aload_n 0, 1) := by decide +kernel
theorem dX10_letters_16 : decode cX10_letters 16 = .ok (.getfield 10, 3) := by decide +kernel
theorem dX10_letters_19 : decode cX10_letters 19 = .ok (.iload_n 1, 1) := by decide +kernel
theorem dX10_letters_20 : decode cX10_letters 20 = .ok (.putfield 85, 3) := by decide +kernel
theorem dX10_letters_23 : decode cX10_letters 23 = .ok (.aload_n 0, 1) := by decide +kernel
theorem dX10_letters_24 : decode cX10_letters 24 = .ok (.getfield 19, 3) := by decide +kernel
theorem dX10_letters_27 : decode cX10_letters 27 = .ok (.iconst 0, 1) := by decide +kernel
theorem dX10_letters_28 : decode cX10_letters 28 = .ok (.putfield 89, 3) := by decide +kernel
theorem dX10_letters_31 : decode cX10_letters 31 = .ok (.aload_n 0, 1) := by decide +kernel
theorem dX10_letters_32 : decode cX10_letters 32 = .ok (.getfield 65, 3) := by decide +kernel
theorem dX10_letters_35 : decode cX10_letters 35 = .ok (.iconst 0, 1) := by decide +kernel
theorem dX10_letters_36 : decode cX10_letters 36 = .ok (.putfield 92, 3) := by decide +kernel
theorem dX10_letters_39 : decode cX10_letters 39 = .ok (.aload_n 0, 1) := by decide +kernel
theorem dX10_letters_40 : decode cX10_letters 40 = .ok (.getfield 32, 3) := by decide +kernel
theorem dX10_letters_43 : decode cX10_letters 43 = .ok (.iconst 0, 1) := by decide +kernel
theorem dX10_letters_44 : decode cX10_letters 44 = .ok (.putfield 93, 3) := by decide +kernel
theorem dX10_letters_47 : decode cX10_letters 47 = .ok (.aload_n 0, 1) := by decide +kernel
theorem dX10_letters_48 : decode cX10_letters 48 = .ok (.invokevirtual 94, 3) := by decide +kernel
theorem dX10_letters_51 : decode cX10_letters 51 = .ok (.iload_n 1, 1) := by decide +kernel
theorem dX10_letters_52 : decode cX10_letters 52 = .ok (.ireturn, 1) := by decide +kernel
theorem dX10_feed_0 : decode cX10_feed 0 = .ok (.iload_n 1, 1) := by decide +kernel
theorem dX10_feed_1 : decode cX10_feed 1 = .ok (.iconst 1, 1) := by decide +kernel
theorem dX10_feed_2 : decode cX10_feed 2 = .ok (.if_icmp .lt 9, 3) := by decide +kernel
theorem dX10_feed_5 : decode cX10_feed 5 = .ok (.iload_n 1, 1) := by decide +kernel
theorem dX10_feed_6 : decode cX10_feed 6 = .ok (.bipush 8, 2) := by decide +kernel
theorem dX10_feed_8 : decode cX10_feed 8 = .ok (.if_icmp .le 7, 3) := by decide +kernel
theorem dX10_feed_11 : decode cX10_feed 11 = .ok (.sipush (-1002), 3) := by decide +kernel
theorem dX10_feed_14 : decode cX10_feed 14 = .ok (.ireturn, 1) := by decide +kernel
theorem dX10_feed_15 : decode cX10_feed 15 = .ok (.aload_n 0, 1) := by decide +kernel
theorem dX10_feed_16 : decode cX10_feed 16 = .ok (.getfield 28, 3) := by decide +kernel
theorem dX10_feed_19 : decode cX10_feed 19 = .ok (.getfield 93, 3) := by decide +kernel
theorem dX10_feed_22 : decode cX10_feed 22 = .ok (.iload_n 1, 1) := by decide +kernel
theorem dX10_feed_23 : decode cX10_feed 23 = .ok (.iadd, 1) := by decide +kernel
theorem dX10_feed_24 : decode cX10_feed 24 = .ok (.sipush 200, 3) := by decide +kernel
theorem dX10_feed_27 : decode cX10_feed 27 = .ok (.if_icmp .le 7, 3) := by decide +kernel
theorem dX10_feed_30 : decode cX10_feed 30 = .ok (.sipush (-1004), 3) := by decide +kernel
theorem dX10_feed_33 : decode cX10_feed 33 = .ok (.ireturn, 1) := by decide +kernel
theorem dX10_feed_34 : decode cX10_feed 34 = .ok (.iload_n 1, 1) := by decide +kernel
theorem dX10_feed_35 : decode cX10_feed 35 = .ok (.iconst 1, 1) := by decide +kernel
theorem dX10_feed_36 : decode cX10_feed 36 = .ok (.isub, 1) := by decide +kernel
theorem dX10_feed_37 : decode cX10_feed 37 = .ok (.istore 4, 2) := by decide +kernel
theorem dX10_feed_39 : decode cX10_feed 39 = .ok (.iload 4, 2) := by decide +kernel
theorem dX10_feed_41 : decode cX10_feed 41 = .ok (.ifCond .lt 28, 3) := by decide +kernel
theorem dX10_feed_44 : decode cX10_feed 44 = .ok (.aload_n 0, 1) := by decide +kernel
theorem dX10_feed_45 : decode cX10_feed 45 = .ok (.getfield 28, 3) := by decide +kernel
theorem dX10_feed_48 : decode cX10_feed 48 = .ok (.lload_n 2, 1) := by decide +kernel
theorem dX10_feed_49 : decode cX10_feed 49 = .ok (.bipush 8, 2) := by decide +kernel
theorem dX10_feed_51 : decode cX10_feed 51 = .ok (.iload 4, 2) := by decide +kernel
theorem dX10_feed_53 : decode cX10_feed 53 = .ok (.imul, 1) := by decide +kernel
theorem dX10_feed_54 : decode cX10_feed 54 = .ok (.lushr, 1) := by decide +kernel
theorem dX10_feed_55 : decode cX10_feed 55 = .ok (.l2i, 1) := by decide +kernel
theorem dX10_feed_56 : decode cX10_feed 56 = .ok (.sipush 255, 3) := by decide +kernel
theorem dX10_feed_59 : decode cX10_feed 59 = .ok (.iand, 1) := by decide +kernel
theorem dX10_feed_60 : decode cX10_feed 60 = .ok (.invokevirtual 97, 3) := by decide +kernel
theorem dX10_feed_63 : decode cX10_feed 63 = .ok (.iinc 4 (-1), 3) := by decide +kernel
theorem dX10_feed_66 : decode cX10_feed 66 = .ok (.goto (-27), 3) := by decide +kernel
theorem dX10_feed_69 : decode cX10_feed 69 = .ok (.aload_n 0, 1) := by decide +kernel
theorem dX10_feed_70 : decode cX10_feed 70 = .ok (.getfield 28, 3) := by decide +kernel
theorem dX10_feed_73 : decode cX10_feed 73 = .ok (.getfield 93, 3) := by decide +kernel
theorem dX10_feed_76 : decode cX10_feed 76 = .ok (.ireturn, 1) := by decide +kernel
theorem dX10_read_0 : decode cX10_read 0 = .ok (.aload_n 0, 1) := by decide +kernel
theorem dX10_read_1 : decode cX10_read 1 = .ok (.getfield 40, 3) := by decide +kernel
theorem dX10_read_4 : decode cX10_read 4 = .ok (.invokevirtual 100, 3) := by decide +kernel
theorem dX10_read_7 : decode cX10_read 7 = .ok (.istore_n 1, 1) := by decide +kernel
theorem dX10_read_8 : decode cX10_read 8 = .ok (.aload_n 0, 1) := by decide +kernel
theorem dX10_read_9 : decode cX10_read 9 = .ok (.getfield 28, 3) := by decide +kernel
theorem dX10_read_12 : decode cX10_read 12 = .ok (.iconst 0, 1) := by decide +kernel
theorem dX10_read_13 : decode cX10_read 13 = .ok (.putfield 93, 3) := by decide +kernel
theorem dX10_read_16 : decode cX10_read 16 = .ok (.iload_n 1, 1) := by decide +kernel
theorem dX10_read_17 : decode cX10_read 17 = .ok (.ifCond .eq 8, 3) := by decide +kernel
theorem dX10_read_20 : decode cX10_read 20 = .ok (.bipush (-10), 2) := by decide +kernel
theorem dX10_read_22 : decode cX10_read 22 = .ok (.iload_n 1, 1) := by decide +kernel
theorem dX10_read_23 : decode cX10_read 23 = .ok (.isub, 1) := by decide +kernel
theorem dX10_read_24 : decode cX10_read 24 = .ok (.ireturn, 1) := by decide +kernel
theorem dX10_read_25 : decode cX10_read 25 = .ok (.aload_n 0, 1) := by decide +kernel
theorem dX10_read_26 : decode cX10_read 26 = .ok (.getfield 19, 3) := by decide +kernel
theorem dX10_read_29 : decode cX10_read 29 = .ok (.aload_n 0, 1) := by decide +kernel
theorem dX10_read_30 : decode cX10_read 30 = .ok (.getfield 40, 3) := by decide +kernel
theorem dX10_read_33 : decode cX10_read 33 = .ok (.getfield 104, 3) := by decide +kernel
theorem dX10_read_36 : decode cX10_read 36 = .ok (.invokevirtual 107, 3) := by decide +kernel
theorem dX10_read_39 : decode cX10_read 39 = .ok (.aload_n 0, 1) := by decide +kernel
theorem dX10_read_40 : decode cX10_read 40 = .ok (.invokevirtual 94, 3) := by decide +kernel
theorem dX10_read_43 : decode cX10_read 43 = .ok (.aload_n 0, 1) := by decide +kernel
theorem dX10_read_44 : decode cX10_read 44 = .ok (.getfield 19, 3) := by decide +kernel
theorem dX10_read_47 : decode cX10_read 47 = .ok (.getfield 89, 3) := by decide +kernel
theorem dX10_read_50 : decode cX10_read 50 = .ok (.ireturn, 1) := by decide +kernel
theorem dX10_fault_0 : decode cX10_fault 0 = .ok (.aload_n 0, 1) := by decide +kernel
theorem dX10_fault_1 : decode cX10_fault 1 = .ok (.getfield 40, 3) := by decide +kernel
theorem dX10_fault_4 : decode cX10_fault 4 = .ok (.getfield 111, 3) := by decide +kernel
theorem dX10_fault_7 : decode cX10_fault 7 = .ok (.ireturn, 1) := by decide +kernel
theorem dX10_word_0 : decode cX10_word 0 = .ok (.aload_n 0, 1) := by decide +kernel
theorem dX10_word_1 : decode cX10_word 1 = .ok (.getfield 19, 3) := by decide +kernel
theorem dX10_word_4 : decode cX10_word 4 = .ok (.iload_n 1, 1) := by decide +kernel
theorem dX10_word_5 : decode cX10_word 5 = .ok (.invokevirtual 114, 3) := by decide +kernel
theorem dX10_word_8 : decode cX10_word 8 = .ok (.ifCond .ne 7, 3) := by decide +kernel
theorem dX10_word_11 : decode cX10_word 11 = .ok (.sipush (-1001), 3) := by decide +kernel
theorem dX10_word_14 : decode cX10_word 14 = .ok (.ireturn, 1) := by decide +kernel
theorem dX10_word_15 : decode cX10_word 15 = .ok (.iload_n 2, 1) := by decide +kernel
theorem dX10_word_16 : decode cX10_word 16 = .ok (.ifCond .lt 9, 3) := by decide +kernel
theorem dX10_word_19 : decode cX10_word 19 = .ok (.iload_n 2, 1) := by decide +kernel
theorem dX10_word_20 : decode cX10_word 20 = .ok (.bipush 10, 2) := by decide +kernel
theorem dX10_word_22 : decode cX10_word 22 = .ok (.if_icmp .le 7, 3) := by decide +kernel
theorem dX10_word_25 : decode cX10_word 25 = .ok (.sipush (-1002), 3) := by decide +kernel
theorem dX10_word_28 : decode cX10_word 28 = .ok (.ireturn, 1) := by decide +kernel
theorem dX10_word_29 : decode cX10_word 29 = .ok (.iload_n 2, 1) := by decide +kernel
theorem dX10_word_30 : decode cX10_word 30 = .ok (.tableswitch 56 0 2 #[26, 36, 46], 26) := by decide +kernel
theorem dX10_word_56 : decode cX10_word 56 = .ok (.aload_n 0, 1) := by decide +kernel
theorem dX10_word_57 : decode cX10_word 57 = .ok (.getfield 19, 3) := by decide +kernel
theorem dX10_word_60 : decode cX10_word 60 = .ok (.getfield 118, 3) := by decide +kernel
theorem dX10_word_63 : decode cX10_word 63 = .ok (.iload_n 1, 1) := by decide +kernel
theorem dX10_word_64 : decode cX10_word 64 = .ok (.iaload, 1) := by decide +kernel
theorem dX10_word_65 : decode cX10_word 65 = .ok (.ireturn, 1) := by decide +kernel
theorem dX10_word_66 : decode cX10_word 66 = .ok (.aload_n 0, 1) := by decide +kernel
theorem dX10_word_67 : decode cX10_word 67 = .ok (.getfield 19, 3) := by decide +kernel
theorem dX10_word_70 : decode cX10_word 70 = .ok (.getfield 122, 3) := by decide +kernel
theorem dX10_word_73 : decode cX10_word 73 = .ok (.iload_n 1, 1) := by decide +kernel
theorem dX10_word_74 : decode cX10_word 74 = .ok (.iaload, 1) := by decide +kernel
theorem dX10_word_75 : decode cX10_word 75 = .ok (.ireturn, 1) := by decide +kernel
theorem dX10_word_76 : decode cX10_word 76 = .ok (.aload_n 0, 1) := by decide +kernel
theorem dX10_word_77 : decode cX10_word 77 = .ok (.getfield 19, 3) := by decide +kernel
theorem dX10_word_80 : decode cX10_word 80 = .ok (.getfield 125, 3) := by decide +kernel
theorem dX10_word_83 : decode cX10_word 83 = .ok (.iload_n 1, 1) := by decide +kernel
theorem dX10_word_84 : decode cX10_word 84 = .ok (.iaload, 1) := by decide +kernel
theorem dX10_word_85 : decode cX10_word 85 = .ok (.ireturn, 1) := by decide +kernel
theorem dX10_word_86 : decode cX10_word 86 = .ok (.iload_n 2, 1) := by decide +kernel
theorem dX10_word_87 : decode cX10_word 87 = .ok (.iconst 3, 1) := by decide +kernel
theorem dX10_word_88 : decode cX10_word 88 = .ok (.isub, 1) := by decide +kernel
theorem dX10_word_89 : decode cX10_word 89 = .ok (.aload_n 0, 1) := by decide +kernel
theorem dX10_word_90 : decode cX10_word 90 = .ok (.getfield 19, 3) := by decide +kernel
theorem dX10_word_93 : decode cX10_word 93 = .ok (.getfield 125, 3) := by decide +kernel
theorem dX10_word_96 : decode cX10_word 96 = .ok (.iload_n 1, 1) := by decide +kernel
theorem dX10_word_97 : decode cX10_word 97 = .ok (.iaload, 1) := by decide +kernel
theorem dX10_word_98 : decode cX10_word 98 = .ok (.if_icmp .ge 17, 3) := by decide +kernel
theorem dX10_word_101 : decode cX10_word 101 = .ok (.aload_n 0, 1) := by decide +kernel
theorem dX10_word_102 : decode cX10_word 102 = .ok (.getfield 19, 3) := by decide +kernel
theorem dX10_word_105 : decode cX10_word 105 = .ok (.iload_n 1, 1) := by decide +kernel
theorem dX10_word_106 : decode cX10_word 106 = .ok (.iload_n 2, 1) := by decide +kernel
theorem dX10_word_107 : decode cX10_word 107 = .ok (.iconst 3, 1) := by decide +kernel
theorem dX10_word_108 : decode cX10_word 108 = .ok (.isub, 1) := by decide +kernel
theorem dX10_word_109 : decode cX10_word 109 = .ok (.invokevirtual 128, 3) := by decide +kernel
theorem dX10_word_112 : decode cX10_word 112 = .ok (.goto 4, 3) := by decide +kernel
theorem dX10_word_115 : decode cX10_word 115 = .ok (.iconst (-1), 1) := by decide +kernel
theorem dX10_word_116 : decode cX10_word 116 = .ok (.ireturn, 1) := by decide +kernel
theorem dX10_follows_0 : decode cX10_follows 0 = .ok (.iload_n 1, 1) := by decide +kernel
theorem dX10_follows_1 : decode cX10_follows 1 = .ok (.ifCond .lt 17, 3) := by decide +kernel
theorem dX10_follows_4 : decode cX10_follows 4 = .ok (.iload_n 1, 1) := by decide +kernel
theorem dX10_follows_5 : decode cX10_follows 5 = .ok (.iconst 4, 1) := by decide +kernel
theorem dX10_follows_6 : decode cX10_follows 6 = .ok (.if_icmp .ge 12, 3) := by decide +kernel
theorem dX10_follows_9 : decode cX10_follows 9 = .ok (.iload_n 2, 1) := by decide +kernel
theorem dX10_follows_10 : decode cX10_follows 10 = .ok (.ifCond .lt 8, 3) := by decide +kernel
theorem dX10_follows_13 : decode cX10_follows 13 = .ok (.iload_n 2, 1) := by decide +kernel
theorem dX10_follows_14 : decode cX10_follows 14 = .ok (.iconst 4, 1) := by decide +kernel
theorem dX10_follows_15 : decode cX10_follows 15 = .ok (.if_icmp .lt 7, 3) := by decide +kernel
theorem dX10_follows_18 : decode cX10_follows 18 = .ok (.sipush (-1002), 3) := by decide +kernel
theorem dX10_follows_21 : decode cX10_follows 21 = .ok (.ireturn, 1) := by decide +kernel
theorem dX10_follows_22 : decode cX10_follows 22 = .ok (.aload_n 0, 1) := by decide +kernel
theorem dX10_follows_23 : decode cX10_follows 23 = .ok (.getfield 10, 3) := by decide +kernel
theorem dX10_follows_26 : decode cX10_follows 26 = .ok (.iload_n 1, 1) := by decide +kernel
theorem dX10_follows_27 : decode cX10_follows 27 = .ok (.iload_n 2, 1) := by decide +kernel
theorem dX10_follows_28 : decode cX10_follows 28 = .ok (.invokevirtual 132, 3) := by decide +kernel
theorem dX10_follows_31 : decode cX10_follows 31 = .ok (.ifCond .eq 7, 3) := by decide +kernel
theorem dX10_follows_34 : decode cX10_follows 34 = .ok (.iconst 1, 1) := by decide +kernel
theorem dX10_follows_35 : decode cX10_follows 35 = .ok (.goto 4, 3) := by decide +kernel

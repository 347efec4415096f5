theorem dX11_one_1 : decode cX11_one 1 = .ok (.ifCond .eq 7, 3) := by decide +kernel
theorem dX11_one_4 : decode cX11_one 4 = .ok (.iconst 1, 1) := by decide +kernel
theorem dX11_one_5 : decode cX11_one 5 = .ok (.goto 4, 3) := by decide +kernel
theorem dX11_one_8 : decode cX11_one 8 = .ok (.iconst 0, 1) := by decide +kernel
theorem dX11_one_9 : decode cX11_one 9 = .ok (.ireturn, 1) := by decide +kernel
theorem dX11_letters_0 : decode cX11_letters 0 = .ok (.iload_n 1, 1) := by decide +kernel
theorem dX11_letters_1 : decode cX11_letters 1 = .ok (.i2l, 1) := by decide +kernel
theorem dX11_letters_2 : decode cX11_letters 2 = .ok (.ldc2_w 127, 3) := by decide +kernel
theorem dX11_letters_5 : decode cX11_letters 5 = .ok (.ldc2_w 129, 3) := by decide +kernel
theorem dX11_letters_8 : decode cX11_letters 8 = .ok (.invokestatic 131, 3) := by decide +kernel
theorem dX11_letters_11 : decode cX11_letters 11 = .ok (.ifCond .ne 7, 3) := by decide +kernel
theorem dX11_letters_14 : decode cX11_letters 14 = .ok (.sipush (-1002), 3) := by decide +kernel
theorem dX11_letters_17 : decode cX11_letters 17 = .ok (.ireturn, 1) := by decide +kernel
theorem dX11_letters_18 : decode cX11_letters 18 = .ok (.aload_n 0, 1) := by decide +kernel
theorem dX11_letters_19 : decode cX11_letters 19 = .ok (.iload_n 1, 1) := by decide +kernel
theorem dX11_letters_20 : decode cX11_letters 20 = .ok (.putfield 124, 3) := by decide +kernel
theorem dX11_letters_23 : decode cX11_letters 23 = .ok (.aload_n 0, 1) := by decide +kernel
theorem dX11_letters_24 : decode cX11_letters 24 = .ok (.iconst 0, 1) := by decide +kernel
theorem dX11_letters_25 : decode cX11_letters 25 = .ok (.putfield 135, 3) := by decide +kernel
theorem dX11_letters_28 : decode cX11_letters 28 = .ok (.aload_n 0, 1) := by decide +kernel
theorem dX11_letters_29 : decode cX11_letters 29 = .ok (.iconst 0, 1) := by decide +kernel
theorem dX11_letters_30 : decode cX11_letters 30 = .ok (.putfield 138, 3) := by decide +kernel
theorem dX11_letters_33 : decode cX11_letters 33 = .ok (.aload_n 0, 1) := by decide +kernel
theorem dX11_letters_34 : decode cX11_letters 34 = .ok (.iconst 0, 1) := by decide +kernel
theorem dX11_letters_35 : decode cX11_letters 35 = .ok (.putfield 141, 3) := by decide +kernel
theorem dX11_letters_38 : decode cX11_letters 38 = .ok (.iload_n 1, 1) := by decide +kernel
theorem dX11_letters_39 : decode cX11_letters 39 = .ok (.ireturn, 1) := by decide +kernel
theorem dX11_feed_0 : decode cX11_feed 0 = .ok (.iload_n 1, 1) := by decide +kernel
theorem dX11_feed_1 : decode cX11_feed 1 = .ok (.i2l, 1) := by decide +kernel
theorem dX11_feed_2 : decode cX11_feed 2 = .ok (.lconst 1, 1) := by decide +kernel
theorem dX11_feed_3 : decode cX11_feed 3 = .ok (.ldc2_w 129, 3) := by decide +kernel
theorem dX11_feed_6 : decode cX11_feed 6 = .ok (.invokestatic 131, 3) := by decide +kernel
theorem dX11_feed_9 : decode cX11_feed 9 = .ok (.ifCond .ne 7, 3) := by decide +kernel
theorem dX11_feed_12 : decode cX11_feed 12 = .ok (.sipush (-1002), 3) := by decide +kernel
theorem dX11_feed_15 : decode cX11_feed 15 = .ok (.ireturn, 1) := by decide +kernel
theorem dX11_feed_16 : decode cX11_feed 16 = .ok (.aload_n 0, 1) := by decide +kernel
theorem dX11_feed_17 : decode cX11_feed 17 = .ok (.getfield 144, 3) := by decide +kernel
theorem dX11_feed_20 : decode cX11_feed 20 = .ok (.iload_n 1, 1) := by decide +kernel
theorem dX11_feed_21 : decode cX11_feed 21 = .ok (.iadd, 1) := by decide +kernel
theorem dX11_feed_22 : decode cX11_feed 22 = .ok (.sipush 200, 3) := by decide +kernel
theorem dX11_feed_25 : decode cX11_feed 25 = .ok (.if_icmp .le 7, 3) := by decide +kernel
theorem dX11_feed_28 : decode cX11_feed 28 = .ok (.sipush (-1004), 3) := by decide +kernel
theorem dX11_feed_31 : decode cX11_feed 31 = .ok (.ireturn, 1) := by decide +kernel
theorem dX11_feed_32 : decode cX11_feed 32 = .ok (.iload_n 1, 1) := by decide +kernel
theorem dX11_feed_33 : decode cX11_feed 33 = .ok (.iconst 1, 1) := by decide +kernel
theorem dX11_feed_34 : decode cX11_feed 34 = .ok (.isub, 1) := by decide +kernel
theorem dX11_feed_35 : decode cX11_feed 35 = .ok (.istore 4, 2) := by decide +kernel
theorem dX11_feed_37 : decode cX11_feed 37 = .ok (.iload 4, 2) := by decide +kernel
theorem dX11_feed_39 : decode cX11_feed 39 = .ok (.ifCond .lt 40, 3) := by decide +kernel
theorem dX11_feed_42 : decode cX11_feed 42 = .ok (.aload_n 0, 1) := by decide +kernel
theorem dX11_feed_43 : decode cX11_feed 43 = .ok (.getfield 38, 3) := by decide +kernel
theorem dX11_feed_46 : decode cX11_feed 46 = .ok (.aload_n 0, 1) := by decide +kernel
theorem dX11_feed_47 : decode cX11_feed 47 = .ok (.getfield 144, 3) := by decide +kernel
theorem dX11_feed_50 : decode cX11_feed 50 = .ok (.lload_n 2, 1) := by decide +kernel
theorem dX11_feed_51 : decode cX11_feed 51 = .ok (.bipush 8, 2) := by decide +kernel
theorem dX11_feed_53 : decode cX11_feed 53 = .ok (.iload 4, 2) := by decide +kernel
theorem dX11_feed_55 : decode cX11_feed 55 = .ok (.imul, 1) := by decide +kernel
theorem dX11_feed_56 : decode cX11_feed 56 = .ok (.lshr, 1) := by decide +kernel
theorem dX11_feed_57 : decode cX11_feed 57 = .ok (.ldc2_w 147, 3) := by decide +kernel
theorem dX11_feed_60 : decode cX11_feed 60 = .ok (.land, 1) := by decide +kernel
theorem dX11_feed_61 : decode cX11_feed 61 = .ok (.l2i, 1) := by decide +kernel
theorem dX11_feed_62 : decode cX11_feed 62 = .ok (.iastore, 1) := by decide +kernel
theorem dX11_feed_63 : decode cX11_feed 63 = .ok (.aload_n 0, 1) := by decide +kernel
theorem dX11_feed_64 : decode cX11_feed 64 = .ok (.dup, 1) := by decide +kernel
theorem dX11_feed_65 : decode cX11_feed 65 = .ok (.getfield 144, 3) := by decide +kernel
theorem dX11_feed_68 : decode cX11_feed 68 = .ok (.iconst 1, 1) := by decide +kernel
theorem dX11_feed_69 : decode cX11_feed 69 = .ok (.iadd, 1) := by decide +kernel
theorem dX11_feed_70 : decode cX11_feed 70 = .ok (.putfield 144, 3) := by decide +kernel
theorem dX11_feed_73 : decode cX11_feed 73 = .ok (.iinc 4 (-1), 3) := by decide +kernel
theorem dX11_feed_76 : decode cX11_feed 76 = .ok (.goto (-39), 3) := by decide +kernel
theorem dX11_feed_79 : decode cX11_feed 79 = .ok (.aload_n 0, 1) := by decide +kernel
theorem dX11_feed_80 : decode cX11_feed 80 = .ok (.getfield 144, 3) := by decide +kernel
theorem dX11_feed_83 : decode cX11_feed 83 = .ok (.ireturn, 1) := by decide +kernel
theorem dX11_here_0 : decode cX11_here 0 = .ok (.aload_n 0, 1) := by decide +kernel
theorem dX11_here_1 : decode cX11_here 1 = .ok (.getfield 149, 3) := by decide +kernel
theorem dX11_here_4 : decode cX11_here 4 = .ok (.aload_n 0, 1) := by decide +kernel
theorem dX11_here_5 : decode cX11_here 5 = .ok (.getfield 144, 3) := by decide +kernel
theorem dX11_here_8 : decode cX11_here 8 = .ok (.if_icmp .ge 30, 3) := by decide +kernel
theorem dX11_here_11 : decode cX11_here 11 = .ok (.aload_n 0, 1) := by decide +kernel
theorem dX11_here_12 : decode cX11_here 12 = .ok (.getfield 38, 3) := by decide +kernel
theorem dX11_here_15 : decode cX11_here 15 = .ok (.aload_n 0, 1) := by decide +kernel
theorem dX11_here_16 : decode cX11_here 16 = .ok (.getfield 149, 3) := by decide +kernel
theorem dX11_here_19 : decode cX11_here 19 = .ok (.iaload, 1) := by decide +kernel
theorem dX11_here_20 : decode cX11_here 20 = .ok (.bipush 32, 2) := by decide +kernel
theorem dX11_here_22 : decode cX11_here 22 = .ok (.if_icmp .ne 16, 3) := by decide +kernel
theorem dX11_here_25 : decode cX11_here 25 = .ok (.aload_n 0, 1) := by decide +kernel
theorem dX11_here_26 : decode cX11_here 26 = .ok (.dup, 1) := by decide +kernel
theorem dX11_here_27 : decode cX11_here 27 = .ok (.getfield 149, 3) := by decide +kernel
theorem dX11_here_30 : decode cX11_here 30 = .ok (.iconst 1, 1) := by decide +kernel
theorem dX11_here_31 : decode cX11_here 31 = .ok (.iadd, 1) := by decide +kernel
theorem dX11_here_32 : decode cX11_here 32 = .ok (.putfield 149, 3) := by decide +kernel
theorem dX11_here_35 : decode cX11_here 35 = .ok (.goto (-35), 3) := by decide +kernel
theorem dX11_here_38 : decode cX11_here 38 = .ok (.aload_n 0, 1) := by decide +kernel
theorem dX11_here_39 : decode cX11_here 39 = .ok (.getfield 149, 3) := by decide +kernel
theorem dX11_here_42 : decode cX11_here 42 = .ok (.aload_n 0, 1) := by decide +kernel
theorem dX11_here_43 : decode cX11_here 43 = .ok (.getfield 144, 3) := by decide +kernel
theorem dX11_here_46 : decode cX11_here 46 = .ok (.if_icmp .ge 15, 3) := by decide +kernel
theorem dX11_here_49 : decode cX11_here 49 = .ok (.aload_n 0, 1) := by decide +kernel
theorem dX11_here_50 : decode cX11_here 50 = .ok (.getfield 38, 3) := by decide +kernel
theorem dX11_here_53 : decode cX11_here 53 = .ok (.aload_n 0, 1) := by decide +kernel
theorem dX11_here_54 : decode cX11_here 54 = .ok (.getfield 149, 3) := by decide +kernel
theorem dX11_here_57 : decode cX11_here 57 = .ok (.iaload, 1) := by decide +kernel
theorem dX11_here_58 : decode cX11_here 58 = .ok (.goto 4, 3) := by decide +kernel
theorem dX11_here_61 : decode cX11_here 61 = .ok (.iconst (-1), 1) := by decide +kernel
theorem dX11_here_62 : decode cX11_here 62 = .ok (.ireturn, 1) := by decide +kernel
theorem dX11_want_0 : decode cX11_want 0 = .ok (.iload_n 1, 1) := by decide +kernel
theorem dX11_want_1 : decode cX11_want 1 = .ok (.ifCond .ne 20, 3) := by decide +kernel
theorem dX11_want_4 : decode cX11_want 4 = .ok (.aload_n 0, 1) := by decide +kernel
theorem dX11_want_5 : decode cX11_want 5 = .ok (.getfield 152, 3) := by decide +kernel
theorem dX11_want_8 : decode cX11_want 8 = .ok (.ifCond .ne 13, 3) := by decide +kernel
theorem dX11_want_11 : decode cX11_want 11 = .ok (.aload_n 0, 1) := by decide +kernel
theorem dX11_want_12 : decode cX11_want 12 = .ok (.iload_n 2, 1) := by decide +kernel
theorem dX11_want_13 : decode cX11_want 13 = .ok (.putfield 152, 3) := by decide +kernel
theorem dX11_want_16 : decode cX11_want 16 = .ok (.aload_n 0, 1) := by decide +kernel
theorem dX11_want_17 : decode cX11_want 17 = .ok (.iload_n 3, 1) := by decide +kernel
theorem dX11_want_18 : decode cX11_want 18 = .ok (.putfield 41, 3) := by decide +kernel
theorem dX11_want_21 : decode cX11_want 21 = .ok (.aload_n 0, 1) := by decide +kernel
theorem dX11_want_22 : decode cX11_want 22 = .ok (.getfield 152, 3) := by decide +kernel
theorem dX11_want_25 : decode cX11_want 25 = .ok (.ifCond .ne 7, 3) := by decide +kernel
theorem dX11_want_28 : decode cX11_want 28 = .ok (.iconst 1, 1) := by decide +kernel
theorem dX11_want_29 : decode cX11_want 29 = .ok (.goto 4, 3) := by decide +kernel
theorem dX11_want_32 : decode cX11_want 32 = .ok (.iconst 0, 1) := by decide +kernel
theorem dX11_want_33 : decode cX11_want 33 = .ok (.ireturn, 1) := by decide +kernel
theorem dX11_takeLetter_0 : decode cX11_takeLetter 0 = .ok (.aload_n 0, 1) := by decide +kernel
theorem dX11_takeLetter_1 : decode cX11_takeLetter 1 = .ok (.invokevirtual 155, 3) := by decide +kernel
theorem dX11_takeLetter_4 : decode cX11_takeLetter 4 = .ok (.istore_n 2, 1) := by decide +kernel
theorem dX11_takeLetter_5 : decode cX11_takeLetter 5 = .ok (.aload_n 0, 1) := by decide +kernel
theorem dX11_takeLetter_6 : decode cX11_takeLetter 6 = .ok (.iload_n 2, 1) := by decide +kernel
theorem dX11_takeLetter_7 : decode cX11_takeLetter 7 = .ok (.i2l, 1) := by decide +kernel
theorem dX11_takeLetter_8 : decode cX11_takeLetter 8 = .ok (.ldc2_w 159, 3) := by decide +kernel
theorem dX11_takeLetter_11 : decode cX11_takeLetter 11 = .ok (.ldc2_w 161, 3) := by decide +kernel
theorem dX11_takeLetter_14 : decode cX11_takeLetter 14 = .ok (.invokestatic 131, 3) := by decide +kernel
theorem dX11_takeLetter_17 : decode cX11_takeLetter 17 = .ok (.iconst 1, 1) := by decide +kernel
theorem dX11_takeLetter_18 : decode cX11_takeLetter 18 = .ok (.aload_n 0, 1) := by decide +kernel
theorem dX11_takeLetter_19 : decode cX11_takeLetter 19 = .ok (.getfield 149, 3) := by decide +kernel
theorem dX11_takeLetter_22 : decode cX11_takeLetter 22 = .ok (.invokevirtual 163, 3) := by decide +kernel
theorem dX11_takeLetter_25 : decode cX11_takeLetter 25 = .ok (.ifCond .eq 122, 3) := by decide +kernel
theorem dX11_takeLetter_28 : decode cX11_takeLetter 28 = .ok (.aload_n 0, 1) := by decide +kernel
theorem dX11_takeLetter_29 : decode cX11_takeLetter 29 = .ok (.iload_n 2, 1) := by decide +kernel
theorem dX11_takeLetter_30 : decode cX11_takeLetter 30 = .ok (.bipush 97, 2) := by decide +kernel
theorem dX11_takeLetter_32 : decode cX11_takeLetter 32 = .ok (.isub, 1) := by decide +kernel
theorem dX11_takeLetter_33 : decode cX11_takeLetter 33 = .ok (.aload_n 0, 1) := by decide +kernel
theorem dX11_takeLetter_34 : decode cX11_takeLetter 34 = .ok (.getfield 124, 3) := by decide +kernel
theorem dX11_takeLetter_37 : decode cX11_takeLetter 37 = .ok (.if_icmp .ge 7, 3) := by decide +kernel
theorem dX11_takeLetter_40 : decode cX11_takeLetter 40 = .ok (.iconst 1, 1) := by decide +kernel
theorem dX11_takeLetter_41 : decode cX11_takeLetter 41 = .ok (.goto 4, 3) := by decide +kernel
theorem dX11_takeLetter_44 : decode cX11_takeLetter 44 = .ok (.iconst 0, 1) := by decide +kernel
theorem dX11_takeLetter_45 : decode cX11_takeLetter 45 = .ok (.iconst 2, 1) := by decide +kernel
theorem dX11_takeLetter_46 : decode cX11_takeLetter 46 = .ok (.aload_n 0, 1) := by decide +kernel
theorem dX11_takeLetter_47 : decode cX11_takeLetter 47 = .ok (.getfield 149, 3) := by decide +kernel
theorem dX11_takeLetter_50 : decode cX11_takeLetter 50 = .ok (.invokevirtual 163, 3) := by decide +kernel
theorem dX11_takeLetter_53 : decode cX11_takeLetter 53 = .ok (.ifCond .eq 94, 3) := by decide +kernel
theorem dX11_takeLetter_56 : decode cX11_takeLetter 56 = .ok (.aload_n 0, 1) := by decide +kernel
theorem dX11_takeLetter_57 : decode cX11_takeLetter 57 = .ok (.iload_n 1, 1) := by decide +kernel
theorem dX11_takeLetter_58 : decode cX11_takeLetter 58 = .ok (.bipush 16, 2) := by decide +kernel
theorem dX11_takeLetter_60 : decode cX11_takeLetter 60 = .ok (.if_icmp .ge 7, 3) := by decide +kernel
theorem dX11_takeLetter_63 : decode cX11_takeLetter 63 = .ok (.iconst 1, 1) := by decide +kernel
theorem dX11_takeLetter_64 : decode cX11_takeLetter 64 = .ok (.goto 4, 3) := by decide +kernel
theorem dX11_takeLetter_67 : decode cX11_takeLetter 67 = .ok (.iconst 0, 1) := by decide +kernel
theorem dX11_takeLetter_68 : decode cX11_takeLetter 68 = .ok (.iconst 5, 1) := by decide +kernel
theorem dX11_takeLetter_69 : decode cX11_takeLetter 69 = .ok (.aload_n 0, 1) := by decide +kernel
theorem dX11_takeLetter_70 : decode cX11_takeLetter 70 = .ok (.getfield 149, 3) := by decide +kernel
theorem dX11_takeLetter_73 : decode cX11_takeLetter 73 = .ok (.invokevirtual 163, 3) := by decide +kernel
theorem dX11_takeLetter_76 : decode cX11_takeLetter 76 = .ok (.ifCond .eq 71, 3) := by decide +kernel
theorem dX11_takeLetter_79 : decode cX11_takeLetter 79 = .ok (.aload_n 0, 1) := by decide +kernel
theorem dX11_takeLetter_80 : decode cX11_takeLetter 80 = .ok (.aload_n 0, 1) := by decide +kernel
theorem dX11_takeLetter_81 : decode cX11_takeLetter 81 = .ok (.getfield 48, 3) := by decide +kernel
theorem dX11_takeLetter_84 : decode cX11_takeLetter 84 = .ok (.iload_n 1, 1) := by decide +kernel
theorem dX11_takeLetter_85 : decode cX11_takeLetter 85 = .ok (.iaload, 1) := by decide +kernel
theorem dX11_takeLetter_86 : decode cX11_takeLetter 86 = .ok (.bipush 8, 2) := by decide +kernel
theorem dX11_takeLetter_88 : decode cX11_takeLetter 88 = .ok (.if_icmp .ge 7, 3) := by decide +kernel
theorem dX11_takeLetter_91 : decode cX11_takeLetter 91 = .ok (.iconst 1, 1) := by decide +kernel
theorem dX11_takeLetter_92 : decode cX11_takeLetter 92 = .ok (.goto 4, 3) := by decide +kernel
theorem dX11_takeLetter_95 : decode cX11_takeLetter 95 = .ok (.iconst 0, 1) := by decide +kernel
theorem dX11_takeLetter_96 : decode cX11_takeLetter 96 = .ok (.iconst 3, 1) := by decide +kernel
theorem dX11_takeLetter_97 : decode cX11_takeLetter 97 = .ok (.aload_n 0, 1) := by decide +kernel
theorem dX11_takeLetter_98 : decode cX11_takeLetter 98 = .ok (.getfield 149, 3) := by decide +kernel
theorem dX11_takeLetter_101 : decode cX11_takeLetter 101 = .ok (.invokevirtual 163, 3) := by decide +kernel
theorem dX11_takeLetter_104 : decode cX11_takeLetter 104 = .ok (.ifCond .eq 43, 3) := by decide +kernel
theorem dX11_takeLetter_107 : decode cX11_takeLetter 107 = .ok (.aload_n 0, 1) := by decide +kernel
theorem dX11_takeLetter_108 : decode cX11_takeLetter 108 = .ok (.getfield 45, 3) := by decide +kernel
theorem dX11_takeLetter_111 : decode cX11_takeLetter 111 = .ok (.bipush 8, 2) := by decide +kernel
theorem dX11_takeLetter_113 : decode cX11_takeLetter 113 = .ok (.iload_n 1, 1) := by decide +kernel
theorem dX11_takeLetter_114 : decode cX11_takeLetter 114 = .ok (.imul, 1) := by decide +kernel
theorem dX11_takeLetter_115 : decode cX11_takeLetter 115 = .ok (.aload_n 0, 1) := by decide +kernel
theorem dX11_takeLetter_116 : decode cX11_takeLetter 116 = .ok (.getfield 48, 3) := by decide +kernel
theorem dX11_takeLetter_119 : decode cX11_takeLetter 119 = .ok (.iload_n 1, 1) := by decide +kernel
theorem dX11_takeLetter_120 : decode cX11_takeLetter 120 = .ok (.iaload, 1) := by decide +kernel
theorem dX11_takeLetter_121 : decode cX11_takeLetter 121 = .ok (.iadd, 1) := by decide +kernel
theorem dX11_takeLetter_122 : decode cX11_takeLetter 122 = .ok (.iload_n 2, 1) := by decide +kernel
theorem dX11_takeLetter_123 : decode cX11_takeLetter 123 = .ok (.bipush 97, 2) := by decide +kernel
theorem dX11_takeLetter_125 : decode cX11_takeLetter 125 = .ok (.isub, 1) := by decide +kernel
theorem dX11_takeLetter_126 : decode cX11_takeLetter 126 = .ok (.iastore, 1) := by decide +kernel
theorem dX11_takeLetter_127 : decode cX11_takeLetter 127 = .ok (.aload_n 0, 1) := by decide +kernel
theorem dX11_takeLetter_128 : decode cX11_takeLetter 128 = .ok (.getfield 48, 3) := by decide +kernel
theorem dX11_takeLetter_131 : decode cX11_takeLetter 131 = .ok (.iload_n 1, 1) := by decide +kernel
theorem dX11_takeLetter_132 : decode cX11_takeLetter 132 = .ok (.dup2, 1) := by decide +kernel
theorem dX11_takeLetter_133 : decode cX11_takeLetter 133 = .ok (.iaload, 1) := by decide +kernel
theorem dX11_takeLetter_134 : decode cX11_takeLetter 134 = .ok (.iconst 1, 1) := by decide +kernel
theorem dX11_takeLetter_135 : decode cX11_takeLetter 135 = .ok (.iadd, 1) := by decide +kernel
theorem dX11_takeLetter_136 : decode cX11_takeLetter 136 = .ok (.iastore, 1) := by decide +kernel
theorem dX11_takeLetter_137 : decode cX11_takeLetter 137 = .ok (.aload_n 0, 1) := by decide +kernel
theorem dX11_takeLetter_138 : decode cX11_takeLetter 138 = .ok (.dup, 1) := by decide +kernel
theorem dX11_takeLetter_139 : decode cX11_takeLetter 139 = .ok (.getfield 149, 3) := by decide +kernel
theorem dX11_takeLetter_142 : decode cX11_takeLetter 142 = .ok (.iconst 1, 1) := by decide +kernel
theorem dX11_takeLetter_143 : decode cX11_takeLetter 143 = .ok (.iadd, 1) := by decide +kernel
theorem dX11_takeLetter_144 : decode cX11_takeLetter 144 = .ok (.putfield 149, 3) := by decide +kernel
theorem dX11_takeLetter_147 : decode cX11_takeLetter 147 = .ok (.aload_n 0, 1) := by decide +kernel
theorem dX11_takeLetter_148 : decode cX11_takeLetter 148 = .ok (.getfield 152, 3) := by decide +kernel
theorem dX11_takeLetter_151 : decode cX11_takeLetter 151 = .ok (.ifCond .ne 7, 3) := by decide +kernel
theorem dX11_takeLetter_154 : decode cX11_takeLetter 154 = .ok (.iconst 1, 1) := by decide +kernel
theorem dX11_takeLetter_155 : decode cX11_takeLetter 155 = .ok (.goto 4, 3) := by decide +kernel
theorem dX11_takeLetter_158 : decode cX11_takeLetter 158 = .ok (.iconst 0, 1) := by decide +kernel
theorem dX11_takeLetter_159 : decode cX11_takeLetter 159 = .ok (.ireturn, 1) := by decide +kernel
theorem dX11_isNewLike_0 : decode cX11_isNewLike 0 = .ok (.aload_n 0, 1) := by decide +kernel
theorem dX11_isNewLike_1 : decode cX11_isNewLike 1 = .ok (.getfield 48, 3) := by decide +kernel
theorem dX11_isNewLike_4 : decode cX11_isNewLike 4 = .ok (.iload_n 1, 1) := by decide +kernel
theorem dX11_isNewLike_5 : decode cX11_isNewLike 5 = .ok (.iaload, 1) := by decide +kernel
theorem dX11_isNewLike_6 : decode cX11_isNewLike 6 = .ok (.aload_n 0, 1) := by decide +kernel
theorem dX11_isNewLike_7 : decode cX11_isNewLike 7 = .ok (.getfield 48, 3) := by decide +kernel
theorem dX11_isNewLike_10 : decode cX11_isNewLike 10 = .ok (.iload_n 2, 1) := by decide +kernel
theorem dX11_isNewLike_11 : decode cX11_isNewLike 11 = .ok (.iaload, 1) := by decide +kernel
theorem dX11_isNewLike_12 : decode cX11_isNewLike 12 = .ok (.if_icmp .ne 7, 3) := by decide +kernel
theorem dX11_isNewLike_15 : decode cX11_isNewLike 15 = .ok (.iconst 1, 1) := by decide +kernel
theorem dX11_isNewLike_16 : decode cX11_isNewLike 16 = .ok (.goto 4, 3) := by decide +kernel
theorem dX11_isNewLike_19 : decode cX11_isNewLike 19 = .ok (.iconst 0, 1) := by decide +kernel
theorem dX11_isNewLike_20 : decode cX11_isNewLike 20 = .ok (.istore_n 3, 1) := by decide +kernel
theorem dX11_isNewLike_21 : decode cX11_isNewLike 21 = .ok (.iconst 0, 1) := by decide +kernel
theorem dX11_isNewLike_22 : decode cX11_isNewLike 22 = .ok (.istore 4, 2) := by decide +kernel
theorem dX11_isNewLike_24 : decode cX11_isNewLike 24 = .ok (.iload 4, 2) := by decide +kernel
theorem dX11_isNewLike_26 : decode cX11_isNewLike 26 = .ok (.aload_n 0, 1) := by decide +kernel
theorem dX11_isNewLike_27 : decode cX11_isNewLike 27 = .ok (.getfield 48, 3) := by decide +kernel
theorem dX11_isNewLike_30 : decode cX11_isNewLike 30 = .ok (.iload_n 2, 1) := by decide +kernel
theorem dX11_isNewLike_31 : decode cX11_isNewLike 31 = .ok (.iaload, 1) := by decide +kernel
theorem dX11_isNewLike_32 : decode cX11_isNewLike 32 = .ok (.if_icmp .ge 46, 3) := by decide +kernel
theorem dX11_isNewLike_35 : decode cX11_isNewLike 35 = .ok (.iload_n 3, 1) := by decide +kernel
theorem dX11_isNewLike_36 : decode cX11_isNewLike 36 = .ok (.ifCond .eq 42, 3) := by decide +kernel
theorem dX11_isNewLike_39 : decode cX11_isNewLike 39 = .ok (.aload_n 0, 1) := by decide +kernel
theorem dX11_isNewLike_40 : decode cX11_isNewLike 40 = .ok (.getfield 45, 3) := by decide +kernel
theorem dX11_isNewLike_43 : decode cX11_isNewLike 43 = .ok (.bipush 8, 2) := by decide +kernel
theorem dX11_isNewLike_45 : decode cX11_isNewLike 45 = .ok (.iload_n 1, 1) := by decide +kernel
theorem dX11_isNewLike_46 : decode cX11_isNewLike 46 = .ok (.imul, 1) := by decide +kernel
theorem dX11_isNewLike_47 : decode cX11_isNewLike 47 = .ok (.iload 4, 2) := by decide +kernel
theorem dX11_isNewLike_49 : decode cX11_isNewLike 49 = .ok (.iadd, 1) := by decide +kernel
theorem dX11_isNewLike_50 : decode cX11_isNewLike 50 = .ok (.iaload, 1) := by decide +kernel
theorem dX11_isNewLike_51 : decode cX11_isNewLike 51 = .ok (.aload_n 0, 1) := by decide +kernel
theorem dX11_isNewLike_52 : decode cX11_isNewLike 52 = .ok (.getfield 45, 3) := by decide +kernel
theorem dX11_isNewLike_55 : decode cX11_isNewLike 55 = .ok (.bipush 8, 2) := by decide +kernel
theorem dX11_isNewLike_57 : decode cX11_isNewLike 57 = .ok (.iload_n 2, 1) := by decide +kernel
theorem dX11_isNewLike_58 : decode cX11_isNewLike 58 = .ok (.imul, 1) := by decide +kernel
theorem dX11_isNewLike_59 : decode cX11_isNewLike 59 = .ok (.iload 4, 2) := by decide +kernel
theorem dX11_isNewLike_61 : decode cX11_isNewLike 61 = .ok (.iadd, 1) := by decide +kernel
theorem dX11_isNewLike_62 : decode cX11_isNewLike 62 = .ok (.iaload, 1) := by decide +kernel
theorem dX11_isNewLike_63 : decode cX11_isNewLike 63 = .ok (.if_icmp .ne 7, 3) := by decide +kernel
theorem dX11_isNewLike_66 : decode cX11_isNewLike 66 = .ok (.iconst 1, 1) := by decide +kernel
theorem dX11_isNewLike_67 : decode cX11_isNewLike 67 = .ok (.goto 4, 3) := by decide +kernel
theorem dX11_isNewLike_70 : decode cX11_isNewLike 70 = .ok (.iconst 0, 1) := by decide +kernel
theorem dX11_isNewLike_71 : decode cX11_isNewLike 71 = .ok (.istore_n 3, 1) := by decide +kernel
theorem dX11_isNewLike_72 : decode cX11_isNewLike 72 = .ok (.iinc 4 1, 3) := by decide +kernel
theorem dX11_isNewLike_75 : decode cX11_isNewLike 75 = .ok (.goto (-51), 3) := by decide +kernel
theorem dX11_isNewLike_78 : decode cX11_isNewLike 78 = .ok (.iload_n 3, 1) := by decide +kernel
theorem dX11_isNewLike_79 : decode cX11_isNewLike 79 = .ok (.ireturn, 1) := by decide +kernel
theorem dX11_takeCost_0 : decode cX11_takeCost 0 = .ok (.aload_n 0, 1) := by decide +kernel
theorem dX11_takeCost_1 : decode cX11_takeCost 1 = .ok (.invokevirtual 155, 3) := by decide +kernel
theorem dX11_takeCost_4 : decode cX11_takeCost 4 = .ok (.istore_n 1, 1) := by decide +kernel
theorem dX11_takeCost_5 : decode cX11_takeCost 5 = .ok (.aload_n 0, 1) := by decide +kernel
theorem dX11_takeCost_6 : decode cX11_takeCost 6 = .ok (.getfield 149, 3) := by decide +kernel
theorem dX11_takeCost_9 : decode cX11_takeCost 9 = .ok (.istore_n 2, 1) := by decide +kernel
theorem dX11_takeCost_10 : decode cX11_takeCost 10 = .ok (.aload_n 0, 1) := by decide +kernel
theorem dX11_takeCost_11 : decode cX11_takeCost 11 = .ok (.iload_n 1, 1) := by decide +kernel
theorem dX11_takeCost_12 : decode cX11_takeCost 12 = .ok (.i2l, 1) := by decide +kernel
theorem dX11_takeCost_13 : decode cX11_takeCost 13 = .ok (.ldc2_w 167, 3) := by decide +kernel
theorem dX11_takeCost_16 : decode cX11_takeCost 16 = .ok (.ldc2_w 169, 3) := by decide +kernel
theorem dX11_takeCost_19 : decode cX11_takeCost 19 = .ok (.invokestatic 131, 3) := by decide +kernel
theorem dX11_takeCost_22 : decode cX11_takeCost 22 = .ok (.iconst 1, 1) := by decide +kernel
theorem dX11_takeCost_23 : decode cX11_takeCost 23 = .ok (.aload_n 0, 1) := by decide +kernel
theorem dX11_takeCost_24 : decode cX11_takeCost 24 = .ok (.getfield 149, 3) := by decide +kernel
theorem dX11_takeCost_27 : decode cX11_takeCost 27 = .ok (.invokevirtual 163, 3) := by decide +kernel
theorem dX11_takeCost_30 : decode cX11_takeCost 30 = .ok (.ifCond .ne 5, 3) := by decide +kernel
theorem dX11_takeCost_33 : decode cX11_takeCost 33 = .ok (.iconst 0, 1) := by decide +kernel
theorem dX11_takeCost_34 : decode cX11_takeCost 34 = .ok (.ireturn, 1) := by decide +kernel
theorem dX11_takeCost_35 : decode cX11_takeCost 35 = .ok (.iconst 0, 1) := by decide +kernel
theorem dX11_takeCost_36 : decode cX11_takeCost 36 = .ok (.istore_n 3, 1) := by decide +kernel
theorem dX11_takeCost_37 : decode cX11_takeCost 37 = .ok (.aload_n 0, 1) := by decide +kernel
theorem dX11_takeCost_38 : decode cX11_takeCost 38 = .ok (.getfield 149, 3) := by decide +kernel
theorem dX11_takeCost_41 : decode cX11_takeCost 41 = .ok (.aload_n 0, 1) := by decide +kernel
theorem dX11_takeCost_42 : decode cX11_takeCost 42 = .ok (.getfield 144, 3) := by decide +kernel
theorem dX11_takeCost_45 : decode cX11_takeCost 45 = .ok (.if_icmp .ge 66, 3) := by decide +kernel
theorem dX11_takeCost_48 : decode cX11_takeCost 48 = .ok (.aload_n 0, 1) := by decide +kernel
theorem dX11_takeCost_49 : decode cX11_takeCost 49 = .ok (.getfield 38, 3) := by decide +kernel
theorem dX11_takeCost_52 : decode cX11_takeCost 52 = .ok (.aload_n 0, 1) := by decide +kernel
theorem dX11_takeCost_53 : decode cX11_takeCost 53 = .ok (.getfield 149, 3) := by decide +kernel
theorem dX11_takeCost_56 : decode cX11_takeCost 56 = .ok (.iaload, 1) := by decide +kernel
theorem dX11_takeCost_57 : decode cX11_takeCost 57 = .ok (.i2l, 1) := by decide +kernel
theorem dX11_takeCost_58 : decode cX11_takeCost 58 = .ok (.ldc2_w 167, 3) := by decide +kernel
theorem dX11_takeCost_61 : decode cX11_takeCost 61 = .ok (.ldc2_w 169, 3) := by decide +kernel
theorem dX11_takeCost_64 : decode cX11_takeCost 64 = .ok (.invokestatic 131, 3) := by decide +kernel
theorem dX11_takeCost_67 : decode cX11_takeCost 67 = .ok (.ifCond .eq 44, 3) := by decide +kernel
theorem dX11_takeCost_70 : decode cX11_takeCost 70 = .ok (.iload_n 3, 1) := by decide +kernel
theorem dX11_takeCost_71 : decode cX11_takeCost 71 = .ok (.bipush 99, 2) := by decide +kernel
theorem dX11_takeCost_73 : decode cX11_takeCost 73 = .ok (.if_icmp .le 7, 3) := by decide +kernel
theorem dX11_takeCost_76 : decode cX11_takeCost 76 = .ok (.iload_n 3, 1) := by decide +kernel
theorem dX11_takeCost_77 : decode cX11_takeCost 77 = .ok (.goto 20, 3) := by decide +kernel
theorem dX11_takeCost_80 : decode cX11_takeCost 80 = .ok (.bipush 10, 2) := by decide +kernel
theorem dX11_takeCost_82 : decode cX11_takeCost 82 = .ok (.iload_n 3, 1) := by decide +kernel
theorem dX11_takeCost_83 : decode cX11_takeCost 83 = .ok (.imul, 1) := by decide +kernel
theorem dX11_takeCost_84 : decode cX11_takeCost 84 = .ok (.aload_n 0, 1) := by decide +kernel
theorem dX11_takeCost_85 : decode cX11_takeCost 85 = .ok (.getfield 38, 3) := by decide +kernel
theorem dX11_takeCost_88 : decode cX11_takeCost 88 = .ok (.aload_n 0, 1) := by decide +kernel
theorem dX11_takeCost_89 : decode cX11_takeCost 89 = .ok (.getfield 149, 3) := by decide +kernel
theorem dX11_takeCost_92 : decode cX11_takeCost 92 = .ok (.iaload, 1) := by decide +kernel
theorem dX11_takeCost_93 : decode cX11_takeCost 93 = .ok (.iadd, 1) := by decide +kernel
theorem dX11_takeCost_94 : decode cX11_takeCost 94 = .ok (.bipush 48, 2) := by decide +kernel
theorem dX11_takeCost_96 : decode cX11_takeCost 96 = .ok (.isub, 1) := by decide +kernel
theorem dX11_takeCost_97 : decode cX11_takeCost 97 = .ok (.istore_n 3, 1) := by decide +kernel
theorem dX11_takeCost_98 : decode cX11_takeCost 98 = .ok (.aload_n 0, 1) := by decide +kernel
theorem dX11_takeCost_99 : decode cX11_takeCost 99 = .ok (.dup, 1) := by decide +kernel
theorem dX11_takeCost_100 : decode cX11_takeCost 100 = .ok (.getfield 149, 3) := by decide +kernel
theorem dX11_takeCost_103 : decode cX11_takeCost 103 = .ok (.iconst 1, 1) := by decide +kernel
theorem dX11_takeCost_104 : decode cX11_takeCost 104 = .ok (.iadd, 1) := by decide +kernel
theorem dX11_takeCost_105 : decode cX11_takeCost 105 = .ok (.putfield 149, 3) := by decide +kernel
theorem dX11_takeCost_108 : decode cX11_takeCost 108 = .ok (.goto (-71), 3) := by decide +kernel
theorem dX11_takeCost_111 : decode cX11_takeCost 111 = .ok (.aload_n 0, 1) := by decide +kernel
theorem dX11_takeCost_112 : decode cX11_takeCost 112 = .ok (.aload_n 0, 1) := by decide +kernel
theorem dX11_takeCost_113 : decode cX11_takeCost 113 = .ok (.getfield 149, 3) := by decide +kernel
theorem dX11_takeCost_116 : decode cX11_takeCost 116 = .ok (.iload_n 2, 1) := by decide +kernel
theorem dX11_takeCost_117 : decode cX11_takeCost 117 = .ok (.isub, 1) := by decide +kernel
theorem dX11_takeCost_118 : decode cX11_takeCost 118 = .ok (.iconst 3, 1) := by decide +kernel
theorem dX11_takeCost_119 : decode cX11_takeCost 119 = .ok (.if_icmp .ge 7, 3) := by decide +kernel
theorem dX11_takeCost_122 : decode cX11_takeCost 122 = .ok (.iconst 1, 1) := by decide +kernel
theorem dX11_takeCost_123 : decode cX11_takeCost 123 = .ok (.goto 4, 3) := by decide +kernel
theorem dX11_takeCost_126 : decode cX11_takeCost 126 = .ok (.iconst 0, 1) := by decide +kernel
theorem dX11_takeCost_127 : decode cX11_takeCost 127 = .ok (.iconst 2, 1) := by decide +kernel
theorem dX11_takeCost_128 : decode cX11_takeCost 128 = .ok (.iload_n 2, 1) := by decide +kernel
theorem dX11_takeCost_129 : decode cX11_takeCost 129 = .ok (.invokevirtual 163, 3) := by decide +kernel
theorem dX11_takeCost_132 : decode cX11_takeCost 132 = .ok (.istore 4, 2) := by decide +kernel
theorem dX11_takeCost_134 : decode cX11_takeCost 134 = .ok (.iload_n 3, 1) := by decide +kernel
theorem dX11_takeCost_135 : decode cX11_takeCost 135 = .ok (.ireturn, 1) := by decide +kernel
theorem dX11_readWord_0 : decode cX11_readWord 0 = .ok (.aload_n 0, 1) := by decide +kernel
theorem dX11_readWord_1 : decode cX11_readWord 1 = .ok (.invokevirtual 155, 3) := by decide +kernel
theorem dX11_readWord_4 : decode cX11_readWord 4 = .ok (.istore_n 1, 1) := by decide +kernel
theorem dX11_readWord_5 : decode cX11_readWord 5 = .ok (.aload_n 0, 1) := by decide +kernel
theorem dX11_readWord_6 : decode cX11_readWord 6 = .ok (.getfield 171, 3) := by decide +kernel
theorem dX11_readWord_9 : decode cX11_readWord 9 = .ok (.istore_n 2, 1) := by decide +kernel
theorem dX11_readWord_10 : decode cX11_readWord 10 = .ok (.aload_n 0, 1) := by decide +kernel
theorem dX11_readWord_11 : decode cX11_readWord 11 = .ok (.getfield 149, 3) := by decide +kernel
theorem dX11_readWord_14 : decode cX11_readWord 14 = .ok (.istore_n 3, 1) := by decide +kernel
theorem dX11_readWord_15 : decode cX11_readWord 15 = .ok (.aload_n 0, 1) := by decide +kernel
theorem dX11_readWord_16 : decode cX11_readWord 16 = .ok (.getfield 48, 3) := by decide +kernel
theorem dX11_readWord_19 : decode cX11_readWord 19 = .ok (.iload_n 2, 1) := by decide +kernel
theorem dX11_readWord_20 : decode cX11_readWord 20 = .ok (.iconst 0, 1) := by decide +kernel
theorem dX11_readWord_21 : decode cX11_readWord 21 = .ok (.iastore, 1) := by decide +kernel
theorem dX11_readWord_22 : decode cX11_readWord 22 = .ok (.aload_n 0, 1) := by decide +kernel
theorem dX11_readWord_23 : decode cX11_readWord 23 = .ok (.getfield 51, 3) := by decide +kernel
theorem dX11_readWord_26 : decode cX11_readWord 26 = .ok (.iload_n 2, 1) := by decide +kernel
theorem dX11_readWord_27 : decode cX11_readWord 27 = .ok (.iconst 1, 1) := by decide +kernel
theorem dX11_readWord_28 : decode cX11_readWord 28 = .ok (.iastore, 1) := by decide +kernel
theorem dX11_readWord_29 : decode cX11_readWord 29 = .ok (.aload_n 0, 1) := by decide +kernel
theorem dX11_readWord_30 : decode cX11_readWord 30 = .ok (.getfield 54, 3) := by decide +kernel
theorem dX11_readWord_33 : decode cX11_readWord 33 = .ok (.iload_n 2, 1) := by decide +kernel
theorem dX11_readWord_34 : decode cX11_readWord 34 = .ok (.iconst 0, 1) := by decide +kernel
theorem dX11_readWord_35 : decode cX11_readWord 35 = .ok (.iastore, 1) := by decide +kernel
theorem dX11_readWord_36 : decode cX11_readWord 36 = .ok (.aload_n 0, 1) := by decide +kernel
theorem dX11_readWord_37 : decode cX11_readWord 37 = .ok (.iload_n 2, 1) := by decide +kernel
theorem dX11_readWord_38 : decode cX11_readWord 38 = .ok (.invokevirtual 174, 3) := by decide +kernel
theorem dX11_readWord_41 : decode cX11_readWord 41 = .ok (.istore 4, 2) := by decide +kernel
theorem dX11_readWord_43 : decode cX11_readWord 43 = .ok (.iload 4, 2) := by decide +kernel
theorem dX11_readWord_45 : decode cX11_readWord 45 = .ok (.ifCond .eq 38, 3) := by decide +kernel
theorem dX11_readWord_48 : decode cX11_readWord 48 = .ok (.aload_n 0, 1) := by decide +kernel
theorem dX11_readWord_49 : decode cX11_readWord 49 = .ok (.invokevirtual 155, 3) := by decide +kernel
theorem dX11_readWord_52 : decode cX11_readWord 52 = .ok (.i2l, 1) := by decide +kernel
theorem dX11_readWord_53 : decode cX11_readWord 53 = .ok (.ldc2_w 159, 3) := by decide +kernel
theorem dX11_readWord_56 : decode cX11_readWord 56 = .ok (.ldc2_w 161, 3) := by decide +kernel
theorem dX11_readWord_59 : decode cX11_readWord 59 = .ok (.invokestatic 131, 3) := by decide +kernel
theorem dX11_readWord_62 : decode cX11_readWord 62 = .ok (.ifCond .eq 15, 3) := by decide +kernel
theorem dX11_readWord_65 : decode cX11_readWord 65 = .ok (.aload_n 0, 1) := by decide +kernel
theorem dX11_readWord_66 : decode cX11_readWord 66 = .ok (.iload_n 2, 1) := by decide +kernel
theorem dX11_readWord_67 : decode cX11_readWord 67 = .ok (.invokevirtual 174, 3) := by decide +kernel
theorem dX11_readWord_70 : decode cX11_readWord 70 = .ok (.ifCond .eq 7, 3) := by decide +kernel
theorem dX11_readWord_73 : decode cX11_readWord 73 = .ok (.iconst 1, 1) := by decide +kernel
theorem dX11_readWord_74 : decode cX11_readWord 74 = .ok (.goto 4, 3) := by decide +kernel
theorem dX11_readWord_77 : decode cX11_readWord 77 = .ok (.iconst 0, 1) := by decide +kernel
theorem dX11_readWord_78 : decode cX11_readWord 78 = .ok (.istore 4, 2) := by decide +kernel
theorem dX11_readWord_80 : decode cX11_readWord 80 = .ok (.goto (-37), 3) := by decide +kernel
theorem dX11_readWord_83 : decode cX11_readWord 83 = .ok (.iconst 0, 1) := by decide +kernel
theorem dX11_readWord_84 : decode cX11_readWord 84 = .ok (.istore 5, 2) := by decide +kernel
theorem dX11_readWord_86 : decode cX11_readWord 86 = .ok (.iload 5, 2) := by decide +kernel
theorem dX11_readWord_88 : decode cX11_readWord 88 = .ok (.iload_n 2, 1) := by decide +kernel
theorem dX11_readWord_89 : decode cX11_readWord 89 = .ok (.if_icmp .ge 39, 3) := by decide +kernel
theorem dX11_readWord_92 : decode cX11_readWord 92 = .ok (.aload_n 0, 1) := by decide +kernel
theorem dX11_readWord_93 : decode cX11_readWord 93 = .ok (.getfield 152, 3) := by decide +kernel
theorem dX11_readWord_96 : decode cX11_readWord 96 = .ok (.ifCond .ne 32, 3) := by decide +kernel
theorem dX11_readWord_99 : decode cX11_readWord 99 = .ok (.aload_n 0, 1) := by decide +kernel
theorem dX11_readWord_100 : decode cX11_readWord 100 = .ok (.aload_n 0, 1) := by decide +kernel
theorem dX11_readWord_101 : decode cX11_readWord 101 = .ok (.iload 5, 2) := by decide +kernel
theorem dX11_readWord_103 : decode cX11_readWord 103 = .ok (.iload_n 2, 1) := by decide +kernel
theorem dX11_readWord_104 : decode cX11_readWord 104 = .ok (.invokevirtual 178, 3) := by decide +kernel
theorem dX11_readWord_107 : decode cX11_readWord 107 = .ok (.ifCond .ne 7, 3) := by decide +kernel
theorem dX11_readWord_110 : decode cX11_readWord 110 = .ok (.iconst 1, 1) := by decide +kernel
theorem dX11_readWord_111 : decode cX11_readWord 111 = .ok (.goto 4, 3) := by decide +kernel
theorem dX11_readWord_114 : decode cX11_readWord 114 = .ok (.iconst 0, 1) := by decide +kernel
theorem dX11_readWord_115 : decode cX11_readWord 115 = .ok (.iconst 4, 1) := by decide +kernel
theorem dX11_readWord_116 : decode cX11_readWord 116 = .ok (.iload_n 3, 1) := by decide +kernel
theorem dX11_readWord_117 : decode cX11_readWord 117 = .ok (.invokevirtual 163, 3) := by decide +kernel
theorem dX11_readWord_120 : decode cX11_readWord 120 = .ok (.istore 6, 2) := by decide +kernel
theorem dX11_readWord_122 : decode cX11_readWord 122 = .ok (.iinc 5 1, 3) := by decide +kernel
theorem dX11_readWord_125 : decode cX11_readWord 125 = .ok (.goto (-39), 3) := by decide +kernel
theorem dX11_readWord_128 : decode cX11_readWord 128 = .ok (.aload_n 0, 1) := by decide +kernel
theorem dX11_readWord_129 : decode cX11_readWord 129 = .ok (.getfield 152, 3) := by decide +kernel
theorem dX11_readWord_132 : decode cX11_readWord 132 = .ok (.ifCond .ne 32, 3) := by decide +kernel
theorem dX11_readWord_135 : decode cX11_readWord 135 = .ok (.aload_n 0, 1) := by decide +kernel
theorem dX11_readWord_136 : decode cX11_readWord 136 = .ok (.invokevirtual 155, 3) := by decide +kernel
theorem dX11_readWord_139 : decode cX11_readWord 139 = .ok (.bipush 58, 2) := by decide +kernel
theorem dX11_readWord_141 : decode cX11_readWord 141 = .ok (.if_icmp .ne 23, 3) := by decide +kernel
theorem dX11_readWord_144 : decode cX11_readWord 144 = .ok (.aload_n 0, 1) := by decide +kernel
theorem dX11_readWord_145 : decode cX11_readWord 145 = .ok (.dup, 1) := by decide +kernel
theorem dX11_readWord_146 : decode cX11_readWord 146 = .ok (.getfield 149, 3) := by decide +kernel
theorem dX11_readWord_149 : decode cX11_readWord 149 = .ok (.iconst 1, 1) := by decide +kernel
theorem dX11_readWord_150 : decode cX11_readWord 150 = .ok (.iadd, 1) := by decide +kernel
theorem dX11_readWord_151 : decode cX11_readWord 151 = .ok (.putfield 149, 3) := by decide +kernel
theorem dX11_readWord_154 : decode cX11_readWord 154 = .ok (.aload_n 0, 1) := by decide +kernel
theorem dX11_readWord_155 : decode cX11_readWord 155 = .ok (.getfield 51, 3) := by decide +kernel
theorem dX11_readWord_158 : decode cX11_readWord 158 = .ok (.iload_n 2, 1) := by decide +kernel
theorem dX11_readWord_159 : decode cX11_readWord 159 = .ok (.aload_n 0, 1) := by decide +kernel
theorem dX11_readWord_160 : decode cX11_readWord 160 = .ok (.invokevirtual 182, 3) := by decide +kernel
theorem dX11_readWord_163 : decode cX11_readWord 163 = .ok (.iastore, 1) := by decide +kernel
theorem dX11_readWord_164 : decode cX11_readWord 164 = .ok (.aload_n 0, 1) := by decide +kernel
theorem dX11_readWord_165 : decode cX11_readWord 165 = .ok (.getfield 152, 3) := by decide +kernel
theorem dX11_readWord_168 : decode cX11_readWord 168 = .ok (.ifCond .ne 143, 3) := by decide +kernel
theorem dX11_readWord_171 : decode cX11_readWord 171 = .ok (.aload_n 0, 1) := by decide +kernel
theorem dX11_readWord_172 : decode cX11_readWord 172 = .ok (.invokevirtual 155, 3) := by decide +kernel
theorem dX11_readWord_175 : decode cX11_readWord 175 = .ok (.bipush 47, 2) := by decide +kernel
theorem dX11_readWord_177 : decode cX11_readWord 177 = .ok (.if_icmp .ne 134, 3) := by decide +kernel
theorem dX11_readWord_180 : decode cX11_readWord 180 = .ok (.aload_n 0, 1) := by decide +kernel
theorem dX11_readWord_181 : decode cX11_readWord 181 = .ok (.dup, 1) := by decide +kernel
theorem dX11_readWord_182 : decode cX11_readWord 182 = .ok (.getfield 149, 3) := by decide +kernel
theorem dX11_readWord_185 : decode cX11_readWord 185 = .ok (.iconst 1, 1) := by decide +kernel
theorem dX11_readWord_186 : decode cX11_readWord 186 = .ok (.iadd, 1) := by decide +kernel
theorem dX11_readWord_187 : decode cX11_readWord 187 = .ok (.putfield 149, 3) := by decide +kernel
theorem dX11_readWord_190 : decode cX11_readWord 190 = .ok (.aload_n 0, 1) := by decide +kernel
theorem dX11_readWord_191 : decode cX11_readWord 191 = .ok (.invokevirtual 155, 3) := by decide +kernel
theorem dX11_readWord_194 : decode cX11_readWord 194 = .ok (.istore_n 1, 1) := by decide +kernel
theorem dX11_readWord_195 : decode cX11_readWord 195 = .ok (.aload_n 0, 1) := by decide +kernel
theorem dX11_readWord_196 : decode cX11_readWord 196 = .ok (.getfield 149, 3) := by decide +kernel
theorem dX11_readWord_199 : decode cX11_readWord 199 = .ok (.istore 5, 2) := by decide +kernel
theorem dX11_readWord_201 : decode cX11_readWord 201 = .ok (.aload_n 0, 1) := by decide +kernel
theorem dX11_readWord_202 : decode cX11_readWord 202 = .ok (.iload_n 1, 1) := by decide +kernel
theorem dX11_readWord_203 : decode cX11_readWord 203 = .ok (.i2l, 1) := by decide +kernel
theorem dX11_readWord_204 : decode cX11_readWord 204 = .ok (.ldc2_w 167, 3) := by decide +kernel
theorem dX11_readWord_207 : decode cX11_readWord 207 = .ok (.ldc2_w 169, 3) := by decide +kernel
theorem dX11_readWord_210 : decode cX11_readWord 210 = .ok (.invokestatic 131, 3) := by decide +kernel
theorem dX11_readWord_213 : decode cX11_readWord 213 = .ok (.iconst 1, 1) := by decide +kernel
theorem dX11_readWord_214 : decode cX11_readWord 214 = .ok (.aload_n 0, 1) := by decide +kernel
theorem dX11_readWord_215 : decode cX11_readWord 215 = .ok (.getfield 149, 3) := by decide +kernel
theorem dX11_readWord_218 : decode cX11_readWord 218 = .ok (.invokevirtual 163, 3) := by decide +kernel
theorem dX11_readWord_221 : decode cX11_readWord 221 = .ok (.ifCond .eq 90, 3) := by decide +kernel
theorem dX11_readWord_224 : decode cX11_readWord 224 = .ok (.aload_n 0, 1) := by decide +kernel
theorem dX11_readWord_225 : decode cX11_readWord 225 = .ok (.getfield 149, 3) := by decide +kernel
theorem dX11_readWord_228 : decode cX11_readWord 228 = .ok (.aload_n 0, 1) := by decide +kernel
theorem dX11_readWord_229 : decode cX11_readWord 229 = .ok (.getfield 144, 3) := by decide +kernel
theorem dX11_readWord_232 : decode cX11_readWord 232 = .ok (.if_icmp .ge 38, 3) := by decide +kernel
theorem dX11_readWord_235 : decode cX11_readWord 235 = .ok (.aload_n 0, 1) := by decide +kernel
theorem dX11_readWord_236 : decode cX11_readWord 236 = .ok (.getfield 38, 3) := by decide +kernel
theorem dX11_readWord_239 : decode cX11_readWord 239 = .ok (.aload_n 0, 1) := by decide +kernel
theorem dX11_readWord_240 : decode cX11_readWord 240 = .ok (.getfield 149, 3) := by decide +kernel
theorem dX11_readWord_243 : decode cX11_readWord 243 = .ok (.iaload, 1) := by decide +kernel
theorem dX11_readWord_244 : decode cX11_readWord 244 = .ok (.i2l, 1) := by decide +kernel
theorem dX11_readWord_245 : decode cX11_readWord 245 = .ok (.ldc2_w 167, 3) := by decide +kernel
theorem dX11_readWord_248 : decode cX11_readWord 248 = .ok (.ldc2_w 169, 3) := by decide +kernel
theorem dX11_readWord_251 : decode cX11_readWord 251 = .ok (.invokestatic 131, 3) := by decide +kernel
theorem dX11_readWord_254 : decode cX11_readWord 254 = .ok (.ifCond .eq 16, 3) := by decide +kernel
theorem dX11_readWord_257 : decode cX11_readWord 257 = .ok (.aload_n 0, 1) := by decide +kernel
theorem dX11_readWord_258 : decode cX11_readWord 258 = .ok (.dup, 1) := by decide +kernel
theorem dX11_readWord_259 : decode cX11_readWord 259 = .ok (.getfield 149, 3) := by decide +kernel
theorem dX11_readWord_262 : decode cX11_readWord 262 = .ok (.iconst 1, 1) := by decide +kernel
theorem dX11_readWord_263 : decode cX11_readWord 263 = .ok (.iadd, 1) := by decide +kernel
theorem dX11_readWord_264 : decode cX11_readWord 264 = .ok (.putfield 149, 3) := by decide +kernel
theorem dX11_readWord_267 : decode cX11_readWord 267 = .ok (.goto (-43), 3) := by decide +kernel
theorem dX11_readWord_270 : decode cX11_readWord 270 = .ok (.aload_n 0, 1) := by decide +kernel
theorem dX11_readWord_271 : decode cX11_readWord 271 = .ok (.getfield 54, 3) := by decide +kernel
theorem dX11_readWord_274 : decode cX11_readWord 274 = .ok (.iload_n 2, 1) := by decide +kernel
theorem dX11_readWord_275 : decode cX11_readWord 275 = .ok (.iload_n 1, 1) := by decide +kernel
theorem dX11_readWord_276 : decode cX11_readWord 276 = .ok (.bipush 48, 2) := by decide +kernel
theorem dX11_readWord_278 : decode cX11_readWord 278 = .ok (.isub, 1) := by decide +kernel
theorem dX11_readWord_279 : decode cX11_readWord 279 = .ok (.iastore, 1) := by decide +kernel
theorem dX11_readWord_280 : decode cX11_readWord 280 = .ok (.aload_n 0, 1) := by decide +kernel
theorem dX11_readWord_281 : decode cX11_readWord 281 = .ok (.aload_n 0, 1) := by decide +kernel
theorem dX11_readWord_282 : decode cX11_readWord 282 = .ok (.getfield 149, 3) := by decide +kernel
theorem dX11_readWord_285 : decode cX11_readWord 285 = .ok (.iload 5, 2) := by decide +kernel
theorem dX11_readWord_287 : decode cX11_readWord 287 = .ok (.iconst 1, 1) := by decide +kernel
theorem dX11_readWord_288 : decode cX11_readWord 288 = .ok (.iadd, 1) := by decide +kernel
theorem dX11_readWord_289 : decode cX11_readWord 289 = .ok (.if_icmp .ne 13, 3) := by decide +kernel
theorem dX11_readWord_292 : decode cX11_readWord 292 = .ok (.iload_n 1, 1) := by decide +kernel
theorem dX11_readWord_293 : decode cX11_readWord 293 = .ok (.bipush 52, 2) := by decide +kernel
theorem dX11_readWord_295 : decode cX11_readWord 295 = .ok (.if_icmp .ge 7, 3) := by decide +kernel
theorem dX11_readWord_298 : decode cX11_readWord 298 = .ok (.iconst 1, 1) := by decide +kernel
theorem dX11_readWord_299 : decode cX11_readWord 299 = .ok (.goto 4, 3) := by decide +kernel
theorem dX11_readWord_302 : decode cX11_readWord 302 = .ok (.iconst 0, 1) := by decide +kernel
theorem dX11_readWord_303 : decode cX11_readWord 303 = .ok (.iconst 2, 1) := by decide +kernel
theorem dX11_readWord_304 : decode cX11_readWord 304 = .ok (.iload 5, 2) := by decide +kernel
theorem dX11_readWord_306 : decode cX11_readWord 306 = .ok (.invokevirtual 163, 3) := by decide +kernel
theorem dX11_readWord_309 : decode cX11_readWord 309 = .ok (.istore 6, 2) := by decide +kernel
theorem dX11_readWord_311 : decode cX11_readWord 311 = .ok (.aload_n 0, 1) := by decide +kernel
theorem dX11_readWord_312 : decode cX11_readWord 312 = .ok (.getfield 152, 3) := by decide +kernel
theorem dX11_readWord_315 : decode cX11_readWord 315 = .ok (.ifCond .ne 51, 3) := by decide +kernel
theorem dX11_readWord_318 : decode cX11_readWord 318 = .ok (.aload_n 0, 1) := by decide +kernel
theorem dX11_readWord_319 : decode cX11_readWord 319 = .ok (.invokevirtual 155, 3) := by decide +kernel
theorem dX11_readWord_322 : decode cX11_readWord 322 = .ok (.istore_n 1, 1) := by decide +kernel
theorem dX11_readWord_323 : decode cX11_readWord 323 = .ok (.aload_n 0, 1) := by decide +kernel
theorem dX11_readWord_324 : decode cX11_readWord 324 = .ok (.iload_n 1, 1) := by decide +kernel
theorem dX11_readWord_325 : decode cX11_readWord 325 = .ok (.bipush 59, 2) := by decide +kernel
theorem dX11_readWord_327 : decode cX11_readWord 327 = .ok (.if_icmp .ne 7, 3) := by decide +kernel
theorem dX11_readWord_330 : decode cX11_readWord 330 = .ok (.iconst 1, 1) := by decide +kernel
theorem dX11_readWord_331 : decode cX11_readWord 331 = .ok (.goto 4, 3) := by decide +kernel
theorem dX11_readWord_334 : decode cX11_readWord 334 = .ok (.iconst 0, 1) := by decide +kernel
theorem dX11_readWord_335 : decode cX11_readWord 335 = .ok (.iconst 1, 1) := by decide +kernel
theorem dX11_readWord_336 : decode cX11_readWord 336 = .ok (.aload_n 0, 1) := by decide +kernel
theorem dX11_readWord_337 : decode cX11_readWord 337 = .ok (.getfield 149, 3) := by decide +kernel
theorem dX11_readWord_340 : decode cX11_readWord 340 = .ok (.invokevirtual 163, 3) := by decide +kernel
theorem dX11_readWord_343 : decode cX11_readWord 343 = .ok (.ifCond .eq 23, 3) := by decide +kernel
theorem dX11_readWord_346 : decode cX11_readWord 346 = .ok (.aload_n 0, 1) := by decide +kernel
theorem dX11_readWord_347 : decode cX11_readWord 347 = .ok (.dup, 1) := by decide +kernel
theorem dX11_readWord_348 : decode cX11_readWord 348 = .ok (.getfield 149, 3) := by decide +kernel
theorem dX11_readWord_351 : decode cX11_readWord 351 = .ok (.iconst 1, 1) := by decide +kernel
theorem dX11_readWord_352 : decode cX11_readWord 352 = .ok (.iadd, 1) := by decide +kernel
theorem dX11_readWord_353 : decode cX11_readWord 353 = .ok (.putfield 149, 3) := by decide +kernel
theorem dX11_readWord_356 : decode cX11_readWord 356 = .ok (.aload_n 0, 1) := by decide +kernel
theorem dX11_readWord_357 : decode cX11_readWord 357 = .ok (.dup, 1) := by decide +kernel
theorem dX11_readWord_358 : decode cX11_readWord 358 = .ok (.getfield 171, 3) := by decide +kernel
theorem dX11_readWord_361 : decode cX11_readWord 361 = .ok (.iconst 1, 1) := by decide +kernel
theorem dX11_readWord_362 : decode cX11_readWord 362 = .ok (.iadd, 1) := by decide +kernel
theorem dX11_readWord_363 : decode cX11_readWord 363 = .ok (.putfield 171, 3) := by decide +kernel
theorem dX11_readWord_366 : decode cX11_readWord 366 = .ok (.return_, 1) := by decide +kernel
theorem dX11_read_0 : decode cX11_read 0 = .ok (.aload_n 0, 1) := by decide +kernel
theorem dX11_read_1 : decode cX11_read 1 = .ok (.iconst 0, 1) := by decide +kernel
theorem dX11_read_2 : decode cX11_read 2 = .ok (.putfield 149, 3) := by decide +kernel
theorem dX11_read_5 : decode cX11_read 5 = .ok (.aload_n 0, 1) := by decide +kernel
theorem dX11_read_6 : decode cX11_read 6 = .ok (.iconst 0, 1) := by decide +kernel
theorem dX11_read_7 : decode cX11_read 7 = .ok (.putfield 152, 3) := by decide +kernel
theorem dX11_read_10 : decode cX11_read 10 = .ok (.aload_n 0, 1) := by decide +kernel
theorem dX11_read_11 : decode cX11_read 11 = .ok (.iconst (-1), 1) := by decide +kernel
theorem dX11_read_12 : decode cX11_read 12 = .ok (.putfield 41, 3) := by decide +kernel
theorem dX11_read_15 : decode cX11_read 15 = .ok (.aload_n 0, 1) := by decide +kernel
theorem dX11_read_16 : decode cX11_read 16 = .ok (.iconst 0, 1) := by decide +kernel
theorem dX11_read_17 : decode cX11_read 17 = .ok (.putfield 171, 3) := by decide +kernel
theorem dX11_read_20 : decode cX11_read 20 = .ok (.aload_n 0, 1) := by decide +kernel
theorem dX11_read_21 : decode cX11_read 21 = .ok (.getfield 152, 3) := by decide +kernel
theorem dX11_read_24 : decode cX11_read 24 = .ok (.ifCond .ne 17, 3) := by decide +kernel
theorem dX11_read_27 : decode cX11_read 27 = .ok (.aload_n 0, 1) := by decide +kernel
theorem dX11_read_28 : decode cX11_read 28 = .ok (.invokevirtual 155, 3) := by decide +kernel
theorem dX11_read_31 : decode cX11_read 31 = .ok (.ifCond .lt 10, 3) := by decide +kernel
theorem dX11_read_34 : decode cX11_read 34 = .ok (.aload_n 0, 1) := by decide +kernel
theorem dX11_read_35 : decode cX11_read 35 = .ok (.invokevirtual 185, 3) := by decide +kernel
theorem dX11_read_38 : decode cX11_read 38 = .ok (.goto (-18), 3) := by decide +kernel
theorem dX11_read_41 : decode cX11_read 41 = .ok (.aload_n 0, 1) := by decide +kernel
theorem dX11_read_42 : decode cX11_read 42 = .ok (.iconst 0, 1) := by decide +kernel
theorem dX11_read_43 : decode cX11_read 43 = .ok (.putfield 144, 3) := by decide +kernel
theorem dX11_read_46 : decode cX11_read 46 = .ok (.aload_n 0, 1) := by decide +kernel
theorem dX11_read_47 : decode cX11_read 47 = .ok (.getfield 152, 3) := by decide +kernel
theorem dX11_read_50 : decode cX11_read 50 = .ok (.ifCond .le 11, 3) := by decide +kernel
theorem dX11_read_53 : decode cX11_read 53 = .ok (.bipush (-10), 2) := by decide +kernel
theorem dX11_read_55 : decode cX11_read 55 = .ok (.aload_n 0, 1) := by decide +kernel
theorem dX11_read_56 : decode cX11_read 56 = .ok (.getfield 152, 3) := by decide +kernel
theorem dX11_read_59 : decode cX11_read 59 = .ok (.isub, 1) := by decide +kernel
theorem dX11_read_60 : decode cX11_read 60 = .ok (.ireturn, 1) := by decide +kernel
theorem dX11_read_61 : decode cX11_read 61 = .ok (.aload_n 0, 1) := by decide +kernel
theorem dX11_read_62 : decode cX11_read 62 = .ok (.aload_n 0, 1) := by decide +kernel
theorem dX11_read_63 : decode cX11_read 63 = .ok (.getfield 171, 3) := by decide +kernel
theorem dX11_read_66 : decode cX11_read 66 = .ok (.putfield 135, 3) := by decide +kernel
theorem dX11_read_69 : decode cX11_read 69 = .ok (.iconst 0, 1) := by decide +kernel
theorem dX11_read_70 : decode cX11_read 70 = .ok (.istore_n 1, 1) := by decide +kernel
theorem dX11_read_71 : decode cX11_read 71 = .ok (.iload_n 1, 1) := by decide +kernel
theorem dX11_read_72 : decode cX11_read 72 = .ok (.aload_n 0, 1) := by decide +kernel
theorem dX11_read_73 : decode cX11_read 73 = .ok (.getfield 135, 3) := by decide +kernel
theorem dX11_read_76 : decode cX11_read 76 = .ok (.if_icmp .ge 85, 3) := by decide +kernel
theorem dX11_read_79 : decode cX11_read 79 = .ok (.aload_n 0, 1) := by decide +kernel
theorem dX11_read_80 : decode cX11_read 80 = .ok (.getfield 13, 3) := by decide +kernel
theorem dX11_read_83 : decode cX11_read 83 = .ok (.iload_n 1, 1) := by decide +kernel
theorem dX11_read_84 : decode cX11_read 84 = .ok (.aload_n 0, 1) := by decide +kernel
theorem dX11_read_85 : decode cX11_read 85 = .ok (.getfield 48, 3) := by decide +kernel
theorem dX11_read_88 : decode cX11_read 88 = .ok (.iload_n 1, 1) := by decide +kernel
theorem dX11_read_89 : decode cX11_read 89 = .ok (.iaload, 1) := by decide +kernel
theorem dX11_read_90 : decode cX11_read 90 = .ok (.iastore, 1) := by decide +kernel
theorem dX11_read_91 : decode cX11_read 91 = .ok (.aload_n 0, 1) := by decide +kernel
theorem dX11_read_92 : decode cX11_read 92 = .ok (.getfield 16, 3) := by decide +kernel
theorem dX11_read_95 : decode cX11_read 95 = .ok (.iload_n 1, 1) := by decide +kernel
theorem dX11_read_96 : decode cX11_read 96 = .ok (.aload_n 0, 1) := by decide +kernel
theorem dX11_read_97 : decode cX11_read 97 = .ok (.getfield 51, 3) := by decide +kernel
theorem dX11_read_100 : decode cX11_read 100 = .ok (.iload_n 1, 1) := by decide +kernel
theorem dX11_read_101 : decode cX11_read 101 = .ok (.iaload, 1) := by decide +kernel
theorem dX11_read_102 : decode cX11_read 102 = .ok (.iastore, 1) := by decide +kernel
theorem dX11_read_103 : decode cX11_read 103 = .ok (.aload_n 0, 1) := by decide +kernel
theorem dX11_read_104 : decode cX11_read 104 = .ok (.getfield 19, 3) := by decide +kernel
theorem dX11_read_107 : decode cX11_read 107 = .ok (.iload_n 1, 1) := by decide +kernel
theorem dX11_read_108 : decode cX11_read 108 = .ok (.aload_n 0, 1) := by decide +kernel
theorem dX11_read_109 : decode cX11_read 109 = .ok (.getfield 54, 3) := by decide +kernel
theorem dX11_read_112 : decode cX11_read 112 = .ok (.iload_n 1, 1) := by decide +kernel
theorem dX11_read_113 : decode cX11_read 113 = .ok (.iaload, 1) := by decide +kernel
theorem dX11_read_114 : decode cX11_read 114 = .ok (.iastore, 1) := by decide +kernel
theorem dX11_read_115 : decode cX11_read 115 = .ok (.iconst 0, 1) := by decide +kernel
theorem dX11_read_116 : decode cX11_read 116 = .ok (.istore_n 2, 1) := by decide +kernel
theorem dX11_read_117 : decode cX11_read 117 = .ok (.iload_n 2, 1) := by decide +kernel
theorem dX11_read_118 : decode cX11_read 118 = .ok (.aload_n 0, 1) := by decide +kernel
theorem dX11_read_119 : decode cX11_read 119 = .ok (.getfield 13, 3) := by decide +kernel
theorem dX11_read_122 : decode cX11_read 122 = .ok (.iload_n 1, 1) := by decide +kernel
theorem dX11_read_123 : decode cX11_read 123 = .ok (.iaload, 1) := by decide +kernel
theorem dX11_read_124 : decode cX11_read 124 = .ok (.if_icmp .ge 31, 3) := by decide +kernel
theorem dX11_read_127 : decode cX11_read 127 = .ok (.aload_n 0, 1) := by decide +kernel
theorem dX11_read_128 : decode cX11_read 128 = .ok (.getfield 7, 3) := by decide +kernel
theorem dX11_read_131 : decode cX11_read 131 = .ok (.bipush 8, 2) := by decide +kernel
theorem dX11_read_133 : decode cX11_read 133 = .ok (.iload_n 1, 1) := by decide +kernel
theorem dX11_read_134 : decode cX11_read 134 = .ok (.imul, 1) := by decide +kernel
theorem dX11_read_135 : decode cX11_read 135 = .ok (.iload_n 2, 1) := by decide +kernel
theorem dX11_read_136 : decode cX11_read 136 = .ok (.iadd, 1) := by decide +kernel
theorem dX11_read_137 : decode cX11_read 137 = .ok (.aload_n 0, 1) := by decide +kernel
theorem dX11_read_138 : decode cX11_read 138 = .ok (.getfield 45, 3) := by decide +kernel
theorem dX11_read_141 : decode cX11_read 141 = .ok (.bipush 8, 2) := by decide +kernel
theorem dX11_read_143 : decode cX11_read 143 = .ok (.iload_n 1, 1) := by decide +kernel
theorem dX11_read_144 : decode cX11_read 144 = .ok (.imul, 1) := by decide +kernel
theorem dX11_read_145 : decode cX11_read 145 = .ok (.iload_n 2, 1) := by decide +kernel
theorem dX11_read_146 : decode cX11_read 146 = .ok (.iadd, 1) := by decide +kernel
theorem dX11_read_147 : decode cX11_read 147 = .ok (.iaload, 1) := by decide +kernel
theorem dX11_read_148 : decode cX11_read 148 = .ok (.iastore, 1) := by decide +kernel
theorem dX11_read_149 : decode cX11_read 149 = .ok (.iinc 2 1, 3) := by decide +kernel
theorem dX11_read_152 : decode cX11_read 152 = .ok (.goto (-35), 3) := by decide +kernel
theorem dX11_read_155 : decode cX11_read 155 = .ok (.iinc 1 1, 3) := by decide +kernel
theorem dX11_read_158 : decode cX11_read 158 = .ok (.goto (-87), 3) := by decide +kernel
theorem dX11_read_161 : decode cX11_read 161 = .ok (.aload_n 0, 1) := by decide +kernel
theorem dX11_read_162 : decode cX11_read 162 = .ok (.getfield 135, 3) := by decide +kernel
theorem dX11_read_165 : decode cX11_read 165 = .ok (.ireturn, 1) := by decide +kernel
theorem dX11_fault_0 : decode cX11_fault 0 = .ok (.aload_n 0, 1) := by decide +kernel
theorem dX11_fault_1 : decode cX11_fault 1 = .ok (.getfield 41, 3) := by decide +kernel
theorem dX11_fault_4 : decode cX11_fault 4 = .ok (.ireturn, 1) := by decide +kernel
theorem dX11_noWord_0 : decode cX11_noWord 0 = .ok (.iload_n 1, 1) := by decide +kernel
theorem dX11_noWord_1 : decode cX11_noWord 1 = .ok (.i2l, 1) := by decide +kernel
theorem dX11_noWord_2 : decode cX11_noWord 2 = .ok (.lconst 0, 1) := by decide +kernel
theorem dX11_noWord_3 : decode cX11_noWord 3 = .ok (.aload_n 0, 1) := by decide +kernel
theorem dX11_noWord_4 : decode cX11_noWord 4 = .ok (.getfield 135, 3) := by decide +kernel
theorem dX11_noWord_7 : decode cX11_noWord 7 = .ok (.iconst 1, 1) := by decide +kernel
theorem dX11_noWord_8 : decode cX11_noWord 8 = .ok (.isub, 1) := by decide +kernel
theorem dX11_noWord_9 : decode cX11_noWord 9 = .ok (.i2l, 1) := by decide +kernel
theorem dX11_noWord_10 : decode cX11_noWord 10 = .ok (.invokestatic 131, 3) := by decide +kernel
theorem dX11_noWord_13 : decode cX11_noWord 13 = .ok (.ifCond .ne 7, 3) := by decide +kernel
theorem dX11_noWord_16 : decode cX11_noWord 16 = .ok (.iconst 1, 1) := by decide +kernel
theorem dX11_noWord_17 : decode cX11_noWord 17 = .ok (.goto 4, 3) := by decide +kernel
theorem dX11_noWord_20 : decode cX11_noWord 20 = .ok (.iconst 0, 1) := by decide +kernel
theorem dX11_noWord_21 : decode cX11_noWord 21 = .ok (.ireturn, 1) := by decide +kernel
theorem dX11_word_0 : decode cX11_word 0 = .ok (.aload_n 0, 1) := by decide +kernel
theorem dX11_word_1 : decode cX11_word 1 = .ok (.iload_n 1, 1) := by decide +kernel
theorem dX11_word_2 : decode cX11_word 2 = .ok (.invokevirtual 188, 3) := by decide +kernel
theorem dX11_word_5 : decode cX11_word 5 = .ok (.ifCond .eq 7, 3) := by decide +kernel
theorem dX11_word_8 : decode cX11_word 8 = .ok (.sipush (-1001), 3) := by decide +kernel
theorem dX11_word_11 : decode cX11_word 11 = .ok (.ireturn, 1) := by decide +kernel
theorem dX11_word_12 : decode cX11_word 12 = .ok (.iload_n 2, 1) := by decide +kernel
theorem dX11_word_13 : decode cX11_word 13 = .ok (.i2l, 1) := by decide +kernel
theorem dX11_word_14 : decode cX11_word 14 = .ok (.lconst 0, 1) := by decide +kernel
theorem dX11_word_15 : decode cX11_word 15 = .ok (.ldc2_w 191, 3) := by decide +kernel
theorem dX11_word_18 : decode cX11_word 18 = .ok (.invokestatic 131, 3) := by decide +kernel
theorem dX11_word_21 : decode cX11_word 21 = .ok (.ifCond .ne 7, 3) := by decide +kernel
theorem dX11_word_24 : decode cX11_word 24 = .ok (.sipush (-1002), 3) := by decide +kernel
theorem dX11_word_27 : decode cX11_word 27 = .ok (.ireturn, 1) := by decide +kernel
theorem dX11_word_28 : decode cX11_word 28 = .ok (.iload_n 2, 1) := by decide +kernel
theorem dX11_word_29 : decode cX11_word 29 = .ok (.ifCond .ne 12, 3) := by decide +kernel
theorem dX11_word_32 : decode cX11_word 32 = .ok (.aload_n 0, 1) := by decide +kernel
theorem dX11_word_33 : decode cX11_word 33 = .ok (.getfield 16, 3) := by decide +kernel
theorem dX11_word_36 : decode cX11_word 36 = .ok (.iload_n 1, 1) := by decide +kernel
theorem dX11_word_37 : decode cX11_word 37 = .ok (.iaload, 1) := by decide +kernel
theorem dX11_word_38 : decode cX11_word 38 = .ok (.goto 60, 3) := by decide +kernel
theorem dX11_word_41 : decode cX11_word 41 = .ok (.iload_n 2, 1) := by decide +kernel
theorem dX11_word_42 : decode cX11_word 42 = .ok (.iconst 1, 1) := by decide +kernel
theorem dX11_word_43 : decode cX11_word 43 = .ok (.if_icmp .ne 12, 3) := by decide +kernel
theorem dX11_word_46 : decode cX11_word 46 = .ok (.aload_n 0, 1) := by decide +kernel
theorem dX11_word_47 : decode cX11_word 47 = .ok (.getfield 19, 3) := by decide +kernel
theorem dX11_word_50 : decode cX11_word 50 = .ok (.iload_n 1, 1) := by decide +kernel
theorem dX11_word_51 : decode cX11_word 51 = .ok (.iaload, 1) := by decide +kernel
theorem dX11_word_52 : decode cX11_word 52 = .ok (.goto 46, 3) := by decide +kernel
theorem dX11_word_55 : decode cX11_word 55 = .ok (.iload_n 2, 1) := by decide +kernel
theorem dX11_word_56 : decode cX11_word 56 = .ok (.iconst 2, 1) := by decide +kernel
theorem dX11_word_57 : decode cX11_word 57 = .ok (.if_icmp .ne 12, 3) := by decide +kernel
theorem dX11_word_60 : decode cX11_word 60 = .ok (.aload_n 0, 1) := by decide +kernel
theorem dX11_word_61 : decode cX11_word 61 = .ok (.getfield 13, 3) := by decide +kernel
theorem dX11_word_64 : decode cX11_word 64 = .ok (.iload_n 1, 1) := by decide +kernel
theorem dX11_word_65 : decode cX11_word 65 = .ok (.iaload, 1) := by decide +kernel
theorem dX11_word_66 : decode cX11_word 66 = .ok (.goto 32, 3) := by decide +kernel
theorem dX11_word_69 : decode cX11_word 69 = .ok (.iload_n 2, 1) := by decide +kernel
theorem dX11_word_70 : decode cX11_word 70 = .ok (.iconst 3, 1) := by decide +kernel
theorem dX11_word_71 : decode cX11_word 71 = .ok (.isub, 1) := by decide +kernel
theorem dX11_word_72 : decode cX11_word 72 = .ok (.aload_n 0, 1) := by decide +kernel
theorem dX11_word_73 : decode cX11_word 73 = .ok (.getfield 13, 3) := by decide +kernel
theorem dX11_word_76 : decode cX11_word 76 = .ok (.iload_n 1, 1) := by decide +kernel
theorem dX11_word_77 : decode cX11_word 77 = .ok (.iaload, 1) := by decide +kernel
theorem dX11_word_78 : decode cX11_word 78 = .ok (.if_icmp .ge 19, 3) := by decide +kernel
theorem dX11_word_81 : decode cX11_word 81 = .ok (.aload_n 0, 1) := by decide +kernel
theorem dX11_word_82 : decode cX11_word 82 = .ok (.getfield 7, 3) := by decide +kernel
theorem dX11_word_85 : decode cX11_word 85 = .ok (.bipush 8, 2) := by decide +kernel
theorem dX11_word_87 : decode cX11_word 87 = .ok (.iload_n 1, 1) := by decide +kernel
theorem dX11_word_88 : decode cX11_word 88 = .ok (.imul, 1) := by decide +kernel
theorem dX11_word_89 : decode cX11_word 89 = .ok (.iload_n 2, 1) := by decide +kernel
theorem dX11_word_90 : decode cX11_word 90 = .ok (.iadd, 1) := by decide +kernel
theorem dX11_word_91 : decode cX11_word 91 = .ok (.iconst 3, 1) := by decide +kernel
theorem dX11_word_92 : decode cX11_word 92 = .ok (.isub, 1) := by decide +kernel
theorem dX11_word_93 : decode cX11_word 93 = .ok (.iaload, 1) := by decide +kernel
theorem dX11_word_94 : decode cX11_word 94 = .ok (.goto 4, 3) := by decide +kernel
theorem dX11_word_97 : decode cX11_word 97 = .ok (.iconst (-1), 1) := by decide +kernel
theorem dX11_word_98 : decode cX11_word 98 = .ok (.ireturn, 1) := by decide +kernel
theorem dX11_follows_0 : decode cX11_follows 0 = .ok (.iload_n 1, 1) := by decide +kernel
theorem dX11_follows_1 : decode cX11_follows 1 = .ok (.i2l, 1) := by decide +kernel
theorem dX11_follows_2 : decode cX11_follows 2 = .ok (.lconst 0, 1) := by decide +kernel
theorem dX11_follows_3 : decode cX11_follows 3 = .ok (.ldc2_w 193, 3) := by decide +kernel
theorem dX11_follows_6 : decode cX11_follows 6 = .ok (.invokestatic 131, 3) := by decide +kernel
theorem dX11_follows_9 : decode cX11_follows 9 = .ok (.ifCond .eq 15, 3) := by decide +kernel
theorem dX11_follows_12 : decode cX11_follows 12 = .ok (.iload_n 2, 1) := by decide +kernel
theorem dX11_follows_13 : decode cX11_follows 13 = .ok (.i2l, 1) := by decide +kernel
theorem dX11_follows_14 : decode cX11_follows 14 = .ok (.lconst 0, 1) := by decide +kernel
theorem dX11_follows_15 : decode cX11_follows 15 = .ok (.ldc2_w 193, 3) := by decide +kernel
theorem dX11_follows_18 : decode cX11_follows 18 = .ok (.invokestatic 131, 3) := by decide +kernel
theorem dX11_follows_21 : decode cX11_follows 21 = .ok (.ifCond .ne 7, 3) := by decide +kernel
theorem dX11_follows_24 : decode cX11_follows 24 = .ok (.sipush (-1002), 3) := by decide +kernel
theorem dX11_follows_27 : decode cX11_follows 27 = .ok (.ireturn, 1) := by decide +kernel
theorem dX11_follows_28 : decode cX11_follows 28 = .ok (.aload_n 0, 1) := by decide +kernel
theorem dX11_follows_29 : decode cX11_follows 29 = .ok (.getfield 22, 3) := by decide +kernel
theorem dX11_follows_32 : decode cX11_follows 32 = .ok (.iconst 4, 1) := by decide +kernel
theorem dX11_follows_33 : decode cX11_follows 33 = .ok (.iload_n 1, 1) := by decide +kernel
theorem dX11_follows_34 : decode cX11_follows 34 = .ok (.imul, 1) := by decide +kernel
theorem dX11_follows_35 : decode cX11_follows 35 = .ok (.iload_n 2, 1) := by decide +kernel
theorem dX11_follows_36 : decode cX11_follows 36 = .ok (.iadd, 1) := by decide +kernel
theorem dX11_follows_37 : decode cX11_follows 37 = .ok (.baload, 1) := by decide +kernel
theorem dX11_follows_38 : decode cX11_follows 38 = .ok (.invokestatic 195, 3) := by decide +kernel
theorem dX11_follows_41 : decode cX11_follows 41 = .ok (.istore 4, 2) := by decide +kernel
theorem dX11_follows_43 : decode cX11_follows 43 = .ok (.aload_n 0, 1) := by decide +kernel
theorem dX11_follows_44 : decode cX11_follows 44 = .ok (.getfield 22, 3) := by decide +kernel
theorem dX11_follows_47 : decode cX11_follows 47 = .ok (.iconst 4, 1) := by decide +kernel
theorem dX11_follows_48 : decode cX11_follows 48 = .ok (.iload_n 1, 1) := by decide +kernel
theorem dX11_follows_49 : decode cX11_follows 49 = .ok (.imul, 1) := by decide +kernel
theorem dX11_follows_50 : decode cX11_follows 50 = .ok (.iload_n 2, 1) := by decide +kernel
theorem dX11_follows_51 : decode cX11_follows 51 = .ok (.iadd, 1) := by decide +kernel
theorem dX11_follows_52 : decode cX11_follows 52 = .ok (.iload_n 3, 1) := by decide +kernel
theorem dX11_follows_53 : decode cX11_follows 53 = .ok (.bastore, 1) := by decide +kernel
theorem dX11_follows_54 : decode cX11_follows 54 = .ok (.iload 4, 2) := by decide +kernel
theorem dX11_follows_56 : decode cX11_follows 56 = .ok (.ireturn, 1) := by decide +kernel
theorem dX11_count_0 : decode cX11_count 0 = .ok (.iload_n 1, 1) := by decide +kernel
theorem dX11_count_1 : decode cX11_count 1 = .ok (.tableswitch 60 0 4 #[35, 40, 45, 50, 55], 35) := by decide +kernel
theorem dX11_count_36 : decode cX11_count 36 = .ok (.aload_n 0, 1) := by decide +kernel
theorem dX11_count_37 : decode cX11_count 37 = .ok (.getfield 124, 3) := by decide +kernel
theorem dX11_count_40 : decode cX11_count 40 = .ok (.ireturn, 1) := by decide +kernel
theorem dX11_count_41 : decode cX11_count 41 = .ok (.aload_n 0, 1) := by decide +kernel
theorem dX11_count_42 : decode cX11_count 42 = .ok (.getfield 135, 3) := by decide +kernel
theorem dX11_count_45 : decode cX11_count 45 = .ok (.ireturn, 1) := by decide +kernel
theorem dX11_count_46 : decode cX11_count 46 = .ok (.aload_n 0, 1) := by decide +kernel
theorem dX11_count_47 : decode cX11_count 47 = .ok (.getfield 141, 3) := by decide +kernel
theorem dX11_count_50 : decode cX11_count 50 = .ok (.ireturn, 1) := by decide +kernel
theorem dX11_count_51 : decode cX11_count 51 = .ok (.aload_n 0, 1) := by decide +kernel
theorem dX11_count_52 : decode cX11_count 52 = .ok (.getfield 144, 3) := by decide +kernel
theorem dX11_count_55 : decode cX11_count 55 = .ok (.ireturn, 1) := by decide +kernel
theorem dX11_count_56 : decode cX11_count 56 = .ok (.aload_n 0, 1) := by decide +kernel
theorem dX11_count_57 : decode cX11_count 57 = .ok (.getfield 138, 3) := by decide +kernel
theorem dX11_count_60 : decode cX11_count 60 = .ok (.ireturn, 1) := by decide +kernel
theorem dX11_count_61 : decode cX11_count 61 = .ok (.sipush (-1002), 3) := by decide +kernel
theorem dX11_count_64 : decode cX11_count 64 = .ok (.ireturn, 1) := by decide +kernel
theorem dX11_letter_0 : decode cX11_letter 0 = .ok (.iload_n 1, 1) := by decide +kernel
theorem dX11_letter_1 : decode cX11_letter 1 = .ok (.i2l, 1) := by decide +kernel
theorem dX11_letter_2 : decode cX11_letter 2 = .ok (.lconst 0, 1) := by decide +kernel
theorem dX11_letter_3 : decode cX11_letter 3 = .ok (.aload_n 0, 1) := by decide +kernel
theorem dX11_letter_4 : decode cX11_letter 4 = .ok (.getfield 124, 3) := by decide +kernel
theorem dX11_letter_7 : decode cX11_letter 7 = .ok (.iconst 1, 1) := by decide +kernel
theorem dX11_letter_8 : decode cX11_letter 8 = .ok (.isub, 1) := by decide +kernel
theorem dX11_letter_9 : decode cX11_letter 9 = .ok (.i2l, 1) := by decide +kernel
theorem dX11_letter_10 : decode cX11_letter 10 = .ok (.invokestatic 131, 3) := by decide +kernel
theorem dX11_letter_13 : decode cX11_letter 13 = .ok (.ifCond .ne 7, 3) := by decide +kernel
theorem dX11_letter_16 : decode cX11_letter 16 = .ok (.sipush (-1002), 3) := by decide +kernel
theorem dX11_letter_19 : decode cX11_letter 19 = .ok (.ireturn, 1) := by decide +kernel
theorem dX11_letter_20 : decode cX11_letter 20 = .ok (.aload_n 0, 1) := by decide +kernel
theorem dX11_letter_21 : decode cX11_letter 21 = .ok (.getfield 141, 3) := by decide +kernel
theorem dX11_letter_24 : decode cX11_letter 24 = .ok (.bipush 48, 2) := by decide +kernel
theorem dX11_letter_26 : decode cX11_letter 26 = .ok (.if_icmp .ne 7, 3) := by decide +kernel
theorem dX11_letter_29 : decode cX11_letter 29 = .ok (.sipush (-1004), 3) := by decide +kernel
theorem dX11_letter_32 : decode cX11_letter 32 = .ok (.ireturn, 1) := by decide +kernel
theorem dX11_letter_33 : decode cX11_letter 33 = .ok (.aload_n 0, 1) := by decide +kernel
theorem dX11_letter_34 : decode cX11_letter 34 = .ok (.getfield 29, 3) := by decide +kernel
theorem dX11_letter_37 : decode cX11_letter 37 = .ok (.aload_n 0, 1) := by decide +kernel
theorem dX11_letter_38 : decode cX11_letter 38 = .ok (.getfield 141, 3) := by decide +kernel
theorem dX11_letter_41 : decode cX11_letter 41 = .ok (.iload_n 1, 1) := by decide +kernel
theorem dX11_letter_42 : decode cX11_letter 42 = .ok (.iastore, 1) := by decide +kernel
theorem dX11_letter_43 : decode cX11_letter 43 = .ok (.aload_n 0, 1) := by decide +kernel
theorem dX11_letter_44 : decode cX11_letter 44 = .ok (.dup, 1) := by decide +kernel
theorem dX11_letter_45 : decode cX11_letter 45 = .ok (.getfield 141, 3) := by decide +kernel
theorem dX11_letter_48 : decode cX11_letter 48 = .ok (.iconst 1, 1) := by decide +kernel
theorem dX11_letter_49 : decode cX11_letter 49 = .ok (.iadd, 1) := by decide +kernel
theorem dX11_letter_50 : decode cX11_letter 50 = .ok (.putfield 141, 3) := by decide +kernel
theorem dX11_letter_53 : decode cX11_letter 53 = .ok (.aload_n 0, 1) := by decide +kernel
theorem dX11_letter_54 : decode cX11_letter 54 = .ok (.getfield 141, 3) := by decide +kernel
theorem dX11_letter_57 : decode cX11_letter 57 = .ok (.ireturn, 1) := by decide +kernel
theorem dX11_append_0 : decode cX11_append 0 = .ok (.aload_n 0, 1) := by decide +kernel
theorem dX11_append_1 : decode cX11_append 1 = .ok (.iload_n 1, 1) := by decide +kernel
theorem dX11_append_2 : decode cX11_append 2 = .ok (.invokevirtual 188, 3) := by decide +kernel
theorem dX11_append_5 : decode cX11_append 5 = .ok (.ifCond .eq 7, 3) := by decide +kernel
theorem dX11_append_8 : decode cX11_append 8 = .ok (.sipush (-1001), 3) := by decide +kernel
theorem dX11_append_11 : decode cX11_append 11 = .ok (.ireturn, 1) := by decide +kernel
theorem dX11_append_12 : decode cX11_append 12 = .ok (.aload_n 0, 1) := by decide +kernel
theorem dX11_append_13 : decode cX11_append 13 = .ok (.getfield 141, 3) := by decide +kernel
theorem dX11_append_16 : decode cX11_append 16 = .ok (.aload_n 0, 1) := by decide +kernel
theorem dX11_append_17 : decode cX11_append 17 = .ok (.getfield 13, 3) := by decide +kernel
theorem dX11_append_20 : decode cX11_append 20 = .ok (.iload_n 1, 1) := by decide +kernel
theorem dX11_append_21 : decode cX11_append 21 = .ok (.iaload, 1) := by decide +kernel
theorem dX11_append_22 : decode cX11_append 22 = .ok (.iadd, 1) := by decide +kernel
theorem dX11_append_23 : decode cX11_append 23 = .ok (.bipush 48, 2) := by decide +kernel
theorem dX11_append_25 : decode cX11_append 25 = .ok (.if_icmp .le 7, 3) := by decide +kernel
theorem dX11_append_28 : decode cX11_append 28 = .ok (.sipush (-1004), 3) := by decide +kernel
theorem dX11_append_31 : decode cX11_append 31 = .ok (.ireturn, 1) := by decide +kernel
theorem dX11_append_32 : decode cX11_append 32 = .ok (.iconst 0, 1) := by decide +kernel
theorem dX11_append_33 : decode cX11_append 33 = .ok (.istore_n 2, 1) := by decide +kernel
theorem dX11_append_34 : decode cX11_append 34 = .ok (.iload_n 2, 1) := by decide +kernel
theorem dX11_append_35 : decode cX11_append 35 = .ok (.aload_n 0, 1) := by decide +kernel
theorem dX11_append_36 : decode cX11_append 36 = .ok (.getfield 13, 3) := by decide +kernel
theorem dX11_append_39 : decode cX11_append 39 = .ok (.iload_n 1, 1) := by decide +kernel
theorem dX11_append_40 : decode cX11_append 40 = .ok (.iaload, 1) := by decide +kernel
theorem dX11_append_41 : decode cX11_append 41 = .ok (.if_icmp .ge 39, 3) := by decide +kernel
theorem dX11_append_44 : decode cX11_append 44 = .ok (.aload_n 0, 1) := by decide +kernel
theorem dX11_append_45 : decode cX11_append 45 = .ok (.getfield 29, 3) := by decide +kernel
theorem dX11_append_48 : decode cX11_append 48 = .ok (.aload_n 0, 1) := by decide +kernel
theorem dX11_append_49 : decode cX11_append 49 = .ok (.getfield 141, 3) := by decide +kernel
theorem dX11_append_52 : decode cX11_append 52 = .ok (.aload_n 0, 1) := by decide +kernel
theorem dX11_append_53 : decode cX11_append 53 = .ok (.getfield 7, 3) := by decide +kernel
theorem dX11_append_56 : decode cX11_append 56 = .ok (.bipush 8, 2) := by decide +kernel
theorem dX11_append_58 : decode cX11_append 58 = .ok (.iload_n 1, 1) := by decide +kernel
theorem dX11_append_59 : decode cX11_append 59 = .ok (.imul, 1) := by decide +kernel
theorem dX11_append_60 : decode cX11_append 60 = .ok (.iload_n 2, 1) := by decide +kernel
theorem dX11_append_61 : decode cX11_append 61 = .ok (.iadd, 1) := by decide +kernel
theorem dX11_append_62 : decode cX11_append 62 = .ok (.iaload, 1) := by decide +kernel
theorem dX11_append_63 : decode cX11_append 63 = .ok (.iastore, 1) := by decide +kernel
theorem dX11_append_64 : decode cX11_append 64 = .ok (.aload_n 0, 1) := by decide +kernel
theorem dX11_append_65 : decode cX11_append 65 = .ok (.dup, 1) := by decide +kernel
theorem dX11_append_66 : decode cX11_append 66 = .ok (.getfield 141, 3) := by decide +kernel
theorem dX11_append_69 : decode cX11_append 69 = .ok (.iconst 1, 1) := by decide +kernel
theorem dX11_append_70 : decode cX11_append 70 = .ok (.iadd, 1) := by decide +kernel
theorem dX11_append_71 : decode cX11_append 71 = .ok (.putfield 141, 3) := by decide +kernel
theorem dX11_append_74 : decode cX11_append 74 = .ok (.iinc 2 1, 3) := by decide +kernel
theorem dX11_append_77 : decode cX11_append 77 = .ok (.goto (-43), 3) := by decide +kernel
theorem dX11_append_80 : decode cX11_append 80 = .ok (.aload_n 0, 1) := by decide +kernel
theorem dX11_append_81 : decode cX11_append 81 = .ok (.getfield 141, 3) := by decide +kernel
theorem dX11_append_84 : decode cX11_append 84 = .ok (.ireturn, 1) := by decide +kernel
theorem dX11_clear_0 : decode cX11_clear 0 = .ok (.aload_n 0, 1) := by decide +kernel
theorem dX11_clear_1 : decode cX11_clear 1 = .ok (.getfield 141, 3) := by decide +kernel
theorem dX11_clear_4 : decode cX11_clear 4 = .ok (.istore_n 1, 1) := by decide +kernel
theorem dX11_clear_5 : decode cX11_clear 5 = .ok (.aload_n 0, 1) := by decide +kernel
theorem dX11_clear_6 : decode cX11_clear 6 = .ok (.iconst 0, 1) := by decide +kernel
theorem dX11_clear_7 : decode cX11_clear 7 = .ok (.putfield 141, 3) := by decide +kernel
theorem dX11_clear_10 : decode cX11_clear 10 = .ok (.iload_n 1, 1) := by decide +kernel
theorem dX11_clear_11 : decode cX11_clear 11 = .ok (.ireturn, 1) := by decide +kernel
theorem dX11_mayFollow_0 : decode cX11_mayFollow 0 = .ok (.iload_n 1, 1) := by decide +kernel
theorem dX11_mayFollow_1 : decode cX11_mayFollow 1 = .ok (.iconst 4, 1) := by decide +kernel
theorem dX11_mayFollow_2 : decode cX11_mayFollow 2 = .ok (.if_icmp .eq 21, 3) := by decide +kernel
theorem dX11_mayFollow_5 : decode cX11_mayFollow 5 = .ok (.aload_n 0, 1) := by decide +kernel
theorem dX11_mayFollow_6 : decode cX11_mayFollow 6 = .ok (.getfield 22, 3) := by decide +kernel
theorem dX11_mayFollow_9 : decode cX11_mayFollow 9 = .ok (.iconst 4, 1) := by decide +kernel
theorem dX11_mayFollow_10 : decode cX11_mayFollow 10 = .ok (.iload_n 1, 1) := by decide +kernel
theorem dX11_mayFollow_11 : decode cX11_mayFollow 11 = .ok (.imul, 1) := by decide +kernel
theorem dX11_mayFollow_12 : decode cX11_mayFollow 12 = .ok (.aload_n 0, 1) := by decide +kernel
theorem dX11_mayFollow_13 : decode cX11_mayFollow 13 = .ok (.getfield 19, 3) := by decide +kernel
theorem dX11_mayFollow_16 : decode cX11_mayFollow 16 = .ok (.iload_n 2, 1) := by decide +kernel
theorem dX11_mayFollow_17 : decode cX11_mayFollow 17 = .ok (.iaload, 1) := by decide +kernel
theorem dX11_mayFollow_18 : decode cX11_mayFollow 18 = .ok (.iadd, 1) := by decide +kernel
theorem dX11_mayFollow_19 : decode cX11_mayFollow 19 = .ok (.baload, 1) := by decide +kernel
theorem dX11_mayFollow_20 : decode cX11_mayFollow 20 = .ok (.ifCond .eq 7, 3) := by decide +kernel
theorem dX11_mayFollow_23 : decode cX11_mayFollow 23 = .ok (.iconst 1, 1) := by decide +kernel
theorem dX11_mayFollow_24 : decode cX11_mayFollow 24 = .ok (.goto 4, 3) := by decide +kernel
theorem dX11_mayFollow_27 : decode cX11_mayFollow 27 = .ok (.iconst 0, 1) := by decide +kernel
theorem dX11_mayFollow_28 : decode cX11_mayFollow 28 = .ok (.ireturn, 1) := by decide +kernel
theorem dX11_stands_0 : decode cX11_stands 0 = .ok (.iload_n 2, 1) := by decide +kernel
theorem dX11_stands_1 : decode cX11_stands 1 = .ok (.aload_n 0, 1) := by decide +kernel
theorem dX11_stands_2 : decode cX11_stands 2 = .ok (.getfield 13, 3) := by decide +kernel
theorem dX11_stands_5 : decode cX11_stands 5 = .ok (.iload_n 1, 1) := by decide +kernel
theorem dX11_stands_6 : decode cX11_stands 6 = .ok (.iaload, 1) := by decide +kernel
theorem dX11_stands_7 : decode cX11_stands 7 = .ok (.iadd, 1) := by decide +kernel
theorem dX11_stands_8 : decode cX11_stands 8 = .ok (.aload_n 0, 1) := by decide +kernel
theorem dX11_stands_9 : decode cX11_stands 9 = .ok (.getfield 141, 3) := by decide +kernel
theorem dX11_stands_12 : decode cX11_stands 12 = .ok (.if_icmp .gt 7, 3) := by decide +kernel
theorem dX11_stands_15 : decode cX11_stands 15 = .ok (.iconst 1, 1) := by decide +kernel
theorem dX11_stands_16 : decode cX11_stands 16 = .ok (.goto 4, 3) := by decide +kernel
theorem dX11_stands_19 : decode cX11_stands 19 = .ok (.iconst 0, 1) := by decide +kernel
theorem dX11_stands_20 : decode cX11_stands 20 = .ok (.istore_n 3, 1) := by decide +kernel
theorem dX11_stands_21 : decode cX11_stands 21 = .ok (.iconst 0, 1) := by decide +kernel
theorem dX11_stands_22 : decode cX11_stands 22 = .ok (.istore 4, 2) := by decide +kernel
theorem dX11_stands_24 : decode cX11_stands 24 = .ok (.iload 4, 2) := by decide +kernel
theorem dX11_stands_26 : decode cX11_stands 26 = .ok (.aload_n 0, 1) := by decide +kernel
theorem dX11_stands_27 : decode cX11_stands 27 = .ok (.getfield 13, 3) := by decide +kernel
theorem dX11_stands_30 : decode cX11_stands 30 = .ok (.iload_n 1, 1) := by decide +kernel
theorem dX11_stands_31 : decode cX11_stands 31 = .ok (.iaload, 1) := by decide +kernel
theorem dX11_stands_32 : decode cX11_stands 32 = .ok (.if_icmp .ge 43, 3) := by decide +kernel
theorem dX11_stands_35 : decode cX11_stands 35 = .ok (.iload_n 3, 1) := by decide +kernel
theorem dX11_stands_36 : decode cX11_stands 36 = .ok (.ifCond .eq 39, 3) := by decide +kernel
theorem dX11_stands_39 : decode cX11_stands 39 = .ok (.aload_n 0, 1) := by decide +kernel
theorem dX11_stands_40 : decode cX11_stands 40 = .ok (.getfield 29, 3) := by decide +kernel
theorem dX11_stands_43 : decode cX11_stands 43 = .ok (.iload_n 2, 1) := by decide +kernel
theorem dX11_stands_44 : decode cX11_stands 44 = .ok (.iload 4, 2) := by decide +kernel
theorem dX11_stands_46 : decode cX11_stands 46 = .ok (.iadd, 1) := by decide +kernel
theorem dX11_stands_47 : decode cX11_stands 47 = .ok (.iaload, 1) := by decide +kernel
theorem dX11_stands_48 : decode cX11_stands 48 = .ok (.aload_n 0, 1) := by decide +kernel
theorem dX11_stands_49 : decode cX11_stands 49 = .ok (.getfield 7, 3) := by decide +kernel
theorem dX11_stands_52 : decode cX11_stands 52 = .ok (.bipush 8, 2) := by decide +kernel
theorem dX11_stands_54 : decode cX11_stands 54 = .ok (.iload_n 1, 1) := by decide +kernel
theorem dX11_stands_55 : decode cX11_stands 55 = .ok (.imul, 1) := by decide +kernel
theorem dX11_stands_56 : decode cX11_stands 56 = .ok (.iload 4, 2) := by decide +kernel
theorem dX11_stands_58 : decode cX11_stands 58 = .ok (.iadd, 1) := by decide +kernel
theorem dX11_stands_59 : decode cX11_stands 59 = .ok (.iaload, 1) := by decide +kernel
theorem dX11_stands_60 : decode cX11_stands 60 = .ok (.if_icmp .ne 7, 3) := by decide +kernel
theorem dX11_stands_63 : decode cX11_stands 63 = .ok (.iconst 1, 1) := by decide +kernel
theorem dX11_stands_64 : decode cX11_stands 64 = .ok (.goto 4, 3) := by decide +kernel
theorem dX11_stands_67 : decode cX11_stands 67 = .ok (.iconst 0, 1) := by decide +kernel
theorem dX11_stands_68 : decode cX11_stands 68 = .ok (.istore_n 3, 1) := by decide +kernel
theorem dX11_stands_69 : decode cX11_stands 69 = .ok (.iinc 4 1, 3) := by decide +kernel
theorem dX11_stands_72 : decode cX11_stands 72 = .ok (.goto (-48), 3) := by decide +kernel
theorem dX11_stands_75 : decode cX11_stands 75 = .ok (.iload_n 3, 1) := by decide +kernel
theorem dX11_stands_76 : decode cX11_stands 76 = .ok (.ireturn, 1) := by decide +kernel
theorem dX11_cell_0 : decode cX11_cell 0 = .ok (.iconst 5, 1) := by decide +kernel
theorem dX11_cell_1 : decode cX11_cell 1 = .ok (.iload_n 0, 1) := by decide +kernel
theorem dX11_cell_2 : decode cX11_cell 2 = .ok (.imul, 1) := by decide +kernel
theorem dX11_cell_3 : decode cX11_cell 3 = .ok (.iload_n 1, 1) := by decide +kernel
theorem dX11_cell_4 : decode cX11_cell 4 = .ok (.iadd, 1) := by decide +kernel
theorem dX11_cell_5 : decode cX11_cell 5 = .ok (.ireturn, 1) := by decide +kernel
theorem dX11_beginCell_0 : decode cX11_beginCell 0 = .ok (.aload_n 0, 1) := by decide +kernel
theorem dX11_beginCell_1 : decode cX11_beginCell 1 = .ok (.getfield 57, 3) := by decide +kernel
theorem dX11_beginCell_4 : decode cX11_beginCell 4 = .ok (.iload_n 1, 1) := by decide +kernel
theorem dX11_beginCell_5 : decode cX11_beginCell 5 = .ok (.iload_n 2, 1) := by decide +kernel
theorem dX11_beginCell_6 : decode cX11_beginCell 6 = .ok (.invokestatic 195, 3) := by decide +kernel
theorem dX11_beginCell_9 : decode cX11_beginCell 9 = .ok (.i2l, 1) := by decide +kernel
theorem dX11_beginCell_10 : decode cX11_beginCell 10 = .ok (.lastore, 1) := by decide +kernel
theorem dX11_beginCell_11 : decode cX11_beginCell 11 = .ok (.aload_n 0, 1) := by decide +kernel
theorem dX11_beginCell_12 : decode cX11_beginCell 12 = .ok (.getfield 61, 3) := by decide +kernel
theorem dX11_beginCell_15 : decode cX11_beginCell 15 = .ok (.iload_n 1, 1) := by decide +kernel
theorem dX11_beginCell_16 : decode cX11_beginCell 16 = .ok (.iload_n 2, 1) := by decide +kernel
theorem dX11_beginCell_17 : decode cX11_beginCell 17 = .ok (.ifCond .eq 7, 3) := by decide +kernel
theorem dX11_beginCell_20 : decode cX11_beginCell 20 = .ok (.iconst 0, 1) := by decide +kernel
theorem dX11_beginCell_21 : decode cX11_beginCell 21 = .ok (.goto 4, 3) := by decide +kernel
theorem dX11_beginCell_24 : decode cX11_beginCell 24 = .ok (.iconst (-1), 1) := by decide +kernel
theorem dX11_beginCell_25 : decode cX11_beginCell 25 = .ok (.iastore, 1) := by decide +kernel
theorem dX11_beginCell_26 : decode cX11_beginCell 26 = .ok (.aload_n 0, 1) := by decide +kernel
theorem dX11_beginCell_27 : decode cX11_beginCell 27 = .ok (.getfield 64, 3) := by decide +kernel
theorem dX11_beginCell_30 : decode cX11_beginCell 30 = .ok (.iload_n 1, 1) := by decide +kernel
theorem dX11_beginCell_31 : decode cX11_beginCell 31 = .ok (.iload_n 2, 1) := by decide +kernel
theorem dX11_beginCell_32 : decode cX11_beginCell 32 = .ok (.invokestatic 195, 3) := by decide +kernel
theorem dX11_beginCell_35 : decode cX11_beginCell 35 = .ok (.i2l, 1) := by decide +kernel
theorem dX11_beginCell_36 : decode cX11_beginCell 36 = .ok (.lastore, 1) := by decide +kernel
theorem dX11_beginCell_37 : decode cX11_beginCell 37 = .ok (.aload_n 0, 1) := by decide +kernel
theorem dX11_beginCell_38 : decode cX11_beginCell 38 = .ok (.getfield 67, 3) := by decide +kernel
theorem dX11_beginCell_41 : decode cX11_beginCell 41 = .ok (.iload_n 1, 1) := by decide +kernel
theorem dX11_beginCell_42 : decode cX11_beginCell 42 = .ok (.iload_n 2, 1) := by decide +kernel
theorem dX11_beginCell_43 : decode cX11_beginCell 43 = .ok (.ifCond .eq 7, 3) := by decide +kernel
theorem dX11_beginCell_46 : decode cX11_beginCell 46 = .ok (.iconst 0, 1) := by decide +kernel
theorem dX11_beginCell_47 : decode cX11_beginCell 47 = .ok (.goto 4, 3) := by decide +kernel
theorem dX11_beginCell_50 : decode cX11_beginCell 50 = .ok (.iconst (-1), 1) := by decide +kernel
theorem dX11_beginCell_51 : decode cX11_beginCell 51 = .ok (.iastore, 1) := by decide +kernel
theorem dX11_beginCell_52 : decode cX11_beginCell 52 = .ok (.aload_n 0, 1) := by decide +kernel
theorem dX11_beginCell_53 : decode cX11_beginCell 53 = .ok (.getfield 70, 3) := by decide +kernel
theorem dX11_beginCell_56 : decode cX11_beginCell 56 = .ok (.iload_n 1, 1) := by decide +kernel
theorem dX11_beginCell_57 : decode cX11_beginCell 57 = .ok (.iload_n 2, 1) := by decide +kernel
theorem dX11_beginCell_58 : decode cX11_beginCell 58 = .ok (.ifCond .eq 7, 3) := by decide +kernel
theorem dX11_beginCell_61 : decode cX11_beginCell 61 = .ok (.iconst 0, 1) := by decide +kernel
theorem dX11_beginCell_62 : decode cX11_beginCell 62 = .ok (.goto 4, 3) := by decide +kernel
theorem dX11_beginCell_65 : decode cX11_beginCell 65 = .ok (.iconst (-1), 1) := by decide +kernel
theorem dX11_beginCell_66 : decode cX11_beginCell 66 = .ok (.iastore, 1) := by decide +kernel
theorem dX11_beginCell_67 : decode cX11_beginCell 67 = .ok (.return_, 1) := by decide +kernel
theorem dX11_addWord_0 : decode cX11_addWord 0 = .ok (.aload_n 0, 1) := by decide +kernel
theorem dX11_addWord_1 : decode cX11_addWord 1 = .ok (.getfield 57, 3) := by decide +kernel
theorem dX11_addWord_4 : decode cX11_addWord 4 = .ok (.iload_n 3, 1) := by decide +kernel
theorem dX11_addWord_5 : decode cX11_addWord 5 = .ok (.laload, 1) := by decide +kernel
theorem dX11_addWord_6 : decode cX11_addWord 6 = .ok (.lconst 0, 1) := by decide +kernel
theorem dX11_addWord_7 : decode cX11_addWord 7 = .ok (.lcmp, 1) := by decide +kernel
theorem dX11_addWord_8 : decode cX11_addWord 8 = .ok (.ifCond .le 229, 3) := by decide +kernel
theorem dX11_addWord_11 : decode cX11_addWord 11 = .ok (.aload_n 0, 1) := by decide +kernel
theorem dX11_addWord_12 : decode cX11_addWord 12 = .ok (.getfield 57, 3) := by decide +kernel
theorem dX11_addWord_15 : decode cX11_addWord 15 = .ok (.iload_n 1, 1) := by decide +kernel
theorem dX11_addWord_16 : decode cX11_addWord 16 = .ok (.laload, 1) := by decide +kernel
theorem dX11_addWord_17 : decode cX11_addWord 17 = .ok (.aload_n 0, 1) := by decide +kernel
theorem dX11_addWord_18 : decode cX11_addWord 18 = .ok (.getfield 57, 3) := by decide +kernel
theorem dX11_addWord_21 : decode cX11_addWord 21 = .ok (.iload_n 3, 1) := by decide +kernel
theorem dX11_addWord_22 : decode cX11_addWord 22 = .ok (.laload, 1) := by decide +kernel
theorem dX11_addWord_23 : decode cX11_addWord 23 = .ok (.ladd, 1) := by decide +kernel
theorem dX11_addWord_24 : decode cX11_addWord 24 = .ok (.lstore 4, 2) := by decide +kernel
theorem dX11_addWord_26 : decode cX11_addWord 26 = .ok (.aload_n 0, 1) := by decide +kernel
theorem dX11_addWord_27 : decode cX11_addWord 27 = .ok (.getfield 57, 3) := by decide +kernel
theorem dX11_addWord_30 : decode cX11_addWord 30 = .ok (.iload_n 1, 1) := by decide +kernel
theorem dX11_addWord_31 : decode cX11_addWord 31 = .ok (.lload 4, 2) := by decide +kernel
theorem dX11_addWord_33 : decode cX11_addWord 33 = .ok (.ldc2_w 199, 3) := by decide +kernel
theorem dX11_addWord_36 : decode cX11_addWord 36 = .ok (.lcmp, 1) := by decide +kernel
theorem dX11_addWord_37 : decode cX11_addWord 37 = .ok (.ifCond .le 9, 3) := by decide +kernel
theorem dX11_addWord_40 : decode cX11_addWord 40 = .ok (.ldc2_w 199, 3) := by decide +kernel
theorem dX11_addWord_43 : decode cX11_addWord 43 = .ok (.goto 5, 3) := by decide +kernel
theorem dX11_addWord_46 : decode cX11_addWord 46 = .ok (.lload 4, 2) := by decide +kernel
theorem dX11_addWord_48 : decode cX11_addWord 48 = .ok (.lastore, 1) := by decide +kernel
theorem dX11_addWord_49 : decode cX11_addWord 49 = .ok (.aload_n 0, 1) := by decide +kernel
theorem dX11_addWord_50 : decode cX11_addWord 50 = .ok (.getfield 16, 3) := by decide +kernel
theorem dX11_addWord_53 : decode cX11_addWord 53 = .ok (.iload_n 2, 1) := by decide +kernel
theorem dX11_addWord_54 : decode cX11_addWord 54 = .ok (.iaload, 1) := by decide +kernel
theorem dX11_addWord_55 : decode cX11_addWord 55 = .ok (.aload_n 0, 1) := by decide +kernel
theorem dX11_addWord_56 : decode cX11_addWord 56 = .ok (.getfield 61, 3) := by decide +kernel
theorem dX11_addWord_59 : decode cX11_addWord 59 = .ok (.iload_n 3, 1) := by decide +kernel
theorem dX11_addWord_60 : decode cX11_addWord 60 = .ok (.iaload, 1) := by decide +kernel
theorem dX11_addWord_61 : decode cX11_addWord 61 = .ok (.iadd, 1) := by decide +kernel
theorem dX11_addWord_62 : decode cX11_addWord 62 = .ok (.istore 6, 2) := by decide +kernel
theorem dX11_addWord_64 : decode cX11_addWord 64 = .ok (.aload_n 0, 1) := by decide +kernel
theorem dX11_addWord_65 : decode cX11_addWord 65 = .ok (.getfield 61, 3) := by decide +kernel
theorem dX11_addWord_68 : decode cX11_addWord 68 = .ok (.iload_n 1, 1) := by decide +kernel
theorem dX11_addWord_69 : decode cX11_addWord 69 = .ok (.iaload, 1) := by decide +kernel
theorem dX11_addWord_70 : decode cX11_addWord 70 = .ok (.ifCond .lt 14, 3) := by decide +kernel
theorem dX11_addWord_73 : decode cX11_addWord 73 = .ok (.iload 6, 2) := by decide +kernel
theorem dX11_addWord_75 : decode cX11_addWord 75 = .ok (.aload_n 0, 1) := by decide +kernel
theorem dX11_addWord_76 : decode cX11_addWord 76 = .ok (.getfield 61, 3) := by decide +kernel
theorem dX11_addWord_79 : decode cX11_addWord 79 = .ok (.iload_n 1, 1) := by decide +kernel
theorem dX11_addWord_80 : decode cX11_addWord 80 = .ok (.iaload, 1) := by decide +kernel
theorem dX11_addWord_81 : decode cX11_addWord 81 = .ok (.if_icmp .ge 18, 3) := by decide +kernel
theorem dX11_addWord_84 : decode cX11_addWord 84 = .ok (.aload_n 0, 1) := by decide +kernel
theorem dX11_addWord_85 : decode cX11_addWord 85 = .ok (.getfield 61, 3) := by decide +kernel
theorem dX11_addWord_88 : decode cX11_addWord 88 = .ok (.iload_n 1, 1) := by decide +kernel
theorem dX11_addWord_89 : decode cX11_addWord 89 = .ok (.iload 6, 2) := by decide +kernel
theorem dX11_addWord_91 : decode cX11_addWord 91 = .ok (.iastore, 1) := by decide +kernel
theorem dX11_addWord_92 : decode cX11_addWord 92 = .ok (.aload_n 0, 1) := by decide +kernel
theorem dX11_addWord_93 : decode cX11_addWord 93 = .ok (.getfield 64, 3) := by decide +kernel
theorem dX11_addWord_96 : decode cX11_addWord 96 = .ok (.iload_n 1, 1) := by decide +kernel
theorem dX11_addWord_97 : decode cX11_addWord 97 = .ok (.lconst 0, 1) := by decide +kernel
theorem dX11_addWord_98 : decode cX11_addWord 98 = .ok (.lastore, 1) := by decide +kernel
theorem dX11_addWord_99 : decode cX11_addWord 99 = .ok (.iload 6, 2) := by decide +kernel
theorem dX11_addWord_101 : decode cX11_addWord 101 = .ok (.aload_n 0, 1) := by decide +kernel
theorem dX11_addWord_102 : decode cX11_addWord 102 = .ok (.getfield 61, 3) := by decide +kernel
theorem dX11_addWord_105 : decode cX11_addWord 105 = .ok (.iload_n 1, 1) := by decide +kernel
theorem dX11_addWord_106 : decode cX11_addWord 106 = .ok (.iaload, 1) := by decide +kernel
theorem dX11_addWord_107 : decode cX11_addWord 107 = .ok (.if_icmp .ne 41, 3) := by decide +kernel
theorem dX11_addWord_110 : decode cX11_addWord 110 = .ok (.aload_n 0, 1) := by decide +kernel
theorem dX11_addWord_111 : decode cX11_addWord 111 = .ok (.getfield 64, 3) := by decide +kernel
theorem dX11_addWord_114 : decode cX11_addWord 114 = .ok (.iload_n 1, 1) := by decide +kernel
theorem dX11_addWord_115 : decode cX11_addWord 115 = .ok (.laload, 1) := by decide +kernel
theorem dX11_addWord_116 : decode cX11_addWord 116 = .ok (.aload_n 0, 1) := by decide +kernel
theorem dX11_addWord_117 : decode cX11_addWord 117 = .ok (.getfield 64, 3) := by decide +kernel
theorem dX11_addWord_120 : decode cX11_addWord 120 = .ok (.iload_n 3, 1) := by decide +kernel
theorem dX11_addWord_121 : decode cX11_addWord 121 = .ok (.laload, 1) := by decide +kernel
theorem dX11_addWord_122 : decode cX11_addWord 122 = .ok (.ladd, 1) := by decide +kernel
theorem dX11_addWord_123 : decode cX11_addWord 123 = .ok (.lstore 4, 2) := by decide +kernel
theorem dX11_addWord_125 : decode cX11_addWord 125 = .ok (.aload_n 0, 1) := by decide +kernel
theorem dX11_addWord_126 : decode cX11_addWord 126 = .ok (.getfield 64, 3) := by decide +kernel
theorem dX11_addWord_129 : decode cX11_addWord 129 = .ok (.iload_n 1, 1) := by decide +kernel
theorem dX11_addWord_130 : decode cX11_addWord 130 = .ok (.lload 4, 2) := by decide +kernel
theorem dX11_addWord_132 : decode cX11_addWord 132 = .ok (.ldc2_w 199, 3) := by decide +kernel
theorem dX11_addWord_135 : decode cX11_addWord 135 = .ok (.lcmp, 1) := by decide +kernel
theorem dX11_addWord_136 : decode cX11_addWord 136 = .ok (.ifCond .le 9, 3) := by decide +kernel
theorem dX11_addWord_139 : decode cX11_addWord 139 = .ok (.ldc2_w 199, 3) := by decide +kernel
theorem dX11_addWord_142 : decode cX11_addWord 142 = .ok (.goto 5, 3) := by decide +kernel
theorem dX11_addWord_145 : decode cX11_addWord 145 = .ok (.lload 4, 2) := by decide +kernel
theorem dX11_addWord_147 : decode cX11_addWord 147 = .ok (.lastore, 1) := by decide +kernel
theorem dX11_addWord_148 : decode cX11_addWord 148 = .ok (.aload_n 0, 1) := by decide +kernel
theorem dX11_addWord_149 : decode cX11_addWord 149 = .ok (.getfield 67, 3) := by decide +kernel
theorem dX11_addWord_152 : decode cX11_addWord 152 = .ok (.iload_n 1, 1) := by decide +kernel
theorem dX11_addWord_153 : decode cX11_addWord 153 = .ok (.aload_n 0, 1) := by decide +kernel
theorem dX11_addWord_154 : decode cX11_addWord 154 = .ok (.getfield 67, 3) := by decide +kernel
theorem dX11_addWord_157 : decode cX11_addWord 157 = .ok (.iload_n 1, 1) := by decide +kernel
theorem dX11_addWord_158 : decode cX11_addWord 158 = .ok (.iaload, 1) := by decide +kernel
theorem dX11_addWord_159 : decode cX11_addWord 159 = .ok (.ifCond .lt 20, 3) := by decide +kernel
theorem dX11_addWord_162 : decode cX11_addWord 162 = .ok (.aload_n 0, 1) := by decide +kernel
theorem dX11_addWord_163 : decode cX11_addWord 163 = .ok (.getfield 67, 3) := by decide +kernel
theorem dX11_addWord_166 : decode cX11_addWord 166 = .ok (.iload_n 3, 1) := by decide +kernel
theorem dX11_addWord_167 : decode cX11_addWord 167 = .ok (.iaload, 1) := by decide +kernel
theorem dX11_addWord_168 : decode cX11_addWord 168 = .ok (.iconst 1, 1) := by decide +kernel
theorem dX11_addWord_169 : decode cX11_addWord 169 = .ok (.iadd, 1) := by decide +kernel
theorem dX11_addWord_170 : decode cX11_addWord 170 = .ok (.aload_n 0, 1) := by decide +kernel
theorem dX11_addWord_171 : decode cX11_addWord 171 = .ok (.getfield 67, 3) := by decide +kernel
theorem dX11_addWord_174 : decode cX11_addWord 174 = .ok (.iload_n 1, 1) := by decide +kernel
theorem dX11_addWord_175 : decode cX11_addWord 175 = .ok (.iaload, 1) := by decide +kernel
theorem dX11_addWord_176 : decode cX11_addWord 176 = .ok (.if_icmp .ge 14, 3) := by decide +kernel
theorem dX11_addWord_179 : decode cX11_addWord 179 = .ok (.aload_n 0, 1) := by decide +kernel
theorem dX11_addWord_180 : decode cX11_addWord 180 = .ok (.getfield 67, 3) := by decide +kernel
theorem dX11_addWord_183 : decode cX11_addWord 183 = .ok (.iload_n 3, 1) := by decide +kernel
theorem dX11_addWord_184 : decode cX11_addWord 184 = .ok (.iaload, 1) := by decide +kernel
theorem dX11_addWord_185 : decode cX11_addWord 185 = .ok (.iconst 1, 1) := by decide +kernel
theorem dX11_addWord_186 : decode cX11_addWord 186 = .ok (.iadd, 1) := by decide +kernel
theorem dX11_addWord_187 : decode cX11_addWord 187 = .ok (.goto 9, 3) := by decide +kernel
theorem dX11_addWord_190 : decode cX11_addWord 190 = .ok (.aload_n 0, 1) := by decide +kernel
theorem dX11_addWord_191 : decode cX11_addWord 191 = .ok (.getfield 67, 3) := by decide +kernel
theorem dX11_addWord_194 : decode cX11_addWord 194 = .ok (.iload_n 1, 1) := by decide +kernel
theorem dX11_addWord_195 : decode cX11_addWord 195 = .ok (.iaload, 1) := by decide +kernel
theorem dX11_addWord_196 : decode cX11_addWord 196 = .ok (.iastore, 1) := by decide +kernel
theorem dX11_addWord_197 : decode cX11_addWord 197 = .ok (.aload_n 0, 1) := by decide +kernel
theorem dX11_addWord_198 : decode cX11_addWord 198 = .ok (.getfield 70, 3) := by decide +kernel
theorem dX11_addWord_201 : decode cX11_addWord 201 = .ok (.iload_n 1, 1) := by decide +kernel
theorem dX11_addWord_202 : decode cX11_addWord 202 = .ok (.aload_n 0, 1) := by decide +kernel
theorem dX11_addWord_203 : decode cX11_addWord 203 = .ok (.getfield 70, 3) := by decide +kernel
theorem dX11_addWord_206 : decode cX11_addWord 206 = .ok (.iload_n 3, 1) := by decide +kernel
theorem dX11_addWord_207 : decode cX11_addWord 207 = .ok (.iaload, 1) := by decide +kernel
theorem dX11_addWord_208 : decode cX11_addWord 208 = .ok (.iconst 1, 1) := by decide +kernel
theorem dX11_addWord_209 : decode cX11_addWord 209 = .ok (.iadd, 1) := by decide +kernel
theorem dX11_addWord_210 : decode cX11_addWord 210 = .ok (.aload_n 0, 1) := by decide +kernel
theorem dX11_addWord_211 : decode cX11_addWord 211 = .ok (.getfield 70, 3) := by decide +kernel
theorem dX11_addWord_214 : decode cX11_addWord 214 = .ok (.iload_n 1, 1) := by decide +kernel
theorem dX11_addWord_215 : decode cX11_addWord 215 = .ok (.iaload, 1) := by decide +kernel
theorem dX11_addWord_216 : decode cX11_addWord 216 = .ok (.if_icmp .le 14, 3) := by decide +kernel
theorem dX11_addWord_219 : decode cX11_addWord 219 = .ok (.aload_n 0, 1) := by decide +kernel
theorem dX11_addWord_220 : decode cX11_addWord 220 = .ok (.getfield 70, 3) := by decide +kernel
theorem dX11_addWord_223 : decode cX11_addWord 223 = .ok (.iload_n 3, 1) := by decide +kernel
theorem dX11_addWord_224 : decode cX11_addWord 224 = .ok (.iaload, 1) := by decide +kernel
theorem dX11_addWord_225 : decode cX11_addWord 225 = .ok (.iconst 1, 1) := by decide +kernel
theorem dX11_addWord_226 : decode cX11_addWord 226 = .ok (.iadd, 1) := by decide +kernel
theorem dX11_addWord_227 : decode cX11_addWord 227 = .ok (.goto 9, 3) := by decide +kernel

theorem dX10_follows_38 : decode cX10_follows 38 = .ok (.iconst 0, 1) := by decide +kernel
theorem dX10_follows_39 : decode cX10_follows 39 = .ok (.istore 4, 2) := by decide +kernel
theorem dX10_follows_41 : decode cX10_follows 41 = .ok (.aload_n 0, 1) := by decide +kernel
theorem dX10_follows_42 : decode cX10_follows 42 = .ok (.getfield 10, 3) := by decide +kernel
theorem dX10_follows_45 : decode cX10_follows 45 = .ok (.getfield 136, 3) := by decide +kernel
theorem dX10_follows_48 : decode cX10_follows 48 = .ok (.iload_n 1, 1) := by decide +kernel
theorem dX10_follows_49 : decode cX10_follows 49 = .ok (.iconst 4, 1) := by decide +kernel
theorem dX10_follows_50 : decode cX10_follows 50 = .ok (.imul, 1) := by decide +kernel
theorem dX10_follows_51 : decode cX10_follows 51 = .ok (.iload_n 2, 1) := by decide +kernel
theorem dX10_follows_52 : decode cX10_follows 52 = .ok (.iadd, 1) := by decide +kernel
theorem dX10_follows_53 : decode cX10_follows 53 = .ok (.iload_n 3, 1) := by decide +kernel
theorem dX10_follows_54 : decode cX10_follows 54 = .ok (.ifCond .ne 7, 3) := by decide +kernel
theorem dX10_follows_57 : decode cX10_follows 57 = .ok (.iconst 1, 1) := by decide +kernel
theorem dX10_follows_58 : decode cX10_follows 58 = .ok (.goto 4, 3) := by decide +kernel
theorem dX10_follows_61 : decode cX10_follows 61 = .ok (.iconst 0, 1) := by decide +kernel
theorem dX10_follows_62 : decode cX10_follows 62 = .ok (.bastore, 1) := by decide +kernel
theorem dX10_follows_63 : decode cX10_follows 63 = .ok (.aload_n 0, 1) := by decide +kernel
theorem dX10_follows_64 : decode cX10_follows 64 = .ok (.invokevirtual 94, 3) := by decide +kernel
theorem dX10_follows_67 : decode cX10_follows 67 = .ok (.iload 4, 2) := by decide +kernel
theorem dX10_follows_69 : decode cX10_follows 69 = .ok (.ireturn, 1) := by decide +kernel
theorem dX10_count_0 : decode cX10_count 0 = .ok (.iload_n 1, 1) := by decide +kernel
theorem dX10_count_1 : decode cX10_count 1 = .ok (.tableswitch 75 0 4 #[35, 43, 51, 59, 67], 35) := by decide +kernel
theorem dX10_count_36 : decode cX10_count 36 = .ok (.aload_n 0, 1) := by decide +kernel
theorem dX10_count_37 : decode cX10_count 37 = .ok (.getfield 10, 3) := by decide +kernel
theorem dX10_count_40 : decode cX10_count 40 = .ok (.getfield 85, 3) := by decide +kernel
theorem dX10_count_43 : decode cX10_count 43 = .ok (.ireturn, 1) := by decide +kernel
theorem dX10_count_44 : decode cX10_count 44 = .ok (.aload_n 0, 1) := by decide +kernel
theorem dX10_count_45 : decode cX10_count 45 = .ok (.getfield 19, 3) := by decide +kernel
theorem dX10_count_48 : decode cX10_count 48 = .ok (.getfield 89, 3) := by decide +kernel
theorem dX10_count_51 : decode cX10_count 51 = .ok (.ireturn, 1) := by decide +kernel
theorem dX10_count_52 : decode cX10_count 52 = .ok (.aload_n 0, 1) := by decide +kernel
theorem dX10_count_53 : decode cX10_count 53 = .ok (.getfield 32, 3) := by decide +kernel
theorem dX10_count_56 : decode cX10_count 56 = .ok (.getfield 93, 3) := by decide +kernel
theorem dX10_count_59 : decode cX10_count 59 = .ok (.ireturn, 1) := by decide +kernel
theorem dX10_count_60 : decode cX10_count 60 = .ok (.aload_n 0, 1) := by decide +kernel
theorem dX10_count_61 : decode cX10_count 61 = .ok (.getfield 28, 3) := by decide +kernel
theorem dX10_count_64 : decode cX10_count 64 = .ok (.getfield 93, 3) := by decide +kernel
theorem dX10_count_67 : decode cX10_count 67 = .ok (.ireturn, 1) := by decide +kernel
theorem dX10_count_68 : decode cX10_count 68 = .ok (.aload_n 0, 1) := by decide +kernel
theorem dX10_count_69 : decode cX10_count 69 = .ok (.getfield 65, 3) := by decide +kernel
theorem dX10_count_72 : decode cX10_count 72 = .ok (.getfield 92, 3) := by decide +kernel
theorem dX10_count_75 : decode cX10_count 75 = .ok (.ireturn, 1) := by decide +kernel
theorem dX10_count_76 : decode cX10_count 76 = .ok (.sipush (-1002), 3) := by decide +kernel
theorem dX10_count_79 : decode cX10_count 79 = .ok (.ireturn, 1) := by decide +kernel
theorem dX10_letter_0 : decode cX10_letter 0 = .ok (.iload_n 1, 1) := by decide +kernel
theorem dX10_letter_1 : decode cX10_letter 1 = .ok (.ifCond .lt 14, 3) := by decide +kernel
theorem dX10_letter_4 : decode cX10_letter 4 = .ok (.iload_n 1, 1) := by decide +kernel
theorem dX10_letter_5 : decode cX10_letter 5 = .ok (.aload_n 0, 1) := by decide +kernel
theorem dX10_letter_6 : decode cX10_letter 6 = .ok (.getfield 10, 3) := by decide +kernel
theorem dX10_letter_9 : decode cX10_letter 9 = .ok (.getfield 85, 3) := by decide +kernel
theorem dX10_letter_12 : decode cX10_letter 12 = .ok (.if_icmp .lt 7, 3) := by decide +kernel
theorem dX10_letter_15 : decode cX10_letter 15 = .ok (.sipush (-1002), 3) := by decide +kernel
theorem dX10_letter_18 : decode cX10_letter 18 = .ok (.ireturn, 1) := by decide +kernel
theorem dX10_letter_19 : decode cX10_letter 19 = .ok (.aload_n 0, 1) := by decide +kernel
theorem dX10_letter_20 : decode cX10_letter 20 = .ok (.getfield 32, 3) := by decide +kernel
theorem dX10_letter_23 : decode cX10_letter 23 = .ok (.getfield 93, 3) := by decide +kernel
theorem dX10_letter_26 : decode cX10_letter 26 = .ok (.bipush 48, 2) := by decide +kernel
theorem dX10_letter_28 : decode cX10_letter 28 = .ok (.if_icmp .lt 7, 3) := by decide +kernel
theorem dX10_letter_31 : decode cX10_letter 31 = .ok (.sipush (-1004), 3) := by decide +kernel
theorem dX10_letter_34 : decode cX10_letter 34 = .ok (.ireturn, 1) := by decide +kernel
theorem dX10_letter_35 : decode cX10_letter 35 = .ok (.aload_n 0, 1) := by decide +kernel
theorem dX10_letter_36 : decode cX10_letter 36 = .ok (.getfield 32, 3) := by decide +kernel
theorem dX10_letter_39 : decode cX10_letter 39 = .ok (.iload_n 1, 1) := by decide +kernel
theorem dX10_letter_40 : decode cX10_letter 40 = .ok (.invokevirtual 97, 3) := by decide +kernel
theorem dX10_letter_43 : decode cX10_letter 43 = .ok (.aload_n 0, 1) := by decide +kernel
theorem dX10_letter_44 : decode cX10_letter 44 = .ok (.getfield 32, 3) := by decide +kernel
theorem dX10_letter_47 : decode cX10_letter 47 = .ok (.getfield 93, 3) := by decide +kernel
theorem dX10_letter_50 : decode cX10_letter 50 = .ok (.ireturn, 1) := by decide +kernel
theorem dX10_append_0 : decode cX10_append 0 = .ok (.aload_n 0, 1) := by decide +kernel
theorem dX10_append_1 : decode cX10_append 1 = .ok (.getfield 19, 3) := by decide +kernel
theorem dX10_append_4 : decode cX10_append 4 = .ok (.iload_n 1, 1) := by decide +kernel
theorem dX10_append_5 : decode cX10_append 5 = .ok (.invokevirtual 114, 3) := by decide +kernel
theorem dX10_append_8 : decode cX10_append 8 = .ok (.ifCond .ne 7, 3) := by decide +kernel
theorem dX10_append_11 : decode cX10_append 11 = .ok (.sipush (-1001), 3) := by decide +kernel
theorem dX10_append_14 : decode cX10_append 14 = .ok (.ireturn, 1) := by decide +kernel
theorem dX10_append_15 : decode cX10_append 15 = .ok (.aload_n 0, 1) := by decide +kernel
theorem dX10_append_16 : decode cX10_append 16 = .ok (.getfield 32, 3) := by decide +kernel
theorem dX10_append_19 : decode cX10_append 19 = .ok (.getfield 93, 3) := by decide +kernel
theorem dX10_append_22 : decode cX10_append 22 = .ok (.aload_n 0, 1) := by decide +kernel
theorem dX10_append_23 : decode cX10_append 23 = .ok (.getfield 19, 3) := by decide +kernel
theorem dX10_append_26 : decode cX10_append 26 = .ok (.getfield 125, 3) := by decide +kernel
theorem dX10_append_29 : decode cX10_append 29 = .ok (.iload_n 1, 1) := by decide +kernel
theorem dX10_append_30 : decode cX10_append 30 = .ok (.iaload, 1) := by decide +kernel
theorem dX10_append_31 : decode cX10_append 31 = .ok (.iadd, 1) := by decide +kernel
theorem dX10_append_32 : decode cX10_append 32 = .ok (.bipush 48, 2) := by decide +kernel
theorem dX10_append_34 : decode cX10_append 34 = .ok (.if_icmp .le 7, 3) := by decide +kernel
theorem dX10_append_37 : decode cX10_append 37 = .ok (.sipush (-1004), 3) := by decide +kernel
theorem dX10_append_40 : decode cX10_append 40 = .ok (.ireturn, 1) := by decide +kernel
theorem dX10_append_41 : decode cX10_append 41 = .ok (.iconst 0, 1) := by decide +kernel
theorem dX10_append_42 : decode cX10_append 42 = .ok (.istore_n 2, 1) := by decide +kernel
theorem dX10_append_43 : decode cX10_append 43 = .ok (.iload_n 2, 1) := by decide +kernel
theorem dX10_append_44 : decode cX10_append 44 = .ok (.aload_n 0, 1) := by decide +kernel
theorem dX10_append_45 : decode cX10_append 45 = .ok (.getfield 19, 3) := by decide +kernel
theorem dX10_append_48 : decode cX10_append 48 = .ok (.getfield 125, 3) := by decide +kernel
theorem dX10_append_51 : decode cX10_append 51 = .ok (.iload_n 1, 1) := by decide +kernel
theorem dX10_append_52 : decode cX10_append 52 = .ok (.iaload, 1) := by decide +kernel
theorem dX10_append_53 : decode cX10_append 53 = .ok (.if_icmp .ge 25, 3) := by decide +kernel
theorem dX10_append_56 : decode cX10_append 56 = .ok (.aload_n 0, 1) := by decide +kernel
theorem dX10_append_57 : decode cX10_append 57 = .ok (.getfield 32, 3) := by decide +kernel
theorem dX10_append_60 : decode cX10_append 60 = .ok (.aload_n 0, 1) := by decide +kernel
theorem dX10_append_61 : decode cX10_append 61 = .ok (.getfield 19, 3) := by decide +kernel
theorem dX10_append_64 : decode cX10_append 64 = .ok (.iload_n 1, 1) := by decide +kernel
theorem dX10_append_65 : decode cX10_append 65 = .ok (.iload_n 2, 1) := by decide +kernel
theorem dX10_append_66 : decode cX10_append 66 = .ok (.invokevirtual 128, 3) := by decide +kernel
theorem dX10_append_69 : decode cX10_append 69 = .ok (.invokevirtual 97, 3) := by decide +kernel
theorem dX10_append_72 : decode cX10_append 72 = .ok (.iinc 2 1, 3) := by decide +kernel
theorem dX10_append_75 : decode cX10_append 75 = .ok (.goto (-32), 3) := by decide +kernel
theorem dX10_append_78 : decode cX10_append 78 = .ok (.aload_n 0, 1) := by decide +kernel
theorem dX10_append_79 : decode cX10_append 79 = .ok (.getfield 32, 3) := by decide +kernel
theorem dX10_append_82 : decode cX10_append 82 = .ok (.getfield 93, 3) := by decide +kernel
theorem dX10_append_85 : decode cX10_append 85 = .ok (.ireturn, 1) := by decide +kernel
theorem dX10_clear_0 : decode cX10_clear 0 = .ok (.aload_n 0, 1) := by decide +kernel
theorem dX10_clear_1 : decode cX10_clear 1 = .ok (.getfield 32, 3) := by decide +kernel
theorem dX10_clear_4 : decode cX10_clear 4 = .ok (.getfield 93, 3) := by decide +kernel
theorem dX10_clear_7 : decode cX10_clear 7 = .ok (.istore_n 1, 1) := by decide +kernel
theorem dX10_clear_8 : decode cX10_clear 8 = .ok (.aload_n 0, 1) := by decide +kernel
theorem dX10_clear_9 : decode cX10_clear 9 = .ok (.getfield 32, 3) := by decide +kernel
theorem dX10_clear_12 : decode cX10_clear 12 = .ok (.iconst 0, 1) := by decide +kernel
theorem dX10_clear_13 : decode cX10_clear 13 = .ok (.putfield 93, 3) := by decide +kernel
theorem dX10_clear_16 : decode cX10_clear 16 = .ok (.iload_n 1, 1) := by decide +kernel
theorem dX10_clear_17 : decode cX10_clear 17 = .ok (.ireturn, 1) := by decide +kernel
theorem dX10_readings_0 : decode cX10_readings 0 = .ok (.aload_n 0, 1) := by decide +kernel
theorem dX10_readings_1 : decode cX10_readings 1 = .ok (.getfield 49, 3) := by decide +kernel
theorem dX10_readings_4 : decode cX10_readings 4 = .ok (.iconst 0, 1) := by decide +kernel
theorem dX10_readings_5 : decode cX10_readings 5 = .ok (.iconst (-1), 1) := by decide +kernel
theorem dX10_readings_6 : decode cX10_readings 6 = .ok (.invokevirtual 140, 3) := by decide +kernel
theorem dX10_readings_9 : decode cX10_readings 9 = .ok (.aload_n 0, 1) := by decide +kernel
theorem dX10_readings_10 : decode cX10_readings 10 = .ok (.getfield 49, 3) := by decide +kernel
theorem dX10_readings_13 : decode cX10_readings 13 = .ok (.invokevirtual 144, 3) := by decide +kernel
theorem dX10_readings_16 : decode cX10_readings 16 = .ok (.lstore_n 1, 1) := by decide +kernel
theorem dX10_readings_17 : decode cX10_readings 17 = .ok (.lload_n 1, 1) := by decide +kernel
theorem dX10_readings_18 : decode cX10_readings 18 = .ok (.ldc2_w 148, 3) := by decide +kernel
theorem dX10_readings_21 : decode cX10_readings 21 = .ok (.lcmp, 1) := by decide +kernel
theorem dX10_readings_22 : decode cX10_readings 22 = .ok (.ifCond .le 9, 3) := by decide +kernel
theorem dX10_readings_25 : decode cX10_readings 25 = .ok (.ldc2_w 150, 3) := by decide +kernel
theorem dX10_readings_28 : decode cX10_readings 28 = .ok (.goto 4, 3) := by decide +kernel
theorem dX10_readings_31 : decode cX10_readings 31 = .ok (.lload_n 1, 1) := by decide +kernel
theorem dX10_readings_32 : decode cX10_readings 32 = .ok (.lreturn, 1) := by decide +kernel
theorem dX10_reading_0 : decode cX10_reading 0 = .ok (.lload_n 1, 1) := by decide +kernel
theorem dX10_reading_1 : decode cX10_reading 1 = .ok (.lconst 0, 1) := by decide +kernel
theorem dX10_reading_2 : decode cX10_reading 2 = .ok (.lcmp, 1) := by decide +kernel
theorem dX10_reading_3 : decode cX10_reading 3 = .ok (.ifCond .lt 11, 3) := by decide +kernel
theorem dX10_reading_6 : decode cX10_reading 6 = .ok (.lload_n 1, 1) := by decide +kernel
theorem dX10_reading_7 : decode cX10_reading 7 = .ok (.ldc2_w 148, 3) := by decide +kernel
theorem dX10_reading_10 : decode cX10_reading 10 = .ok (.lcmp, 1) := by decide +kernel
theorem dX10_reading_11 : decode cX10_reading 11 = .ok (.ifCond .le 7, 3) := by decide +kernel
theorem dX10_reading_14 : decode cX10_reading 14 = .ok (.sipush (-1002), 3) := by decide +kernel
theorem dX10_reading_17 : decode cX10_reading 17 = .ok (.ireturn, 1) := by decide +kernel
theorem dX10_reading_18 : decode cX10_reading 18 = .ok (.aload_n 0, 1) := by decide +kernel
theorem dX10_reading_19 : decode cX10_reading 19 = .ok (.getfield 49, 3) := by decide +kernel
theorem dX10_reading_22 : decode cX10_reading 22 = .ok (.iconst 0, 1) := by decide +kernel
theorem dX10_reading_23 : decode cX10_reading 23 = .ok (.iconst (-1), 1) := by decide +kernel
theorem dX10_reading_24 : decode cX10_reading 24 = .ok (.invokevirtual 140, 3) := by decide +kernel
theorem dX10_reading_27 : decode cX10_reading 27 = .ok (.aload_n 0, 1) := by decide +kernel
theorem dX10_reading_28 : decode cX10_reading 28 = .ok (.getfield 49, 3) := by decide +kernel
theorem dX10_reading_31 : decode cX10_reading 31 = .ok (.lload_n 1, 1) := by decide +kernel
theorem dX10_reading_32 : decode cX10_reading 32 = .ok (.iload_n 3, 1) := by decide +kernel
theorem dX10_reading_33 : decode cX10_reading 33 = .ok (.invokevirtual 152, 3) := by decide +kernel
theorem dX10_reading_36 : decode cX10_reading 36 = .ok (.ireturn, 1) := by decide +kernel
theorem dX10_best_0 : decode cX10_best 0 = .ok (.iload_n 1, 1) := by decide +kernel
theorem dX10_best_1 : decode cX10_best 1 = .ok (.tableswitch 163 0 3 #[31, 62, 100, 131], 31) := by decide +kernel
theorem dX10_best_32 : decode cX10_best 32 = .ok (.aload_n 0, 1) := by decide +kernel
theorem dX10_best_33 : decode cX10_best 33 = .ok (.getfield 49, 3) := by decide +kernel
theorem dX10_best_36 : decode cX10_best 36 = .ok (.iconst 1, 1) := by decide +kernel
theorem dX10_best_37 : decode cX10_best 37 = .ok (.iconst (-1), 1) := by decide +kernel
theorem dX10_best_38 : decode cX10_best 38 = .ok (.invokevirtual 140, 3) := by decide +kernel
theorem dX10_best_41 : decode cX10_best 41 = .ok (.aload_n 0, 1) := by decide +kernel
theorem dX10_best_42 : decode cX10_best 42 = .ok (.getfield 49, 3) := by decide +kernel
theorem dX10_best_45 : decode cX10_best 45 = .ok (.invokevirtual 156, 3) := by decide +kernel
theorem dX10_best_48 : decode cX10_best 48 = .ok (.ifCond .eq 13, 3) := by decide +kernel
theorem dX10_best_51 : decode cX10_best 51 = .ok (.aload_n 0, 1) := by decide +kernel
theorem dX10_best_52 : decode cX10_best 52 = .ok (.getfield 49, 3) := by decide +kernel
theorem dX10_best_55 : decode cX10_best 55 = .ok (.invokevirtual 160, 3) := by decide +kernel
theorem dX10_best_58 : decode cX10_best 58 = .ok (.goto 4, 3) := by decide +kernel
theorem dX10_best_61 : decode cX10_best 61 = .ok (.iconst (-1), 1) := by decide +kernel
theorem dX10_best_62 : decode cX10_best 62 = .ok (.ireturn, 1) := by decide +kernel
theorem dX10_best_63 : decode cX10_best 63 = .ok (.aload_n 0, 1) := by decide +kernel
theorem dX10_best_64 : decode cX10_best 64 = .ok (.getfield 49, 3) := by decide +kernel
theorem dX10_best_67 : decode cX10_best 67 = .ok (.iconst 1, 1) := by decide +kernel
theorem dX10_best_68 : decode cX10_best 68 = .ok (.iconst (-1), 1) := by decide +kernel
theorem dX10_best_69 : decode cX10_best 69 = .ok (.invokevirtual 140, 3) := by decide +kernel
theorem dX10_best_72 : decode cX10_best 72 = .ok (.aload_n 0, 1) := by decide +kernel
theorem dX10_best_73 : decode cX10_best 73 = .ok (.getfield 49, 3) := by decide +kernel
theorem dX10_best_76 : decode cX10_best 76 = .ok (.invokevirtual 144, 3) := by decide +kernel
theorem dX10_best_79 : decode cX10_best 79 = .ok (.ldc2_w 163, 3) := by decide +kernel
theorem dX10_best_82 : decode cX10_best 82 = .ok (.lcmp, 1) := by decide +kernel
theorem dX10_best_83 : decode cX10_best 83 = .ok (.ifCond .le 9, 3) := by decide +kernel
theorem dX10_best_86 : decode cX10_best 86 = .ok (.sipush (-1005), 3) := by decide +kernel
theorem dX10_best_89 : decode cX10_best 89 = .ok (.goto 11, 3) := by decide +kernel
theorem dX10_best_92 : decode cX10_best 92 = .ok (.aload_n 0, 1) := by decide +kernel
theorem dX10_best_93 : decode cX10_best 93 = .ok (.getfield 49, 3) := by decide +kernel
theorem dX10_best_96 : decode cX10_best 96 = .ok (.invokevirtual 144, 3) := by decide +kernel
theorem dX10_best_99 : decode cX10_best 99 = .ok (.l2i, 1) := by decide +kernel
theorem dX10_best_100 : decode cX10_best 100 = .ok (.ireturn, 1) := by decide +kernel
theorem dX10_best_101 : decode cX10_best 101 = .ok (.aload_n 0, 1) := by decide +kernel
theorem dX10_best_102 : decode cX10_best 102 = .ok (.getfield 49, 3) := by decide +kernel
theorem dX10_best_105 : decode cX10_best 105 = .ok (.iconst 2, 1) := by decide +kernel
theorem dX10_best_106 : decode cX10_best 106 = .ok (.iconst (-1), 1) := by decide +kernel
theorem dX10_best_107 : decode cX10_best 107 = .ok (.invokevirtual 140, 3) := by decide +kernel
theorem dX10_best_110 : decode cX10_best 110 = .ok (.aload_n 0, 1) := by decide +kernel
theorem dX10_best_111 : decode cX10_best 111 = .ok (.getfield 49, 3) := by decide +kernel
theorem dX10_best_114 : decode cX10_best 114 = .ok (.invokevirtual 156, 3) := by decide +kernel
theorem dX10_best_117 : decode cX10_best 117 = .ok (.ifCond .eq 13, 3) := by decide +kernel
theorem dX10_best_120 : decode cX10_best 120 = .ok (.aload_n 0, 1) := by decide +kernel
theorem dX10_best_121 : decode cX10_best 121 = .ok (.getfield 49, 3) := by decide +kernel
theorem dX10_best_124 : decode cX10_best 124 = .ok (.invokevirtual 160, 3) := by decide +kernel
theorem dX10_best_127 : decode cX10_best 127 = .ok (.goto 4, 3) := by decide +kernel
theorem dX10_best_130 : decode cX10_best 130 = .ok (.iconst (-1), 1) := by decide +kernel
theorem dX10_best_131 : decode cX10_best 131 = .ok (.ireturn, 1) := by decide +kernel
theorem dX10_best_132 : decode cX10_best 132 = .ok (.aload_n 0, 1) := by decide +kernel
theorem dX10_best_133 : decode cX10_best 133 = .ok (.getfield 49, 3) := by decide +kernel
theorem dX10_best_136 : decode cX10_best 136 = .ok (.iconst 3, 1) := by decide +kernel
theorem dX10_best_137 : decode cX10_best 137 = .ok (.iconst (-1), 1) := by decide +kernel
theorem dX10_best_138 : decode cX10_best 138 = .ok (.invokevirtual 140, 3) := by decide +kernel
theorem dX10_best_141 : decode cX10_best 141 = .ok (.aload_n 0, 1) := by decide +kernel
theorem dX10_best_142 : decode cX10_best 142 = .ok (.getfield 49, 3) := by decide +kernel
theorem dX10_best_145 : decode cX10_best 145 = .ok (.invokevirtual 156, 3) := by decide +kernel
theorem dX10_best_148 : decode cX10_best 148 = .ok (.ifCond .eq 14, 3) := by decide +kernel
theorem dX10_best_151 : decode cX10_best 151 = .ok (.aload_n 0, 1) := by decide +kernel
theorem dX10_best_152 : decode cX10_best 152 = .ok (.getfield 49, 3) := by decide +kernel
theorem dX10_best_155 : decode cX10_best 155 = .ok (.invokevirtual 160, 3) := by decide +kernel
theorem dX10_best_158 : decode cX10_best 158 = .ok (.ineg, 1) := by decide +kernel
theorem dX10_best_159 : decode cX10_best 159 = .ok (.goto 4, 3) := by decide +kernel
theorem dX10_best_162 : decode cX10_best 162 = .ok (.iconst (-1), 1) := by decide +kernel
theorem dX10_best_163 : decode cX10_best 163 = .ok (.ireturn, 1) := by decide +kernel
theorem dX10_best_164 : decode cX10_best 164 = .ok (.sipush (-1002), 3) := by decide +kernel
theorem dX10_best_167 : decode cX10_best 167 = .ok (.ireturn, 1) := by decide +kernel
theorem dX10_cheapest_0 : decode cX10_cheapest 0 = .ok (.aload_n 0, 1) := by decide +kernel
theorem dX10_cheapest_1 : decode cX10_cheapest 1 = .ok (.getfield 49, 3) := by decide +kernel
theorem dX10_cheapest_4 : decode cX10_cheapest 4 = .ok (.iconst 1, 1) := by decide +kernel
theorem dX10_cheapest_5 : decode cX10_cheapest 5 = .ok (.iconst (-1), 1) := by decide +kernel
theorem dX10_cheapest_6 : decode cX10_cheapest 6 = .ok (.invokevirtual 140, 3) := by decide +kernel
theorem dX10_cheapest_9 : decode cX10_cheapest 9 = .ok (.aload_n 0, 1) := by decide +kernel
theorem dX10_cheapest_10 : decode cX10_cheapest 10 = .ok (.getfield 49, 3) := by decide +kernel
theorem dX10_cheapest_13 : decode cX10_cheapest 13 = .ok (.lconst 0, 1) := by decide +kernel
theorem dX10_cheapest_14 : decode cX10_cheapest 14 = .ok (.iload_n 1, 1) := by decide +kernel
theorem dX10_cheapest_15 : decode cX10_cheapest 15 = .ok (.invokevirtual 152, 3) := by decide +kernel
theorem dX10_cheapest_18 : decode cX10_cheapest 18 = .ok (.ireturn, 1) := by decide +kernel
theorem dX10_end_0 : decode cX10_end 0 = .ok (.iload_n 1, 1) := by decide +kernel
theorem dX10_end_1 : decode cX10_end 1 = .ok (.ifCond .lt 14, 3) := by decide +kernel
theorem dX10_end_4 : decode cX10_end 4 = .ok (.iload_n 1, 1) := by decide +kernel
theorem dX10_end_5 : decode cX10_end 5 = .ok (.aload_n 0, 1) := by decide +kernel
theorem dX10_end_6 : decode cX10_end 6 = .ok (.getfield 32, 3) := by decide +kernel
theorem dX10_end_9 : decode cX10_end 9 = .ok (.getfield 93, 3) := by decide +kernel
theorem dX10_end_12 : decode cX10_end 12 = .ok (.if_icmp .le 7, 3) := by decide +kernel
theorem dX10_end_15 : decode cX10_end 15 = .ok (.sipush (-1002), 3) := by decide +kernel
theorem dX10_end_18 : decode cX10_end 18 = .ok (.ireturn, 1) := by decide +kernel
theorem dX10_end_19 : decode cX10_end 19 = .ok (.aload_n 0, 1) := by decide +kernel
theorem dX10_end_20 : decode cX10_end 20 = .ok (.getfield 49, 3) := by decide +kernel
theorem dX10_end_23 : decode cX10_end 23 = .ok (.iconst 4, 1) := by decide +kernel
theorem dX10_end_24 : decode cX10_end 24 = .ok (.iload_n 1, 1) := by decide +kernel
theorem dX10_end_25 : decode cX10_end 25 = .ok (.invokevirtual 140, 3) := by decide +kernel
theorem dX10_end_28 : decode cX10_end 28 = .ok (.aload_n 0, 1) := by decide +kernel
theorem dX10_end_29 : decode cX10_end 29 = .ok (.getfield 49, 3) := by decide +kernel
theorem dX10_end_32 : decode cX10_end 32 = .ok (.invokevirtual 156, 3) := by decide +kernel
theorem dX10_end_35 : decode cX10_end 35 = .ok (.ifCond .ne 5, 3) := by decide +kernel
theorem dX10_end_38 : decode cX10_end 38 = .ok (.iconst 0, 1) := by decide +kernel
theorem dX10_end_39 : decode cX10_end 39 = .ok (.ireturn, 1) := by decide +kernel
theorem dX10_end_40 : decode cX10_end 40 = .ok (.iload_n 1, 1) := by decide +kernel
theorem dX10_end_41 : decode cX10_end 41 = .ok (.ifCond .eq 13, 3) := by decide +kernel
theorem dX10_end_44 : decode cX10_end 44 = .ok (.aload_n 0, 1) := by decide +kernel
theorem dX10_end_45 : decode cX10_end 45 = .ok (.getfield 49, 3) := by decide +kernel
theorem dX10_end_48 : decode cX10_end 48 = .ok (.invokevirtual 160, 3) := by decide +kernel
theorem dX10_end_51 : decode cX10_end 51 = .ok (.ifCond .le 5, 3) := by decide +kernel
theorem dX10_end_54 : decode cX10_end 54 = .ok (.iconst 2, 1) := by decide +kernel
theorem dX10_end_55 : decode cX10_end 55 = .ok (.ireturn, 1) := by decide +kernel
theorem dX10_end_56 : decode cX10_end 56 = .ok (.aload_n 0, 1) := by decide +kernel
theorem dX10_end_57 : decode cX10_end 57 = .ok (.getfield 49, 3) := by decide +kernel
theorem dX10_end_60 : decode cX10_end 60 = .ok (.iconst 5, 1) := by decide +kernel
theorem dX10_end_61 : decode cX10_end 61 = .ok (.iload_n 1, 1) := by decide +kernel
theorem dX10_end_62 : decode cX10_end 62 = .ok (.invokevirtual 140, 3) := by decide +kernel
theorem dX10_end_65 : decode cX10_end 65 = .ok (.aload_n 0, 1) := by decide +kernel
theorem dX10_end_66 : decode cX10_end 66 = .ok (.getfield 49, 3) := by decide +kernel
theorem dX10_end_69 : decode cX10_end 69 = .ok (.invokevirtual 160, 3) := by decide +kernel
theorem dX10_end_72 : decode cX10_end 72 = .ok (.ifCond .ge 7, 3) := by decide +kernel
theorem dX10_end_75 : decode cX10_end 75 = .ok (.iconst 1, 1) := by decide +kernel
theorem dX10_end_76 : decode cX10_end 76 = .ok (.goto 4, 3) := by decide +kernel
theorem dX10_end_79 : decode cX10_end 79 = .ok (.iconst 0, 1) := by decide +kernel
theorem dX10_end_80 : decode cX10_end 80 = .ok (.ireturn, 1) := by decide +kernel
theorem dX10_within_0 : decode cX10_within 0 = .ok (.iload_n 1, 1) := by decide +kernel
theorem dX10_within_1 : decode cX10_within 1 = .ok (.tableswitch 44 0 2 #[27, 33, 39], 27) := by decide +kernel
theorem dX10_within_28 : decode cX10_within 28 = .ok (.aload_n 0, 1) := by decide +kernel
theorem dX10_within_29 : decode cX10_within 29 = .ok (.iconst 1, 1) := by decide +kernel
theorem dX10_within_30 : decode cX10_within 30 = .ok (.invokevirtual 165, 3) := by decide +kernel
theorem dX10_within_33 : decode cX10_within 33 = .ok (.ireturn, 1) := by decide +kernel
theorem dX10_within_34 : decode cX10_within 34 = .ok (.aload_n 0, 1) := by decide +kernel
theorem dX10_within_35 : decode cX10_within 35 = .ok (.iconst 0, 1) := by decide +kernel
theorem dX10_within_36 : decode cX10_within 36 = .ok (.invokevirtual 165, 3) := by decide +kernel
theorem dX10_within_39 : decode cX10_within 39 = .ok (.ireturn, 1) := by decide +kernel
theorem dX10_within_40 : decode cX10_within 40 = .ok (.aload_n 0, 1) := by decide +kernel
theorem dX10_within_41 : decode cX10_within 41 = .ok (.invokevirtual 169, 3) := by decide +kernel
theorem dX10_within_44 : decode cX10_within 44 = .ok (.ireturn, 1) := by decide +kernel
theorem dX10_within_45 : decode cX10_within 45 = .ok (.sipush (-1002), 3) := by decide +kernel
theorem dX10_within_48 : decode cX10_within 48 = .ok (.ireturn, 1) := by decide +kernel
theorem dX10_key_0 : decode cX10_key 0 = .ok (.aload_n 0, 1) := by decide +kernel
theorem dX10_key_1 : decode cX10_key 1 = .ok (.aload_n 0, 1) := by decide +kernel
theorem dX10_key_2 : decode cX10_key 2 = .ok (.getfield 78, 3) := by decide +kernel
theorem dX10_key_5 : decode cX10_key 5 = .ok (.iload_n 1, 1) := by decide +kernel
theorem dX10_key_6 : decode cX10_key 6 = .ok (.invokevirtual 172, 3) := by decide +kernel
theorem dX10_key_9 : decode cX10_key 9 = .ok (.ireturn, 1) := by decide +kernel
theorem dX10_strange_0 : decode cX10_strange 0 = .ok (.aload_n 0, 1) := by decide +kernel
theorem dX10_strange_1 : decode cX10_strange 1 = .ok (.aload_n 0, 1) := by decide +kernel
theorem dX10_strange_2 : decode cX10_strange 2 = .ok (.getfield 82, 3) := by decide +kernel
theorem dX10_strange_5 : decode cX10_strange 5 = .ok (.iload_n 1, 1) := by decide +kernel
theorem dX10_strange_6 : decode cX10_strange 6 = .ok (.invokevirtual 172, 3) := by decide +kernel
theorem dX10_strange_9 : decode cX10_strange 9 = .ok (.ireturn, 1) := by decide +kernel
theorem dX10_ways_0 : decode cX10_ways 0 = .ok (.iload_n 1, 1) := by decide +kernel
theorem dX10_ways_1 : decode cX10_ways 1 = .ok (.ifCond .lt 9, 3) := by decide +kernel
theorem dX10_ways_4 : decode cX10_ways 4 = .ok (.iload_n 1, 1) := by decide +kernel
theorem dX10_ways_5 : decode cX10_ways 5 = .ok (.bipush 40, 2) := by decide +kernel
theorem dX10_ways_7 : decode cX10_ways 7 = .ok (.if_icmp .le 7, 3) := by decide +kernel
theorem dX10_ways_10 : decode cX10_ways 10 = .ok (.ldc2_w 176, 3) := by decide +kernel
theorem dX10_ways_13 : decode cX10_ways 13 = .ok (.lreturn, 1) := by decide +kernel
theorem dX10_ways_14 : decode cX10_ways 14 = .ok (.aload_n 0, 1) := by decide +kernel
theorem dX10_ways_15 : decode cX10_ways 15 = .ok (.getfield 69, 3) := by decide +kernel
theorem dX10_ways_18 : decode cX10_ways 18 = .ok (.iconst 0, 1) := by decide +kernel
theorem dX10_ways_19 : decode cX10_ways 19 = .ok (.lconst 1, 1) := by decide +kernel
theorem dX10_ways_20 : decode cX10_ways 20 = .ok (.lastore, 1) := by decide +kernel
theorem dX10_ways_21 : decode cX10_ways 21 = .ok (.iconst 1, 1) := by decide +kernel
theorem dX10_ways_22 : decode cX10_ways 22 = .ok (.istore_n 2, 1) := by decide +kernel
theorem dX10_ways_23 : decode cX10_ways 23 = .ok (.iload_n 2, 1) := by decide +kernel
theorem dX10_ways_24 : decode cX10_ways 24 = .ok (.iload_n 1, 1) := by decide +kernel
theorem dX10_ways_25 : decode cX10_ways 25 = .ok (.if_icmp .gt 75, 3) := by decide +kernel
theorem dX10_ways_28 : decode cX10_ways 28 = .ok (.aload_n 0, 1) := by decide +kernel
theorem dX10_ways_29 : decode cX10_ways 29 = .ok (.getfield 69, 3) := by decide +kernel
theorem dX10_ways_32 : decode cX10_ways 32 = .ok (.iload_n 2, 1) := by decide +kernel
theorem dX10_ways_33 : decode cX10_ways 33 = .ok (.lconst 0, 1) := by decide +kernel
theorem dX10_ways_34 : decode cX10_ways 34 = .ok (.lastore, 1) := by decide +kernel
theorem dX10_ways_35 : decode cX10_ways 35 = .ok (.iconst 0, 1) := by decide +kernel
theorem dX10_ways_36 : decode cX10_ways 36 = .ok (.istore_n 3, 1) := by decide +kernel
theorem dX10_ways_37 : decode cX10_ways 37 = .ok (.iload_n 3, 1) := by decide +kernel
theorem dX10_ways_38 : decode cX10_ways 38 = .ok (.aload_n 0, 1) := by decide +kernel
theorem dX10_ways_39 : decode cX10_ways 39 = .ok (.getfield 19, 3) := by decide +kernel
theorem dX10_ways_42 : decode cX10_ways 42 = .ok (.getfield 89, 3) := by decide +kernel
theorem dX10_ways_45 : decode cX10_ways 45 = .ok (.if_icmp .ge 49, 3) := by decide +kernel
theorem dX10_ways_48 : decode cX10_ways 48 = .ok (.iload_n 2, 1) := by decide +kernel
theorem dX10_ways_49 : decode cX10_ways 49 = .ok (.aload_n 0, 1) := by decide +kernel
theorem dX10_ways_50 : decode cX10_ways 50 = .ok (.getfield 19, 3) := by decide +kernel
theorem dX10_ways_53 : decode cX10_ways 53 = .ok (.getfield 125, 3) := by decide +kernel
theorem dX10_ways_56 : decode cX10_ways 56 = .ok (.iload_n 3, 1) := by decide +kernel
theorem dX10_ways_57 : decode cX10_ways 57 = .ok (.iaload, 1) := by decide +kernel
theorem dX10_ways_58 : decode cX10_ways 58 = .ok (.isub, 1) := by decide +kernel
theorem dX10_ways_59 : decode cX10_ways 59 = .ok (.istore 4, 2) := by decide +kernel
theorem dX10_ways_61 : decode cX10_ways 61 = .ok (.iload 4, 2) := by decide +kernel
theorem dX10_ways_63 : decode cX10_ways 63 = .ok (.ifCond .lt 25, 3) := by decide +kernel
theorem dX10_ways_66 : decode cX10_ways 66 = .ok (.aload_n 0, 1) := by decide +kernel
theorem dX10_ways_67 : decode cX10_ways 67 = .ok (.getfield 69, 3) := by decide +kernel
theorem dX10_ways_70 : decode cX10_ways 70 = .ok (.iload_n 2, 1) := by decide +kernel
theorem dX10_ways_71 : decode cX10_ways 71 = .ok (.aload_n 0, 1) := by decide +kernel
theorem dX10_ways_72 : decode cX10_ways 72 = .ok (.getfield 69, 3) := by decide +kernel
theorem dX10_ways_75 : decode cX10_ways 75 = .ok (.iload_n 2, 1) := by decide +kernel
theorem dX10_ways_76 : decode cX10_ways 76 = .ok (.laload, 1) := by decide +kernel
theorem dX10_ways_77 : decode cX10_ways 77 = .ok (.aload_n 0, 1) := by decide +kernel
theorem dX10_ways_78 : decode cX10_ways 78 = .ok (.getfield 69, 3) := by decide +kernel
theorem dX10_ways_81 : decode cX10_ways 81 = .ok (.iload 4, 2) := by decide +kernel
theorem dX10_ways_83 : decode cX10_ways 83 = .ok (.laload, 1) := by decide +kernel
theorem dX10_ways_84 : decode cX10_ways 84 = .ok (.invokestatic 178, 3) := by decide +kernel
theorem dX10_ways_87 : decode cX10_ways 87 = .ok (.lastore, 1) := by decide +kernel
theorem dX10_ways_88 : decode cX10_ways 88 = .ok (.iinc 3 1, 3) := by decide +kernel
theorem dX10_ways_91 : decode cX10_ways 91 = .ok (.goto (-54), 3) := by decide +kernel
theorem dX10_ways_94 : decode cX10_ways 94 = .ok (.iinc 2 1, 3) := by decide +kernel
theorem dX10_ways_97 : decode cX10_ways 97 = .ok (.goto (-74), 3) := by decide +kernel
theorem dX10_ways_100 : decode cX10_ways 100 = .ok (.aload_n 0, 1) := by decide +kernel
theorem dX10_ways_101 : decode cX10_ways 101 = .ok (.getfield 69, 3) := by decide +kernel
theorem dX10_ways_104 : decode cX10_ways 104 = .ok (.iload_n 1, 1) := by decide +kernel
theorem dX10_ways_105 : decode cX10_ways 105 = .ok (.laload, 1) := by decide +kernel
theorem dX10_ways_106 : decode cX10_ways 106 = .ok (.ldc2_w 148, 3) := by decide +kernel
theorem dX10_ways_109 : decode cX10_ways 109 = .ok (.lcmp, 1) := by decide +kernel
theorem dX10_ways_110 : decode cX10_ways 110 = .ok (.ifCond .le 9, 3) := by decide +kernel
theorem dX10_ways_113 : decode cX10_ways 113 = .ok (.ldc2_w 150, 3) := by decide +kernel
theorem dX10_ways_116 : decode cX10_ways 116 = .ok (.goto 9, 3) := by decide +kernel
theorem dX10_ways_119 : decode cX10_ways 119 = .ok (.aload_n 0, 1) := by decide +kernel
theorem dX10_ways_120 : decode cX10_ways 120 = .ok (.getfield 69, 3) := by decide +kernel
theorem dX10_ways_123 : decode cX10_ways 123 = .ok (.iload_n 1, 1) := by decide +kernel
theorem dX10_ways_124 : decode cX10_ways 124 = .ok (.laload, 1) := by decide +kernel
theorem dX10_ways_125 : decode cX10_ways 125 = .ok (.lreturn, 1) := by decide +kernel
theorem dX10_rows_0 : decode cX10_rows 0 = .ok (.iload_n 1, 1) := by decide +kernel
theorem dX10_rows_1 : decode cX10_rows 1 = .ok (.ifCond .lt 9, 3) := by decide +kernel
theorem dX10_rows_4 : decode cX10_rows 4 = .ok (.iload_n 1, 1) := by decide +kernel
theorem dX10_rows_5 : decode cX10_rows 5 = .ok (.bipush 20, 2) := by decide +kernel
theorem dX10_rows_7 : decode cX10_rows 7 = .ok (.if_icmp .le 7, 3) := by decide +kernel
theorem dX10_rows_10 : decode cX10_rows 10 = .ok (.ldc2_w 176, 3) := by decide +kernel
theorem dX10_rows_13 : decode cX10_rows 13 = .ok (.lreturn, 1) := by decide +kernel
theorem dX10_rows_14 : decode cX10_rows 14 = .ok (.aload_n 0, 1) := by decide +kernel
theorem dX10_rows_15 : decode cX10_rows 15 = .ok (.getfield 19, 3) := by decide +kernel
theorem dX10_rows_18 : decode cX10_rows 18 = .ok (.getfield 89, 3) := by decide +kernel
theorem dX10_rows_21 : decode cX10_rows 21 = .ok (.ifCond .ne 13, 3) := by decide +kernel
theorem dX10_rows_24 : decode cX10_rows 24 = .ok (.iload_n 1, 1) := by decide +kernel
theorem dX10_rows_25 : decode cX10_rows 25 = .ok (.ifCond .ne 7, 3) := by decide +kernel
theorem dX10_rows_28 : decode cX10_rows 28 = .ok (.lconst 1, 1) := by decide +kernel
theorem dX10_rows_29 : decode cX10_rows 29 = .ok (.goto 4, 3) := by decide +kernel
theorem dX10_rows_32 : decode cX10_rows 32 = .ok (.lconst 0, 1) := by decide +kernel
theorem dX10_rows_33 : decode cX10_rows 33 = .ok (.lreturn, 1) := by decide +kernel
theorem dX10_rows_34 : decode cX10_rows 34 = .ok (.aload_n 0, 1) := by decide +kernel
theorem dX10_rows_35 : decode cX10_rows 35 = .ok (.invokevirtual 182, 3) := by decide +kernel
theorem dX10_rows_38 : decode cX10_rows 38 = .ok (.iload_n 1, 1) := by decide +kernel
theorem dX10_rows_39 : decode cX10_rows 39 = .ok (.invokevirtual 186, 3) := by decide +kernel
theorem dX10_rows_42 : decode cX10_rows 42 = .ok (.lstore_n 2, 1) := by decide +kernel
theorem dX10_rows_43 : decode cX10_rows 43 = .ok (.lload_n 2, 1) := by decide +kernel
theorem dX10_rows_44 : decode cX10_rows 44 = .ok (.ldc2_w 148, 3) := by decide +kernel
theorem dX10_rows_47 : decode cX10_rows 47 = .ok (.lcmp, 1) := by decide +kernel
theorem dX10_rows_48 : decode cX10_rows 48 = .ok (.ifCond .le 9, 3) := by decide +kernel
theorem dX10_rows_51 : decode cX10_rows 51 = .ok (.ldc2_w 150, 3) := by decide +kernel
theorem dX10_rows_54 : decode cX10_rows 54 = .ok (.goto 4, 3) := by decide +kernel
theorem dX10_rows_57 : decode cX10_rows 57 = .ok (.lload_n 2, 1) := by decide +kernel
theorem dX10_rows_58 : decode cX10_rows 58 = .ok (.lreturn, 1) := by decide +kernel
theorem dX10_price_0 : decode cX10_price 0 = .ok (.iload_n 1, 1) := by decide +kernel
theorem dX10_price_1 : decode cX10_price 1 = .ok (.ifCond .lt 18, 3) := by decide +kernel
theorem dX10_price_4 : decode cX10_price 4 = .ok (.iload_n 1, 1) := by decide +kernel
theorem dX10_price_5 : decode cX10_price 5 = .ok (.iconst 3, 1) := by decide +kernel
theorem dX10_price_6 : decode cX10_price 6 = .ok (.if_icmp .ge 13, 3) := by decide +kernel
theorem dX10_price_9 : decode cX10_price 9 = .ok (.iload_n 2, 1) := by decide +kernel
theorem dX10_price_10 : decode cX10_price 10 = .ok (.ifCond .lt 9, 3) := by decide +kernel
theorem dX10_price_13 : decode cX10_price 13 = .ok (.iload_n 2, 1) := by decide +kernel
theorem dX10_price_14 : decode cX10_price 14 = .ok (.bipush 99, 2) := by decide +kernel
theorem dX10_price_16 : decode cX10_price 16 = .ok (.if_icmp .le 7, 3) := by decide +kernel
theorem dX10_price_19 : decode cX10_price 19 = .ok (.sipush (-1002), 3) := by decide +kernel
theorem dX10_price_22 : decode cX10_price 22 = .ok (.ireturn, 1) := by decide +kernel
theorem dX10_price_23 : decode cX10_price 23 = .ok (.aload_n 0, 1) := by decide +kernel
theorem dX10_price_24 : decode cX10_price 24 = .ok (.getfield 10, 3) := by decide +kernel
theorem dX10_price_27 : decode cX10_price 27 = .ok (.getfield 192, 3) := by decide +kernel
theorem dX10_price_30 : decode cX10_price 30 = .ok (.iload_n 1, 1) := by decide +kernel
theorem dX10_price_31 : decode cX10_price 31 = .ok (.iaload, 1) := by decide +kernel
theorem dX10_price_32 : decode cX10_price 32 = .ok (.istore_n 3, 1) := by decide +kernel
theorem dX10_price_33 : decode cX10_price 33 = .ok (.aload_n 0, 1) := by decide +kernel
theorem dX10_price_34 : decode cX10_price 34 = .ok (.getfield 10, 3) := by decide +kernel
theorem dX10_price_37 : decode cX10_price 37 = .ok (.getfield 192, 3) := by decide +kernel
theorem dX10_price_40 : decode cX10_price 40 = .ok (.iload_n 1, 1) := by decide +kernel
theorem dX10_price_41 : decode cX10_price 41 = .ok (.iload_n 2, 1) := by decide +kernel
theorem dX10_price_42 : decode cX10_price 42 = .ok (.iastore, 1) := by decide +kernel
theorem dX10_price_43 : decode cX10_price 43 = .ok (.aload_n 0, 1) := by decide +kernel
theorem dX10_price_44 : decode cX10_price 44 = .ok (.invokevirtual 94, 3) := by decide +kernel
theorem dX10_price_47 : decode cX10_price 47 = .ok (.iload_n 3, 1) := by decide +kernel
theorem dX10_price_48 : decode cX10_price 48 = .ok (.ireturn, 1) := by decide +kernel
theorem dX10_patched_0 : decode cX10_patched 0 = .ok (.iload_n 1, 1) := by decide +kernel
theorem dX10_patched_1 : decode cX10_patched 1 = .ok (.ifCond .lt 8, 3) := by decide +kernel
theorem dX10_patched_4 : decode cX10_patched 4 = .ok (.iload_n 1, 1) := by decide +kernel
theorem dX10_patched_5 : decode cX10_patched 5 = .ok (.iconst 1, 1) := by decide +kernel
theorem dX10_patched_6 : decode cX10_patched 6 = .ok (.if_icmp .le 7, 3) := by decide +kernel
theorem dX10_patched_9 : decode cX10_patched 9 = .ok (.sipush (-1002), 3) := by decide +kernel
theorem dX10_patched_12 : decode cX10_patched 12 = .ok (.ireturn, 1) := by decide +kernel
theorem dX10_patched_13 : decode cX10_patched 13 = .ok (.aload_n 0, 1) := by decide +kernel
theorem dX10_patched_14 : decode cX10_patched 14 = .ok (.getfield 56, 3) := by decide +kernel
theorem dX10_patched_17 : decode cX10_patched 17 = .ok (.invokevirtual 195, 3) := by decide +kernel
theorem dX10_patched_20 : decode cX10_patched 20 = .ok (.lstore_n 2, 1) := by decide +kernel
theorem dX10_patched_21 : decode cX10_patched 21 = .ok (.iload_n 1, 1) := by decide +kernel
theorem dX10_patched_22 : decode cX10_patched 22 = .ok (.ifCond .ne 11, 3) := by decide +kernel
theorem dX10_patched_25 : decode cX10_patched 25 = .ok (.lload_n 2, 1) := by decide +kernel
theorem dX10_patched_26 : decode cX10_patched 26 = .ok (.bipush 20, 2) := by decide +kernel
theorem dX10_patched_28 : decode cX10_patched 28 = .ok (.lshr, 1) := by decide +kernel
theorem dX10_patched_29 : decode cX10_patched 29 = .ok (.l2i, 1) := by decide +kernel
theorem dX10_patched_30 : decode cX10_patched 30 = .ok (.goto 9, 3) := by decide +kernel
theorem dX10_patched_33 : decode cX10_patched 33 = .ok (.lload_n 2, 1) := by decide +kernel
theorem dX10_patched_34 : decode cX10_patched 34 = .ok (.ldc2_w 197, 3) := by decide +kernel
theorem dX10_patched_37 : decode cX10_patched 37 = .ok (.land, 1) := by decide +kernel
theorem dX10_patched_38 : decode cX10_patched 38 = .ok (.l2i, 1) := by decide +kernel
theorem dX10_patched_39 : decode cX10_patched 39 = .ok (.ireturn, 1) := by decide +kernel
theorem dX10_line_0 : decode cX10_line 0 = .ok (.aload_n 0, 1) := by decide +kernel
theorem dX10_line_1 : decode cX10_line 1 = .ok (.getfield 32, 3) := by decide +kernel
theorem dX10_line_4 : decode cX10_line 4 = .ok (.getfield 93, 3) := by decide +kernel
theorem dX10_line_7 : decode cX10_line 7 = .ok (.iconst 1, 1) := by decide +kernel
theorem dX10_line_8 : decode cX10_line 8 = .ok (.if_icmp .lt 15, 3) := by decide +kernel
theorem dX10_line_11 : decode cX10_line 11 = .ok (.aload_n 0, 1) := by decide +kernel
theorem dX10_line_12 : decode cX10_line 12 = .ok (.getfield 32, 3) := by decide +kernel
theorem dX10_line_15 : decode cX10_line 15 = .ok (.getfield 93, 3) := by decide +kernel
theorem dX10_line_18 : decode cX10_line 18 = .ok (.bipush 24, 2) := by decide +kernel
theorem dX10_line_20 : decode cX10_line 20 = .ok (.if_icmp .le 7, 3) := by decide +kernel
theorem dX10_line_23 : decode cX10_line 23 = .ok (.sipush (-1002), 3) := by decide +kernel
theorem dX10_line_26 : decode cX10_line 26 = .ok (.ireturn, 1) := by decide +kernel
theorem dX10_line_27 : decode cX10_line 27 = .ok (.aload_n 0, 1) := by decide +kernel
theorem dX10_line_28 : decode cX10_line 28 = .ok (.getfield 65, 3) := by decide +kernel
theorem dX10_line_31 : decode cX10_line 31 = .ok (.getfield 92, 3) := by decide +kernel
theorem dX10_line_34 : decode cX10_line 34 = .ok (.iconst 4, 1) := by decide +kernel
theorem dX10_line_35 : decode cX10_line 35 = .ok (.if_icmp .lt 7, 3) := by decide +kernel
theorem dX10_line_38 : decode cX10_line 38 = .ok (.sipush (-1004), 3) := by decide +kernel
theorem dX10_line_41 : decode cX10_line 41 = .ok (.ireturn, 1) := by decide +kernel
theorem dX10_line_42 : decode cX10_line 42 = .ok (.aload_n 0, 1) := by decide +kernel
theorem dX10_line_43 : decode cX10_line 43 = .ok (.getfield 65, 3) := by decide +kernel
theorem dX10_line_46 : decode cX10_line 46 = .ok (.aload_n 0, 1) := by decide +kernel
theorem dX10_line_47 : decode cX10_line 47 = .ok (.getfield 32, 3) := by decide +kernel
theorem dX10_line_50 : decode cX10_line 50 = .ok (.invokevirtual 199, 3) := by decide +kernel
theorem dX10_line_53 : decode cX10_line 53 = .ok (.aload_n 0, 1) := by decide +kernel
theorem dX10_line_54 : decode cX10_line 54 = .ok (.getfield 32, 3) := by decide +kernel
theorem dX10_line_57 : decode cX10_line 57 = .ok (.iconst 0, 1) := by decide +kernel
theorem dX10_line_58 : decode cX10_line 58 = .ok (.putfield 93, 3) := by decide +kernel
theorem dX10_line_61 : decode cX10_line 61 = .ok (.aload_n 0, 1) := by decide +kernel
theorem dX10_line_62 : decode cX10_line 62 = .ok (.invokevirtual 94, 3) := by decide +kernel
theorem dX10_line_65 : decode cX10_line 65 = .ok (.aload_n 0, 1) := by decide +kernel
theorem dX10_line_66 : decode cX10_line 66 = .ok (.getfield 65, 3) := by decide +kernel
theorem dX10_line_69 : decode cX10_line 69 = .ok (.getfield 92, 3) := by decide +kernel
theorem dX10_line_72 : decode cX10_line 72 = .ok (.ireturn, 1) := by decide +kernel
theorem dX10_drop_0 : decode cX10_drop 0 = .ok (.aload_n 0, 1) := by decide +kernel
theorem dX10_drop_1 : decode cX10_drop 1 = .ok (.getfield 65, 3) := by decide +kernel
theorem dX10_drop_4 : decode cX10_drop 4 = .ok (.getfield 92, 3) := by decide +kernel
theorem dX10_drop_7 : decode cX10_drop 7 = .ok (.istore_n 1, 1) := by decide +kernel
theorem dX10_drop_8 : decode cX10_drop 8 = .ok (.aload_n 0, 1) := by decide +kernel
theorem dX10_drop_9 : decode cX10_drop 9 = .ok (.getfield 65, 3) := by decide +kernel
theorem dX10_drop_12 : decode cX10_drop 12 = .ok (.iconst 0, 1) := by decide +kernel
theorem dX10_drop_13 : decode cX10_drop 13 = .ok (.putfield 92, 3) := by decide +kernel
theorem dX10_drop_16 : decode cX10_drop 16 = .ok (.aload_n 0, 1) := by decide +kernel
theorem dX10_drop_17 : decode cX10_drop 17 = .ok (.invokevirtual 94, 3) := by decide +kernel
theorem dX10_drop_20 : decode cX10_drop 20 = .ok (.iload_n 1, 1) := by decide +kernel
theorem dX10_drop_21 : decode cX10_drop 21 = .ok (.ireturn, 1) := by decide +kernel
theorem dX10_totals_0 : decode cX10_totals 0 = .ok (.aload_n 0, 1) := by decide +kernel
theorem dX10_totals_1 : decode cX10_totals 1 = .ok (.getfield 65, 3) := by decide +kernel
theorem dX10_totals_4 : decode cX10_totals 4 = .ok (.invokevirtual 203, 3) := by decide +kernel
theorem dX10_totals_7 : decode cX10_totals 7 = .ok (.aload_n 0, 1) := by decide +kernel
theorem dX10_totals_8 : decode cX10_totals 8 = .ok (.getfield 65, 3) := by decide +kernel
theorem dX10_totals_11 : decode cX10_totals 11 = .ok (.invokevirtual 206, 3) := by decide +kernel
theorem dX10_totals_14 : decode cX10_totals 14 = .ok (.ireturn, 1) := by decide +kernel
theorem dX10_uses_0 : decode cX10_uses 0 = .ok (.iload_n 1, 1) := by decide +kernel
theorem dX10_uses_1 : decode cX10_uses 1 = .ok (.iconst (-1), 1) := by decide +kernel
theorem dX10_uses_2 : decode cX10_uses 2 = .ok (.if_icmp .eq 18, 3) := by decide +kernel
theorem dX10_uses_5 : decode cX10_uses 5 = .ok (.aload_n 0, 1) := by decide +kernel
theorem dX10_uses_6 : decode cX10_uses 6 = .ok (.getfield 19, 3) := by decide +kernel
theorem dX10_uses_9 : decode cX10_uses 9 = .ok (.iload_n 1, 1) := by decide +kernel
theorem dX10_uses_10 : decode cX10_uses 10 = .ok (.invokevirtual 114, 3) := by decide +kernel
theorem dX10_uses_13 : decode cX10_uses 13 = .ok (.ifCond .ne 7, 3) := by decide +kernel
theorem dX10_uses_16 : decode cX10_uses 16 = .ok (.sipush (-1001), 3) := by decide +kernel
theorem dX10_uses_19 : decode cX10_uses 19 = .ok (.ireturn, 1) := by decide +kernel
theorem dX10_uses_20 : decode cX10_uses 20 = .ok (.aload_n 0, 1) := by decide +kernel
theorem dX10_uses_21 : decode cX10_uses 21 = .ok (.getfield 65, 3) := by decide +kernel
theorem dX10_uses_24 : decode cX10_uses 24 = .ok (.invokevirtual 203, 3) := by decide +kernel
theorem dX10_uses_27 : decode cX10_uses 27 = .ok (.aload_n 0, 1) := by decide +kernel
theorem dX10_uses_28 : decode cX10_uses 28 = .ok (.getfield 65, 3) := by decide +kernel
theorem dX10_uses_31 : decode cX10_uses 31 = .ok (.invokevirtual 209, 3) := by decide +kernel
theorem dX10_uses_34 : decode cX10_uses 34 = .ok (.iload_n 1, 1) := by decide +kernel
theorem dX10_uses_35 : decode cX10_uses 35 = .ok (.iconst (-1), 1) := by decide +kernel
theorem dX10_uses_36 : decode cX10_uses 36 = .ok (.if_icmp .ne 13, 3) := by decide +kernel
theorem dX10_uses_39 : decode cX10_uses 39 = .ok (.aload_n 0, 1) := by decide +kernel
theorem dX10_uses_40 : decode cX10_uses 40 = .ok (.getfield 65, 3) := by decide +kernel
theorem dX10_uses_43 : decode cX10_uses 43 = .ok (.getfield 212, 3) := by decide +kernel
theorem dX10_uses_46 : decode cX10_uses 46 = .ok (.goto 12, 3) := by decide +kernel
theorem dX10_uses_49 : decode cX10_uses 49 = .ok (.aload_n 0, 1) := by decide +kernel
theorem dX10_uses_50 : decode cX10_uses 50 = .ok (.getfield 65, 3) := by decide +kernel
theorem dX10_uses_53 : decode cX10_uses 53 = .ok (.getfield 215, 3) := by decide +kernel
theorem dX10_uses_56 : decode cX10_uses 56 = .ok (.iload_n 1, 1) := by decide +kernel
theorem dX10_uses_57 : decode cX10_uses 57 = .ok (.iaload, 1) := by decide +kernel
theorem dX10_uses_58 : decode cX10_uses 58 = .ok (.ireturn, 1) := by decide +kernel
theorem dX10_learn_0 : decode cX10_learn 0 = .ok (.iload_n 1, 1) := by decide +kernel
theorem dX10_learn_1 : decode cX10_learn 1 = .ok (.iconst 1, 1) := by decide +kernel
theorem dX10_learn_2 : decode cX10_learn 2 = .ok (.if_icmp .lt 9, 3) := by decide +kernel
theorem dX10_learn_5 : decode cX10_learn 5 = .ok (.iload_n 1, 1) := by decide +kernel
theorem dX10_learn_6 : decode cX10_learn 6 = .ok (.bipush 20, 2) := by decide +kernel
theorem dX10_learn_8 : decode cX10_learn 8 = .ok (.if_icmp .le 7, 3) := by decide +kernel
theorem dX10_learn_11 : decode cX10_learn 11 = .ok (.sipush (-1002), 3) := by decide +kernel
theorem dX10_learn_14 : decode cX10_learn 14 = .ok (.ireturn, 1) := by decide +kernel
theorem dX10_learn_15 : decode cX10_learn 15 = .ok (.aload_n 0, 1) := by decide +kernel
theorem dX10_learn_16 : decode cX10_learn 16 = .ok (.invokevirtual 94, 3) := by decide +kernel
theorem dX10_learn_19 : decode cX10_learn 19 = .ok (.aload_n 0, 1) := by decide +kernel
theorem dX10_learn_20 : decode cX10_learn 20 = .ok (.getfield 65, 3) := by decide +kernel
theorem dX10_learn_23 : decode cX10_learn 23 = .ok (.invokevirtual 203, 3) := by decide +kernel
theorem dX10_learn_26 : decode cX10_learn 26 = .ok (.iconst 0, 1) := by decide +kernel
theorem dX10_learn_27 : decode cX10_learn 27 = .ok (.istore_n 2, 1) := by decide +kernel
theorem dX10_learn_28 : decode cX10_learn 28 = .ok (.iload_n 2, 1) := by decide +kernel
theorem dX10_learn_29 : decode cX10_learn 29 = .ok (.iload_n 1, 1) := by decide +kernel
theorem dX10_learn_30 : decode cX10_learn 30 = .ok (.if_icmp .ge 28, 3) := by decide +kernel
theorem dX10_learn_33 : decode cX10_learn 33 = .ok (.aload_n 0, 1) := by decide +kernel
theorem dX10_learn_34 : decode cX10_learn 34 = .ok (.getfield 65, 3) := by decide +kernel
theorem dX10_learn_37 : decode cX10_learn 37 = .ok (.invokevirtual 209, 3) := by decide +kernel
theorem dX10_learn_40 : decode cX10_learn 40 = .ok (.aload_n 0, 1) := by decide +kernel
theorem dX10_learn_41 : decode cX10_learn 41 = .ok (.getfield 65, 3) := by decide +kernel
theorem dX10_learn_44 : decode cX10_learn 44 = .ok (.invokevirtual 218, 3) := by decide +kernel
theorem dX10_learn_47 : decode cX10_learn 47 = .ok (.ifCond .ne 5, 3) := by decide +kernel
theorem dX10_learn_50 : decode cX10_learn 50 = .ok (.iload_n 2, 1) := by decide +kernel
theorem dX10_learn_51 : decode cX10_learn 51 = .ok (.ireturn, 1) := by decide +kernel
theorem dX10_learn_52 : decode cX10_learn 52 = .ok (.iinc 2 1, 3) := by decide +kernel
theorem dX10_learn_55 : decode cX10_learn 55 = .ok (.goto (-27), 3) := by decide +kernel
theorem dX10_learn_58 : decode cX10_learn 58 = .ok (.iconst (-1), 1) := by decide +kernel
theorem dX10_learn_59 : decode cX10_learn 59 = .ok (.ireturn, 1) := by decide +kernel
theorem dX10_fresh_0 : decode cX10_fresh 0 = .ok (.iload_n 1, 1) := by decide +kernel
theorem dX10_fresh_1 : decode cX10_fresh 1 = .ok (.ifCond .lt 19, 3) := by decide +kernel
theorem dX10_fresh_4 : decode cX10_fresh 4 = .ok (.iload_n 1, 1) := by decide +kernel
theorem dX10_fresh_5 : decode cX10_fresh 5 = .ok (.bipush 99, 2) := by decide +kernel
theorem dX10_fresh_7 : decode cX10_fresh 7 = .ok (.if_icmp .gt 13, 3) := by decide +kernel
theorem dX10_fresh_10 : decode cX10_fresh 10 = .ok (.iload_n 2, 1) := by decide +kernel
theorem dX10_fresh_11 : decode cX10_fresh 11 = .ok (.ifCond .lt 9, 3) := by decide +kernel
theorem dX10_fresh_14 : decode cX10_fresh 14 = .ok (.iload_n 2, 1) := by decide +kernel
theorem dX10_fresh_15 : decode cX10_fresh 15 = .ok (.bipush 6, 2) := by decide +kernel
theorem dX10_fresh_17 : decode cX10_fresh 17 = .ok (.if_icmp .le 7, 3) := by decide +kernel
theorem dX10_fresh_20 : decode cX10_fresh 20 = .ok (.sipush (-1002), 3) := by decide +kernel
theorem dX10_fresh_23 : decode cX10_fresh 23 = .ok (.ireturn, 1) := by decide +kernel
theorem dX10_fresh_24 : decode cX10_fresh 24 = .ok (.aload_n 0, 1) := by decide +kernel
theorem dX10_fresh_25 : decode cX10_fresh 25 = .ok (.getfield 19, 3) := by decide +kernel
theorem dX10_fresh_28 : decode cX10_fresh 28 = .ok (.getfield 89, 3) := by decide +kernel
theorem dX10_fresh_31 : decode cX10_fresh 31 = .ok (.bipush 16, 2) := by decide +kernel
theorem dX10_fresh_33 : decode cX10_fresh 33 = .ok (.if_icmp .lt 7, 3) := by decide +kernel
theorem dX10_fresh_36 : decode cX10_fresh 36 = .ok (.sipush (-1003), 3) := by decide +kernel
theorem dX10_fresh_39 : decode cX10_fresh 39 = .ok (.ireturn, 1) := by decide +kernel
theorem dX10_fresh_40 : decode cX10_fresh 40 = .ok (.aload_n 0, 1) := by decide +kernel
theorem dX10_fresh_41 : decode cX10_fresh 41 = .ok (.getfield 65, 3) := by decide +kernel
theorem dX10_fresh_44 : decode cX10_fresh 44 = .ok (.iload_n 1, 1) := by decide +kernel
theorem dX10_fresh_45 : decode cX10_fresh 45 = .ok (.invokevirtual 221, 3) := by decide +kernel
theorem dX10_fresh_48 : decode cX10_fresh 48 = .ok (.aload_n 0, 1) := by decide +kernel
theorem dX10_fresh_49 : decode cX10_fresh 49 = .ok (.getfield 65, 3) := by decide +kernel
theorem dX10_fresh_52 : decode cX10_fresh 52 = .ok (.getfield 224, 3) := by decide +kernel
theorem dX10_fresh_55 : decode cX10_fresh 55 = .ok (.ifCond .gt 5, 3) := by decide +kernel
theorem dX10_fresh_58 : decode cX10_fresh 58 = .ok (.iconst (-1), 1) := by decide +kernel
theorem dX10_fresh_59 : decode cX10_fresh 59 = .ok (.ireturn, 1) := by decide +kernel
theorem dX10_fresh_60 : decode cX10_fresh 60 = .ok (.iload_n 2, 1) := by decide +kernel
theorem dX10_fresh_61 : decode cX10_fresh 61 = .ok (.lookupswitch 46 #[(0, 27), (1, 35)], 27) := by decide +kernel
theorem dX10_fresh_88 : decode cX10_fresh 88 = .ok (.aload_n 0, 1) := by decide +kernel
theorem dX10_fresh_89 : decode cX10_fresh 89 = .ok (.getfield 65, 3) := by decide +kernel
theorem dX10_fresh_92 : decode cX10_fresh 92 = .ok (.getfield 224, 3) := by decide +kernel
theorem dX10_fresh_95 : decode cX10_fresh 95 = .ok (.ireturn, 1) := by decide +kernel
theorem dX10_fresh_96 : decode cX10_fresh 96 = .ok (.aload_n 0, 1) := by decide +kernel
theorem dX10_fresh_97 : decode cX10_fresh 97 = .ok (.getfield 65, 3) := by decide +kernel
theorem dX10_fresh_100 : decode cX10_fresh 100 = .ok (.getfield 227, 3) := by decide +kernel
theorem dX10_fresh_103 : decode cX10_fresh 103 = .ok (.invokestatic 230, 3) := by decide +kernel
theorem dX10_fresh_106 : decode cX10_fresh 106 = .ok (.ireturn, 1) := by decide +kernel
theorem dX10_fresh_107 : decode cX10_fresh 107 = .ok (.aload_n 0, 1) := by decide +kernel
theorem dX10_fresh_108 : decode cX10_fresh 108 = .ok (.getfield 65, 3) := by decide +kernel
theorem dX10_fresh_111 : decode cX10_fresh 111 = .ok (.getfield 227, 3) := by decide +kernel
theorem dX10_fresh_114 : decode cX10_fresh 114 = .ok (.iload_n 2, 1) := by decide +kernel
theorem dX10_fresh_115 : decode cX10_fresh 115 = .ok (.iconst 2, 1) := by decide +kernel
theorem dX10_fresh_116 : decode cX10_fresh 116 = .ok (.isub, 1) := by decide +kernel
theorem dX10_fresh_117 : decode cX10_fresh 117 = .ok (.invokestatic 234, 3) := by decide +kernel
theorem dX10_fresh_120 : decode cX10_fresh 120 = .ok (.ireturn, 1) := by decide +kernel
theorem dX10_forgetFound_0 : decode cX10_forgetFound 0 = .ok (.aload_n 0, 1) := by decide +kernel
theorem dX10_forgetFound_1 : decode cX10_forgetFound 1 = .ok (.getfield 78, 3) := by decide +kernel
theorem dX10_forgetFound_4 : decode cX10_forgetFound 4 = .ok (.iconst 0, 1) := by decide +kernel
theorem dX10_forgetFound_5 : decode cX10_forgetFound 5 = .ok (.putfield 237, 3) := by decide +kernel
theorem dX10_forgetFound_8 : decode cX10_forgetFound 8 = .ok (.aload_n 0, 1) := by decide +kernel
theorem dX10_forgetFound_9 : decode cX10_forgetFound 9 = .ok (.getfield 82, 3) := by decide +kernel
theorem dX10_forgetFound_12 : decode cX10_forgetFound 12 = .ok (.iconst 0, 1) := by decide +kernel
theorem dX10_forgetFound_13 : decode cX10_forgetFound 13 = .ok (.putfield 237, 3) := by decide +kernel
theorem dX10_forgetFound_16 : decode cX10_forgetFound 16 = .ok (.aload_n 0, 1) := by decide +kernel
theorem dX10_forgetFound_17 : decode cX10_forgetFound 17 = .ok (.getfield 65, 3) := by decide +kernel
theorem dX10_forgetFound_20 : decode cX10_forgetFound 20 = .ok (.iconst (-1), 1) := by decide +kernel
theorem dX10_forgetFound_21 : decode cX10_forgetFound 21 = .ok (.putfield 241, 3) := by decide +kernel
theorem dX10_forgetFound_24 : decode cX10_forgetFound 24 = .ok (.return_, 1) := by decide +kernel
theorem dX10_states_0 : decode cX10_states 0 = .ok (.aload_n 0, 1) := by decide +kernel
theorem dX10_states_1 : decode cX10_states 1 = .ok (.getfield 244, 3) := by decide +kernel
theorem dX10_states_4 : decode cX10_states 4 = .ok (.ifnonnull 22, 3) := by decide +kernel
theorem dX10_states_7 : decode cX10_states 7 = .ok (.aload_n 0, 1) := by decide +kernel
theorem dX10_states_8 : decode cX10_states 8 = .ok (.new 187, 3) := by decide +kernel
theorem dX10_states_11 : decode cX10_states 11 = .ok (.dup, 1) := by decide +kernel
theorem dX10_states_12 : decode cX10_states 12 = .ok (.aload_n 0, 1) := by decide +kernel
theorem dX10_states_13 : decode cX10_states 13 = .ok (.getfield 19, 3) := by decide +kernel
theorem dX10_states_16 : decode cX10_states 16 = .ok (.aload_n 0, 1) := by decide +kernel
theorem dX10_states_17 : decode cX10_states 17 = .ok (.getfield 10, 3) := by decide +kernel
theorem dX10_states_20 : decode cX10_states 20 = .ok (.invokespecial 248, 3) := by decide +kernel
theorem dX10_states_23 : decode cX10_states 23 = .ok (.putfield 244, 3) := by decide +kernel
theorem dX10_states_26 : decode cX10_states 26 = .ok (.aload_n 0, 1) := by decide +kernel
theorem dX10_states_27 : decode cX10_states 27 = .ok (.getfield 244, 3) := by decide +kernel
theorem dX10_states_30 : decode cX10_states 30 = .ok (.areturn, 1) := by decide +kernel
theorem dX10_partOfShortest_0 : decode cX10_partOfShortest 0 = .ok (.aload_n 0, 1) := by decide +kernel
theorem dX10_partOfShortest_1 : decode cX10_partOfShortest 1 = .ok (.getfield 19, 3) := by decide +kernel
theorem dX10_partOfShortest_4 : decode cX10_partOfShortest 4 = .ok (.getfield 89, 3) := by decide +kernel
theorem dX10_partOfShortest_7 : decode cX10_partOfShortest 7 = .ok (.ifCond .ne 7, 3) := by decide +kernel
theorem dX10_partOfShortest_10 : decode cX10_partOfShortest 10 = .ok (.sipush (-1003), 3) := by decide +kernel
theorem dX10_partOfShortest_13 : decode cX10_partOfShortest 13 = .ok (.ireturn, 1) := by decide +kernel
theorem dX10_partOfShortest_14 : decode cX10_partOfShortest 14 = .ok (.aload_n 1, 1) := by decide +kernel
theorem dX10_partOfShortest_15 : decode cX10_partOfShortest 15 = .ok (.getfield 237, 3) := by decide +kernel
theorem dX10_partOfShortest_18 : decode cX10_partOfShortest 18 = .ok (.ifCond .ne 11, 3) := by decide +kernel
theorem dX10_partOfShortest_21 : decode cX10_partOfShortest 21 = .ok (.aload_n 0, 1) := by decide +kernel
theorem dX10_partOfShortest_22 : decode cX10_partOfShortest 22 = .ok (.invokevirtual 182, 3) := by decide +kernel
theorem dX10_partOfShortest_25 : decode cX10_partOfShortest 25 = .ok (.aload_n 1, 1) := by decide +kernel
theorem dX10_partOfShortest_26 : decode cX10_partOfShortest 26 = .ok (.invokevirtual 249, 3) := by decide +kernel
theorem dX10_partOfShortest_29 : decode cX10_partOfShortest 29 = .ok (.aload_n 1, 1) := by decide +kernel
theorem dX10_partOfShortest_30 : decode cX10_partOfShortest 30 = .ok (.getfield 253, 3) := by decide +kernel
theorem dX10_partOfShortest_33 : decode cX10_partOfShortest 33 = .ok (.sipush (-1005), 3) := by decide +kernel
theorem dX10_partOfShortest_36 : decode cX10_partOfShortest 36 = .ok (.if_icmp .ne 7, 3) := by decide +kernel
theorem dX10_partOfShortest_39 : decode cX10_partOfShortest 39 = .ok (.sipush (-1005), 3) := by decide +kernel
theorem dX10_partOfShortest_42 : decode cX10_partOfShortest 42 = .ok (.ireturn, 1) := by decide +kernel
theorem dX10_partOfShortest_43 : decode cX10_partOfShortest 43 = .ok (.iload_n 2, 1) := by decide +kernel
theorem dX10_partOfShortest_44 : decode cX10_partOfShortest 44 = .ok (.iconst (-1), 1) := by decide +kernel
theorem dX10_partOfShortest_45 : decode cX10_partOfShortest 45 = .ok (.if_icmp .ne 8, 3) := by decide +kernel
theorem dX10_partOfShortest_48 : decode cX10_partOfShortest 48 = .ok (.aload_n 1, 1) := by decide +kernel
theorem dX10_partOfShortest_49 : decode cX10_partOfShortest 49 = .ok (.getfield 253, 3) := by decide +kernel
theorem dX10_partOfShortest_52 : decode cX10_partOfShortest 52 = .ok (.ireturn, 1) := by decide +kernel
theorem dX10_partOfShortest_53 : decode cX10_partOfShortest 53 = .ok (.iload_n 2, 1) := by decide +kernel
theorem dX10_partOfShortest_54 : decode cX10_partOfShortest 54 = .ok (.ifCond .lt 20, 3) := by decide +kernel
theorem dX10_partOfShortest_57 : decode cX10_partOfShortest 57 = .ok (.iload_n 2, 1) := by decide +kernel
theorem dX10_partOfShortest_58 : decode cX10_partOfShortest 58 = .ok (.aload_n 1, 1) := by decide +kernel
theorem dX10_partOfShortest_59 : decode cX10_partOfShortest 59 = .ok (.getfield 253, 3) := by decide +kernel
theorem dX10_partOfShortest_62 : decode cX10_partOfShortest 62 = .ok (.if_icmp .ge 12, 3) := by decide +kernel
theorem dX10_partOfShortest_65 : decode cX10_partOfShortest 65 = .ok (.aload_n 1, 1) := by decide +kernel
theorem dX10_partOfShortest_66 : decode cX10_partOfShortest 66 = .ok (.getfield 256, 3) := by decide +kernel
theorem dX10_partOfShortest_69 : decode cX10_partOfShortest 69 = .ok (.iload_n 2, 1) := by decide +kernel
theorem dX10_partOfShortest_70 : decode cX10_partOfShortest 70 = .ok (.iaload, 1) := by decide +kernel
theorem dX10_partOfShortest_71 : decode cX10_partOfShortest 71 = .ok (.goto 4, 3) := by decide +kernel
theorem dX10_partOfShortest_74 : decode cX10_partOfShortest 74 = .ok (.iconst (-1), 1) := by decide +kernel
theorem dX10_partOfShortest_75 : decode cX10_partOfShortest 75 = .ok (.ireturn, 1) := by decide +kernel
theorem dX10_countPairs_0 : decode cX10_countPairs 0 = .ok (.iconst 0, 1) := by decide +kernel
theorem dX10_countPairs_1 : decode cX10_countPairs 1 = .ok (.istore_n 2, 1) := by decide +kernel
theorem dX10_countPairs_2 : decode cX10_countPairs 2 = .ok (.iconst 0, 1) := by decide +kernel
theorem dX10_countPairs_3 : decode cX10_countPairs 3 = .ok (.istore_n 3, 1) := by decide +kernel
theorem dX10_countPairs_4 : decode cX10_countPairs 4 = .ok (.iload_n 3, 1) := by decide +kernel
theorem dX10_countPairs_5 : decode cX10_countPairs 5 = .ok (.aload_n 0, 1) := by decide +kernel
theorem dX10_countPairs_6 : decode cX10_countPairs 6 = .ok (.getfield 19, 3) := by decide +kernel
theorem dX10_countPairs_9 : decode cX10_countPairs 9 = .ok (.getfield 89, 3) := by decide +kernel
theorem dX10_countPairs_12 : decode cX10_countPairs 12 = .ok (.if_icmp .ge 85, 3) := by decide +kernel
theorem dX10_countPairs_15 : decode cX10_countPairs 15 = .ok (.iconst 0, 1) := by decide +kernel
theorem dX10_countPairs_16 : decode cX10_countPairs 16 = .ok (.istore 4, 2) := by decide +kernel
theorem dX10_countPairs_18 : decode cX10_countPairs 18 = .ok (.iload 4, 2) := by decide +kernel
theorem dX10_countPairs_20 : decode cX10_countPairs 20 = .ok (.aload_n 0, 1) := by decide +kernel
theorem dX10_countPairs_21 : decode cX10_countPairs 21 = .ok (.getfield 19, 3) := by decide +kernel
theorem dX10_countPairs_24 : decode cX10_countPairs 24 = .ok (.getfield 89, 3) := by decide +kernel
theorem dX10_countPairs_27 : decode cX10_countPairs 27 = .ok (.if_icmp .ge 64, 3) := by decide +kernel
theorem dX10_countPairs_30 : decode cX10_countPairs 30 = .ok (.aload_n 0, 1) := by decide +kernel
theorem dX10_countPairs_31 : decode cX10_countPairs 31 = .ok (.getfield 19, 3) := by decide +kernel
theorem dX10_countPairs_34 : decode cX10_countPairs 34 = .ok (.getfield 125, 3) := by decide +kernel
theorem dX10_countPairs_37 : decode cX10_countPairs 37 = .ok (.iload 4, 2) := by decide +kernel
theorem dX10_countPairs_39 : decode cX10_countPairs 39 = .ok (.iaload, 1) := by decide +kernel
theorem dX10_countPairs_40 : decode cX10_countPairs 40 = .ok (.aload_n 0, 1) := by decide +kernel
theorem dX10_countPairs_41 : decode cX10_countPairs 41 = .ok (.getfield 19, 3) := by decide +kernel
theorem dX10_countPairs_44 : decode cX10_countPairs 44 = .ok (.getfield 125, 3) := by decide +kernel
theorem dX10_countPairs_47 : decode cX10_countPairs 47 = .ok (.iload_n 3, 1) := by decide +kernel
theorem dX10_countPairs_48 : decode cX10_countPairs 48 = .ok (.iaload, 1) := by decide +kernel
theorem dX10_countPairs_49 : decode cX10_countPairs 49 = .ok (.isub, 1) := by decide +kernel
theorem dX10_countPairs_50 : decode cX10_countPairs 50 = .ok (.istore 5, 2) := by decide +kernel
theorem dX10_countPairs_52 : decode cX10_countPairs 52 = .ok (.iload 5, 2) := by decide +kernel
theorem dX10_countPairs_54 : decode cX10_countPairs 54 = .ok (.ifCond .le 31, 3) := by decide +kernel
theorem dX10_countPairs_57 : decode cX10_countPairs 57 = .ok (.aload_n 0, 1) := by decide +kernel
theorem dX10_countPairs_58 : decode cX10_countPairs 58 = .ok (.getfield 19, 3) := by decide +kernel
theorem dX10_countPairs_61 : decode cX10_countPairs 61 = .ok (.iload_n 3, 1) := by decide +kernel
theorem dX10_countPairs_62 : decode cX10_countPairs 62 = .ok (.iload 4, 2) := by decide +kernel
theorem dX10_countPairs_64 : decode cX10_countPairs 64 = .ok (.iload 4, 2) := by decide +kernel
theorem dX10_countPairs_66 : decode cX10_countPairs 66 = .ok (.iload_n 1, 1) := by decide +kernel
theorem dX10_countPairs_67 : decode cX10_countPairs 67 = .ok (.ifCond .eq 7, 3) := by decide +kernel
theorem dX10_countPairs_70 : decode cX10_countPairs 70 = .ok (.iconst 0, 1) := by decide +kernel
theorem dX10_countPairs_71 : decode cX10_countPairs 71 = .ok (.goto 5, 3) := by decide +kernel
theorem dX10_countPairs_74 : decode cX10_countPairs 74 = .ok (.iload 5, 2) := by decide +kernel
theorem dX10_countPairs_76 : decode cX10_countPairs 76 = .ok (.invokevirtual 259, 3) := by decide +kernel
theorem dX10_countPairs_79 : decode cX10_countPairs 79 = .ok (.ifCond .eq 6, 3) := by decide +kernel
theorem dX10_countPairs_82 : decode cX10_countPairs 82 = .ok (.iinc 2 1, 3) := by decide +kernel
theorem dX10_countPairs_85 : decode cX10_countPairs 85 = .ok (.iinc 4 1, 3) := by decide +kernel
theorem dX10_countPairs_88 : decode cX10_countPairs 88 = .ok (.goto (-70), 3) := by decide +kernel
theorem dX10_countPairs_91 : decode cX10_countPairs 91 = .ok (.iinc 3 1, 3) := by decide +kernel
theorem dX10_countPairs_94 : decode cX10_countPairs 94 = .ok (.goto (-90), 3) := by decide +kernel
theorem dX10_countPairs_97 : decode cX10_countPairs 97 = .ok (.iload_n 2, 1) := by decide +kernel
theorem dX10_countPairs_98 : decode cX10_countPairs 98 = .ok (.ireturn, 1) := by decide +kernel
theorem dX10_countHidden_0 : decode cX10_countHidden 0 = .ok (.iconst 0, 1) := by decide +kernel
theorem dX10_countHidden_1 : decode cX10_countHidden 1 = .ok (.istore_n 1, 1) := by decide +kernel
theorem dX10_countHidden_2 : decode cX10_countHidden 2 = .ok (.iconst 0, 1) := by decide +kernel
theorem dX10_countHidden_3 : decode cX10_countHidden 3 = .ok (.istore_n 2, 1) := by decide +kernel
theorem dX10_countHidden_4 : decode cX10_countHidden 4 = .ok (.iload_n 2, 1) := by decide +kernel
theorem dX10_countHidden_5 : decode cX10_countHidden 5 = .ok (.aload_n 0, 1) := by decide +kernel
theorem dX10_countHidden_6 : decode cX10_countHidden 6 = .ok (.getfield 19, 3) := by decide +kernel
theorem dX10_countHidden_9 : decode cX10_countHidden 9 = .ok (.getfield 89, 3) := by decide +kernel
theorem dX10_countHidden_12 : decode cX10_countHidden 12 = .ok (.if_icmp .ge 20, 3) := by decide +kernel
theorem dX10_countHidden_15 : decode cX10_countHidden 15 = .ok (.aload_n 0, 1) := by decide +kernel
theorem dX10_countHidden_16 : decode cX10_countHidden 16 = .ok (.iload_n 2, 1) := by decide +kernel
theorem dX10_countHidden_17 : decode cX10_countHidden 17 = .ok (.invokevirtual 263, 3) := by decide +kernel
theorem dX10_countHidden_20 : decode cX10_countHidden 20 = .ok (.ifCond .eq 6, 3) := by decide +kernel
theorem dX10_countHidden_23 : decode cX10_countHidden 23 = .ok (.iinc 1 1, 3) := by decide +kernel
theorem dX10_countHidden_26 : decode cX10_countHidden 26 = .ok (.iinc 2 1, 3) := by decide +kernel
theorem dX10_countHidden_29 : decode cX10_countHidden 29 = .ok (.goto (-25), 3) := by decide +kernel
theorem dX10_countHidden_32 : decode cX10_countHidden 32 = .ok (.iload_n 1, 1) := by decide +kernel
theorem dX10_countHidden_33 : decode cX10_countHidden 33 = .ok (.ireturn, 1) := by decide +kernel
theorem dX10_isHidden_0 : decode cX10_isHidden 0 = .ok (.iconst 0, 1) := by decide +kernel
theorem dX10_isHidden_1 : decode cX10_isHidden 1 = .ok (.istore_n 2, 1) := by decide +kernel
theorem dX10_isHidden_2 : decode cX10_isHidden 2 = .ok (.iload_n 2, 1) := by decide +kernel
theorem dX10_isHidden_3 : decode cX10_isHidden 3 = .ok (.aload_n 0, 1) := by decide +kernel
theorem dX10_isHidden_4 : decode cX10_isHidden 4 = .ok (.getfield 19, 3) := by decide +kernel
theorem dX10_isHidden_7 : decode cX10_isHidden 7 = .ok (.getfield 89, 3) := by decide +kernel
theorem dX10_isHidden_10 : decode cX10_isHidden 10 = .ok (.if_icmp .ge 40, 3) := by decide +kernel
theorem dX10_isHidden_13 : decode cX10_isHidden 13 = .ok (.iconst 0, 1) := by decide +kernel
theorem dX10_isHidden_14 : decode cX10_isHidden 14 = .ok (.istore_n 3, 1) := by decide +kernel
theorem dX10_isHidden_15 : decode cX10_isHidden 15 = .ok (.iload_n 3, 1) := by decide +kernel
theorem dX10_isHidden_16 : decode cX10_isHidden 16 = .ok (.aload_n 0, 1) := by decide +kernel
theorem dX10_isHidden_17 : decode cX10_isHidden 17 = .ok (.getfield 19, 3) := by decide +kernel
theorem dX10_isHidden_20 : decode cX10_isHidden 20 = .ok (.getfield 89, 3) := by decide +kernel
theorem dX10_isHidden_23 : decode cX10_isHidden 23 = .ok (.if_icmp .ge 21, 3) := by decide +kernel
theorem dX10_isHidden_26 : decode cX10_isHidden 26 = .ok (.aload_n 0, 1) := by decide +kernel
theorem dX10_isHidden_27 : decode cX10_isHidden 27 = .ok (.iload_n 1, 1) := by decide +kernel
theorem dX10_isHidden_28 : decode cX10_isHidden 28 = .ok (.iload_n 2, 1) := by decide +kernel
theorem dX10_isHidden_29 : decode cX10_isHidden 29 = .ok (.iload_n 3, 1) := by decide +kernel
theorem dX10_isHidden_30 : decode cX10_isHidden 30 = .ok (.invokevirtual 266, 3) := by decide +kernel
theorem dX10_isHidden_33 : decode cX10_isHidden 33 = .ok (.ifCond .eq 5, 3) := by decide +kernel
theorem dX10_isHidden_36 : decode cX10_isHidden 36 = .ok (.iconst 1, 1) := by decide +kernel
theorem dX10_isHidden_37 : decode cX10_isHidden 37 = .ok (.ireturn, 1) := by decide +kernel
theorem dX10_isHidden_38 : decode cX10_isHidden 38 = .ok (.iinc 3 1, 3) := by decide +kernel
theorem dX10_isHidden_41 : decode cX10_isHidden 41 = .ok (.goto (-26), 3) := by decide +kernel
theorem dX10_isHidden_44 : decode cX10_isHidden 44 = .ok (.iinc 2 1, 3) := by decide +kernel
theorem dX10_isHidden_47 : decode cX10_isHidden 47 = .ok (.goto (-45), 3) := by decide +kernel
theorem dX10_isHidden_50 : decode cX10_isHidden 50 = .ok (.iconst 0, 1) := by decide +kernel
theorem dX10_isHidden_51 : decode cX10_isHidden 51 = .ok (.ireturn, 1) := by decide +kernel
theorem dX10_isHiddenIn_0 : decode cX10_isHiddenIn 0 = .ok (.aload_n 0, 1) := by decide +kernel
theorem dX10_isHiddenIn_1 : decode cX10_isHiddenIn 1 = .ok (.getfield 19, 3) := by decide +kernel
theorem dX10_isHiddenIn_4 : decode cX10_isHiddenIn 4 = .ok (.getfield 125, 3) := by decide +kernel
theorem dX10_isHiddenIn_7 : decode cX10_isHiddenIn 7 = .ok (.iload_n 2, 1) := by decide +kernel
theorem dX10_isHiddenIn_8 : decode cX10_isHiddenIn 8 = .ok (.iaload, 1) := by decide +kernel
theorem dX10_isHiddenIn_9 : decode cX10_isHiddenIn 9 = .ok (.aload_n 0, 1) := by decide +kernel
theorem dX10_isHiddenIn_10 : decode cX10_isHiddenIn 10 = .ok (.getfield 19, 3) := by decide +kernel
theorem dX10_isHiddenIn_13 : decode cX10_isHiddenIn 13 = .ok (.getfield 125, 3) := by decide +kernel
theorem dX10_isHiddenIn_16 : decode cX10_isHiddenIn 16 = .ok (.iload_n 3, 1) := by decide +kernel
theorem dX10_isHiddenIn_17 : decode cX10_isHiddenIn 17 = .ok (.iaload, 1) := by decide +kernel
theorem dX10_isHiddenIn_18 : decode cX10_isHiddenIn 18 = .ok (.iadd, 1) := by decide +kernel
theorem dX10_isHiddenIn_19 : decode cX10_isHiddenIn 19 = .ok (.aload_n 0, 1) := by decide +kernel
theorem dX10_isHiddenIn_20 : decode cX10_isHiddenIn 20 = .ok (.getfield 19, 3) := by decide +kernel
theorem dX10_isHiddenIn_23 : decode cX10_isHiddenIn 23 = .ok (.getfield 125, 3) := by decide +kernel
theorem dX10_isHiddenIn_26 : decode cX10_isHiddenIn 26 = .ok (.iload_n 1, 1) := by decide +kernel
theorem dX10_isHiddenIn_27 : decode cX10_isHiddenIn 27 = .ok (.iaload, 1) := by decide +kernel
theorem dX10_isHiddenIn_28 : decode cX10_isHiddenIn 28 = .ok (.isub, 1) := by decide +kernel
theorem dX10_isHiddenIn_29 : decode cX10_isHiddenIn 29 = .ok (.istore 4, 2) := by decide +kernel
theorem dX10_isHiddenIn_31 : decode cX10_isHiddenIn 31 = .ok (.iconst 0, 1) := by decide +kernel
theorem dX10_isHiddenIn_32 : decode cX10_isHiddenIn 32 = .ok (.istore 5, 2) := by decide +kernel
theorem dX10_isHiddenIn_34 : decode cX10_isHiddenIn 34 = .ok (.iload 5, 2) := by decide +kernel
theorem dX10_isHiddenIn_36 : decode cX10_isHiddenIn 36 = .ok (.iload 4, 2) := by decide +kernel
theorem dX10_isHiddenIn_38 : decode cX10_isHiddenIn 38 = .ok (.if_icmp .gt 67, 3) := by decide +kernel
theorem dX10_isHiddenIn_41 : decode cX10_isHiddenIn 41 = .ok (.iload 5, 2) := by decide +kernel
theorem dX10_isHiddenIn_43 : decode cX10_isHiddenIn 43 = .ok (.ifCond .ne 8, 3) := by decide +kernel
theorem dX10_isHiddenIn_46 : decode cX10_isHiddenIn 46 = .ok (.iload_n 1, 1) := by decide +kernel
theorem dX10_isHiddenIn_47 : decode cX10_isHiddenIn 47 = .ok (.iload_n 2, 1) := by decide +kernel
theorem dX10_isHiddenIn_48 : decode cX10_isHiddenIn 48 = .ok (.if_icmp .eq 22, 3) := by decide +kernel
theorem dX10_isHiddenIn_51 : decode cX10_isHiddenIn 51 = .ok (.iload 5, 2) := by decide +kernel
theorem dX10_isHiddenIn_53 : decode cX10_isHiddenIn 53 = .ok (.aload_n 0, 1) := by decide +kernel
theorem dX10_isHiddenIn_54 : decode cX10_isHiddenIn 54 = .ok (.getfield 19, 3) := by decide +kernel
theorem dX10_isHiddenIn_57 : decode cX10_isHiddenIn 57 = .ok (.getfield 125, 3) := by decide +kernel
theorem dX10_isHiddenIn_60 : decode cX10_isHiddenIn 60 = .ok (.iload_n 2, 1) := by decide +kernel
theorem dX10_isHiddenIn_61 : decode cX10_isHiddenIn 61 = .ok (.iaload, 1) := by decide +kernel
theorem dX10_isHiddenIn_62 : decode cX10_isHiddenIn 62 = .ok (.if_icmp .ne 12, 3) := by decide +kernel
theorem dX10_isHiddenIn_65 : decode cX10_isHiddenIn 65 = .ok (.iload_n 1, 1) := by decide +kernel
theorem dX10_isHiddenIn_66 : decode cX10_isHiddenIn 66 = .ok (.iload_n 3, 1) := by decide +kernel
theorem dX10_isHiddenIn_67 : decode cX10_isHiddenIn 67 = .ok (.if_icmp .ne 7, 3) := by decide +kernel
theorem dX10_isHiddenIn_70 : decode cX10_isHiddenIn 70 = .ok (.iconst 1, 1) := by decide +kernel
theorem dX10_isHiddenIn_71 : decode cX10_isHiddenIn 71 = .ok (.goto 4, 3) := by decide +kernel
theorem dX10_isHiddenIn_74 : decode cX10_isHiddenIn 74 = .ok (.iconst 0, 1) := by decide +kernel
theorem dX10_isHiddenIn_75 : decode cX10_isHiddenIn 75 = .ok (.istore 6, 2) := by decide +kernel
theorem dX10_isHiddenIn_77 : decode cX10_isHiddenIn 77 = .ok (.iload 6, 2) := by decide +kernel
theorem dX10_isHiddenIn_79 : decode cX10_isHiddenIn 79 = .ok (.ifCond .ne 20, 3) := by decide +kernel
theorem dX10_isHiddenIn_82 : decode cX10_isHiddenIn 82 = .ok (.aload_n 0, 1) := by decide +kernel
theorem dX10_isHiddenIn_83 : decode cX10_isHiddenIn 83 = .ok (.getfield 19, 3) := by decide +kernel
theorem dX10_isHiddenIn_86 : decode cX10_isHiddenIn 86 = .ok (.iload_n 1, 1) := by decide +kernel
theorem dX10_isHiddenIn_87 : decode cX10_isHiddenIn 87 = .ok (.iload_n 2, 1) := by decide +kernel
theorem dX10_isHiddenIn_88 : decode cX10_isHiddenIn 88 = .ok (.iload_n 3, 1) := by decide +kernel
theorem dX10_isHiddenIn_89 : decode cX10_isHiddenIn 89 = .ok (.iload 5, 2) := by decide +kernel
theorem dX10_isHiddenIn_91 : decode cX10_isHiddenIn 91 = .ok (.invokevirtual 259, 3) := by decide +kernel
theorem dX10_isHiddenIn_94 : decode cX10_isHiddenIn 94 = .ok (.ifCond .eq 5, 3) := by decide +kernel
theorem dX10_isHiddenIn_97 : decode cX10_isHiddenIn 97 = .ok (.iconst 1, 1) := by decide +kernel
theorem dX10_isHiddenIn_98 : decode cX10_isHiddenIn 98 = .ok (.ireturn, 1) := by decide +kernel
theorem dX10_isHiddenIn_99 : decode cX10_isHiddenIn 99 = .ok (.iinc 5 1, 3) := by decide +kernel
theorem dX10_isHiddenIn_102 : decode cX10_isHiddenIn 102 = .ok (.goto (-68), 3) := by decide +kernel
theorem dX10_isHiddenIn_105 : decode cX10_isHiddenIn 105 = .ok (.iconst 0, 1) := by decide +kernel
theorem dX10_isHiddenIn_106 : decode cX10_isHiddenIn 106 = .ok (.ireturn, 1) := by decide +kernel
theorem dX10_addCapped_0 : decode cX10_addCapped 0 = .ok (.lload_n 0, 1) := by decide +kernel
theorem dX10_addCapped_1 : decode cX10_addCapped 1 = .ok (.lload_n 2, 1) := by decide +kernel
theorem dX10_addCapped_2 : decode cX10_addCapped 2 = .ok (.ladd, 1) := by decide +kernel
theorem dX10_addCapped_3 : decode cX10_addCapped 3 = .ok (.ldc2_w 270, 3) := by decide +kernel
theorem dX10_addCapped_6 : decode cX10_addCapped 6 = .ok (.invokestatic 272, 3) := by decide +kernel
theorem dX10_addCapped_9 : decode cX10_addCapped 9 = .ok (.lreturn, 1) := by decide +kernel
theorem dX10_codeOf_0 : decode cX10_codeOf 0 = .ok (.iconst 0, 1) := by decide +kernel
theorem dX10_codeOf_1 : decode cX10_codeOf 1 = .ok (.istore_n 3, 1) := by decide +kernel
theorem dX10_codeOf_2 : decode cX10_codeOf 2 = .ok (.iconst 0, 1) := by decide +kernel
theorem dX10_codeOf_3 : decode cX10_codeOf 3 = .ok (.istore 4, 2) := by decide +kernel
theorem dX10_codeOf_5 : decode cX10_codeOf 5 = .ok (.iload 4, 2) := by decide +kernel
theorem dX10_codeOf_7 : decode cX10_codeOf 7 = .ok (.iconst 5, 1) := by decide +kernel
theorem dX10_codeOf_8 : decode cX10_codeOf 8 = .ok (.if_icmp .ge 33, 3) := by decide +kernel
theorem dX10_codeOf_11 : decode cX10_codeOf 11 = .ok (.iload_n 3, 1) := by decide +kernel
theorem dX10_codeOf_12 : decode cX10_codeOf 12 = .ok (.bipush 9, 2) := by decide +kernel
theorem dX10_codeOf_14 : decode cX10_codeOf 14 = .ok (.imul, 1) := by decide +kernel
theorem dX10_codeOf_15 : decode cX10_codeOf 15 = .ok (.iload 4, 2) := by decide +kernel
theorem dX10_codeOf_17 : decode cX10_codeOf 17 = .ok (.iload_n 2, 1) := by decide +kernel
theorem dX10_codeOf_18 : decode cX10_codeOf 18 = .ok (.if_icmp .ge 14, 3) := by decide +kernel
theorem dX10_codeOf_21 : decode cX10_codeOf 21 = .ok (.aload_n 0, 1) := by decide +kernel
theorem dX10_codeOf_22 : decode cX10_codeOf 22 = .ok (.iload_n 1, 1) := by decide +kernel
theorem dX10_codeOf_23 : decode cX10_codeOf 23 = .ok (.iload 4, 2) := by decide +kernel
theorem dX10_codeOf_25 : decode cX10_codeOf 25 = .ok (.iadd, 1) := by decide +kernel
theorem dX10_codeOf_26 : decode cX10_codeOf 26 = .ok (.iaload, 1) := by decide +kernel
theorem dX10_codeOf_27 : decode cX10_codeOf 27 = .ok (.iconst 1, 1) := by decide +kernel
theorem dX10_codeOf_28 : decode cX10_codeOf 28 = .ok (.iadd, 1) := by decide +kernel
theorem dX10_codeOf_29 : decode cX10_codeOf 29 = .ok (.goto 4, 3) := by decide +kernel
theorem dX10_codeOf_32 : decode cX10_codeOf 32 = .ok (.iconst 0, 1) := by decide +kernel
theorem dX10_codeOf_33 : decode cX10_codeOf 33 = .ok (.iadd, 1) := by decide +kernel
theorem dX10_codeOf_34 : decode cX10_codeOf 34 = .ok (.istore_n 3, 1) := by decide +kernel
theorem dX10_codeOf_35 : decode cX10_codeOf 35 = .ok (.iinc 4 1, 3) := by decide +kernel
theorem dX10_codeOf_38 : decode cX10_codeOf 38 = .ok (.goto (-33), 3) := by decide +kernel
theorem dX10_codeOf_41 : decode cX10_codeOf 41 = .ok (.iload_n 3, 1) := by decide +kernel
theorem dX10_codeOf_42 : decode cX10_codeOf 42 = .ok (.ireturn, 1) := by decide +kernel
theorem dX10_letterOfCode_0 : decode cX10_letterOfCode 0 = .ok (.iload_n 0, 1) := by decide +kernel
theorem dX10_letterOfCode_1 : decode cX10_letterOfCode 1 = .ok (.istore_n 2, 1) := by decide +kernel
theorem dX10_letterOfCode_2 : decode cX10_letterOfCode 2 = .ok (.iconst 4, 1) := by decide +kernel
theorem dX10_letterOfCode_3 : decode cX10_letterOfCode 3 = .ok (.istore_n 3, 1) := by decide +kernel
theorem dX10_letterOfCode_4 : decode cX10_letterOfCode 4 = .ok (.iload_n 3, 1) := by decide +kernel
theorem dX10_letterOfCode_5 : decode cX10_letterOfCode 5 = .ok (.iload_n 1, 1) := by decide +kernel
theorem dX10_letterOfCode_6 : decode cX10_letterOfCode 6 = .ok (.if_icmp .le 14, 3) := by decide +kernel
theorem dX10_letterOfCode_9 : decode cX10_letterOfCode 9 = .ok (.iload_n 2, 1) := by decide +kernel
theorem dX10_letterOfCode_10 : decode cX10_letterOfCode 10 = .ok (.bipush 9, 2) := by decide +kernel
theorem dX10_letterOfCode_12 : decode cX10_letterOfCode 12 = .ok (.idiv, 1) := by decide +kernel
theorem dX10_letterOfCode_13 : decode cX10_letterOfCode 13 = .ok (.istore_n 2, 1) := by decide +kernel
theorem dX10_letterOfCode_14 : decode cX10_letterOfCode 14 = .ok (.iinc 3 (-1), 3) := by decide +kernel
theorem dX10_letterOfCode_17 : decode cX10_letterOfCode 17 = .ok (.goto (-13), 3) := by decide +kernel
theorem dX10_letterOfCode_20 : decode cX10_letterOfCode 20 = .ok (.iload_n 2, 1) := by decide +kernel
theorem dX10_letterOfCode_21 : decode cX10_letterOfCode 21 = .ok (.bipush 9, 2) := by decide +kernel
theorem dX10_letterOfCode_23 : decode cX10_letterOfCode 23 = .ok (.irem, 1) := by decide +kernel
theorem dX10_letterOfCode_24 : decode cX10_letterOfCode 24 = .ok (.iconst 1, 1) := by decide +kernel
theorem dX10_letterOfCode_25 : decode cX10_letterOfCode 25 = .ok (.isub, 1) := by decide +kernel
theorem dX10_letterOfCode_26 : decode cX10_letterOfCode 26 = .ok (.ireturn, 1) := by decide +kernel
theorem dX10_lengthOfCode_0 : decode cX10_lengthOfCode 0 = .ok (.iconst 0, 1) := by decide +kernel
theorem dX10_lengthOfCode_1 : decode cX10_lengthOfCode 1 = .ok (.istore_n 1, 1) := by decide +kernel
theorem dX10_lengthOfCode_2 : decode cX10_lengthOfCode 2 = .ok (.iconst 0, 1) := by decide +kernel
theorem dX10_lengthOfCode_3 : decode cX10_lengthOfCode 3 = .ok (.istore_n 2, 1) := by decide +kernel
theorem dX10_lengthOfCode_4 : decode cX10_lengthOfCode 4 = .ok (.iload_n 2, 1) := by decide +kernel
theorem dX10_lengthOfCode_5 : decode cX10_lengthOfCode 5 = .ok (.iconst 5, 1) := by decide +kernel
theorem dX10_lengthOfCode_6 : decode cX10_lengthOfCode 6 = .ok (.if_icmp .ge 21, 3) := by decide +kernel
theorem dX10_lengthOfCode_9 : decode cX10_lengthOfCode 9 = .ok (.iload_n 0, 1) := by decide +kernel
theorem dX10_lengthOfCode_10 : decode cX10_lengthOfCode 10 = .ok (.iload_n 2, 1) := by decide +kernel
theorem dX10_lengthOfCode_11 : decode cX10_lengthOfCode 11 = .ok (.invokestatic 234, 3) := by decide +kernel
theorem dX10_lengthOfCode_14 : decode cX10_lengthOfCode 14 = .ok (.iconst (-1), 1) := by decide +kernel
theorem dX10_lengthOfCode_15 : decode cX10_lengthOfCode 15 = .ok (.if_icmp .eq 6, 3) := by decide +kernel
theorem dX10_lengthOfCode_18 : decode cX10_lengthOfCode 18 = .ok (.iinc 1 1, 3) := by decide +kernel
theorem dX10_lengthOfCode_21 : decode cX10_lengthOfCode 21 = .ok (.iinc 2 1, 3) := by decide +kernel
theorem dX10_lengthOfCode_24 : decode cX10_lengthOfCode 24 = .ok (.goto (-20), 3) := by decide +kernel
theorem dX10_lengthOfCode_27 : decode cX10_lengthOfCode 27 = .ok (.iload_n 1, 1) := by decide +kernel
theorem dX10_lengthOfCode_28 : decode cX10_lengthOfCode 28 = .ok (.ireturn, 1) := by decide +kernel
theorem dX11_init_0 : decode cX11_init 0 = .ok (.aload_n 0, 1) := by decide +kernel
theorem dX11_init_1 : decode cX11_init 1 = .ok (.invokespecial 1, 3) := by decide +kernel
theorem dX11_init_4 : decode cX11_init 4 = .ok (.aload_n 0, 1) := by decide +kernel
theorem dX11_init_5 : decode cX11_init 5 = .ok (.sipush 136, 3) := by decide +kernel
theorem dX11_init_8 : decode cX11_init 8 = .ok (.newarray .int, 2) := by decide +kernel
theorem dX11_init_10 : decode cX11_init 10 = .ok (.putfield 7, 3) := by decide +kernel
theorem dX11_init_13 : decode cX11_init 13 = .ok (.aload_n 0, 1) := by decide +kernel
theorem dX11_init_14 : decode cX11_init 14 = .ok (.bipush 17, 2) := by decide +kernel
theorem dX11_init_16 : decode cX11_init 16 = .ok (.newarray .int, 2) := by decide +kernel
theorem dX11_init_18 : decode cX11_init 18 = .ok (.putfield 13, 3) := by decide +kernel
theorem dX11_init_21 : decode cX11_init 21 = .ok (.aload_n 0, 1) := by decide +kernel
theorem dX11_init_22 : decode cX11_init 22 = .ok (.bipush 17, 2) := by decide +kernel
theorem dX11_init_24 : decode cX11_init 24 = .ok (.newarray .int, 2) := by decide +kernel
theorem dX11_init_26 : decode cX11_init 26 = .ok (.putfield 16, 3) := by decide +kernel
theorem dX11_init_29 : decode cX11_init 29 = .ok (.aload_n 0, 1) := by decide +kernel
theorem dX11_init_30 : decode cX11_init 30 = .ok (.bipush 17, 2) := by decide +kernel
theorem dX11_init_32 : decode cX11_init 32 = .ok (.newarray .int, 2) := by decide +kernel
theorem dX11_init_34 : decode cX11_init 34 = .ok (.putfield 19, 3) := by decide +kernel
theorem dX11_init_37 : decode cX11_init 37 = .ok (.aload_n 0, 1) := by decide +kernel
theorem dX11_init_38 : decode cX11_init 38 = .ok (.bipush 16, 2) := by decide +kernel
theorem dX11_init_40 : decode cX11_init 40 = .ok (.newarray .boolean, 2) := by decide +kernel
theorem dX11_init_42 : decode cX11_init 42 = .ok (.putfield 22, 3) := by decide +kernel
theorem dX11_init_45 : decode cX11_init 45 = .ok (.aload_n 0, 1) := by decide +kernel
theorem dX11_init_46 : decode cX11_init 46 = .ok (.iconst 3, 1) := by decide +kernel
theorem dX11_init_47 : decode cX11_init 47 = .ok (.newarray .int, 2) := by decide +kernel
theorem dX11_init_49 : decode cX11_init 49 = .ok (.putfield 26, 3) := by decide +kernel
theorem dX11_init_52 : decode cX11_init 52 = .ok (.aload_n 0, 1) := by decide +kernel
theorem dX11_init_53 : decode cX11_init 53 = .ok (.bipush 48, 2) := by decide +kernel
theorem dX11_init_55 : decode cX11_init 55 = .ok (.newarray .int, 2) := by decide +kernel
theorem dX11_init_57 : decode cX11_init 57 = .ok (.putfield 29, 3) := by decide +kernel
theorem dX11_init_60 : decode cX11_init 60 = .ok (.aload_n 0, 1) := by decide +kernel
theorem dX11_init_61 : decode cX11_init 61 = .ok (.bipush 96, 2) := by decide +kernel
theorem dX11_init_63 : decode cX11_init 63 = .ok (.newarray .int, 2) := by decide +kernel
theorem dX11_init_65 : decode cX11_init 65 = .ok (.putfield 32, 3) := by decide +kernel
theorem dX11_init_68 : decode cX11_init 68 = .ok (.aload_n 0, 1) := by decide +kernel
theorem dX11_init_69 : decode cX11_init 69 = .ok (.iconst 4, 1) := by decide +kernel
theorem dX11_init_70 : decode cX11_init 70 = .ok (.newarray .int, 2) := by decide +kernel
theorem dX11_init_72 : decode cX11_init 72 = .ok (.putfield 35, 3) := by decide +kernel
theorem dX11_init_75 : decode cX11_init 75 = .ok (.aload_n 0, 1) := by decide +kernel
theorem dX11_init_76 : decode cX11_init 76 = .ok (.sipush 200, 3) := by decide +kernel
theorem dX11_init_79 : decode cX11_init 79 = .ok (.newarray .int, 2) := by decide +kernel
theorem dX11_init_81 : decode cX11_init 81 = .ok (.putfield 38, 3) := by decide +kernel
theorem dX11_init_84 : decode cX11_init 84 = .ok (.aload_n 0, 1) := by decide +kernel
theorem dX11_init_85 : decode cX11_init 85 = .ok (.iconst (-1), 1) := by decide +kernel
theorem dX11_init_86 : decode cX11_init 86 = .ok (.putfield 41, 3) := by decide +kernel
theorem dX11_init_89 : decode cX11_init 89 = .ok (.aload_n 0, 1) := by decide +kernel
theorem dX11_init_90 : decode cX11_init 90 = .ok (.sipush 136, 3) := by decide +kernel
theorem dX11_init_93 : decode cX11_init 93 = .ok (.newarray .int, 2) := by decide +kernel
theorem dX11_init_95 : decode cX11_init 95 = .ok (.putfield 45, 3) := by decide +kernel
theorem dX11_init_98 : decode cX11_init 98 = .ok (.aload_n 0, 1) := by decide +kernel
theorem dX11_init_99 : decode cX11_init 99 = .ok (.bipush 17, 2) := by decide +kernel
theorem dX11_init_101 : decode cX11_init 101 = .ok (.newarray .int, 2) := by decide +kernel
theorem dX11_init_103 : decode cX11_init 103 = .ok (.putfield 48, 3) := by decide +kernel
theorem dX11_init_106 : decode cX11_init 106 = .ok (.aload_n 0, 1) := by decide +kernel
theorem dX11_init_107 : decode cX11_init 107 = .ok (.bipush 17, 2) := by decide +kernel
theorem dX11_init_109 : decode cX11_init 109 = .ok (.newarray .int, 2) := by decide +kernel
theorem dX11_init_111 : decode cX11_init 111 = .ok (.putfield 51, 3) := by decide +kernel
theorem dX11_init_114 : decode cX11_init 114 = .ok (.aload_n 0, 1) := by decide +kernel
theorem dX11_init_115 : decode cX11_init 115 = .ok (.bipush 17, 2) := by decide +kernel
theorem dX11_init_117 : decode cX11_init 117 = .ok (.newarray .int, 2) := by decide +kernel
theorem dX11_init_119 : decode cX11_init 119 = .ok (.putfield 54, 3) := by decide +kernel
theorem dX11_init_122 : decode cX11_init 122 = .ok (.aload_n 0, 1) := by decide +kernel
theorem dX11_init_123 : decode cX11_init 123 = .ok (.sipush 245, 3) := by decide +kernel
theorem dX11_init_126 : decode cX11_init 126 = .ok (.newarray .long, 2) := by decide +kernel
theorem dX11_init_128 : decode cX11_init 128 = .ok (.putfield 57, 3) := by decide +kernel
theorem dX11_init_131 : decode cX11_init 131 = .ok (.aload_n 0, 1) := by decide +kernel
theorem dX11_init_132 : decode cX11_init 132 = .ok (.sipush 245, 3) := by decide +kernel
theorem dX11_init_135 : decode cX11_init 135 = .ok (.newarray .int, 2) := by decide +kernel
theorem dX11_init_137 : decode cX11_init 137 = .ok (.putfield 61, 3) := by decide +kernel
theorem dX11_init_140 : decode cX11_init 140 = .ok (.aload_n 0, 1) := by decide +kernel
theorem dX11_init_141 : decode cX11_init 141 = .ok (.sipush 245, 3) := by decide +kernel
theorem dX11_init_144 : decode cX11_init 144 = .ok (.newarray .long, 2) := by decide +kernel
theorem dX11_init_146 : decode cX11_init 146 = .ok (.putfield 64, 3) := by decide +kernel
theorem dX11_init_149 : decode cX11_init 149 = .ok (.aload_n 0, 1) := by decide +kernel
theorem dX11_init_150 : decode cX11_init 150 = .ok (.sipush 245, 3) := by decide +kernel
theorem dX11_init_153 : decode cX11_init 153 = .ok (.newarray .int, 2) := by decide +kernel
theorem dX11_init_155 : decode cX11_init 155 = .ok (.putfield 67, 3) := by decide +kernel
theorem dX11_init_158 : decode cX11_init 158 = .ok (.aload_n 0, 1) := by decide +kernel
theorem dX11_init_159 : decode cX11_init 159 = .ok (.sipush 245, 3) := by decide +kernel
theorem dX11_init_162 : decode cX11_init 162 = .ok (.newarray .int, 2) := by decide +kernel
theorem dX11_init_164 : decode cX11_init 164 = .ok (.putfield 70, 3) := by decide +kernel
theorem dX11_init_167 : decode cX11_init 167 = .ok (.aload_n 0, 1) := by decide +kernel
theorem dX11_init_168 : decode cX11_init 168 = .ok (.sipush 245, 3) := by decide +kernel
theorem dX11_init_171 : decode cX11_init 171 = .ok (.newarray .boolean, 2) := by decide +kernel
theorem dX11_init_173 : decode cX11_init 173 = .ok (.putfield 73, 3) := by decide +kernel
theorem dX11_init_176 : decode cX11_init 176 = .ok (.aload_n 0, 1) := by decide +kernel
theorem dX11_init_177 : decode cX11_init 177 = .ok (.sipush 2001, 3) := by decide +kernel
theorem dX11_init_180 : decode cX11_init 180 = .ok (.newarray .long, 2) := by decide +kernel
theorem dX11_init_182 : decode cX11_init 182 = .ok (.putfield 76, 3) := by decide +kernel
theorem dX11_init_185 : decode cX11_init 185 = .ok (.aload_n 0, 1) := by decide +kernel
theorem dX11_init_186 : decode cX11_init 186 = .ok (.sipush 2001, 3) := by decide +kernel
theorem dX11_init_189 : decode cX11_init 189 = .ok (.newarray .long, 2) := by decide +kernel
theorem dX11_init_191 : decode cX11_init 191 = .ok (.putfield 79, 3) := by decide +kernel
theorem dX11_init_194 : decode cX11_init 194 = .ok (.aload_n 0, 1) := by decide +kernel
theorem dX11_init_195 : decode cX11_init 195 = .ok (.sipush 2001, 3) := by decide +kernel
theorem dX11_init_198 : decode cX11_init 198 = .ok (.newarray .int, 2) := by decide +kernel
theorem dX11_init_200 : decode cX11_init 200 = .ok (.putfield 82, 3) := by decide +kernel
theorem dX11_init_203 : decode cX11_init 203 = .ok (.aload_n 0, 1) := by decide +kernel
theorem dX11_init_204 : decode cX11_init 204 = .ok (.sipush 2001, 3) := by decide +kernel
theorem dX11_init_207 : decode cX11_init 207 = .ok (.newarray .int, 2) := by decide +kernel
theorem dX11_init_209 : decode cX11_init 209 = .ok (.putfield 85, 3) := by decide +kernel
theorem dX11_init_212 : decode cX11_init 212 = .ok (.aload_n 0, 1) := by decide +kernel
theorem dX11_init_213 : decode cX11_init 213 = .ok (.sipush 2001, 3) := by decide +kernel
theorem dX11_init_216 : decode cX11_init 216 = .ok (.newarray .int, 2) := by decide +kernel
theorem dX11_init_218 : decode cX11_init 218 = .ok (.putfield 88, 3) := by decide +kernel
theorem dX11_init_221 : decode cX11_init 221 = .ok (.aload_n 0, 1) := by decide +kernel
theorem dX11_init_222 : decode cX11_init 222 = .ok (.bipush 12, 2) := by decide +kernel
theorem dX11_init_224 : decode cX11_init 224 = .ok (.newarray .int, 2) := by decide +kernel
theorem dX11_init_226 : decode cX11_init 226 = .ok (.putfield 91, 3) := by decide +kernel
theorem dX11_init_229 : decode cX11_init 229 = .ok (.aload_n 0, 1) := by decide +kernel
theorem dX11_init_230 : decode cX11_init 230 = .ok (.bipush 41, 2) := by decide +kernel
theorem dX11_init_232 : decode cX11_init 232 = .ok (.newarray .long, 2) := by decide +kernel
theorem dX11_init_234 : decode cX11_init 234 = .ok (.putfield 94, 3) := by decide +kernel
theorem dX11_init_237 : decode cX11_init 237 = .ok (.aload_n 0, 1) := by decide +kernel
theorem dX11_init_238 : decode cX11_init 238 = .ok (.sipush 2001, 3) := by decide +kernel
theorem dX11_init_241 : decode cX11_init 241 = .ok (.newarray .long, 2) := by decide +kernel
theorem dX11_init_243 : decode cX11_init 243 = .ok (.putfield 97, 3) := by decide +kernel
theorem dX11_init_246 : decode cX11_init 246 = .ok (.aload_n 0, 1) := by decide +kernel
theorem dX11_init_247 : decode cX11_init 247 = .ok (.sipush 2001, 3) := by decide +kernel
theorem dX11_init_250 : decode cX11_init 250 = .ok (.newarray .long, 2) := by decide +kernel
theorem dX11_init_252 : decode cX11_init 252 = .ok (.putfield 100, 3) := by decide +kernel
theorem dX11_init_255 : decode cX11_init 255 = .ok (.aload_n 0, 1) := by decide +kernel
theorem dX11_init_256 : decode cX11_init 256 = .ok (.iconst 5, 1) := by decide +kernel
theorem dX11_init_257 : decode cX11_init 257 = .ok (.newarray .long, 2) := by decide +kernel
theorem dX11_init_259 : decode cX11_init 259 = .ok (.putfield 103, 3) := by decide +kernel
theorem dX11_init_262 : decode cX11_init 262 = .ok (.aload_n 0, 1) := by decide +kernel
theorem dX11_init_263 : decode cX11_init 263 = .ok (.sipush 136, 3) := by decide +kernel
theorem dX11_init_266 : decode cX11_init 266 = .ok (.newarray .long, 2) := by decide +kernel
theorem dX11_init_268 : decode cX11_init 268 = .ok (.putfield 106, 3) := by decide +kernel
theorem dX11_init_271 : decode cX11_init 271 = .ok (.aload_n 0, 1) := by decide +kernel
theorem dX11_init_272 : decode cX11_init 272 = .ok (.iconst 5, 1) := by decide +kernel
theorem dX11_init_273 : decode cX11_init 273 = .ok (.newarray .long, 2) := by decide +kernel
theorem dX11_init_275 : decode cX11_init 275 = .ok (.putfield 109, 3) := by decide +kernel
theorem dX11_init_278 : decode cX11_init 278 = .ok (.aload_n 0, 1) := by decide +kernel
theorem dX11_init_279 : decode cX11_init 279 = .ok (.sipush 136, 3) := by decide +kernel
theorem dX11_init_282 : decode cX11_init 282 = .ok (.newarray .long, 2) := by decide +kernel
theorem dX11_init_284 : decode cX11_init 284 = .ok (.putfield 112, 3) := by decide +kernel
theorem dX11_init_287 : decode cX11_init 287 = .ok (.aload_n 0, 1) := by decide +kernel
theorem dX11_init_288 : decode cX11_init 288 = .ok (.bipush 125, 2) := by decide +kernel
theorem dX11_init_290 : decode cX11_init 290 = .ok (.newarray .int, 2) := by decide +kernel
theorem dX11_init_292 : decode cX11_init 292 = .ok (.putfield 115, 3) := by decide +kernel
theorem dX11_init_295 : decode cX11_init 295 = .ok (.aload_n 0, 1) := by decide +kernel
theorem dX11_init_296 : decode cX11_init 296 = .ok (.bipush 17, 2) := by decide +kernel
theorem dX11_init_298 : decode cX11_init 298 = .ok (.newarray .int, 2) := by decide +kernel
theorem dX11_init_300 : decode cX11_init 300 = .ok (.putfield 118, 3) := by decide +kernel
theorem dX11_init_303 : decode cX11_init 303 = .ok (.aload_n 0, 1) := by decide +kernel
theorem dX11_init_304 : decode cX11_init 304 = .ok (.iconst 5, 1) := by decide +kernel
theorem dX11_init_305 : decode cX11_init 305 = .ok (.newarray .int, 2) := by decide +kernel
theorem dX11_init_307 : decode cX11_init 307 = .ok (.putfield 121, 3) := by decide +kernel
theorem dX11_init_310 : decode cX11_init 310 = .ok (.aload_n 0, 1) := by decide +kernel
theorem dX11_init_311 : decode cX11_init 311 = .ok (.iconst 2, 1) := by decide +kernel
theorem dX11_init_312 : decode cX11_init 312 = .ok (.putfield 124, 3) := by decide +kernel
theorem dX11_init_315 : decode cX11_init 315 = .ok (.iconst 0, 1) := by decide +kernel
theorem dX11_init_316 : decode cX11_init 316 = .ok (.istore_n 1, 1) := by decide +kernel
theorem dX11_init_317 : decode cX11_init 317 = .ok (.iload_n 1, 1) := by decide +kernel
theorem dX11_init_318 : decode cX11_init 318 = .ok (.bipush 16, 2) := by decide +kernel
theorem dX11_init_320 : decode cX11_init 320 = .ok (.if_icmp .ge 16, 3) := by decide +kernel
theorem dX11_init_323 : decode cX11_init 323 = .ok (.aload_n 0, 1) := by decide +kernel
theorem dX11_init_324 : decode cX11_init 324 = .ok (.getfield 22, 3) := by decide +kernel
theorem dX11_init_327 : decode cX11_init 327 = .ok (.iload_n 1, 1) := by decide +kernel
theorem dX11_init_328 : decode cX11_init 328 = .ok (.iconst 1, 1) := by decide +kernel
theorem dX11_init_329 : decode cX11_init 329 = .ok (.bastore, 1) := by decide +kernel
theorem dX11_init_330 : decode cX11_init 330 = .ok (.iinc 1 1, 3) := by decide +kernel
theorem dX11_init_333 : decode cX11_init 333 = .ok (.goto (-16), 3) := by decide +kernel
theorem dX11_init_336 : decode cX11_init 336 = .ok (.aload_n 0, 1) := by decide +kernel
theorem dX11_init_337 : decode cX11_init 337 = .ok (.getfield 26, 3) := by decide +kernel
theorem dX11_init_340 : decode cX11_init 340 = .ok (.iconst 0, 1) := by decide +kernel
theorem dX11_init_341 : decode cX11_init 341 = .ok (.iconst 3, 1) := by decide +kernel
theorem dX11_init_342 : decode cX11_init 342 = .ok (.iastore, 1) := by decide +kernel
theorem dX11_init_343 : decode cX11_init 343 = .ok (.aload_n 0, 1) := by decide +kernel
theorem dX11_init_344 : decode cX11_init 344 = .ok (.getfield 26, 3) := by decide +kernel
theorem dX11_init_347 : decode cX11_init 347 = .ok (.iconst 1, 1) := by decide +kernel
theorem dX11_init_348 : decode cX11_init 348 = .ok (.iconst 4, 1) := by decide +kernel
theorem dX11_init_349 : decode cX11_init 349 = .ok (.iastore, 1) := by decide +kernel
theorem dX11_init_350 : decode cX11_init 350 = .ok (.aload_n 0, 1) := by decide +kernel
theorem dX11_init_351 : decode cX11_init 351 = .ok (.getfield 26, 3) := by decide +kernel
theorem dX11_init_354 : decode cX11_init 354 = .ok (.iconst 2, 1) := by decide +kernel
theorem dX11_init_355 : decode cX11_init 355 = .ok (.iconst 5, 1) := by decide +kernel
theorem dX11_init_356 : decode cX11_init 356 = .ok (.iastore, 1) := by decide +kernel
theorem dX11_init_357 : decode cX11_init 357 = .ok (.return_, 1) := by decide +kernel
theorem dX11_in_0 : decode cX11_in 0 = .ok (.lload_n 0, 1) := by decide +kernel
theorem dX11_in_1 : decode cX11_in 1 = .ok (.lload_n 2, 1) := by decide +kernel
theorem dX11_in_2 : decode cX11_in 2 = .ok (.lcmp, 1) := by decide +kernel
theorem dX11_in_3 : decode cX11_in 3 = .ok (.ifCond .lt 14, 3) := by decide +kernel
theorem dX11_in_6 : decode cX11_in 6 = .ok (.lload_n 0, 1) := by decide +kernel
theorem dX11_in_7 : decode cX11_in 7 = .ok (.lload 4, 2) := by decide +kernel
theorem dX11_in_9 : decode cX11_in 9 = .ok (.lcmp, 1) := by decide +kernel
theorem dX11_in_10 : decode cX11_in 10 = .ok (.ifCond .gt 7, 3) := by decide +kernel
theorem dX11_in_13 : decode cX11_in 13 = .ok (.iconst 1, 1) := by decide +kernel
theorem dX11_in_14 : decode cX11_in 14 = .ok (.goto 4, 3) := by decide +kernel
theorem dX11_in_17 : decode cX11_in 17 = .ok (.iconst 0, 1) := by decide +kernel
theorem dX11_in_18 : decode cX11_in 18 = .ok (.ireturn, 1) := by decide +kernel
theorem dX11_one_0 : decode cX11_one 0 = .ok (.iload_n 0, 1) := by decide +kernel

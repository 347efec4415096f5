theorem dX1_keep_75 : decode cX1_keep 75 = .ok (.getfield 90, 3) := by decide +kernel
theorem dX1_keep_78 : decode cX1_keep 78 = .ok (.iastore, 1) := by decide +kernel
theorem dX1_keep_79 : decode cX1_keep 79 = .ok (.aload_n 0, 1) := by decide +kernel
theorem dX1_keep_80 : decode cX1_keep 80 = .ok (.dup, 1) := by decide +kernel
theorem dX1_keep_81 : decode cX1_keep 81 = .ok (.getfield 90, 3) := by decide +kernel
theorem dX1_keep_84 : decode cX1_keep 84 = .ok (.iconst 1, 1) := by decide +kernel
theorem dX1_keep_85 : decode cX1_keep 85 = .ok (.iadd, 1) := by decide +kernel
theorem dX1_keep_86 : decode cX1_keep 86 = .ok (.putfield 90, 3) := by decide +kernel
theorem dX1_keep_89 : decode cX1_keep 89 = .ok (.return_, 1) := by decide +kernel
theorem dX2_init_0 : decode cX2_init 0 = .ok (.aload_n 0, 1) := by decide +kernel
theorem dX2_init_1 : decode cX2_init 1 = .ok (.invokespecial 3, 3) := by decide +kernel
theorem dX2_init_4 : decode cX2_init 4 = .ok (.aload_n 0, 1) := by decide +kernel
theorem dX2_init_5 : decode cX2_init 5 = .ok (.bipush 16, 2) := by decide +kernel
theorem dX2_init_7 : decode cX2_init 7 = .ok (.newarray .int, 2) := by decide +kernel
theorem dX2_init_9 : decode cX2_init 9 = .ok (.putfield 9, 3) := by decide +kernel
theorem dX2_init_12 : decode cX2_init 12 = .ok (.aload_n 0, 1) := by decide +kernel
theorem dX2_init_13 : decode cX2_init 13 = .ok (.iconst (-1), 1) := by decide +kernel
theorem dX2_init_14 : decode cX2_init 14 = .ok (.putfield 15, 3) := by decide +kernel
theorem dX2_init_17 : decode cX2_init 17 = .ok (.aload_n 0, 1) := by decide +kernel
theorem dX2_init_18 : decode cX2_init 18 = .ok (.iconst 4, 1) := by decide +kernel
theorem dX2_init_19 : decode cX2_init 19 = .ok (.anewarray 19, 3) := by decide +kernel
theorem dX2_init_22 : decode cX2_init 22 = .ok (.putfield 21, 3) := by decide +kernel
theorem dX2_init_25 : decode cX2_init 25 = .ok (.aload_n 0, 1) := by decide +kernel
theorem dX2_init_26 : decode cX2_init 26 = .ok (.bipush 96, 2) := by decide +kernel
theorem dX2_init_28 : decode cX2_init 28 = .ok (.newarray .int, 2) := by decide +kernel
theorem dX2_init_30 : decode cX2_init 30 = .ok (.putfield 25, 3) := by decide +kernel
theorem dX2_init_33 : decode cX2_init 33 = .ok (.aload_n 0, 1) := by decide +kernel
theorem dX2_init_34 : decode cX2_init 34 = .ok (.bipush 96, 2) := by decide +kernel
theorem dX2_init_36 : decode cX2_init 36 = .ok (.newarray .int, 2) := by decide +kernel
theorem dX2_init_38 : decode cX2_init 38 = .ok (.putfield 28, 3) := by decide +kernel
theorem dX2_init_41 : decode cX2_init 41 = .ok (.aload_n 0, 1) := by decide +kernel
theorem dX2_init_42 : decode cX2_init 42 = .ok (.bipush 125, 2) := by decide +kernel
theorem dX2_init_44 : decode cX2_init 44 = .ok (.newarray .int, 2) := by decide +kernel
theorem dX2_init_46 : decode cX2_init 46 = .ok (.putfield 31, 3) := by decide +kernel
theorem dX2_init_49 : decode cX2_init 49 = .ok (.aload_n 0, 1) := by decide +kernel
theorem dX2_init_50 : decode cX2_init 50 = .ok (.iconst 4, 1) := by decide +kernel
theorem dX2_init_51 : decode cX2_init 51 = .ok (.newarray .int, 2) := by decide +kernel
theorem dX2_init_53 : decode cX2_init 53 = .ok (.putfield 34, 3) := by decide +kernel
theorem dX2_init_56 : decode cX2_init 56 = .ok (.aload_n 0, 1) := by decide +kernel
theorem dX2_init_57 : decode cX2_init 57 = .ok (.iconst 4, 1) := by decide +kernel
theorem dX2_init_58 : decode cX2_init 58 = .ok (.newarray .int, 2) := by decide +kernel
theorem dX2_init_60 : decode cX2_init 60 = .ok (.putfield 37, 3) := by decide +kernel
theorem dX2_init_63 : decode cX2_init 63 = .ok (.aload_n 0, 1) := by decide +kernel
theorem dX2_init_64 : decode cX2_init 64 = .ok (.aload_n 1, 1) := by decide +kernel
theorem dX2_init_65 : decode cX2_init 65 = .ok (.putfield 40, 3) := by decide +kernel
theorem dX2_init_68 : decode cX2_init 68 = .ok (.aload_n 0, 1) := by decide +kernel
theorem dX2_init_69 : decode cX2_init 69 = .ok (.aload_n 2, 1) := by decide +kernel
theorem dX2_init_70 : decode cX2_init 70 = .ok (.putfield 44, 3) := by decide +kernel
theorem dX2_init_73 : decode cX2_init 73 = .ok (.iconst 0, 1) := by decide +kernel
theorem dX2_init_74 : decode cX2_init 74 = .ok (.istore_n 3, 1) := by decide +kernel
theorem dX2_init_75 : decode cX2_init 75 = .ok (.iload_n 3, 1) := by decide +kernel
theorem dX2_init_76 : decode cX2_init 76 = .ok (.iconst 4, 1) := by decide +kernel
theorem dX2_init_77 : decode cX2_init 77 = .ok (.if_icmp .ge 24, 3) := by decide +kernel
theorem dX2_init_80 : decode cX2_init 80 = .ok (.aload_n 0, 1) := by decide +kernel
theorem dX2_init_81 : decode cX2_init 81 = .ok (.getfield 21, 3) := by decide +kernel
theorem dX2_init_84 : decode cX2_init 84 = .ok (.iload_n 3, 1) := by decide +kernel
theorem dX2_init_85 : decode cX2_init 85 = .ok (.new 19, 3) := by decide +kernel
theorem dX2_init_88 : decode cX2_init 88 = .ok (.dup, 1) := by decide +kernel
theorem dX2_init_89 : decode cX2_init 89 = .ok (.bipush 24, 2) := by decide +kernel
theorem dX2_init_91 : decode cX2_init 91 = .ok (.invokespecial 48, 3) := by decide +kernel
theorem dX2_init_94 : decode cX2_init 94 = .ok (.aastore, 1) := by decide +kernel
theorem dX2_init_95 : decode cX2_init 95 = .ok (.iinc 3 1, 3) := by decide +kernel
theorem dX2_init_98 : decode cX2_init 98 = .ok (.goto (-23), 3) := by decide +kernel
theorem dX2_init_101 : decode cX2_init 101 = .ok (.return_, 1) := by decide +kernel
theorem dX2_take_0 : decode cX2_take 0 = .ok (.aload_n 0, 1) := by decide +kernel
theorem dX2_take_1 : decode cX2_take 1 = .ok (.getfield 51, 3) := by decide +kernel
theorem dX2_take_4 : decode cX2_take 4 = .ok (.iconst 4, 1) := by decide +kernel
theorem dX2_take_5 : decode cX2_take 5 = .ok (.if_icmp .lt 4, 3) := by decide +kernel
theorem dX2_take_8 : decode cX2_take 8 = .ok (.return_, 1) := by decide +kernel
theorem dX2_take_9 : decode cX2_take 9 = .ok (.aload_n 0, 1) := by decide +kernel
theorem dX2_take_10 : decode cX2_take 10 = .ok (.getfield 21, 3) := by decide +kernel
theorem dX2_take_13 : decode cX2_take 13 = .ok (.aload_n 0, 1) := by decide +kernel
theorem dX2_take_14 : decode cX2_take 14 = .ok (.getfield 51, 3) := by decide +kernel
theorem dX2_take_17 : decode cX2_take 17 = .ok (.aaload, 1) := by decide +kernel
theorem dX2_take_18 : decode cX2_take 18 = .ok (.astore_n 2, 1) := by decide +kernel
theorem dX2_take_19 : decode cX2_take 19 = .ok (.aload_n 2, 1) := by decide +kernel
theorem dX2_take_20 : decode cX2_take 20 = .ok (.iconst 0, 1) := by decide +kernel
theorem dX2_take_21 : decode cX2_take 21 = .ok (.putfield 54, 3) := by decide +kernel
theorem dX2_take_24 : decode cX2_take 24 = .ok (.iconst 0, 1) := by decide +kernel
theorem dX2_take_25 : decode cX2_take 25 = .ok (.istore_n 3, 1) := by decide +kernel
theorem dX2_take_26 : decode cX2_take 26 = .ok (.iload_n 3, 1) := by decide +kernel
theorem dX2_take_27 : decode cX2_take 27 = .ok (.aload_n 1, 1) := by decide +kernel
theorem dX2_take_28 : decode cX2_take 28 = .ok (.getfield 54, 3) := by decide +kernel
theorem dX2_take_31 : decode cX2_take 31 = .ok (.if_icmp .ge 19, 3) := by decide +kernel
theorem dX2_take_34 : decode cX2_take 34 = .ok (.aload_n 2, 1) := by decide +kernel
theorem dX2_take_35 : decode cX2_take 35 = .ok (.aload_n 1, 1) := by decide +kernel
theorem dX2_take_36 : decode cX2_take 36 = .ok (.getfield 55, 3) := by decide +kernel
theorem dX2_take_39 : decode cX2_take 39 = .ok (.iload_n 3, 1) := by decide +kernel
theorem dX2_take_40 : decode cX2_take 40 = .ok (.iaload, 1) := by decide +kernel
theorem dX2_take_41 : decode cX2_take 41 = .ok (.invokevirtual 58, 3) := by decide +kernel
theorem dX2_take_44 : decode cX2_take 44 = .ok (.iinc 3 1, 3) := by decide +kernel
theorem dX2_take_47 : decode cX2_take 47 = .ok (.goto (-21), 3) := by decide +kernel
theorem dX2_take_50 : decode cX2_take 50 = .ok (.aload_n 0, 1) := by decide +kernel
theorem dX2_take_51 : decode cX2_take 51 = .ok (.dup, 1) := by decide +kernel
theorem dX2_take_52 : decode cX2_take 52 = .ok (.getfield 51, 3) := by decide +kernel
theorem dX2_take_55 : decode cX2_take 55 = .ok (.iconst 1, 1) := by decide +kernel
theorem dX2_take_56 : decode cX2_take 56 = .ok (.iadd, 1) := by decide +kernel
theorem dX2_take_57 : decode cX2_take 57 = .ok (.putfield 51, 3) := by decide +kernel
theorem dX2_take_60 : decode cX2_take 60 = .ok (.return_, 1) := by decide +kernel
theorem dX2_match_0 : decode cX2_match 0 = .ok (.iconst 0, 1) := by decide +kernel
theorem dX2_match_1 : decode cX2_match 1 = .ok (.istore_n 1, 1) := by decide +kernel
theorem dX2_match_2 : decode cX2_match 2 = .ok (.iload_n 1, 1) := by decide +kernel
theorem dX2_match_3 : decode cX2_match 3 = .ok (.aload_n 0, 1) := by decide +kernel
theorem dX2_match_4 : decode cX2_match 4 = .ok (.getfield 51, 3) := by decide +kernel
theorem dX2_match_7 : decode cX2_match 7 = .ok (.if_icmp .ge 55, 3) := by decide +kernel
theorem dX2_match_10 : decode cX2_match 10 = .ok (.iconst 0, 1) := by decide +kernel
theorem dX2_match_11 : decode cX2_match 11 = .ok (.istore_n 2, 1) := by decide +kernel
theorem dX2_match_12 : decode cX2_match 12 = .ok (.iload_n 2, 1) := by decide +kernel
theorem dX2_match_13 : decode cX2_match 13 = .ok (.aload_n 0, 1) := by decide +kernel
theorem dX2_match_14 : decode cX2_match 14 = .ok (.getfield 21, 3) := by decide +kernel
theorem dX2_match_17 : decode cX2_match 17 = .ok (.iload_n 1, 1) := by decide +kernel
theorem dX2_match_18 : decode cX2_match 18 = .ok (.aaload, 1) := by decide +kernel
theorem dX2_match_19 : decode cX2_match 19 = .ok (.getfield 54, 3) := by decide +kernel
theorem dX2_match_22 : decode cX2_match 22 = .ok (.if_icmp .ge 34, 3) := by decide +kernel
theorem dX2_match_25 : decode cX2_match 25 = .ok (.aload_n 0, 1) := by decide +kernel
theorem dX2_match_26 : decode cX2_match 26 = .ok (.getfield 25, 3) := by decide +kernel
theorem dX2_match_29 : decode cX2_match 29 = .ok (.iload_n 1, 1) := by decide +kernel
theorem dX2_match_30 : decode cX2_match 30 = .ok (.bipush 24, 2) := by decide +kernel
theorem dX2_match_32 : decode cX2_match 32 = .ok (.imul, 1) := by decide +kernel
theorem dX2_match_33 : decode cX2_match 33 = .ok (.iload_n 2, 1) := by decide +kernel
theorem dX2_match_34 : decode cX2_match 34 = .ok (.iadd, 1) := by decide +kernel
theorem dX2_match_35 : decode cX2_match 35 = .ok (.aload_n 0, 1) := by decide +kernel
theorem dX2_match_36 : decode cX2_match 36 = .ok (.getfield 40, 3) := by decide +kernel
theorem dX2_match_39 : decode cX2_match 39 = .ok (.aload_n 0, 1) := by decide +kernel
theorem dX2_match_40 : decode cX2_match 40 = .ok (.getfield 21, 3) := by decide +kernel
theorem dX2_match_43 : decode cX2_match 43 = .ok (.iload_n 1, 1) := by decide +kernel
theorem dX2_match_44 : decode cX2_match 44 = .ok (.aaload, 1) := by decide +kernel
theorem dX2_match_45 : decode cX2_match 45 = .ok (.iload_n 2, 1) := by decide +kernel
theorem dX2_match_46 : decode cX2_match 46 = .ok (.invokevirtual 61, 3) := by decide +kernel
theorem dX2_match_49 : decode cX2_match 49 = .ok (.iastore, 1) := by decide +kernel
theorem dX2_match_50 : decode cX2_match 50 = .ok (.iinc 2 1, 3) := by decide +kernel
theorem dX2_match_53 : decode cX2_match 53 = .ok (.goto (-41), 3) := by decide +kernel
theorem dX2_match_56 : decode cX2_match 56 = .ok (.iinc 1 1, 3) := by decide +kernel
theorem dX2_match_59 : decode cX2_match 59 = .ok (.goto (-57), 3) := by decide +kernel
theorem dX2_match_62 : decode cX2_match 62 = .ok (.return_, 1) := by decide +kernel
theorem dX2_sumOfLeast_0 : decode cX2_sumOfLeast 0 = .ok (.iconst 0, 1) := by decide +kernel
theorem dX2_sumOfLeast_1 : decode cX2_sumOfLeast 1 = .ok (.istore_n 1, 1) := by decide +kernel
theorem dX2_sumOfLeast_2 : decode cX2_sumOfLeast 2 = .ok (.iconst 0, 1) := by decide +kernel
theorem dX2_sumOfLeast_3 : decode cX2_sumOfLeast 3 = .ok (.istore_n 2, 1) := by decide +kernel
theorem dX2_sumOfLeast_4 : decode cX2_sumOfLeast 4 = .ok (.iload_n 2, 1) := by decide +kernel
theorem dX2_sumOfLeast_5 : decode cX2_sumOfLeast 5 = .ok (.aload_n 0, 1) := by decide +kernel
theorem dX2_sumOfLeast_6 : decode cX2_sumOfLeast 6 = .ok (.getfield 51, 3) := by decide +kernel
theorem dX2_sumOfLeast_9 : decode cX2_sumOfLeast 9 = .ok (.if_icmp .ge 17, 3) := by decide +kernel
theorem dX2_sumOfLeast_12 : decode cX2_sumOfLeast 12 = .ok (.iload_n 1, 1) := by decide +kernel
theorem dX2_sumOfLeast_13 : decode cX2_sumOfLeast 13 = .ok (.aload_n 0, 1) := by decide +kernel
theorem dX2_sumOfLeast_14 : decode cX2_sumOfLeast 14 = .ok (.iload_n 2, 1) := by decide +kernel
theorem dX2_sumOfLeast_15 : decode cX2_sumOfLeast 15 = .ok (.invokevirtual 67, 3) := by decide +kernel
theorem dX2_sumOfLeast_18 : decode cX2_sumOfLeast 18 = .ok (.iadd, 1) := by decide +kernel
theorem dX2_sumOfLeast_19 : decode cX2_sumOfLeast 19 = .ok (.istore_n 1, 1) := by decide +kernel
theorem dX2_sumOfLeast_20 : decode cX2_sumOfLeast 20 = .ok (.iinc 2 1, 3) := by decide +kernel
theorem dX2_sumOfLeast_23 : decode cX2_sumOfLeast 23 = .ok (.goto (-19), 3) := by decide +kernel
theorem dX2_sumOfLeast_26 : decode cX2_sumOfLeast 26 = .ok (.iload_n 1, 1) := by decide +kernel
theorem dX2_sumOfLeast_27 : decode cX2_sumOfLeast 27 = .ok (.ireturn, 1) := by decide +kernel
theorem dX2_measure_0 : decode cX2_measure 0 = .ok (.aload_n 0, 1) := by decide +kernel
theorem dX2_measure_1 : decode cX2_measure 1 = .ok (.getfield 21, 3) := by decide +kernel
theorem dX2_measure_4 : decode cX2_measure 4 = .ok (.iload_n 1, 1) := by decide +kernel
theorem dX2_measure_5 : decode cX2_measure 5 = .ok (.aaload, 1) := by decide +kernel
theorem dX2_measure_6 : decode cX2_measure 6 = .ok (.getfield 54, 3) := by decide +kernel
theorem dX2_measure_9 : decode cX2_measure 9 = .ok (.istore_n 2, 1) := by decide +kernel
theorem dX2_measure_10 : decode cX2_measure 10 = .ok (.iconst 0, 1) := by decide +kernel
theorem dX2_measure_11 : decode cX2_measure 11 = .ok (.istore_n 3, 1) := by decide +kernel
theorem dX2_measure_12 : decode cX2_measure 12 = .ok (.iload_n 3, 1) := by decide +kernel
theorem dX2_measure_13 : decode cX2_measure 13 = .ok (.iconst 5, 1) := by decide +kernel
theorem dX2_measure_14 : decode cX2_measure 14 = .ok (.if_icmp .ge 20, 3) := by decide +kernel
theorem dX2_measure_17 : decode cX2_measure 17 = .ok (.aload_n 0, 1) := by decide +kernel
theorem dX2_measure_18 : decode cX2_measure 18 = .ok (.getfield 31, 3) := by decide +kernel
theorem dX2_measure_21 : decode cX2_measure 21 = .ok (.iload_n 2, 1) := by decide +kernel
theorem dX2_measure_22 : decode cX2_measure 22 = .ok (.iconst 5, 1) := by decide +kernel
theorem dX2_measure_23 : decode cX2_measure 23 = .ok (.imul, 1) := by decide +kernel
theorem dX2_measure_24 : decode cX2_measure 24 = .ok (.iload_n 3, 1) := by decide +kernel
theorem dX2_measure_25 : decode cX2_measure 25 = .ok (.iadd, 1) := by decide +kernel
theorem dX2_measure_26 : decode cX2_measure 26 = .ok (.iconst 0, 1) := by decide +kernel
theorem dX2_measure_27 : decode cX2_measure 27 = .ok (.iastore, 1) := by decide +kernel
theorem dX2_measure_28 : decode cX2_measure 28 = .ok (.iinc 3 1, 3) := by decide +kernel
theorem dX2_measure_31 : decode cX2_measure 31 = .ok (.goto (-19), 3) := by decide +kernel
theorem dX2_measure_34 : decode cX2_measure 34 = .ok (.iload_n 2, 1) := by decide +kernel
theorem dX2_measure_35 : decode cX2_measure 35 = .ok (.iconst 1, 1) := by decide +kernel
theorem dX2_measure_36 : decode cX2_measure 36 = .ok (.isub, 1) := by decide +kernel
theorem dX2_measure_37 : decode cX2_measure 37 = .ok (.istore_n 3, 1) := by decide +kernel
theorem dX2_measure_38 : decode cX2_measure 38 = .ok (.iload_n 3, 1) := by decide +kernel
theorem dX2_measure_39 : decode cX2_measure 39 = .ok (.ifCond .lt 15, 3) := by decide +kernel
theorem dX2_measure_42 : decode cX2_measure 42 = .ok (.aload_n 0, 1) := by decide +kernel
theorem dX2_measure_43 : decode cX2_measure 43 = .ok (.iload_n 1, 1) := by decide +kernel
theorem dX2_measure_44 : decode cX2_measure 44 = .ok (.iload_n 3, 1) := by decide +kernel
theorem dX2_measure_45 : decode cX2_measure 45 = .ok (.invokevirtual 71, 3) := by decide +kernel
theorem dX2_measure_48 : decode cX2_measure 48 = .ok (.iinc 3 (-1), 3) := by decide +kernel
theorem dX2_measure_51 : decode cX2_measure 51 = .ok (.goto (-13), 3) := by decide +kernel
theorem dX2_measure_54 : decode cX2_measure 54 = .ok (.aload_n 0, 1) := by decide +kernel
theorem dX2_measure_55 : decode cX2_measure 55 = .ok (.getfield 31, 3) := by decide +kernel
theorem dX2_measure_58 : decode cX2_measure 58 = .ok (.iconst 4, 1) := by decide +kernel
theorem dX2_measure_59 : decode cX2_measure 59 = .ok (.iaload, 1) := by decide +kernel
theorem dX2_measure_60 : decode cX2_measure 60 = .ok (.ireturn, 1) := by decide +kernel
theorem dX2_measureFrom_0 : decode cX2_measureFrom 0 = .ok (.iconst 0, 1) := by decide +kernel
theorem dX2_measureFrom_1 : decode cX2_measureFrom 1 = .ok (.istore_n 3, 1) := by decide +kernel
theorem dX2_measureFrom_2 : decode cX2_measureFrom 2 = .ok (.iload_n 3, 1) := by decide +kernel
theorem dX2_measureFrom_3 : decode cX2_measureFrom 3 = .ok (.iconst 4, 1) := by decide +kernel
theorem dX2_measureFrom_4 : decode cX2_measureFrom 4 = .ok (.if_icmp .ge 17, 3) := by decide +kernel
theorem dX2_measureFrom_7 : decode cX2_measureFrom 7 = .ok (.aload_n 0, 1) := by decide +kernel
theorem dX2_measureFrom_8 : decode cX2_measureFrom 8 = .ok (.getfield 34, 3) := by decide +kernel
theorem dX2_measureFrom_11 : decode cX2_measureFrom 11 = .ok (.iload_n 3, 1) := by decide +kernel
theorem dX2_measureFrom_12 : decode cX2_measureFrom 12 = .ok (.ldc 75, 2) := by decide +kernel
theorem dX2_measureFrom_14 : decode cX2_measureFrom 14 = .ok (.iastore, 1) := by decide +kernel
theorem dX2_measureFrom_15 : decode cX2_measureFrom 15 = .ok (.iinc 3 1, 3) := by decide +kernel
theorem dX2_measureFrom_18 : decode cX2_measureFrom 18 = .ok (.goto (-16), 3) := by decide +kernel
theorem dX2_measureFrom_21 : decode cX2_measureFrom 21 = .ok (.aload_n 0, 1) := by decide +kernel
theorem dX2_measureFrom_22 : decode cX2_measureFrom 22 = .ok (.getfield 25, 3) := by decide +kernel
theorem dX2_measureFrom_25 : decode cX2_measureFrom 25 = .ok (.iload_n 1, 1) := by decide +kernel
theorem dX2_measureFrom_26 : decode cX2_measureFrom 26 = .ok (.bipush 24, 2) := by decide +kernel
theorem dX2_measureFrom_28 : decode cX2_measureFrom 28 = .ok (.imul, 1) := by decide +kernel
theorem dX2_measureFrom_29 : decode cX2_measureFrom 29 = .ok (.iload_n 2, 1) := by decide +kernel
theorem dX2_measureFrom_30 : decode cX2_measureFrom 30 = .ok (.iadd, 1) := by decide +kernel
theorem dX2_measureFrom_31 : decode cX2_measureFrom 31 = .ok (.iaload, 1) := by decide +kernel
theorem dX2_measureFrom_32 : decode cX2_measureFrom 32 = .ok (.istore_n 3, 1) := by decide +kernel
theorem dX2_measureFrom_33 : decode cX2_measureFrom 33 = .ok (.iconst 0, 1) := by decide +kernel
theorem dX2_measureFrom_34 : decode cX2_measureFrom 34 = .ok (.istore 4, 2) := by decide +kernel
theorem dX2_measureFrom_36 : decode cX2_measureFrom 36 = .ok (.iload 4, 2) := by decide +kernel
theorem dX2_measureFrom_38 : decode cX2_measureFrom 38 = .ok (.aload_n 0, 1) := by decide +kernel
theorem dX2_measureFrom_39 : decode cX2_measureFrom 39 = .ok (.getfield 40, 3) := by decide +kernel
theorem dX2_measureFrom_42 : decode cX2_measureFrom 42 = .ok (.getfield 76, 3) := by decide +kernel
theorem dX2_measureFrom_45 : decode cX2_measureFrom 45 = .ok (.if_icmp .ge 65, 3) := by decide +kernel
theorem dX2_measureFrom_48 : decode cX2_measureFrom 48 = .ok (.iload_n 3, 1) := by decide +kernel
theorem dX2_measureFrom_49 : decode cX2_measureFrom 49 = .ok (.iload 4, 2) := by decide +kernel
theorem dX2_measureFrom_51 : decode cX2_measureFrom 51 = .ok (.ishr, 1) := by decide +kernel
theorem dX2_measureFrom_52 : decode cX2_measureFrom 52 = .ok (.ifCond .eq 58, 3) := by decide +kernel
theorem dX2_measureFrom_55 : decode cX2_measureFrom 55 = .ok (.iload_n 3, 1) := by decide +kernel
theorem dX2_measureFrom_56 : decode cX2_measureFrom 56 = .ok (.iload 4, 2) := by decide +kernel
theorem dX2_measureFrom_58 : decode cX2_measureFrom 58 = .ok (.ishr, 1) := by decide +kernel
theorem dX2_measureFrom_59 : decode cX2_measureFrom 59 = .ok (.iconst 1, 1) := by decide +kernel
theorem dX2_measureFrom_60 : decode cX2_measureFrom 60 = .ok (.iand, 1) := by decide +kernel
theorem dX2_measureFrom_61 : decode cX2_measureFrom 61 = .ok (.ifCond .eq 43, 3) := by decide +kernel
theorem dX2_measureFrom_64 : decode cX2_measureFrom 64 = .ok (.aload_n 0, 1) := by decide +kernel
theorem dX2_measureFrom_65 : decode cX2_measureFrom 65 = .ok (.getfield 34, 3) := by decide +kernel
theorem dX2_measureFrom_68 : decode cX2_measureFrom 68 = .ok (.aload_n 0, 1) := by decide +kernel
theorem dX2_measureFrom_69 : decode cX2_measureFrom 69 = .ok (.getfield 40, 3) := by decide +kernel
theorem dX2_measureFrom_72 : decode cX2_measureFrom 72 = .ok (.getfield 77, 3) := by decide +kernel
theorem dX2_measureFrom_75 : decode cX2_measureFrom 75 = .ok (.iload 4, 2) := by decide +kernel
theorem dX2_measureFrom_77 : decode cX2_measureFrom 77 = .ok (.iaload, 1) := by decide +kernel
theorem dX2_measureFrom_78 : decode cX2_measureFrom 78 = .ok (.aload_n 0, 1) := by decide +kernel
theorem dX2_measureFrom_79 : decode cX2_measureFrom 79 = .ok (.getfield 34, 3) := by decide +kernel
theorem dX2_measureFrom_82 : decode cX2_measureFrom 82 = .ok (.aload_n 0, 1) := by decide +kernel
theorem dX2_measureFrom_83 : decode cX2_measureFrom 83 = .ok (.getfield 40, 3) := by decide +kernel
theorem dX2_measureFrom_86 : decode cX2_measureFrom 86 = .ok (.getfield 77, 3) := by decide +kernel
theorem dX2_measureFrom_89 : decode cX2_measureFrom 89 = .ok (.iload 4, 2) := by decide +kernel
theorem dX2_measureFrom_91 : decode cX2_measureFrom 91 = .ok (.iaload, 1) := by decide +kernel
theorem dX2_measureFrom_92 : decode cX2_measureFrom 92 = .ok (.iaload, 1) := by decide +kernel
theorem dX2_measureFrom_93 : decode cX2_measureFrom 93 = .ok (.aload_n 0, 1) := by decide +kernel
theorem dX2_measureFrom_94 : decode cX2_measureFrom 94 = .ok (.iload_n 2, 1) := by decide +kernel
theorem dX2_measureFrom_95 : decode cX2_measureFrom 95 = .ok (.iload 4, 2) := by decide +kernel
theorem dX2_measureFrom_97 : decode cX2_measureFrom 97 = .ok (.invokevirtual 80, 3) := by decide +kernel
theorem dX2_measureFrom_100 : decode cX2_measureFrom 100 = .ok (.invokestatic 84, 3) := by decide +kernel
theorem dX2_measureFrom_103 : decode cX2_measureFrom 103 = .ok (.iastore, 1) := by decide +kernel
theorem dX2_measureFrom_104 : decode cX2_measureFrom 104 = .ok (.iinc 4 1, 3) := by decide +kernel
theorem dX2_measureFrom_107 : decode cX2_measureFrom 107 = .ok (.goto (-71), 3) := by decide +kernel
theorem dX2_measureFrom_110 : decode cX2_measureFrom 110 = .ok (.aload_n 0, 1) := by decide +kernel
theorem dX2_measureFrom_111 : decode cX2_measureFrom 111 = .ok (.getfield 89, 3) := by decide +kernel
theorem dX2_measureFrom_114 : decode cX2_measureFrom 114 = .ok (.ifCond .eq 54, 3) := by decide +kernel
theorem dX2_measureFrom_117 : decode cX2_measureFrom 117 = .ok (.aload_n 0, 1) := by decide +kernel
theorem dX2_measureFrom_118 : decode cX2_measureFrom 118 = .ok (.getfield 28, 3) := by decide +kernel
theorem dX2_measureFrom_121 : decode cX2_measureFrom 121 = .ok (.iload_n 1, 1) := by decide +kernel
theorem dX2_measureFrom_122 : decode cX2_measureFrom 122 = .ok (.bipush 24, 2) := by decide +kernel
theorem dX2_measureFrom_124 : decode cX2_measureFrom 124 = .ok (.imul, 1) := by decide +kernel
theorem dX2_measureFrom_125 : decode cX2_measureFrom 125 = .ok (.iload_n 2, 1) := by decide +kernel
theorem dX2_measureFrom_126 : decode cX2_measureFrom 126 = .ok (.iadd, 1) := by decide +kernel
theorem dX2_measureFrom_127 : decode cX2_measureFrom 127 = .ok (.iaload, 1) := by decide +kernel
theorem dX2_measureFrom_128 : decode cX2_measureFrom 128 = .ok (.aload_n 0, 1) := by decide +kernel
theorem dX2_measureFrom_129 : decode cX2_measureFrom 129 = .ok (.getfield 89, 3) := by decide +kernel
theorem dX2_measureFrom_132 : decode cX2_measureFrom 132 = .ok (.if_icmp .ne 36, 3) := by decide +kernel
theorem dX2_measureFrom_135 : decode cX2_measureFrom 135 = .ok (.aload_n 0, 1) := by decide +kernel
theorem dX2_measureFrom_136 : decode cX2_measureFrom 136 = .ok (.getfield 34, 3) := by decide +kernel
theorem dX2_measureFrom_139 : decode cX2_measureFrom 139 = .ok (.iconst 0, 1) := by decide +kernel
theorem dX2_measureFrom_140 : decode cX2_measureFrom 140 = .ok (.aload_n 0, 1) := by decide +kernel
theorem dX2_measureFrom_141 : decode cX2_measureFrom 141 = .ok (.getfield 34, 3) := by decide +kernel
theorem dX2_measureFrom_144 : decode cX2_measureFrom 144 = .ok (.iconst 0, 1) := by decide +kernel
theorem dX2_measureFrom_145 : decode cX2_measureFrom 145 = .ok (.iaload, 1) := by decide +kernel
theorem dX2_measureFrom_146 : decode cX2_measureFrom 146 = .ok (.aload_n 0, 1) := by decide +kernel
theorem dX2_measureFrom_147 : decode cX2_measureFrom 147 = .ok (.getfield 15, 3) := by decide +kernel
theorem dX2_measureFrom_150 : decode cX2_measureFrom 150 = .ok (.aload_n 0, 1) := by decide +kernel
theorem dX2_measureFrom_151 : decode cX2_measureFrom 151 = .ok (.getfield 31, 3) := by decide +kernel
theorem dX2_measureFrom_154 : decode cX2_measureFrom 154 = .ok (.iload_n 2, 1) := by decide +kernel
theorem dX2_measureFrom_155 : decode cX2_measureFrom 155 = .ok (.aload_n 0, 1) := by decide +kernel
theorem dX2_measureFrom_156 : decode cX2_measureFrom 156 = .ok (.getfield 92, 3) := by decide +kernel
theorem dX2_measureFrom_159 : decode cX2_measureFrom 159 = .ok (.iadd, 1) := by decide +kernel
theorem dX2_measureFrom_160 : decode cX2_measureFrom 160 = .ok (.iconst 5, 1) := by decide +kernel
theorem dX2_measureFrom_161 : decode cX2_measureFrom 161 = .ok (.imul, 1) := by decide +kernel
theorem dX2_measureFrom_162 : decode cX2_measureFrom 162 = .ok (.iaload, 1) := by decide +kernel
theorem dX2_measureFrom_163 : decode cX2_measureFrom 163 = .ok (.iadd, 1) := by decide +kernel
theorem dX2_measureFrom_164 : decode cX2_measureFrom 164 = .ok (.invokestatic 84, 3) := by decide +kernel
theorem dX2_measureFrom_167 : decode cX2_measureFrom 167 = .ok (.iastore, 1) := by decide +kernel
theorem dX2_measureFrom_168 : decode cX2_measureFrom 168 = .ok (.iconst 0, 1) := by decide +kernel
theorem dX2_measureFrom_169 : decode cX2_measureFrom 169 = .ok (.istore 4, 2) := by decide +kernel
theorem dX2_measureFrom_171 : decode cX2_measureFrom 171 = .ok (.iload 4, 2) := by decide +kernel
theorem dX2_measureFrom_173 : decode cX2_measureFrom 173 = .ok (.iconst 5, 1) := by decide +kernel
theorem dX2_measureFrom_174 : decode cX2_measureFrom 174 = .ok (.if_icmp .ge 97, 3) := by decide +kernel
theorem dX2_measureFrom_177 : decode cX2_measureFrom 177 = .ok (.aload_n 0, 1) := by decide +kernel
theorem dX2_measureFrom_178 : decode cX2_measureFrom 178 = .ok (.getfield 44, 3) := by decide +kernel
theorem dX2_measureFrom_181 : decode cX2_measureFrom 181 = .ok (.getfield 95, 3) := by decide +kernel
theorem dX2_measureFrom_184 : decode cX2_measureFrom 184 = .ok (.iconst 2, 1) := by decide +kernel
theorem dX2_measureFrom_185 : decode cX2_measureFrom 185 = .ok (.iaload, 1) := by decide +kernel
theorem dX2_measureFrom_186 : decode cX2_measureFrom 186 = .ok (.aload_n 0, 1) := by decide +kernel
theorem dX2_measureFrom_187 : decode cX2_measureFrom 187 = .ok (.getfield 31, 3) := by decide +kernel
theorem dX2_measureFrom_190 : decode cX2_measureFrom 190 = .ok (.iload_n 2, 1) := by decide +kernel
theorem dX2_measureFrom_191 : decode cX2_measureFrom 191 = .ok (.iconst 1, 1) := by decide +kernel
theorem dX2_measureFrom_192 : decode cX2_measureFrom 192 = .ok (.iadd, 1) := by decide +kernel
theorem dX2_measureFrom_193 : decode cX2_measureFrom 193 = .ok (.iconst 5, 1) := by decide +kernel
theorem dX2_measureFrom_194 : decode cX2_measureFrom 194 = .ok (.imul, 1) := by decide +kernel
theorem dX2_measureFrom_195 : decode cX2_measureFrom 195 = .ok (.iload 4, 2) := by decide +kernel
theorem dX2_measureFrom_197 : decode cX2_measureFrom 197 = .ok (.iadd, 1) := by decide +kernel
theorem dX2_measureFrom_198 : decode cX2_measureFrom 198 = .ok (.iaload, 1) := by decide +kernel
theorem dX2_measureFrom_199 : decode cX2_measureFrom 199 = .ok (.iadd, 1) := by decide +kernel
theorem dX2_measureFrom_200 : decode cX2_measureFrom 200 = .ok (.istore 5, 2) := by decide +kernel
theorem dX2_measureFrom_202 : decode cX2_measureFrom 202 = .ok (.iconst 0, 1) := by decide +kernel
theorem dX2_measureFrom_203 : decode cX2_measureFrom 203 = .ok (.istore 6, 2) := by decide +kernel
theorem dX2_measureFrom_205 : decode cX2_measureFrom 205 = .ok (.iload 6, 2) := by decide +kernel
theorem dX2_measureFrom_207 : decode cX2_measureFrom 207 = .ok (.iconst 4, 1) := by decide +kernel
theorem dX2_measureFrom_208 : decode cX2_measureFrom 208 = .ok (.if_icmp .ge 44, 3) := by decide +kernel
theorem dX2_measureFrom_211 : decode cX2_measureFrom 211 = .ok (.aload_n 0, 1) := by decide +kernel
theorem dX2_measureFrom_212 : decode cX2_measureFrom 212 = .ok (.getfield 34, 3) := by decide +kernel
theorem dX2_measureFrom_215 : decode cX2_measureFrom 215 = .ok (.iload 6, 2) := by decide +kernel
theorem dX2_measureFrom_217 : decode cX2_measureFrom 217 = .ok (.iaload, 1) := by decide +kernel
theorem dX2_measureFrom_218 : decode cX2_measureFrom 218 = .ok (.iload 5, 2) := by decide +kernel
theorem dX2_measureFrom_220 : decode cX2_measureFrom 220 = .ok (.if_icmp .ge 26, 3) := by decide +kernel
theorem dX2_measureFrom_223 : decode cX2_measureFrom 223 = .ok (.aload_n 0, 1) := by decide +kernel
theorem dX2_measureFrom_224 : decode cX2_measureFrom 224 = .ok (.getfield 44, 3) := by decide +kernel
theorem dX2_measureFrom_227 : decode cX2_measureFrom 227 = .ok (.iload 4, 2) := by decide +kernel
theorem dX2_measureFrom_229 : decode cX2_measureFrom 229 = .ok (.iload 6, 2) := by decide +kernel
theorem dX2_measureFrom_231 : decode cX2_measureFrom 231 = .ok (.invokevirtual 100, 3) := by decide +kernel
theorem dX2_measureFrom_234 : decode cX2_measureFrom 234 = .ok (.ifCond .eq 12, 3) := by decide +kernel
theorem dX2_measureFrom_237 : decode cX2_measureFrom 237 = .ok (.aload_n 0, 1) := by decide +kernel
theorem dX2_measureFrom_238 : decode cX2_measureFrom 238 = .ok (.getfield 34, 3) := by decide +kernel
theorem dX2_measureFrom_241 : decode cX2_measureFrom 241 = .ok (.iload 6, 2) := by decide +kernel
theorem dX2_measureFrom_243 : decode cX2_measureFrom 243 = .ok (.iaload, 1) := by decide +kernel
theorem dX2_measureFrom_244 : decode cX2_measureFrom 244 = .ok (.istore 5, 2) := by decide +kernel
theorem dX2_measureFrom_246 : decode cX2_measureFrom 246 = .ok (.iinc 6 1, 3) := by decide +kernel
theorem dX2_measureFrom_249 : decode cX2_measureFrom 249 = .ok (.goto (-44), 3) := by decide +kernel
theorem dX2_measureFrom_252 : decode cX2_measureFrom 252 = .ok (.aload_n 0, 1) := by decide +kernel
theorem dX2_measureFrom_253 : decode cX2_measureFrom 253 = .ok (.getfield 31, 3) := by decide +kernel
theorem dX2_measureFrom_256 : decode cX2_measureFrom 256 = .ok (.iload_n 2, 1) := by decide +kernel
theorem dX2_measureFrom_257 : decode cX2_measureFrom 257 = .ok (.iconst 5, 1) := by decide +kernel
theorem dX2_measureFrom_258 : decode cX2_measureFrom 258 = .ok (.imul, 1) := by decide +kernel
theorem dX2_measureFrom_259 : decode cX2_measureFrom 259 = .ok (.iload 4, 2) := by decide +kernel
theorem dX2_measureFrom_261 : decode cX2_measureFrom 261 = .ok (.iadd, 1) := by decide +kernel
theorem dX2_measureFrom_262 : decode cX2_measureFrom 262 = .ok (.iload 5, 2) := by decide +kernel
theorem dX2_measureFrom_264 : decode cX2_measureFrom 264 = .ok (.iastore, 1) := by decide +kernel
theorem dX2_measureFrom_265 : decode cX2_measureFrom 265 = .ok (.iinc 4 1, 3) := by decide +kernel
theorem dX2_measureFrom_268 : decode cX2_measureFrom 268 = .ok (.goto (-97), 3) := by decide +kernel
theorem dX2_measureFrom_271 : decode cX2_measureFrom 271 = .ok (.return_, 1) := by decide +kernel
theorem dX2_leastWith_0 : decode cX2_leastWith 0 = .ok (.aload_n 0, 1) := by decide +kernel
theorem dX2_leastWith_1 : decode cX2_leastWith 1 = .ok (.getfield 40, 3) := by decide +kernel
theorem dX2_leastWith_4 : decode cX2_leastWith 4 = .ok (.getfield 104, 3) := by decide +kernel
theorem dX2_leastWith_7 : decode cX2_leastWith 7 = .ok (.iload_n 2, 1) := by decide +kernel
theorem dX2_leastWith_8 : decode cX2_leastWith 8 = .ok (.iaload, 1) := by decide +kernel
theorem dX2_leastWith_9 : decode cX2_leastWith 9 = .ok (.aload_n 0, 1) := by decide +kernel
theorem dX2_leastWith_10 : decode cX2_leastWith 10 = .ok (.getfield 31, 3) := by decide +kernel
theorem dX2_leastWith_13 : decode cX2_leastWith 13 = .ok (.iload_n 1, 1) := by decide +kernel
theorem dX2_leastWith_14 : decode cX2_leastWith 14 = .ok (.aload_n 0, 1) := by decide +kernel
theorem dX2_leastWith_15 : decode cX2_leastWith 15 = .ok (.getfield 40, 3) := by decide +kernel
theorem dX2_leastWith_18 : decode cX2_leastWith 18 = .ok (.getfield 107, 3) := by decide +kernel
theorem dX2_leastWith_21 : decode cX2_leastWith 21 = .ok (.iload_n 2, 1) := by decide +kernel
theorem dX2_leastWith_22 : decode cX2_leastWith 22 = .ok (.iaload, 1) := by decide +kernel
theorem dX2_leastWith_23 : decode cX2_leastWith 23 = .ok (.iadd, 1) := by decide +kernel
theorem dX2_leastWith_24 : decode cX2_leastWith 24 = .ok (.iconst 5, 1) := by decide +kernel
theorem dX2_leastWith_25 : decode cX2_leastWith 25 = .ok (.imul, 1) := by decide +kernel
theorem dX2_leastWith_26 : decode cX2_leastWith 26 = .ok (.aload_n 0, 1) := by decide +kernel
theorem dX2_leastWith_27 : decode cX2_leastWith 27 = .ok (.getfield 40, 3) := by decide +kernel
theorem dX2_leastWith_30 : decode cX2_leastWith 30 = .ok (.getfield 77, 3) := by decide +kernel
theorem dX2_leastWith_33 : decode cX2_leastWith 33 = .ok (.iload_n 2, 1) := by decide +kernel
theorem dX2_leastWith_34 : decode cX2_leastWith 34 = .ok (.iaload, 1) := by decide +kernel
theorem dX2_leastWith_35 : decode cX2_leastWith 35 = .ok (.iadd, 1) := by decide +kernel
theorem dX2_leastWith_36 : decode cX2_leastWith 36 = .ok (.iaload, 1) := by decide +kernel
theorem dX2_leastWith_37 : decode cX2_leastWith 37 = .ok (.iadd, 1) := by decide +kernel
theorem dX2_leastWith_38 : decode cX2_leastWith 38 = .ok (.ireturn, 1) := by decide +kernel
theorem dX2_countUses_0 : decode cX2_countUses 0 = .ok (.aload_n 0, 1) := by decide +kernel
theorem dX2_countUses_1 : decode cX2_countUses 1 = .ok (.iconst 0, 1) := by decide +kernel
theorem dX2_countUses_2 : decode cX2_countUses 2 = .ok (.putfield 110, 3) := by decide +kernel
theorem dX2_countUses_5 : decode cX2_countUses 5 = .ok (.iconst 0, 1) := by decide +kernel
theorem dX2_countUses_6 : decode cX2_countUses 6 = .ok (.istore_n 1, 1) := by decide +kernel
theorem dX2_countUses_7 : decode cX2_countUses 7 = .ok (.iload_n 1, 1) := by decide +kernel
theorem dX2_countUses_8 : decode cX2_countUses 8 = .ok (.bipush 16, 2) := by decide +kernel
theorem dX2_countUses_10 : decode cX2_countUses 10 = .ok (.if_icmp .ge 16, 3) := by decide +kernel
theorem dX2_countUses_13 : decode cX2_countUses 13 = .ok (.aload_n 0, 1) := by decide +kernel
theorem dX2_countUses_14 : decode cX2_countUses 14 = .ok (.getfield 9, 3) := by decide +kernel
theorem dX2_countUses_17 : decode cX2_countUses 17 = .ok (.iload_n 1, 1) := by decide +kernel
theorem dX2_countUses_18 : decode cX2_countUses 18 = .ok (.iconst 0, 1) := by decide +kernel
theorem dX2_countUses_19 : decode cX2_countUses 19 = .ok (.iastore, 1) := by decide +kernel
theorem dX2_countUses_20 : decode cX2_countUses 20 = .ok (.iinc 1 1, 3) := by decide +kernel
theorem dX2_countUses_23 : decode cX2_countUses 23 = .ok (.goto (-16), 3) := by decide +kernel
theorem dX2_countUses_26 : decode cX2_countUses 26 = .ok (.iconst 0, 1) := by decide +kernel
theorem dX2_countUses_27 : decode cX2_countUses 27 = .ok (.istore_n 1, 1) := by decide +kernel
theorem dX2_countUses_28 : decode cX2_countUses 28 = .ok (.iload_n 1, 1) := by decide +kernel
theorem dX2_countUses_29 : decode cX2_countUses 29 = .ok (.aload_n 0, 1) := by decide +kernel
theorem dX2_countUses_30 : decode cX2_countUses 30 = .ok (.getfield 51, 3) := by decide +kernel
theorem dX2_countUses_33 : decode cX2_countUses 33 = .ok (.if_icmp .ge 20, 3) := by decide +kernel
theorem dX2_countUses_36 : decode cX2_countUses 36 = .ok (.aload_n 0, 1) := by decide +kernel
theorem dX2_countUses_37 : decode cX2_countUses 37 = .ok (.iload_n 1, 1) := by decide +kernel
theorem dX2_countUses_38 : decode cX2_countUses 38 = .ok (.invokevirtual 67, 3) := by decide +kernel
theorem dX2_countUses_41 : decode cX2_countUses 41 = .ok (.pop, 1) := by decide +kernel
theorem dX2_countUses_42 : decode cX2_countUses 42 = .ok (.aload_n 0, 1) := by decide +kernel
theorem dX2_countUses_43 : decode cX2_countUses 43 = .ok (.iload_n 1, 1) := by decide +kernel
theorem dX2_countUses_44 : decode cX2_countUses 44 = .ok (.invokevirtual 113, 3) := by decide +kernel
theorem dX2_countUses_47 : decode cX2_countUses 47 = .ok (.iinc 1 1, 3) := by decide +kernel
theorem dX2_countUses_50 : decode cX2_countUses 50 = .ok (.goto (-22), 3) := by decide +kernel
theorem dX2_countUses_53 : decode cX2_countUses 53 = .ok (.return_, 1) := by decide +kernel
theorem dX2_countUsesOf_0 : decode cX2_countUsesOf 0 = .ok (.aload_n 0, 1) := by decide +kernel
theorem dX2_countUsesOf_1 : decode cX2_countUsesOf 1 = .ok (.getfield 21, 3) := by decide +kernel
theorem dX2_countUsesOf_4 : decode cX2_countUsesOf 4 = .ok (.iload_n 1, 1) := by decide +kernel
theorem dX2_countUsesOf_5 : decode cX2_countUsesOf 5 = .ok (.aaload, 1) := by decide +kernel
theorem dX2_countUsesOf_6 : decode cX2_countUsesOf 6 = .ok (.getfield 54, 3) := by decide +kernel
theorem dX2_countUsesOf_9 : decode cX2_countUsesOf 9 = .ok (.istore_n 2, 1) := by decide +kernel
theorem dX2_countUsesOf_10 : decode cX2_countUsesOf 10 = .ok (.iconst 4, 1) := by decide +kernel
theorem dX2_countUsesOf_11 : decode cX2_countUsesOf 11 = .ok (.istore_n 3, 1) := by decide +kernel
theorem dX2_countUsesOf_12 : decode cX2_countUsesOf 12 = .ok (.iconst 0, 1) := by decide +kernel
theorem dX2_countUsesOf_13 : decode cX2_countUsesOf 13 = .ok (.istore 4, 2) := by decide +kernel
theorem dX2_countUsesOf_15 : decode cX2_countUsesOf 15 = .ok (.iconst 0, 1) := by decide +kernel
theorem dX2_countUsesOf_16 : decode cX2_countUsesOf 16 = .ok (.istore 5, 2) := by decide +kernel
theorem dX2_countUsesOf_18 : decode cX2_countUsesOf 18 = .ok (.iload 5, 2) := by decide +kernel
theorem dX2_countUsesOf_20 : decode cX2_countUsesOf 20 = .ok (.bipush 24, 2) := by decide +kernel
theorem dX2_countUsesOf_22 : decode cX2_countUsesOf 22 = .ok (.if_icmp .ge 84, 3) := by decide +kernel
theorem dX2_countUsesOf_25 : decode cX2_countUsesOf 25 = .ok (.iload 4, 2) := by decide +kernel
theorem dX2_countUsesOf_27 : decode cX2_countUsesOf 27 = .ok (.iload_n 2, 1) := by decide +kernel
theorem dX2_countUsesOf_28 : decode cX2_countUsesOf 28 = .ok (.if_icmp .ge 78, 3) := by decide +kernel
theorem dX2_countUsesOf_31 : decode cX2_countUsesOf 31 = .ok (.aload_n 0, 1) := by decide +kernel
theorem dX2_countUsesOf_32 : decode cX2_countUsesOf 32 = .ok (.iload_n 1, 1) := by decide +kernel
theorem dX2_countUsesOf_33 : decode cX2_countUsesOf 33 = .ok (.iload 4, 2) := by decide +kernel
theorem dX2_countUsesOf_35 : decode cX2_countUsesOf 35 = .ok (.iload_n 3, 1) := by decide +kernel
theorem dX2_countUsesOf_36 : decode cX2_countUsesOf 36 = .ok (.invokevirtual 116, 3) := by decide +kernel
theorem dX2_countUsesOf_39 : decode cX2_countUsesOf 39 = .ok (.istore 6, 2) := by decide +kernel
theorem dX2_countUsesOf_41 : decode cX2_countUsesOf 41 = .ok (.iload 6, 2) := by decide +kernel
theorem dX2_countUsesOf_43 : decode cX2_countUsesOf 43 = .ok (.iconst (-1), 1) := by decide +kernel
theorem dX2_countUsesOf_44 : decode cX2_countUsesOf 44 = .ok (.if_icmp .ne 19, 3) := by decide +kernel
theorem dX2_countUsesOf_47 : decode cX2_countUsesOf 47 = .ok (.aload_n 0, 1) := by decide +kernel
theorem dX2_countUsesOf_48 : decode cX2_countUsesOf 48 = .ok (.dup, 1) := by decide +kernel
theorem dX2_countUsesOf_49 : decode cX2_countUsesOf 49 = .ok (.getfield 110, 3) := by decide +kernel
theorem dX2_countUsesOf_52 : decode cX2_countUsesOf 52 = .ok (.iconst 1, 1) := by decide +kernel
theorem dX2_countUsesOf_53 : decode cX2_countUsesOf 53 = .ok (.iadd, 1) := by decide +kernel
theorem dX2_countUsesOf_54 : decode cX2_countUsesOf 54 = .ok (.putfield 110, 3) := by decide +kernel
theorem dX2_countUsesOf_57 : decode cX2_countUsesOf 57 = .ok (.iinc 4 1, 3) := by decide +kernel
theorem dX2_countUsesOf_60 : decode cX2_countUsesOf 60 = .ok (.goto 40, 3) := by decide +kernel
theorem dX2_countUsesOf_63 : decode cX2_countUsesOf 63 = .ok (.aload_n 0, 1) := by decide +kernel
theorem dX2_countUsesOf_64 : decode cX2_countUsesOf 64 = .ok (.getfield 9, 3) := by decide +kernel
theorem dX2_countUsesOf_67 : decode cX2_countUsesOf 67 = .ok (.iload 6, 2) := by decide +kernel
theorem dX2_countUsesOf_69 : decode cX2_countUsesOf 69 = .ok (.dup2, 1) := by decide +kernel
theorem dX2_countUsesOf_70 : decode cX2_countUsesOf 70 = .ok (.iaload, 1) := by decide +kernel
theorem dX2_countUsesOf_71 : decode cX2_countUsesOf 71 = .ok (.iconst 1, 1) := by decide +kernel
theorem dX2_countUsesOf_72 : decode cX2_countUsesOf 72 = .ok (.iadd, 1) := by decide +kernel
theorem dX2_countUsesOf_73 : decode cX2_countUsesOf 73 = .ok (.iastore, 1) := by decide +kernel
theorem dX2_countUsesOf_74 : decode cX2_countUsesOf 74 = .ok (.iload 4, 2) := by decide +kernel
theorem dX2_countUsesOf_76 : decode cX2_countUsesOf 76 = .ok (.aload_n 0, 1) := by decide +kernel
theorem dX2_countUsesOf_77 : decode cX2_countUsesOf 77 = .ok (.getfield 40, 3) := by decide +kernel
theorem dX2_countUsesOf_80 : decode cX2_countUsesOf 80 = .ok (.getfield 107, 3) := by decide +kernel
theorem dX2_countUsesOf_83 : decode cX2_countUsesOf 83 = .ok (.iload 6, 2) := by decide +kernel
theorem dX2_countUsesOf_85 : decode cX2_countUsesOf 85 = .ok (.iaload, 1) := by decide +kernel
theorem dX2_countUsesOf_86 : decode cX2_countUsesOf 86 = .ok (.iadd, 1) := by decide +kernel
theorem dX2_countUsesOf_87 : decode cX2_countUsesOf 87 = .ok (.istore 4, 2) := by decide +kernel
theorem dX2_countUsesOf_89 : decode cX2_countUsesOf 89 = .ok (.aload_n 0, 1) := by decide +kernel
theorem dX2_countUsesOf_90 : decode cX2_countUsesOf 90 = .ok (.getfield 40, 3) := by decide +kernel
theorem dX2_countUsesOf_93 : decode cX2_countUsesOf 93 = .ok (.getfield 77, 3) := by decide +kernel
theorem dX2_countUsesOf_96 : decode cX2_countUsesOf 96 = .ok (.iload 6, 2) := by decide +kernel
theorem dX2_countUsesOf_98 : decode cX2_countUsesOf 98 = .ok (.iaload, 1) := by decide +kernel
theorem dX2_countUsesOf_99 : decode cX2_countUsesOf 99 = .ok (.istore_n 3, 1) := by decide +kernel
theorem dX2_countUsesOf_100 : decode cX2_countUsesOf 100 = .ok (.iinc 5 1, 3) := by decide +kernel
theorem dX2_countUsesOf_103 : decode cX2_countUsesOf 103 = .ok (.goto (-85), 3) := by decide +kernel
theorem dX2_countUsesOf_106 : decode cX2_countUsesOf 106 = .ok (.return_, 1) := by decide +kernel
theorem dX2_firstWordOfLeast_0 : decode cX2_firstWordOfLeast 0 = .ok (.aload_n 0, 1) := by decide +kernel
theorem dX2_firstWordOfLeast_1 : decode cX2_firstWordOfLeast 1 = .ok (.getfield 25, 3) := by decide +kernel
theorem dX2_firstWordOfLeast_4 : decode cX2_firstWordOfLeast 4 = .ok (.iload_n 1, 1) := by decide +kernel
theorem dX2_firstWordOfLeast_5 : decode cX2_firstWordOfLeast 5 = .ok (.bipush 24, 2) := by decide +kernel
theorem dX2_firstWordOfLeast_7 : decode cX2_firstWordOfLeast 7 = .ok (.imul, 1) := by decide +kernel
theorem dX2_firstWordOfLeast_8 : decode cX2_firstWordOfLeast 8 = .ok (.iload_n 2, 1) := by decide +kernel
theorem dX2_firstWordOfLeast_9 : decode cX2_firstWordOfLeast 9 = .ok (.iadd, 1) := by decide +kernel
theorem dX2_firstWordOfLeast_10 : decode cX2_firstWordOfLeast 10 = .ok (.iaload, 1) := by decide +kernel
theorem dX2_firstWordOfLeast_11 : decode cX2_firstWordOfLeast 11 = .ok (.istore 4, 2) := by decide +kernel
theorem dX2_firstWordOfLeast_13 : decode cX2_firstWordOfLeast 13 = .ok (.aload_n 0, 1) := by decide +kernel
theorem dX2_firstWordOfLeast_14 : decode cX2_firstWordOfLeast 14 = .ok (.getfield 31, 3) := by decide +kernel
theorem dX2_firstWordOfLeast_17 : decode cX2_firstWordOfLeast 17 = .ok (.iload_n 2, 1) := by decide +kernel
theorem dX2_firstWordOfLeast_18 : decode cX2_firstWordOfLeast 18 = .ok (.iconst 5, 1) := by decide +kernel
theorem dX2_firstWordOfLeast_19 : decode cX2_firstWordOfLeast 19 = .ok (.imul, 1) := by decide +kernel
theorem dX2_firstWordOfLeast_20 : decode cX2_firstWordOfLeast 20 = .ok (.iload_n 3, 1) := by decide +kernel
theorem dX2_firstWordOfLeast_21 : decode cX2_firstWordOfLeast 21 = .ok (.iadd, 1) := by decide +kernel
theorem dX2_firstWordOfLeast_22 : decode cX2_firstWordOfLeast 22 = .ok (.iaload, 1) := by decide +kernel
theorem dX2_firstWordOfLeast_23 : decode cX2_firstWordOfLeast 23 = .ok (.istore 5, 2) := by decide +kernel
theorem dX2_firstWordOfLeast_25 : decode cX2_firstWordOfLeast 25 = .ok (.iconst 0, 1) := by decide +kernel
theorem dX2_firstWordOfLeast_26 : decode cX2_firstWordOfLeast 26 = .ok (.istore 6, 2) := by decide +kernel
theorem dX2_firstWordOfLeast_28 : decode cX2_firstWordOfLeast 28 = .ok (.iload 6, 2) := by decide +kernel
theorem dX2_firstWordOfLeast_30 : decode cX2_firstWordOfLeast 30 = .ok (.aload_n 0, 1) := by decide +kernel
theorem dX2_firstWordOfLeast_31 : decode cX2_firstWordOfLeast 31 = .ok (.getfield 40, 3) := by decide +kernel
theorem dX2_firstWordOfLeast_34 : decode cX2_firstWordOfLeast 34 = .ok (.getfield 76, 3) := by decide +kernel
theorem dX2_firstWordOfLeast_37 : decode cX2_firstWordOfLeast 37 = .ok (.if_icmp .ge 55, 3) := by decide +kernel
theorem dX2_firstWordOfLeast_40 : decode cX2_firstWordOfLeast 40 = .ok (.iload 4, 2) := by decide +kernel
theorem dX2_firstWordOfLeast_42 : decode cX2_firstWordOfLeast 42 = .ok (.iload 6, 2) := by decide +kernel
theorem dX2_firstWordOfLeast_44 : decode cX2_firstWordOfLeast 44 = .ok (.ishr, 1) := by decide +kernel
theorem dX2_firstWordOfLeast_45 : decode cX2_firstWordOfLeast 45 = .ok (.iconst 1, 1) := by decide +kernel
theorem dX2_firstWordOfLeast_46 : decode cX2_firstWordOfLeast 46 = .ok (.iand, 1) := by decide +kernel
theorem dX2_firstWordOfLeast_47 : decode cX2_firstWordOfLeast 47 = .ok (.ifCond .eq 39, 3) := by decide +kernel
theorem dX2_firstWordOfLeast_50 : decode cX2_firstWordOfLeast 50 = .ok (.aload_n 0, 1) := by decide +kernel
theorem dX2_firstWordOfLeast_51 : decode cX2_firstWordOfLeast 51 = .ok (.getfield 44, 3) := by decide +kernel
theorem dX2_firstWordOfLeast_54 : decode cX2_firstWordOfLeast 54 = .ok (.iload_n 3, 1) := by decide +kernel
theorem dX2_firstWordOfLeast_55 : decode cX2_firstWordOfLeast 55 = .ok (.aload_n 0, 1) := by decide +kernel
theorem dX2_firstWordOfLeast_56 : decode cX2_firstWordOfLeast 56 = .ok (.getfield 40, 3) := by decide +kernel
theorem dX2_firstWordOfLeast_59 : decode cX2_firstWordOfLeast 59 = .ok (.getfield 77, 3) := by decide +kernel
theorem dX2_firstWordOfLeast_62 : decode cX2_firstWordOfLeast 62 = .ok (.iload 6, 2) := by decide +kernel
theorem dX2_firstWordOfLeast_64 : decode cX2_firstWordOfLeast 64 = .ok (.iaload, 1) := by decide +kernel
theorem dX2_firstWordOfLeast_65 : decode cX2_firstWordOfLeast 65 = .ok (.invokevirtual 100, 3) := by decide +kernel
theorem dX2_firstWordOfLeast_68 : decode cX2_firstWordOfLeast 68 = .ok (.ifCond .eq 18, 3) := by decide +kernel
theorem dX2_firstWordOfLeast_71 : decode cX2_firstWordOfLeast 71 = .ok (.aload_n 0, 1) := by decide +kernel
theorem dX2_firstWordOfLeast_72 : decode cX2_firstWordOfLeast 72 = .ok (.iload_n 2, 1) := by decide +kernel
theorem dX2_firstWordOfLeast_73 : decode cX2_firstWordOfLeast 73 = .ok (.iload 6, 2) := by decide +kernel
theorem dX2_firstWordOfLeast_75 : decode cX2_firstWordOfLeast 75 = .ok (.invokevirtual 80, 3) := by decide +kernel
theorem dX2_firstWordOfLeast_78 : decode cX2_firstWordOfLeast 78 = .ok (.iload 5, 2) := by decide +kernel
theorem dX2_firstWordOfLeast_80 : decode cX2_firstWordOfLeast 80 = .ok (.if_icmp .ne 6, 3) := by decide +kernel
theorem dX2_firstWordOfLeast_83 : decode cX2_firstWordOfLeast 83 = .ok (.iload 6, 2) := by decide +kernel
theorem dX2_firstWordOfLeast_85 : decode cX2_firstWordOfLeast 85 = .ok (.ireturn, 1) := by decide +kernel
theorem dX2_firstWordOfLeast_86 : decode cX2_firstWordOfLeast 86 = .ok (.iinc 6 1, 3) := by decide +kernel
theorem dX2_firstWordOfLeast_89 : decode cX2_firstWordOfLeast 89 = .ok (.goto (-61), 3) := by decide +kernel
theorem dX2_firstWordOfLeast_92 : decode cX2_firstWordOfLeast 92 = .ok (.iconst (-1), 1) := by decide +kernel
theorem dX2_firstWordOfLeast_93 : decode cX2_firstWordOfLeast 93 = .ok (.ireturn, 1) := by decide +kernel
theorem dX2_rankCosts_0 : decode cX2_rankCosts 0 = .ok (.iconst 0, 1) := by decide +kernel
theorem dX2_rankCosts_1 : decode cX2_rankCosts 1 = .ok (.istore_n 1, 1) := by decide +kernel
theorem dX2_rankCosts_2 : decode cX2_rankCosts 2 = .ok (.iconst 0, 1) := by decide +kernel
theorem dX2_rankCosts_3 : decode cX2_rankCosts 3 = .ok (.istore_n 2, 1) := by decide +kernel
theorem dX2_rankCosts_4 : decode cX2_rankCosts 4 = .ok (.iload_n 2, 1) := by decide +kernel
theorem dX2_rankCosts_5 : decode cX2_rankCosts 5 = .ok (.aload_n 0, 1) := by decide +kernel
theorem dX2_rankCosts_6 : decode cX2_rankCosts 6 = .ok (.getfield 40, 3) := by decide +kernel
theorem dX2_rankCosts_9 : decode cX2_rankCosts 9 = .ok (.getfield 76, 3) := by decide +kernel
theorem dX2_rankCosts_12 : decode cX2_rankCosts 12 = .ok (.if_icmp .ge 76, 3) := by decide +kernel
theorem dX2_rankCosts_15 : decode cX2_rankCosts 15 = .ok (.iconst 1, 1) := by decide +kernel
theorem dX2_rankCosts_16 : decode cX2_rankCosts 16 = .ok (.istore_n 3, 1) := by decide +kernel
theorem dX2_rankCosts_17 : decode cX2_rankCosts 17 = .ok (.iconst 0, 1) := by decide +kernel
theorem dX2_rankCosts_18 : decode cX2_rankCosts 18 = .ok (.istore 4, 2) := by decide +kernel
theorem dX2_rankCosts_20 : decode cX2_rankCosts 20 = .ok (.iload 4, 2) := by decide +kernel
theorem dX2_rankCosts_22 : decode cX2_rankCosts 22 = .ok (.aload_n 0, 1) := by decide +kernel
theorem dX2_rankCosts_23 : decode cX2_rankCosts 23 = .ok (.getfield 40, 3) := by decide +kernel
theorem dX2_rankCosts_26 : decode cX2_rankCosts 26 = .ok (.getfield 76, 3) := by decide +kernel
theorem dX2_rankCosts_29 : decode cX2_rankCosts 29 = .ok (.if_icmp .ge 28, 3) := by decide +kernel
theorem dX2_rankCosts_32 : decode cX2_rankCosts 32 = .ok (.aload_n 0, 1) := by decide +kernel
theorem dX2_rankCosts_33 : decode cX2_rankCosts 33 = .ok (.getfield 9, 3) := by decide +kernel
theorem dX2_rankCosts_36 : decode cX2_rankCosts 36 = .ok (.iload 4, 2) := by decide +kernel
theorem dX2_rankCosts_38 : decode cX2_rankCosts 38 = .ok (.iaload, 1) := by decide +kernel
theorem dX2_rankCosts_39 : decode cX2_rankCosts 39 = .ok (.aload_n 0, 1) := by decide +kernel
theorem dX2_rankCosts_40 : decode cX2_rankCosts 40 = .ok (.getfield 9, 3) := by decide +kernel
theorem dX2_rankCosts_43 : decode cX2_rankCosts 43 = .ok (.iload_n 2, 1) := by decide +kernel
theorem dX2_rankCosts_44 : decode cX2_rankCosts 44 = .ok (.iaload, 1) := by decide +kernel
theorem dX2_rankCosts_45 : decode cX2_rankCosts 45 = .ok (.if_icmp .le 6, 3) := by decide +kernel
theorem dX2_rankCosts_48 : decode cX2_rankCosts 48 = .ok (.iinc 3 1, 3) := by decide +kernel
theorem dX2_rankCosts_51 : decode cX2_rankCosts 51 = .ok (.iinc 4 1, 3) := by decide +kernel
theorem dX2_rankCosts_54 : decode cX2_rankCosts 54 = .ok (.goto (-34), 3) := by decide +kernel
theorem dX2_rankCosts_57 : decode cX2_rankCosts 57 = .ok (.aload_n 0, 1) := by decide +kernel
theorem dX2_rankCosts_58 : decode cX2_rankCosts 58 = .ok (.getfield 40, 3) := by decide +kernel
theorem dX2_rankCosts_61 : decode cX2_rankCosts 61 = .ok (.getfield 104, 3) := by decide +kernel
theorem dX2_rankCosts_64 : decode cX2_rankCosts 64 = .ok (.iload_n 2, 1) := by decide +kernel
theorem dX2_rankCosts_65 : decode cX2_rankCosts 65 = .ok (.iaload, 1) := by decide +kernel
theorem dX2_rankCosts_66 : decode cX2_rankCosts 66 = .ok (.iload_n 3, 1) := by decide +kernel
theorem dX2_rankCosts_67 : decode cX2_rankCosts 67 = .ok (.if_icmp .eq 15, 3) := by decide +kernel
theorem dX2_rankCosts_70 : decode cX2_rankCosts 70 = .ok (.aload_n 0, 1) := by decide +kernel
theorem dX2_rankCosts_71 : decode cX2_rankCosts 71 = .ok (.getfield 40, 3) := by decide +kernel
theorem dX2_rankCosts_74 : decode cX2_rankCosts 74 = .ok (.getfield 104, 3) := by decide +kernel
theorem dX2_rankCosts_77 : decode cX2_rankCosts 77 = .ok (.iload_n 2, 1) := by decide +kernel
theorem dX2_rankCosts_78 : decode cX2_rankCosts 78 = .ok (.iload_n 3, 1) := by decide +kernel
theorem dX2_rankCosts_79 : decode cX2_rankCosts 79 = .ok (.iastore, 1) := by decide +kernel
theorem dX2_rankCosts_80 : decode cX2_rankCosts 80 = .ok (.iconst 1, 1) := by decide +kernel
theorem dX2_rankCosts_81 : decode cX2_rankCosts 81 = .ok (.istore_n 1, 1) := by decide +kernel
theorem dX2_rankCosts_82 : decode cX2_rankCosts 82 = .ok (.iinc 2 1, 3) := by decide +kernel
theorem dX2_rankCosts_85 : decode cX2_rankCosts 85 = .ok (.goto (-81), 3) := by decide +kernel
theorem dX2_rankCosts_88 : decode cX2_rankCosts 88 = .ok (.iload_n 1, 1) := by decide +kernel
theorem dX2_rankCosts_89 : decode cX2_rankCosts 89 = .ok (.ireturn, 1) := by decide +kernel
theorem dX2_seekNew_0 : decode cX2_seekNew 0 = .ok (.aload_n 0, 1) := by decide +kernel
theorem dX2_seekNew_1 : decode cX2_seekNew 1 = .ok (.getfield 15, 3) := by decide +kernel
theorem dX2_seekNew_4 : decode cX2_seekNew 4 = .ok (.iload_n 1, 1) := by decide +kernel
theorem dX2_seekNew_5 : decode cX2_seekNew 5 = .ok (.if_icmp .ne 4, 3) := by decide +kernel
theorem dX2_seekNew_8 : decode cX2_seekNew 8 = .ok (.return_, 1) := by decide +kernel
theorem dX2_seekNew_9 : decode cX2_seekNew 9 = .ok (.aload_n 0, 1) := by decide +kernel
theorem dX2_seekNew_10 : decode cX2_seekNew 10 = .ok (.iload_n 1, 1) := by decide +kernel
theorem dX2_seekNew_11 : decode cX2_seekNew 11 = .ok (.putfield 15, 3) := by decide +kernel
theorem dX2_seekNew_14 : decode cX2_seekNew 14 = .ok (.aload_n 0, 1) := by decide +kernel
theorem dX2_seekNew_15 : decode cX2_seekNew 15 = .ok (.iconst 0, 1) := by decide +kernel
theorem dX2_seekNew_16 : decode cX2_seekNew 16 = .ok (.putfield 120, 3) := by decide +kernel
theorem dX2_seekNew_19 : decode cX2_seekNew 19 = .ok (.aload_n 0, 1) := by decide +kernel
theorem dX2_seekNew_20 : decode cX2_seekNew 20 = .ok (.iconst 0, 1) := by decide +kernel
theorem dX2_seekNew_21 : decode cX2_seekNew 21 = .ok (.putfield 123, 3) := by decide +kernel
theorem dX2_seekNew_24 : decode cX2_seekNew 24 = .ok (.aload_n 0, 1) := by decide +kernel
theorem dX2_seekNew_25 : decode cX2_seekNew 25 = .ok (.invokevirtual 126, 3) := by decide +kernel
theorem dX2_seekNew_28 : decode cX2_seekNew 28 = .ok (.iconst 0, 1) := by decide +kernel
theorem dX2_seekNew_29 : decode cX2_seekNew 29 = .ok (.istore_n 2, 1) := by decide +kernel
theorem dX2_seekNew_30 : decode cX2_seekNew 30 = .ok (.iload_n 2, 1) := by decide +kernel
theorem dX2_seekNew_31 : decode cX2_seekNew 31 = .ok (.aload_n 0, 1) := by decide +kernel
theorem dX2_seekNew_32 : decode cX2_seekNew 32 = .ok (.getfield 51, 3) := by decide +kernel
theorem dX2_seekNew_35 : decode cX2_seekNew 35 = .ok (.if_icmp .ge 20, 3) := by decide +kernel
theorem dX2_seekNew_38 : decode cX2_seekNew 38 = .ok (.aload_n 0, 1) := by decide +kernel
theorem dX2_seekNew_39 : decode cX2_seekNew 39 = .ok (.getfield 37, 3) := by decide +kernel
theorem dX2_seekNew_42 : decode cX2_seekNew 42 = .ok (.iload_n 2, 1) := by decide +kernel
theorem dX2_seekNew_43 : decode cX2_seekNew 43 = .ok (.aload_n 0, 1) := by decide +kernel
theorem dX2_seekNew_44 : decode cX2_seekNew 44 = .ok (.iload_n 2, 1) := by decide +kernel
theorem dX2_seekNew_45 : decode cX2_seekNew 45 = .ok (.invokevirtual 67, 3) := by decide +kernel
theorem dX2_seekNew_48 : decode cX2_seekNew 48 = .ok (.iastore, 1) := by decide +kernel
theorem dX2_seekNew_49 : decode cX2_seekNew 49 = .ok (.iinc 2 1, 3) := by decide +kernel
theorem dX2_seekNew_52 : decode cX2_seekNew 52 = .ok (.goto (-22), 3) := by decide +kernel
theorem dX2_seekNew_55 : decode cX2_seekNew 55 = .ok (.iconst 2, 1) := by decide +kernel
theorem dX2_seekNew_56 : decode cX2_seekNew 56 = .ok (.istore_n 2, 1) := by decide +kernel
theorem dX2_seekNew_57 : decode cX2_seekNew 57 = .ok (.iload_n 2, 1) := by decide +kernel
theorem dX2_seekNew_58 : decode cX2_seekNew 58 = .ok (.iconst 5, 1) := by decide +kernel
theorem dX2_seekNew_59 : decode cX2_seekNew 59 = .ok (.if_icmp .gt 42, 3) := by decide +kernel
theorem dX2_seekNew_62 : decode cX2_seekNew 62 = .ok (.aload_n 0, 1) := by decide +kernel
theorem dX2_seekNew_63 : decode cX2_seekNew 63 = .ok (.iload_n 2, 1) := by decide +kernel
theorem dX2_seekNew_64 : decode cX2_seekNew 64 = .ok (.putfield 92, 3) := by decide +kernel
theorem dX2_seekNew_67 : decode cX2_seekNew 67 = .ok (.aload_n 0, 1) := by decide +kernel
theorem dX2_seekNew_68 : decode cX2_seekNew 68 = .ok (.invokevirtual 129, 3) := by decide +kernel
theorem dX2_seekNew_71 : decode cX2_seekNew 71 = .ok (.iconst 0, 1) := by decide +kernel
theorem dX2_seekNew_72 : decode cX2_seekNew 72 = .ok (.istore_n 3, 1) := by decide +kernel
theorem dX2_seekNew_73 : decode cX2_seekNew 73 = .ok (.iload_n 3, 1) := by decide +kernel
theorem dX2_seekNew_74 : decode cX2_seekNew 74 = .ok (.aload_n 0, 1) := by decide +kernel
theorem dX2_seekNew_75 : decode cX2_seekNew 75 = .ok (.getfield 51, 3) := by decide +kernel
theorem dX2_seekNew_78 : decode cX2_seekNew 78 = .ok (.bipush 24, 2) := by decide +kernel
theorem dX2_seekNew_80 : decode cX2_seekNew 80 = .ok (.imul, 1) := by decide +kernel
theorem dX2_seekNew_81 : decode cX2_seekNew 81 = .ok (.if_icmp .ge 14, 3) := by decide +kernel
theorem dX2_seekNew_84 : decode cX2_seekNew 84 = .ok (.aload_n 0, 1) := by decide +kernel
theorem dX2_seekNew_85 : decode cX2_seekNew 85 = .ok (.iload_n 3, 1) := by decide +kernel
theorem dX2_seekNew_86 : decode cX2_seekNew 86 = .ok (.invokevirtual 132, 3) := by decide +kernel
theorem dX2_seekNew_89 : decode cX2_seekNew 89 = .ok (.iinc 3 1, 3) := by decide +kernel
theorem dX2_seekNew_92 : decode cX2_seekNew 92 = .ok (.goto (-19), 3) := by decide +kernel
theorem dX2_seekNew_95 : decode cX2_seekNew 95 = .ok (.iinc 2 1, 3) := by decide +kernel
theorem dX2_seekNew_98 : decode cX2_seekNew 98 = .ok (.goto (-41), 3) := by decide +kernel
theorem dX2_seekNew_101 : decode cX2_seekNew 101 = .ok (.return_, 1) := by decide +kernel
theorem dX2_encode_0 : decode cX2_encode 0 = .ok (.iconst 0, 1) := by decide +kernel
theorem dX2_encode_1 : decode cX2_encode 1 = .ok (.istore_n 1, 1) := by decide +kernel
theorem dX2_encode_2 : decode cX2_encode 2 = .ok (.iload_n 1, 1) := by decide +kernel
theorem dX2_encode_3 : decode cX2_encode 3 = .ok (.aload_n 0, 1) := by decide +kernel
theorem dX2_encode_4 : decode cX2_encode 4 = .ok (.getfield 51, 3) := by decide +kernel
theorem dX2_encode_7 : decode cX2_encode 7 = .ok (.if_icmp .ge 83, 3) := by decide +kernel
theorem dX2_encode_10 : decode cX2_encode 10 = .ok (.iconst 0, 1) := by decide +kernel
theorem dX2_encode_11 : decode cX2_encode 11 = .ok (.istore_n 2, 1) := by decide +kernel
theorem dX2_encode_12 : decode cX2_encode 12 = .ok (.iload_n 2, 1) := by decide +kernel
theorem dX2_encode_13 : decode cX2_encode 13 = .ok (.bipush 24, 2) := by decide +kernel
theorem dX2_encode_15 : decode cX2_encode 15 = .ok (.if_icmp .ge 69, 3) := by decide +kernel
theorem dX2_encode_18 : decode cX2_encode 18 = .ok (.iload_n 2, 1) := by decide +kernel
theorem dX2_encode_19 : decode cX2_encode 19 = .ok (.aload_n 0, 1) := by decide +kernel
theorem dX2_encode_20 : decode cX2_encode 20 = .ok (.getfield 92, 3) := by decide +kernel
theorem dX2_encode_23 : decode cX2_encode 23 = .ok (.iadd, 1) := by decide +kernel
theorem dX2_encode_24 : decode cX2_encode 24 = .ok (.aload_n 0, 1) := by decide +kernel
theorem dX2_encode_25 : decode cX2_encode 25 = .ok (.getfield 21, 3) := by decide +kernel
theorem dX2_encode_28 : decode cX2_encode 28 = .ok (.iload_n 1, 1) := by decide +kernel
theorem dX2_encode_29 : decode cX2_encode 29 = .ok (.aaload, 1) := by decide +kernel
theorem dX2_encode_30 : decode cX2_encode 30 = .ok (.getfield 54, 3) := by decide +kernel
theorem dX2_encode_33 : decode cX2_encode 33 = .ok (.if_icmp .gt 7, 3) := by decide +kernel
theorem dX2_encode_36 : decode cX2_encode 36 = .ok (.iconst 1, 1) := by decide +kernel
theorem dX2_encode_37 : decode cX2_encode 37 = .ok (.goto 4, 3) := by decide +kernel
theorem dX2_encode_40 : decode cX2_encode 40 = .ok (.iconst 0, 1) := by decide +kernel
theorem dX2_encode_41 : decode cX2_encode 41 = .ok (.istore_n 3, 1) := by decide +kernel
theorem dX2_encode_42 : decode cX2_encode 42 = .ok (.aload_n 0, 1) := by decide +kernel
theorem dX2_encode_43 : decode cX2_encode 43 = .ok (.getfield 28, 3) := by decide +kernel
theorem dX2_encode_46 : decode cX2_encode 46 = .ok (.iload_n 1, 1) := by decide +kernel
theorem dX2_encode_47 : decode cX2_encode 47 = .ok (.bipush 24, 2) := by decide +kernel
theorem dX2_encode_49 : decode cX2_encode 49 = .ok (.imul, 1) := by decide +kernel
theorem dX2_encode_50 : decode cX2_encode 50 = .ok (.iload_n 2, 1) := by decide +kernel
theorem dX2_encode_51 : decode cX2_encode 51 = .ok (.iadd, 1) := by decide +kernel
theorem dX2_encode_52 : decode cX2_encode 52 = .ok (.iload_n 3, 1) := by decide +kernel
theorem dX2_encode_53 : decode cX2_encode 53 = .ok (.ifCond .eq 23, 3) := by decide +kernel
theorem dX2_encode_56 : decode cX2_encode 56 = .ok (.aload_n 0, 1) := by decide +kernel
theorem dX2_encode_57 : decode cX2_encode 57 = .ok (.getfield 21, 3) := by decide +kernel
theorem dX2_encode_60 : decode cX2_encode 60 = .ok (.iload_n 1, 1) := by decide +kernel
theorem dX2_encode_61 : decode cX2_encode 61 = .ok (.aaload, 1) := by decide +kernel
theorem dX2_encode_62 : decode cX2_encode 62 = .ok (.getfield 55, 3) := by decide +kernel
theorem dX2_encode_65 : decode cX2_encode 65 = .ok (.iload_n 2, 1) := by decide +kernel
theorem dX2_encode_66 : decode cX2_encode 66 = .ok (.aload_n 0, 1) := by decide +kernel
theorem dX2_encode_67 : decode cX2_encode 67 = .ok (.getfield 92, 3) := by decide +kernel
theorem dX2_encode_70 : decode cX2_encode 70 = .ok (.invokestatic 135, 3) := by decide +kernel
theorem dX2_encode_73 : decode cX2_encode 73 = .ok (.goto 4, 3) := by decide +kernel
theorem dX2_encode_76 : decode cX2_encode 76 = .ok (.iconst 0, 1) := by decide +kernel
theorem dX2_encode_77 : decode cX2_encode 77 = .ok (.iastore, 1) := by decide +kernel
theorem dX2_encode_78 : decode cX2_encode 78 = .ok (.iinc 2 1, 3) := by decide +kernel
theorem dX2_encode_81 : decode cX2_encode 81 = .ok (.goto (-69), 3) := by decide +kernel
theorem dX2_encode_84 : decode cX2_encode 84 = .ok (.iinc 1 1, 3) := by decide +kernel
theorem dX2_encode_87 : decode cX2_encode 87 = .ok (.goto (-85), 3) := by decide +kernel
theorem dX2_encode_90 : decode cX2_encode 90 = .ok (.return_, 1) := by decide +kernel
theorem dX2_tryNew_0 : decode cX2_tryNew 0 = .ok (.aload_n 0, 1) := by decide +kernel
theorem dX2_tryNew_1 : decode cX2_tryNew 1 = .ok (.getfield 28, 3) := by decide +kernel
theorem dX2_tryNew_4 : decode cX2_tryNew 4 = .ok (.iload_n 1, 1) := by decide +kernel
theorem dX2_tryNew_5 : decode cX2_tryNew 5 = .ok (.iaload, 1) := by decide +kernel
theorem dX2_tryNew_6 : decode cX2_tryNew 6 = .ok (.istore_n 2, 1) := by decide +kernel
theorem dX2_tryNew_7 : decode cX2_tryNew 7 = .ok (.iload_n 2, 1) := by decide +kernel
theorem dX2_tryNew_8 : decode cX2_tryNew 8 = .ok (.ifCond .eq 19, 3) := by decide +kernel
theorem dX2_tryNew_11 : decode cX2_tryNew 11 = .ok (.aload_n 0, 1) := by decide +kernel
theorem dX2_tryNew_12 : decode cX2_tryNew 12 = .ok (.iload_n 1, 1) := by decide +kernel
theorem dX2_tryNew_13 : decode cX2_tryNew 13 = .ok (.invokevirtual 139, 3) := by decide +kernel
theorem dX2_tryNew_16 : decode cX2_tryNew 16 = .ok (.ifCond .ne 11, 3) := by decide +kernel
theorem dX2_tryNew_19 : decode cX2_tryNew 19 = .ok (.aload_n 0, 1) := by decide +kernel
theorem dX2_tryNew_20 : decode cX2_tryNew 20 = .ok (.iload_n 2, 1) := by decide +kernel
theorem dX2_tryNew_21 : decode cX2_tryNew 21 = .ok (.invokevirtual 143, 3) := by decide +kernel
theorem dX2_tryNew_24 : decode cX2_tryNew 24 = .ok (.ifCond .eq 4, 3) := by decide +kernel
theorem dX2_tryNew_27 : decode cX2_tryNew 27 = .ok (.return_, 1) := by decide +kernel
theorem dX2_tryNew_28 : decode cX2_tryNew 28 = .ok (.aload_n 0, 1) := by decide +kernel
theorem dX2_tryNew_29 : decode cX2_tryNew 29 = .ok (.iload_n 2, 1) := by decide +kernel
theorem dX2_tryNew_30 : decode cX2_tryNew 30 = .ok (.putfield 89, 3) := by decide +kernel
theorem dX2_tryNew_33 : decode cX2_tryNew 33 = .ok (.iconst 0, 1) := by decide +kernel
theorem dX2_tryNew_34 : decode cX2_tryNew 34 = .ok (.istore_n 3, 1) := by decide +kernel
theorem dX2_tryNew_35 : decode cX2_tryNew 35 = .ok (.iconst 0, 1) := by decide +kernel
theorem dX2_tryNew_36 : decode cX2_tryNew 36 = .ok (.istore 4, 2) := by decide +kernel
theorem dX2_tryNew_38 : decode cX2_tryNew 38 = .ok (.iload 4, 2) := by decide +kernel
theorem dX2_tryNew_40 : decode cX2_tryNew 40 = .ok (.aload_n 0, 1) := by decide +kernel
theorem dX2_tryNew_41 : decode cX2_tryNew 41 = .ok (.getfield 51, 3) := by decide +kernel
theorem dX2_tryNew_44 : decode cX2_tryNew 44 = .ok (.if_icmp .ge 36, 3) := by decide +kernel
theorem dX2_tryNew_47 : decode cX2_tryNew 47 = .ok (.aload_n 0, 1) := by decide +kernel
theorem dX2_tryNew_48 : decode cX2_tryNew 48 = .ok (.iload 4, 2) := by decide +kernel
theorem dX2_tryNew_50 : decode cX2_tryNew 50 = .ok (.iload_n 2, 1) := by decide +kernel
theorem dX2_tryNew_51 : decode cX2_tryNew 51 = .ok (.invokevirtual 146, 3) := by decide +kernel
theorem dX2_tryNew_54 : decode cX2_tryNew 54 = .ok (.ifCond .eq 20, 3) := by decide +kernel
theorem dX2_tryNew_57 : decode cX2_tryNew 57 = .ok (.iload_n 3, 1) := by decide +kernel
theorem dX2_tryNew_58 : decode cX2_tryNew 58 = .ok (.aload_n 0, 1) := by decide +kernel
theorem dX2_tryNew_59 : decode cX2_tryNew 59 = .ok (.getfield 37, 3) := by decide +kernel
theorem dX2_tryNew_62 : decode cX2_tryNew 62 = .ok (.iload 4, 2) := by decide +kernel
theorem dX2_tryNew_64 : decode cX2_tryNew 64 = .ok (.iaload, 1) := by decide +kernel
theorem dX2_tryNew_65 : decode cX2_tryNew 65 = .ok (.aload_n 0, 1) := by decide +kernel
theorem dX2_tryNew_66 : decode cX2_tryNew 66 = .ok (.iload 4, 2) := by decide +kernel
theorem dX2_tryNew_68 : decode cX2_tryNew 68 = .ok (.invokevirtual 67, 3) := by decide +kernel
theorem dX2_tryNew_71 : decode cX2_tryNew 71 = .ok (.isub, 1) := by decide +kernel
theorem dX2_tryNew_72 : decode cX2_tryNew 72 = .ok (.iadd, 1) := by decide +kernel
theorem dX2_tryNew_73 : decode cX2_tryNew 73 = .ok (.istore_n 3, 1) := by decide +kernel
theorem dX2_tryNew_74 : decode cX2_tryNew 74 = .ok (.iinc 4 1, 3) := by decide +kernel
theorem dX2_tryNew_77 : decode cX2_tryNew 77 = .ok (.goto (-39), 3) := by decide +kernel
theorem dX2_tryNew_80 : decode cX2_tryNew 80 = .ok (.aload_n 0, 1) := by decide +kernel
theorem dX2_tryNew_81 : decode cX2_tryNew 81 = .ok (.iconst 0, 1) := by decide +kernel
theorem dX2_tryNew_82 : decode cX2_tryNew 82 = .ok (.putfield 89, 3) := by decide +kernel
theorem dX2_tryNew_85 : decode cX2_tryNew 85 = .ok (.iload_n 3, 1) := by decide +kernel
theorem dX2_tryNew_86 : decode cX2_tryNew 86 = .ok (.aload_n 0, 1) := by decide +kernel
theorem dX2_tryNew_87 : decode cX2_tryNew 87 = .ok (.getfield 120, 3) := by decide +kernel
theorem dX2_tryNew_90 : decode cX2_tryNew 90 = .ok (.if_icmp .gt 23, 3) := by decide +kernel
theorem dX2_tryNew_93 : decode cX2_tryNew 93 = .ok (.iload_n 3, 1) := by decide +kernel
theorem dX2_tryNew_94 : decode cX2_tryNew 94 = .ok (.aload_n 0, 1) := by decide +kernel
theorem dX2_tryNew_95 : decode cX2_tryNew 95 = .ok (.getfield 120, 3) := by decide +kernel
theorem dX2_tryNew_98 : decode cX2_tryNew 98 = .ok (.if_icmp .ne 25, 3) := by decide +kernel
theorem dX2_tryNew_101 : decode cX2_tryNew 101 = .ok (.iload_n 3, 1) := by decide +kernel
theorem dX2_tryNew_102 : decode cX2_tryNew 102 = .ok (.ifCond .le 21, 3) := by decide +kernel
theorem dX2_tryNew_105 : decode cX2_tryNew 105 = .ok (.iload_n 2, 1) := by decide +kernel
theorem dX2_tryNew_106 : decode cX2_tryNew 106 = .ok (.aload_n 0, 1) := by decide +kernel
theorem dX2_tryNew_107 : decode cX2_tryNew 107 = .ok (.getfield 123, 3) := by decide +kernel
theorem dX2_tryNew_110 : decode cX2_tryNew 110 = .ok (.if_icmp .ge 13, 3) := by decide +kernel
theorem dX2_tryNew_113 : decode cX2_tryNew 113 = .ok (.aload_n 0, 1) := by decide +kernel
theorem dX2_tryNew_114 : decode cX2_tryNew 114 = .ok (.iload_n 3, 1) := by decide +kernel
theorem dX2_tryNew_115 : decode cX2_tryNew 115 = .ok (.putfield 120, 3) := by decide +kernel
theorem dX2_tryNew_118 : decode cX2_tryNew 118 = .ok (.aload_n 0, 1) := by decide +kernel
theorem dX2_tryNew_119 : decode cX2_tryNew 119 = .ok (.iload_n 2, 1) := by decide +kernel
theorem dX2_tryNew_120 : decode cX2_tryNew 120 = .ok (.putfield 123, 3) := by decide +kernel
theorem dX2_tryNew_123 : decode cX2_tryNew 123 = .ok (.return_, 1) := by decide +kernel
theorem dX2_isTriedAhead_0 : decode cX2_isTriedAhead 0 = .ok (.iconst 0, 1) := by decide +kernel
theorem dX2_isTriedAhead_1 : decode cX2_isTriedAhead 1 = .ok (.istore_n 2, 1) := by decide +kernel
theorem dX2_isTriedAhead_2 : decode cX2_isTriedAhead 2 = .ok (.iload_n 2, 1) := by decide +kernel
theorem dX2_isTriedAhead_3 : decode cX2_isTriedAhead 3 = .ok (.iload_n 1, 1) := by decide +kernel
theorem dX2_isTriedAhead_4 : decode cX2_isTriedAhead 4 = .ok (.if_icmp .ge 26, 3) := by decide +kernel
theorem dX2_isTriedAhead_7 : decode cX2_isTriedAhead 7 = .ok (.aload_n 0, 1) := by decide +kernel
theorem dX2_isTriedAhead_8 : decode cX2_isTriedAhead 8 = .ok (.getfield 28, 3) := by decide +kernel
theorem dX2_isTriedAhead_11 : decode cX2_isTriedAhead 11 = .ok (.iload_n 2, 1) := by decide +kernel
theorem dX2_isTriedAhead_12 : decode cX2_isTriedAhead 12 = .ok (.iaload, 1) := by decide +kernel
theorem dX2_isTriedAhead_13 : decode cX2_isTriedAhead 13 = .ok (.aload_n 0, 1) := by decide +kernel
theorem dX2_isTriedAhead_14 : decode cX2_isTriedAhead 14 = .ok (.getfield 28, 3) := by decide +kernel
theorem dX2_isTriedAhead_17 : decode cX2_isTriedAhead 17 = .ok (.iload_n 1, 1) := by decide +kernel
theorem dX2_isTriedAhead_18 : decode cX2_isTriedAhead 18 = .ok (.iaload, 1) := by decide +kernel
theorem dX2_isTriedAhead_19 : decode cX2_isTriedAhead 19 = .ok (.if_icmp .ne 5, 3) := by decide +kernel
theorem dX2_isTriedAhead_22 : decode cX2_isTriedAhead 22 = .ok (.iconst 1, 1) := by decide +kernel
theorem dX2_isTriedAhead_23 : decode cX2_isTriedAhead 23 = .ok (.ireturn, 1) := by decide +kernel
theorem dX2_isTriedAhead_24 : decode cX2_isTriedAhead 24 = .ok (.iinc 2 1, 3) := by decide +kernel
theorem dX2_isTriedAhead_27 : decode cX2_isTriedAhead 27 = .ok (.goto (-25), 3) := by decide +kernel
theorem dX2_isTriedAhead_30 : decode cX2_isTriedAhead 30 = .ok (.iconst 0, 1) := by decide +kernel
theorem dX2_isTriedAhead_31 : decode cX2_isTriedAhead 31 = .ok (.ireturn, 1) := by decide +kernel
theorem dX2_isCodeOfWord_0 : decode cX2_isCodeOfWord 0 = .ok (.iconst 0, 1) := by decide +kernel
theorem dX2_isCodeOfWord_1 : decode cX2_isCodeOfWord 1 = .ok (.istore_n 2, 1) := by decide +kernel
theorem dX2_isCodeOfWord_2 : decode cX2_isCodeOfWord 2 = .ok (.iload_n 2, 1) := by decide +kernel
theorem dX2_isCodeOfWord_3 : decode cX2_isCodeOfWord 3 = .ok (.aload_n 0, 1) := by decide +kernel
theorem dX2_isCodeOfWord_4 : decode cX2_isCodeOfWord 4 = .ok (.getfield 40, 3) := by decide +kernel
theorem dX2_isCodeOfWord_7 : decode cX2_isCodeOfWord 7 = .ok (.getfield 76, 3) := by decide +kernel
theorem dX2_isCodeOfWord_10 : decode cX2_isCodeOfWord 10 = .ok (.if_icmp .ge 49, 3) := by decide +kernel
theorem dX2_isCodeOfWord_13 : decode cX2_isCodeOfWord 13 = .ok (.aload_n 0, 1) := by decide +kernel
theorem dX2_isCodeOfWord_14 : decode cX2_isCodeOfWord 14 = .ok (.getfield 40, 3) := by decide +kernel
theorem dX2_isCodeOfWord_17 : decode cX2_isCodeOfWord 17 = .ok (.getfield 107, 3) := by decide +kernel
theorem dX2_isCodeOfWord_20 : decode cX2_isCodeOfWord 20 = .ok (.iload_n 2, 1) := by decide +kernel
theorem dX2_isCodeOfWord_21 : decode cX2_isCodeOfWord 21 = .ok (.iaload, 1) := by decide +kernel
theorem dX2_isCodeOfWord_22 : decode cX2_isCodeOfWord 22 = .ok (.aload_n 0, 1) := by decide +kernel
theorem dX2_isCodeOfWord_23 : decode cX2_isCodeOfWord 23 = .ok (.getfield 92, 3) := by decide +kernel
theorem dX2_isCodeOfWord_26 : decode cX2_isCodeOfWord 26 = .ok (.if_icmp .ne 27, 3) := by decide +kernel
theorem dX2_isCodeOfWord_29 : decode cX2_isCodeOfWord 29 = .ok (.aload_n 0, 1) := by decide +kernel
theorem dX2_isCodeOfWord_30 : decode cX2_isCodeOfWord 30 = .ok (.getfield 40, 3) := by decide +kernel
theorem dX2_isCodeOfWord_33 : decode cX2_isCodeOfWord 33 = .ok (.getfield 149, 3) := by decide +kernel
theorem dX2_isCodeOfWord_36 : decode cX2_isCodeOfWord 36 = .ok (.iload_n 2, 1) := by decide +kernel
theorem dX2_isCodeOfWord_37 : decode cX2_isCodeOfWord 37 = .ok (.bipush 8, 2) := by decide +kernel
theorem dX2_isCodeOfWord_39 : decode cX2_isCodeOfWord 39 = .ok (.imul, 1) := by decide +kernel
theorem dX2_isCodeOfWord_40 : decode cX2_isCodeOfWord 40 = .ok (.aload_n 0, 1) := by decide +kernel
theorem dX2_isCodeOfWord_41 : decode cX2_isCodeOfWord 41 = .ok (.getfield 92, 3) := by decide +kernel
theorem dX2_isCodeOfWord_44 : decode cX2_isCodeOfWord 44 = .ok (.invokestatic 135, 3) := by decide +kernel
theorem dX2_isCodeOfWord_47 : decode cX2_isCodeOfWord 47 = .ok (.iload_n 1, 1) := by decide +kernel
theorem dX2_isCodeOfWord_48 : decode cX2_isCodeOfWord 48 = .ok (.if_icmp .ne 5, 3) := by decide +kernel
theorem dX2_isCodeOfWord_51 : decode cX2_isCodeOfWord 51 = .ok (.iconst 1, 1) := by decide +kernel
theorem dX2_isCodeOfWord_52 : decode cX2_isCodeOfWord 52 = .ok (.ireturn, 1) := by decide +kernel
theorem dX2_isCodeOfWord_53 : decode cX2_isCodeOfWord 53 = .ok (.iinc 2 1, 3) := by decide +kernel
theorem dX2_isCodeOfWord_56 : decode cX2_isCodeOfWord 56 = .ok (.goto (-54), 3) := by decide +kernel
theorem dX2_isCodeOfWord_59 : decode cX2_isCodeOfWord 59 = .ok (.iconst 0, 1) := by decide +kernel
theorem dX2_isCodeOfWord_60 : decode cX2_isCodeOfWord 60 = .ok (.ireturn, 1) := by decide +kernel
theorem dX2_comesIn_0 : decode cX2_comesIn 0 = .ok (.iconst 0, 1) := by decide +kernel
theorem dX2_comesIn_1 : decode cX2_comesIn 1 = .ok (.istore_n 3, 1) := by decide +kernel
theorem dX2_comesIn_2 : decode cX2_comesIn 2 = .ok (.iload_n 3, 1) := by decide +kernel
theorem dX2_comesIn_3 : decode cX2_comesIn 3 = .ok (.bipush 24, 2) := by decide +kernel
theorem dX2_comesIn_5 : decode cX2_comesIn 5 = .ok (.if_icmp .ge 26, 3) := by decide +kernel
theorem dX2_comesIn_8 : decode cX2_comesIn 8 = .ok (.aload_n 0, 1) := by decide +kernel
theorem dX2_comesIn_9 : decode cX2_comesIn 9 = .ok (.getfield 28, 3) := by decide +kernel
theorem dX2_comesIn_12 : decode cX2_comesIn 12 = .ok (.iload_n 1, 1) := by decide +kernel
theorem dX2_comesIn_13 : decode cX2_comesIn 13 = .ok (.bipush 24, 2) := by decide +kernel
theorem dX2_comesIn_15 : decode cX2_comesIn 15 = .ok (.imul, 1) := by decide +kernel
theorem dX2_comesIn_16 : decode cX2_comesIn 16 = .ok (.iload_n 3, 1) := by decide +kernel
theorem dX2_comesIn_17 : decode cX2_comesIn 17 = .ok (.iadd, 1) := by decide +kernel
theorem dX2_comesIn_18 : decode cX2_comesIn 18 = .ok (.iaload, 1) := by decide +kernel
theorem dX2_comesIn_19 : decode cX2_comesIn 19 = .ok (.iload_n 2, 1) := by decide +kernel
theorem dX2_comesIn_20 : decode cX2_comesIn 20 = .ok (.if_icmp .ne 5, 3) := by decide +kernel
theorem dX2_comesIn_23 : decode cX2_comesIn 23 = .ok (.iconst 1, 1) := by decide +kernel
theorem dX2_comesIn_24 : decode cX2_comesIn 24 = .ok (.ireturn, 1) := by decide +kernel
theorem dX2_comesIn_25 : decode cX2_comesIn 25 = .ok (.iinc 3 1, 3) := by decide +kernel
theorem dX2_comesIn_28 : decode cX2_comesIn 28 = .ok (.goto (-26), 3) := by decide +kernel
theorem dX2_comesIn_31 : decode cX2_comesIn 31 = .ok (.iconst 0, 1) := by decide +kernel
theorem dX2_comesIn_32 : decode cX2_comesIn 32 = .ok (.ireturn, 1) := by decide +kernel
theorem dX3_init_0 : decode cX3_init 0 = .ok (.aload_n 0, 1) := by decide +kernel
theorem dX3_init_1 : decode cX3_init 1 = .ok (.invokespecial 3, 3) := by decide +kernel
theorem dX3_init_4 : decode cX3_init 4 = .ok (.aload_n 0, 1) := by decide +kernel
theorem dX3_init_5 : decode cX3_init 5 = .ok (.sipush 144, 3) := by decide +kernel
theorem dX3_init_8 : decode cX3_init 8 = .ok (.newarray .long, 2) := by decide +kernel
theorem dX3_init_10 : decode cX3_init 10 = .ok (.putfield 11, 3) := by decide +kernel
theorem dX3_init_13 : decode cX3_init 13 = .ok (.aload_n 0, 1) := by decide +kernel
theorem dX3_init_14 : decode cX3_init 14 = .ok (.iconst 5, 1) := by decide +kernel
theorem dX3_init_15 : decode cX3_init 15 = .ok (.newarray .long, 2) := by decide +kernel
theorem dX3_init_17 : decode cX3_init 17 = .ok (.putfield 15, 3) := by decide +kernel
theorem dX3_init_20 : decode cX3_init 20 = .ok (.aload_n 0, 1) := by decide +kernel
theorem dX3_init_21 : decode cX3_init 21 = .ok (.aload_n 1, 1) := by decide +kernel
theorem dX3_init_22 : decode cX3_init 22 = .ok (.putfield 18, 3) := by decide +kernel
theorem dX3_init_25 : decode cX3_init 25 = .ok (.aload_n 0, 1) := by decide +kernel
theorem dX3_init_26 : decode cX3_init 26 = .ok (.aload_n 2, 1) := by decide +kernel
theorem dX3_init_27 : decode cX3_init 27 = .ok (.putfield 22, 3) := by decide +kernel
theorem dX3_init_30 : decode cX3_init 30 = .ok (.aload_n 0, 1) := by decide +kernel
theorem dX3_init_31 : decode cX3_init 31 = .ok (.aload_n 3, 1) := by decide +kernel
theorem dX3_init_32 : decode cX3_init 32 = .ok (.putfield 26, 3) := by decide +kernel
theorem dX3_init_35 : decode cX3_init 35 = .ok (.return_, 1) := by decide +kernel
theorem dX3_leastInAll_0 : decode cX3_leastInAll 0 = .ok (.iconst 0, 1) := by decide +kernel
theorem dX3_leastInAll_1 : decode cX3_leastInAll 1 = .ok (.istore_n 1, 1) := by decide +kernel
theorem dX3_leastInAll_2 : decode cX3_leastInAll 2 = .ok (.iload_n 1, 1) := by decide +kernel
theorem dX3_leastInAll_3 : decode cX3_leastInAll 3 = .ok (.aload_n 0, 1) := by decide +kernel
theorem dX3_leastInAll_4 : decode cX3_leastInAll 4 = .ok (.getfield 22, 3) := by decide +kernel
theorem dX3_leastInAll_7 : decode cX3_leastInAll 7 = .ok (.getfield 30, 3) := by decide +kernel
theorem dX3_leastInAll_10 : decode cX3_leastInAll 10 = .ok (.bipush 9, 2) := by decide +kernel
theorem dX3_leastInAll_12 : decode cX3_leastInAll 12 = .ok (.imul, 1) := by decide +kernel
theorem dX3_leastInAll_13 : decode cX3_leastInAll 13 = .ok (.if_icmp .ge 18, 3) := by decide +kernel
theorem dX3_leastInAll_16 : decode cX3_leastInAll 16 = .ok (.aload_n 0, 1) := by decide +kernel
theorem dX3_leastInAll_17 : decode cX3_leastInAll 17 = .ok (.getfield 11, 3) := by decide +kernel
theorem dX3_leastInAll_20 : decode cX3_leastInAll 20 = .ok (.iload_n 1, 1) := by decide +kernel
theorem dX3_leastInAll_21 : decode cX3_leastInAll 21 = .ok (.ldc2_w 36, 3) := by decide +kernel
theorem dX3_leastInAll_24 : decode cX3_leastInAll 24 = .ok (.lastore, 1) := by decide +kernel
theorem dX3_leastInAll_25 : decode cX3_leastInAll 25 = .ok (.iinc 1 1, 3) := by decide +kernel
theorem dX3_leastInAll_28 : decode cX3_leastInAll 28 = .ok (.goto (-26), 3) := by decide +kernel
theorem dX3_leastInAll_31 : decode cX3_leastInAll 31 = .ok (.iconst 0, 1) := by decide +kernel
theorem dX3_leastInAll_32 : decode cX3_leastInAll 32 = .ok (.istore_n 1, 1) := by decide +kernel
theorem dX3_leastInAll_33 : decode cX3_leastInAll 33 = .ok (.iload_n 1, 1) := by decide +kernel
theorem dX3_leastInAll_34 : decode cX3_leastInAll 34 = .ok (.iconst 5, 1) := by decide +kernel
theorem dX3_leastInAll_35 : decode cX3_leastInAll 35 = .ok (.if_icmp .ge 27, 3) := by decide +kernel
theorem dX3_leastInAll_38 : decode cX3_leastInAll 38 = .ok (.aload_n 0, 1) := by decide +kernel
theorem dX3_leastInAll_39 : decode cX3_leastInAll 39 = .ok (.getfield 15, 3) := by decide +kernel
theorem dX3_leastInAll_42 : decode cX3_leastInAll 42 = .ok (.iload_n 1, 1) := by decide +kernel
theorem dX3_leastInAll_43 : decode cX3_leastInAll 43 = .ok (.iload_n 1, 1) := by decide +kernel
theorem dX3_leastInAll_44 : decode cX3_leastInAll 44 = .ok (.iconst 4, 1) := by decide +kernel
theorem dX3_leastInAll_45 : decode cX3_leastInAll 45 = .ok (.if_icmp .ne 7, 3) := by decide +kernel
theorem dX3_leastInAll_48 : decode cX3_leastInAll 48 = .ok (.lconst 0, 1) := by decide +kernel
theorem dX3_leastInAll_49 : decode cX3_leastInAll 49 = .ok (.goto 6, 3) := by decide +kernel
theorem dX3_leastInAll_52 : decode cX3_leastInAll 52 = .ok (.ldc2_w 36, 3) := by decide +kernel
theorem dX3_leastInAll_55 : decode cX3_leastInAll 55 = .ok (.lastore, 1) := by decide +kernel
theorem dX3_leastInAll_56 : decode cX3_leastInAll 56 = .ok (.iinc 1 1, 3) := by decide +kernel
theorem dX3_leastInAll_59 : decode cX3_leastInAll 59 = .ok (.goto (-26), 3) := by decide +kernel
theorem dX3_leastInAll_62 : decode cX3_leastInAll 62 = .ok (.aload_n 0, 1) := by decide +kernel
theorem dX3_leastInAll_63 : decode cX3_leastInAll 63 = .ok (.invokevirtual 38, 3) := by decide +kernel
theorem dX3_leastInAll_66 : decode cX3_leastInAll 66 = .ok (.iconst 0, 1) := by decide +kernel
theorem dX3_leastInAll_67 : decode cX3_leastInAll 67 = .ok (.istore_n 1, 1) := by decide +kernel
theorem dX3_leastInAll_68 : decode cX3_leastInAll 68 = .ok (.iload_n 1, 1) := by decide +kernel
theorem dX3_leastInAll_69 : decode cX3_leastInAll 69 = .ok (.aload_n 0, 1) := by decide +kernel
theorem dX3_leastInAll_70 : decode cX3_leastInAll 70 = .ok (.getfield 18, 3) := by decide +kernel
theorem dX3_leastInAll_73 : decode cX3_leastInAll 73 = .ok (.getfield 41, 3) := by decide +kernel
theorem dX3_leastInAll_76 : decode cX3_leastInAll 76 = .ok (.if_icmp .ge 26, 3) := by decide +kernel
theorem dX3_leastInAll_79 : decode cX3_leastInAll 79 = .ok (.aload_n 0, 1) := by decide +kernel
theorem dX3_leastInAll_80 : decode cX3_leastInAll 80 = .ok (.aload_n 0, 1) := by decide +kernel
theorem dX3_leastInAll_81 : decode cX3_leastInAll 81 = .ok (.getfield 18, 3) := by decide +kernel
theorem dX3_leastInAll_84 : decode cX3_leastInAll 84 = .ok (.getfield 44, 3) := by decide +kernel
theorem dX3_leastInAll_87 : decode cX3_leastInAll 87 = .ok (.iload_n 1, 1) := by decide +kernel
theorem dX3_leastInAll_88 : decode cX3_leastInAll 88 = .ok (.iaload, 1) := by decide +kernel
theorem dX3_leastInAll_89 : decode cX3_leastInAll 89 = .ok (.invokevirtual 48, 3) := by decide +kernel
theorem dX3_leastInAll_92 : decode cX3_leastInAll 92 = .ok (.aload_n 0, 1) := by decide +kernel
theorem dX3_leastInAll_93 : decode cX3_leastInAll 93 = .ok (.invokevirtual 38, 3) := by decide +kernel
theorem dX3_leastInAll_96 : decode cX3_leastInAll 96 = .ok (.iinc 1 1, 3) := by decide +kernel
theorem dX3_leastInAll_99 : decode cX3_leastInAll 99 = .ok (.goto (-31), 3) := by decide +kernel
theorem dX3_leastInAll_102 : decode cX3_leastInAll 102 = .ok (.ldc2_w 36, 3) := by decide +kernel
theorem dX3_leastInAll_105 : decode cX3_leastInAll 105 = .ok (.lstore_n 1, 1) := by decide +kernel
theorem dX3_leastInAll_106 : decode cX3_leastInAll 106 = .ok (.iconst 0, 1) := by decide +kernel
theorem dX3_leastInAll_107 : decode cX3_leastInAll 107 = .ok (.istore_n 3, 1) := by decide +kernel
theorem dX3_leastInAll_108 : decode cX3_leastInAll 108 = .ok (.iload_n 3, 1) := by decide +kernel
theorem dX3_leastInAll_109 : decode cX3_leastInAll 109 = .ok (.iconst 5, 1) := by decide +kernel
theorem dX3_leastInAll_110 : decode cX3_leastInAll 110 = .ok (.if_icmp .ge 20, 3) := by decide +kernel
theorem dX3_leastInAll_113 : decode cX3_leastInAll 113 = .ok (.lload_n 1, 1) := by decide +kernel
theorem dX3_leastInAll_114 : decode cX3_leastInAll 114 = .ok (.aload_n 0, 1) := by decide +kernel
theorem dX3_leastInAll_115 : decode cX3_leastInAll 115 = .ok (.getfield 15, 3) := by decide +kernel
theorem dX3_leastInAll_118 : decode cX3_leastInAll 118 = .ok (.iload_n 3, 1) := by decide +kernel
theorem dX3_leastInAll_119 : decode cX3_leastInAll 119 = .ok (.laload, 1) := by decide +kernel
theorem dX3_leastInAll_120 : decode cX3_leastInAll 120 = .ok (.invokestatic 52, 3) := by decide +kernel
theorem dX3_leastInAll_123 : decode cX3_leastInAll 123 = .ok (.lstore_n 1, 1) := by decide +kernel
theorem dX3_leastInAll_124 : decode cX3_leastInAll 124 = .ok (.iinc 3 1, 3) := by decide +kernel
theorem dX3_leastInAll_127 : decode cX3_leastInAll 127 = .ok (.goto (-19), 3) := by decide +kernel
theorem dX3_leastInAll_130 : decode cX3_leastInAll 130 = .ok (.lload_n 1, 1) := by decide +kernel
theorem dX3_leastInAll_131 : decode cX3_leastInAll 131 = .ok (.lreturn, 1) := by decide +kernel
theorem dX3_settle_0 : decode cX3_settle 0 = .ok (.iconst 1, 1) := by decide +kernel
theorem dX3_settle_1 : decode cX3_settle 1 = .ok (.istore_n 1, 1) := by decide +kernel
theorem dX3_settle_2 : decode cX3_settle 2 = .ok (.iconst 0, 1) := by decide +kernel
theorem dX3_settle_3 : decode cX3_settle 3 = .ok (.istore_n 2, 1) := by decide +kernel
theorem dX3_settle_4 : decode cX3_settle 4 = .ok (.iload_n 2, 1) := by decide +kernel
theorem dX3_settle_5 : decode cX3_settle 5 = .ok (.bipush 10, 2) := by decide +kernel
theorem dX3_settle_7 : decode cX3_settle 7 = .ok (.if_icmp .ge 44, 3) := by decide +kernel
theorem dX3_settle_10 : decode cX3_settle 10 = .ok (.iload_n 1, 1) := by decide +kernel
theorem dX3_settle_11 : decode cX3_settle 11 = .ok (.ifCond .eq 40, 3) := by decide +kernel
theorem dX3_settle_14 : decode cX3_settle 14 = .ok (.iconst 0, 1) := by decide +kernel
theorem dX3_settle_15 : decode cX3_settle 15 = .ok (.istore_n 1, 1) := by decide +kernel
theorem dX3_settle_16 : decode cX3_settle 16 = .ok (.iconst 0, 1) := by decide +kernel
theorem dX3_settle_17 : decode cX3_settle 17 = .ok (.istore_n 3, 1) := by decide +kernel
theorem dX3_settle_18 : decode cX3_settle 18 = .ok (.iload_n 3, 1) := by decide +kernel
theorem dX3_settle_19 : decode cX3_settle 19 = .ok (.aload_n 0, 1) := by decide +kernel
theorem dX3_settle_20 : decode cX3_settle 20 = .ok (.getfield 22, 3) := by decide +kernel
theorem dX3_settle_23 : decode cX3_settle 23 = .ok (.getfield 30, 3) := by decide +kernel
theorem dX3_settle_26 : decode cX3_settle 26 = .ok (.if_icmp .ge 19, 3) := by decide +kernel
theorem dX3_settle_29 : decode cX3_settle 29 = .ok (.aload_n 0, 1) := by decide +kernel
theorem dX3_settle_30 : decode cX3_settle 30 = .ok (.iload_n 3, 1) := by decide +kernel
theorem dX3_settle_31 : decode cX3_settle 31 = .ok (.invokevirtual 58, 3) := by decide +kernel
theorem dX3_settle_34 : decode cX3_settle 34 = .ok (.ifCond .eq 5, 3) := by decide +kernel
theorem dX3_settle_37 : decode cX3_settle 37 = .ok (.iconst 1, 1) := by decide +kernel
theorem dX3_settle_38 : decode cX3_settle 38 = .ok (.istore_n 1, 1) := by decide +kernel
theorem dX3_settle_39 : decode cX3_settle 39 = .ok (.iinc 3 1, 3) := by decide +kernel
theorem dX3_settle_42 : decode cX3_settle 42 = .ok (.goto (-24), 3) := by decide +kernel
theorem dX3_settle_45 : decode cX3_settle 45 = .ok (.iinc 2 1, 3) := by decide +kernel
theorem dX3_settle_48 : decode cX3_settle 48 = .ok (.goto (-44), 3) := by decide +kernel
theorem dX3_settle_51 : decode cX3_settle 51 = .ok (.return_, 1) := by decide +kernel
theorem dX3_settleWord_0 : decode cX3_settleWord 0 = .ok (.iload_n 1, 1) := by decide +kernel
theorem dX3_settleWord_1 : decode cX3_settleWord 1 = .ok (.bipush 9, 2) := by decide +kernel
theorem dX3_settleWord_3 : decode cX3_settleWord 3 = .ok (.imul, 1) := by decide +kernel
theorem dX3_settleWord_4 : decode cX3_settleWord 4 = .ok (.istore_n 2, 1) := by decide +kernel
theorem dX3_settleWord_5 : decode cX3_settleWord 5 = .ok (.aload_n 0, 1) := by decide +kernel
theorem dX3_settleWord_6 : decode cX3_settleWord 6 = .ok (.getfield 22, 3) := by decide +kernel
theorem dX3_settleWord_9 : decode cX3_settleWord 9 = .ok (.getfield 62, 3) := by decide +kernel
theorem dX3_settleWord_12 : decode cX3_settleWord 12 = .ok (.iload_n 1, 1) := by decide +kernel
theorem dX3_settleWord_13 : decode cX3_settleWord 13 = .ok (.iaload, 1) := by decide +kernel
theorem dX3_settleWord_14 : decode cX3_settleWord 14 = .ok (.istore_n 3, 1) := by decide +kernel
theorem dX3_settleWord_15 : decode cX3_settleWord 15 = .ok (.iconst 0, 1) := by decide +kernel
theorem dX3_settleWord_16 : decode cX3_settleWord 16 = .ok (.istore 4, 2) := by decide +kernel
theorem dX3_settleWord_18 : decode cX3_settleWord 18 = .ok (.iload 4, 2) := by decide +kernel
theorem dX3_settleWord_20 : decode cX3_settleWord 20 = .ok (.iconst 5, 1) := by decide +kernel
theorem dX3_settleWord_21 : decode cX3_settleWord 21 = .ok (.if_icmp .ge 62, 3) := by decide +kernel
theorem dX3_settleWord_24 : decode cX3_settleWord 24 = .ok (.aload_n 0, 1) := by decide +kernel
theorem dX3_settleWord_25 : decode cX3_settleWord 25 = .ok (.getfield 26, 3) := by decide +kernel
theorem dX3_settleWord_28 : decode cX3_settleWord 28 = .ok (.iload 4, 2) := by decide +kernel
theorem dX3_settleWord_30 : decode cX3_settleWord 30 = .ok (.iload_n 3, 1) := by decide +kernel
theorem dX3_settleWord_31 : decode cX3_settleWord 31 = .ok (.invokevirtual 65, 3) := by decide +kernel
theorem dX3_settleWord_34 : decode cX3_settleWord 34 = .ok (.ifCond .eq 43, 3) := by decide +kernel
theorem dX3_settleWord_37 : decode cX3_settleWord 37 = .ok (.aload_n 0, 1) := by decide +kernel
theorem dX3_settleWord_38 : decode cX3_settleWord 38 = .ok (.getfield 15, 3) := by decide +kernel
theorem dX3_settleWord_41 : decode cX3_settleWord 41 = .ok (.iload 4, 2) := by decide +kernel
theorem dX3_settleWord_43 : decode cX3_settleWord 43 = .ok (.laload, 1) := by decide +kernel
theorem dX3_settleWord_44 : decode cX3_settleWord 44 = .ok (.aload_n 0, 1) := by decide +kernel
theorem dX3_settleWord_45 : decode cX3_settleWord 45 = .ok (.getfield 22, 3) := by decide +kernel
theorem dX3_settleWord_48 : decode cX3_settleWord 48 = .ok (.getfield 71, 3) := by decide +kernel
theorem dX3_settleWord_51 : decode cX3_settleWord 51 = .ok (.iload_n 1, 1) := by decide +kernel
theorem dX3_settleWord_52 : decode cX3_settleWord 52 = .ok (.iaload, 1) := by decide +kernel
theorem dX3_settleWord_53 : decode cX3_settleWord 53 = .ok (.i2l, 1) := by decide +kernel
theorem dX3_settleWord_54 : decode cX3_settleWord 54 = .ok (.bipush 20, 2) := by decide +kernel
theorem dX3_settleWord_56 : decode cX3_settleWord 56 = .ok (.lshl, 1) := by decide +kernel
theorem dX3_settleWord_57 : decode cX3_settleWord 57 = .ok (.ladd, 1) := by decide +kernel
theorem dX3_settleWord_58 : decode cX3_settleWord 58 = .ok (.lstore 5, 2) := by decide +kernel
theorem dX3_settleWord_60 : decode cX3_settleWord 60 = .ok (.aload_n 0, 1) := by decide +kernel
theorem dX3_settleWord_61 : decode cX3_settleWord 61 = .ok (.getfield 11, 3) := by decide +kernel
theorem dX3_settleWord_64 : decode cX3_settleWord 64 = .ok (.iload_n 2, 1) := by decide +kernel
theorem dX3_settleWord_65 : decode cX3_settleWord 65 = .ok (.aload_n 0, 1) := by decide +kernel
theorem dX3_settleWord_66 : decode cX3_settleWord 66 = .ok (.getfield 11, 3) := by decide +kernel
theorem dX3_settleWord_69 : decode cX3_settleWord 69 = .ok (.iload_n 2, 1) := by decide +kernel
theorem dX3_settleWord_70 : decode cX3_settleWord 70 = .ok (.laload, 1) := by decide +kernel
theorem dX3_settleWord_71 : decode cX3_settleWord 71 = .ok (.lload 5, 2) := by decide +kernel
theorem dX3_settleWord_73 : decode cX3_settleWord 73 = .ok (.invokestatic 52, 3) := by decide +kernel
theorem dX3_settleWord_76 : decode cX3_settleWord 76 = .ok (.lastore, 1) := by decide +kernel
theorem dX3_settleWord_77 : decode cX3_settleWord 77 = .ok (.iinc 4 1, 3) := by decide +kernel
theorem dX3_settleWord_80 : decode cX3_settleWord 80 = .ok (.goto (-62), 3) := by decide +kernel
theorem dX3_settleWord_83 : decode cX3_settleWord 83 = .ok (.iload_n 2, 1) := by decide +kernel
theorem dX3_settleWord_84 : decode cX3_settleWord 84 = .ok (.aload_n 0, 1) := by decide +kernel
theorem dX3_settleWord_85 : decode cX3_settleWord 85 = .ok (.getfield 22, 3) := by decide +kernel
theorem dX3_settleWord_88 : decode cX3_settleWord 88 = .ok (.getfield 74, 3) := by decide +kernel
theorem dX3_settleWord_91 : decode cX3_settleWord 91 = .ok (.iload_n 1, 1) := by decide +kernel
theorem dX3_settleWord_92 : decode cX3_settleWord 92 = .ok (.iaload, 1) := by decide +kernel
theorem dX3_settleWord_93 : decode cX3_settleWord 93 = .ok (.iadd, 1) := by decide +kernel
theorem dX3_settleWord_94 : decode cX3_settleWord 94 = .ok (.istore 4, 2) := by decide +kernel
theorem dX3_settleWord_96 : decode cX3_settleWord 96 = .ok (.iload_n 2, 1) := by decide +kernel
theorem dX3_settleWord_97 : decode cX3_settleWord 97 = .ok (.istore 5, 2) := by decide +kernel
theorem dX3_settleWord_99 : decode cX3_settleWord 99 = .ok (.iload 5, 2) := by decide +kernel
theorem dX3_settleWord_101 : decode cX3_settleWord 101 = .ok (.iload 4, 2) := by decide +kernel
theorem dX3_settleWord_103 : decode cX3_settleWord 103 = .ok (.if_icmp .ge 43, 3) := by decide +kernel
theorem dX3_settleWord_106 : decode cX3_settleWord 106 = .ok (.aload_n 0, 1) := by decide +kernel
theorem dX3_settleWord_107 : decode cX3_settleWord 107 = .ok (.getfield 11, 3) := by decide +kernel
theorem dX3_settleWord_110 : decode cX3_settleWord 110 = .ok (.iload 5, 2) := by decide +kernel
theorem dX3_settleWord_112 : decode cX3_settleWord 112 = .ok (.iconst 1, 1) := by decide +kernel
theorem dX3_settleWord_113 : decode cX3_settleWord 113 = .ok (.iadd, 1) := by decide +kernel
theorem dX3_settleWord_114 : decode cX3_settleWord 114 = .ok (.aload_n 0, 1) := by decide +kernel
theorem dX3_settleWord_115 : decode cX3_settleWord 115 = .ok (.getfield 11, 3) := by decide +kernel
theorem dX3_settleWord_118 : decode cX3_settleWord 118 = .ok (.iload 5, 2) := by decide +kernel
theorem dX3_settleWord_120 : decode cX3_settleWord 120 = .ok (.iconst 1, 1) := by decide +kernel
theorem dX3_settleWord_121 : decode cX3_settleWord 121 = .ok (.iadd, 1) := by decide +kernel
theorem dX3_settleWord_122 : decode cX3_settleWord 122 = .ok (.laload, 1) := by decide +kernel
theorem dX3_settleWord_123 : decode cX3_settleWord 123 = .ok (.aload_n 0, 1) := by decide +kernel
theorem dX3_settleWord_124 : decode cX3_settleWord 124 = .ok (.getfield 11, 3) := by decide +kernel
theorem dX3_settleWord_127 : decode cX3_settleWord 127 = .ok (.iload 5, 2) := by decide +kernel
theorem dX3_settleWord_129 : decode cX3_settleWord 129 = .ok (.laload, 1) := by decide +kernel
theorem dX3_settleWord_130 : decode cX3_settleWord 130 = .ok (.aload_n 0, 1) := by decide +kernel
theorem dX3_settleWord_131 : decode cX3_settleWord 131 = .ok (.iconst 1, 1) := by decide +kernel
theorem dX3_settleWord_132 : decode cX3_settleWord 132 = .ok (.invokevirtual 77, 3) := by decide +kernel
theorem dX3_settleWord_135 : decode cX3_settleWord 135 = .ok (.ladd, 1) := by decide +kernel
theorem dX3_settleWord_136 : decode cX3_settleWord 136 = .ok (.invokestatic 52, 3) := by decide +kernel
theorem dX3_settleWord_139 : decode cX3_settleWord 139 = .ok (.lastore, 1) := by decide +kernel
theorem dX3_settleWord_140 : decode cX3_settleWord 140 = .ok (.iinc 5 1, 3) := by decide +kernel
theorem dX3_settleWord_143 : decode cX3_settleWord 143 = .ok (.goto (-44), 3) := by decide +kernel
theorem dX3_settleWord_146 : decode cX3_settleWord 146 = .ok (.aload_n 0, 1) := by decide +kernel
theorem dX3_settleWord_147 : decode cX3_settleWord 147 = .ok (.getfield 11, 3) := by decide +kernel
theorem dX3_settleWord_150 : decode cX3_settleWord 150 = .ok (.iload 4, 2) := by decide +kernel
theorem dX3_settleWord_152 : decode cX3_settleWord 152 = .ok (.laload, 1) := by decide +kernel
theorem dX3_settleWord_153 : decode cX3_settleWord 153 = .ok (.aload_n 0, 1) := by decide +kernel
theorem dX3_settleWord_154 : decode cX3_settleWord 154 = .ok (.getfield 15, 3) := by decide +kernel
theorem dX3_settleWord_157 : decode cX3_settleWord 157 = .ok (.iload_n 3, 1) := by decide +kernel
theorem dX3_settleWord_158 : decode cX3_settleWord 158 = .ok (.laload, 1) := by decide +kernel
theorem dX3_settleWord_159 : decode cX3_settleWord 159 = .ok (.lcmp, 1) := by decide +kernel
theorem dX3_settleWord_160 : decode cX3_settleWord 160 = .ok (.ifCond .lt 5, 3) := by decide +kernel
theorem dX3_settleWord_163 : decode cX3_settleWord 163 = .ok (.iconst 0, 1) := by decide +kernel
theorem dX3_settleWord_164 : decode cX3_settleWord 164 = .ok (.ireturn, 1) := by decide +kernel
theorem dX3_settleWord_165 : decode cX3_settleWord 165 = .ok (.aload_n 0, 1) := by decide +kernel
theorem dX3_settleWord_166 : decode cX3_settleWord 166 = .ok (.getfield 15, 3) := by decide +kernel
theorem dX3_settleWord_169 : decode cX3_settleWord 169 = .ok (.iload_n 3, 1) := by decide +kernel
theorem dX3_settleWord_170 : decode cX3_settleWord 170 = .ok (.aload_n 0, 1) := by decide +kernel
theorem dX3_settleWord_171 : decode cX3_settleWord 171 = .ok (.getfield 11, 3) := by decide +kernel
theorem dX3_settleWord_174 : decode cX3_settleWord 174 = .ok (.iload 4, 2) := by decide +kernel
theorem dX3_settleWord_176 : decode cX3_settleWord 176 = .ok (.laload, 1) := by decide +kernel
theorem dX3_settleWord_177 : decode cX3_settleWord 177 = .ok (.lastore, 1) := by decide +kernel
theorem dX3_settleWord_178 : decode cX3_settleWord 178 = .ok (.iconst 1, 1) := by decide +kernel
theorem dX3_settleWord_179 : decode cX3_settleWord 179 = .ok (.ireturn, 1) := by decide +kernel
theorem dX3_takeLetter_0 : decode cX3_takeLetter 0 = .ok (.iconst 0, 1) := by decide +kernel
theorem dX3_takeLetter_1 : decode cX3_takeLetter 1 = .ok (.istore_n 2, 1) := by decide +kernel
theorem dX3_takeLetter_2 : decode cX3_takeLetter 2 = .ok (.iload_n 2, 1) := by decide +kernel
theorem dX3_takeLetter_3 : decode cX3_takeLetter 3 = .ok (.iconst 5, 1) := by decide +kernel
theorem dX3_takeLetter_4 : decode cX3_takeLetter 4 = .ok (.if_icmp .ge 23, 3) := by decide +kernel
theorem dX3_takeLetter_7 : decode cX3_takeLetter 7 = .ok (.aload_n 0, 1) := by decide +kernel
theorem dX3_takeLetter_8 : decode cX3_takeLetter 8 = .ok (.getfield 15, 3) := by decide +kernel
theorem dX3_takeLetter_11 : decode cX3_takeLetter 11 = .ok (.iload_n 2, 1) := by decide +kernel
theorem dX3_takeLetter_12 : decode cX3_takeLetter 12 = .ok (.dup2, 1) := by decide +kernel
theorem dX3_takeLetter_13 : decode cX3_takeLetter 13 = .ok (.laload, 1) := by decide +kernel
theorem dX3_takeLetter_14 : decode cX3_takeLetter 14 = .ok (.aload_n 0, 1) := by decide +kernel
theorem dX3_takeLetter_15 : decode cX3_takeLetter 15 = .ok (.iconst 2, 1) := by decide +kernel
theorem dX3_takeLetter_16 : decode cX3_takeLetter 16 = .ok (.invokevirtual 77, 3) := by decide +kernel
theorem dX3_takeLetter_19 : decode cX3_takeLetter 19 = .ok (.ladd, 1) := by decide +kernel
theorem dX3_takeLetter_20 : decode cX3_takeLetter 20 = .ok (.lastore, 1) := by decide +kernel
theorem dX3_takeLetter_21 : decode cX3_takeLetter 21 = .ok (.iinc 2 1, 3) := by decide +kernel
theorem dX3_takeLetter_24 : decode cX3_takeLetter 24 = .ok (.goto (-22), 3) := by decide +kernel
theorem dX3_takeLetter_27 : decode cX3_takeLetter 27 = .ok (.iconst 0, 1) := by decide +kernel
theorem dX3_takeLetter_28 : decode cX3_takeLetter 28 = .ok (.istore_n 2, 1) := by decide +kernel
theorem dX3_takeLetter_29 : decode cX3_takeLetter 29 = .ok (.iload_n 2, 1) := by decide +kernel
theorem dX3_takeLetter_30 : decode cX3_takeLetter 30 = .ok (.aload_n 0, 1) := by decide +kernel
theorem dX3_takeLetter_31 : decode cX3_takeLetter 31 = .ok (.getfield 22, 3) := by decide +kernel
theorem dX3_takeLetter_34 : decode cX3_takeLetter 34 = .ok (.getfield 30, 3) := by decide +kernel
theorem dX3_takeLetter_37 : decode cX3_takeLetter 37 = .ok (.if_icmp .ge 134, 3) := by decide +kernel
theorem dX3_takeLetter_40 : decode cX3_takeLetter 40 = .ok (.iload_n 2, 1) := by decide +kernel
theorem dX3_takeLetter_41 : decode cX3_takeLetter 41 = .ok (.bipush 9, 2) := by decide +kernel
theorem dX3_takeLetter_43 : decode cX3_takeLetter 43 = .ok (.imul, 1) := by decide +kernel
theorem dX3_takeLetter_44 : decode cX3_takeLetter 44 = .ok (.istore_n 3, 1) := by decide +kernel
theorem dX3_takeLetter_45 : decode cX3_takeLetter 45 = .ok (.aload_n 0, 1) := by decide +kernel
theorem dX3_takeLetter_46 : decode cX3_takeLetter 46 = .ok (.getfield 22, 3) := by decide +kernel
theorem dX3_takeLetter_49 : decode cX3_takeLetter 49 = .ok (.getfield 74, 3) := by decide +kernel
theorem dX3_takeLetter_52 : decode cX3_takeLetter 52 = .ok (.iload_n 2, 1) := by decide +kernel
theorem dX3_takeLetter_53 : decode cX3_takeLetter 53 = .ok (.iaload, 1) := by decide +kernel
theorem dX3_takeLetter_54 : decode cX3_takeLetter 54 = .ok (.istore 4, 2) := by decide +kernel
theorem dX3_takeLetter_56 : decode cX3_takeLetter 56 = .ok (.iload 4, 2) := by decide +kernel
theorem dX3_takeLetter_58 : decode cX3_takeLetter 58 = .ok (.istore 5, 2) := by decide +kernel
theorem dX3_takeLetter_60 : decode cX3_takeLetter 60 = .ok (.iload 5, 2) := by decide +kernel
theorem dX3_takeLetter_62 : decode cX3_takeLetter 62 = .ok (.ifCond .le 94, 3) := by decide +kernel
theorem dX3_takeLetter_65 : decode cX3_takeLetter 65 = .ok (.aload_n 0, 1) := by decide +kernel
theorem dX3_takeLetter_66 : decode cX3_takeLetter 66 = .ok (.getfield 11, 3) := by decide +kernel
theorem dX3_takeLetter_69 : decode cX3_takeLetter 69 = .ok (.iload_n 3, 1) := by decide +kernel
theorem dX3_takeLetter_70 : decode cX3_takeLetter 70 = .ok (.iload 5, 2) := by decide +kernel
theorem dX3_takeLetter_72 : decode cX3_takeLetter 72 = .ok (.iadd, 1) := by decide +kernel
theorem dX3_takeLetter_73 : decode cX3_takeLetter 73 = .ok (.iconst 1, 1) := by decide +kernel
theorem dX3_takeLetter_74 : decode cX3_takeLetter 74 = .ok (.isub, 1) := by decide +kernel
theorem dX3_takeLetter_75 : decode cX3_takeLetter 75 = .ok (.laload, 1) := by decide +kernel
theorem dX3_takeLetter_76 : decode cX3_takeLetter 76 = .ok (.aload_n 0, 1) := by decide +kernel
theorem dX3_takeLetter_77 : decode cX3_takeLetter 77 = .ok (.getfield 22, 3) := by decide +kernel
theorem dX3_takeLetter_80 : decode cX3_takeLetter 80 = .ok (.iload_n 2, 1) := by decide +kernel
theorem dX3_takeLetter_81 : decode cX3_takeLetter 81 = .ok (.iload 5, 2) := by decide +kernel
theorem dX3_takeLetter_83 : decode cX3_takeLetter 83 = .ok (.iconst 1, 1) := by decide +kernel
theorem dX3_takeLetter_84 : decode cX3_takeLetter 84 = .ok (.isub, 1) := by decide +kernel
theorem dX3_takeLetter_85 : decode cX3_takeLetter 85 = .ok (.invokevirtual 81, 3) := by decide +kernel
theorem dX3_takeLetter_88 : decode cX3_takeLetter 88 = .ok (.iload_n 1, 1) := by decide +kernel
theorem dX3_takeLetter_89 : decode cX3_takeLetter 89 = .ok (.if_icmp .ne 7, 3) := by decide +kernel
theorem dX3_takeLetter_92 : decode cX3_takeLetter 92 = .ok (.lconst 0, 1) := by decide +kernel
theorem dX3_takeLetter_93 : decode cX3_takeLetter 93 = .ok (.goto 8, 3) := by decide +kernel
theorem dX3_takeLetter_96 : decode cX3_takeLetter 96 = .ok (.aload_n 0, 1) := by decide +kernel
theorem dX3_takeLetter_97 : decode cX3_takeLetter 97 = .ok (.iconst 0, 1) := by decide +kernel
theorem dX3_takeLetter_98 : decode cX3_takeLetter 98 = .ok (.invokevirtual 77, 3) := by decide +kernel
theorem dX3_takeLetter_101 : decode cX3_takeLetter 101 = .ok (.ladd, 1) := by decide +kernel

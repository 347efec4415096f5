/-! the layouts: M the reference, X the class (kn: whether the states of knowing are made) -/
def nM : Nat := 37
def nX (kn : Bool) : Nat := if kn then 61 else 47
def layM : Nat → z_C := fun o => match o with
  | 0 => .inl (11, [(0, 0), (0, 0), (2, 1), (2, 2), (2, 3), (2, 4), (2, 5), (2, 6), (2, 7), (0, 0), (0, 0), (2, 8), (2, 9), (2, 10), (0, 0), (0, 0), (0, 0), (0, 0), (2, 11), (2, 12), (2, 13), (2, 14), (0, 0), (2, 15), (2, 16), (2, 17), (2, 18), (2, 19), (2, 20), (2, 21), (2, 22), (2, 23), (2, 24), (2, 25), (0, 0), (1, 0), (1, 0), (2, 26), (0, 0), (2, 27), (2, 28), (2, 29), (2, 30), (2, 31), (2, 32), (2, 33), (2, 34), (2, 35), (0, 0), (2, 36), (0, 0), (0, 0)])
  | 1 => .inr (0, 136, [])
  | 2 => .inr (0, 17, [])
  | 3 => .inr (0, 17, [])
  | 4 => .inr (0, 17, [])
  | 5 => .inr (2, 16, [])
  | 6 => .inr (0, 3, [])
  | 7 => .inr (0, 48, [])
  | 8 => .inr (0, 96, [])
  | 9 => .inr (0, 4, [])
  | 10 => .inr (0, 200, [])
  | 11 => .inr (0, 136, [])
  | 12 => .inr (0, 17, [])
  | 13 => .inr (0, 17, [])
  | 14 => .inr (0, 17, [])
  | 15 => .inr (1, 245, [])
  | 16 => .inr (0, 245, [])
  | 17 => .inr (1, 245, [])
  | 18 => .inr (0, 245, [])
  | 19 => .inr (0, 245, [])
  | 20 => .inr (2, 245, [])
  | 21 => .inr (1, 2001, [])
  | 22 => .inr (1, 2001, [])
  | 23 => .inr (0, 2001, [])
  | 24 => .inr (0, 2001, [])
  | 25 => .inr (0, 2001, [])
  | 26 => .inr (0, 12, [])
  | 27 => .inr (1, 41, [])
  | 28 => .inr (1, 2001, [])
  | 29 => .inr (1, 2001, [])
  | 30 => .inr (1, 5, [])
  | 31 => .inr (1, 136, [])
  | 32 => .inr (1, 5, [])
  | 33 => .inr (1, 136, [])
  | 34 => .inr (0, 125, [])
  | 35 => .inr (0, 17, [])
  | 36 => .inr (0, 5, [])
  | _ => .inr (0, 0, [])
def layX (kn : Bool) : Nat → z_C := fun o => match o with
  | 0 => .inl (10, [(2, 1), (2, 4), (2, 9), (2, 11), (2, 13), (2, 19), (2, 23), (2, 26), (2, 42), (2, 43), (2, 45), (if kn then (2, 47) else (3, 0))])
  | 1 => .inl (7, [(0, 0), (2, 2), (2, 3)])
  | 2 => .inr (2, 16, [])
  | 3 => .inr (0, 3, [])
  | 4 => .inl (9, [(0, 0), (2, 5), (2, 6), (2, 7), (2, 8)])
  | 5 => .inr (0, 128, [])
  | 6 => .inr (0, 16, [])
  | 7 => .inr (0, 16, [])
  | 8 => .inr (0, 16, [])
  | 9 => .inl (6, [(2, 10), (0, 0)])
  | 10 => .inr (0, 200, [])
  | 11 => .inl (6, [(2, 12), (0, 0)])
  | 12 => .inr (0, 48, [])
  | 13 => .inl (0, [(2, 14), (0, 0), (2, 9), (2, 1), (0, 0), (0, 0)])
  | 14 => .inl (9, [(0, 0), (2, 15), (2, 16), (2, 17), (2, 18)])
  | 15 => .inr (0, 128, [])
  | 16 => .inr (0, 16, [])
  | 17 => .inr (0, 16, [])
  | 18 => .inr (0, 16, [])
  | 19 => .inl (5, [(2, 11), (2, 4), (2, 1), (2, 20), (2, 21), (2, 22), (0, 0), (0, 0), (1, 0)])
  | 20 => .inr (0, 49, [])
  | 21 => .inr (0, 245, [])
  | 22 => .inr (1, 245, [])
  | 23 => .inl (3, [(2, 11), (2, 4), (2, 1), (2, 24), (2, 25)])
  | 24 => .inr (1, 144, [])
  | 25 => .inr (1, 5, [])
  | 26 => .inl (2, [(0, 0), (2, 27), (0, 0), (0, 0), (0, 0), (0, 0), (2, 4), (2, 1), (2, 28), (2, 29), (2, 30), (2, 31), (2, 32), (2, 33), (0, 0), (0, 0)])
  | 27 => .inr (0, 16, [])
  | 28 => .inr (3, 4, [34, 36, 38, 40])
  | 29 => .inr (0, 96, [])
  | 30 => .inr (0, 96, [])
  | 31 => .inr (0, 125, [])
  | 32 => .inr (0, 4, [])
  | 33 => .inr (0, 4, [])
  | 34 => .inl (6, [(2, 35), (0, 0)])
  | 35 => .inr (0, 24, [])
  | 36 => .inl (6, [(2, 37), (0, 0)])
  | 37 => .inr (0, 24, [])
  | 38 => .inl (6, [(2, 39), (0, 0)])
  | 39 => .inr (0, 24, [])
  | 40 => .inl (6, [(2, 41), (0, 0)])
  | 41 => .inr (0, 24, [])
  | 42 => .inr (1, 41, [])
  | 43 => .inl (8, [(0, 0), (0, 0), (0, 0), (2, 44)])
  | 44 => .inr (0, 12, [])
  | 45 => .inl (8, [(0, 0), (0, 0), (0, 0), (2, 46)])
  | 46 => .inr (0, 12, [])
  | 47 => .inl (1, [(2, 4), (2, 1), (0, 0), (2, 48), (2, 49), (2, 50), (2, 51), (2, 52), (2, 53), (2, 54), (2, 55), (2, 56), (2, 57), (2, 58), (2, 59), (2, 60)])
  | 48 => .inr (1, 2000, [])
  | 49 => .inr (1, 2000, [])
  | 50 => .inr (0, 1024, [])
  | 51 => .inr (0, 2000, [])
  | 52 => .inr (0, 2000, [])
  | 53 => .inr (0, 2000, [])
  | 54 => .inr (1, 2000, [])
  | 55 => .inr (1, 2000, [])
  | 56 => .inr (1, 8, [])
  | 57 => .inr (1, 8, [])
  | 58 => .inl (4, [(1, 0), (1, 0)])
  | 59 => .inl (4, [(1, 0), (1, 0)])
  | 60 => .inl (4, [(1, 0), (1, 0)])
  | _ => .inr (0, 0, [])
set_option maxRecDepth 20000 in
theorem zin_X0 : ∀ w ∈ u_ws RX0 TX0 6, w ∈ z_T := z_in_ws _ [215, 217, 219, 221, 223, 225] (by decide +kernel) (by decide +kernel)
set_option maxRecDepth 20000 in
theorem zin_X1 : ∀ w ∈ u_ws RX1 TX1 16, w ∈ z_T := z_in_ws _ [683, 685, 687, 689, 691, 693, 695, 697, 699, 701, 703, 705, 707, 709, 711, 713] (by decide +kernel) (by decide +kernel)
set_option maxRecDepth 20000 in
theorem zin_X2 : ∀ w ∈ u_ws RX2 TX2 16, w ∈ z_T := z_in_ws _ [316, 318, 320, 322, 324, 326, 328, 330, 332, 334, 336, 338, 340, 342, 344, 346] (by decide +kernel) (by decide +kernel)
set_option maxRecDepth 20000 in
theorem zin_X3 : ∀ w ∈ u_ws RX3 TX3 5, w ∈ z_T := z_in_ws _ [274, 276, 278, 280, 282] (by decide +kernel) (by decide +kernel)
set_option maxRecDepth 20000 in
theorem zin_X4 : ∀ w ∈ u_ws RX4 TX4 2, w ∈ z_T := z_in_ws _ [662, 664] (by decide +kernel) (by decide +kernel)
set_option maxRecDepth 20000 in
theorem zin_X5 : ∀ w ∈ u_ws RX5 TX5 9, w ∈ z_T := z_in_ws _ [243, 245, 247, 249, 251, 253, 255, 257, 259] (by decide +kernel) (by decide +kernel)
set_option maxRecDepth 20000 in
theorem zin_X6 : ∀ w ∈ u_ws RX6 TX6 2, w ∈ z_T := z_in_ws _ [194, 196] (by decide +kernel) (by decide +kernel)
set_option maxRecDepth 20000 in
theorem zin_X7 : ∀ w ∈ u_ws RX7 TX7 3, w ∈ z_T := z_in_ws _ [118, 120, 122] (by decide +kernel) (by decide +kernel)
set_option maxRecDepth 20000 in
theorem zin_X8 : ∀ w ∈ u_ws RX8 TX8 4, w ∈ z_T := z_in_ws _ [365, 367, 369, 371] (by decide +kernel) (by decide +kernel)
set_option maxRecDepth 20000 in
theorem zin_X9 : ∀ w ∈ u_ws RX9 TX9 5, w ∈ z_T := z_in_ws _ [162, 164, 166, 168, 170] (by decide +kernel) (by decide +kernel)
set_option maxRecDepth 20000 in
theorem zin_X10 : ∀ w ∈ u_ws RX10 TX10 12, w ∈ z_T := z_in_ws _ [386, 388, 390, 392, 394, 396, 398, 400, 402, 404, 406, 408] (by decide +kernel) (by decide +kernel)
set_option maxRecDepth 20000 in
theorem zin_X11 : ∀ w ∈ u_ws RX11 TX11 52, w ∈ z_T := z_in_ws _ [1005, 1007, 1009, 1011, 1013, 1015, 1017, 1019, 1021, 1023, 1025, 1027, 1029, 1031, 1033, 1035, 1037, 1039, 1041, 1043, 1045, 1047, 1049, 1051, 1053, 1055, 1057, 1059, 1061, 1063, 1065, 1067, 1069, 1071, 1073, 1075, 1077, 1079, 1081, 1083, 1085, 1087, 1089, 1091, 1093, 1095, 1097, 1099, 1101, 1103, 1105, 1107] (by decide +kernel) (by decide +kernel)
set_option maxRecDepth 20000 in
theorem zci_0 : Int32.ofInt (0) = 0 := by decide
set_option maxRecDepth 20000 in
theorem zci_1 : Int32.ofInt (1) = 1 := by decide
set_option maxRecDepth 20000 in
theorem zl_X11_127 : Cond.constantLong RX11 127 (2) ∈ z_T := z_T_in (List.mem_of_getElem? (i := 1114) (by decide +kernel)) rfl
set_option maxRecDepth 20000 in
theorem zl_X11_129 : Cond.constantLong RX11 129 (8) ∈ z_T := z_T_in (List.mem_of_getElem? (i := 1115) (by decide +kernel)) rfl
set_option maxRecDepth 20000 in
theorem zc_X11_131 : z_CS RX11 131 yX11_in cX11_in 6 (some .boolean) 3 := ⟨(z_T_in (List.mem_of_getElem? (i := 1118) (by decide +kernel)) rfl : Cond.code yX11_in cX11_in 6 (some .boolean) ∈ z_T), (z_T_in (List.mem_of_getElem? (i := 1116) (by decide +kernel)) rfl : Cond.methodLink RX11 131 yX11_in ∈ z_T), (z_T_in (List.mem_of_getElem? (i := 1117) (by decide +kernel)) rfl : Cond.static yX11_in ∈ z_T), (z_T_in (List.mem_of_getElem? (i := 91) (by decide +kernel)) rfl : Cond.initialized yX11_in.cls ∈ z_T), ⟨by decide, by decide, by decide +kernel⟩⟩
set_option maxRecDepth 20000 in
theorem zcs_m1002 : (Int16.ofInt (-1002)).toInt32 = -1002 := by decide
set_option maxRecDepth 20000 in
theorem zp_X11_124 : z_FP RX11 124 11 0 .int := ⟨RX11, TX11, 52, tyX11, rfl, zin_X11, by decide, (z_T_in (List.mem_of_getElem? (i := 953) (by decide +kernel)) rfl : Cond.fieldLink RX11 124 "RunTogetherModel" "k" "I" ∈ z_T), tyX11_ok, nmX11, rfl, by decide +kernel⟩
set_option maxRecDepth 20000 in
theorem zo_M_0 : z_fk layM nM 0 11 0 (0, 0) := ⟨by decide, _, rfl, rfl⟩
set_option maxRecDepth 20000 in
theorem zp_X11_135 : z_FP RX11 135 11 1 .int := ⟨RX11, TX11, 52, tyX11, rfl, zin_X11, by decide, (z_T_in (List.mem_of_getElem? (i := 954) (by decide +kernel)) rfl : Cond.fieldLink RX11 135 "RunTogetherModel" "words" "I" ∈ z_T), tyX11_ok, nmX11, rfl, by decide +kernel⟩
set_option maxRecDepth 20000 in
theorem zo_M_1 : z_fk layM nM 0 11 1 (0, 0) := ⟨by decide, _, rfl, rfl⟩
set_option maxRecDepth 20000 in
theorem zp_X11_138 : z_FP RX11 138 11 10 .int := ⟨RX11, TX11, 52, tyX11, rfl, zin_X11, by decide, (z_T_in (List.mem_of_getElem? (i := 963) (by decide +kernel)) rfl : Cond.fieldLink RX11 138 "RunTogetherModel" "lines" "I" ∈ z_T), tyX11_ok, nmX11, rfl, by decide +kernel⟩
set_option maxRecDepth 20000 in
theorem zo_M_10 : z_fk layM nM 0 11 10 (0, 0) := ⟨by decide, _, rfl, rfl⟩
set_option maxRecDepth 20000 in
theorem zp_X11_141 : z_FP RX11 141 11 9 .int := ⟨RX11, TX11, 52, tyX11, rfl, zin_X11, by decide, (z_T_in (List.mem_of_getElem? (i := 962) (by decide +kernel)) rfl : Cond.fieldLink RX11 141 "RunTogetherModel" "drafted" "I" ∈ z_T), tyX11_ok, nmX11, rfl, by decide +kernel⟩
set_option maxRecDepth 20000 in
theorem zo_M_9 : z_fk layM nM 0 11 9 (0, 0) := ⟨by decide, _, rfl, rfl⟩
set_option maxRecDepth 20000 in
theorem zf_X10_78 : z_FL RX10 78 10 9 := ⟨RX10, TX10, 12, rfl, zin_X10, by decide, (z_T_in (List.mem_of_getElem? (i := 383) (by decide +kernel)) rfl : Cond.fieldLink RX10 78 "RunTogether" "shortestKey" "LRunTogether$Shortest;" ∈ z_T)⟩
set_option maxRecDepth 20000 in
theorem zo_X_0_9 (kn : Bool) : z_fk (layX kn) (nX kn) 0 10 9 (2, 43) := ⟨by cases kn <;> decide, _, rfl, rfl⟩
set_option maxRecDepth 20000 in
theorem zp_X10_237 : z_FP RX10 237 8 1 .boolean := ⟨RX8, TX8, 4, tyX8, rfl, zin_X8, by decide, (z_T_in (List.mem_of_getElem? (i := 358) (by decide +kernel)) rfl : Cond.fieldLink RX10 237 "RunTogether$Shortest" "isKnown" "Z" ∈ z_T), tyX8_ok, nmX8, rfl, by decide +kernel⟩
set_option maxRecDepth 20000 in
theorem zo_X_43_1 (kn : Bool) : z_fk (layX kn) (nX kn) 43 8 1 (0, 0) := ⟨by cases kn <;> decide, _, rfl, rfl⟩
set_option maxRecDepth 20000 in
theorem zf_X10_82 : z_FL RX10 82 10 10 := ⟨RX10, TX10, 12, rfl, zin_X10, by decide, (z_T_in (List.mem_of_getElem? (i := 384) (by decide +kernel)) rfl : Cond.fieldLink RX10 82 "RunTogether" "shortestStrange" "LRunTogether$Shortest;" ∈ z_T)⟩
set_option maxRecDepth 20000 in
theorem zo_X_0_10 (kn : Bool) : z_fk (layX kn) (nX kn) 0 10 10 (2, 45) := ⟨by cases kn <;> decide, _, rfl, rfl⟩
set_option maxRecDepth 20000 in
theorem zo_X_45_1 (kn : Bool) : z_fk (layX kn) (nX kn) 45 8 1 (0, 0) := ⟨by cases kn <;> decide, _, rfl, rfl⟩
set_option maxRecDepth 20000 in
theorem zf_X10_65 : z_FL RX10 65 10 7 := ⟨RX10, TX10, 12, rfl, zin_X10, by decide, (z_T_in (List.mem_of_getElem? (i := 381) (by decide +kernel)) rfl : Cond.fieldLink RX10 65 "RunTogether" "lines" "LRunTogether$Lines;" ∈ z_T)⟩
set_option maxRecDepth 20000 in
theorem zo_X_0_7 (kn : Bool) : z_fk (layX kn) (nX kn) 0 10 7 (2, 26) := ⟨by cases kn <;> decide, _, rfl, rfl⟩
set_option maxRecDepth 20000 in
theorem zci_m1 : Int32.ofInt (-1) = -1 := by decide
set_option maxRecDepth 20000 in
theorem zp_X10_241 : z_FP RX10 241 2 3 .int := ⟨RX2, TX2, 16, tyX2, rfl, zin_X2, by decide, (z_T_in (List.mem_of_getElem? (i := 301) (by decide +kernel)) rfl : Cond.fieldLink RX10 241 "RunTogether$Lines" "soughtCost" "I" ∈ z_T), tyX2_ok, nmX2, rfl, by decide +kernel⟩
set_option maxRecDepth 20000 in
theorem zo_X_26_3 (kn : Bool) : z_fk (layX kn) (nX kn) 26 2 3 (0, 0) := ⟨by cases kn <;> decide, _, rfl, rfl⟩
set_option maxRecDepth 20000 in
theorem zci_2 : Int32.ofInt (2) = 2 := by decide
set_option maxRecDepth 20000 in
theorem zcb_8 : (Int8.ofInt (8)).toInt32 = 8 := by decide
set_option maxRecDepth 20000 in
theorem zf_X10_10 : z_FL RX10 10 10 0 := ⟨RX10, TX10, 12, rfl, zin_X10, by decide, (z_T_in (List.mem_of_getElem? (i := 374) (by decide +kernel)) rfl : Cond.fieldLink RX10 10 "RunTogether" "rules" "LRunTogether$Rules;" ∈ z_T)⟩
set_option maxRecDepth 20000 in
theorem zo_X_0_0 (kn : Bool) : z_fk (layX kn) (nX kn) 0 10 0 (2, 1) := ⟨by cases kn <;> decide, _, rfl, rfl⟩
set_option maxRecDepth 20000 in
theorem zp_X10_85 : z_FP RX10 85 7 0 .int := ⟨RX7, TX7, 3, tyX7, rfl, zin_X7, by decide, (z_T_in (List.mem_of_getElem? (i := 109) (by decide +kernel)) rfl : Cond.fieldLink RX10 85 "RunTogether$Rules" "letters" "I" ∈ z_T), tyX7_ok, nmX7, rfl, by decide +kernel⟩
set_option maxRecDepth 20000 in
theorem zo_X_1_0 (kn : Bool) : z_fk (layX kn) (nX kn) 1 7 0 (0, 0) := ⟨by cases kn <;> decide, _, rfl, rfl⟩
set_option maxRecDepth 20000 in
theorem zf_X10_19 : z_FL RX10 19 10 1 := ⟨RX10, TX10, 12, rfl, zin_X10, by decide, (z_T_in (List.mem_of_getElem? (i := 375) (by decide +kernel)) rfl : Cond.fieldLink RX10 19 "RunTogether" "words" "LRunTogether$Words;" ∈ z_T)⟩
set_option maxRecDepth 20000 in
theorem zo_X_0_1 (kn : Bool) : z_fk (layX kn) (nX kn) 0 10 1 (2, 4) := ⟨by cases kn <;> decide, _, rfl, rfl⟩
set_option maxRecDepth 20000 in
theorem zp_X10_89 : z_FP RX10 89 9 0 .int := ⟨RX9, TX9, 5, tyX9, rfl, zin_X9, by decide, (z_T_in (List.mem_of_getElem? (i := 136) (by decide +kernel)) rfl : Cond.fieldLink RX10 89 "RunTogether$Words" "size" "I" ∈ z_T), tyX9_ok, nmX9, rfl, by decide +kernel⟩
set_option maxRecDepth 20000 in
theorem zo_X_4_0 (kn : Bool) : z_fk (layX kn) (nX kn) 4 9 0 (0, 0) := ⟨by cases kn <;> decide, _, rfl, rfl⟩
set_option maxRecDepth 20000 in
theorem zp_X10_92 : z_FP RX10 92 2 0 .int := ⟨RX2, TX2, 16, tyX2, rfl, zin_X2, by decide, (z_T_in (List.mem_of_getElem? (i := 295) (by decide +kernel)) rfl : Cond.fieldLink RX10 92 "RunTogether$Lines" "size" "I" ∈ z_T), tyX2_ok, nmX2, rfl, by decide +kernel⟩
set_option maxRecDepth 20000 in
theorem zo_X_26_0 (kn : Bool) : z_fk (layX kn) (nX kn) 26 2 0 (0, 0) := ⟨by cases kn <;> decide, _, rfl, rfl⟩
set_option maxRecDepth 20000 in
theorem zf_X10_32 : z_FL RX10 32 10 3 := ⟨RX10, TX10, 12, rfl, zin_X10, by decide, (z_T_in (List.mem_of_getElem? (i := 377) (by decide +kernel)) rfl : Cond.fieldLink RX10 32 "RunTogether" "draft" "LRunTogether$Row;" ∈ z_T)⟩
set_option maxRecDepth 20000 in
theorem zo_X_0_3 (kn : Bool) : z_fk (layX kn) (nX kn) 0 10 3 (2, 11) := ⟨by cases kn <;> decide, _, rfl, rfl⟩
set_option maxRecDepth 20000 in
theorem zp_X10_93 : z_FP RX10 93 6 1 .int := ⟨RX6, TX6, 2, tyX6, rfl, zin_X6, by decide, (z_T_in (List.mem_of_getElem? (i := 191) (by decide +kernel)) rfl : Cond.fieldLink RX10 93 "RunTogether$Row" "size" "I" ∈ z_T), tyX6_ok, nmX6, rfl, by decide +kernel⟩
set_option maxRecDepth 20000 in
theorem zo_X_11_1 (kn : Bool) : z_fk (layX kn) (nX kn) 11 6 1 (0, 0) := ⟨by cases kn <;> decide, _, rfl, rfl⟩
set_option maxRecDepth 20000 in
theorem zc_X10_94 : z_CV RX10 94 yX10_forgetFound cX10_forgetFound 1 none 0 := ⟨(z_T_in (List.mem_of_getElem? (i := 418) (by decide +kernel)) rfl : Cond.code yX10_forgetFound cX10_forgetFound 1 none ∈ z_T), (z_T_in (List.mem_of_getElem? (i := 415) (by decide +kernel)) rfl : Cond.methodLink RX10 94 yX10_forgetFound ∈ z_T), (z_T_in (List.mem_of_getElem? (i := 417) (by decide +kernel)) rfl : Cond.instanceMethod yX10_forgetFound ∈ z_T), (z_T_in (List.mem_of_getElem? (i := 0) (by decide +kernel)) rfl : Cond.selects yX10_forgetFound.cls yX10_forgetFound yX10_forgetFound ∈ z_T), (z_T_in (List.mem_of_getElem? (i := 81) (by decide +kernel)) rfl : Cond.initialized yX10_forgetFound.cls ∈ z_T), ⟨by decide, by decide, by decide +kernel⟩⟩
set_option maxRecDepth 20000 in
theorem zk_X_0 (kn : Bool) : z_ok (layX kn) (nX kn) 0 RX10 := ⟨by cases kn <;> decide, _, _, _, _, rfl, rfl⟩
set_option maxRecDepth 20000 in
theorem zf_X11_144 : z_FL RX11 144 11 14 := ⟨RX11, TX11, 52, rfl, zin_X11, by decide, (z_T_in (List.mem_of_getElem? (i := 967) (by decide +kernel)) rfl : Cond.fieldLink RX11 144 "RunTogetherModel" "textSize" "I" ∈ z_T)⟩
set_option maxRecDepth 20000 in
theorem zo_M_14 : z_fk layM nM 0 11 14 (0, 0) := ⟨by decide, _, rfl, rfl⟩
set_option maxRecDepth 20000 in
theorem zf_X11_38 : z_FL RX11 38 11 13 := ⟨RX11, TX11, 52, rfl, zin_X11, by decide, (z_T_in (List.mem_of_getElem? (i := 966) (by decide +kernel)) rfl : Cond.fieldLink RX11 38 "RunTogetherModel" "text" "[I" ∈ z_T)⟩
set_option maxRecDepth 20000 in
theorem zo_M_13 : z_fk layM nM 0 11 13 (2, 10) := ⟨by decide, _, rfl, rfl⟩
set_option maxRecDepth 20000 in
theorem zl_X11_147 : Cond.constantLong RX11 147 (255) ∈ z_T := z_T_in (List.mem_of_getElem? (i := 1123) (by decide +kernel)) rfl
set_option maxRecDepth 20000 in
theorem za_M_10 : z_ak layM nM 10 0 200 := ⟨by decide, _, rfl⟩
set_option maxRecDepth 20000 in
theorem zp_X11_144 : z_FP RX11 144 11 14 .int := ⟨RX11, TX11, 52, tyX11, rfl, zin_X11, by decide, (z_T_in (List.mem_of_getElem? (i := 967) (by decide +kernel)) rfl : Cond.fieldLink RX11 144 "RunTogetherModel" "textSize" "I" ∈ z_T), tyX11_ok, nmX11, rfl, by decide +kernel⟩
set_option maxRecDepth 20000 in
theorem zcl_1 : Int64.ofNat ((1 : Fin 2) : Nat) = 1 := by decide
set_option maxRecDepth 20000 in
theorem zcs_200 : (Int16.ofInt (200)).toInt32 = 200 := by decide
set_option maxRecDepth 20000 in
theorem zcs_m1004 : (Int16.ofInt (-1004)).toInt32 = -1004 := by decide
set_option maxRecDepth 20000 in
theorem zf_X6_19 : z_FL RX6 19 6 1 := ⟨RX6, TX6, 2, rfl, zin_X6, by decide, (z_T_in (List.mem_of_getElem? (i := 187) (by decide +kernel)) rfl : Cond.fieldLink RX6 19 "RunTogether$Row" "size" "I" ∈ z_T)⟩
set_option maxRecDepth 20000 in
theorem zo_X_9_1 (kn : Bool) : z_fk (layX kn) (nX kn) 9 6 1 (0, 0) := ⟨by cases kn <;> decide, _, rfl, rfl⟩
set_option maxRecDepth 20000 in
theorem zf_X6_13 : z_FL RX6 13 6 0 := ⟨RX6, TX6, 2, rfl, zin_X6, by decide, (z_T_in (List.mem_of_getElem? (i := 182) (by decide +kernel)) rfl : Cond.fieldLink RX6 13 "RunTogether$Row" "cells" "[I" ∈ z_T)⟩
set_option maxRecDepth 20000 in
theorem zo_X_9_0 (kn : Bool) : z_fk (layX kn) (nX kn) 9 6 0 (2, 10) := ⟨by cases kn <;> decide, _, rfl, rfl⟩
set_option maxRecDepth 20000 in
theorem za_X_10 (kn : Bool) : z_ak (layX kn) (nX kn) 10 0 200 := ⟨by cases kn <;> decide, _, rfl⟩
set_option maxRecDepth 20000 in
theorem zp_X6_19 : z_FP RX6 19 6 1 .int := ⟨RX6, TX6, 2, tyX6, rfl, zin_X6, by decide, (z_T_in (List.mem_of_getElem? (i := 187) (by decide +kernel)) rfl : Cond.fieldLink RX6 19 "RunTogether$Row" "size" "I" ∈ z_T), tyX6_ok, nmX6, rfl, by decide +kernel⟩
set_option maxRecDepth 20000 in
theorem zf_X10_28 : z_FL RX10 28 10 2 := ⟨RX10, TX10, 12, rfl, zin_X10, by decide, (z_T_in (List.mem_of_getElem? (i := 376) (by decide +kernel)) rfl : Cond.fieldLink RX10 28 "RunTogether" "text" "LRunTogether$Row;" ∈ z_T)⟩
set_option maxRecDepth 20000 in
theorem zo_X_0_2 (kn : Bool) : z_fk (layX kn) (nX kn) 0 10 2 (2, 9) := ⟨by cases kn <;> decide, _, rfl, rfl⟩
set_option maxRecDepth 20000 in
theorem zf_X10_93 : z_FL RX10 93 6 1 := ⟨RX6, TX6, 2, rfl, zin_X6, by decide, (z_T_in (List.mem_of_getElem? (i := 191) (by decide +kernel)) rfl : Cond.fieldLink RX10 93 "RunTogether$Row" "size" "I" ∈ z_T)⟩
set_option maxRecDepth 20000 in
theorem zcs_255 : (Int16.ofInt (255)).toInt32 = 255 := by decide
set_option maxRecDepth 20000 in
theorem zc_X10_97 : z_CV RX10 97 yX6_put cX6_put 2 none 1 := ⟨(z_T_in (List.mem_of_getElem? (i := 426) (by decide +kernel)) rfl : Cond.code yX6_put cX6_put 2 none ∈ z_T), (z_T_in (List.mem_of_getElem? (i := 423) (by decide +kernel)) rfl : Cond.methodLink RX10 97 yX6_put ∈ z_T), (z_T_in (List.mem_of_getElem? (i := 424) (by decide +kernel)) rfl : Cond.instanceMethod yX6_put ∈ z_T), (z_T_in (List.mem_of_getElem? (i := 425) (by decide +kernel)) rfl : Cond.selects yX6_put.cls yX6_put yX6_put ∈ z_T), (z_T_in (List.mem_of_getElem? (i := 84) (by decide +kernel)) rfl : Cond.initialized yX6_put.cls ∈ z_T), ⟨by decide, by decide, by decide +kernel⟩⟩
set_option maxRecDepth 20000 in
theorem zk_X_9 (kn : Bool) : z_ok (layX kn) (nX kn) 9 RX6 := ⟨by cases kn <;> decide, _, _, _, _, rfl, rfl⟩
set_option maxRecDepth 20000 in
theorem zf_X11_149 : z_FL RX11 149 11 15 := ⟨RX11, TX11, 52, rfl, zin_X11, by decide, (z_T_in (List.mem_of_getElem? (i := 968) (by decide +kernel)) rfl : Cond.fieldLink RX11 149 "RunTogetherModel" "at" "I" ∈ z_T)⟩
set_option maxRecDepth 20000 in
theorem zo_M_15 : z_fk layM nM 0 11 15 (0, 0) := ⟨by decide, _, rfl, rfl⟩
set_option maxRecDepth 20000 in
theorem zcb_32 : (Int8.ofInt (32)).toInt32 = 32 := by decide
set_option maxRecDepth 20000 in
theorem zp_X11_149 : z_FP RX11 149 11 15 .int := ⟨RX11, TX11, 52, tyX11, rfl, zin_X11, by decide, (z_T_in (List.mem_of_getElem? (i := 968) (by decide +kernel)) rfl : Cond.fieldLink RX11 149 "RunTogetherModel" "at" "I" ∈ z_T), tyX11_ok, nmX11, rfl, by decide +kernel⟩
set_option maxRecDepth 20000 in
theorem zf_X11_152 : z_FL RX11 152 11 16 := ⟨RX11, TX11, 52, rfl, zin_X11, by decide, (z_T_in (List.mem_of_getElem? (i := 969) (by decide +kernel)) rfl : Cond.fieldLink RX11 152 "RunTogetherModel" "faultOf" "I" ∈ z_T)⟩
set_option maxRecDepth 20000 in
theorem zo_M_16 : z_fk layM nM 0 11 16 (0, 0) := ⟨by decide, _, rfl, rfl⟩
set_option maxRecDepth 20000 in
theorem zp_X11_152 : z_FP RX11 152 11 16 .int := ⟨RX11, TX11, 52, tyX11, rfl, zin_X11, by decide, (z_T_in (List.mem_of_getElem? (i := 969) (by decide +kernel)) rfl : Cond.fieldLink RX11 152 "RunTogetherModel" "faultOf" "I" ∈ z_T), tyX11_ok, nmX11, rfl, by decide +kernel⟩
set_option maxRecDepth 20000 in
theorem zp_X11_41 : z_FP RX11 41 11 17 .int := ⟨RX11, TX11, 52, tyX11, rfl, zin_X11, by decide, (z_T_in (List.mem_of_getElem? (i := 970) (by decide +kernel)) rfl : Cond.fieldLink RX11 41 "RunTogetherModel" "place" "I" ∈ z_T), tyX11_ok, nmX11, rfl, by decide +kernel⟩
set_option maxRecDepth 20000 in
theorem zo_M_17 : z_fk layM nM 0 11 17 (0, 0) := ⟨by decide, _, rfl, rfl⟩
set_option maxRecDepth 20000 in
theorem zci_3 : Int32.ofInt (3) = 3 := by decide
set_option maxRecDepth 20000 in
theorem zc_X11_163 : z_CV RX11 163 yX11_want cX11_want 4 (some .boolean) 3 := ⟨(z_T_in (List.mem_of_getElem? (i := 1145) (by decide +kernel)) rfl : Cond.code yX11_want cX11_want 4 (some .boolean) ∈ z_T), (z_T_in (List.mem_of_getElem? (i := 1142) (by decide +kernel)) rfl : Cond.methodLink RX11 163 yX11_want ∈ z_T), (z_T_in (List.mem_of_getElem? (i := 1144) (by decide +kernel)) rfl : Cond.instanceMethod yX11_want ∈ z_T), (z_T_in (List.mem_of_getElem? (i := 48) (by decide +kernel)) rfl : Cond.selects yX11_want.cls yX11_want yX11_want ∈ z_T), (z_T_in (List.mem_of_getElem? (i := 91) (by decide +kernel)) rfl : Cond.initialized yX11_want.cls ∈ z_T), ⟨by decide, by decide, by decide +kernel⟩⟩
set_option maxRecDepth 20000 in
theorem zk_M : z_ok layM nM 0 RX11 := ⟨by decide, _, _, _, _, rfl, rfl⟩
set_option maxRecDepth 20000 in
theorem zf_X11_45 : z_FL RX11 45 11 18 := ⟨RX11, TX11, 52, rfl, zin_X11, by decide, (z_T_in (List.mem_of_getElem? (i := 971) (by decide +kernel)) rfl : Cond.fieldLink RX11 45 "RunTogetherModel" "newWord" "[I" ∈ z_T)⟩
set_option maxRecDepth 20000 in
theorem zo_M_18 : z_fk layM nM 0 11 18 (2, 11) := ⟨by decide, _, rfl, rfl⟩
set_option maxRecDepth 20000 in
theorem zf_X11_48 : z_FL RX11 48 11 19 := ⟨RX11, TX11, 52, rfl, zin_X11, by decide, (z_T_in (List.mem_of_getElem? (i := 972) (by decide +kernel)) rfl : Cond.fieldLink RX11 48 "RunTogetherModel" "newSize" "[I" ∈ z_T)⟩
set_option maxRecDepth 20000 in
theorem zo_M_19 : z_fk layM nM 0 11 19 (2, 12) := ⟨by decide, _, rfl, rfl⟩
set_option maxRecDepth 20000 in
theorem za_M_12 : z_ak layM nM 12 0 17 := ⟨by decide, _, rfl⟩
set_option maxRecDepth 20000 in
theorem zcb_97 : (Int8.ofInt (97)).toInt32 = 97 := by decide
set_option maxRecDepth 20000 in
theorem za_M_11 : z_ak layM nM 11 0 136 := ⟨by decide, _, rfl⟩
set_option maxRecDepth 20000 in
theorem zci_5 : Int32.ofInt (5) = 5 := by decide
set_option maxRecDepth 20000 in
theorem zcb_16 : (Int8.ofInt (16)).toInt32 = 16 := by decide
set_option maxRecDepth 20000 in
theorem zc_X11_155 : z_CV RX11 155 yX11_here cX11_here 1 (some .int) 0 := ⟨(z_T_in (List.mem_of_getElem? (i := 1131) (by decide +kernel)) rfl : Cond.code yX11_here cX11_here 1 (some .int) ∈ z_T), (z_T_in (List.mem_of_getElem? (i := 1128) (by decide +kernel)) rfl : Cond.methodLink RX11 155 yX11_here ∈ z_T), (z_T_in (List.mem_of_getElem? (i := 1130) (by decide +kernel)) rfl : Cond.instanceMethod yX11_here ∈ z_T), (z_T_in (List.mem_of_getElem? (i := 45) (by decide +kernel)) rfl : Cond.selects yX11_here.cls yX11_here yX11_here ∈ z_T), (z_T_in (List.mem_of_getElem? (i := 91) (by decide +kernel)) rfl : Cond.initialized yX11_here.cls ∈ z_T), ⟨by decide, by decide, by decide +kernel⟩⟩
set_option maxRecDepth 20000 in
theorem zl_X11_159 : Cond.constantLong RX11 159 (97) ∈ z_T := z_T_in (List.mem_of_getElem? (i := 1140) (by decide +kernel)) rfl
set_option maxRecDepth 20000 in
theorem zl_X11_161 : Cond.constantLong RX11 161 (104) ∈ z_T := z_T_in (List.mem_of_getElem? (i := 1141) (by decide +kernel)) rfl
set_option maxRecDepth 20000 in
theorem zf_X11_124 : z_FL RX11 124 11 0 := ⟨RX11, TX11, 52, rfl, zin_X11, by decide, (z_T_in (List.mem_of_getElem? (i := 953) (by decide +kernel)) rfl : Cond.fieldLink RX11 124 "RunTogetherModel" "k" "I" ∈ z_T)⟩
set_option maxRecDepth 20000 in
theorem zl_X11_167 : Cond.constantLong RX11 167 (48) ∈ z_T := z_T_in (List.mem_of_getElem? (i := 1154) (by decide +kernel)) rfl
set_option maxRecDepth 20000 in
theorem zl_X11_169 : Cond.constantLong RX11 169 (57) ∈ z_T := z_T_in (List.mem_of_getElem? (i := 1155) (by decide +kernel)) rfl
set_option maxRecDepth 20000 in
theorem zcb_99 : (Int8.ofInt (99)).toInt32 = 99 := by decide
set_option maxRecDepth 20000 in
theorem zcb_10 : (Int8.ofInt (10)).toInt32 = 10 := by decide
set_option maxRecDepth 20000 in
theorem zcb_48 : (Int8.ofInt (48)).toInt32 = 48 := by decide
set_option maxRecDepth 20000 in
theorem zc_X11_174 : z_CV RX11 174 yX11_takeLetter cX11_takeLetter 3 (some .boolean) 1 := ⟨(z_T_in (List.mem_of_getElem? (i := 1139) (by decide +kernel)) rfl : Cond.code yX11_takeLetter cX11_takeLetter 3 (some .boolean) ∈ z_T), (z_T_in (List.mem_of_getElem? (i := 1136) (by decide +kernel)) rfl : Cond.methodLink RX11 174 yX11_takeLetter ∈ z_T), (z_T_in (List.mem_of_getElem? (i := 1138) (by decide +kernel)) rfl : Cond.instanceMethod yX11_takeLetter ∈ z_T), (z_T_in (List.mem_of_getElem? (i := 47) (by decide +kernel)) rfl : Cond.selects yX11_takeLetter.cls yX11_takeLetter yX11_takeLetter ∈ z_T), (z_T_in (List.mem_of_getElem? (i := 91) (by decide +kernel)) rfl : Cond.initialized yX11_takeLetter.cls ∈ z_T), ⟨by decide, by decide, by decide +kernel⟩⟩
set_option maxRecDepth 20000 in
theorem zci_4 : Int32.ofInt (4) = 4 := by decide
set_option maxRecDepth 20000 in
theorem zc_X11_178 : z_CV RX11 178 yX11_isNewLike cX11_isNewLike 5 (some .boolean) 2 := ⟨(z_T_in (List.mem_of_getElem? (i := 1149) (by decide +kernel)) rfl : Cond.code yX11_isNewLike cX11_isNewLike 5 (some .boolean) ∈ z_T), (z_T_in (List.mem_of_getElem? (i := 1146) (by decide +kernel)) rfl : Cond.methodLink RX11 178 yX11_isNewLike ∈ z_T), (z_T_in (List.mem_of_getElem? (i := 1148) (by decide +kernel)) rfl : Cond.instanceMethod yX11_isNewLike ∈ z_T), (z_T_in (List.mem_of_getElem? (i := 49) (by decide +kernel)) rfl : Cond.selects yX11_isNewLike.cls yX11_isNewLike yX11_isNewLike ∈ z_T), (z_T_in (List.mem_of_getElem? (i := 91) (by decide +kernel)) rfl : Cond.initialized yX11_isNewLike.cls ∈ z_T), ⟨by decide, by decide, by decide +kernel⟩⟩
set_option maxRecDepth 20000 in
theorem zf_X11_171 : z_FL RX11 171 11 22 := ⟨RX11, TX11, 52, rfl, zin_X11, by decide, (z_T_in (List.mem_of_getElem? (i := 975) (by decide +kernel)) rfl : Cond.fieldLink RX11 171 "RunTogetherModel" "newWords" "I" ∈ z_T)⟩
set_option maxRecDepth 20000 in
theorem zo_M_22 : z_fk layM nM 0 11 22 (0, 0) := ⟨by decide, _, rfl, rfl⟩
set_option maxRecDepth 20000 in
theorem zp_X11_171 : z_FP RX11 171 11 22 .int := ⟨RX11, TX11, 52, tyX11, rfl, zin_X11, by decide, (z_T_in (List.mem_of_getElem? (i := 975) (by decide +kernel)) rfl : Cond.fieldLink RX11 171 "RunTogetherModel" "newWords" "I" ∈ z_T), tyX11_ok, nmX11, rfl, by decide +kernel⟩
set_option maxRecDepth 20000 in
theorem zcb_59 : (Int8.ofInt (59)).toInt32 = 59 := by decide
set_option maxRecDepth 20000 in
theorem zcb_47 : (Int8.ofInt (47)).toInt32 = 47 := by decide
set_option maxRecDepth 20000 in
theorem zf_X11_54 : z_FL RX11 54 11 21 := ⟨RX11, TX11, 52, rfl, zin_X11, by decide, (z_T_in (List.mem_of_getElem? (i := 974) (by decide +kernel)) rfl : Cond.fieldLink RX11 54 "RunTogetherModel" "newKind" "[I" ∈ z_T)⟩
set_option maxRecDepth 20000 in
theorem zo_M_21 : z_fk layM nM 0 11 21 (2, 14) := ⟨by decide, _, rfl, rfl⟩
set_option maxRecDepth 20000 in
theorem za_M_14 : z_ak layM nM 14 0 17 := ⟨by decide, _, rfl⟩
set_option maxRecDepth 20000 in
theorem zcb_52 : (Int8.ofInt (52)).toInt32 = 52 := by decide
set_option maxRecDepth 20000 in
theorem zf_X11_51 : z_FL RX11 51 11 20 := ⟨RX11, TX11, 52, rfl, zin_X11, by decide, (z_T_in (List.mem_of_getElem? (i := 973) (by decide +kernel)) rfl : Cond.fieldLink RX11 51 "RunTogetherModel" "newCost" "[I" ∈ z_T)⟩
set_option maxRecDepth 20000 in
theorem zo_M_20 : z_fk layM nM 0 11 20 (2, 13) := ⟨by decide, _, rfl, rfl⟩
set_option maxRecDepth 20000 in
theorem za_M_13 : z_ak layM nM 13 0 17 := ⟨by decide, _, rfl⟩
set_option maxRecDepth 20000 in
theorem zcb_58 : (Int8.ofInt (58)).toInt32 = 58 := by decide
set_option maxRecDepth 20000 in
theorem zc_X11_182 : z_CV RX11 182 yX11_takeCost cX11_takeCost 5 (some .int) 0 := ⟨(z_T_in (List.mem_of_getElem? (i := 1153) (by decide +kernel)) rfl : Cond.code yX11_takeCost cX11_takeCost 5 (some .int) ∈ z_T), (z_T_in (List.mem_of_getElem? (i := 1150) (by decide +kernel)) rfl : Cond.methodLink RX11 182 yX11_takeCost ∈ z_T), (z_T_in (List.mem_of_getElem? (i := 1152) (by decide +kernel)) rfl : Cond.instanceMethod yX11_takeCost ∈ z_T), (z_T_in (List.mem_of_getElem? (i := 50) (by decide +kernel)) rfl : Cond.selects yX11_takeCost.cls yX11_takeCost yX11_takeCost ∈ z_T), (z_T_in (List.mem_of_getElem? (i := 91) (by decide +kernel)) rfl : Cond.initialized yX11_takeCost.cls ∈ z_T), ⟨by decide, by decide, by decide +kernel⟩⟩
set_option maxRecDepth 20000 in
theorem zc_X11_185 : z_CV RX11 185 yX11_readWord cX11_readWord 7 none 0 := ⟨(z_T_in (List.mem_of_getElem? (i := 1135) (by decide +kernel)) rfl : Cond.code yX11_readWord cX11_readWord 7 none ∈ z_T), (z_T_in (List.mem_of_getElem? (i := 1132) (by decide +kernel)) rfl : Cond.methodLink RX11 185 yX11_readWord ∈ z_T), (z_T_in (List.mem_of_getElem? (i := 1134) (by decide +kernel)) rfl : Cond.instanceMethod yX11_readWord ∈ z_T), (z_T_in (List.mem_of_getElem? (i := 46) (by decide +kernel)) rfl : Cond.selects yX11_readWord.cls yX11_readWord yX11_readWord ∈ z_T), (z_T_in (List.mem_of_getElem? (i := 91) (by decide +kernel)) rfl : Cond.initialized yX11_readWord.cls ∈ z_T), ⟨by decide, by decide, by decide +kernel⟩⟩
set_option maxRecDepth 20000 in
theorem zf_X11_13 : z_FL RX11 13 11 3 := ⟨RX11, TX11, 52, rfl, zin_X11, by decide, (z_T_in (List.mem_of_getElem? (i := 956) (by decide +kernel)) rfl : Cond.fieldLink RX11 13 "RunTogetherModel" "size" "[I" ∈ z_T)⟩
set_option maxRecDepth 20000 in
theorem zo_M_3 : z_fk layM nM 0 11 3 (2, 2) := ⟨by decide, _, rfl, rfl⟩
set_option maxRecDepth 20000 in
theorem za_M_2 : z_ak layM nM 2 0 17 := ⟨by decide, _, rfl⟩
set_option maxRecDepth 20000 in
theorem zf_X11_7 : z_FL RX11 7 11 2 := ⟨RX11, TX11, 52, rfl, zin_X11, by decide, (z_T_in (List.mem_of_getElem? (i := 955) (by decide +kernel)) rfl : Cond.fieldLink RX11 7 "RunTogetherModel" "word" "[I" ∈ z_T)⟩
set_option maxRecDepth 20000 in
theorem zo_M_2 : z_fk layM nM 0 11 2 (2, 1) := ⟨by decide, _, rfl, rfl⟩
set_option maxRecDepth 20000 in
theorem za_M_1 : z_ak layM nM 1 0 136 := ⟨by decide, _, rfl⟩
set_option maxRecDepth 20000 in
theorem zf_X11_135 : z_FL RX11 135 11 1 := ⟨RX11, TX11, 52, rfl, zin_X11, by decide, (z_T_in (List.mem_of_getElem? (i := 954) (by decide +kernel)) rfl : Cond.fieldLink RX11 135 "RunTogetherModel" "words" "I" ∈ z_T)⟩
set_option maxRecDepth 20000 in
theorem zf_X11_16 : z_FL RX11 16 11 4 := ⟨RX11, TX11, 52, rfl, zin_X11, by decide, (z_T_in (List.mem_of_getElem? (i := 957) (by decide +kernel)) rfl : Cond.fieldLink RX11 16 "RunTogetherModel" "cost" "[I" ∈ z_T)⟩
set_option maxRecDepth 20000 in
theorem zo_M_4 : z_fk layM nM 0 11 4 (2, 3) := ⟨by decide, _, rfl, rfl⟩
set_option maxRecDepth 20000 in
theorem za_M_3 : z_ak layM nM 3 0 17 := ⟨by decide, _, rfl⟩
set_option maxRecDepth 20000 in
theorem zf_X11_19 : z_FL RX11 19 11 5 := ⟨RX11, TX11, 52, rfl, zin_X11, by decide, (z_T_in (List.mem_of_getElem? (i := 958) (by decide +kernel)) rfl : Cond.fieldLink RX11 19 "RunTogetherModel" "kind" "[I" ∈ z_T)⟩
set_option maxRecDepth 20000 in
theorem zo_M_5 : z_fk layM nM 0 11 5 (2, 4) := ⟨by decide, _, rfl, rfl⟩
set_option maxRecDepth 20000 in
theorem za_M_4 : z_ak layM nM 4 0 17 := ⟨by decide, _, rfl⟩
set_option maxRecDepth 20000 in
theorem zcb_m10 : (Int8.ofInt (-10)).toInt32 = -10 := by decide
set_option maxRecDepth 20000 in
theorem zf_X0_33 : z_FL RX0 33 0 4 := ⟨RX0, TX0, 6, rfl, zin_X0, by decide, (z_T_in (List.mem_of_getElem? (i := 213) (by decide +kernel)) rfl : Cond.fieldLink RX0 33 "RunTogether$Clauses" "at" "I" ∈ z_T)⟩
set_option maxRecDepth 20000 in
theorem zo_X_13_4 (kn : Bool) : z_fk (layX kn) (nX kn) 13 0 4 (0, 0) := ⟨by cases kn <;> decide, _, rfl, rfl⟩
set_option maxRecDepth 20000 in
theorem zf_X0_22 : z_FL RX0 22 0 2 := ⟨RX0, TX0, 6, rfl, zin_X0, by decide, (z_T_in (List.mem_of_getElem? (i := 211) (by decide +kernel)) rfl : Cond.fieldLink RX0 22 "RunTogether$Clauses" "text" "LRunTogether$Row;" ∈ z_T)⟩
set_option maxRecDepth 20000 in
theorem zo_X_13_2 (kn : Bool) : z_fk (layX kn) (nX kn) 13 0 2 (2, 9) := ⟨by cases kn <;> decide, _, rfl, rfl⟩
set_option maxRecDepth 20000 in
theorem zf_X0_39 : z_FL RX0 39 6 1 := ⟨RX6, TX6, 2, rfl, zin_X6, by decide, (z_T_in (List.mem_of_getElem? (i := 190) (by decide +kernel)) rfl : Cond.fieldLink RX0 39 "RunTogether$Row" "size" "I" ∈ z_T)⟩
set_option maxRecDepth 20000 in
theorem zf_X0_106 : z_FL RX0 106 6 0 := ⟨RX6, TX6, 2, rfl, zin_X6, by decide, (z_T_in (List.mem_of_getElem? (i := 186) (by decide +kernel)) rfl : Cond.fieldLink RX0 106 "RunTogether$Row" "cells" "[I" ∈ z_T)⟩
set_option maxRecDepth 20000 in
theorem zc_X0_55 : z_CV RX0 55 yX0_here cX0_here 1 (some .int) 0 := ⟨(z_T_in (List.mem_of_getElem? (i := 442) (by decide +kernel)) rfl : Cond.code yX0_here cX0_here 1 (some .int) ∈ z_T), (z_T_in (List.mem_of_getElem? (i := 439) (by decide +kernel)) rfl : Cond.methodLink RX0 55 yX0_here ∈ z_T), (z_T_in (List.mem_of_getElem? (i := 441) (by decide +kernel)) rfl : Cond.instanceMethod yX0_here ∈ z_T), (z_T_in (List.mem_of_getElem? (i := 2) (by decide +kernel)) rfl : Cond.selects yX0_here.cls yX0_here yX0_here ∈ z_T), (z_T_in (List.mem_of_getElem? (i := 86) (by decide +kernel)) rfl : Cond.initialized yX0_here.cls ∈ z_T), ⟨by decide, by decide, by decide +kernel⟩⟩
set_option maxRecDepth 20000 in
theorem zk_X_13 (kn : Bool) : z_ok (layX kn) (nX kn) 13 RX0 := ⟨by cases kn <;> decide, _, _, _, _, rfl, rfl⟩
set_option maxRecDepth 20000 in
theorem zp_X0_33 : z_FP RX0 33 0 4 .int := ⟨RX0, TX0, 6, tyX0, rfl, zin_X0, by decide, (z_T_in (List.mem_of_getElem? (i := 213) (by decide +kernel)) rfl : Cond.fieldLink RX0 33 "RunTogether$Clauses" "at" "I" ∈ z_T), tyX0_ok, nmX0, rfl, by decide +kernel⟩
set_option maxRecDepth 20000 in
theorem zcb_104 : (Int8.ofInt (104)).toInt32 = 104 := by decide
set_option maxRecDepth 20000 in
theorem zp_X0_18 : z_FP RX0 18 0 1 .int := ⟨RX0, TX0, 6, tyX0, rfl, zin_X0, by decide, (z_T_in (List.mem_of_getElem? (i := 209) (by decide +kernel)) rfl : Cond.fieldLink RX0 18 "RunTogether$Clauses" "faultAt" "I" ∈ z_T), tyX0_ok, nmX0, rfl, by decide +kernel⟩
set_option maxRecDepth 20000 in
theorem zo_X_13_1 (kn : Bool) : z_fk (layX kn) (nX kn) 13 0 1 (0, 0) := ⟨by cases kn <;> decide, _, rfl, rfl⟩
set_option maxRecDepth 20000 in
theorem zf_X9_9 : z_FL RX9 9 9 1 := ⟨RX9, TX9, 5, rfl, zin_X9, by decide, (z_T_in (List.mem_of_getElem? (i := 140) (by decide +kernel)) rfl : Cond.fieldLink RX9 9 "RunTogether$Words" "signs" "[I" ∈ z_T)⟩
set_option maxRecDepth 20000 in
theorem zo_X_14_1 (kn : Bool) : z_fk (layX kn) (nX kn) 14 9 1 (2, 15) := ⟨by cases kn <;> decide, _, rfl, rfl⟩
set_option maxRecDepth 20000 in
theorem za_X_15 (kn : Bool) : z_ak (layX kn) (nX kn) 15 0 128 := ⟨by cases kn <;> decide, _, rfl⟩
set_option maxRecDepth 20000 in
theorem zc_X9_32 : z_CV RX9 32 yX9_sign cX9_sign 3 (some .int) 2 := ⟨(z_T_in (List.mem_of_getElem? (i := 473) (by decide +kernel)) rfl : Cond.code yX9_sign cX9_sign 3 (some .int) ∈ z_T), (z_T_in (List.mem_of_getElem? (i := 470) (by decide +kernel)) rfl : Cond.methodLink RX9 32 yX9_sign ∈ z_T), (z_T_in (List.mem_of_getElem? (i := 471) (by decide +kernel)) rfl : Cond.instanceMethod yX9_sign ∈ z_T), (z_T_in (List.mem_of_getElem? (i := 472) (by decide +kernel)) rfl : Cond.selects yX9_sign.cls yX9_sign yX9_sign ∈ z_T), (z_T_in (List.mem_of_getElem? (i := 83) (by decide +kernel)) rfl : Cond.initialized yX9_sign.cls ∈ z_T), ⟨by decide, by decide, by decide +kernel⟩⟩
set_option maxRecDepth 20000 in
theorem zk_X_14 (kn : Bool) : z_ok (layX kn) (nX kn) 14 RX9 := ⟨by cases kn <;> decide, _, _, _, _, rfl, rfl⟩
set_option maxRecDepth 20000 in
theorem zf_X9_15 : z_FL RX9 15 9 2 := ⟨RX9, TX9, 5, rfl, zin_X9, by decide, (z_T_in (List.mem_of_getElem? (i := 143) (by decide +kernel)) rfl : Cond.fieldLink RX9 15 "RunTogether$Words" "lengths" "[I" ∈ z_T)⟩
set_option maxRecDepth 20000 in
theorem zo_X_14_2 (kn : Bool) : z_fk (layX kn) (nX kn) 14 9 2 (2, 16) := ⟨by cases kn <;> decide, _, rfl, rfl⟩
set_option maxRecDepth 20000 in
theorem za_X_16 (kn : Bool) : z_ak (layX kn) (nX kn) 16 0 16 := ⟨by cases kn <;> decide, _, rfl⟩
set_option maxRecDepth 20000 in
theorem zc_X9_28 : z_CV RX9 28 yX9_liesAt cX9_liesAt 9 (some .boolean) 4 := ⟨(z_T_in (List.mem_of_getElem? (i := 469) (by decide +kernel)) rfl : Cond.code yX9_liesAt cX9_liesAt 9 (some .boolean) ∈ z_T), (z_T_in (List.mem_of_getElem? (i := 466) (by decide +kernel)) rfl : Cond.methodLink RX9 28 yX9_liesAt ∈ z_T), (z_T_in (List.mem_of_getElem? (i := 467) (by decide +kernel)) rfl : Cond.instanceMethod yX9_liesAt ∈ z_T), (z_T_in (List.mem_of_getElem? (i := 468) (by decide +kernel)) rfl : Cond.selects yX9_liesAt.cls yX9_liesAt yX9_liesAt ∈ z_T), (z_T_in (List.mem_of_getElem? (i := 83) (by decide +kernel)) rfl : Cond.initialized yX9_liesAt.cls ∈ z_T), ⟨by decide, by decide, by decide +kernel⟩⟩
set_option maxRecDepth 20000 in
theorem zf_X0_12 : z_FL RX0 12 0 0 := ⟨RX0, TX0, 6, rfl, zin_X0, by decide, (z_T_in (List.mem_of_getElem? (i := 207) (by decide +kernel)) rfl : Cond.fieldLink RX0 12 "RunTogether$Clauses" "told" "LRunTogether$Words;" ∈ z_T)⟩
set_option maxRecDepth 20000 in
theorem zo_X_13_0 (kn : Bool) : z_fk (layX kn) (nX kn) 13 0 0 (2, 14) := ⟨by cases kn <;> decide, _, rfl, rfl⟩
set_option maxRecDepth 20000 in
theorem zc_X0_87 : z_CV RX0 87 yX9_isAlike cX9_isAlike 3 (some .boolean) 2 := ⟨(z_T_in (List.mem_of_getElem? (i := 465) (by decide +kernel)) rfl : Cond.code yX9_isAlike cX9_isAlike 3 (some .boolean) ∈ z_T), (z_T_in (List.mem_of_getElem? (i := 462) (by decide +kernel)) rfl : Cond.methodLink RX0 87 yX9_isAlike ∈ z_T), (z_T_in (List.mem_of_getElem? (i := 463) (by decide +kernel)) rfl : Cond.instanceMethod yX9_isAlike ∈ z_T), (z_T_in (List.mem_of_getElem? (i := 464) (by decide +kernel)) rfl : Cond.selects yX9_isAlike.cls yX9_isAlike yX9_isAlike ∈ z_T), (z_T_in (List.mem_of_getElem? (i := 83) (by decide +kernel)) rfl : Cond.initialized yX9_isAlike.cls ∈ z_T), ⟨by decide, by decide, by decide +kernel⟩⟩
set_option maxRecDepth 20000 in
theorem zc_X0_62 : z_CS RX0 62 yX0_isLetter cX0_isLetter 1 (some .boolean) 1 := ⟨(z_T_in (List.mem_of_getElem? (i := 453) (by decide +kernel)) rfl : Cond.code yX0_isLetter cX0_isLetter 1 (some .boolean) ∈ z_T), (z_T_in (List.mem_of_getElem? (i := 451) (by decide +kernel)) rfl : Cond.methodLink RX0 62 yX0_isLetter ∈ z_T), (z_T_in (List.mem_of_getElem? (i := 452) (by decide +kernel)) rfl : Cond.static yX0_isLetter ∈ z_T), (z_T_in (List.mem_of_getElem? (i := 86) (by decide +kernel)) rfl : Cond.initialized yX0_isLetter.cls ∈ z_T), ⟨by decide, by decide, by decide +kernel⟩⟩
set_option maxRecDepth 20000 in
theorem zf_X0_26 : z_FL RX0 26 0 3 := ⟨RX0, TX0, 6, rfl, zin_X0, by decide, (z_T_in (List.mem_of_getElem? (i := 212) (by decide +kernel)) rfl : Cond.fieldLink RX0 26 "RunTogether$Clauses" "rules" "LRunTogether$Rules;" ∈ z_T)⟩
set_option maxRecDepth 20000 in
theorem zo_X_13_3 (kn : Bool) : z_fk (layX kn) (nX kn) 13 0 3 (2, 1) := ⟨by cases kn <;> decide, _, rfl, rfl⟩
set_option maxRecDepth 20000 in
theorem zf_X0_66 : z_FL RX0 66 7 0 := ⟨RX7, TX7, 3, rfl, zin_X7, by decide, (z_T_in (List.mem_of_getElem? (i := 111) (by decide +kernel)) rfl : Cond.fieldLink RX0 66 "RunTogether$Rules" "letters" "I" ∈ z_T)⟩
set_option maxRecDepth 20000 in
theorem zf_X0_71 : z_FL RX0 71 9 1 := ⟨RX9, TX9, 5, rfl, zin_X9, by decide, (z_T_in (List.mem_of_getElem? (i := 141) (by decide +kernel)) rfl : Cond.fieldLink RX0 71 "RunTogether$Words" "signs" "[I" ∈ z_T)⟩
set_option maxRecDepth 20000 in
theorem zc_X0_36 : z_CV RX0 36 yX0_skipBlanks cX0_skipBlanks 1 none 0 := ⟨(z_T_in (List.mem_of_getElem? (i := 438) (by decide +kernel)) rfl : Cond.code yX0_skipBlanks cX0_skipBlanks 1 none ∈ z_T), (z_T_in (List.mem_of_getElem? (i := 435) (by decide +kernel)) rfl : Cond.methodLink RX0 36 yX0_skipBlanks ∈ z_T), (z_T_in (List.mem_of_getElem? (i := 437) (by decide +kernel)) rfl : Cond.instanceMethod yX0_skipBlanks ∈ z_T), (z_T_in (List.mem_of_getElem? (i := 1) (by decide +kernel)) rfl : Cond.selects yX0_skipBlanks.cls yX0_skipBlanks yX0_skipBlanks ∈ z_T), (z_T_in (List.mem_of_getElem? (i := 86) (by decide +kernel)) rfl : Cond.initialized yX0_skipBlanks.cls ∈ z_T), ⟨by decide, by decide, by decide +kernel⟩⟩
set_option maxRecDepth 20000 in
theorem zc_X0_58 : z_CV RX0 58 yX0_blame cX0_blame 3 (some .int) 2 := ⟨(z_T_in (List.mem_of_getElem? (i := 457) (by decide +kernel)) rfl : Cond.code yX0_blame cX0_blame 3 (some .int) ∈ z_T), (z_T_in (List.mem_of_getElem? (i := 454) (by decide +kernel)) rfl : Cond.methodLink RX0 58 yX0_blame ∈ z_T), (z_T_in (List.mem_of_getElem? (i := 456) (by decide +kernel)) rfl : Cond.instanceMethod yX0_blame ∈ z_T), (z_T_in (List.mem_of_getElem? (i := 5) (by decide +kernel)) rfl : Cond.selects yX0_blame.cls yX0_blame yX0_blame ∈ z_T), (z_T_in (List.mem_of_getElem? (i := 86) (by decide +kernel)) rfl : Cond.initialized yX0_blame.cls ∈ z_T), ⟨by decide, by decide, by decide +kernel⟩⟩
set_option maxRecDepth 20000 in
theorem zf_X0_30 : z_FL RX0 30 9 0 := ⟨RX9, TX9, 5, rfl, zin_X9, by decide, (z_T_in (List.mem_of_getElem? (i := 135) (by decide +kernel)) rfl : Cond.fieldLink RX0 30 "RunTogether$Words" "size" "I" ∈ z_T)⟩
set_option maxRecDepth 20000 in
theorem zo_X_14_0 (kn : Bool) : z_fk (layX kn) (nX kn) 14 9 0 (0, 0) := ⟨by cases kn <;> decide, _, rfl, rfl⟩
set_option maxRecDepth 20000 in
theorem zf_X0_75 : z_FL RX0 75 9 2 := ⟨RX9, TX9, 5, rfl, zin_X9, by decide, (z_T_in (List.mem_of_getElem? (i := 146) (by decide +kernel)) rfl : Cond.fieldLink RX0 75 "RunTogether$Words" "lengths" "[I" ∈ z_T)⟩
set_option maxRecDepth 20000 in
theorem zf_X0_78 : z_FL RX0 78 9 3 := ⟨RX9, TX9, 5, rfl, zin_X9, by decide, (z_T_in (List.mem_of_getElem? (i := 152) (by decide +kernel)) rfl : Cond.fieldLink RX0 78 "RunTogether$Words" "costs" "[I" ∈ z_T)⟩
set_option maxRecDepth 20000 in
theorem zo_X_14_3 (kn : Bool) : z_fk (layX kn) (nX kn) 14 9 3 (2, 17) := ⟨by cases kn <;> decide, _, rfl, rfl⟩
set_option maxRecDepth 20000 in
theorem za_X_17 (kn : Bool) : z_ak (layX kn) (nX kn) 17 0 16 := ⟨by cases kn <;> decide, _, rfl⟩
set_option maxRecDepth 20000 in
theorem zf_X0_81 : z_FL RX0 81 9 4 := ⟨RX9, TX9, 5, rfl, zin_X9, by decide, (z_T_in (List.mem_of_getElem? (i := 159) (by decide +kernel)) rfl : Cond.fieldLink RX0 81 "RunTogether$Words" "kinds" "[I" ∈ z_T)⟩
set_option maxRecDepth 20000 in
theorem zo_X_14_4 (kn : Bool) : z_fk (layX kn) (nX kn) 14 9 4 (2, 18) := ⟨by cases kn <;> decide, _, rfl, rfl⟩
set_option maxRecDepth 20000 in
theorem za_X_18 (kn : Bool) : z_ak (layX kn) (nX kn) 18 0 16 := ⟨by cases kn <;> decide, _, rfl⟩
set_option maxRecDepth 20000 in
theorem zc_X0_84 : z_CV RX0 84 yX0_isToldAgain cX0_isToldAgain 3 (some .boolean) 1 := ⟨(z_T_in (List.mem_of_getElem? (i := 461) (by decide +kernel)) rfl : Cond.code yX0_isToldAgain cX0_isToldAgain 3 (some .boolean) ∈ z_T), (z_T_in (List.mem_of_getElem? (i := 458) (by decide +kernel)) rfl : Cond.methodLink RX0 84 yX0_isToldAgain ∈ z_T), (z_T_in (List.mem_of_getElem? (i := 460) (by decide +kernel)) rfl : Cond.instanceMethod yX0_isToldAgain ∈ z_T), (z_T_in (List.mem_of_getElem? (i := 6) (by decide +kernel)) rfl : Cond.selects yX0_isToldAgain.cls yX0_isToldAgain yX0_isToldAgain ∈ z_T), (z_T_in (List.mem_of_getElem? (i := 86) (by decide +kernel)) rfl : Cond.initialized yX0_isToldAgain.cls ∈ z_T), ⟨by decide, by decide, by decide +kernel⟩⟩
set_option maxRecDepth 20000 in
theorem zcb_57 : (Int8.ofInt (57)).toInt32 = 57 := by decide
set_option maxRecDepth 20000 in
theorem zc_X0_98 : z_CS RX0 98 yX0_isFigure cX0_isFigure 1 (some .boolean) 1 := ⟨(z_T_in (List.mem_of_getElem? (i := 484) (by decide +kernel)) rfl : Cond.code yX0_isFigure cX0_isFigure 1 (some .boolean) ∈ z_T), (z_T_in (List.mem_of_getElem? (i := 482) (by decide +kernel)) rfl : Cond.methodLink RX0 98 yX0_isFigure ∈ z_T), (z_T_in (List.mem_of_getElem? (i := 483) (by decide +kernel)) rfl : Cond.static yX0_isFigure ∈ z_T), (z_T_in (List.mem_of_getElem? (i := 86) (by decide +kernel)) rfl : Cond.initialized yX0_isFigure.cls ∈ z_T), ⟨by decide, by decide, by decide +kernel⟩⟩
set_option maxRecDepth 20000 in
theorem zcb_100 : (Int8.ofInt (100)).toInt32 = 100 := by decide
set_option maxRecDepth 20000 in
theorem zm_X0_101 : Cond.methodLink RX0 101 Lib.Math.min.name ∈ z_T := z_T_in (List.mem_of_getElem? (i := 485) (by decide +kernel)) rfl
set_option maxRecDepth 20000 in
theorem zms_i : Cond.static Lib.Math.min.name ∈ z_T := z_T_in (List.mem_of_getElem? (i := 486) (by decide +kernel)) rfl
set_option maxRecDepth 20000 in
theorem zmi : Cond.initialized "java/lang/Math" ∈ z_T := z_T_in (List.mem_of_getElem? (i := 85) (by decide +kernel)) rfl
set_option maxRecDepth 20000 in
theorem zmc_i : Cond.code Lib.Math.min.name Lib.Math.min.code 2 (some .int) ∈ z_T := z_T_in (List.mem_of_getElem? (i := 487) (by decide +kernel)) rfl
set_option maxRecDepth 20000 in
theorem zp_X0_95 : z_FP RX0 95 0 5 .int := ⟨RX0, TX0, 6, tyX0, rfl, zin_X0, by decide, (z_T_in (List.mem_of_getElem? (i := 214) (by decide +kernel)) rfl : Cond.fieldLink RX0 95 "RunTogether$Clauses" "figured" "I" ∈ z_T), tyX0_ok, nmX0, rfl, by decide +kernel⟩
set_option maxRecDepth 20000 in
theorem zo_X_13_5 (kn : Bool) : z_fk (layX kn) (nX kn) 13 0 5 (0, 0) := ⟨by cases kn <;> decide, _, rfl, rfl⟩
set_option maxRecDepth 20000 in
theorem zc_X0_91 : z_CV RX0 91 yX0_parseNumber cX0_parseNumber 6 (some .int) 3 := ⟨(z_T_in (List.mem_of_getElem? (i := 481) (by decide +kernel)) rfl : Cond.code yX0_parseNumber cX0_parseNumber 6 (some .int) ∈ z_T), (z_T_in (List.mem_of_getElem? (i := 478) (by decide +kernel)) rfl : Cond.methodLink RX0 91 yX0_parseNumber ∈ z_T), (z_T_in (List.mem_of_getElem? (i := 480) (by decide +kernel)) rfl : Cond.instanceMethod yX0_parseNumber ∈ z_T), (z_T_in (List.mem_of_getElem? (i := 8) (by decide +kernel)) rfl : Cond.selects yX0_parseNumber.cls yX0_parseNumber yX0_parseNumber ∈ z_T), (z_T_in (List.mem_of_getElem? (i := 86) (by decide +kernel)) rfl : Cond.initialized yX0_parseNumber.cls ∈ z_T), ⟨by decide, by decide, by decide +kernel⟩⟩
set_option maxRecDepth 20000 in
theorem zf_X0_95 : z_FL RX0 95 0 5 := ⟨RX0, TX0, 6, rfl, zin_X0, by decide, (z_T_in (List.mem_of_getElem? (i := 214) (by decide +kernel)) rfl : Cond.fieldLink RX0 95 "RunTogether$Clauses" "figured" "I" ∈ z_T)⟩
set_option maxRecDepth 20000 in
theorem zp_X0_30 : z_FP RX0 30 9 0 .int := ⟨RX9, TX9, 5, tyX9, rfl, zin_X9, by decide, (z_T_in (List.mem_of_getElem? (i := 135) (by decide +kernel)) rfl : Cond.fieldLink RX0 30 "RunTogether$Words" "size" "I" ∈ z_T), tyX9_ok, nmX9, rfl, by decide +kernel⟩
set_option maxRecDepth 20000 in
theorem zc_X0_52 : z_CV RX0 52 yX0_parseKind cX0_parseKind 2 (some .int) 0 := ⟨(z_T_in (List.mem_of_getElem? (i := 491) (by decide +kernel)) rfl : Cond.code yX0_parseKind cX0_parseKind 2 (some .int) ∈ z_T), (z_T_in (List.mem_of_getElem? (i := 488) (by decide +kernel)) rfl : Cond.methodLink RX0 52 yX0_parseKind ∈ z_T), (z_T_in (List.mem_of_getElem? (i := 490) (by decide +kernel)) rfl : Cond.instanceMethod yX0_parseKind ∈ z_T), (z_T_in (List.mem_of_getElem? (i := 9) (by decide +kernel)) rfl : Cond.selects yX0_parseKind.cls yX0_parseKind yX0_parseKind ∈ z_T), (z_T_in (List.mem_of_getElem? (i := 86) (by decide +kernel)) rfl : Cond.initialized yX0_parseKind.cls ∈ z_T), ⟨by decide, by decide, by decide +kernel⟩⟩
set_option maxRecDepth 20000 in
theorem zc_X0_46 : z_CV RX0 46 yX0_parseLetters cX0_parseLetters 5 (some .int) 0 := ⟨(z_T_in (List.mem_of_getElem? (i := 450) (by decide +kernel)) rfl : Cond.code yX0_parseLetters cX0_parseLetters 5 (some .int) ∈ z_T), (z_T_in (List.mem_of_getElem? (i := 447) (by decide +kernel)) rfl : Cond.methodLink RX0 46 yX0_parseLetters ∈ z_T), (z_T_in (List.mem_of_getElem? (i := 449) (by decide +kernel)) rfl : Cond.instanceMethod yX0_parseLetters ∈ z_T), (z_T_in (List.mem_of_getElem? (i := 4) (by decide +kernel)) rfl : Cond.selects yX0_parseLetters.cls yX0_parseLetters yX0_parseLetters ∈ z_T), (z_T_in (List.mem_of_getElem? (i := 86) (by decide +kernel)) rfl : Cond.initialized yX0_parseLetters.cls ∈ z_T), ⟨by decide, by decide, by decide +kernel⟩⟩
set_option maxRecDepth 20000 in
theorem zc_X0_49 : z_CV RX0 49 yX0_parseCost cX0_parseCost 2 (some .int) 0 := ⟨(z_T_in (List.mem_of_getElem? (i := 477) (by decide +kernel)) rfl : Cond.code yX0_parseCost cX0_parseCost 2 (some .int) ∈ z_T), (z_T_in (List.mem_of_getElem? (i := 474) (by decide +kernel)) rfl : Cond.methodLink RX0 49 yX0_parseCost ∈ z_T), (z_T_in (List.mem_of_getElem? (i := 476) (by decide +kernel)) rfl : Cond.instanceMethod yX0_parseCost ∈ z_T), (z_T_in (List.mem_of_getElem? (i := 7) (by decide +kernel)) rfl : Cond.selects yX0_parseCost.cls yX0_parseCost yX0_parseCost ∈ z_T), (z_T_in (List.mem_of_getElem? (i := 86) (by decide +kernel)) rfl : Cond.initialized yX0_parseCost.cls ∈ z_T), ⟨by decide, by decide, by decide +kernel⟩⟩
set_option maxRecDepth 20000 in
theorem zc_X0_42 : z_CV RX0 42 yX0_parseClause cX0_parseClause 2 (some .int) 0 := ⟨(z_T_in (List.mem_of_getElem? (i := 446) (by decide +kernel)) rfl : Cond.code yX0_parseClause cX0_parseClause 2 (some .int) ∈ z_T), (z_T_in (List.mem_of_getElem? (i := 443) (by decide +kernel)) rfl : Cond.methodLink RX0 42 yX0_parseClause ∈ z_T), (z_T_in (List.mem_of_getElem? (i := 445) (by decide +kernel)) rfl : Cond.instanceMethod yX0_parseClause ∈ z_T), (z_T_in (List.mem_of_getElem? (i := 3) (by decide +kernel)) rfl : Cond.selects yX0_parseClause.cls yX0_parseClause yX0_parseClause ∈ z_T), (z_T_in (List.mem_of_getElem? (i := 86) (by decide +kernel)) rfl : Cond.initialized yX0_parseClause.cls ∈ z_T), ⟨by decide, by decide, by decide +kernel⟩⟩
set_option maxRecDepth 20000 in
theorem zf_X9_24 : z_FL RX9 24 9 0 := ⟨RX9, TX9, 5, rfl, zin_X9, by decide, (z_T_in (List.mem_of_getElem? (i := 133) (by decide +kernel)) rfl : Cond.fieldLink RX9 24 "RunTogether$Words" "size" "I" ∈ z_T)⟩
set_option maxRecDepth 20000 in
theorem zo_X_4_2 (kn : Bool) : z_fk (layX kn) (nX kn) 4 9 2 (2, 6) := ⟨by cases kn <;> decide, _, rfl, rfl⟩
set_option maxRecDepth 20000 in
theorem za_X_6 (kn : Bool) : z_ak (layX kn) (nX kn) 6 0 16 := ⟨by cases kn <;> decide, _, rfl⟩
set_option maxRecDepth 20000 in
theorem zf_X9_18 : z_FL RX9 18 9 3 := ⟨RX9, TX9, 5, rfl, zin_X9, by decide, (z_T_in (List.mem_of_getElem? (i := 150) (by decide +kernel)) rfl : Cond.fieldLink RX9 18 "RunTogether$Words" "costs" "[I" ∈ z_T)⟩
set_option maxRecDepth 20000 in
theorem zo_X_4_3 (kn : Bool) : z_fk (layX kn) (nX kn) 4 9 3 (2, 7) := ⟨by cases kn <;> decide, _, rfl, rfl⟩
set_option maxRecDepth 20000 in
theorem za_X_7 (kn : Bool) : z_ak (layX kn) (nX kn) 7 0 16 := ⟨by cases kn <;> decide, _, rfl⟩
set_option maxRecDepth 20000 in
theorem zf_X9_21 : z_FL RX9 21 9 4 := ⟨RX9, TX9, 5, rfl, zin_X9, by decide, (z_T_in (List.mem_of_getElem? (i := 156) (by decide +kernel)) rfl : Cond.fieldLink RX9 21 "RunTogether$Words" "kinds" "[I" ∈ z_T)⟩
set_option maxRecDepth 20000 in
theorem zo_X_4_4 (kn : Bool) : z_fk (layX kn) (nX kn) 4 9 4 (2, 8) := ⟨by cases kn <;> decide, _, rfl, rfl⟩
set_option maxRecDepth 20000 in
theorem za_X_8 (kn : Bool) : z_ak (layX kn) (nX kn) 8 0 16 := ⟨by cases kn <;> decide, _, rfl⟩
set_option maxRecDepth 20000 in
theorem zo_X_4_1 (kn : Bool) : z_fk (layX kn) (nX kn) 4 9 1 (2, 5) := ⟨by cases kn <;> decide, _, rfl, rfl⟩
set_option maxRecDepth 20000 in
theorem za_X_5 (kn : Bool) : z_ak (layX kn) (nX kn) 5 0 128 := ⟨by cases kn <;> decide, _, rfl⟩
set_option maxRecDepth 20000 in
theorem zp_X9_24 : z_FP RX9 24 9 0 .int := ⟨RX9, TX9, 5, tyX9, rfl, zin_X9, by decide, (z_T_in (List.mem_of_getElem? (i := 133) (by decide +kernel)) rfl : Cond.fieldLink RX9 24 "RunTogether$Words" "size" "I" ∈ z_T), tyX9_ok, nmX9, rfl, by decide +kernel⟩
set_option maxRecDepth 20000 in
theorem zf_X10_40 : z_FL RX10 40 10 4 := ⟨RX10, TX10, 12, rfl, zin_X10, by decide, (z_T_in (List.mem_of_getElem? (i := 378) (by decide +kernel)) rfl : Cond.fieldLink RX10 40 "RunTogether" "clauses" "LRunTogether$Clauses;" ∈ z_T)⟩
set_option maxRecDepth 20000 in
theorem zo_X_0_4 (kn : Bool) : z_fk (layX kn) (nX kn) 0 10 4 (2, 13) := ⟨by cases kn <;> decide, _, rfl, rfl⟩
set_option maxRecDepth 20000 in
theorem zc_X10_100 : z_CV RX10 100 yX0_parse cX0_parse 3 (some .int) 0 := ⟨(z_T_in (List.mem_of_getElem? (i := 434) (by decide +kernel)) rfl : Cond.code yX0_parse cX0_parse 3 (some .int) ∈ z_T), (z_T_in (List.mem_of_getElem? (i := 431) (by decide +kernel)) rfl : Cond.methodLink RX10 100 yX0_parse ∈ z_T), (z_T_in (List.mem_of_getElem? (i := 432) (by decide +kernel)) rfl : Cond.instanceMethod yX0_parse ∈ z_T), (z_T_in (List.mem_of_getElem? (i := 433) (by decide +kernel)) rfl : Cond.selects yX0_parse.cls yX0_parse yX0_parse ∈ z_T), (z_T_in (List.mem_of_getElem? (i := 86) (by decide +kernel)) rfl : Cond.initialized yX0_parse.cls ∈ z_T), ⟨by decide, by decide, by decide +kernel⟩⟩
set_option maxRecDepth 20000 in
theorem zf_X10_104 : z_FL RX10 104 0 0 := ⟨RX0, TX0, 6, rfl, zin_X0, by decide, (z_T_in (List.mem_of_getElem? (i := 208) (by decide +kernel)) rfl : Cond.fieldLink RX10 104 "RunTogether$Clauses" "told" "LRunTogether$Words;" ∈ z_T)⟩
set_option maxRecDepth 20000 in
theorem zc_X10_107 : z_CV RX10 107 yX9_become cX9_become 3 none 1 := ⟨(z_T_in (List.mem_of_getElem? (i := 495) (by decide +kernel)) rfl : Cond.code yX9_become cX9_become 3 none ∈ z_T), (z_T_in (List.mem_of_getElem? (i := 492) (by decide +kernel)) rfl : Cond.methodLink RX10 107 yX9_become ∈ z_T), (z_T_in (List.mem_of_getElem? (i := 493) (by decide +kernel)) rfl : Cond.instanceMethod yX9_become ∈ z_T), (z_T_in (List.mem_of_getElem? (i := 494) (by decide +kernel)) rfl : Cond.selects yX9_become.cls yX9_become yX9_become ∈ z_T), (z_T_in (List.mem_of_getElem? (i := 83) (by decide +kernel)) rfl : Cond.initialized yX9_become.cls ∈ z_T), ⟨by decide, by decide, by decide +kernel⟩⟩
set_option maxRecDepth 20000 in
theorem zk_X_4 (kn : Bool) : z_ok (layX kn) (nX kn) 4 RX9 := ⟨by cases kn <;> decide, _, _, _, _, rfl, rfl⟩
set_option maxRecDepth 20000 in
theorem zf_X10_89 : z_FL RX10 89 9 0 := ⟨RX9, TX9, 5, rfl, zin_X9, by decide, (z_T_in (List.mem_of_getElem? (i := 136) (by decide +kernel)) rfl : Cond.fieldLink RX10 89 "RunTogether$Words" "size" "I" ∈ z_T)⟩
set_option maxRecDepth 20000 in
theorem zf_X11_41 : z_FL RX11 41 11 17 := ⟨RX11, TX11, 52, rfl, zin_X11, by decide, (z_T_in (List.mem_of_getElem? (i := 970) (by decide +kernel)) rfl : Cond.fieldLink RX11 41 "RunTogetherModel" "place" "I" ∈ z_T)⟩
set_option maxRecDepth 20000 in
theorem zf_X10_111 : z_FL RX10 111 0 1 := ⟨RX0, TX0, 6, rfl, zin_X0, by decide, (z_T_in (List.mem_of_getElem? (i := 210) (by decide +kernel)) rfl : Cond.fieldLink RX10 111 "RunTogether$Clauses" "faultAt" "I" ∈ z_T)⟩
set_option maxRecDepth 20000 in
theorem zcl_0 : Int64.ofNat ((0 : Fin 2) : Nat) = 0 := by decide
set_option maxRecDepth 20000 in
theorem zc_X11_188 : z_CV RX11 188 yX11_noWord cX11_noWord 2 (some .boolean) 1 := ⟨(z_T_in (List.mem_of_getElem? (i := 1167) (by decide +kernel)) rfl : Cond.code yX11_noWord cX11_noWord 2 (some .boolean) ∈ z_T), (z_T_in (List.mem_of_getElem? (i := 1164) (by decide +kernel)) rfl : Cond.methodLink RX11 188 yX11_noWord ∈ z_T), (z_T_in (List.mem_of_getElem? (i := 1166) (by decide +kernel)) rfl : Cond.instanceMethod yX11_noWord ∈ z_T), (z_T_in (List.mem_of_getElem? (i := 51) (by decide +kernel)) rfl : Cond.selects yX11_noWord.cls yX11_noWord yX11_noWord ∈ z_T), (z_T_in (List.mem_of_getElem? (i := 91) (by decide +kernel)) rfl : Cond.initialized yX11_noWord.cls ∈ z_T), ⟨by decide, by decide, by decide +kernel⟩⟩
set_option maxRecDepth 20000 in
theorem zl_X11_191 : Cond.constantLong RX11 191 (10) ∈ z_T := z_T_in (List.mem_of_getElem? (i := 1168) (by decide +kernel)) rfl
set_option maxRecDepth 20000 in
theorem zcs_m1001 : (Int16.ofInt (-1001)).toInt32 = -1001 := by decide
set_option maxRecDepth 20000 in
theorem zc_X10_114 : z_CV RX10 114 yX9_has cX9_has 2 (some .boolean) 1 := ⟨(z_T_in (List.mem_of_getElem? (i := 507) (by decide +kernel)) rfl : Cond.code yX9_has cX9_has 2 (some .boolean) ∈ z_T), (z_T_in (List.mem_of_getElem? (i := 504) (by decide +kernel)) rfl : Cond.methodLink RX10 114 yX9_has ∈ z_T), (z_T_in (List.mem_of_getElem? (i := 505) (by decide +kernel)) rfl : Cond.instanceMethod yX9_has ∈ z_T), (z_T_in (List.mem_of_getElem? (i := 506) (by decide +kernel)) rfl : Cond.selects yX9_has.cls yX9_has yX9_has ∈ z_T), (z_T_in (List.mem_of_getElem? (i := 83) (by decide +kernel)) rfl : Cond.initialized yX9_has.cls ∈ z_T), ⟨by decide, by decide, by decide +kernel⟩⟩
set_option maxRecDepth 20000 in
theorem zf_X10_125 : z_FL RX10 125 9 2 := ⟨RX9, TX9, 5, rfl, zin_X9, by decide, (z_T_in (List.mem_of_getElem? (i := 147) (by decide +kernel)) rfl : Cond.fieldLink RX10 125 "RunTogether$Words" "lengths" "[I" ∈ z_T)⟩
set_option maxRecDepth 20000 in
theorem zc_X10_128 : z_CV RX10 128 yX9_sign cX9_sign 3 (some .int) 2 := ⟨(z_T_in (List.mem_of_getElem? (i := 473) (by decide +kernel)) rfl : Cond.code yX9_sign cX9_sign 3 (some .int) ∈ z_T), (z_T_in (List.mem_of_getElem? (i := 508) (by decide +kernel)) rfl : Cond.methodLink RX10 128 yX9_sign ∈ z_T), (z_T_in (List.mem_of_getElem? (i := 471) (by decide +kernel)) rfl : Cond.instanceMethod yX9_sign ∈ z_T), (z_T_in (List.mem_of_getElem? (i := 472) (by decide +kernel)) rfl : Cond.selects yX9_sign.cls yX9_sign yX9_sign ∈ z_T), (z_T_in (List.mem_of_getElem? (i := 83) (by decide +kernel)) rfl : Cond.initialized yX9_sign.cls ∈ z_T), ⟨by decide, by decide, by decide +kernel⟩⟩
set_option maxRecDepth 20000 in
theorem zf_X10_118 : z_FL RX10 118 9 3 := ⟨RX9, TX9, 5, rfl, zin_X9, by decide, (z_T_in (List.mem_of_getElem? (i := 154) (by decide +kernel)) rfl : Cond.fieldLink RX10 118 "RunTogether$Words" "costs" "[I" ∈ z_T)⟩
set_option maxRecDepth 20000 in
theorem zf_X10_122 : z_FL RX10 122 9 4 := ⟨RX9, TX9, 5, rfl, zin_X9, by decide, (z_T_in (List.mem_of_getElem? (i := 160) (by decide +kernel)) rfl : Cond.fieldLink RX10 122 "RunTogether$Words" "kinds" "[I" ∈ z_T)⟩
set_option maxRecDepth 20000 in
theorem zl_X11_193 : Cond.constantLong RX11 193 (3) ∈ z_T := z_T_in (List.mem_of_getElem? (i := 1173) (by decide +kernel)) rfl
set_option maxRecDepth 20000 in
theorem zf_X11_22 : z_FL RX11 22 11 6 := ⟨RX11, TX11, 52, rfl, zin_X11, by decide, (z_T_in (List.mem_of_getElem? (i := 959) (by decide +kernel)) rfl : Cond.fieldLink RX11 22 "RunTogetherModel" "follows" "[Z" ∈ z_T)⟩
set_option maxRecDepth 20000 in
theorem zo_M_6 : z_fk layM nM 0 11 6 (2, 5) := ⟨by decide, _, rfl, rfl⟩
set_option maxRecDepth 20000 in
theorem za_M_5 : z_ak layM nM 5 2 16 := ⟨by decide, _, rfl⟩
set_option maxRecDepth 20000 in
theorem zc_X11_195 : z_CS RX11 195 yX11_one cX11_one 1 (some .int) 1 := ⟨(z_T_in (List.mem_of_getElem? (i := 1176) (by decide +kernel)) rfl : Cond.code yX11_one cX11_one 1 (some .int) ∈ z_T), (z_T_in (List.mem_of_getElem? (i := 1174) (by decide +kernel)) rfl : Cond.methodLink RX11 195 yX11_one ∈ z_T), (z_T_in (List.mem_of_getElem? (i := 1175) (by decide +kernel)) rfl : Cond.static yX11_one ∈ z_T), (z_T_in (List.mem_of_getElem? (i := 91) (by decide +kernel)) rfl : Cond.initialized yX11_one.cls ∈ z_T), ⟨by decide, by decide, by decide +kernel⟩⟩
set_option maxRecDepth 20000 in
theorem zf_X7_15 : z_FL RX7 15 7 1 := ⟨RX7, TX7, 3, rfl, zin_X7, by decide, (z_T_in (List.mem_of_getElem? (i := 112) (by decide +kernel)) rfl : Cond.fieldLink RX7 15 "RunTogether$Rules" "barred" "[Z" ∈ z_T)⟩
set_option maxRecDepth 20000 in
theorem zo_X_1_1 (kn : Bool) : z_fk (layX kn) (nX kn) 1 7 1 (2, 2) := ⟨by cases kn <;> decide, _, rfl, rfl⟩
set_option maxRecDepth 20000 in
theorem za_X_2 (kn : Bool) : z_ak (layX kn) (nX kn) 2 2 16 := ⟨by cases kn <;> decide, _, rfl⟩
set_option maxRecDepth 20000 in
theorem zf_X10_136 : z_FL RX10 136 7 1 := ⟨RX7, TX7, 3, rfl, zin_X7, by decide, (z_T_in (List.mem_of_getElem? (i := 113) (by decide +kernel)) rfl : Cond.fieldLink RX10 136 "RunTogether$Rules" "barred" "[Z" ∈ z_T)⟩
set_option maxRecDepth 20000 in
theorem zc_X10_132 : z_CV RX10 132 yX7_mayCome cX7_mayCome 3 (some .boolean) 2 := ⟨(z_T_in (List.mem_of_getElem? (i := 516) (by decide +kernel)) rfl : Cond.code yX7_mayCome cX7_mayCome 3 (some .boolean) ∈ z_T), (z_T_in (List.mem_of_getElem? (i := 513) (by decide +kernel)) rfl : Cond.methodLink RX10 132 yX7_mayCome ∈ z_T), (z_T_in (List.mem_of_getElem? (i := 514) (by decide +kernel)) rfl : Cond.instanceMethod yX7_mayCome ∈ z_T), (z_T_in (List.mem_of_getElem? (i := 515) (by decide +kernel)) rfl : Cond.selects yX7_mayCome.cls yX7_mayCome yX7_mayCome ∈ z_T), (z_T_in (List.mem_of_getElem? (i := 82) (by decide +kernel)) rfl : Cond.initialized yX7_mayCome.cls ∈ z_T), ⟨by decide, by decide, by decide +kernel⟩⟩
set_option maxRecDepth 20000 in
theorem zk_X_1 (kn : Bool) : z_ok (layX kn) (nX kn) 1 RX7 := ⟨by cases kn <;> decide, _, _, _, _, rfl, rfl⟩
set_option maxRecDepth 20000 in
theorem zf_X11_141 : z_FL RX11 141 11 9 := ⟨RX11, TX11, 52, rfl, zin_X11, by decide, (z_T_in (List.mem_of_getElem? (i := 962) (by decide +kernel)) rfl : Cond.fieldLink RX11 141 "RunTogetherModel" "drafted" "I" ∈ z_T)⟩
set_option maxRecDepth 20000 in
theorem zf_X11_138 : z_FL RX11 138 11 10 := ⟨RX11, TX11, 52, rfl, zin_X11, by decide, (z_T_in (List.mem_of_getElem? (i := 963) (by decide +kernel)) rfl : Cond.fieldLink RX11 138 "RunTogetherModel" "lines" "I" ∈ z_T)⟩
set_option maxRecDepth 20000 in
theorem zf_X10_85 : z_FL RX10 85 7 0 := ⟨RX7, TX7, 3, rfl, zin_X7, by decide, (z_T_in (List.mem_of_getElem? (i := 109) (by decide +kernel)) rfl : Cond.fieldLink RX10 85 "RunTogether$Rules" "letters" "I" ∈ z_T)⟩
set_option maxRecDepth 20000 in
theorem zf_X10_92 : z_FL RX10 92 2 0 := ⟨RX2, TX2, 16, rfl, zin_X2, by decide, (z_T_in (List.mem_of_getElem? (i := 295) (by decide +kernel)) rfl : Cond.fieldLink RX10 92 "RunTogether$Lines" "size" "I" ∈ z_T)⟩
set_option maxRecDepth 20000 in
theorem zf_X11_29 : z_FL RX11 29 11 8 := ⟨RX11, TX11, 52, rfl, zin_X11, by decide, (z_T_in (List.mem_of_getElem? (i := 961) (by decide +kernel)) rfl : Cond.fieldLink RX11 29 "RunTogetherModel" "draft" "[I" ∈ z_T)⟩
set_option maxRecDepth 20000 in
theorem zo_M_8 : z_fk layM nM 0 11 8 (2, 7) := ⟨by decide, _, rfl, rfl⟩
set_option maxRecDepth 20000 in
theorem za_M_7 : z_ak layM nM 7 0 48 := ⟨by decide, _, rfl⟩
set_option maxRecDepth 20000 in
theorem zo_X_11_0 (kn : Bool) : z_fk (layX kn) (nX kn) 11 6 0 (2, 12) := ⟨by cases kn <;> decide, _, rfl, rfl⟩
set_option maxRecDepth 20000 in
theorem za_X_12 (kn : Bool) : z_ak (layX kn) (nX kn) 12 0 48 := ⟨by cases kn <;> decide, _, rfl⟩
set_option maxRecDepth 20000 in
theorem zk_X_11 (kn : Bool) : z_ok (layX kn) (nX kn) 11 RX6 := ⟨by cases kn <;> decide, _, _, _, _, rfl, rfl⟩
set_option maxRecDepth 20000 in
theorem za_M_18 : z_ak layM nM 18 0 245 := ⟨by decide, _, rfl⟩
set_option maxRecDepth 20000 in
theorem zf_X11_70 : z_FL RX11 70 11 27 := ⟨RX11, TX11, 52, rfl, zin_X11, by decide, (z_T_in (List.mem_of_getElem? (i := 980) (by decide +kernel)) rfl : Cond.fieldLink RX11 70 "RunTogetherModel" "lots" "[I" ∈ z_T)⟩
set_option maxRecDepth 20000 in
theorem zo_M_27 : z_fk layM nM 0 11 27 (2, 19) := ⟨by decide, _, rfl, rfl⟩
set_option maxRecDepth 20000 in
theorem za_M_19 : z_ak layM nM 19 0 245 := ⟨by decide, _, rfl⟩
set_option maxRecDepth 20000 in
theorem za_M_16 : z_ak layM nM 16 0 245 := ⟨by decide, _, rfl⟩
set_option maxRecDepth 20000 in
theorem zf_X11_64 : z_FL RX11 64 11 25 := ⟨RX11, TX11, 52, rfl, zin_X11, by decide, (z_T_in (List.mem_of_getElem? (i := 978) (by decide +kernel)) rfl : Cond.fieldLink RX11 64 "RunTogetherModel" "cheapMany" "[J" ∈ z_T)⟩
set_option maxRecDepth 20000 in
theorem zo_M_25 : z_fk layM nM 0 11 25 (2, 17) := ⟨by decide, _, rfl, rfl⟩
set_option maxRecDepth 20000 in
theorem za_M_17 : z_ak layM nM 17 1 245 := ⟨by decide, _, rfl⟩
set_option maxRecDepth 20000 in
theorem zf_X11_67 : z_FL RX11 67 11 26 := ⟨RX11, TX11, 52, rfl, zin_X11, by decide, (z_T_in (List.mem_of_getElem? (i := 979) (by decide +kernel)) rfl : Cond.fieldLink RX11 67 "RunTogetherModel" "few" "[I" ∈ z_T)⟩
set_option maxRecDepth 20000 in
theorem zo_M_26 : z_fk layM nM 0 11 26 (2, 18) := ⟨by decide, _, rfl, rfl⟩
set_option maxRecDepth 20000 in
theorem zf_X11_57 : z_FL RX11 57 11 23 := ⟨RX11, TX11, 52, rfl, zin_X11, by decide, (z_T_in (List.mem_of_getElem? (i := 976) (by decide +kernel)) rfl : Cond.fieldLink RX11 57 "RunTogetherModel" "many" "[J" ∈ z_T)⟩
set_option maxRecDepth 20000 in
theorem zo_M_23 : z_fk layM nM 0 11 23 (2, 15) := ⟨by decide, _, rfl, rfl⟩
set_option maxRecDepth 20000 in
theorem za_M_15 : z_ak layM nM 15 1 245 := ⟨by decide, _, rfl⟩
set_option maxRecDepth 20000 in
theorem zf_X11_61 : z_FL RX11 61 11 24 := ⟨RX11, TX11, 52, rfl, zin_X11, by decide, (z_T_in (List.mem_of_getElem? (i := 977) (by decide +kernel)) rfl : Cond.fieldLink RX11 61 "RunTogetherModel" "cheap" "[I" ∈ z_T)⟩
set_option maxRecDepth 20000 in
theorem zo_M_24 : z_fk layM nM 0 11 24 (2, 16) := ⟨by decide, _, rfl, rfl⟩
set_option maxRecDepth 20000 in
theorem zl_X11_199 : Cond.constantLong RX11 199 (2000000000000000) ∈ z_T := z_T_in (List.mem_of_getElem? (i := 1220) (by decide +kernel)) rfl
set_option maxRecDepth 20000 in
theorem zc_X11_209 : z_CV RX11 209 yX11_mayFollow cX11_mayFollow 3 (some .boolean) 2 := ⟨(z_T_in (List.mem_of_getElem? (i := 1211) (by decide +kernel)) rfl : Cond.code yX11_mayFollow cX11_mayFollow 3 (some .boolean) ∈ z_T), (z_T_in (List.mem_of_getElem? (i := 1208) (by decide +kernel)) rfl : Cond.methodLink RX11 209 yX11_mayFollow ∈ z_T), (z_T_in (List.mem_of_getElem? (i := 1210) (by decide +kernel)) rfl : Cond.instanceMethod yX11_mayFollow ∈ z_T), (z_T_in (List.mem_of_getElem? (i := 54) (by decide +kernel)) rfl : Cond.selects yX11_mayFollow.cls yX11_mayFollow yX11_mayFollow ∈ z_T), (z_T_in (List.mem_of_getElem? (i := 91) (by decide +kernel)) rfl : Cond.initialized yX11_mayFollow.cls ∈ z_T), ⟨by decide, by decide, by decide +kernel⟩⟩
set_option maxRecDepth 20000 in
theorem zc_X11_212 : z_CV RX11 212 yX11_stands cX11_stands 5 (some .boolean) 2 := ⟨(z_T_in (List.mem_of_getElem? (i := 1215) (by decide +kernel)) rfl : Cond.code yX11_stands cX11_stands 5 (some .boolean) ∈ z_T), (z_T_in (List.mem_of_getElem? (i := 1212) (by decide +kernel)) rfl : Cond.methodLink RX11 212 yX11_stands ∈ z_T), (z_T_in (List.mem_of_getElem? (i := 1214) (by decide +kernel)) rfl : Cond.instanceMethod yX11_stands ∈ z_T), (z_T_in (List.mem_of_getElem? (i := 55) (by decide +kernel)) rfl : Cond.selects yX11_stands.cls yX11_stands yX11_stands ∈ z_T), (z_T_in (List.mem_of_getElem? (i := 91) (by decide +kernel)) rfl : Cond.initialized yX11_stands.cls ∈ z_T), ⟨by decide, by decide, by decide +kernel⟩⟩
set_option maxRecDepth 20000 in
theorem zc_X11_201 : z_CS RX11 201 yX11_cell cX11_cell 2 (some .int) 2 := ⟨(z_T_in (List.mem_of_getElem? (i := 1203) (by decide +kernel)) rfl : Cond.code yX11_cell cX11_cell 2 (some .int) ∈ z_T), (z_T_in (List.mem_of_getElem? (i := 1201) (by decide +kernel)) rfl : Cond.methodLink RX11 201 yX11_cell ∈ z_T), (z_T_in (List.mem_of_getElem? (i := 1202) (by decide +kernel)) rfl : Cond.static yX11_cell ∈ z_T), (z_T_in (List.mem_of_getElem? (i := 91) (by decide +kernel)) rfl : Cond.initialized yX11_cell.cls ∈ z_T), ⟨by decide, by decide, by decide +kernel⟩⟩
set_option maxRecDepth 20000 in
theorem zc_X11_215 : z_CV RX11 215 yX11_addWord cX11_addWord 7 none 3 := ⟨(z_T_in (List.mem_of_getElem? (i := 1219) (by decide +kernel)) rfl : Cond.code yX11_addWord cX11_addWord 7 none ∈ z_T), (z_T_in (List.mem_of_getElem? (i := 1216) (by decide +kernel)) rfl : Cond.methodLink RX11 215 yX11_addWord ∈ z_T), (z_T_in (List.mem_of_getElem? (i := 1218) (by decide +kernel)) rfl : Cond.instanceMethod yX11_addWord ∈ z_T), (z_T_in (List.mem_of_getElem? (i := 56) (by decide +kernel)) rfl : Cond.selects yX11_addWord.cls yX11_addWord yX11_addWord ∈ z_T), (z_T_in (List.mem_of_getElem? (i := 91) (by decide +kernel)) rfl : Cond.initialized yX11_addWord.cls ∈ z_T), ⟨by decide, by decide, by decide +kernel⟩⟩
set_option maxRecDepth 20000 in
theorem zc_X11_205 : z_CV RX11 205 yX11_beginCell cX11_beginCell 3 none 2 := ⟨(z_T_in (List.mem_of_getElem? (i := 1207) (by decide +kernel)) rfl : Cond.code yX11_beginCell cX11_beginCell 3 none ∈ z_T), (z_T_in (List.mem_of_getElem? (i := 1204) (by decide +kernel)) rfl : Cond.methodLink RX11 205 yX11_beginCell ∈ z_T), (z_T_in (List.mem_of_getElem? (i := 1206) (by decide +kernel)) rfl : Cond.instanceMethod yX11_beginCell ∈ z_T), (z_T_in (List.mem_of_getElem? (i := 53) (by decide +kernel)) rfl : Cond.selects yX11_beginCell.cls yX11_beginCell yX11_beginCell ∈ z_T), (z_T_in (List.mem_of_getElem? (i := 91) (by decide +kernel)) rfl : Cond.initialized yX11_beginCell.cls ∈ z_T), ⟨by decide, by decide, by decide +kernel⟩⟩
set_option maxRecDepth 20000 in
theorem zc_X11_219 : z_CV RX11 219 yX11_findReadings cX11_findReadings 5 none 0 := ⟨(z_T_in (List.mem_of_getElem? (i := 1200) (by decide +kernel)) rfl : Cond.code yX11_findReadings cX11_findReadings 5 none ∈ z_T), (z_T_in (List.mem_of_getElem? (i := 1197) (by decide +kernel)) rfl : Cond.methodLink RX11 219 yX11_findReadings ∈ z_T), (z_T_in (List.mem_of_getElem? (i := 1199) (by decide +kernel)) rfl : Cond.instanceMethod yX11_findReadings ∈ z_T), (z_T_in (List.mem_of_getElem? (i := 52) (by decide +kernel)) rfl : Cond.selects yX11_findReadings.cls yX11_findReadings yX11_findReadings ∈ z_T), (z_T_in (List.mem_of_getElem? (i := 91) (by decide +kernel)) rfl : Cond.initialized yX11_findReadings.cls ∈ z_T), ⟨by decide, by decide, by decide +kernel⟩⟩
set_option maxRecDepth 20000 in
theorem zl_X11_222 : Cond.constantLong RX11 222 (1000000000000000) ∈ z_T := z_T_in (List.mem_of_getElem? (i := 1221) (by decide +kernel)) rfl
set_option maxRecDepth 20000 in
theorem zl_X11_224 : Cond.constantLong RX11 224 (-1005) ∈ z_T := z_T_in (List.mem_of_getElem? (i := 1222) (by decide +kernel)) rfl
set_option maxRecDepth 20000 in
theorem zf_X9_43 : z_FL RX9 43 6 0 := ⟨RX6, TX6, 2, rfl, zin_X6, by decide, (z_T_in (List.mem_of_getElem? (i := 185) (by decide +kernel)) rfl : Cond.fieldLink RX9 43 "RunTogether$Row" "cells" "[I" ∈ z_T)⟩
set_option maxRecDepth 20000 in
theorem zf_X9_40 : z_FL RX9 40 6 1 := ⟨RX6, TX6, 2, rfl, zin_X6, by decide, (z_T_in (List.mem_of_getElem? (i := 193) (by decide +kernel)) rfl : Cond.fieldLink RX9 40 "RunTogether$Row" "size" "I" ∈ z_T)⟩
set_option maxRecDepth 20000 in
theorem zc_X9_36 : z_CV RX9 36 yX9_standsAt cX9_standsAt 5 (some .boolean) 3 := ⟨(z_T_in (List.mem_of_getElem? (i := 548) (by decide +kernel)) rfl : Cond.code yX9_standsAt cX9_standsAt 5 (some .boolean) ∈ z_T), (z_T_in (List.mem_of_getElem? (i := 545) (by decide +kernel)) rfl : Cond.methodLink RX9 36 yX9_standsAt ∈ z_T), (z_T_in (List.mem_of_getElem? (i := 547) (by decide +kernel)) rfl : Cond.instanceMethod yX9_standsAt ∈ z_T), (z_T_in (List.mem_of_getElem? (i := 10) (by decide +kernel)) rfl : Cond.selects yX9_standsAt.cls yX9_standsAt yX9_standsAt ∈ z_T), (z_T_in (List.mem_of_getElem? (i := 83) (by decide +kernel)) rfl : Cond.initialized yX9_standsAt.cls ∈ z_T), ⟨by decide, by decide, by decide +kernel⟩⟩
set_option maxRecDepth 20000 in
theorem zf_X5_26 : z_FL RX5 26 5 1 := ⟨RX5, TX5, 9, rfl, zin_X5, by decide, (z_T_in (List.mem_of_getElem? (i := 235) (by decide +kernel)) rfl : Cond.fieldLink RX5 26 "RunTogether$Readings" "words" "LRunTogether$Words;" ∈ z_T)⟩
set_option maxRecDepth 20000 in
theorem zo_X_19_1 (kn : Bool) : z_fk (layX kn) (nX kn) 19 5 1 (2, 4) := ⟨by cases kn <;> decide, _, rfl, rfl⟩
set_option maxRecDepth 20000 in
theorem zf_X5_79 : z_FL RX5 79 9 2 := ⟨RX9, TX9, 5, rfl, zin_X9, by decide, (z_T_in (List.mem_of_getElem? (i := 144) (by decide +kernel)) rfl : Cond.fieldLink RX5 79 "RunTogether$Words" "lengths" "[I" ∈ z_T)⟩
set_option maxRecDepth 20000 in
theorem zf_X5_70 : z_FL RX5 70 9 4 := ⟨RX9, TX9, 5, rfl, zin_X9, by decide, (z_T_in (List.mem_of_getElem? (i := 158) (by decide +kernel)) rfl : Cond.fieldLink RX5 70 "RunTogether$Words" "kinds" "[I" ∈ z_T)⟩
set_option maxRecDepth 20000 in
theorem zf_X5_34 : z_FL RX5 34 5 6 := ⟨RX5, TX5, 9, rfl, zin_X5, by decide, (z_T_in (List.mem_of_getElem? (i := 240) (by decide +kernel)) rfl : Cond.fieldLink RX5 34 "RunTogether$Readings" "by" "I" ∈ z_T)⟩
set_option maxRecDepth 20000 in
theorem zo_X_19_6 (kn : Bool) : z_fk (layX kn) (nX kn) 19 5 6 (0, 0) := ⟨by cases kn <;> decide, _, rfl, rfl⟩
set_option maxRecDepth 20000 in
theorem zf_X5_85 : z_FL RX5 85 9 3 := ⟨RX9, TX9, 5, rfl, zin_X9, by decide, (z_T_in (List.mem_of_getElem? (i := 153) (by decide +kernel)) rfl : Cond.fieldLink RX5 85 "RunTogether$Words" "costs" "[I" ∈ z_T)⟩
set_option maxRecDepth 20000 in
theorem zf_X5_38 : z_FL RX5 38 5 7 := ⟨RX5, TX5, 9, rfl, zin_X5, by decide, (z_T_in (List.mem_of_getElem? (i := 241) (by decide +kernel)) rfl : Cond.fieldLink RX5 38 "RunTogether$Readings" "place" "I" ∈ z_T)⟩
set_option maxRecDepth 20000 in
theorem zo_X_19_7 (kn : Bool) : z_fk (layX kn) (nX kn) 19 5 7 (0, 0) := ⟨by cases kn <;> decide, _, rfl, rfl⟩
set_option maxRecDepth 20000 in
theorem zf_X5_9 : z_FL RX5 9 5 3 := ⟨RX5, TX5, 9, rfl, zin_X5, by decide, (z_T_in (List.mem_of_getElem? (i := 237) (by decide +kernel)) rfl : Cond.fieldLink RX5 9 "RunTogether$Readings" "standing" "[I" ∈ z_T)⟩
set_option maxRecDepth 20000 in
theorem zo_X_19_3 (kn : Bool) : z_fk (layX kn) (nX kn) 19 5 3 (2, 20) := ⟨by cases kn <;> decide, _, rfl, rfl⟩
set_option maxRecDepth 20000 in
theorem za_X_20 (kn : Bool) : z_ak (layX kn) (nX kn) 20 0 49 := ⟨by cases kn <;> decide, _, rfl⟩
set_option maxRecDepth 20000 in
theorem zl_X5_56 : Cond.constant RX5 56 (1000000000) ∈ z_T := z_T_in (List.mem_of_getElem? (i := 553) (by decide +kernel)) rfl
set_option maxRecDepth 20000 in
theorem zf_X5_30 : z_FL RX5 30 5 2 := ⟨RX5, TX5, 9, rfl, zin_X5, by decide, (z_T_in (List.mem_of_getElem? (i := 236) (by decide +kernel)) rfl : Cond.fieldLink RX5 30 "RunTogether$Readings" "rules" "LRunTogether$Rules;" ∈ z_T)⟩
set_option maxRecDepth 20000 in
theorem zo_X_19_2 (kn : Bool) : z_fk (layX kn) (nX kn) 19 5 2 (2, 1) := ⟨by cases kn <;> decide, _, rfl, rfl⟩
set_option maxRecDepth 20000 in
theorem zc_X5_73 : z_CV RX5 73 yX7_mayCome cX7_mayCome 3 (some .boolean) 2 := ⟨(z_T_in (List.mem_of_getElem? (i := 516) (by decide +kernel)) rfl : Cond.code yX7_mayCome cX7_mayCome 3 (some .boolean) ∈ z_T), (z_T_in (List.mem_of_getElem? (i := 558) (by decide +kernel)) rfl : Cond.methodLink RX5 73 yX7_mayCome ∈ z_T), (z_T_in (List.mem_of_getElem? (i := 514) (by decide +kernel)) rfl : Cond.instanceMethod yX7_mayCome ∈ z_T), (z_T_in (List.mem_of_getElem? (i := 515) (by decide +kernel)) rfl : Cond.selects yX7_mayCome.cls yX7_mayCome yX7_mayCome ∈ z_T), (z_T_in (List.mem_of_getElem? (i := 82) (by decide +kernel)) rfl : Cond.initialized yX7_mayCome.cls ∈ z_T), ⟨by decide, by decide, by decide +kernel⟩⟩
set_option maxRecDepth 20000 in
theorem zf_X5_15 : z_FL RX5 15 5 4 := ⟨RX5, TX5, 9, rfl, zin_X5, by decide, (z_T_in (List.mem_of_getElem? (i := 238) (by decide +kernel)) rfl : Cond.fieldLink RX5 15 "RunTogether$Readings" "least" "[I" ∈ z_T)⟩
set_option maxRecDepth 20000 in
theorem zo_X_19_4 (kn : Bool) : z_fk (layX kn) (nX kn) 19 5 4 (2, 21) := ⟨by cases kn <;> decide, _, rfl, rfl⟩
set_option maxRecDepth 20000 in
theorem zc_X5_62 : z_CV RX5 62 yX5_behind cX5_behind 3 (some .int) 2 := ⟨(z_T_in (List.mem_of_getElem? (i := 562) (by decide +kernel)) rfl : Cond.code yX5_behind cX5_behind 3 (some .int) ∈ z_T), (z_T_in (List.mem_of_getElem? (i := 559) (by decide +kernel)) rfl : Cond.methodLink RX5 62 yX5_behind ∈ z_T), (z_T_in (List.mem_of_getElem? (i := 561) (by decide +kernel)) rfl : Cond.instanceMethod yX5_behind ∈ z_T), (z_T_in (List.mem_of_getElem? (i := 13) (by decide +kernel)) rfl : Cond.selects yX5_behind.cls yX5_behind yX5_behind ∈ z_T), (z_T_in (List.mem_of_getElem? (i := 87) (by decide +kernel)) rfl : Cond.initialized yX5_behind.cls ∈ z_T), ⟨by decide, by decide, by decide +kernel⟩⟩
set_option maxRecDepth 20000 in
theorem zk_X_19 (kn : Bool) : z_ok (layX kn) (nX kn) 19 RX5 := ⟨by cases kn <;> decide, _, _, _, _, rfl, rfl⟩
set_option maxRecDepth 20000 in
theorem za_X_21 (kn : Bool) : z_ak (layX kn) (nX kn) 21 0 245 := ⟨by cases kn <;> decide, _, rfl⟩
set_option maxRecDepth 20000 in
theorem zc_X5_82 : z_CV RX5 82 yX5_weight cX5_weight 3 (some .int) 2 := ⟨(z_T_in (List.mem_of_getElem? (i := 566) (by decide +kernel)) rfl : Cond.code yX5_weight cX5_weight 3 (some .int) ∈ z_T), (z_T_in (List.mem_of_getElem? (i := 563) (by decide +kernel)) rfl : Cond.methodLink RX5 82 yX5_weight ∈ z_T), (z_T_in (List.mem_of_getElem? (i := 565) (by decide +kernel)) rfl : Cond.instanceMethod yX5_weight ∈ z_T), (z_T_in (List.mem_of_getElem? (i := 14) (by decide +kernel)) rfl : Cond.selects yX5_weight.cls yX5_weight yX5_weight ∈ z_T), (z_T_in (List.mem_of_getElem? (i := 87) (by decide +kernel)) rfl : Cond.initialized yX5_weight.cls ∈ z_T), ⟨by decide, by decide, by decide +kernel⟩⟩
set_option maxRecDepth 20000 in
theorem zl_X10_270 : Cond.constantLong RX10 270 (1000000000000001) ∈ z_T := z_T_in (List.mem_of_getElem? (i := 570) (by decide +kernel)) rfl
set_option maxRecDepth 20000 in
theorem zm_X10_272 : Cond.methodLink RX10 272 Lib.MathLoose.min_long.x ∈ z_T := z_T_in (List.mem_of_getElem? (i := 571) (by decide +kernel)) rfl
set_option maxRecDepth 20000 in
theorem zms_l : Cond.static Lib.MathLoose.min_long.x ∈ z_T := z_T_in (List.mem_of_getElem? (i := 572) (by decide +kernel)) rfl
set_option maxRecDepth 20000 in
theorem zmc_l : Cond.code Lib.MathLoose.min_long.x Lib.MathLoose.min_long.code 4 (some .long) ∈ z_T := z_T_in (List.mem_of_getElem? (i := 573) (by decide +kernel)) rfl
set_option maxRecDepth 20000 in
theorem zf_X5_18 : z_FL RX5 18 5 5 := ⟨RX5, TX5, 9, rfl, zin_X5, by decide, (z_T_in (List.mem_of_getElem? (i := 239) (by decide +kernel)) rfl : Cond.fieldLink RX5 18 "RunTogether$Readings" "many" "[J" ∈ z_T)⟩
set_option maxRecDepth 20000 in
theorem zo_X_19_5 (kn : Bool) : z_fk (layX kn) (nX kn) 19 5 5 (2, 22) := ⟨by cases kn <;> decide, _, rfl, rfl⟩
set_option maxRecDepth 20000 in
theorem za_X_22 (kn : Bool) : z_ak (layX kn) (nX kn) 22 1 245 := ⟨by cases kn <;> decide, _, rfl⟩
set_option maxRecDepth 20000 in
theorem zc_X5_66 : z_CN RX5 66 yX10_addCapped cX10_addCapped 4 (some .long) 2 := ⟨(z_T_in (List.mem_of_getElem? (i := 569) (by decide +kernel)) rfl : Cond.code yX10_addCapped cX10_addCapped 4 (some .long) ∈ z_T), fun s h => h.1, (z_T_in (List.mem_of_getElem? (i := 568) (by decide +kernel)) rfl : Cond.static yX10_addCapped ∈ z_T), (z_T_in (List.mem_of_getElem? (i := 81) (by decide +kernel)) rfl : Cond.initialized yX10_addCapped.cls ∈ z_T), ⟨by decide, by decide, by decide +kernel⟩⟩
set_option maxRecDepth 20000 in
theorem zf_X5_57 : z_FL RX5 57 9 0 := ⟨RX9, TX9, 5, rfl, zin_X9, by decide, (z_T_in (List.mem_of_getElem? (i := 137) (by decide +kernel)) rfl : Cond.fieldLink RX5 57 "RunTogether$Words" "size" "I" ∈ z_T)⟩
set_option maxRecDepth 20000 in
theorem zc_X5_58 : z_CV RX5 58 yX5_weightFrom cX5_weightFrom 5 (some .int) 3 := ⟨(z_T_in (List.mem_of_getElem? (i := 557) (by decide +kernel)) rfl : Cond.code yX5_weightFrom cX5_weightFrom 5 (some .int) ∈ z_T), (z_T_in (List.mem_of_getElem? (i := 554) (by decide +kernel)) rfl : Cond.methodLink RX5 58 yX5_weightFrom ∈ z_T), (z_T_in (List.mem_of_getElem? (i := 556) (by decide +kernel)) rfl : Cond.instanceMethod yX5_weightFrom ∈ z_T), (z_T_in (List.mem_of_getElem? (i := 12) (by decide +kernel)) rfl : Cond.selects yX5_weightFrom.cls yX5_weightFrom yX5_weightFrom ∈ z_T), (z_T_in (List.mem_of_getElem? (i := 87) (by decide +kernel)) rfl : Cond.initialized yX5_weightFrom.cls ∈ z_T), ⟨by decide, by decide, by decide +kernel⟩⟩
set_option maxRecDepth 20000 in
theorem zf_X5_22 : z_FL RX5 22 5 0 := ⟨RX5, TX5, 9, rfl, zin_X5, by decide, (z_T_in (List.mem_of_getElem? (i := 234) (by decide +kernel)) rfl : Cond.fieldLink RX5 22 "RunTogether$Readings" "draft" "LRunTogether$Row;" ∈ z_T)⟩
set_option maxRecDepth 20000 in
theorem zo_X_19_0 (kn : Bool) : z_fk (layX kn) (nX kn) 19 5 0 (2, 11) := ⟨by cases kn <;> decide, _, rfl, rfl⟩
set_option maxRecDepth 20000 in
theorem zf_X5_41 : z_FL RX5 41 6 1 := ⟨RX6, TX6, 2, rfl, zin_X6, by decide, (z_T_in (List.mem_of_getElem? (i := 189) (by decide +kernel)) rfl : Cond.fieldLink RX5 41 "RunTogether$Row" "size" "I" ∈ z_T)⟩
set_option maxRecDepth 20000 in
theorem zc_X5_52 : z_CV RX5 52 yX5_measureFrom cX5_measureFrom 8 none 2 := ⟨(z_T_in (List.mem_of_getElem? (i := 552) (by decide +kernel)) rfl : Cond.code yX5_measureFrom cX5_measureFrom 8 none ∈ z_T), (z_T_in (List.mem_of_getElem? (i := 549) (by decide +kernel)) rfl : Cond.methodLink RX5 52 yX5_measureFrom ∈ z_T), (z_T_in (List.mem_of_getElem? (i := 551) (by decide +kernel)) rfl : Cond.instanceMethod yX5_measureFrom ∈ z_T), (z_T_in (List.mem_of_getElem? (i := 11) (by decide +kernel)) rfl : Cond.selects yX5_measureFrom.cls yX5_measureFrom yX5_measureFrom ∈ z_T), (z_T_in (List.mem_of_getElem? (i := 87) (by decide +kernel)) rfl : Cond.initialized yX5_measureFrom.cls ∈ z_T), ⟨by decide, by decide, by decide +kernel⟩⟩
set_option maxRecDepth 20000 in
theorem zc_X5_46 : z_CV RX5 46 yX9_standingAt cX9_standingAt 5 (some .int) 2 := ⟨(z_T_in (List.mem_of_getElem? (i := 544) (by decide +kernel)) rfl : Cond.code yX9_standingAt cX9_standingAt 5 (some .int) ∈ z_T), (z_T_in (List.mem_of_getElem? (i := 541) (by decide +kernel)) rfl : Cond.methodLink RX5 46 yX9_standingAt ∈ z_T), (z_T_in (List.mem_of_getElem? (i := 542) (by decide +kernel)) rfl : Cond.instanceMethod yX9_standingAt ∈ z_T), (z_T_in (List.mem_of_getElem? (i := 543) (by decide +kernel)) rfl : Cond.selects yX9_standingAt.cls yX9_standingAt yX9_standingAt ∈ z_T), (z_T_in (List.mem_of_getElem? (i := 83) (by decide +kernel)) rfl : Cond.initialized yX9_standingAt.cls ∈ z_T), ⟨by decide, by decide, by decide +kernel⟩⟩
set_option maxRecDepth 20000 in
theorem zp_X5_34 : z_FP RX5 34 5 6 .int := ⟨RX5, TX5, 9, tyX5, rfl, zin_X5, by decide, (z_T_in (List.mem_of_getElem? (i := 240) (by decide +kernel)) rfl : Cond.fieldLink RX5 34 "RunTogether$Readings" "by" "I" ∈ z_T), tyX5_ok, nmX5, rfl, by decide +kernel⟩
set_option maxRecDepth 20000 in
theorem zp_X5_38 : z_FP RX5 38 5 7 .int := ⟨RX5, TX5, 9, tyX5, rfl, zin_X5, by decide, (z_T_in (List.mem_of_getElem? (i := 241) (by decide +kernel)) rfl : Cond.fieldLink RX5 38 "RunTogether$Readings" "place" "I" ∈ z_T), tyX5_ok, nmX5, rfl, by decide +kernel⟩
set_option maxRecDepth 20000 in
theorem zf_X10_49 : z_FL RX10 49 10 5 := ⟨RX10, TX10, 12, rfl, zin_X10, by decide, (z_T_in (List.mem_of_getElem? (i := 379) (by decide +kernel)) rfl : Cond.fieldLink RX10 49 "RunTogether" "drafted" "LRunTogether$Readings;" ∈ z_T)⟩
set_option maxRecDepth 20000 in
theorem zo_X_0_5 (kn : Bool) : z_fk (layX kn) (nX kn) 0 10 5 (2, 19) := ⟨by cases kn <;> decide, _, rfl, rfl⟩
set_option maxRecDepth 20000 in
theorem zc_X10_140 : z_CV RX10 140 yX5_measure cX5_measure 5 none 2 := ⟨(z_T_in (List.mem_of_getElem? (i := 540) (by decide +kernel)) rfl : Cond.code yX5_measure cX5_measure 5 none ∈ z_T), (z_T_in (List.mem_of_getElem? (i := 537) (by decide +kernel)) rfl : Cond.methodLink RX10 140 yX5_measure ∈ z_T), (z_T_in (List.mem_of_getElem? (i := 538) (by decide +kernel)) rfl : Cond.instanceMethod yX5_measure ∈ z_T), (z_T_in (List.mem_of_getElem? (i := 539) (by decide +kernel)) rfl : Cond.selects yX5_measure.cls yX5_measure yX5_measure ∈ z_T), (z_T_in (List.mem_of_getElem? (i := 87) (by decide +kernel)) rfl : Cond.initialized yX5_measure.cls ∈ z_T), ⟨by decide, by decide, by decide +kernel⟩⟩
set_option maxRecDepth 20000 in
theorem zc_X10_144 : z_CV RX10 144 yX5_manyInAll cX5_manyInAll 1 (some .long) 0 := ⟨(z_T_in (List.mem_of_getElem? (i := 577) (by decide +kernel)) rfl : Cond.code yX5_manyInAll cX5_manyInAll 1 (some .long) ∈ z_T), (z_T_in (List.mem_of_getElem? (i := 574) (by decide +kernel)) rfl : Cond.methodLink RX10 144 yX5_manyInAll ∈ z_T), (z_T_in (List.mem_of_getElem? (i := 575) (by decide +kernel)) rfl : Cond.instanceMethod yX5_manyInAll ∈ z_T), (z_T_in (List.mem_of_getElem? (i := 576) (by decide +kernel)) rfl : Cond.selects yX5_manyInAll.cls yX5_manyInAll yX5_manyInAll ∈ z_T), (z_T_in (List.mem_of_getElem? (i := 87) (by decide +kernel)) rfl : Cond.initialized yX5_manyInAll.cls ∈ z_T), ⟨by decide, by decide, by decide +kernel⟩⟩
set_option maxRecDepth 20000 in
theorem zl_X10_148 : Cond.constantLong RX10 148 (1000000000000000) ∈ z_T := z_T_in (List.mem_of_getElem? (i := 578) (by decide +kernel)) rfl
set_option maxRecDepth 20000 in
theorem zl_X10_150 : Cond.constantLong RX10 150 (-1005) ∈ z_T := z_T_in (List.mem_of_getElem? (i := 579) (by decide +kernel)) rfl
set_option maxRecDepth 20000 in
theorem zf_X5_88 : z_FL RX5 88 5 8 := ⟨RX5, TX5, 9, rfl, zin_X5, by decide, (z_T_in (List.mem_of_getElem? (i := 242) (by decide +kernel)) rfl : Cond.fieldLink RX5 88 "RunTogether$Readings" "left" "J" ∈ z_T)⟩
set_option maxRecDepth 20000 in
theorem zo_X_19_8 (kn : Bool) : z_fk (layX kn) (nX kn) 19 5 8 (1, 0) := ⟨by cases kn <;> decide, _, rfl, rfl⟩
set_option maxRecDepth 20000 in
theorem zp_X5_88 : z_FP RX5 88 5 8 .long := ⟨RX5, TX5, 9, tyX5, rfl, zin_X5, by decide, (z_T_in (List.mem_of_getElem? (i := 242) (by decide +kernel)) rfl : Cond.fieldLink RX5 88 "RunTogether$Readings" "left" "J" ∈ z_T), tyX5_ok, nmX5, rfl, by decide +kernel⟩
set_option maxRecDepth 20000 in
theorem zc_X5_92 : z_CV RX5 92 yX5_choose cX5_choose 8 (some .int) 2 := ⟨(z_T_in (List.mem_of_getElem? (i := 591) (by decide +kernel)) rfl : Cond.code yX5_choose cX5_choose 8 (some .int) ∈ z_T), (z_T_in (List.mem_of_getElem? (i := 588) (by decide +kernel)) rfl : Cond.methodLink RX5 92 yX5_choose ∈ z_T), (z_T_in (List.mem_of_getElem? (i := 590) (by decide +kernel)) rfl : Cond.instanceMethod yX5_choose ∈ z_T), (z_T_in (List.mem_of_getElem? (i := 15) (by decide +kernel)) rfl : Cond.selects yX5_choose.cls yX5_choose yX5_choose ∈ z_T), (z_T_in (List.mem_of_getElem? (i := 87) (by decide +kernel)) rfl : Cond.initialized yX5_choose.cls ∈ z_T), ⟨by decide, by decide, by decide +kernel⟩⟩
set_option maxRecDepth 20000 in
theorem zc_X10_152 : z_CV RX10 152 yX5_wordOfLeast cX5_wordOfLeast 8 (some .int) 2 := ⟨(z_T_in (List.mem_of_getElem? (i := 587) (by decide +kernel)) rfl : Cond.code yX5_wordOfLeast cX5_wordOfLeast 8 (some .int) ∈ z_T), (z_T_in (List.mem_of_getElem? (i := 584) (by decide +kernel)) rfl : Cond.methodLink RX10 152 yX5_wordOfLeast ∈ z_T), (z_T_in (List.mem_of_getElem? (i := 585) (by decide +kernel)) rfl : Cond.instanceMethod yX5_wordOfLeast ∈ z_T), (z_T_in (List.mem_of_getElem? (i := 586) (by decide +kernel)) rfl : Cond.selects yX5_wordOfLeast.cls yX5_wordOfLeast yX5_wordOfLeast ∈ z_T), (z_T_in (List.mem_of_getElem? (i := 87) (by decide +kernel)) rfl : Cond.initialized yX5_wordOfLeast.cls ∈ z_T), ⟨by decide, by decide, by decide +kernel⟩⟩
set_option maxRecDepth 20000 in
theorem zl_X11_226 : Cond.constantLong RX11 226 (1000000000) ∈ z_T := z_T_in (List.mem_of_getElem? (i := 1231) (by decide +kernel)) rfl
set_option maxRecDepth 20000 in
theorem zcs_m1005 : (Int16.ofInt (-1005)).toInt32 = -1005 := by decide
set_option maxRecDepth 20000 in
theorem zc_X10_156 : z_CV RX10 156 yX5_isReadable cX5_isReadable 1 (some .boolean) 0 := ⟨(z_T_in (List.mem_of_getElem? (i := 599) (by decide +kernel)) rfl : Cond.code yX5_isReadable cX5_isReadable 1 (some .boolean) ∈ z_T), (z_T_in (List.mem_of_getElem? (i := 596) (by decide +kernel)) rfl : Cond.methodLink RX10 156 yX5_isReadable ∈ z_T), (z_T_in (List.mem_of_getElem? (i := 597) (by decide +kernel)) rfl : Cond.instanceMethod yX5_isReadable ∈ z_T), (z_T_in (List.mem_of_getElem? (i := 598) (by decide +kernel)) rfl : Cond.selects yX5_isReadable.cls yX5_isReadable yX5_isReadable ∈ z_T), (z_T_in (List.mem_of_getElem? (i := 87) (by decide +kernel)) rfl : Cond.initialized yX5_isReadable.cls ∈ z_T), ⟨by decide, by decide, by decide +kernel⟩⟩
set_option maxRecDepth 20000 in
theorem zc_X10_160 : z_CV RX10 160 yX5_leastInAll cX5_leastInAll 1 (some .int) 0 := ⟨(z_T_in (List.mem_of_getElem? (i := 603) (by decide +kernel)) rfl : Cond.code yX5_leastInAll cX5_leastInAll 1 (some .int) ∈ z_T), (z_T_in (List.mem_of_getElem? (i := 600) (by decide +kernel)) rfl : Cond.methodLink RX10 160 yX5_leastInAll ∈ z_T), (z_T_in (List.mem_of_getElem? (i := 601) (by decide +kernel)) rfl : Cond.instanceMethod yX5_leastInAll ∈ z_T), (z_T_in (List.mem_of_getElem? (i := 602) (by decide +kernel)) rfl : Cond.selects yX5_leastInAll.cls yX5_leastInAll yX5_leastInAll ∈ z_T), (z_T_in (List.mem_of_getElem? (i := 87) (by decide +kernel)) rfl : Cond.initialized yX5_leastInAll.cls ∈ z_T), ⟨by decide, by decide, by decide +kernel⟩⟩
set_option maxRecDepth 20000 in
theorem zl_X10_163 : Cond.constantLong RX10 163 (1000000000) ∈ z_T := z_T_in (List.mem_of_getElem? (i := 604) (by decide +kernel)) rfl
set_option maxRecDepth 20000 in
theorem zcs_245 : (Int16.ofInt (245)).toInt32 = 245 := by decide
set_option maxRecDepth 20000 in
theorem zf_X11_73 : z_FL RX11 73 11 28 := ⟨RX11, TX11, 52, rfl, zin_X11, by decide, (z_T_in (List.mem_of_getElem? (i := 981) (by decide +kernel)) rfl : Cond.fieldLink RX11 73 "RunTogetherModel" "isMet" "[Z" ∈ z_T)⟩
set_option maxRecDepth 20000 in
theorem zo_M_28 : z_fk layM nM 0 11 28 (2, 20) := ⟨by decide, _, rfl, rfl⟩
set_option maxRecDepth 20000 in
theorem za_M_20 : z_ak layM nM 20 2 245 := ⟨by decide, _, rfl⟩
set_option maxRecDepth 20000 in
theorem zc_X11_228 : z_CV RX11 228 yX11_letterOf cX11_letterOf 4 (some .int) 3 := ⟨(z_T_in (List.mem_of_getElem? (i := 1255) (by decide +kernel)) rfl : Cond.code yX11_letterOf cX11_letterOf 4 (some .int) ∈ z_T), (z_T_in (List.mem_of_getElem? (i := 1252) (by decide +kernel)) rfl : Cond.methodLink RX11 228 yX11_letterOf ∈ z_T), (z_T_in (List.mem_of_getElem? (i := 1254) (by decide +kernel)) rfl : Cond.instanceMethod yX11_letterOf ∈ z_T), (z_T_in (List.mem_of_getElem? (i := 59) (by decide +kernel)) rfl : Cond.selects yX11_letterOf.cls yX11_letterOf yX11_letterOf ∈ z_T), (z_T_in (List.mem_of_getElem? (i := 91) (by decide +kernel)) rfl : Cond.initialized yX11_letterOf.cls ∈ z_T), ⟨by decide, by decide, by decide +kernel⟩⟩
set_option maxRecDepth 20000 in
theorem zc_X11_232 : z_CV RX11 232 yX11_comesIn cX11_comesIn 7 (some .boolean) 4 := ⟨(z_T_in (List.mem_of_getElem? (i := 1251) (by decide +kernel)) rfl : Cond.code yX11_comesIn cX11_comesIn 7 (some .boolean) ∈ z_T), (z_T_in (List.mem_of_getElem? (i := 1248) (by decide +kernel)) rfl : Cond.methodLink RX11 232 yX11_comesIn ∈ z_T), (z_T_in (List.mem_of_getElem? (i := 1250) (by decide +kernel)) rfl : Cond.instanceMethod yX11_comesIn ∈ z_T), (z_T_in (List.mem_of_getElem? (i := 58) (by decide +kernel)) rfl : Cond.selects yX11_comesIn.cls yX11_comesIn yX11_comesIn ∈ z_T), (z_T_in (List.mem_of_getElem? (i := 91) (by decide +kernel)) rfl : Cond.initialized yX11_comesIn.cls ∈ z_T), ⟨by decide, by decide, by decide +kernel⟩⟩
set_option maxRecDepth 20000 in
theorem zc_X11_236 : z_CV RX11 236 yX11_hides cX11_hides 6 (some .boolean) 1 := ⟨(z_T_in (List.mem_of_getElem? (i := 1247) (by decide +kernel)) rfl : Cond.code yX11_hides cX11_hides 6 (some .boolean) ∈ z_T), (z_T_in (List.mem_of_getElem? (i := 1244) (by decide +kernel)) rfl : Cond.methodLink RX11 236 yX11_hides ∈ z_T), (z_T_in (List.mem_of_getElem? (i := 1246) (by decide +kernel)) rfl : Cond.instanceMethod yX11_hides ∈ z_T), (z_T_in (List.mem_of_getElem? (i := 57) (by decide +kernel)) rfl : Cond.selects yX11_hides.cls yX11_hides yX11_hides ∈ z_T), (z_T_in (List.mem_of_getElem? (i := 91) (by decide +kernel)) rfl : Cond.initialized yX11_hides.cls ∈ z_T), ⟨by decide, by decide, by decide +kernel⟩⟩
set_option maxRecDepth 20000 in
theorem zc_X10_259 : z_CV RX10 259 yX9_liesAt cX9_liesAt 9 (some .boolean) 4 := ⟨(z_T_in (List.mem_of_getElem? (i := 469) (by decide +kernel)) rfl : Cond.code yX9_liesAt cX9_liesAt 9 (some .boolean) ∈ z_T), (z_T_in (List.mem_of_getElem? (i := 621) (by decide +kernel)) rfl : Cond.methodLink RX10 259 yX9_liesAt ∈ z_T), (z_T_in (List.mem_of_getElem? (i := 467) (by decide +kernel)) rfl : Cond.instanceMethod yX9_liesAt ∈ z_T), (z_T_in (List.mem_of_getElem? (i := 468) (by decide +kernel)) rfl : Cond.selects yX9_liesAt.cls yX9_liesAt yX9_liesAt ∈ z_T), (z_T_in (List.mem_of_getElem? (i := 83) (by decide +kernel)) rfl : Cond.initialized yX9_liesAt.cls ∈ z_T), ⟨by decide, by decide, by decide +kernel⟩⟩
set_option maxRecDepth 20000 in
theorem zc_X10_266 : z_CV RX10 266 yX10_isHiddenIn cX10_isHiddenIn 7 (some .boolean) 3 := ⟨(z_T_in (List.mem_of_getElem? (i := 633) (by decide +kernel)) rfl : Cond.code yX10_isHiddenIn cX10_isHiddenIn 7 (some .boolean) ∈ z_T), (z_T_in (List.mem_of_getElem? (i := 630) (by decide +kernel)) rfl : Cond.methodLink RX10 266 yX10_isHiddenIn ∈ z_T), (z_T_in (List.mem_of_getElem? (i := 632) (by decide +kernel)) rfl : Cond.instanceMethod yX10_isHiddenIn ∈ z_T), (z_T_in (List.mem_of_getElem? (i := 19) (by decide +kernel)) rfl : Cond.selects yX10_isHiddenIn.cls yX10_isHiddenIn yX10_isHiddenIn ∈ z_T), (z_T_in (List.mem_of_getElem? (i := 81) (by decide +kernel)) rfl : Cond.initialized yX10_isHiddenIn.cls ∈ z_T), ⟨by decide, by decide, by decide +kernel⟩⟩
set_option maxRecDepth 20000 in
theorem zc_X10_263 : z_CV RX10 263 yX10_isHidden cX10_isHidden 4 (some .boolean) 1 := ⟨(z_T_in (List.mem_of_getElem? (i := 629) (by decide +kernel)) rfl : Cond.code yX10_isHidden cX10_isHidden 4 (some .boolean) ∈ z_T), (z_T_in (List.mem_of_getElem? (i := 626) (by decide +kernel)) rfl : Cond.methodLink RX10 263 yX10_isHidden ∈ z_T), (z_T_in (List.mem_of_getElem? (i := 628) (by decide +kernel)) rfl : Cond.instanceMethod yX10_isHidden ∈ z_T), (z_T_in (List.mem_of_getElem? (i := 18) (by decide +kernel)) rfl : Cond.selects yX10_isHidden.cls yX10_isHidden yX10_isHidden ∈ z_T), (z_T_in (List.mem_of_getElem? (i := 81) (by decide +kernel)) rfl : Cond.initialized yX10_isHidden.cls ∈ z_T), ⟨by decide, by decide, by decide +kernel⟩⟩
set_option maxRecDepth 20000 in
theorem zc_X10_165 : z_CV RX10 165 yX10_countPairs cX10_countPairs 6 (some .int) 1 := ⟨(z_T_in (List.mem_of_getElem? (i := 620) (by decide +kernel)) rfl : Cond.code yX10_countPairs cX10_countPairs 6 (some .int) ∈ z_T), (z_T_in (List.mem_of_getElem? (i := 617) (by decide +kernel)) rfl : Cond.methodLink RX10 165 yX10_countPairs ∈ z_T), (z_T_in (List.mem_of_getElem? (i := 619) (by decide +kernel)) rfl : Cond.instanceMethod yX10_countPairs ∈ z_T), (z_T_in (List.mem_of_getElem? (i := 16) (by decide +kernel)) rfl : Cond.selects yX10_countPairs.cls yX10_countPairs yX10_countPairs ∈ z_T), (z_T_in (List.mem_of_getElem? (i := 81) (by decide +kernel)) rfl : Cond.initialized yX10_countPairs.cls ∈ z_T), ⟨by decide, by decide, by decide +kernel⟩⟩
set_option maxRecDepth 20000 in
theorem zc_X10_169 : z_CV RX10 169 yX10_countHidden cX10_countHidden 3 (some .int) 0 := ⟨(z_T_in (List.mem_of_getElem? (i := 625) (by decide +kernel)) rfl : Cond.code yX10_countHidden cX10_countHidden 3 (some .int) ∈ z_T), (z_T_in (List.mem_of_getElem? (i := 622) (by decide +kernel)) rfl : Cond.methodLink RX10 169 yX10_countHidden ∈ z_T), (z_T_in (List.mem_of_getElem? (i := 624) (by decide +kernel)) rfl : Cond.instanceMethod yX10_countHidden ∈ z_T), (z_T_in (List.mem_of_getElem? (i := 17) (by decide +kernel)) rfl : Cond.selects yX10_countHidden.cls yX10_countHidden yX10_countHidden ∈ z_T), (z_T_in (List.mem_of_getElem? (i := 81) (by decide +kernel)) rfl : Cond.initialized yX10_countHidden.cls ∈ z_T), ⟨by decide, by decide, by decide +kernel⟩⟩
set_option maxRecDepth 20000 in
theorem zf_X11_239 : z_FL RX11 239 11 35 := ⟨RX11, TX11, 52, rfl, zin_X11, by decide, (z_T_in (List.mem_of_getElem? (i := 988) (by decide +kernel)) rfl : Cond.fieldLink RX11 239 "RunTogetherModel" "nextA" "J" ∈ z_T)⟩
set_option maxRecDepth 20000 in
theorem zo_M_35 : z_fk layM nM 0 11 35 (1, 0) := ⟨by decide, _, rfl, rfl⟩
set_option maxRecDepth 20000 in
theorem zp_X11_239 : z_FP RX11 239 11 35 .long := ⟨RX11, TX11, 52, tyX11, rfl, zin_X11, by decide, (z_T_in (List.mem_of_getElem? (i := 988) (by decide +kernel)) rfl : Cond.fieldLink RX11 239 "RunTogetherModel" "nextA" "J" ∈ z_T), tyX11_ok, nmX11, rfl, by decide +kernel⟩
set_option maxRecDepth 20000 in
theorem zf_X11_243 : z_FL RX11 243 11 36 := ⟨RX11, TX11, 52, rfl, zin_X11, by decide, (z_T_in (List.mem_of_getElem? (i := 989) (by decide +kernel)) rfl : Cond.fieldLink RX11 243 "RunTogetherModel" "nextB" "J" ∈ z_T)⟩
set_option maxRecDepth 20000 in
theorem zo_M_36 : z_fk layM nM 0 11 36 (1, 0) := ⟨by decide, _, rfl, rfl⟩
set_option maxRecDepth 20000 in
theorem zp_X11_243 : z_FP RX11 243 11 36 .long := ⟨RX11, TX11, 52, tyX11, rfl, zin_X11, by decide, (z_T_in (List.mem_of_getElem? (i := 989) (by decide +kernel)) rfl : Cond.fieldLink RX11 243 "RunTogetherModel" "nextB" "J" ∈ z_T), tyX11_ok, nmX11, rfl, by decide +kernel⟩
set_option maxRecDepth 20000 in
theorem zf_X11_76 : z_FL RX11 76 11 29 := ⟨RX11, TX11, 52, rfl, zin_X11, by decide, (z_T_in (List.mem_of_getElem? (i := 982) (by decide +kernel)) rfl : Cond.fieldLink RX11 76 "RunTogetherModel" "stateA" "[J" ∈ z_T)⟩
set_option maxRecDepth 20000 in
theorem zo_M_29 : z_fk layM nM 0 11 29 (2, 21) := ⟨by decide, _, rfl, rfl⟩
set_option maxRecDepth 20000 in
theorem zf_X11_254 : z_FL RX11 254 11 34 := ⟨RX11, TX11, 52, rfl, zin_X11, by decide, (z_T_in (List.mem_of_getElem? (i := 987) (by decide +kernel)) rfl : Cond.fieldLink RX11 254 "RunTogetherModel" "states" "I" ∈ z_T)⟩
set_option maxRecDepth 20000 in
theorem zo_M_34 : z_fk layM nM 0 11 34 (0, 0) := ⟨by decide, _, rfl, rfl⟩
set_option maxRecDepth 20000 in
theorem za_M_21 : z_ak layM nM 21 1 2001 := ⟨by decide, _, rfl⟩
set_option maxRecDepth 20000 in
theorem zf_X11_79 : z_FL RX11 79 11 30 := ⟨RX11, TX11, 52, rfl, zin_X11, by decide, (z_T_in (List.mem_of_getElem? (i := 983) (by decide +kernel)) rfl : Cond.fieldLink RX11 79 "RunTogetherModel" "stateB" "[J" ∈ z_T)⟩
set_option maxRecDepth 20000 in
theorem zo_M_30 : z_fk layM nM 0 11 30 (2, 22) := ⟨by decide, _, rfl, rfl⟩
set_option maxRecDepth 20000 in
theorem za_M_22 : z_ak layM nM 22 1 2001 := ⟨by decide, _, rfl⟩
set_option maxRecDepth 20000 in
theorem zf_X11_82 : z_FL RX11 82 11 31 := ⟨RX11, TX11, 52, rfl, zin_X11, by decide, (z_T_in (List.mem_of_getElem? (i := 984) (by decide +kernel)) rfl : Cond.fieldLink RX11 82 "RunTogetherModel" "cameFrom" "[I" ∈ z_T)⟩
set_option maxRecDepth 20000 in
theorem zo_M_31 : z_fk layM nM 0 11 31 (2, 23) := ⟨by decide, _, rfl, rfl⟩
set_option maxRecDepth 20000 in
theorem za_M_23 : z_ak layM nM 23 0 2001 := ⟨by decide, _, rfl⟩
set_option maxRecDepth 20000 in
theorem zf_X11_85 : z_FL RX11 85 11 32 := ⟨RX11, TX11, 52, rfl, zin_X11, by decide, (z_T_in (List.mem_of_getElem? (i := 985) (by decide +kernel)) rfl : Cond.fieldLink RX11 85 "RunTogetherModel" "cameBy" "[I" ∈ z_T)⟩
set_option maxRecDepth 20000 in
theorem zo_M_32 : z_fk layM nM 0 11 32 (2, 24) := ⟨by decide, _, rfl, rfl⟩
set_option maxRecDepth 20000 in
theorem za_M_24 : z_ak layM nM 24 0 2001 := ⟨by decide, _, rfl⟩
set_option maxRecDepth 20000 in
theorem zf_X11_88 : z_FL RX11 88 11 33 := ⟨RX11, TX11, 52, rfl, zin_X11, by decide, (z_T_in (List.mem_of_getElem? (i := 986) (by decide +kernel)) rfl : Cond.fieldLink RX11 88 "RunTogetherModel" "depth" "[I" ∈ z_T)⟩
set_option maxRecDepth 20000 in
theorem zo_M_33 : z_fk layM nM 0 11 33 (2, 25) := ⟨by decide, _, rfl, rfl⟩
set_option maxRecDepth 20000 in
theorem za_M_25 : z_ak layM nM 25 0 2001 := ⟨by decide, _, rfl⟩
set_option maxRecDepth 20000 in
theorem zp_X11_254 : z_FP RX11 254 11 34 .int := ⟨RX11, TX11, 52, tyX11, rfl, zin_X11, by decide, (z_T_in (List.mem_of_getElem? (i := 987) (by decide +kernel)) rfl : Cond.fieldLink RX11 254 "RunTogetherModel" "states" "I" ∈ z_T), tyX11_ok, nmX11, rfl, by decide +kernel⟩
set_option maxRecDepth 20000 in
theorem zc_X11_246 : z_CV RX11 246 yX11_mark cX11_mark 3 none 2 := ⟨(z_T_in (List.mem_of_getElem? (i := 1275) (by decide +kernel)) rfl : Cond.code yX11_mark cX11_mark 3 none ∈ z_T), (z_T_in (List.mem_of_getElem? (i := 1272) (by decide +kernel)) rfl : Cond.methodLink RX11 246 yX11_mark ∈ z_T), (z_T_in (List.mem_of_getElem? (i := 1274) (by decide +kernel)) rfl : Cond.instanceMethod yX11_mark ∈ z_T), (z_T_in (List.mem_of_getElem? (i := 63) (by decide +kernel)) rfl : Cond.selects yX11_mark.cls yX11_mark yX11_mark ∈ z_T), (z_T_in (List.mem_of_getElem? (i := 91) (by decide +kernel)) rfl : Cond.initialized yX11_mark.cls ∈ z_T), ⟨by decide, by decide, by decide +kernel⟩⟩
set_option maxRecDepth 20000 in
theorem zc_X11_257 : z_CV RX11 257 yX11_addState cX11_addState 4 none 3 := ⟨(z_T_in (List.mem_of_getElem? (i := 1279) (by decide +kernel)) rfl : Cond.code yX11_addState cX11_addState 4 none ∈ z_T), (z_T_in (List.mem_of_getElem? (i := 1276) (by decide +kernel)) rfl : Cond.methodLink RX11 257 yX11_addState ∈ z_T), (z_T_in (List.mem_of_getElem? (i := 1278) (by decide +kernel)) rfl : Cond.instanceMethod yX11_addState ∈ z_T), (z_T_in (List.mem_of_getElem? (i := 64) (by decide +kernel)) rfl : Cond.selects yX11_addState.cls yX11_addState yX11_addState ∈ z_T), (z_T_in (List.mem_of_getElem? (i := 91) (by decide +kernel)) rfl : Cond.initialized yX11_addState.cls ∈ z_T), ⟨by decide, by decide, by decide +kernel⟩⟩
set_option maxRecDepth 20000 in
theorem zcb_7 : (Int8.ofInt (7)).toInt32 = 7 := by decide
set_option maxRecDepth 20000 in
theorem zc_X11_250 : z_CV RX11 250 yX11_isMarked cX11_isMarked 6 (some .boolean) 3 := ⟨(z_T_in (List.mem_of_getElem? (i := 1287) (by decide +kernel)) rfl : Cond.code yX11_isMarked cX11_isMarked 6 (some .boolean) ∈ z_T), (z_T_in (List.mem_of_getElem? (i := 1284) (by decide +kernel)) rfl : Cond.methodLink RX11 250 yX11_isMarked ∈ z_T), (z_T_in (List.mem_of_getElem? (i := 1286) (by decide +kernel)) rfl : Cond.instanceMethod yX11_isMarked ∈ z_T), (z_T_in (List.mem_of_getElem? (i := 66) (by decide +kernel)) rfl : Cond.selects yX11_isMarked.cls yX11_isMarked yX11_isMarked ∈ z_T), (z_T_in (List.mem_of_getElem? (i := 91) (by decide +kernel)) rfl : Cond.initialized yX11_isMarked.cls ∈ z_T), ⟨by decide, by decide, by decide +kernel⟩⟩
set_option maxRecDepth 20000 in
theorem zf_X11_91 : z_FL RX11 91 11 37 := ⟨RX11, TX11, 52, rfl, zin_X11, by decide, (z_T_in (List.mem_of_getElem? (i := 990) (by decide +kernel)) rfl : Cond.fieldLink RX11 91 "RunTogetherModel" "found" "[I" ∈ z_T)⟩
set_option maxRecDepth 20000 in
theorem zo_M_37 : z_fk layM nM 0 11 37 (2, 26) := ⟨by decide, _, rfl, rfl⟩
set_option maxRecDepth 20000 in
theorem za_M_26 : z_ak layM nM 26 0 12 := ⟨by decide, _, rfl⟩
set_option maxRecDepth 20000 in
theorem zp_X11_260 : z_FP RX11 260 11 38 .int := ⟨RX11, TX11, 52, tyX11, rfl, zin_X11, by decide, (z_T_in (List.mem_of_getElem? (i := 991) (by decide +kernel)) rfl : Cond.fieldLink RX11 260 "RunTogetherModel" "foundSize" "I" ∈ z_T), tyX11_ok, nmX11, rfl, by decide +kernel⟩
set_option maxRecDepth 20000 in
theorem zo_M_38 : z_fk layM nM 0 11 38 (0, 0) := ⟨by decide, _, rfl, rfl⟩
set_option maxRecDepth 20000 in
theorem zf_X11_260 : z_FL RX11 260 11 38 := ⟨RX11, TX11, 52, rfl, zin_X11, by decide, (z_T_in (List.mem_of_getElem? (i := 991) (by decide +kernel)) rfl : Cond.fieldLink RX11 260 "RunTogetherModel" "foundSize" "I" ∈ z_T)⟩
set_option maxRecDepth 20000 in
theorem zc_X11_273 : z_CV RX11 273 yX11_findState cX11_findState 2 (some .int) 0 := ⟨(z_T_in (List.mem_of_getElem? (i := 1295) (by decide +kernel)) rfl : Cond.code yX11_findState cX11_findState 2 (some .int) ∈ z_T), (z_T_in (List.mem_of_getElem? (i := 1292) (by decide +kernel)) rfl : Cond.methodLink RX11 273 yX11_findState ∈ z_T), (z_T_in (List.mem_of_getElem? (i := 1294) (by decide +kernel)) rfl : Cond.instanceMethod yX11_findState ∈ z_T), (z_T_in (List.mem_of_getElem? (i := 68) (by decide +kernel)) rfl : Cond.selects yX11_findState.cls yX11_findState yX11_findState ∈ z_T), (z_T_in (List.mem_of_getElem? (i := 91) (by decide +kernel)) rfl : Cond.initialized yX11_findState.cls ∈ z_T), ⟨by decide, by decide, by decide +kernel⟩⟩
set_option maxRecDepth 20000 in
theorem zcs_2000 : (Int16.ofInt (2000)).toInt32 = 2000 := by decide
set_option maxRecDepth 20000 in
theorem zc_X11_267 : z_CV RX11 267 yX11_goOn cX11_goOn 6 none 2 := ⟨(z_T_in (List.mem_of_getElem? (i := 1283) (by decide +kernel)) rfl : Cond.code yX11_goOn cX11_goOn 6 none ∈ z_T), (z_T_in (List.mem_of_getElem? (i := 1280) (by decide +kernel)) rfl : Cond.methodLink RX11 267 yX11_goOn ∈ z_T), (z_T_in (List.mem_of_getElem? (i := 1282) (by decide +kernel)) rfl : Cond.instanceMethod yX11_goOn ∈ z_T), (z_T_in (List.mem_of_getElem? (i := 65) (by decide +kernel)) rfl : Cond.selects yX11_goOn.cls yX11_goOn yX11_goOn ∈ z_T), (z_T_in (List.mem_of_getElem? (i := 91) (by decide +kernel)) rfl : Cond.initialized yX11_goOn.cls ∈ z_T), ⟨by decide, by decide, by decide +kernel⟩⟩
set_option maxRecDepth 20000 in
theorem zcb_12 : (Int8.ofInt (12)).toInt32 = 12 := by decide
set_option maxRecDepth 20000 in
theorem zc_X11_270 : z_CV RX11 270 yX11_layRow cX11_layRow 5 none 2 := ⟨(z_T_in (List.mem_of_getElem? (i := 1291) (by decide +kernel)) rfl : Cond.code yX11_layRow cX11_layRow 5 none ∈ z_T), (z_T_in (List.mem_of_getElem? (i := 1288) (by decide +kernel)) rfl : Cond.methodLink RX11 270 yX11_layRow ∈ z_T), (z_T_in (List.mem_of_getElem? (i := 1290) (by decide +kernel)) rfl : Cond.instanceMethod yX11_layRow ∈ z_T), (z_T_in (List.mem_of_getElem? (i := 67) (by decide +kernel)) rfl : Cond.selects yX11_layRow.cls yX11_layRow yX11_layRow ∈ z_T), (z_T_in (List.mem_of_getElem? (i := 91) (by decide +kernel)) rfl : Cond.initialized yX11_layRow.cls ∈ z_T), ⟨by decide, by decide, by decide +kernel⟩⟩
set_option maxRecDepth 20000 in
theorem zc_X11_263 : z_CV RX11 263 yX11_beginStates cX11_beginStates 4 none 1 := ⟨(z_T_in (List.mem_of_getElem? (i := 1271) (by decide +kernel)) rfl : Cond.code yX11_beginStates cX11_beginStates 4 none ∈ z_T), (z_T_in (List.mem_of_getElem? (i := 1268) (by decide +kernel)) rfl : Cond.methodLink RX11 263 yX11_beginStates ∈ z_T), (z_T_in (List.mem_of_getElem? (i := 1270) (by decide +kernel)) rfl : Cond.instanceMethod yX11_beginStates ∈ z_T), (z_T_in (List.mem_of_getElem? (i := 62) (by decide +kernel)) rfl : Cond.selects yX11_beginStates.cls yX11_beginStates yX11_beginStates ∈ z_T), (z_T_in (List.mem_of_getElem? (i := 91) (by decide +kernel)) rfl : Cond.initialized yX11_beginStates.cls ∈ z_T), ⟨by decide, by decide, by decide +kernel⟩⟩
set_option maxRecDepth 20000 in
theorem zcs_m1003 : (Int16.ofInt (-1003)).toInt32 = -1003 := by decide
set_option maxRecDepth 20000 in
theorem zc_X11_276 : z_CV RX11 276 yX11_look cX11_look 5 (some .int) 1 := ⟨(z_T_in (List.mem_of_getElem? (i := 1267) (by decide +kernel)) rfl : Cond.code yX11_look cX11_look 5 (some .int) ∈ z_T), (z_T_in (List.mem_of_getElem? (i := 1264) (by decide +kernel)) rfl : Cond.methodLink RX11 276 yX11_look ∈ z_T), (z_T_in (List.mem_of_getElem? (i := 1266) (by decide +kernel)) rfl : Cond.instanceMethod yX11_look ∈ z_T), (z_T_in (List.mem_of_getElem? (i := 61) (by decide +kernel)) rfl : Cond.selects yX11_look.cls yX11_look yX11_look ∈ z_T), (z_T_in (List.mem_of_getElem? (i := 91) (by decide +kernel)) rfl : Cond.initialized yX11_look.cls ∈ z_T), ⟨by decide, by decide, by decide +kernel⟩⟩
set_option maxRecDepth 20000 in
theorem zc_X11_279 : z_CV RX11 279 yX11_shortest cX11_shortest 4 (some .int) 2 := ⟨(z_T_in (List.mem_of_getElem? (i := 1263) (by decide +kernel)) rfl : Cond.code yX11_shortest cX11_shortest 4 (some .int) ∈ z_T), (z_T_in (List.mem_of_getElem? (i := 1260) (by decide +kernel)) rfl : Cond.methodLink RX11 279 yX11_shortest ∈ z_T), (z_T_in (List.mem_of_getElem? (i := 1262) (by decide +kernel)) rfl : Cond.instanceMethod yX11_shortest ∈ z_T), (z_T_in (List.mem_of_getElem? (i := 60) (by decide +kernel)) rfl : Cond.selects yX11_shortest.cls yX11_shortest yX11_shortest ∈ z_T), (z_T_in (List.mem_of_getElem? (i := 91) (by decide +kernel)) rfl : Cond.initialized yX11_shortest.cls ∈ z_T), ⟨by decide, by decide, by decide +kernel⟩⟩
set_option maxRecDepth 20000 in
theorem zf_X10_244 : z_FL RX10 244 10 11 := ⟨RX10, TX10, 12, rfl, zin_X10, by decide, (z_T_in (List.mem_of_getElem? (i := 385) (by decide +kernel)) rfl : Cond.fieldLink RX10 244 "RunTogether" "knowing" "LRunTogether$Knowing;" ∈ z_T)⟩
set_option maxRecDepth 20000 in
theorem zo_K_0_11 : z_fk (layX true) (nX true) 0 10 11 (2, 47) := ⟨by decide, _, rfl, rfl⟩
set_option maxRecDepth 20000 in
theorem zp_X4_9 : z_FP RX4 9 4 0 .long := ⟨RX4, TX4, 2, tyX4, rfl, zin_X4, by decide, (z_T_in (List.mem_of_getElem? (i := 659) (by decide +kernel)) rfl : Cond.fieldLink RX4 9 "RunTogether$Places" "low" "J" ∈ z_T), tyX4_ok, nmX4, rfl, by decide +kernel⟩
set_option maxRecDepth 20000 in
theorem zo_K_58_0 : z_fk (layX true) (nX true) 58 4 0 (1, 0) := ⟨by decide, _, rfl, rfl⟩
set_option maxRecDepth 20000 in
theorem zp_X4_19 : z_FP RX4 19 4 1 .long := ⟨RX4, TX4, 2, tyX4, rfl, zin_X4, by decide, (z_T_in (List.mem_of_getElem? (i := 661) (by decide +kernel)) rfl : Cond.fieldLink RX4 19 "RunTogether$Places" "high" "J" ∈ z_T), tyX4_ok, nmX4, rfl, by decide +kernel⟩
set_option maxRecDepth 20000 in
theorem zo_K_58_1 : z_fk (layX true) (nX true) 58 4 1 (1, 0) := ⟨by decide, _, rfl, rfl⟩
set_option maxRecDepth 20000 in
theorem zo_K_59_0 : z_fk (layX true) (nX true) 59 4 0 (1, 0) := ⟨by decide, _, rfl, rfl⟩
set_option maxRecDepth 20000 in
theorem zo_K_59_1 : z_fk (layX true) (nX true) 59 4 1 (1, 0) := ⟨by decide, _, rfl, rfl⟩
set_option maxRecDepth 20000 in
theorem zcb_64 : (Int8.ofInt (64)).toInt32 = 64 := by decide
set_option maxRecDepth 20000 in
theorem zf_X4_9 : z_FL RX4 9 4 0 := ⟨RX4, TX4, 2, rfl, zin_X4, by decide, (z_T_in (List.mem_of_getElem? (i := 659) (by decide +kernel)) rfl : Cond.fieldLink RX4 9 "RunTogether$Places" "low" "J" ∈ z_T)⟩
set_option maxRecDepth 20000 in
theorem zc_X4_15 : z_CS RX4 15 yX4_lowBit cX4_lowBit 1 (some .long) 1 := ⟨(z_T_in (List.mem_of_getElem? (i := 734) (by decide +kernel)) rfl : Cond.code yX4_lowBit cX4_lowBit 1 (some .long) ∈ z_T), (z_T_in (List.mem_of_getElem? (i := 732) (by decide +kernel)) rfl : Cond.methodLink RX4 15 yX4_lowBit ∈ z_T), (z_T_in (List.mem_of_getElem? (i := 733) (by decide +kernel)) rfl : Cond.static yX4_lowBit ∈ z_T), (z_T_in (List.mem_of_getElem? (i := 93) (by decide +kernel)) rfl : Cond.initialized yX4_lowBit.cls ∈ z_T), ⟨by decide, by decide, by decide +kernel⟩⟩
set_option maxRecDepth 20000 in
theorem zf_X4_19 : z_FL RX4 19 4 1 := ⟨RX4, TX4, 2, rfl, zin_X4, by decide, (z_T_in (List.mem_of_getElem? (i := 661) (by decide +kernel)) rfl : Cond.fieldLink RX4 19 "RunTogether$Places" "high" "J" ∈ z_T)⟩
set_option maxRecDepth 20000 in
theorem zc_X4_22 : z_CS RX4 22 yX4_highBit cX4_highBit 1 (some .long) 1 := ⟨(z_T_in (List.mem_of_getElem? (i := 737) (by decide +kernel)) rfl : Cond.code yX4_highBit cX4_highBit 1 (some .long) ∈ z_T), (z_T_in (List.mem_of_getElem? (i := 735) (by decide +kernel)) rfl : Cond.methodLink RX4 22 yX4_highBit ∈ z_T), (z_T_in (List.mem_of_getElem? (i := 736) (by decide +kernel)) rfl : Cond.static yX4_highBit ∈ z_T), (z_T_in (List.mem_of_getElem? (i := 93) (by decide +kernel)) rfl : Cond.initialized yX4_highBit.cls ∈ z_T), ⟨by decide, by decide, by decide +kernel⟩⟩
set_option maxRecDepth 20000 in
theorem zf_X1_37 : z_FL RX1 37 1 11 := ⟨RX1, TX1, 16, rfl, zin_X1, by decide, (z_T_in (List.mem_of_getElem? (i := 678) (by decide +kernel)) rfl : Cond.fieldLink RX1 37 "RunTogether$Knowing" "readsLow" "[J" ∈ z_T)⟩
set_option maxRecDepth 20000 in
theorem zo_K_47_11 : z_fk (layX true) (nX true) 47 1 11 (2, 56) := ⟨by decide, _, rfl, rfl⟩
set_option maxRecDepth 20000 in
theorem za_K_56 : z_ak (layX true) (nX true) 56 1 8 := ⟨by decide, _, rfl⟩
set_option maxRecDepth 20000 in
theorem zf_X1_40 : z_FL RX1 40 1 12 := ⟨RX1, TX1, 16, rfl, zin_X1, by decide, (z_T_in (List.mem_of_getElem? (i := 679) (by decide +kernel)) rfl : Cond.fieldLink RX1 40 "RunTogether$Knowing" "readsHigh" "[J" ∈ z_T)⟩
set_option maxRecDepth 20000 in
theorem zo_K_47_12 : z_fk (layX true) (nX true) 47 1 12 (2, 57) := ⟨by decide, _, rfl, rfl⟩
set_option maxRecDepth 20000 in
theorem za_K_57 : z_ak (layX true) (nX true) 57 1 8 := ⟨by decide, _, rfl⟩
set_option maxRecDepth 20000 in
theorem zf_X1_56 : z_FL RX1 56 1 0 := ⟨RX1, TX1, 16, rfl, zin_X1, by decide, (z_T_in (List.mem_of_getElem? (i := 667) (by decide +kernel)) rfl : Cond.fieldLink RX1 56 "RunTogether$Knowing" "words" "LRunTogether$Words;" ∈ z_T)⟩
set_option maxRecDepth 20000 in
theorem zo_K_47_0 : z_fk (layX true) (nX true) 47 1 0 (2, 4) := ⟨by decide, _, rfl, rfl⟩
set_option maxRecDepth 20000 in
theorem zf_X1_149 : z_FL RX1 149 9 2 := ⟨RX9, TX9, 5, rfl, zin_X9, by decide, (z_T_in (List.mem_of_getElem? (i := 149) (by decide +kernel)) rfl : Cond.fieldLink RX1 149 "RunTogether$Words" "lengths" "[I" ∈ z_T)⟩
set_option maxRecDepth 20000 in
theorem zc_X1_152 : z_CV RX1 152 yX9_sign cX9_sign 3 (some .int) 2 := ⟨(z_T_in (List.mem_of_getElem? (i := 473) (by decide +kernel)) rfl : Cond.code yX9_sign cX9_sign 3 (some .int) ∈ z_T), (z_T_in (List.mem_of_getElem? (i := 738) (by decide +kernel)) rfl : Cond.methodLink RX1 152 yX9_sign ∈ z_T), (z_T_in (List.mem_of_getElem? (i := 471) (by decide +kernel)) rfl : Cond.instanceMethod yX9_sign ∈ z_T), (z_T_in (List.mem_of_getElem? (i := 472) (by decide +kernel)) rfl : Cond.selects yX9_sign.cls yX9_sign yX9_sign ∈ z_T), (z_T_in (List.mem_of_getElem? (i := 83) (by decide +kernel)) rfl : Cond.initialized yX9_sign.cls ∈ z_T), ⟨by decide, by decide, by decide +kernel⟩⟩
set_option maxRecDepth 20000 in
theorem zc_X1_156 : z_CS RX1 156 yX4_lowBit cX4_lowBit 1 (some .long) 1 := ⟨(z_T_in (List.mem_of_getElem? (i := 734) (by decide +kernel)) rfl : Cond.code yX4_lowBit cX4_lowBit 1 (some .long) ∈ z_T), (z_T_in (List.mem_of_getElem? (i := 739) (by decide +kernel)) rfl : Cond.methodLink RX1 156 yX4_lowBit ∈ z_T), (z_T_in (List.mem_of_getElem? (i := 733) (by decide +kernel)) rfl : Cond.static yX4_lowBit ∈ z_T), (z_T_in (List.mem_of_getElem? (i := 93) (by decide +kernel)) rfl : Cond.initialized yX4_lowBit.cls ∈ z_T), ⟨by decide, by decide, by decide +kernel⟩⟩
set_option maxRecDepth 20000 in
theorem zc_X1_160 : z_CS RX1 160 yX4_highBit cX4_highBit 1 (some .long) 1 := ⟨(z_T_in (List.mem_of_getElem? (i := 737) (by decide +kernel)) rfl : Cond.code yX4_highBit cX4_highBit 1 (some .long) ∈ z_T), (z_T_in (List.mem_of_getElem? (i := 740) (by decide +kernel)) rfl : Cond.methodLink RX1 160 yX4_highBit ∈ z_T), (z_T_in (List.mem_of_getElem? (i := 736) (by decide +kernel)) rfl : Cond.static yX4_highBit ∈ z_T), (z_T_in (List.mem_of_getElem? (i := 93) (by decide +kernel)) rfl : Cond.initialized yX4_highBit.cls ∈ z_T), ⟨by decide, by decide, by decide +kernel⟩⟩
set_option maxRecDepth 20000 in
theorem zf_X1_142 : z_FL RX1 142 9 0 := ⟨RX9, TX9, 5, rfl, zin_X9, by decide, (z_T_in (List.mem_of_getElem? (i := 139) (by decide +kernel)) rfl : Cond.fieldLink RX1 142 "RunTogether$Words" "size" "I" ∈ z_T)⟩
set_option maxRecDepth 20000 in
theorem zf_X1_46 : z_FL RX1 46 1 13 := ⟨RX1, TX1, 16, rfl, zin_X1, by decide, (z_T_in (List.mem_of_getElem? (i := 680) (by decide +kernel)) rfl : Cond.fieldLink RX1 46 "RunTogether$Knowing" "firsts" "LRunTogether$Places;" ∈ z_T)⟩
set_option maxRecDepth 20000 in
theorem zo_K_47_13 : z_fk (layX true) (nX true) 47 1 13 (2, 58) := ⟨by decide, _, rfl, rfl⟩
set_option maxRecDepth 20000 in
theorem zc_X1_145 : z_CV RX1 145 yX4_add cX4_add 2 none 1 := ⟨(z_T_in (List.mem_of_getElem? (i := 731) (by decide +kernel)) rfl : Cond.code yX4_add cX4_add 2 none ∈ z_T), (z_T_in (List.mem_of_getElem? (i := 728) (by decide +kernel)) rfl : Cond.methodLink RX1 145 yX4_add ∈ z_T), (z_T_in (List.mem_of_getElem? (i := 729) (by decide +kernel)) rfl : Cond.instanceMethod yX4_add ∈ z_T), (z_T_in (List.mem_of_getElem? (i := 730) (by decide +kernel)) rfl : Cond.selects yX4_add.cls yX4_add yX4_add ∈ z_T), (z_T_in (List.mem_of_getElem? (i := 93) (by decide +kernel)) rfl : Cond.initialized yX4_add.cls ∈ z_T), ⟨by decide, by decide, by decide +kernel⟩⟩
set_option maxRecDepth 20000 in
theorem zk_K_58 : z_ok (layX true) (nX true) 58 RX4 := ⟨by decide, _, _, _, _, rfl, rfl⟩
set_option maxRecDepth 20000 in
theorem zf_X1_50 : z_FL RX1 50 1 14 := ⟨RX1, TX1, 16, rfl, zin_X1, by decide, (z_T_in (List.mem_of_getElem? (i := 681) (by decide +kernel)) rfl : Cond.fieldLink RX1 50 "RunTogether$Knowing" "lasts" "LRunTogether$Places;" ∈ z_T)⟩
set_option maxRecDepth 20000 in
theorem zo_K_47_14 : z_fk (layX true) (nX true) 47 1 14 (2, 59) := ⟨by decide, _, rfl, rfl⟩
set_option maxRecDepth 20000 in
theorem zk_K_59 : z_ok (layX true) (nX true) 59 RX4 := ⟨by decide, _, _, _, _, rfl, rfl⟩
set_option maxRecDepth 20000 in
theorem zc_X1_97 : z_CV RX1 97 yX4_empty cX4_empty 1 none 0 := ⟨(z_T_in (List.mem_of_getElem? (i := 727) (by decide +kernel)) rfl : Cond.code yX4_empty cX4_empty 1 none ∈ z_T), (z_T_in (List.mem_of_getElem? (i := 724) (by decide +kernel)) rfl : Cond.methodLink RX1 97 yX4_empty ∈ z_T), (z_T_in (List.mem_of_getElem? (i := 725) (by decide +kernel)) rfl : Cond.instanceMethod yX4_empty ∈ z_T), (z_T_in (List.mem_of_getElem? (i := 726) (by decide +kernel)) rfl : Cond.selects yX4_empty.cls yX4_empty yX4_empty ∈ z_T), (z_T_in (List.mem_of_getElem? (i := 93) (by decide +kernel)) rfl : Cond.initialized yX4_empty.cls ∈ z_T), ⟨by decide, by decide, by decide +kernel⟩⟩
set_option maxRecDepth 20000 in
theorem zo_K_60_0 : z_fk (layX true) (nX true) 60 4 0 (1, 0) := ⟨by decide, _, rfl, rfl⟩
set_option maxRecDepth 20000 in
theorem zo_K_60_1 : z_fk (layX true) (nX true) 60 4 1 (1, 0) := ⟨by decide, _, rfl, rfl⟩
set_option maxRecDepth 20000 in
theorem zf_X1_53 : z_FL RX1 53 1 15 := ⟨RX1, TX1, 16, rfl, zin_X1, by decide, (z_T_in (List.mem_of_getElem? (i := 682) (by decide +kernel)) rfl : Cond.fieldLink RX1 53 "RunTogether$Knowing" "next" "LRunTogether$Places;" ∈ z_T)⟩
set_option maxRecDepth 20000 in
theorem zo_K_47_15 : z_fk (layX true) (nX true) 47 1 15 (2, 60) := ⟨by decide, _, rfl, rfl⟩
set_option maxRecDepth 20000 in
theorem zf_X1_100 : z_FL RX1 100 4 0 := ⟨RX4, TX4, 2, rfl, zin_X4, by decide, (z_T_in (List.mem_of_getElem? (i := 658) (by decide +kernel)) rfl : Cond.fieldLink RX1 100 "RunTogether$Places" "low" "J" ∈ z_T)⟩
set_option maxRecDepth 20000 in
theorem zp_X1_100 : z_FP RX1 100 4 0 .long := ⟨RX4, TX4, 2, tyX4, rfl, zin_X4, by decide, (z_T_in (List.mem_of_getElem? (i := 658) (by decide +kernel)) rfl : Cond.fieldLink RX1 100 "RunTogether$Places" "low" "J" ∈ z_T), tyX4_ok, nmX4, rfl, by decide +kernel⟩
set_option maxRecDepth 20000 in
theorem zf_X1_104 : z_FL RX1 104 4 1 := ⟨RX4, TX4, 2, rfl, zin_X4, by decide, (z_T_in (List.mem_of_getElem? (i := 660) (by decide +kernel)) rfl : Cond.fieldLink RX1 104 "RunTogether$Places" "high" "J" ∈ z_T)⟩
set_option maxRecDepth 20000 in
theorem zp_X1_104 : z_FP RX1 104 4 1 .long := ⟨RX4, TX4, 2, tyX4, rfl, zin_X4, by decide, (z_T_in (List.mem_of_getElem? (i := 660) (by decide +kernel)) rfl : Cond.fieldLink RX1 104 "RunTogether$Places" "high" "J" ∈ z_T), tyX4_ok, nmX4, rfl, by decide +kernel⟩
set_option maxRecDepth 20000 in
theorem zk_K_60 : z_ok (layX true) (nX true) 60 RX4 := ⟨by decide, _, _, _, _, rfl, rfl⟩
set_option maxRecDepth 20000 in
theorem zl_X4_25 : Cond.constantLong RX4 25 (31) ∈ z_T := z_T_in (List.mem_of_getElem? (i := 757) (by decide +kernel)) rfl
set_option maxRecDepth 20000 in
theorem zl_X4_27 : Cond.constantLong RX4 27 (-7046029254386353131) ∈ z_T := z_T_in (List.mem_of_getElem? (i := 758) (by decide +kernel)) rfl
set_option maxRecDepth 20000 in
theorem zcb_54 : (Int8.ofInt (54)).toInt32 = 54 := by decide
set_option maxRecDepth 20000 in
theorem zcs_1023 : (Int16.ofInt (1023)).toInt32 = 1023 := by decide
set_option maxRecDepth 20000 in
theorem zf_X1_90 : z_FL RX1 90 1 2 := ⟨RX1, TX1, 16, rfl, zin_X1, by decide, (z_T_in (List.mem_of_getElem? (i := 669) (by decide +kernel)) rfl : Cond.fieldLink RX1 90 "RunTogether$Knowing" "size" "I" ∈ z_T)⟩
set_option maxRecDepth 20000 in
theorem zo_K_47_2 : z_fk (layX true) (nX true) 47 1 2 (0, 0) := ⟨by decide, _, rfl, rfl⟩
set_option maxRecDepth 20000 in
theorem zf_X1_9 : z_FL RX1 9 1 3 := ⟨RX1, TX1, 16, rfl, zin_X1, by decide, (z_T_in (List.mem_of_getElem? (i := 670) (by decide +kernel)) rfl : Cond.fieldLink RX1 9 "RunTogether$Knowing" "lows" "[J" ∈ z_T)⟩
set_option maxRecDepth 20000 in
theorem zo_K_47_3 : z_fk (layX true) (nX true) 47 1 3 (2, 48) := ⟨by decide, _, rfl, rfl⟩
set_option maxRecDepth 20000 in
theorem za_K_48 : z_ak (layX true) (nX true) 48 1 2000 := ⟨by decide, _, rfl⟩
set_option maxRecDepth 20000 in
theorem zf_X1_15 : z_FL RX1 15 1 4 := ⟨RX1, TX1, 16, rfl, zin_X1, by decide, (z_T_in (List.mem_of_getElem? (i := 671) (by decide +kernel)) rfl : Cond.fieldLink RX1 15 "RunTogether$Knowing" "highs" "[J" ∈ z_T)⟩
set_option maxRecDepth 20000 in
theorem zo_K_47_4 : z_fk (layX true) (nX true) 47 1 4 (2, 49) := ⟨by decide, _, rfl, rfl⟩
set_option maxRecDepth 20000 in
theorem za_K_49 : z_ak (layX true) (nX true) 49 1 2000 := ⟨by decide, _, rfl⟩
set_option maxRecDepth 20000 in
theorem zf_X1_22 : z_FL RX1 22 1 6 := ⟨RX1, TX1, 16, rfl, zin_X1, by decide, (z_T_in (List.mem_of_getElem? (i := 673) (by decide +kernel)) rfl : Cond.fieldLink RX1 22 "RunTogether$Knowing" "chained" "[I" ∈ z_T)⟩
set_option maxRecDepth 20000 in
theorem zo_K_47_6 : z_fk (layX true) (nX true) 47 1 6 (2, 51) := ⟨by decide, _, rfl, rfl⟩
set_option maxRecDepth 20000 in
theorem zf_X1_18 : z_FL RX1 18 1 5 := ⟨RX1, TX1, 16, rfl, zin_X1, by decide, (z_T_in (List.mem_of_getElem? (i := 672) (by decide +kernel)) rfl : Cond.fieldLink RX1 18 "RunTogether$Knowing" "heads" "[I" ∈ z_T)⟩
set_option maxRecDepth 20000 in
theorem zo_K_47_5 : z_fk (layX true) (nX true) 47 1 5 (2, 50) := ⟨by decide, _, rfl, rfl⟩
set_option maxRecDepth 20000 in
theorem zc_X1_165 : z_CV RX1 165 yX4_head cX4_head 3 (some .int) 0 := ⟨(z_T_in (List.mem_of_getElem? (i := 756) (by decide +kernel)) rfl : Cond.code yX4_head cX4_head 3 (some .int) ∈ z_T), (z_T_in (List.mem_of_getElem? (i := 753) (by decide +kernel)) rfl : Cond.methodLink RX1 165 yX4_head ∈ z_T), (z_T_in (List.mem_of_getElem? (i := 754) (by decide +kernel)) rfl : Cond.instanceMethod yX4_head ∈ z_T), (z_T_in (List.mem_of_getElem? (i := 755) (by decide +kernel)) rfl : Cond.selects yX4_head.cls yX4_head yX4_head ∈ z_T), (z_T_in (List.mem_of_getElem? (i := 93) (by decide +kernel)) rfl : Cond.initialized yX4_head.cls ∈ z_T), ⟨by decide, by decide, by decide +kernel⟩⟩
set_option maxRecDepth 20000 in
theorem za_K_50 : z_ak (layX true) (nX true) 50 0 1024 := ⟨by decide, _, rfl⟩
set_option maxRecDepth 20000 in
theorem za_K_51 : z_ak (layX true) (nX true) 51 0 2000 := ⟨by decide, _, rfl⟩
set_option maxRecDepth 20000 in
theorem zp_X1_90 : z_FP RX1 90 1 2 .int := ⟨RX1, TX1, 16, tyX1, rfl, zin_X1, by decide, (z_T_in (List.mem_of_getElem? (i := 669) (by decide +kernel)) rfl : Cond.fieldLink RX1 90 "RunTogether$Knowing" "size" "I" ∈ z_T), tyX1_ok, nmX1, rfl, by decide +kernel⟩
set_option maxRecDepth 20000 in
theorem zcs_1024 : (Int16.ofInt (1024)).toInt32 = 1024 := by decide
set_option maxRecDepth 20000 in
theorem zc_X1_127 : z_CV RX1 127 yX1_keep cX1_keep 1 none 0 := ⟨(z_T_in (List.mem_of_getElem? (i := 752) (by decide +kernel)) rfl : Cond.code yX1_keep cX1_keep 1 none ∈ z_T), (z_T_in (List.mem_of_getElem? (i := 749) (by decide +kernel)) rfl : Cond.methodLink RX1 127 yX1_keep ∈ z_T), (z_T_in (List.mem_of_getElem? (i := 751) (by decide +kernel)) rfl : Cond.instanceMethod yX1_keep ∈ z_T), (z_T_in (List.mem_of_getElem? (i := 25) (by decide +kernel)) rfl : Cond.selects yX1_keep.cls yX1_keep yX1_keep ∈ z_T), (z_T_in (List.mem_of_getElem? (i := 92) (by decide +kernel)) rfl : Cond.initialized yX1_keep.cls ∈ z_T), ⟨by decide, by decide, by decide +kernel⟩⟩
set_option maxRecDepth 20000 in
theorem zk_K_47 : z_ok (layX true) (nX true) 47 RX1 := ⟨by decide, _, _, _, _, rfl, rfl⟩
set_option maxRecDepth 20000 in
theorem zcb_63 : (Int8.ofInt (63)).toInt32 = 63 := by decide
set_option maxRecDepth 20000 in
theorem zl_X1_163 : Cond.constantLong RX1 163 (-1) ∈ z_T := z_T_in (List.mem_of_getElem? (i := 771) (by decide +kernel)) rfl
set_option maxRecDepth 20000 in
theorem zf_X1_130 : z_FL RX1 130 8 3 := ⟨RX8, TX8, 4, rfl, zin_X8, by decide, (z_T_in (List.mem_of_getElem? (i := 363) (by decide +kernel)) rfl : Cond.fieldLink RX1 130 "RunTogether$Shortest" "signs" "[I" ∈ z_T)⟩
set_option maxRecDepth 20000 in
theorem zo_X_43_3 (kn : Bool) : z_fk (layX kn) (nX kn) 43 8 3 (2, 44) := ⟨by cases kn <;> decide, _, rfl, rfl⟩
set_option maxRecDepth 20000 in
theorem zf_X1_28 : z_FL RX1 28 1 8 := ⟨RX1, TX1, 16, rfl, zin_X1, by decide, (z_T_in (List.mem_of_getElem? (i := 675) (by decide +kernel)) rfl : Cond.fieldLink RX1 28 "RunTogether$Knowing" "steps" "[I" ∈ z_T)⟩
set_option maxRecDepth 20000 in
theorem zo_K_47_8 : z_fk (layX true) (nX true) 47 1 8 (2, 53) := ⟨by decide, _, rfl, rfl⟩
set_option maxRecDepth 20000 in
theorem za_K_53 : z_ak (layX true) (nX true) 53 0 2000 := ⟨by decide, _, rfl⟩
set_option maxRecDepth 20000 in
theorem za_X_44 (kn : Bool) : z_ak (layX kn) (nX kn) 44 0 12 := ⟨by cases kn <;> decide, _, rfl⟩
set_option maxRecDepth 20000 in
theorem zf_X1_25 : z_FL RX1 25 1 7 := ⟨RX1, TX1, 16, rfl, zin_X1, by decide, (z_T_in (List.mem_of_getElem? (i := 674) (by decide +kernel)) rfl : Cond.fieldLink RX1 25 "RunTogether$Knowing" "parents" "[I" ∈ z_T)⟩
set_option maxRecDepth 20000 in
theorem zo_K_47_7 : z_fk (layX true) (nX true) 47 1 7 (2, 52) := ⟨by decide, _, rfl, rfl⟩
set_option maxRecDepth 20000 in
theorem za_K_52 : z_ak (layX true) (nX true) 52 0 2000 := ⟨by decide, _, rfl⟩
set_option maxRecDepth 20000 in
theorem zf_X1_86 : z_FL RX1 86 8 2 := ⟨RX8, TX8, 4, rfl, zin_X8, by decide, (z_T_in (List.mem_of_getElem? (i := 360) (by decide +kernel)) rfl : Cond.fieldLink RX1 86 "RunTogether$Shortest" "length" "I" ∈ z_T)⟩
set_option maxRecDepth 20000 in
theorem zo_X_43_2 (kn : Bool) : z_fk (layX kn) (nX kn) 43 8 2 (0, 0) := ⟨by cases kn <;> decide, _, rfl, rfl⟩
set_option maxRecDepth 20000 in
theorem zc_X1_116 : z_CV RX1 116 yX4_isEmpty cX4_isEmpty 1 (some .boolean) 0 := ⟨(z_T_in (List.mem_of_getElem? (i := 775) (by decide +kernel)) rfl : Cond.code yX4_isEmpty cX4_isEmpty 1 (some .boolean) ∈ z_T), (z_T_in (List.mem_of_getElem? (i := 772) (by decide +kernel)) rfl : Cond.methodLink RX1 116 yX4_isEmpty ∈ z_T), (z_T_in (List.mem_of_getElem? (i := 773) (by decide +kernel)) rfl : Cond.instanceMethod yX4_isEmpty ∈ z_T), (z_T_in (List.mem_of_getElem? (i := 774) (by decide +kernel)) rfl : Cond.selects yX4_isEmpty.cls yX4_isEmpty yX4_isEmpty ∈ z_T), (z_T_in (List.mem_of_getElem? (i := 93) (by decide +kernel)) rfl : Cond.initialized yX4_isEmpty.cls ∈ z_T), ⟨by decide, by decide, by decide +kernel⟩⟩
set_option maxRecDepth 20000 in
theorem zc_X1_123 : z_CV RX1 123 yX1_find cX1_find 3 (some .int) 0 := ⟨(z_T_in (List.mem_of_getElem? (i := 783) (by decide +kernel)) rfl : Cond.code yX1_find cX1_find 3 (some .int) ∈ z_T), (z_T_in (List.mem_of_getElem? (i := 780) (by decide +kernel)) rfl : Cond.methodLink RX1 123 yX1_find ∈ z_T), (z_T_in (List.mem_of_getElem? (i := 782) (by decide +kernel)) rfl : Cond.instanceMethod yX1_find ∈ z_T), (z_T_in (List.mem_of_getElem? (i := 29) (by decide +kernel)) rfl : Cond.selects yX1_find.cls yX1_find yX1_find ∈ z_T), (z_T_in (List.mem_of_getElem? (i := 92) (by decide +kernel)) rfl : Cond.initialized yX1_find.cls ∈ z_T), ⟨by decide, by decide, by decide +kernel⟩⟩
set_option maxRecDepth 20000 in
theorem zp_X1_86 : z_FP RX1 86 8 2 .int := ⟨RX8, TX8, 4, tyX8, rfl, zin_X8, by decide, (z_T_in (List.mem_of_getElem? (i := 360) (by decide +kernel)) rfl : Cond.fieldLink RX1 86 "RunTogether$Shortest" "length" "I" ∈ z_T), tyX8_ok, nmX8, rfl, by decide +kernel⟩
set_option maxRecDepth 20000 in
theorem zf_X1_60 : z_FL RX1 60 1 1 := ⟨RX1, TX1, 16, rfl, zin_X1, by decide, (z_T_in (List.mem_of_getElem? (i := 668) (by decide +kernel)) rfl : Cond.fieldLink RX1 60 "RunTogether$Knowing" "rules" "LRunTogether$Rules;" ∈ z_T)⟩
set_option maxRecDepth 20000 in
theorem zo_K_47_1 : z_fk (layX true) (nX true) 47 1 1 (2, 1) := ⟨by decide, _, rfl, rfl⟩
set_option maxRecDepth 20000 in
theorem zf_X1_107 : z_FL RX1 107 7 0 := ⟨RX7, TX7, 3, rfl, zin_X7, by decide, (z_T_in (List.mem_of_getElem? (i := 110) (by decide +kernel)) rfl : Cond.fieldLink RX1 107 "RunTogether$Rules" "letters" "I" ∈ z_T)⟩
set_option maxRecDepth 20000 in
theorem zc_X1_112 : z_CV RX1 112 yX1_stepFrom cX1_stepFrom 8 none 2 := ⟨(z_T_in (List.mem_of_getElem? (i := 770) (by decide +kernel)) rfl : Cond.code yX1_stepFrom cX1_stepFrom 8 none ∈ z_T), (z_T_in (List.mem_of_getElem? (i := 767) (by decide +kernel)) rfl : Cond.methodLink RX1 112 yX1_stepFrom ∈ z_T), (z_T_in (List.mem_of_getElem? (i := 769) (by decide +kernel)) rfl : Cond.instanceMethod yX1_stepFrom ∈ z_T), (z_T_in (List.mem_of_getElem? (i := 27) (by decide +kernel)) rfl : Cond.selects yX1_stepFrom.cls yX1_stepFrom yX1_stepFrom ∈ z_T), (z_T_in (List.mem_of_getElem? (i := 92) (by decide +kernel)) rfl : Cond.initialized yX1_stepFrom.cls ∈ z_T), ⟨by decide, by decide, by decide +kernel⟩⟩
set_option maxRecDepth 20000 in
theorem zf_X1_79 : z_FL RX1 79 8 0 := ⟨RX8, TX8, 4, rfl, zin_X8, by decide, (z_T_in (List.mem_of_getElem? (i := 356) (by decide +kernel)) rfl : Cond.fieldLink RX1 79 "RunTogether$Shortest" "isKey" "Z" ∈ z_T)⟩
set_option maxRecDepth 20000 in
theorem zo_X_43_0 (kn : Bool) : z_fk (layX kn) (nX kn) 43 8 0 (0, 0) := ⟨by cases kn <;> decide, _, rfl, rfl⟩
set_option maxRecDepth 20000 in
theorem zc_X1_82 : z_CV RX1 82 yX4_isLike cX4_isLike 2 (some .boolean) 1 := ⟨(z_T_in (List.mem_of_getElem? (i := 762) (by decide +kernel)) rfl : Cond.code yX4_isLike cX4_isLike 2 (some .boolean) ∈ z_T), (z_T_in (List.mem_of_getElem? (i := 759) (by decide +kernel)) rfl : Cond.methodLink RX1 82 yX4_isLike ∈ z_T), (z_T_in (List.mem_of_getElem? (i := 760) (by decide +kernel)) rfl : Cond.instanceMethod yX4_isLike ∈ z_T), (z_T_in (List.mem_of_getElem? (i := 761) (by decide +kernel)) rfl : Cond.selects yX4_isLike.cls yX4_isLike yX4_isLike ∈ z_T), (z_T_in (List.mem_of_getElem? (i := 93) (by decide +kernel)) rfl : Cond.initialized yX4_isLike.cls ∈ z_T), ⟨by decide, by decide, by decide +kernel⟩⟩
set_option maxRecDepth 20000 in
theorem zc_X1_120 : z_CV RX1 120 yX1_spell cX1_spell 6 none 3 := ⟨(z_T_in (List.mem_of_getElem? (i := 779) (by decide +kernel)) rfl : Cond.code yX1_spell cX1_spell 6 none ∈ z_T), (z_T_in (List.mem_of_getElem? (i := 776) (by decide +kernel)) rfl : Cond.methodLink RX1 120 yX1_spell ∈ z_T), (z_T_in (List.mem_of_getElem? (i := 778) (by decide +kernel)) rfl : Cond.instanceMethod yX1_spell ∈ z_T), (z_T_in (List.mem_of_getElem? (i := 28) (by decide +kernel)) rfl : Cond.selects yX1_spell.cls yX1_spell yX1_spell ∈ z_T), (z_T_in (List.mem_of_getElem? (i := 92) (by decide +kernel)) rfl : Cond.initialized yX1_spell.cls ∈ z_T), ⟨by decide, by decide, by decide +kernel⟩⟩
set_option maxRecDepth 20000 in
theorem zc_X1_93 : z_CV RX1 93 yX1_searchBehind cX1_searchBehind 6 none 3 := ⟨(z_T_in (List.mem_of_getElem? (i := 766) (by decide +kernel)) rfl : Cond.code yX1_searchBehind cX1_searchBehind 6 none ∈ z_T), (z_T_in (List.mem_of_getElem? (i := 763) (by decide +kernel)) rfl : Cond.methodLink RX1 93 yX1_searchBehind ∈ z_T), (z_T_in (List.mem_of_getElem? (i := 765) (by decide +kernel)) rfl : Cond.instanceMethod yX1_searchBehind ∈ z_T), (z_T_in (List.mem_of_getElem? (i := 26) (by decide +kernel)) rfl : Cond.selects yX1_searchBehind.cls yX1_searchBehind yX1_searchBehind ∈ z_T), (z_T_in (List.mem_of_getElem? (i := 92) (by decide +kernel)) rfl : Cond.initialized yX1_searchBehind.cls ∈ z_T), ⟨by decide, by decide, by decide +kernel⟩⟩
set_option maxRecDepth 20000 in
theorem zc_X1_64 : z_CV RX1 64 yX1_layOut cX1_layOut 5 none 0 := ⟨(z_T_in (List.mem_of_getElem? (i := 723) (by decide +kernel)) rfl : Cond.code yX1_layOut cX1_layOut 5 none ∈ z_T), (z_T_in (List.mem_of_getElem? (i := 720) (by decide +kernel)) rfl : Cond.methodLink RX1 64 yX1_layOut ∈ z_T), (z_T_in (List.mem_of_getElem? (i := 722) (by decide +kernel)) rfl : Cond.instanceMethod yX1_layOut ∈ z_T), (z_T_in (List.mem_of_getElem? (i := 22) (by decide +kernel)) rfl : Cond.selects yX1_layOut.cls yX1_layOut yX1_layOut ∈ z_T), (z_T_in (List.mem_of_getElem? (i := 92) (by decide +kernel)) rfl : Cond.initialized yX1_layOut.cls ∈ z_T), ⟨by decide, by decide, by decide +kernel⟩⟩
set_option maxRecDepth 20000 in
theorem zc_X1_67 : z_CV RX1 67 yX1_beAnywhere cX1_beAnywhere 2 none 0 := ⟨(z_T_in (List.mem_of_getElem? (i := 744) (by decide +kernel)) rfl : Cond.code yX1_beAnywhere cX1_beAnywhere 2 none ∈ z_T), (z_T_in (List.mem_of_getElem? (i := 741) (by decide +kernel)) rfl : Cond.methodLink RX1 67 yX1_beAnywhere ∈ z_T), (z_T_in (List.mem_of_getElem? (i := 743) (by decide +kernel)) rfl : Cond.instanceMethod yX1_beAnywhere ∈ z_T), (z_T_in (List.mem_of_getElem? (i := 23) (by decide +kernel)) rfl : Cond.selects yX1_beAnywhere.cls yX1_beAnywhere yX1_beAnywhere ∈ z_T), (z_T_in (List.mem_of_getElem? (i := 92) (by decide +kernel)) rfl : Cond.initialized yX1_beAnywhere.cls ∈ z_T), ⟨by decide, by decide, by decide +kernel⟩⟩
set_option maxRecDepth 20000 in
theorem zc_X1_70 : z_CV RX1 70 yX1_begin cX1_begin 2 none 0 := ⟨(z_T_in (List.mem_of_getElem? (i := 748) (by decide +kernel)) rfl : Cond.code yX1_begin cX1_begin 2 none ∈ z_T), (z_T_in (List.mem_of_getElem? (i := 745) (by decide +kernel)) rfl : Cond.methodLink RX1 70 yX1_begin ∈ z_T), (z_T_in (List.mem_of_getElem? (i := 747) (by decide +kernel)) rfl : Cond.instanceMethod yX1_begin ∈ z_T), (z_T_in (List.mem_of_getElem? (i := 24) (by decide +kernel)) rfl : Cond.selects yX1_begin.cls yX1_begin yX1_begin ∈ z_T), (z_T_in (List.mem_of_getElem? (i := 92) (by decide +kernel)) rfl : Cond.initialized yX1_begin.cls ∈ z_T), ⟨by decide, by decide, by decide +kernel⟩⟩
set_option maxRecDepth 20000 in
theorem zp_X1_73 : z_FP RX1 73 8 1 .boolean := ⟨RX8, TX8, 4, tyX8, rfl, zin_X8, by decide, (z_T_in (List.mem_of_getElem? (i := 357) (by decide +kernel)) rfl : Cond.fieldLink RX1 73 "RunTogether$Shortest" "isKnown" "Z" ∈ z_T), tyX8_ok, nmX8, rfl, by decide +kernel⟩
set_option maxRecDepth 20000 in
theorem zf_X10_253 : z_FL RX10 253 8 2 := ⟨RX8, TX8, 4, rfl, zin_X8, by decide, (z_T_in (List.mem_of_getElem? (i := 361) (by decide +kernel)) rfl : Cond.fieldLink RX10 253 "RunTogether$Shortest" "length" "I" ∈ z_T)⟩
set_option maxRecDepth 20000 in
theorem zf_X10_256 : z_FL RX10 256 8 3 := ⟨RX8, TX8, 4, rfl, zin_X8, by decide, (z_T_in (List.mem_of_getElem? (i := 364) (by decide +kernel)) rfl : Cond.fieldLink RX10 256 "RunTogether$Shortest" "signs" "[I" ∈ z_T)⟩
set_option maxRecDepth 20000 in
theorem zf_X10_237 : z_FL RX10 237 8 1 := ⟨RX8, TX8, 4, rfl, zin_X8, by decide, (z_T_in (List.mem_of_getElem? (i := 358) (by decide +kernel)) rfl : Cond.fieldLink RX10 237 "RunTogether$Shortest" "isKnown" "Z" ∈ z_T)⟩
set_option maxRecDepth 20000 in
theorem zc_X10_182 : z_CV RX10 182 yX10_states cX10_states 1 (some (.object "RunTogether$Knowing")) 0 := ⟨(z_T_in (List.mem_of_getElem? (i := 645) (by decide +kernel)) rfl : Cond.code yX10_states cX10_states 1 (some (.object "RunTogether$Knowing")) ∈ z_T), (z_T_in (List.mem_of_getElem? (i := 642) (by decide +kernel)) rfl : Cond.methodLink RX10 182 yX10_states ∈ z_T), (z_T_in (List.mem_of_getElem? (i := 644) (by decide +kernel)) rfl : Cond.instanceMethod yX10_states ∈ z_T), (z_T_in (List.mem_of_getElem? (i := 21) (by decide +kernel)) rfl : Cond.selects yX10_states.cls yX10_states yX10_states ∈ z_T), (z_T_in (List.mem_of_getElem? (i := 81) (by decide +kernel)) rfl : Cond.initialized yX10_states.cls ∈ z_T), ⟨by decide, by decide, by decide +kernel⟩⟩
set_option maxRecDepth 20000 in
theorem zc_X10_249 : z_CV RX10 249 yX1_search cX1_search 6 none 1 := ⟨(z_T_in (List.mem_of_getElem? (i := 719) (by decide +kernel)) rfl : Cond.code yX1_search cX1_search 6 none ∈ z_T), (z_T_in (List.mem_of_getElem? (i := 716) (by decide +kernel)) rfl : Cond.methodLink RX10 249 yX1_search ∈ z_T), (z_T_in (List.mem_of_getElem? (i := 717) (by decide +kernel)) rfl : Cond.instanceMethod yX1_search ∈ z_T), (z_T_in (List.mem_of_getElem? (i := 718) (by decide +kernel)) rfl : Cond.selects yX1_search.cls yX1_search yX1_search ∈ z_T), (z_T_in (List.mem_of_getElem? (i := 92) (by decide +kernel)) rfl : Cond.initialized yX1_search.cls ∈ z_T), ⟨by decide, by decide, by decide +kernel⟩⟩
set_option maxRecDepth 20000 in
theorem zc_X10_172 : z_CV RX10 172 yX10_partOfShortest cX10_partOfShortest 3 (some .int) 2 := ⟨(z_T_in (List.mem_of_getElem? (i := 641) (by decide +kernel)) rfl : Cond.code yX10_partOfShortest cX10_partOfShortest 3 (some .int) ∈ z_T), (z_T_in (List.mem_of_getElem? (i := 638) (by decide +kernel)) rfl : Cond.methodLink RX10 172 yX10_partOfShortest ∈ z_T), (z_T_in (List.mem_of_getElem? (i := 640) (by decide +kernel)) rfl : Cond.instanceMethod yX10_partOfShortest ∈ z_T), (z_T_in (List.mem_of_getElem? (i := 20) (by decide +kernel)) rfl : Cond.selects yX10_partOfShortest.cls yX10_partOfShortest yX10_partOfShortest ∈ z_T), (z_T_in (List.mem_of_getElem? (i := 81) (by decide +kernel)) rfl : Cond.initialized yX10_partOfShortest.cls ∈ z_T), ⟨by decide, by decide, by decide +kernel⟩⟩
set_option maxRecDepth 20000 in
theorem zo_X_45_3 (kn : Bool) : z_fk (layX kn) (nX kn) 45 8 3 (2, 46) := ⟨by cases kn <;> decide, _, rfl, rfl⟩
set_option maxRecDepth 20000 in
theorem za_X_46 (kn : Bool) : z_ak (layX kn) (nX kn) 46 0 12 := ⟨by cases kn <;> decide, _, rfl⟩
set_option maxRecDepth 20000 in
theorem zo_X_45_2 (kn : Bool) : z_fk (layX kn) (nX kn) 45 8 2 (0, 0) := ⟨by cases kn <;> decide, _, rfl, rfl⟩
set_option maxRecDepth 20000 in
theorem zo_X_45_0 (kn : Bool) : z_fk (layX kn) (nX kn) 45 8 0 (0, 0) := ⟨by cases kn <;> decide, _, rfl, rfl⟩
set_option maxRecDepth 20000 in
theorem zf_X11_94 : z_FL RX11 94 11 39 := ⟨RX11, TX11, 52, rfl, zin_X11, by decide, (z_T_in (List.mem_of_getElem? (i := 992) (by decide +kernel)) rfl : Cond.fieldLink RX11 94 "RunTogetherModel" "sums" "[J" ∈ z_T)⟩
set_option maxRecDepth 20000 in
theorem zo_M_39 : z_fk layM nM 0 11 39 (2, 27) := ⟨by decide, _, rfl, rfl⟩
set_option maxRecDepth 20000 in
theorem za_M_27 : z_ak layM nM 27 1 41 := ⟨by decide, _, rfl⟩
set_option maxRecDepth 20000 in
theorem zl_X11_283 : Cond.constantLong RX11 283 (40) ∈ z_T := z_T_in (List.mem_of_getElem? (i := 1304) (by decide +kernel)) rfl
set_option maxRecDepth 20000 in
theorem zl_X11_285 : Cond.constantLong RX11 285 (-1002) ∈ z_T := z_T_in (List.mem_of_getElem? (i := 1305) (by decide +kernel)) rfl
set_option maxRecDepth 20000 in
theorem zf_X10_69 : z_FL RX10 69 10 8 := ⟨RX10, TX10, 12, rfl, zin_X10, by decide, (z_T_in (List.mem_of_getElem? (i := 382) (by decide +kernel)) rfl : Cond.fieldLink RX10 69 "RunTogether" "waysOf" "[J" ∈ z_T)⟩
set_option maxRecDepth 20000 in
theorem zo_X_0_8 (kn : Bool) : z_fk (layX kn) (nX kn) 0 10 8 (2, 42) := ⟨by cases kn <;> decide, _, rfl, rfl⟩
set_option maxRecDepth 20000 in
theorem za_X_42 (kn : Bool) : z_ak (layX kn) (nX kn) 42 1 41 := ⟨by cases kn <;> decide, _, rfl⟩
set_option maxRecDepth 20000 in
theorem zc_X10_178 : z_CS RX10 178 yX10_addCapped cX10_addCapped 4 (some .long) 2 := ⟨(z_T_in (List.mem_of_getElem? (i := 569) (by decide +kernel)) rfl : Cond.code yX10_addCapped cX10_addCapped 4 (some .long) ∈ z_T), (z_T_in (List.mem_of_getElem? (i := 793) (by decide +kernel)) rfl : Cond.methodLink RX10 178 yX10_addCapped ∈ z_T), (z_T_in (List.mem_of_getElem? (i := 568) (by decide +kernel)) rfl : Cond.static yX10_addCapped ∈ z_T), (z_T_in (List.mem_of_getElem? (i := 81) (by decide +kernel)) rfl : Cond.initialized yX10_addCapped.cls ∈ z_T), ⟨by decide, by decide, by decide +kernel⟩⟩
set_option maxRecDepth 20000 in
theorem zl_X10_176 : Cond.constantLong RX10 176 (-1002) ∈ z_T := z_T_in (List.mem_of_getElem? (i := 792) (by decide +kernel)) rfl
set_option maxRecDepth 20000 in
theorem zcb_40 : (Int8.ofInt (40)).toInt32 = 40 := by decide
set_option maxRecDepth 20000 in
theorem za_M_28 : z_ak layM nM 28 1 2001 := ⟨by decide, _, rfl⟩
set_option maxRecDepth 20000 in
theorem zf_X11_97 : z_FL RX11 97 11 40 := ⟨RX11, TX11, 52, rfl, zin_X11, by decide, (z_T_in (List.mem_of_getElem? (i := 993) (by decide +kernel)) rfl : Cond.fieldLink RX11 97 "RunTogetherModel" "now" "[J" ∈ z_T)⟩
set_option maxRecDepth 20000 in
theorem zo_M_40 : z_fk layM nM 0 11 40 (2, 28) := ⟨by decide, _, rfl, rfl⟩
set_option maxRecDepth 20000 in
theorem zf_X11_100 : z_FL RX11 100 11 41 := ⟨RX11, TX11, 52, rfl, zin_X11, by decide, (z_T_in (List.mem_of_getElem? (i := 994) (by decide +kernel)) rfl : Cond.fieldLink RX11 100 "RunTogetherModel" "next" "[J" ∈ z_T)⟩
set_option maxRecDepth 20000 in
theorem zo_M_41 : z_fk layM nM 0 11 41 (2, 29) := ⟨by decide, _, rfl, rfl⟩
set_option maxRecDepth 20000 in
theorem za_M_29 : z_ak layM nM 29 1 2001 := ⟨by decide, _, rfl⟩
set_option maxRecDepth 20000 in
theorem zl_X11_287 : Cond.constantLong RX11 287 (20) ∈ z_T := z_T_in (List.mem_of_getElem? (i := 1310) (by decide +kernel)) rfl
set_option maxRecDepth 20000 in
theorem zf_X1_34 : z_FL RX1 34 1 10 := ⟨RX1, TX1, 16, rfl, zin_X1, by decide, (z_T_in (List.mem_of_getElem? (i := 677) (by decide +kernel)) rfl : Cond.fieldLink RX1 34 "RunTogether$Knowing" "nextCounts" "[J" ∈ z_T)⟩
set_option maxRecDepth 20000 in
theorem zo_K_47_10 : z_fk (layX true) (nX true) 47 1 10 (2, 55) := ⟨by decide, _, rfl, rfl⟩
set_option maxRecDepth 20000 in
theorem za_K_55 : z_ak (layX true) (nX true) 55 1 2000 := ⟨by decide, _, rfl⟩
set_option maxRecDepth 20000 in
theorem zf_X1_31 : z_FL RX1 31 1 9 := ⟨RX1, TX1, 16, rfl, zin_X1, by decide, (z_T_in (List.mem_of_getElem? (i := 676) (by decide +kernel)) rfl : Cond.fieldLink RX1 31 "RunTogether$Knowing" "counts" "[J" ∈ z_T)⟩
set_option maxRecDepth 20000 in
theorem zo_K_47_9 : z_fk (layX true) (nX true) 47 1 9 (2, 54) := ⟨by decide, _, rfl, rfl⟩
set_option maxRecDepth 20000 in
theorem za_K_54 : z_ak (layX true) (nX true) 54 1 2000 := ⟨by decide, _, rfl⟩
set_option maxRecDepth 20000 in
theorem zc_X1_137 : z_CV RX1 137 yX1_countOn cX1_countOn 5 (some .boolean) 0 := ⟨(z_T_in (List.mem_of_getElem? (i := 809) (by decide +kernel)) rfl : Cond.code yX1_countOn cX1_countOn 5 (some .boolean) ∈ z_T), (z_T_in (List.mem_of_getElem? (i := 806) (by decide +kernel)) rfl : Cond.methodLink RX1 137 yX1_countOn ∈ z_T), (z_T_in (List.mem_of_getElem? (i := 808) (by decide +kernel)) rfl : Cond.instanceMethod yX1_countOn ∈ z_T), (z_T_in (List.mem_of_getElem? (i := 30) (by decide +kernel)) rfl : Cond.selects yX1_countOn.cls yX1_countOn yX1_countOn ∈ z_T), (z_T_in (List.mem_of_getElem? (i := 92) (by decide +kernel)) rfl : Cond.initialized yX1_countOn.cls ∈ z_T), ⟨by decide, by decide, by decide +kernel⟩⟩
set_option maxRecDepth 20000 in
theorem zl_X1_140 : Cond.constantLong RX1 140 (-1005) ∈ z_T := z_T_in (List.mem_of_getElem? (i := 810) (by decide +kernel)) rfl
set_option maxRecDepth 20000 in
theorem zc_X1_133 : z_CV RX1 133 yX4_become cX4_become 2 none 1 := ⟨(z_T_in (List.mem_of_getElem? (i := 805) (by decide +kernel)) rfl : Cond.code yX4_become cX4_become 2 none ∈ z_T), (z_T_in (List.mem_of_getElem? (i := 802) (by decide +kernel)) rfl : Cond.methodLink RX1 133 yX4_become ∈ z_T), (z_T_in (List.mem_of_getElem? (i := 803) (by decide +kernel)) rfl : Cond.instanceMethod yX4_become ∈ z_T), (z_T_in (List.mem_of_getElem? (i := 804) (by decide +kernel)) rfl : Cond.selects yX4_become.cls yX4_become yX4_become ∈ z_T), (z_T_in (List.mem_of_getElem? (i := 93) (by decide +kernel)) rfl : Cond.initialized yX4_become.cls ∈ z_T), ⟨by decide, by decide, by decide +kernel⟩⟩
set_option maxRecDepth 20000 in
theorem zcb_20 : (Int8.ofInt (20)).toInt32 = 20 := by decide
set_option maxRecDepth 20000 in
theorem zc_X10_186 : z_CV RX10 186 yX1_countRows cX1_countRows 5 (some .long) 1 := ⟨(z_T_in (List.mem_of_getElem? (i := 801) (by decide +kernel)) rfl : Cond.code yX1_countRows cX1_countRows 5 (some .long) ∈ z_T), (z_T_in (List.mem_of_getElem? (i := 798) (by decide +kernel)) rfl : Cond.methodLink RX10 186 yX1_countRows ∈ z_T), (z_T_in (List.mem_of_getElem? (i := 799) (by decide +kernel)) rfl : Cond.instanceMethod yX1_countRows ∈ z_T), (z_T_in (List.mem_of_getElem? (i := 800) (by decide +kernel)) rfl : Cond.selects yX1_countRows.cls yX1_countRows yX1_countRows ∈ z_T), (z_T_in (List.mem_of_getElem? (i := 92) (by decide +kernel)) rfl : Cond.initialized yX1_countRows.cls ∈ z_T), ⟨by decide, by decide, by decide +kernel⟩⟩
set_option maxRecDepth 20000 in
theorem zl_X11_289 : Cond.constantLong RX11 289 (99) ∈ z_T := z_T_in (List.mem_of_getElem? (i := 1315) (by decide +kernel)) rfl
set_option maxRecDepth 20000 in
theorem zf_X11_26 : z_FL RX11 26 11 7 := ⟨RX11, TX11, 52, rfl, zin_X11, by decide, (z_T_in (List.mem_of_getElem? (i := 960) (by decide +kernel)) rfl : Cond.fieldLink RX11 26 "RunTogetherModel" "price" "[I" ∈ z_T)⟩
set_option maxRecDepth 20000 in
theorem zo_M_7 : z_fk layM nM 0 11 7 (2, 6) := ⟨by decide, _, rfl, rfl⟩
set_option maxRecDepth 20000 in
theorem za_M_6 : z_ak layM nM 6 0 3 := ⟨by decide, _, rfl⟩
set_option maxRecDepth 20000 in
theorem zf_X10_192 : z_FL RX10 192 7 2 := ⟨RX7, TX7, 3, rfl, zin_X7, by decide, (z_T_in (List.mem_of_getElem? (i := 117) (by decide +kernel)) rfl : Cond.fieldLink RX10 192 "RunTogether$Rules" "prices" "[I" ∈ z_T)⟩
set_option maxRecDepth 20000 in
theorem zo_X_1_2 (kn : Bool) : z_fk (layX kn) (nX kn) 1 7 2 (2, 3) := ⟨by cases kn <;> decide, _, rfl, rfl⟩
set_option maxRecDepth 20000 in
theorem za_X_3 (kn : Bool) : z_ak (layX kn) (nX kn) 3 0 3 := ⟨by cases kn <;> decide, _, rfl⟩
set_option maxRecDepth 20000 in
theorem zl_X11_291 : Cond.constantLong RX11 291 (100000) ∈ z_T := z_T_in (List.mem_of_getElem? (i := 1325) (by decide +kernel)) rfl
set_option maxRecDepth 20000 in
theorem zf_X11_103 : z_FL RX11 103 11 42 := ⟨RX11, TX11, 52, rfl, zin_X11, by decide, (z_T_in (List.mem_of_getElem? (i := 995) (by decide +kernel)) rfl : Cond.fieldLink RX11 103 "RunTogetherModel" "between" "[J" ∈ z_T)⟩
set_option maxRecDepth 20000 in
theorem zo_M_42 : z_fk layM nM 0 11 42 (2, 30) := ⟨by decide, _, rfl, rfl⟩
set_option maxRecDepth 20000 in
theorem za_M_30 : z_ak layM nM 30 1 5 := ⟨by decide, _, rfl⟩
set_option maxRecDepth 20000 in
theorem zc_X11_295 : z_CS RX11 295 yX11_least cX11_least 4 (some .long) 2 := ⟨(z_T_in (List.mem_of_getElem? (i := 1328) (by decide +kernel)) rfl : Cond.code yX11_least cX11_least 4 (some .long) ∈ z_T), (z_T_in (List.mem_of_getElem? (i := 1326) (by decide +kernel)) rfl : Cond.methodLink RX11 295 yX11_least ∈ z_T), (z_T_in (List.mem_of_getElem? (i := 1327) (by decide +kernel)) rfl : Cond.static yX11_least ∈ z_T), (z_T_in (List.mem_of_getElem? (i := 91) (by decide +kernel)) rfl : Cond.initialized yX11_least.cls ∈ z_T), ⟨by decide, by decide, by decide +kernel⟩⟩
set_option maxRecDepth 20000 in
theorem zf_X11_106 : z_FL RX11 106 11 43 := ⟨RX11, TX11, 52, rfl, zin_X11, by decide, (z_T_in (List.mem_of_getElem? (i := 996) (by decide +kernel)) rfl : Cond.fieldLink RX11 106 "RunTogetherModel" "inside" "[J" ∈ z_T)⟩
set_option maxRecDepth 20000 in
theorem zo_M_43 : z_fk layM nM 0 11 43 (2, 31) := ⟨by decide, _, rfl, rfl⟩
set_option maxRecDepth 20000 in
theorem za_M_31 : z_ak layM nM 31 1 136 := ⟨by decide, _, rfl⟩
set_option maxRecDepth 20000 in
theorem zc_X11_299 : z_CV RX11 299 yX11_mistake cX11_mistake 2 (some .long) 1 := ⟨(z_T_in (List.mem_of_getElem? (i := 1332) (by decide +kernel)) rfl : Cond.code yX11_mistake cX11_mistake 2 (some .long) ∈ z_T), (z_T_in (List.mem_of_getElem? (i := 1329) (by decide +kernel)) rfl : Cond.methodLink RX11 299 yX11_mistake ∈ z_T), (z_T_in (List.mem_of_getElem? (i := 1331) (by decide +kernel)) rfl : Cond.instanceMethod yX11_mistake ∈ z_T), (z_T_in (List.mem_of_getElem? (i := 70) (by decide +kernel)) rfl : Cond.selects yX11_mistake.cls yX11_mistake yX11_mistake ∈ z_T), (z_T_in (List.mem_of_getElem? (i := 91) (by decide +kernel)) rfl : Cond.initialized yX11_mistake.cls ∈ z_T), ⟨by decide, by decide, by decide +kernel⟩⟩
set_option maxRecDepth 20000 in
theorem zl_X11_293 : Cond.constantLong RX11 293 (1000000000000) ∈ z_T := z_T_in (List.mem_of_getElem? (i := 1320) (by decide +kernel)) rfl
set_option maxRecDepth 20000 in
theorem zf_X11_109 : z_FL RX11 109 11 44 := ⟨RX11, TX11, 52, rfl, zin_X11, by decide, (z_T_in (List.mem_of_getElem? (i := 997) (by decide +kernel)) rfl : Cond.fieldLink RX11 109 "RunTogetherModel" "betweenNext" "[J" ∈ z_T)⟩
set_option maxRecDepth 20000 in
theorem zo_M_44 : z_fk layM nM 0 11 44 (2, 32) := ⟨by decide, _, rfl, rfl⟩
set_option maxRecDepth 20000 in
theorem za_M_32 : z_ak layM nM 32 1 5 := ⟨by decide, _, rfl⟩
set_option maxRecDepth 20000 in
theorem zcs_136 : (Int16.ofInt (136)).toInt32 = 136 := by decide
set_option maxRecDepth 20000 in
theorem zf_X11_112 : z_FL RX11 112 11 45 := ⟨RX11, TX11, 52, rfl, zin_X11, by decide, (z_T_in (List.mem_of_getElem? (i := 998) (by decide +kernel)) rfl : Cond.fieldLink RX11 112 "RunTogetherModel" "insideNext" "[J" ∈ z_T)⟩
set_option maxRecDepth 20000 in
theorem zo_M_45 : z_fk layM nM 0 11 45 (2, 33) := ⟨by decide, _, rfl, rfl⟩
set_option maxRecDepth 20000 in
theorem za_M_33 : z_ak layM nM 33 1 136 := ⟨by decide, _, rfl⟩
set_option maxRecDepth 20000 in
theorem zc_X11_306 : z_CV RX11 306 yX11_takeDrafted cX11_takeDrafted 6 none 1 := ⟨(z_T_in (List.mem_of_getElem? (i := 1336) (by decide +kernel)) rfl : Cond.code yX11_takeDrafted cX11_takeDrafted 6 none ∈ z_T), (z_T_in (List.mem_of_getElem? (i := 1333) (by decide +kernel)) rfl : Cond.methodLink RX11 306 yX11_takeDrafted ∈ z_T), (z_T_in (List.mem_of_getElem? (i := 1335) (by decide +kernel)) rfl : Cond.instanceMethod yX11_takeDrafted ∈ z_T), (z_T_in (List.mem_of_getElem? (i := 71) (by decide +kernel)) rfl : Cond.selects yX11_takeDrafted.cls yX11_takeDrafted yX11_takeDrafted ∈ z_T), (z_T_in (List.mem_of_getElem? (i := 91) (by decide +kernel)) rfl : Cond.initialized yX11_takeDrafted.cls ∈ z_T), ⟨by decide, by decide, by decide +kernel⟩⟩
set_option maxRecDepth 20000 in
theorem zc_X11_303 : z_CV RX11 303 yX11_settle cX11_settle 8 none 0 := ⟨(z_T_in (List.mem_of_getElem? (i := 1324) (by decide +kernel)) rfl : Cond.code yX11_settle cX11_settle 8 none ∈ z_T), (z_T_in (List.mem_of_getElem? (i := 1321) (by decide +kernel)) rfl : Cond.methodLink RX11 303 yX11_settle ∈ z_T), (z_T_in (List.mem_of_getElem? (i := 1323) (by decide +kernel)) rfl : Cond.instanceMethod yX11_settle ∈ z_T), (z_T_in (List.mem_of_getElem? (i := 69) (by decide +kernel)) rfl : Cond.selects yX11_settle.cls yX11_settle yX11_settle ∈ z_T), (z_T_in (List.mem_of_getElem? (i := 91) (by decide +kernel)) rfl : Cond.initialized yX11_settle.cls ∈ z_T), ⟨by decide, by decide, by decide +kernel⟩⟩
set_option maxRecDepth 20000 in
theorem zf_X3_26 : z_FL RX3 26 3 2 := ⟨RX3, TX3, 5, rfl, zin_X3, by decide, (z_T_in (List.mem_of_getElem? (i := 271) (by decide +kernel)) rfl : Cond.fieldLink RX3 26 "RunTogether$Patching" "rules" "LRunTogether$Rules;" ∈ z_T)⟩
set_option maxRecDepth 20000 in
theorem zo_X_23_2 (kn : Bool) : z_fk (layX kn) (nX kn) 23 3 2 (2, 1) := ⟨by cases kn <;> decide, _, rfl, rfl⟩
set_option maxRecDepth 20000 in
theorem zf_X3_85 : z_FL RX3 85 7 2 := ⟨RX7, TX7, 3, rfl, zin_X7, by decide, (z_T_in (List.mem_of_getElem? (i := 115) (by decide +kernel)) rfl : Cond.fieldLink RX3 85 "RunTogether$Rules" "prices" "[I" ∈ z_T)⟩
set_option maxRecDepth 20000 in
theorem zc_X3_65 : z_CV RX3 65 yX7_mayCome cX7_mayCome 3 (some .boolean) 2 := ⟨(z_T_in (List.mem_of_getElem? (i := 516) (by decide +kernel)) rfl : Cond.code yX7_mayCome cX7_mayCome 3 (some .boolean) ∈ z_T), (z_T_in (List.mem_of_getElem? (i := 832) (by decide +kernel)) rfl : Cond.methodLink RX3 65 yX7_mayCome ∈ z_T), (z_T_in (List.mem_of_getElem? (i := 514) (by decide +kernel)) rfl : Cond.instanceMethod yX7_mayCome ∈ z_T), (z_T_in (List.mem_of_getElem? (i := 515) (by decide +kernel)) rfl : Cond.selects yX7_mayCome.cls yX7_mayCome yX7_mayCome ∈ z_T), (z_T_in (List.mem_of_getElem? (i := 82) (by decide +kernel)) rfl : Cond.initialized yX7_mayCome.cls ∈ z_T), ⟨by decide, by decide, by decide +kernel⟩⟩
set_option maxRecDepth 20000 in
theorem zf_X3_15 : z_FL RX3 15 3 4 := ⟨RX3, TX3, 5, rfl, zin_X3, by decide, (z_T_in (List.mem_of_getElem? (i := 273) (by decide +kernel)) rfl : Cond.fieldLink RX3 15 "RunTogether$Patching" "outside" "[J" ∈ z_T)⟩
set_option maxRecDepth 20000 in
theorem zo_X_23_4 (kn : Bool) : z_fk (layX kn) (nX kn) 23 3 4 (2, 25) := ⟨by cases kn <;> decide, _, rfl, rfl⟩
set_option maxRecDepth 20000 in
theorem za_X_25 (kn : Bool) : z_ak (layX kn) (nX kn) 25 1 5 := ⟨by cases kn <;> decide, _, rfl⟩
set_option maxRecDepth 20000 in
theorem zf_X3_22 : z_FL RX3 22 3 1 := ⟨RX3, TX3, 5, rfl, zin_X3, by decide, (z_T_in (List.mem_of_getElem? (i := 270) (by decide +kernel)) rfl : Cond.fieldLink RX3 22 "RunTogether$Patching" "words" "LRunTogether$Words;" ∈ z_T)⟩
set_option maxRecDepth 20000 in
theorem zo_X_23_1 (kn : Bool) : z_fk (layX kn) (nX kn) 23 3 1 (2, 4) := ⟨by cases kn <;> decide, _, rfl, rfl⟩
set_option maxRecDepth 20000 in
theorem zf_X3_71 : z_FL RX3 71 9 3 := ⟨RX9, TX9, 5, rfl, zin_X9, by decide, (z_T_in (List.mem_of_getElem? (i := 151) (by decide +kernel)) rfl : Cond.fieldLink RX3 71 "RunTogether$Words" "costs" "[I" ∈ z_T)⟩
set_option maxRecDepth 20000 in
theorem zf_X3_11 : z_FL RX3 11 3 3 := ⟨RX3, TX3, 5, rfl, zin_X3, by decide, (z_T_in (List.mem_of_getElem? (i := 272) (by decide +kernel)) rfl : Cond.fieldLink RX3 11 "RunTogether$Patching" "inside" "[J" ∈ z_T)⟩
set_option maxRecDepth 20000 in
theorem zo_X_23_3 (kn : Bool) : z_fk (layX kn) (nX kn) 23 3 3 (2, 24) := ⟨by cases kn <;> decide, _, rfl, rfl⟩
set_option maxRecDepth 20000 in
theorem za_X_24 (kn : Bool) : z_ak (layX kn) (nX kn) 24 1 144 := ⟨by cases kn <;> decide, _, rfl⟩
set_option maxRecDepth 20000 in
theorem zm_X3_52 : Cond.methodLink RX3 52 Lib.MathLoose.min_long.x ∈ z_T := z_T_in (List.mem_of_getElem? (i := 833) (by decide +kernel)) rfl
set_option maxRecDepth 20000 in
theorem zc_X3_77 : z_CV RX3 77 yX3_mistake cX3_mistake 2 (some .long) 1 := ⟨(z_T_in (List.mem_of_getElem? (i := 837) (by decide +kernel)) rfl : Cond.code yX3_mistake cX3_mistake 2 (some .long) ∈ z_T), (z_T_in (List.mem_of_getElem? (i := 834) (by decide +kernel)) rfl : Cond.methodLink RX3 77 yX3_mistake ∈ z_T), (z_T_in (List.mem_of_getElem? (i := 836) (by decide +kernel)) rfl : Cond.instanceMethod yX3_mistake ∈ z_T), (z_T_in (List.mem_of_getElem? (i := 33) (by decide +kernel)) rfl : Cond.selects yX3_mistake.cls yX3_mistake yX3_mistake ∈ z_T), (z_T_in (List.mem_of_getElem? (i := 88) (by decide +kernel)) rfl : Cond.initialized yX3_mistake.cls ∈ z_T), ⟨by decide, by decide, by decide +kernel⟩⟩
set_option maxRecDepth 20000 in
theorem zk_X_23 (kn : Bool) : z_ok (layX kn) (nX kn) 23 RX3 := ⟨by cases kn <;> decide, _, _, _, _, rfl, rfl⟩
set_option maxRecDepth 20000 in
theorem zcb_9 : (Int8.ofInt (9)).toInt32 = 9 := by decide
set_option maxRecDepth 20000 in
theorem zf_X3_62 : z_FL RX3 62 9 4 := ⟨RX9, TX9, 5, rfl, zin_X9, by decide, (z_T_in (List.mem_of_getElem? (i := 157) (by decide +kernel)) rfl : Cond.fieldLink RX3 62 "RunTogether$Words" "kinds" "[I" ∈ z_T)⟩
set_option maxRecDepth 20000 in
theorem zf_X3_74 : z_FL RX3 74 9 2 := ⟨RX9, TX9, 5, rfl, zin_X9, by decide, (z_T_in (List.mem_of_getElem? (i := 145) (by decide +kernel)) rfl : Cond.fieldLink RX3 74 "RunTogether$Words" "lengths" "[I" ∈ z_T)⟩
set_option maxRecDepth 20000 in
theorem zf_X3_30 : z_FL RX3 30 9 0 := ⟨RX9, TX9, 5, rfl, zin_X9, by decide, (z_T_in (List.mem_of_getElem? (i := 134) (by decide +kernel)) rfl : Cond.fieldLink RX3 30 "RunTogether$Words" "size" "I" ∈ z_T)⟩
set_option maxRecDepth 20000 in
theorem zc_X3_58 : z_CV RX3 58 yX3_settleWord cX3_settleWord 7 (some .boolean) 1 := ⟨(z_T_in (List.mem_of_getElem? (i := 831) (by decide +kernel)) rfl : Cond.code yX3_settleWord cX3_settleWord 7 (some .boolean) ∈ z_T), (z_T_in (List.mem_of_getElem? (i := 828) (by decide +kernel)) rfl : Cond.methodLink RX3 58 yX3_settleWord ∈ z_T), (z_T_in (List.mem_of_getElem? (i := 830) (by decide +kernel)) rfl : Cond.instanceMethod yX3_settleWord ∈ z_T), (z_T_in (List.mem_of_getElem? (i := 32) (by decide +kernel)) rfl : Cond.selects yX3_settleWord.cls yX3_settleWord yX3_settleWord ∈ z_T), (z_T_in (List.mem_of_getElem? (i := 88) (by decide +kernel)) rfl : Cond.initialized yX3_settleWord.cls ∈ z_T), ⟨by decide, by decide, by decide +kernel⟩⟩
set_option maxRecDepth 20000 in
theorem zl_X3_36 : Cond.constantLong RX3 36 (1152921504606846976) ∈ z_T := z_T_in (List.mem_of_getElem? (i := 823) (by decide +kernel)) rfl
set_option maxRecDepth 20000 in
theorem zc_X3_81 : z_CV RX3 81 yX9_sign cX9_sign 3 (some .int) 2 := ⟨(z_T_in (List.mem_of_getElem? (i := 473) (by decide +kernel)) rfl : Cond.code yX9_sign cX9_sign 3 (some .int) ∈ z_T), (z_T_in (List.mem_of_getElem? (i := 842) (by decide +kernel)) rfl : Cond.methodLink RX3 81 yX9_sign ∈ z_T), (z_T_in (List.mem_of_getElem? (i := 471) (by decide +kernel)) rfl : Cond.instanceMethod yX9_sign ∈ z_T), (z_T_in (List.mem_of_getElem? (i := 472) (by decide +kernel)) rfl : Cond.selects yX9_sign.cls yX9_sign yX9_sign ∈ z_T), (z_T_in (List.mem_of_getElem? (i := 83) (by decide +kernel)) rfl : Cond.initialized yX9_sign.cls ∈ z_T), ⟨by decide, by decide, by decide +kernel⟩⟩
set_option maxRecDepth 20000 in
theorem zf_X3_18 : z_FL RX3 18 3 0 := ⟨RX3, TX3, 5, rfl, zin_X3, by decide, (z_T_in (List.mem_of_getElem? (i := 269) (by decide +kernel)) rfl : Cond.fieldLink RX3 18 "RunTogether$Patching" "draft" "LRunTogether$Row;" ∈ z_T)⟩
set_option maxRecDepth 20000 in
theorem zo_X_23_0 (kn : Bool) : z_fk (layX kn) (nX kn) 23 3 0 (2, 11) := ⟨by cases kn <;> decide, _, rfl, rfl⟩
set_option maxRecDepth 20000 in
theorem zf_X3_41 : z_FL RX3 41 6 1 := ⟨RX6, TX6, 2, rfl, zin_X6, by decide, (z_T_in (List.mem_of_getElem? (i := 192) (by decide +kernel)) rfl : Cond.fieldLink RX3 41 "RunTogether$Row" "size" "I" ∈ z_T)⟩
set_option maxRecDepth 20000 in
theorem zf_X3_44 : z_FL RX3 44 6 0 := ⟨RX6, TX6, 2, rfl, zin_X6, by decide, (z_T_in (List.mem_of_getElem? (i := 184) (by decide +kernel)) rfl : Cond.fieldLink RX3 44 "RunTogether$Row" "cells" "[I" ∈ z_T)⟩
set_option maxRecDepth 20000 in
theorem zc_X3_48 : z_CV RX3 48 yX3_takeLetter cX3_takeLetter 10 none 1 := ⟨(z_T_in (List.mem_of_getElem? (i := 841) (by decide +kernel)) rfl : Cond.code yX3_takeLetter cX3_takeLetter 10 none ∈ z_T), (z_T_in (List.mem_of_getElem? (i := 838) (by decide +kernel)) rfl : Cond.methodLink RX3 48 yX3_takeLetter ∈ z_T), (z_T_in (List.mem_of_getElem? (i := 840) (by decide +kernel)) rfl : Cond.instanceMethod yX3_takeLetter ∈ z_T), (z_T_in (List.mem_of_getElem? (i := 34) (by decide +kernel)) rfl : Cond.selects yX3_takeLetter.cls yX3_takeLetter yX3_takeLetter ∈ z_T), (z_T_in (List.mem_of_getElem? (i := 88) (by decide +kernel)) rfl : Cond.initialized yX3_takeLetter.cls ∈ z_T), ⟨by decide, by decide, by decide +kernel⟩⟩
set_option maxRecDepth 20000 in
theorem zc_X3_38 : z_CV RX3 38 yX3_settle cX3_settle 4 none 0 := ⟨(z_T_in (List.mem_of_getElem? (i := 827) (by decide +kernel)) rfl : Cond.code yX3_settle cX3_settle 4 none ∈ z_T), (z_T_in (List.mem_of_getElem? (i := 824) (by decide +kernel)) rfl : Cond.methodLink RX3 38 yX3_settle ∈ z_T), (z_T_in (List.mem_of_getElem? (i := 826) (by decide +kernel)) rfl : Cond.instanceMethod yX3_settle ∈ z_T), (z_T_in (List.mem_of_getElem? (i := 31) (by decide +kernel)) rfl : Cond.selects yX3_settle.cls yX3_settle yX3_settle ∈ z_T), (z_T_in (List.mem_of_getElem? (i := 88) (by decide +kernel)) rfl : Cond.initialized yX3_settle.cls ∈ z_T), ⟨by decide, by decide, by decide +kernel⟩⟩
set_option maxRecDepth 20000 in
theorem zf_X10_56 : z_FL RX10 56 10 6 := ⟨RX10, TX10, 12, rfl, zin_X10, by decide, (z_T_in (List.mem_of_getElem? (i := 380) (by decide +kernel)) rfl : Cond.fieldLink RX10 56 "RunTogether" "patching" "LRunTogether$Patching;" ∈ z_T)⟩
set_option maxRecDepth 20000 in
theorem zo_X_0_6 (kn : Bool) : z_fk (layX kn) (nX kn) 0 10 6 (2, 23) := ⟨by cases kn <;> decide, _, rfl, rfl⟩
set_option maxRecDepth 20000 in
theorem zc_X10_195 : z_CV RX10 195 yX3_leastInAll cX3_leastInAll 4 (some .long) 0 := ⟨(z_T_in (List.mem_of_getElem? (i := 822) (by decide +kernel)) rfl : Cond.code yX3_leastInAll cX3_leastInAll 4 (some .long) ∈ z_T), (z_T_in (List.mem_of_getElem? (i := 819) (by decide +kernel)) rfl : Cond.methodLink RX10 195 yX3_leastInAll ∈ z_T), (z_T_in (List.mem_of_getElem? (i := 820) (by decide +kernel)) rfl : Cond.instanceMethod yX3_leastInAll ∈ z_T), (z_T_in (List.mem_of_getElem? (i := 821) (by decide +kernel)) rfl : Cond.selects yX3_leastInAll.cls yX3_leastInAll yX3_leastInAll ∈ z_T), (z_T_in (List.mem_of_getElem? (i := 88) (by decide +kernel)) rfl : Cond.initialized yX3_leastInAll.cls ∈ z_T), ⟨by decide, by decide, by decide +kernel⟩⟩
set_option maxRecDepth 20000 in
theorem zl_X10_197 : Cond.constantLong RX10 197 (1048575) ∈ z_T := z_T_in (List.mem_of_getElem? (i := 843) (by decide +kernel)) rfl
set_option maxRecDepth 20000 in
theorem zf_X11_32 : z_FL RX11 32 11 11 := ⟨RX11, TX11, 52, rfl, zin_X11, by decide, (z_T_in (List.mem_of_getElem? (i := 964) (by decide +kernel)) rfl : Cond.fieldLink RX11 32 "RunTogetherModel" "line" "[I" ∈ z_T)⟩
set_option maxRecDepth 20000 in
theorem zo_M_11 : z_fk layM nM 0 11 11 (2, 8) := ⟨by decide, _, rfl, rfl⟩
set_option maxRecDepth 20000 in
theorem zcb_24 : (Int8.ofInt (24)).toInt32 = 24 := by decide
set_option maxRecDepth 20000 in
theorem za_M_8 : z_ak layM nM 8 0 96 := ⟨by decide, _, rfl⟩
set_option maxRecDepth 20000 in
theorem zl_X11_310 : Cond.constantLong RX11 310 (24) ∈ z_T := z_T_in (List.mem_of_getElem? (i := 1341) (by decide +kernel)) rfl
set_option maxRecDepth 20000 in
theorem zf_X11_35 : z_FL RX11 35 11 12 := ⟨RX11, TX11, 52, rfl, zin_X11, by decide, (z_T_in (List.mem_of_getElem? (i := 965) (by decide +kernel)) rfl : Cond.fieldLink RX11 35 "RunTogetherModel" "lineSize" "[I" ∈ z_T)⟩
set_option maxRecDepth 20000 in
theorem zo_M_12 : z_fk layM nM 0 11 12 (2, 9) := ⟨by decide, _, rfl, rfl⟩
set_option maxRecDepth 20000 in
theorem za_M_9 : z_ak layM nM 9 0 4 := ⟨by decide, _, rfl⟩
set_option maxRecDepth 20000 in
theorem zo_Xh_1 (kn : Bool) {r : Nat} (hr : Nat.blt r 4 = true) : z_fk (layX kn) (nX kn) (34 + 2 * r) 6 1 (0, 0) := by
  rcases (show r = 0 ∨ r = 1 ∨ r = 2 ∨ r = 3 by have := Nat.blt_eq.mp hr; omega) with rfl | rfl | rfl | rfl <;> exact ⟨by cases kn <;> decide, _, rfl, rfl⟩
set_option maxRecDepth 20000 in
theorem zo_Xh_0 (kn : Bool) {r : Nat} (hr : Nat.blt r 4 = true) : z_fk (layX kn) (nX kn) (34 + 2 * r) 6 0 (2, 35 + 2 * r) := by
  rcases (show r = 0 ∨ r = 1 ∨ r = 2 ∨ r = 3 by have := Nat.blt_eq.mp hr; omega) with rfl | rfl | rfl | rfl <;> exact ⟨by cases kn <;> decide, _, rfl, rfl⟩
set_option maxRecDepth 20000 in
theorem za_Xh (kn : Bool) {r : Nat} (hr : Nat.blt r 4 = true) : z_ak (layX kn) (nX kn) (35 + 2 * r) 0 24 := by
  rcases (show r = 0 ∨ r = 1 ∨ r = 2 ∨ r = 3 by have := Nat.blt_eq.mp hr; omega) with rfl | rfl | rfl | rfl <;> exact ⟨by cases kn <;> decide, _, rfl⟩
set_option maxRecDepth 20000 in
theorem zf_X2_54 : z_FL RX2 54 6 1 := ⟨RX6, TX6, 2, rfl, zin_X6, by decide, (z_T_in (List.mem_of_getElem? (i := 188) (by decide +kernel)) rfl : Cond.fieldLink RX2 54 "RunTogether$Row" "size" "I" ∈ z_T)⟩
set_option maxRecDepth 20000 in
theorem zf_X2_55 : z_FL RX2 55 6 0 := ⟨RX6, TX6, 2, rfl, zin_X6, by decide, (z_T_in (List.mem_of_getElem? (i := 183) (by decide +kernel)) rfl : Cond.fieldLink RX2 55 "RunTogether$Row" "cells" "[I" ∈ z_T)⟩
set_option maxRecDepth 20000 in
theorem zc_X2_58 : z_CV RX2 58 yX6_put cX6_put 2 none 1 := ⟨(z_T_in (List.mem_of_getElem? (i := 426) (by decide +kernel)) rfl : Cond.code yX6_put cX6_put 2 none ∈ z_T), (z_T_in (List.mem_of_getElem? (i := 852) (by decide +kernel)) rfl : Cond.methodLink RX2 58 yX6_put ∈ z_T), (z_T_in (List.mem_of_getElem? (i := 424) (by decide +kernel)) rfl : Cond.instanceMethod yX6_put ∈ z_T), (z_T_in (List.mem_of_getElem? (i := 425) (by decide +kernel)) rfl : Cond.selects yX6_put.cls yX6_put yX6_put ∈ z_T), (z_T_in (List.mem_of_getElem? (i := 84) (by decide +kernel)) rfl : Cond.initialized yX6_put.cls ∈ z_T), ⟨by decide, by decide, by decide +kernel⟩⟩
set_option maxRecDepth 20000 in
theorem zk_Xh (kn : Bool) {r : Nat} (hr : Nat.blt r 4 = true) : z_ok (layX kn) (nX kn) (34 + 2 * r) RX6 := by
  rcases (show r = 0 ∨ r = 1 ∨ r = 2 ∨ r = 3 by have := Nat.blt_eq.mp hr; omega) with rfl | rfl | rfl | rfl <;> exact ⟨by cases kn <;> decide, _, _, _, _, rfl, rfl⟩
set_option maxRecDepth 20000 in
theorem zf_X2_51 : z_FL RX2 51 2 0 := ⟨RX2, TX2, 16, rfl, zin_X2, by decide, (z_T_in (List.mem_of_getElem? (i := 294) (by decide +kernel)) rfl : Cond.fieldLink RX2 51 "RunTogether$Lines" "size" "I" ∈ z_T)⟩
set_option maxRecDepth 20000 in
theorem zf_X2_21 : z_FL RX2 21 2 8 := ⟨RX2, TX2, 16, rfl, zin_X2, by decide, (z_T_in (List.mem_of_getElem? (i := 308) (by decide +kernel)) rfl : Cond.fieldLink RX2 21 "RunTogether$Lines" "held" "[LRunTogether$Row;" ∈ z_T)⟩
set_option maxRecDepth 20000 in
theorem zo_X_26_8 (kn : Bool) : z_fk (layX kn) (nX kn) 26 2 8 (2, 28) := ⟨by cases kn <;> decide, _, rfl, rfl⟩
set_option maxRecDepth 20000 in
theorem zh_lay (kn : Bool) : layX kn 28 = .inr (3, 4, [34, 36, 38, 40]) := rfl
set_option maxRecDepth 20000 in
theorem zh_N (kn : Bool) : 28 < nX kn := by cases kn <;> decide
set_option maxRecDepth 20000 in
theorem zp_X2_54 : z_FP RX2 54 6 1 .int := ⟨RX6, TX6, 2, tyX6, rfl, zin_X6, by decide, (z_T_in (List.mem_of_getElem? (i := 188) (by decide +kernel)) rfl : Cond.fieldLink RX2 54 "RunTogether$Row" "size" "I" ∈ z_T), tyX6_ok, nmX6, rfl, by decide +kernel⟩
set_option maxRecDepth 20000 in
theorem zp_X2_51 : z_FP RX2 51 2 0 .int := ⟨RX2, TX2, 16, tyX2, rfl, zin_X2, by decide, (z_T_in (List.mem_of_getElem? (i := 294) (by decide +kernel)) rfl : Cond.fieldLink RX2 51 "RunTogether$Lines" "size" "I" ∈ z_T), tyX2_ok, nmX2, rfl, by decide +kernel⟩
set_option maxRecDepth 20000 in
theorem zc_X10_199 : z_CV RX10 199 yX2_take cX2_take 4 none 1 := ⟨(z_T_in (List.mem_of_getElem? (i := 851) (by decide +kernel)) rfl : Cond.code yX2_take cX2_take 4 none ∈ z_T), (z_T_in (List.mem_of_getElem? (i := 848) (by decide +kernel)) rfl : Cond.methodLink RX10 199 yX2_take ∈ z_T), (z_T_in (List.mem_of_getElem? (i := 849) (by decide +kernel)) rfl : Cond.instanceMethod yX2_take ∈ z_T), (z_T_in (List.mem_of_getElem? (i := 850) (by decide +kernel)) rfl : Cond.selects yX2_take.cls yX2_take yX2_take ∈ z_T), (z_T_in (List.mem_of_getElem? (i := 89) (by decide +kernel)) rfl : Cond.initialized yX2_take.cls ∈ z_T), ⟨by decide, by decide, by decide +kernel⟩⟩
set_option maxRecDepth 20000 in
theorem zk_X_26 (kn : Bool) : z_ok (layX kn) (nX kn) 26 RX2 := ⟨by cases kn <;> decide, _, _, _, _, rfl, rfl⟩
set_option maxRecDepth 20000 in
theorem zc_X11_312 : z_CV RX11 312 yX11_standsIn cX11_standsIn 6 (some .boolean) 3 := ⟨(z_T_in (List.mem_of_getElem? (i := 1357) (by decide +kernel)) rfl : Cond.code yX11_standsIn cX11_standsIn 6 (some .boolean) ∈ z_T), (z_T_in (List.mem_of_getElem? (i := 1354) (by decide +kernel)) rfl : Cond.methodLink RX11 312 yX11_standsIn ∈ z_T), (z_T_in (List.mem_of_getElem? (i := 1356) (by decide +kernel)) rfl : Cond.instanceMethod yX11_standsIn ∈ z_T), (z_T_in (List.mem_of_getElem? (i := 73) (by decide +kernel)) rfl : Cond.selects yX11_standsIn.cls yX11_standsIn yX11_standsIn ∈ z_T), (z_T_in (List.mem_of_getElem? (i := 91) (by decide +kernel)) rfl : Cond.initialized yX11_standsIn.cls ∈ z_T), ⟨by decide, by decide, by decide +kernel⟩⟩
set_option maxRecDepth 20000 in
theorem zf_X11_115 : z_FL RX11 115 11 46 := ⟨RX11, TX11, 52, rfl, zin_X11, by decide, (z_T_in (List.mem_of_getElem? (i := 999) (by decide +kernel)) rfl : Cond.fieldLink RX11 115 "RunTogetherModel" "sum" "[I" ∈ z_T)⟩
set_option maxRecDepth 20000 in
theorem zo_M_46 : z_fk layM nM 0 11 46 (2, 34) := ⟨by decide, _, rfl, rfl⟩
set_option maxRecDepth 20000 in
theorem za_M_34 : z_ak layM nM 34 0 125 := ⟨by decide, _, rfl⟩
set_option maxRecDepth 20000 in
theorem zc_X11_315 : z_CV RX11 315 yX11_findSums cX11_findSums 8 (some .int) 1 := ⟨(z_T_in (List.mem_of_getElem? (i := 1353) (by decide +kernel)) rfl : Cond.code yX11_findSums cX11_findSums 8 (some .int) ∈ z_T), (z_T_in (List.mem_of_getElem? (i := 1350) (by decide +kernel)) rfl : Cond.methodLink RX11 315 yX11_findSums ∈ z_T), (z_T_in (List.mem_of_getElem? (i := 1352) (by decide +kernel)) rfl : Cond.instanceMethod yX11_findSums ∈ z_T), (z_T_in (List.mem_of_getElem? (i := 72) (by decide +kernel)) rfl : Cond.selects yX11_findSums.cls yX11_findSums yX11_findSums ∈ z_T), (z_T_in (List.mem_of_getElem? (i := 91) (by decide +kernel)) rfl : Cond.initialized yX11_findSums.cls ∈ z_T), ⟨by decide, by decide, by decide +kernel⟩⟩
set_option maxRecDepth 20000 in
theorem zf_X2_25 : z_FL RX2 25 2 9 := ⟨RX2, TX2, 16, rfl, zin_X2, by decide, (z_T_in (List.mem_of_getElem? (i := 309) (by decide +kernel)) rfl : Cond.fieldLink RX2 25 "RunTogether$Lines" "standing" "[I" ∈ z_T)⟩
set_option maxRecDepth 20000 in
theorem zo_X_26_9 (kn : Bool) : z_fk (layX kn) (nX kn) 26 2 9 (2, 29) := ⟨by cases kn <;> decide, _, rfl, rfl⟩
set_option maxRecDepth 20000 in
theorem zf_X2_40 : z_FL RX2 40 2 6 := ⟨RX2, TX2, 16, rfl, zin_X2, by decide, (z_T_in (List.mem_of_getElem? (i := 306) (by decide +kernel)) rfl : Cond.fieldLink RX2 40 "RunTogether$Lines" "words" "LRunTogether$Words;" ∈ z_T)⟩
set_option maxRecDepth 20000 in
theorem zo_X_26_6 (kn : Bool) : z_fk (layX kn) (nX kn) 26 2 6 (2, 4) := ⟨by cases kn <;> decide, _, rfl, rfl⟩
set_option maxRecDepth 20000 in
theorem zc_X2_61 : z_CV RX2 61 yX9_standingAt cX9_standingAt 5 (some .int) 2 := ⟨(z_T_in (List.mem_of_getElem? (i := 544) (by decide +kernel)) rfl : Cond.code yX9_standingAt cX9_standingAt 5 (some .int) ∈ z_T), (z_T_in (List.mem_of_getElem? (i := 865) (by decide +kernel)) rfl : Cond.methodLink RX2 61 yX9_standingAt ∈ z_T), (z_T_in (List.mem_of_getElem? (i := 542) (by decide +kernel)) rfl : Cond.instanceMethod yX9_standingAt ∈ z_T), (z_T_in (List.mem_of_getElem? (i := 543) (by decide +kernel)) rfl : Cond.selects yX9_standingAt.cls yX9_standingAt yX9_standingAt ∈ z_T), (z_T_in (List.mem_of_getElem? (i := 83) (by decide +kernel)) rfl : Cond.initialized yX9_standingAt.cls ∈ z_T), ⟨by decide, by decide, by decide +kernel⟩⟩
set_option maxRecDepth 20000 in
theorem za_X_29 (kn : Bool) : z_ak (layX kn) (nX kn) 29 0 96 := ⟨by cases kn <;> decide, _, rfl⟩
set_option maxRecDepth 20000 in
theorem zf_X2_104 : z_FL RX2 104 9 3 := ⟨RX9, TX9, 5, rfl, zin_X9, by decide, (z_T_in (List.mem_of_getElem? (i := 155) (by decide +kernel)) rfl : Cond.fieldLink RX2 104 "RunTogether$Words" "costs" "[I" ∈ z_T)⟩
set_option maxRecDepth 20000 in
theorem zf_X2_31 : z_FL RX2 31 2 11 := ⟨RX2, TX2, 16, rfl, zin_X2, by decide, (z_T_in (List.mem_of_getElem? (i := 311) (by decide +kernel)) rfl : Cond.fieldLink RX2 31 "RunTogether$Lines" "least" "[I" ∈ z_T)⟩
set_option maxRecDepth 20000 in
theorem zo_X_26_11 (kn : Bool) : z_fk (layX kn) (nX kn) 26 2 11 (2, 31) := ⟨by cases kn <;> decide, _, rfl, rfl⟩
set_option maxRecDepth 20000 in
theorem zf_X2_107 : z_FL RX2 107 9 2 := ⟨RX9, TX9, 5, rfl, zin_X9, by decide, (z_T_in (List.mem_of_getElem? (i := 148) (by decide +kernel)) rfl : Cond.fieldLink RX2 107 "RunTogether$Words" "lengths" "[I" ∈ z_T)⟩
set_option maxRecDepth 20000 in
theorem zf_X2_77 : z_FL RX2 77 9 4 := ⟨RX9, TX9, 5, rfl, zin_X9, by decide, (z_T_in (List.mem_of_getElem? (i := 161) (by decide +kernel)) rfl : Cond.fieldLink RX2 77 "RunTogether$Words" "kinds" "[I" ∈ z_T)⟩
set_option maxRecDepth 20000 in
theorem za_X_31 (kn : Bool) : z_ak (layX kn) (nX kn) 31 0 125 := ⟨by cases kn <;> decide, _, rfl⟩
set_option maxRecDepth 20000 in
theorem zf_X2_34 : z_FL RX2 34 2 12 := ⟨RX2, TX2, 16, rfl, zin_X2, by decide, (z_T_in (List.mem_of_getElem? (i := 312) (by decide +kernel)) rfl : Cond.fieldLink RX2 34 "RunTogether$Lines" "byKind" "[I" ∈ z_T)⟩
set_option maxRecDepth 20000 in
theorem zo_X_26_12 (kn : Bool) : z_fk (layX kn) (nX kn) 26 2 12 (2, 32) := ⟨by cases kn <;> decide, _, rfl, rfl⟩
set_option maxRecDepth 20000 in
theorem zl_X2_75 : Cond.constant RX2 75 (1000000000) ∈ z_T := z_T_in (List.mem_of_getElem? (i := 878) (by decide +kernel)) rfl
set_option maxRecDepth 20000 in
theorem za_X_32 (kn : Bool) : z_ak (layX kn) (nX kn) 32 0 4 := ⟨by cases kn <;> decide, _, rfl⟩
set_option maxRecDepth 20000 in
theorem zf_X2_76 : z_FL RX2 76 9 0 := ⟨RX9, TX9, 5, rfl, zin_X9, by decide, (z_T_in (List.mem_of_getElem? (i := 138) (by decide +kernel)) rfl : Cond.fieldLink RX2 76 "RunTogether$Words" "size" "I" ∈ z_T)⟩
set_option maxRecDepth 20000 in
theorem zc_X2_80 : z_CV RX2 80 yX2_leastWith cX2_leastWith 3 (some .int) 2 := ⟨(z_T_in (List.mem_of_getElem? (i := 882) (by decide +kernel)) rfl : Cond.code yX2_leastWith cX2_leastWith 3 (some .int) ∈ z_T), (z_T_in (List.mem_of_getElem? (i := 879) (by decide +kernel)) rfl : Cond.methodLink RX2 80 yX2_leastWith ∈ z_T), (z_T_in (List.mem_of_getElem? (i := 881) (by decide +kernel)) rfl : Cond.instanceMethod yX2_leastWith ∈ z_T), (z_T_in (List.mem_of_getElem? (i := 37) (by decide +kernel)) rfl : Cond.selects yX2_leastWith.cls yX2_leastWith yX2_leastWith ∈ z_T), (z_T_in (List.mem_of_getElem? (i := 89) (by decide +kernel)) rfl : Cond.initialized yX2_leastWith.cls ∈ z_T), ⟨by decide, by decide, by decide +kernel⟩⟩
set_option maxRecDepth 20000 in
theorem zm_X2_84 : Cond.methodLink RX2 84 Lib.Math.min.name ∈ z_T := z_T_in (List.mem_of_getElem? (i := 883) (by decide +kernel)) rfl
set_option maxRecDepth 20000 in
theorem zf_X2_44 : z_FL RX2 44 2 7 := ⟨RX2, TX2, 16, rfl, zin_X2, by decide, (z_T_in (List.mem_of_getElem? (i := 307) (by decide +kernel)) rfl : Cond.fieldLink RX2 44 "RunTogether$Lines" "rules" "LRunTogether$Rules;" ∈ z_T)⟩
set_option maxRecDepth 20000 in
theorem zo_X_26_7 (kn : Bool) : z_fk (layX kn) (nX kn) 26 2 7 (2, 1) := ⟨by cases kn <;> decide, _, rfl, rfl⟩
set_option maxRecDepth 20000 in
theorem zc_X2_100 : z_CV RX2 100 yX7_mayCome cX7_mayCome 3 (some .boolean) 2 := ⟨(z_T_in (List.mem_of_getElem? (i := 516) (by decide +kernel)) rfl : Cond.code yX7_mayCome cX7_mayCome 3 (some .boolean) ∈ z_T), (z_T_in (List.mem_of_getElem? (i := 884) (by decide +kernel)) rfl : Cond.methodLink RX2 100 yX7_mayCome ∈ z_T), (z_T_in (List.mem_of_getElem? (i := 514) (by decide +kernel)) rfl : Cond.instanceMethod yX7_mayCome ∈ z_T), (z_T_in (List.mem_of_getElem? (i := 515) (by decide +kernel)) rfl : Cond.selects yX7_mayCome.cls yX7_mayCome yX7_mayCome ∈ z_T), (z_T_in (List.mem_of_getElem? (i := 82) (by decide +kernel)) rfl : Cond.initialized yX7_mayCome.cls ∈ z_T), ⟨by decide, by decide, by decide +kernel⟩⟩
set_option maxRecDepth 20000 in
theorem zf_X2_95 : z_FL RX2 95 7 2 := ⟨RX7, TX7, 3, rfl, zin_X7, by decide, (z_T_in (List.mem_of_getElem? (i := 116) (by decide +kernel)) rfl : Cond.fieldLink RX2 95 "RunTogether$Rules" "prices" "[I" ∈ z_T)⟩
set_option maxRecDepth 20000 in
theorem zf_X2_89 : z_FL RX2 89 2 15 := ⟨RX2, TX2, 16, rfl, zin_X2, by decide, (z_T_in (List.mem_of_getElem? (i := 315) (by decide +kernel)) rfl : Cond.fieldLink RX2 89 "RunTogether$Lines" "newCode" "I" ∈ z_T)⟩
set_option maxRecDepth 20000 in
theorem zo_X_26_15 (kn : Bool) : z_fk (layX kn) (nX kn) 26 2 15 (0, 0) := ⟨by cases kn <;> decide, _, rfl, rfl⟩
set_option maxRecDepth 20000 in
theorem zf_X2_28 : z_FL RX2 28 2 10 := ⟨RX2, TX2, 16, rfl, zin_X2, by decide, (z_T_in (List.mem_of_getElem? (i := 310) (by decide +kernel)) rfl : Cond.fieldLink RX2 28 "RunTogether$Lines" "codes" "[I" ∈ z_T)⟩
set_option maxRecDepth 20000 in
theorem zo_X_26_10 (kn : Bool) : z_fk (layX kn) (nX kn) 26 2 10 (2, 30) := ⟨by cases kn <;> decide, _, rfl, rfl⟩
set_option maxRecDepth 20000 in
theorem za_X_30 (kn : Bool) : z_ak (layX kn) (nX kn) 30 0 96 := ⟨by cases kn <;> decide, _, rfl⟩
set_option maxRecDepth 20000 in
theorem zf_X2_15 : z_FL RX2 15 2 3 := ⟨RX2, TX2, 16, rfl, zin_X2, by decide, (z_T_in (List.mem_of_getElem? (i := 300) (by decide +kernel)) rfl : Cond.fieldLink RX2 15 "RunTogether$Lines" "soughtCost" "I" ∈ z_T)⟩
set_option maxRecDepth 20000 in
theorem zf_X2_92 : z_FL RX2 92 2 14 := ⟨RX2, TX2, 16, rfl, zin_X2, by decide, (z_T_in (List.mem_of_getElem? (i := 314) (by decide +kernel)) rfl : Cond.fieldLink RX2 92 "RunTogether$Lines" "newLength" "I" ∈ z_T)⟩
set_option maxRecDepth 20000 in
theorem zo_X_26_14 (kn : Bool) : z_fk (layX kn) (nX kn) 26 2 14 (0, 0) := ⟨by cases kn <;> decide, _, rfl, rfl⟩
set_option maxRecDepth 20000 in
theorem zc_X2_71 : z_CV RX2 71 yX2_measureFrom cX2_measureFrom 7 none 2 := ⟨(z_T_in (List.mem_of_getElem? (i := 877) (by decide +kernel)) rfl : Cond.code yX2_measureFrom cX2_measureFrom 7 none ∈ z_T), (z_T_in (List.mem_of_getElem? (i := 874) (by decide +kernel)) rfl : Cond.methodLink RX2 71 yX2_measureFrom ∈ z_T), (z_T_in (List.mem_of_getElem? (i := 876) (by decide +kernel)) rfl : Cond.instanceMethod yX2_measureFrom ∈ z_T), (z_T_in (List.mem_of_getElem? (i := 36) (by decide +kernel)) rfl : Cond.selects yX2_measureFrom.cls yX2_measureFrom yX2_measureFrom ∈ z_T), (z_T_in (List.mem_of_getElem? (i := 89) (by decide +kernel)) rfl : Cond.initialized yX2_measureFrom.cls ∈ z_T), ⟨by decide, by decide, by decide +kernel⟩⟩
set_option maxRecDepth 20000 in
theorem zc_X2_67 : z_CV RX2 67 yX2_measure cX2_measure 4 (some .int) 1 := ⟨(z_T_in (List.mem_of_getElem? (i := 873) (by decide +kernel)) rfl : Cond.code yX2_measure cX2_measure 4 (some .int) ∈ z_T), (z_T_in (List.mem_of_getElem? (i := 870) (by decide +kernel)) rfl : Cond.methodLink RX2 67 yX2_measure ∈ z_T), (z_T_in (List.mem_of_getElem? (i := 872) (by decide +kernel)) rfl : Cond.instanceMethod yX2_measure ∈ z_T), (z_T_in (List.mem_of_getElem? (i := 35) (by decide +kernel)) rfl : Cond.selects yX2_measure.cls yX2_measure yX2_measure ∈ z_T), (z_T_in (List.mem_of_getElem? (i := 89) (by decide +kernel)) rfl : Cond.initialized yX2_measure.cls ∈ z_T), ⟨by decide, by decide, by decide +kernel⟩⟩
set_option maxRecDepth 20000 in
theorem zc_X10_203 : z_CV RX10 203 yX2_match cX2_match 3 none 0 := ⟨(z_T_in (List.mem_of_getElem? (i := 864) (by decide +kernel)) rfl : Cond.code yX2_match cX2_match 3 none ∈ z_T), (z_T_in (List.mem_of_getElem? (i := 861) (by decide +kernel)) rfl : Cond.methodLink RX10 203 yX2_match ∈ z_T), (z_T_in (List.mem_of_getElem? (i := 862) (by decide +kernel)) rfl : Cond.instanceMethod yX2_match ∈ z_T), (z_T_in (List.mem_of_getElem? (i := 863) (by decide +kernel)) rfl : Cond.selects yX2_match.cls yX2_match yX2_match ∈ z_T), (z_T_in (List.mem_of_getElem? (i := 89) (by decide +kernel)) rfl : Cond.initialized yX2_match.cls ∈ z_T), ⟨by decide, by decide, by decide +kernel⟩⟩
set_option maxRecDepth 20000 in
theorem zc_X10_206 : z_CV RX10 206 yX2_sumOfLeast cX2_sumOfLeast 3 (some .int) 0 := ⟨(z_T_in (List.mem_of_getElem? (i := 869) (by decide +kernel)) rfl : Cond.code yX2_sumOfLeast cX2_sumOfLeast 3 (some .int) ∈ z_T), (z_T_in (List.mem_of_getElem? (i := 866) (by decide +kernel)) rfl : Cond.methodLink RX10 206 yX2_sumOfLeast ∈ z_T), (z_T_in (List.mem_of_getElem? (i := 867) (by decide +kernel)) rfl : Cond.instanceMethod yX2_sumOfLeast ∈ z_T), (z_T_in (List.mem_of_getElem? (i := 868) (by decide +kernel)) rfl : Cond.selects yX2_sumOfLeast.cls yX2_sumOfLeast yX2_sumOfLeast ∈ z_T), (z_T_in (List.mem_of_getElem? (i := 89) (by decide +kernel)) rfl : Cond.initialized yX2_sumOfLeast.cls ∈ z_T), ⟨by decide, by decide, by decide +kernel⟩⟩
set_option maxRecDepth 20000 in
theorem zf_X11_118 : z_FL RX11 118 11 47 := ⟨RX11, TX11, 52, rfl, zin_X11, by decide, (z_T_in (List.mem_of_getElem? (i := 1000) (by decide +kernel)) rfl : Cond.fieldLink RX11 118 "RunTogetherModel" "used" "[I" ∈ z_T)⟩
set_option maxRecDepth 20000 in
theorem zo_M_47 : z_fk layM nM 0 11 47 (2, 35) := ⟨by decide, _, rfl, rfl⟩
set_option maxRecDepth 20000 in
theorem za_M_35 : z_ak layM nM 35 0 17 := ⟨by decide, _, rfl⟩
set_option maxRecDepth 20000 in
theorem zf_X11_319 : z_FL RX11 319 11 48 := ⟨RX11, TX11, 52, rfl, zin_X11, by decide, (z_T_in (List.mem_of_getElem? (i := 1001) (by decide +kernel)) rfl : Cond.fieldLink RX11 319 "RunTogetherModel" "usedStrange" "I" ∈ z_T)⟩
set_option maxRecDepth 20000 in
theorem zo_M_48 : z_fk layM nM 0 11 48 (0, 0) := ⟨by decide, _, rfl, rfl⟩
set_option maxRecDepth 20000 in
theorem zp_X11_319 : z_FP RX11 319 11 48 .int := ⟨RX11, TX11, 52, tyX11, rfl, zin_X11, by decide, (z_T_in (List.mem_of_getElem? (i := 1001) (by decide +kernel)) rfl : Cond.fieldLink RX11 319 "RunTogetherModel" "usedStrange" "I" ∈ z_T), tyX11_ok, nmX11, rfl, by decide +kernel⟩
set_option maxRecDepth 20000 in
theorem zcb_17 : (Int8.ofInt (17)).toInt32 = 17 := by decide
set_option maxRecDepth 20000 in
theorem zc_X11_322 : z_CV RX11 322 yX11_useLine cX11_useLine 8 none 1 := ⟨(z_T_in (List.mem_of_getElem? (i := 1369) (by decide +kernel)) rfl : Cond.code yX11_useLine cX11_useLine 8 none ∈ z_T), (z_T_in (List.mem_of_getElem? (i := 1366) (by decide +kernel)) rfl : Cond.methodLink RX11 322 yX11_useLine ∈ z_T), (z_T_in (List.mem_of_getElem? (i := 1368) (by decide +kernel)) rfl : Cond.instanceMethod yX11_useLine ∈ z_T), (z_T_in (List.mem_of_getElem? (i := 75) (by decide +kernel)) rfl : Cond.selects yX11_useLine.cls yX11_useLine yX11_useLine ∈ z_T), (z_T_in (List.mem_of_getElem? (i := 91) (by decide +kernel)) rfl : Cond.initialized yX11_useLine.cls ∈ z_T), ⟨by decide, by decide, by decide +kernel⟩⟩
set_option maxRecDepth 20000 in
theorem zc_X11_325 : z_CV RX11 325 yX11_findUses cX11_findUses 2 none 0 := ⟨(z_T_in (List.mem_of_getElem? (i := 1365) (by decide +kernel)) rfl : Cond.code yX11_findUses cX11_findUses 2 none ∈ z_T), (z_T_in (List.mem_of_getElem? (i := 1362) (by decide +kernel)) rfl : Cond.methodLink RX11 325 yX11_findUses ∈ z_T), (z_T_in (List.mem_of_getElem? (i := 1364) (by decide +kernel)) rfl : Cond.instanceMethod yX11_findUses ∈ z_T), (z_T_in (List.mem_of_getElem? (i := 74) (by decide +kernel)) rfl : Cond.selects yX11_findUses.cls yX11_findUses yX11_findUses ∈ z_T), (z_T_in (List.mem_of_getElem? (i := 91) (by decide +kernel)) rfl : Cond.initialized yX11_findUses.cls ∈ z_T), ⟨by decide, by decide, by decide +kernel⟩⟩
set_option maxRecDepth 20000 in
theorem zc_X2_116 : z_CV RX2 116 yX2_firstWordOfLeast cX2_firstWordOfLeast 7 (some .int) 3 := ⟨(z_T_in (List.mem_of_getElem? (i := 900) (by decide +kernel)) rfl : Cond.code yX2_firstWordOfLeast cX2_firstWordOfLeast 7 (some .int) ∈ z_T), (z_T_in (List.mem_of_getElem? (i := 897) (by decide +kernel)) rfl : Cond.methodLink RX2 116 yX2_firstWordOfLeast ∈ z_T), (z_T_in (List.mem_of_getElem? (i := 899) (by decide +kernel)) rfl : Cond.instanceMethod yX2_firstWordOfLeast ∈ z_T), (z_T_in (List.mem_of_getElem? (i := 39) (by decide +kernel)) rfl : Cond.selects yX2_firstWordOfLeast.cls yX2_firstWordOfLeast yX2_firstWordOfLeast ∈ z_T), (z_T_in (List.mem_of_getElem? (i := 89) (by decide +kernel)) rfl : Cond.initialized yX2_firstWordOfLeast.cls ∈ z_T), ⟨by decide, by decide, by decide +kernel⟩⟩
set_option maxRecDepth 20000 in
theorem zf_X2_110 : z_FL RX2 110 2 2 := ⟨RX2, TX2, 16, rfl, zin_X2, by decide, (z_T_in (List.mem_of_getElem? (i := 298) (by decide +kernel)) rfl : Cond.fieldLink RX2 110 "RunTogether$Lines" "strangeUsed" "I" ∈ z_T)⟩
set_option maxRecDepth 20000 in
theorem zo_X_26_2 (kn : Bool) : z_fk (layX kn) (nX kn) 26 2 2 (0, 0) := ⟨by cases kn <;> decide, _, rfl, rfl⟩
set_option maxRecDepth 20000 in
theorem zp_X2_110 : z_FP RX2 110 2 2 .int := ⟨RX2, TX2, 16, tyX2, rfl, zin_X2, by decide, (z_T_in (List.mem_of_getElem? (i := 298) (by decide +kernel)) rfl : Cond.fieldLink RX2 110 "RunTogether$Lines" "strangeUsed" "I" ∈ z_T), tyX2_ok, nmX2, rfl, by decide +kernel⟩
set_option maxRecDepth 20000 in
theorem zf_X2_9 : z_FL RX2 9 2 1 := ⟨RX2, TX2, 16, rfl, zin_X2, by decide, (z_T_in (List.mem_of_getElem? (i := 296) (by decide +kernel)) rfl : Cond.fieldLink RX2 9 "RunTogether$Lines" "used" "[I" ∈ z_T)⟩
set_option maxRecDepth 20000 in
theorem zo_X_26_1 (kn : Bool) : z_fk (layX kn) (nX kn) 26 2 1 (2, 27) := ⟨by cases kn <;> decide, _, rfl, rfl⟩
set_option maxRecDepth 20000 in
theorem za_X_27 (kn : Bool) : z_ak (layX kn) (nX kn) 27 0 16 := ⟨by cases kn <;> decide, _, rfl⟩
set_option maxRecDepth 20000 in
theorem zc_X2_113 : z_CV RX2 113 yX2_countUsesOf cX2_countUsesOf 7 none 1 := ⟨(z_T_in (List.mem_of_getElem? (i := 896) (by decide +kernel)) rfl : Cond.code yX2_countUsesOf cX2_countUsesOf 7 none ∈ z_T), (z_T_in (List.mem_of_getElem? (i := 893) (by decide +kernel)) rfl : Cond.methodLink RX2 113 yX2_countUsesOf ∈ z_T), (z_T_in (List.mem_of_getElem? (i := 895) (by decide +kernel)) rfl : Cond.instanceMethod yX2_countUsesOf ∈ z_T), (z_T_in (List.mem_of_getElem? (i := 38) (by decide +kernel)) rfl : Cond.selects yX2_countUsesOf.cls yX2_countUsesOf yX2_countUsesOf ∈ z_T), (z_T_in (List.mem_of_getElem? (i := 89) (by decide +kernel)) rfl : Cond.initialized yX2_countUsesOf.cls ∈ z_T), ⟨by decide, by decide, by decide +kernel⟩⟩
set_option maxRecDepth 20000 in
theorem zc_X10_209 : z_CV RX10 209 yX2_countUses cX2_countUses 2 none 0 := ⟨(z_T_in (List.mem_of_getElem? (i := 892) (by decide +kernel)) rfl : Cond.code yX2_countUses cX2_countUses 2 none ∈ z_T), (z_T_in (List.mem_of_getElem? (i := 889) (by decide +kernel)) rfl : Cond.methodLink RX10 209 yX2_countUses ∈ z_T), (z_T_in (List.mem_of_getElem? (i := 890) (by decide +kernel)) rfl : Cond.instanceMethod yX2_countUses ∈ z_T), (z_T_in (List.mem_of_getElem? (i := 891) (by decide +kernel)) rfl : Cond.selects yX2_countUses.cls yX2_countUses yX2_countUses ∈ z_T), (z_T_in (List.mem_of_getElem? (i := 89) (by decide +kernel)) rfl : Cond.initialized yX2_countUses.cls ∈ z_T), ⟨by decide, by decide, by decide +kernel⟩⟩
set_option maxRecDepth 20000 in
theorem zf_X10_212 : z_FL RX10 212 2 2 := ⟨RX2, TX2, 16, rfl, zin_X2, by decide, (z_T_in (List.mem_of_getElem? (i := 299) (by decide +kernel)) rfl : Cond.fieldLink RX10 212 "RunTogether$Lines" "strangeUsed" "I" ∈ z_T)⟩
set_option maxRecDepth 20000 in
theorem zf_X10_215 : z_FL RX10 215 2 1 := ⟨RX2, TX2, 16, rfl, zin_X2, by decide, (z_T_in (List.mem_of_getElem? (i := 297) (by decide +kernel)) rfl : Cond.fieldLink RX10 215 "RunTogether$Lines" "used" "[I" ∈ z_T)⟩
set_option maxRecDepth 20000 in
theorem zc_X11_328 : z_CV RX11 328 yX11_learnOnce cX11_learnOnce 5 (some .boolean) 0 := ⟨(z_T_in (List.mem_of_getElem? (i := 1377) (by decide +kernel)) rfl : Cond.code yX11_learnOnce cX11_learnOnce 5 (some .boolean) ∈ z_T), (z_T_in (List.mem_of_getElem? (i := 1374) (by decide +kernel)) rfl : Cond.methodLink RX11 328 yX11_learnOnce ∈ z_T), (z_T_in (List.mem_of_getElem? (i := 1376) (by decide +kernel)) rfl : Cond.instanceMethod yX11_learnOnce ∈ z_T), (z_T_in (List.mem_of_getElem? (i := 76) (by decide +kernel)) rfl : Cond.selects yX11_learnOnce.cls yX11_learnOnce yX11_learnOnce ∈ z_T), (z_T_in (List.mem_of_getElem? (i := 91) (by decide +kernel)) rfl : Cond.initialized yX11_learnOnce.cls ∈ z_T), ⟨by decide, by decide, by decide +kernel⟩⟩
set_option maxRecDepth 20000 in
theorem zc_X10_218 : z_CV RX10 218 yX2_rankCosts cX2_rankCosts 5 (some .boolean) 0 := ⟨(z_T_in (List.mem_of_getElem? (i := 908) (by decide +kernel)) rfl : Cond.code yX2_rankCosts cX2_rankCosts 5 (some .boolean) ∈ z_T), (z_T_in (List.mem_of_getElem? (i := 905) (by decide +kernel)) rfl : Cond.methodLink RX10 218 yX2_rankCosts ∈ z_T), (z_T_in (List.mem_of_getElem? (i := 906) (by decide +kernel)) rfl : Cond.instanceMethod yX2_rankCosts ∈ z_T), (z_T_in (List.mem_of_getElem? (i := 907) (by decide +kernel)) rfl : Cond.selects yX2_rankCosts.cls yX2_rankCosts yX2_rankCosts ∈ z_T), (z_T_in (List.mem_of_getElem? (i := 89) (by decide +kernel)) rfl : Cond.initialized yX2_rankCosts.cls ∈ z_T), ⟨by decide, by decide, by decide +kernel⟩⟩
set_option maxRecDepth 20000 in
theorem zf_X11_332 : z_FL RX11 332 11 50 := ⟨RX11, TX11, 52, rfl, zin_X11, by decide, (z_T_in (List.mem_of_getElem? (i := 1003) (by decide +kernel)) rfl : Cond.fieldLink RX11 332 "RunTogetherModel" "bestSize" "I" ∈ z_T)⟩
set_option maxRecDepth 20000 in
theorem zo_M_50 : z_fk layM nM 0 11 50 (0, 0) := ⟨by decide, _, rfl, rfl⟩
set_option maxRecDepth 20000 in
theorem zf_X11_121 : z_FL RX11 121 11 49 := ⟨RX11, TX11, 52, rfl, zin_X11, by decide, (z_T_in (List.mem_of_getElem? (i := 1002) (by decide +kernel)) rfl : Cond.fieldLink RX11 121 "RunTogetherModel" "bestRow" "[I" ∈ z_T)⟩
set_option maxRecDepth 20000 in
theorem zo_M_49 : z_fk layM nM 0 11 49 (2, 36) := ⟨by decide, _, rfl, rfl⟩
set_option maxRecDepth 20000 in
theorem za_M_36 : z_ak layM nM 36 0 5 := ⟨by decide, _, rfl⟩
set_option maxRecDepth 20000 in
theorem zp_X11_338 : z_FP RX11 338 11 51 .int := ⟨RX11, TX11, 52, tyX11, rfl, zin_X11, by decide, (z_T_in (List.mem_of_getElem? (i := 1004) (by decide +kernel)) rfl : Cond.fieldLink RX11 338 "RunTogetherModel" "bestLess" "I" ∈ z_T), tyX11_ok, nmX11, rfl, by decide +kernel⟩
set_option maxRecDepth 20000 in
theorem zo_M_51 : z_fk layM nM 0 11 51 (0, 0) := ⟨by decide, _, rfl, rfl⟩
set_option maxRecDepth 20000 in
theorem zp_X11_332 : z_FP RX11 332 11 50 .int := ⟨RX11, TX11, 52, tyX11, rfl, zin_X11, by decide, (z_T_in (List.mem_of_getElem? (i := 1003) (by decide +kernel)) rfl : Cond.fieldLink RX11 332 "RunTogetherModel" "bestSize" "I" ∈ z_T), tyX11_ok, nmX11, rfl, by decide +kernel⟩
set_option maxRecDepth 20000 in
theorem zc_X11_335 : z_CV RX11 335 yX11_totals cX11_totals 3 (some .int) 0 := ⟨(z_T_in (List.mem_of_getElem? (i := 1349) (by decide +kernel)) rfl : Cond.code yX11_totals cX11_totals 3 (some .int) ∈ z_T), (z_T_in (List.mem_of_getElem? (i := 1383) (by decide +kernel)) rfl : Cond.methodLink RX11 335 yX11_totals ∈ z_T), (z_T_in (List.mem_of_getElem? (i := 1347) (by decide +kernel)) rfl : Cond.instanceMethod yX11_totals ∈ z_T), (z_T_in (List.mem_of_getElem? (i := 1348) (by decide +kernel)) rfl : Cond.selects yX11_totals.cls yX11_totals yX11_totals ∈ z_T), (z_T_in (List.mem_of_getElem? (i := 91) (by decide +kernel)) rfl : Cond.initialized yX11_totals.cls ∈ z_T), ⟨by decide, by decide, by decide +kernel⟩⟩
set_option maxRecDepth 20000 in
theorem zf_X11_338 : z_FL RX11 338 11 51 := ⟨RX11, TX11, 52, rfl, zin_X11, by decide, (z_T_in (List.mem_of_getElem? (i := 1004) (by decide +kernel)) rfl : Cond.fieldLink RX11 338 "RunTogetherModel" "bestLess" "I" ∈ z_T)⟩
set_option maxRecDepth 20000 in
theorem zc_X11_341 : z_CV RX11 341 yX11_isAheadOfBest cX11_isAheadOfBest 4 (some .boolean) 1 := ⟨(z_T_in (List.mem_of_getElem? (i := 1395) (by decide +kernel)) rfl : Cond.code yX11_isAheadOfBest cX11_isAheadOfBest 4 (some .boolean) ∈ z_T), (z_T_in (List.mem_of_getElem? (i := 1392) (by decide +kernel)) rfl : Cond.methodLink RX11 341 yX11_isAheadOfBest ∈ z_T), (z_T_in (List.mem_of_getElem? (i := 1394) (by decide +kernel)) rfl : Cond.instanceMethod yX11_isAheadOfBest ∈ z_T), (z_T_in (List.mem_of_getElem? (i := 79) (by decide +kernel)) rfl : Cond.selects yX11_isAheadOfBest.cls yX11_isAheadOfBest yX11_isAheadOfBest ∈ z_T), (z_T_in (List.mem_of_getElem? (i := 91) (by decide +kernel)) rfl : Cond.initialized yX11_isAheadOfBest.cls ∈ z_T), ⟨by decide, by decide, by decide +kernel⟩⟩
set_option maxRecDepth 20000 in
theorem zcb_6 : (Int8.ofInt (6)).toInt32 = 6 := by decide
set_option maxRecDepth 20000 in
theorem zc_X11_346 : z_CV RX11 346 yX11_layWord cX11_layWord 8 (some .boolean) 3 := ⟨(z_T_in (List.mem_of_getElem? (i := 1387) (by decide +kernel)) rfl : Cond.code yX11_layWord cX11_layWord 8 (some .boolean) ∈ z_T), (z_T_in (List.mem_of_getElem? (i := 1384) (by decide +kernel)) rfl : Cond.methodLink RX11 346 yX11_layWord ∈ z_T), (z_T_in (List.mem_of_getElem? (i := 1386) (by decide +kernel)) rfl : Cond.instanceMethod yX11_layWord ∈ z_T), (z_T_in (List.mem_of_getElem? (i := 77) (by decide +kernel)) rfl : Cond.selects yX11_layWord.cls yX11_layWord yX11_layWord ∈ z_T), (z_T_in (List.mem_of_getElem? (i := 91) (by decide +kernel)) rfl : Cond.initialized yX11_layWord.cls ∈ z_T), ⟨by decide, by decide, by decide +kernel⟩⟩
set_option maxRecDepth 20000 in
theorem zc_X11_349 : z_CV RX11 349 yX11_tryWord cX11_tryWord 5 none 2 := ⟨(z_T_in (List.mem_of_getElem? (i := 1391) (by decide +kernel)) rfl : Cond.code yX11_tryWord cX11_tryWord 5 none ∈ z_T), (z_T_in (List.mem_of_getElem? (i := 1388) (by decide +kernel)) rfl : Cond.methodLink RX11 349 yX11_tryWord ∈ z_T), (z_T_in (List.mem_of_getElem? (i := 1390) (by decide +kernel)) rfl : Cond.instanceMethod yX11_tryWord ∈ z_T), (z_T_in (List.mem_of_getElem? (i := 78) (by decide +kernel)) rfl : Cond.selects yX11_tryWord.cls yX11_tryWord yX11_tryWord ∈ z_T), (z_T_in (List.mem_of_getElem? (i := 91) (by decide +kernel)) rfl : Cond.initialized yX11_tryWord.cls ∈ z_T), ⟨by decide, by decide, by decide +kernel⟩⟩
set_option maxRecDepth 20000 in
theorem zl_X11_344 : Cond.constantLong RX11 344 (6) ∈ z_T := z_T_in (List.mem_of_getElem? (i := 1382) (by decide +kernel)) rfl
set_option maxRecDepth 20000 in
theorem zc_X2_135 : z_CN RX2 135 yX10_codeOf cX10_codeOf 5 (some .int) 3 := ⟨(z_T_in (List.mem_of_getElem? (i := 924) (by decide +kernel)) rfl : Cond.code yX10_codeOf cX10_codeOf 5 (some .int) ∈ z_T), fun s h => h.2, (z_T_in (List.mem_of_getElem? (i := 923) (by decide +kernel)) rfl : Cond.static yX10_codeOf ∈ z_T), (z_T_in (List.mem_of_getElem? (i := 81) (by decide +kernel)) rfl : Cond.initialized yX10_codeOf.cls ∈ z_T), ⟨by decide, by decide, by decide +kernel⟩⟩
set_option maxRecDepth 20000 in
theorem zf_X2_149 : z_FL RX2 149 9 1 := ⟨RX9, TX9, 5, rfl, zin_X9, by decide, (z_T_in (List.mem_of_getElem? (i := 142) (by decide +kernel)) rfl : Cond.fieldLink RX2 149 "RunTogether$Words" "signs" "[I" ∈ z_T)⟩
set_option maxRecDepth 20000 in
theorem zc_X2_146 : z_CV RX2 146 yX2_comesIn cX2_comesIn 4 (some .boolean) 2 := ⟨(z_T_in (List.mem_of_getElem? (i := 940) (by decide +kernel)) rfl : Cond.code yX2_comesIn cX2_comesIn 4 (some .boolean) ∈ z_T), (z_T_in (List.mem_of_getElem? (i := 937) (by decide +kernel)) rfl : Cond.methodLink RX2 146 yX2_comesIn ∈ z_T), (z_T_in (List.mem_of_getElem? (i := 939) (by decide +kernel)) rfl : Cond.instanceMethod yX2_comesIn ∈ z_T), (z_T_in (List.mem_of_getElem? (i := 44) (by decide +kernel)) rfl : Cond.selects yX2_comesIn.cls yX2_comesIn yX2_comesIn ∈ z_T), (z_T_in (List.mem_of_getElem? (i := 89) (by decide +kernel)) rfl : Cond.initialized yX2_comesIn.cls ∈ z_T), ⟨by decide, by decide, by decide +kernel⟩⟩
set_option maxRecDepth 20000 in
theorem zf_X2_37 : z_FL RX2 37 2 13 := ⟨RX2, TX2, 16, rfl, zin_X2, by decide, (z_T_in (List.mem_of_getElem? (i := 313) (by decide +kernel)) rfl : Cond.fieldLink RX2 37 "RunTogether$Lines" "leastOfLine" "[I" ∈ z_T)⟩
set_option maxRecDepth 20000 in
theorem zo_X_26_13 (kn : Bool) : z_fk (layX kn) (nX kn) 26 2 13 (2, 33) := ⟨by cases kn <;> decide, _, rfl, rfl⟩
set_option maxRecDepth 20000 in
theorem za_X_33 (kn : Bool) : z_ak (layX kn) (nX kn) 33 0 4 := ⟨by cases kn <;> decide, _, rfl⟩
set_option maxRecDepth 20000 in
theorem zp_X2_120 : z_FP RX2 120 2 4 .int := ⟨RX2, TX2, 16, tyX2, rfl, zin_X2, by decide, (z_T_in (List.mem_of_getElem? (i := 302) (by decide +kernel)) rfl : Cond.fieldLink RX2 120 "RunTogether$Lines" "bestGain" "I" ∈ z_T), tyX2_ok, nmX2, rfl, by decide +kernel⟩
set_option maxRecDepth 20000 in
theorem zo_X_26_4 (kn : Bool) : z_fk (layX kn) (nX kn) 26 2 4 (0, 0) := ⟨by cases kn <;> decide, _, rfl, rfl⟩
set_option maxRecDepth 20000 in
theorem zp_X2_123 : z_FP RX2 123 2 5 .int := ⟨RX2, TX2, 16, tyX2, rfl, zin_X2, by decide, (z_T_in (List.mem_of_getElem? (i := 304) (by decide +kernel)) rfl : Cond.fieldLink RX2 123 "RunTogether$Lines" "bestCode" "I" ∈ z_T), tyX2_ok, nmX2, rfl, by decide +kernel⟩
set_option maxRecDepth 20000 in
theorem zo_X_26_5 (kn : Bool) : z_fk (layX kn) (nX kn) 26 2 5 (0, 0) := ⟨by cases kn <;> decide, _, rfl, rfl⟩
set_option maxRecDepth 20000 in
theorem zc_X2_139 : z_CV RX2 139 yX2_isTriedAhead cX2_isTriedAhead 3 (some .boolean) 1 := ⟨(z_T_in (List.mem_of_getElem? (i := 932) (by decide +kernel)) rfl : Cond.code yX2_isTriedAhead cX2_isTriedAhead 3 (some .boolean) ∈ z_T), (z_T_in (List.mem_of_getElem? (i := 929) (by decide +kernel)) rfl : Cond.methodLink RX2 139 yX2_isTriedAhead ∈ z_T), (z_T_in (List.mem_of_getElem? (i := 931) (by decide +kernel)) rfl : Cond.instanceMethod yX2_isTriedAhead ∈ z_T), (z_T_in (List.mem_of_getElem? (i := 42) (by decide +kernel)) rfl : Cond.selects yX2_isTriedAhead.cls yX2_isTriedAhead yX2_isTriedAhead ∈ z_T), (z_T_in (List.mem_of_getElem? (i := 89) (by decide +kernel)) rfl : Cond.initialized yX2_isTriedAhead.cls ∈ z_T), ⟨by decide, by decide, by decide +kernel⟩⟩
set_option maxRecDepth 20000 in
theorem zc_X2_143 : z_CV RX2 143 yX2_isCodeOfWord cX2_isCodeOfWord 3 (some .boolean) 1 := ⟨(z_T_in (List.mem_of_getElem? (i := 936) (by decide +kernel)) rfl : Cond.code yX2_isCodeOfWord cX2_isCodeOfWord 3 (some .boolean) ∈ z_T), (z_T_in (List.mem_of_getElem? (i := 933) (by decide +kernel)) rfl : Cond.methodLink RX2 143 yX2_isCodeOfWord ∈ z_T), (z_T_in (List.mem_of_getElem? (i := 935) (by decide +kernel)) rfl : Cond.instanceMethod yX2_isCodeOfWord ∈ z_T), (z_T_in (List.mem_of_getElem? (i := 43) (by decide +kernel)) rfl : Cond.selects yX2_isCodeOfWord.cls yX2_isCodeOfWord yX2_isCodeOfWord ∈ z_T), (z_T_in (List.mem_of_getElem? (i := 89) (by decide +kernel)) rfl : Cond.initialized yX2_isCodeOfWord.cls ∈ z_T), ⟨by decide, by decide, by decide +kernel⟩⟩
set_option maxRecDepth 20000 in
theorem zp_X2_89 : z_FP RX2 89 2 15 .int := ⟨RX2, TX2, 16, tyX2, rfl, zin_X2, by decide, (z_T_in (List.mem_of_getElem? (i := 315) (by decide +kernel)) rfl : Cond.fieldLink RX2 89 "RunTogether$Lines" "newCode" "I" ∈ z_T), tyX2_ok, nmX2, rfl, by decide +kernel⟩
set_option maxRecDepth 20000 in
theorem zf_X2_120 : z_FL RX2 120 2 4 := ⟨RX2, TX2, 16, rfl, zin_X2, by decide, (z_T_in (List.mem_of_getElem? (i := 302) (by decide +kernel)) rfl : Cond.fieldLink RX2 120 "RunTogether$Lines" "bestGain" "I" ∈ z_T)⟩
set_option maxRecDepth 20000 in
theorem zf_X2_123 : z_FL RX2 123 2 5 := ⟨RX2, TX2, 16, rfl, zin_X2, by decide, (z_T_in (List.mem_of_getElem? (i := 304) (by decide +kernel)) rfl : Cond.fieldLink RX2 123 "RunTogether$Lines" "bestCode" "I" ∈ z_T)⟩
set_option maxRecDepth 20000 in
theorem zc_X2_132 : z_CV RX2 132 yX2_tryNew cX2_tryNew 5 none 1 := ⟨(z_T_in (List.mem_of_getElem? (i := 928) (by decide +kernel)) rfl : Cond.code yX2_tryNew cX2_tryNew 5 none ∈ z_T), (z_T_in (List.mem_of_getElem? (i := 925) (by decide +kernel)) rfl : Cond.methodLink RX2 132 yX2_tryNew ∈ z_T), (z_T_in (List.mem_of_getElem? (i := 927) (by decide +kernel)) rfl : Cond.instanceMethod yX2_tryNew ∈ z_T), (z_T_in (List.mem_of_getElem? (i := 41) (by decide +kernel)) rfl : Cond.selects yX2_tryNew.cls yX2_tryNew yX2_tryNew ∈ z_T), (z_T_in (List.mem_of_getElem? (i := 89) (by decide +kernel)) rfl : Cond.initialized yX2_tryNew.cls ∈ z_T), ⟨by decide, by decide, by decide +kernel⟩⟩
set_option maxRecDepth 20000 in
theorem zp_X2_92 : z_FP RX2 92 2 14 .int := ⟨RX2, TX2, 16, tyX2, rfl, zin_X2, by decide, (z_T_in (List.mem_of_getElem? (i := 314) (by decide +kernel)) rfl : Cond.fieldLink RX2 92 "RunTogether$Lines" "newLength" "I" ∈ z_T), tyX2_ok, nmX2, rfl, by decide +kernel⟩
set_option maxRecDepth 20000 in
theorem zc_X2_129 : z_CV RX2 129 yX2_encode cX2_encode 4 none 0 := ⟨(z_T_in (List.mem_of_getElem? (i := 921) (by decide +kernel)) rfl : Cond.code yX2_encode cX2_encode 4 none ∈ z_T), (z_T_in (List.mem_of_getElem? (i := 918) (by decide +kernel)) rfl : Cond.methodLink RX2 129 yX2_encode ∈ z_T), (z_T_in (List.mem_of_getElem? (i := 920) (by decide +kernel)) rfl : Cond.instanceMethod yX2_encode ∈ z_T), (z_T_in (List.mem_of_getElem? (i := 40) (by decide +kernel)) rfl : Cond.selects yX2_encode.cls yX2_encode yX2_encode ∈ z_T), (z_T_in (List.mem_of_getElem? (i := 89) (by decide +kernel)) rfl : Cond.initialized yX2_encode.cls ∈ z_T), ⟨by decide, by decide, by decide +kernel⟩⟩
set_option maxRecDepth 20000 in
theorem zp_X2_15 : z_FP RX2 15 2 3 .int := ⟨RX2, TX2, 16, tyX2, rfl, zin_X2, by decide, (z_T_in (List.mem_of_getElem? (i := 300) (by decide +kernel)) rfl : Cond.fieldLink RX2 15 "RunTogether$Lines" "soughtCost" "I" ∈ z_T), tyX2_ok, nmX2, rfl, by decide +kernel⟩
set_option maxRecDepth 20000 in
theorem zc_X2_126 : z_CV RX2 126 yX2_match cX2_match 3 none 0 := ⟨(z_T_in (List.mem_of_getElem? (i := 864) (by decide +kernel)) rfl : Cond.code yX2_match cX2_match 3 none ∈ z_T), (z_T_in (List.mem_of_getElem? (i := 917) (by decide +kernel)) rfl : Cond.methodLink RX2 126 yX2_match ∈ z_T), (z_T_in (List.mem_of_getElem? (i := 862) (by decide +kernel)) rfl : Cond.instanceMethod yX2_match ∈ z_T), (z_T_in (List.mem_of_getElem? (i := 863) (by decide +kernel)) rfl : Cond.selects yX2_match.cls yX2_match yX2_match ∈ z_T), (z_T_in (List.mem_of_getElem? (i := 89) (by decide +kernel)) rfl : Cond.initialized yX2_match.cls ∈ z_T), ⟨by decide, by decide, by decide +kernel⟩⟩
set_option maxRecDepth 20000 in
theorem zc_X10_234 : z_CS RX10 234 yX10_letterOfCode cX10_letterOfCode 4 (some .int) 2 := ⟨(z_T_in (List.mem_of_getElem? (i := 946) (by decide +kernel)) rfl : Cond.code yX10_letterOfCode cX10_letterOfCode 4 (some .int) ∈ z_T), (z_T_in (List.mem_of_getElem? (i := 944) (by decide +kernel)) rfl : Cond.methodLink RX10 234 yX10_letterOfCode ∈ z_T), (z_T_in (List.mem_of_getElem? (i := 945) (by decide +kernel)) rfl : Cond.static yX10_letterOfCode ∈ z_T), (z_T_in (List.mem_of_getElem? (i := 81) (by decide +kernel)) rfl : Cond.initialized yX10_letterOfCode.cls ∈ z_T), ⟨by decide, by decide, by decide +kernel⟩⟩
set_option maxRecDepth 20000 in
theorem zc_X10_221 : z_CV RX10 221 yX2_seekNew cX2_seekNew 4 none 1 := ⟨(z_T_in (List.mem_of_getElem? (i := 916) (by decide +kernel)) rfl : Cond.code yX2_seekNew cX2_seekNew 4 none ∈ z_T), (z_T_in (List.mem_of_getElem? (i := 913) (by decide +kernel)) rfl : Cond.methodLink RX10 221 yX2_seekNew ∈ z_T), (z_T_in (List.mem_of_getElem? (i := 914) (by decide +kernel)) rfl : Cond.instanceMethod yX2_seekNew ∈ z_T), (z_T_in (List.mem_of_getElem? (i := 915) (by decide +kernel)) rfl : Cond.selects yX2_seekNew.cls yX2_seekNew yX2_seekNew ∈ z_T), (z_T_in (List.mem_of_getElem? (i := 89) (by decide +kernel)) rfl : Cond.initialized yX2_seekNew.cls ∈ z_T), ⟨by decide, by decide, by decide +kernel⟩⟩
set_option maxRecDepth 20000 in
theorem zf_X10_224 : z_FL RX10 224 2 4 := ⟨RX2, TX2, 16, rfl, zin_X2, by decide, (z_T_in (List.mem_of_getElem? (i := 303) (by decide +kernel)) rfl : Cond.fieldLink RX10 224 "RunTogether$Lines" "bestGain" "I" ∈ z_T)⟩
set_option maxRecDepth 20000 in
theorem zf_X10_227 : z_FL RX10 227 2 5 := ⟨RX2, TX2, 16, rfl, zin_X2, by decide, (z_T_in (List.mem_of_getElem? (i := 305) (by decide +kernel)) rfl : Cond.fieldLink RX10 227 "RunTogether$Lines" "bestCode" "I" ∈ z_T)⟩
set_option maxRecDepth 20000 in
theorem zc_X10_230 : z_CS RX10 230 yX10_lengthOfCode cX10_lengthOfCode 3 (some .int) 1 := ⟨(z_T_in (List.mem_of_getElem? (i := 943) (by decide +kernel)) rfl : Cond.code yX10_lengthOfCode cX10_lengthOfCode 3 (some .int) ∈ z_T), (z_T_in (List.mem_of_getElem? (i := 941) (by decide +kernel)) rfl : Cond.methodLink RX10 230 yX10_lengthOfCode ∈ z_T), (z_T_in (List.mem_of_getElem? (i := 942) (by decide +kernel)) rfl : Cond.static yX10_lengthOfCode ∈ z_T), (z_T_in (List.mem_of_getElem? (i := 81) (by decide +kernel)) rfl : Cond.initialized yX10_lengthOfCode.cls ∈ z_T), ⟨by decide, by decide, by decide +kernel⟩⟩

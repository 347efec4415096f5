set_option maxRecDepth 100000 in
set_option maxHeartbeats 4000000 in
theorem wX3_leastInAll_L2 {kn : Bool} {F : z_F} {ad : Nat → Nat} {r : Int64} {gE : z_S} (C : z_X F (layX kn) (nX kn) ad cX3_leastInAll RX3 4 (some .long) 3 72 (some (.long r)) gE) (k31 : z_S → Option (Int64 × z_S)) (hk31 : ∀ (g : z_S), k31 g = some (r, gE) → z_W F (layX kn) (nX kn) ad 31 [(0, .ref (ad 23))] [] g) : ∀ (n : Nat) (v1 : Int32) (g : z_S), z_loop (fX3_leastInAll_B2 k31) n v1 g = some (r, gE) → z_W F (layX kn) (nX kn) ad 2 [(0, .ref (ad 23)), (1, .int v1)] [] g := by
  intro n
  induction n with
  | zero =>
    intro v1 g h
    exact (z_loop_0 h).elim
  | succ n ih =>
    intro v1 g h
    replace h := z_loop_S h
    simp only [fX3_leastInAll_B2] at h
    refine z_iload_n C dX3_leastInAll_2 rfl 1 rfl ?_
    refine z_aload_n C dX3_leastInAll_3 rfl 0 rfl ?_
    refine z_getr C zf_X3_22 (zo_X_23_1 kn) dX3_leastInAll_4 ?_
    refine z_geti C zf_X3_30 (zo_X_4_0 kn) dX3_leastInAll_7 ?_
    refine z_bipush C dX3_leastInAll_10 zcb_9 ?_
    refine z_imul C dX3_leastInAll_12 ?_
    refine z_icmp_ge 31 C dX3_leastInAll_13 rfl (fun hc => ?_) (fun hc => ?_)
    · replace h := z_it hc h
      refine z_loc [0] rfl ?_
      exact hk31 g h
    · replace h := z_if hc h
      refine z_aload_n C dX3_leastInAll_16 rfl 0 rfl ?_
      refine z_getr C zf_X3_11 (zo_X_23_3 kn) dX3_leastInAll_17 ?_
      refine z_iload_n C dX3_leastInAll_20 rfl 1 rfl ?_
      refine z_ldc2 C dX3_leastInAll_21 zl_X3_36 ?_
      obtain ⟨hi24, h⟩ := z_g_some h
      obtain ⟨g24, eg24, h⟩ := z_s_some h
      refine z_last C (za_X_24 kn) (z_in_vp hi24) dX3_leastInAll_24 ?_
      refine z_gw eg24 ?_
      refine z_iinc C dX3_leastInAll_25 (by decide) 1 rfl (z_incl zci_1) [(1, .int (v1 + 1)), (0, .ref (ad 23))] rfl ?_
      refine z_goto 2 C dX3_leastInAll_28 rfl ?_
      refine z_loc [1, 0] rfl ?_
      exact ih (v1 + 1) g24 h
set_option maxRecDepth 100000 in
set_option maxHeartbeats 4000000 in
theorem wX3_leastInAll_L33 {kn : Bool} {F : z_F} {ad : Nat → Nat} {r : Int64} {gE : z_S} (C : z_X F (layX kn) (nX kn) ad cX3_leastInAll RX3 4 (some .long) 3 72 (some (.long r)) gE) (k62 : z_S → Option (Int64 × z_S)) (hk62 : ∀ (g : z_S), k62 g = some (r, gE) → z_W F (layX kn) (nX kn) ad 62 [(0, .ref (ad 23))] [] g) : ∀ (n : Nat) (v1 : Int32) (g : z_S), z_loop (fX3_leastInAll_B33 k62) n v1 g = some (r, gE) → z_W F (layX kn) (nX kn) ad 33 [(0, .ref (ad 23)), (1, .int v1)] [] g := by
  intro n
  induction n with
  | zero =>
    intro v1 g h
    exact (z_loop_0 h).elim
  | succ n ih =>
    intro v1 g h
    replace h := z_loop_S h
    simp only [fX3_leastInAll_B33] at h
    refine z_iload_n C dX3_leastInAll_33 rfl 1 rfl ?_
    refine z_iconst C dX3_leastInAll_34 zci_5 ?_
    refine z_icmp_ge 62 C dX3_leastInAll_35 rfl (fun hc => ?_) (fun hc => ?_)
    · replace h := z_it hc h
      refine z_loc [0] rfl ?_
      exact hk62 g h
    · replace h := z_if hc h
      refine z_aload_n C dX3_leastInAll_38 rfl 0 rfl ?_
      refine z_getr C zf_X3_15 (zo_X_23_4 kn) dX3_leastInAll_39 ?_
      refine z_iload_n C dX3_leastInAll_42 rfl 1 rfl ?_
      refine z_iload_n C dX3_leastInAll_43 rfl 1 rfl ?_
      refine z_iconst C dX3_leastInAll_44 zci_4 ?_
      refine z_icmp_ne 52 C dX3_leastInAll_45 rfl (fun hc => ?_) (fun hc => ?_)
      · replace h := z_it hc h
        refine z_lconst C dX3_leastInAll_48 zcl_0 ?_
        refine z_goto 55 C dX3_leastInAll_49 rfl ?_
        obtain ⟨hi55, h⟩ := z_g_some h
        obtain ⟨g55, eg55, h⟩ := z_s_some h
        refine z_last C (za_X_25 kn) (z_in_vp hi55) dX3_leastInAll_55 ?_
        refine z_gw eg55 ?_
        refine z_iinc C dX3_leastInAll_56 (by decide) 1 rfl (z_incl zci_1) [(1, .int (v1 + 1)), (0, .ref (ad 23))] rfl ?_
        refine z_goto 33 C dX3_leastInAll_59 rfl ?_
        refine z_loc [1, 0] rfl ?_
        exact ih (v1 + 1) g55 h
      · replace h := z_if hc h
        refine z_ldc2 C dX3_leastInAll_52 zl_X3_36 ?_
        obtain ⟨hi55, h⟩ := z_g_some h
        obtain ⟨g55, eg55, h⟩ := z_s_some h
        refine z_last C (za_X_25 kn) (z_in_vp hi55) dX3_leastInAll_55 ?_
        refine z_gw eg55 ?_
        refine z_iinc C dX3_leastInAll_56 (by decide) 1 rfl (z_incl zci_1) [(1, .int (v1 + 1)), (0, .ref (ad 23))] rfl ?_
        refine z_goto 33 C dX3_leastInAll_59 rfl ?_
        refine z_loc [1, 0] rfl ?_
        exact ih (v1 + 1) g55 h
set_option maxRecDepth 100000 in
set_option maxHeartbeats 4000000 in
theorem wX3_leastInAll_L68 {kn : Bool} {F : z_F} {ad : Nat → Nat} {r : Int64} {gE : z_S} (C : z_X F (layX kn) (nX kn) ad cX3_leastInAll RX3 4 (some .long) 3 72 (some (.long r)) gE) (k102 : z_S → Option (Int64 × z_S)) (hk102 : ∀ (g : z_S), k102 g = some (r, gE) → z_W F (layX kn) (nX kn) ad 102 [(0, .ref (ad 23))] [] g) : ∀ (n : Nat) (v1 : Int32) (g : z_S), z_loop (fX3_leastInAll_B68 k102) n v1 g = some (r, gE) → z_W F (layX kn) (nX kn) ad 68 [(0, .ref (ad 23)), (1, .int v1)] [] g := by
  intro n
  induction n with
  | zero =>
    intro v1 g h
    exact (z_loop_0 h).elim
  | succ n ih =>
    intro v1 g h
    replace h := z_loop_S h
    simp only [fX3_leastInAll_B68] at h
    refine z_iload_n C dX3_leastInAll_68 rfl 1 rfl ?_
    refine z_aload_n C dX3_leastInAll_69 rfl 0 rfl ?_
    refine z_getr C zf_X3_18 (zo_X_23_0 kn) dX3_leastInAll_70 ?_
    refine z_geti C zf_X3_41 (zo_X_11_1 kn) dX3_leastInAll_73 ?_
    refine z_icmp_ge 102 C dX3_leastInAll_76 rfl (fun hc => ?_) (fun hc => ?_)
    · replace h := z_it hc h
      refine z_loc [0] rfl ?_
      exact hk102 g h
    · replace h := z_if hc h
      refine z_aload_n C dX3_leastInAll_79 rfl 0 rfl ?_
      refine z_aload_n C dX3_leastInAll_80 rfl 0 rfl ?_
      refine z_getr C zf_X3_18 (zo_X_23_0 kn) dX3_leastInAll_81 ?_
      refine z_getr C zf_X3_44 (zo_X_11_0 kn) dX3_leastInAll_84 ?_
      refine z_iload_n C dX3_leastInAll_87 rfl 1 rfl ?_
      obtain ⟨hi88, h⟩ := z_g_some h
      refine z_iald C (za_X_12 kn) (z_in_vp hi88) dX3_leastInAll_88 ?_
      obtain ⟨r89, g89, hq89, h⟩ := z_b_some h
      refine z_callVv [] C zc_X3_48 (zk_X_23 kn) rfl (by decide) (Nat.le_of_ble_eq_true rfl) dX3_leastInAll_89 rfl (wX3_takeLetter kn ad (g.1 12 (v1).toNatClampNeg) g g89 hq89) ?_
      refine z_aload_n C dX3_leastInAll_92 rfl 0 rfl ?_
      obtain ⟨r93, g93, hq93, h⟩ := z_b_some h
      refine z_callVv [] C zc_X3_38 (zk_X_23 kn) rfl (by decide) (Nat.le_of_ble_eq_true rfl) dX3_leastInAll_93 rfl (wX3_settle kn ad g89 g93 hq93) ?_
      refine z_iinc C dX3_leastInAll_96 (by decide) 1 rfl (z_incl zci_1) [(1, .int (v1 + 1)), (0, .ref (ad 23))] rfl ?_
      refine z_goto 68 C dX3_leastInAll_99 rfl ?_
      refine z_loc [1, 0] rfl ?_
      exact ih (v1 + 1) g93 h
set_option maxRecDepth 100000 in
set_option maxHeartbeats 4000000 in
theorem wX3_leastInAll_L108 {kn : Bool} {F : z_F} {ad : Nat → Nat} {r : Int64} {gE : z_S} (C : z_X F (layX kn) (nX kn) ad cX3_leastInAll RX3 4 (some .long) 3 72 (some (.long r)) gE) : ∀ (n : Nat) (v1 : Int64) (v3 : Int32) (g : z_S), z_loop fX3_leastInAll_B108 n (v1, v3) g = some (r, gE) → z_W F (layX kn) (nX kn) ad 108 [(0, .ref (ad 23)), (1, .long v1), (3, .int v3)] [] g := by
  intro n
  induction n with
  | zero =>
    intro v1 v3 g h
    exact (z_loop_0 h).elim
  | succ n ih =>
    intro v1 v3 g h
    replace h := z_loop_S h
    simp only [fX3_leastInAll_B108] at h
    refine z_iload_n C dX3_leastInAll_108 rfl 2 rfl ?_
    refine z_iconst C dX3_leastInAll_109 zci_5 ?_
    refine z_icmp_ge 130 C dX3_leastInAll_110 rfl (fun hc => ?_) (fun hc => ?_)
    · replace h := z_it hc h
      refine z_lload_n C dX3_leastInAll_130 rfl 1 rfl ?_
      exact z_lret C (z_ret1l h) (z_ret2 h) dX3_leastInAll_131
    · replace h := z_if hc h
      refine z_lload_n C dX3_leastInAll_113 rfl 1 rfl ?_
      refine z_aload_n C dX3_leastInAll_114 rfl 0 rfl ?_
      refine z_getr C zf_X3_15 (zo_X_23_4 kn) dX3_leastInAll_115 ?_
      refine z_iload_n C dX3_leastInAll_118 rfl 2 rfl ?_
      obtain ⟨hi119, h⟩ := z_g_some h
      refine z_lald C (za_X_25 kn) (z_in_vp hi119) dX3_leastInAll_119 ?_
      refine z_mminl C zm_X3_52 zms_l zmi zmc_l (by decide) (Nat.le_of_ble_eq_true rfl) dX3_leastInAll_120 ?_
      refine z_lstore_n C dX3_leastInAll_123 rfl (by decide) [(1, .long (if g.2 25 (v3).toNatClampNeg < v1 then g.2 25 (v3).toNatClampNeg else v1)), (0, .ref (ad 23)), (3, .int v3)] rfl ?_
      refine z_iinc C dX3_leastInAll_124 (by decide) 2 rfl (z_incl zci_1) [(3, .int (v3 + 1)), (1, .long (if g.2 25 (v3).toNatClampNeg < v1 then g.2 25 (v3).toNatClampNeg else v1)), (0, .ref (ad 23))] rfl ?_
      refine z_goto 108 C dX3_leastInAll_127 rfl ?_
      refine z_loc [2, 1, 0] rfl ?_
      exact ih (if g.2 25 (v3).toNatClampNeg < v1 then g.2 25 (v3).toNatClampNeg else v1) (v3 + 1) g h
set_option maxRecDepth 100000 in
set_option maxHeartbeats 4000000 in
theorem wX3_leastInAll (kn : Bool) (ad : Nat → Nat) (g : z_S) (r : Int64) (gE : z_S) (h : fX3_leastInAll g = some (r, gE)) : z_M yX3_leastInAll cX3_leastInAll 4 (some .long) 3 72 (layX kn) (nX kn) ad [.ref (ad 23)] g (some (.long r)) gE := by
  refine z_enter (by decide) (Nat.le_of_ble_eq_true rfl) (fun F C => ?_)
  replace C : z_X F (layX kn) (nX kn) ad cX3_leastInAll RX3 4 (some .long) 3 72 (some (.long r)) gE := C
  show z_W F (layX kn) (nX kn) ad 0 [(0, .ref (ad 23))] [] g
  unfold fX3_leastInAll at h
  refine z_iconst C dX3_leastInAll_0 zci_0 ?_
  refine z_istore_n C dX3_leastInAll_1 rfl (by decide) [(1, .int 0), (0, .ref (ad 23))] rfl ?_
  refine z_loc [1, 0] rfl ?_
  refine wX3_leastInAll_L2 C _ ?_ zN 0 g h
  · intro g h
    refine z_iconst C dX3_leastInAll_31 zci_0 ?_
    refine z_istore_n C dX3_leastInAll_32 rfl (by decide) [(1, .int 0), (0, .ref (ad 23))] rfl ?_
    refine z_loc [1, 0] rfl ?_
    refine wX3_leastInAll_L33 C _ ?_ zN 0 g h
    · intro g h
      refine z_aload_n C dX3_leastInAll_62 rfl 0 rfl ?_
      obtain ⟨r63, g63, hq63, h⟩ := z_b_some h
      refine z_callVv [] C zc_X3_38 (zk_X_23 kn) rfl (by decide) (Nat.le_of_ble_eq_true rfl) dX3_leastInAll_63 rfl (wX3_settle kn ad g g63 hq63) ?_
      refine z_iconst C dX3_leastInAll_66 zci_0 ?_
      refine z_istore_n C dX3_leastInAll_67 rfl (by decide) [(1, .int 0), (0, .ref (ad 23))] rfl ?_
      refine z_loc [1, 0] rfl ?_
      refine wX3_leastInAll_L68 C _ ?_ zN 0 g63 h
      · intro g h
        refine z_ldc2 C dX3_leastInAll_102 zl_X3_36 ?_
        refine z_lstore_n C dX3_leastInAll_105 rfl (by decide) [(1, .long 1152921504606846976), (0, .ref (ad 23))] rfl ?_
        refine z_iconst C dX3_leastInAll_106 zci_0 ?_
        refine z_istore_n C dX3_leastInAll_107 rfl (by decide) [(3, .int 0), (1, .long 1152921504606846976), (0, .ref (ad 23))] rfl ?_
        refine z_loc [2, 1, 0] rfl ?_
        refine wX3_leastInAll_L108 C  zN 1152921504606846976 0 g h
set_option maxRecDepth 100000 in
set_option maxHeartbeats 4000000 in
theorem wX10_patched (kn : Bool) (ad : Nat → Nat) (v1 : Int32) (g : z_S) (r : Int32) (gE : z_S) (h : fX10_patched v1 g = some (r, gE)) : z_M yX10_patched cX10_patched 4 (some .int) 4 95 (layX kn) (nX kn) ad [.ref (ad 0), .int v1] g (some (.int r)) gE := by
  refine z_enter (by decide) (Nat.le_of_ble_eq_true rfl) (fun F C => ?_)
  replace C : z_X F (layX kn) (nX kn) ad cX10_patched RX10 4 (some .int) 4 95 (some (.int r)) gE := C
  show z_W F (layX kn) (nX kn) ad 0 [(0, .ref (ad 0)), (1, .int v1)] [] g
  unfold fX10_patched at h
  refine z_iload_n C dX10_patched_0 rfl 1 rfl ?_
  refine z_if_lt 9 C dX10_patched_1 rfl (fun hc => ?_) (fun hc => ?_)
  · replace h := z_it hc h
    refine z_sipush C dX10_patched_9 zcs_m1002 ?_
    exact z_iret C (z_ret1i h) (z_ret2 h) dX10_patched_12
  · replace h := z_if hc h
    refine z_iload_n C dX10_patched_4 rfl 1 rfl ?_
    refine z_iconst C dX10_patched_5 zci_1 ?_
    refine z_icmp_le 13 C dX10_patched_6 rfl (fun hc => ?_) (fun hc => ?_)
    · replace h := z_it hc h
      refine z_aload_n C dX10_patched_13 rfl 0 rfl ?_
      refine z_getr C zf_X10_56 (zo_X_0_6 kn) dX10_patched_14 ?_
      obtain ⟨r17, g17, hq17, h⟩ := z_b_some h
      refine z_callVl [] C zc_X10_195 (zk_X_23 kn) rfl (by decide) (Nat.le_of_ble_eq_true rfl) dX10_patched_17 rfl (wX3_leastInAll kn ad g r17 g17 hq17) ?_
      refine z_lstore_n C dX10_patched_20 rfl (by decide) [(2, .long r17), (0, .ref (ad 0)), (1, .int v1)] rfl ?_
      refine z_iload_n C dX10_patched_21 rfl 2 rfl ?_
      refine z_if_ne 33 C dX10_patched_22 rfl (fun hc => ?_) (fun hc => ?_)
      · replace h := z_it hc h
        refine z_lload_n C dX10_patched_25 rfl 0 rfl ?_
        refine z_bipush C dX10_patched_26 zcb_20 ?_
        refine z_lshr C dX10_patched_28 ?_
        refine z_l2i C dX10_patched_29 ?_
        refine z_goto 39 C dX10_patched_30 rfl ?_
        exact z_iret C (z_ret1i h) (z_ret2 h) dX10_patched_39
      · replace h := z_if hc h
        refine z_lload_n C dX10_patched_33 rfl 0 rfl ?_
        refine z_ldc2 C dX10_patched_34 zl_X10_197 ?_
        refine z_land C dX10_patched_37 ?_
        refine z_l2i C dX10_patched_38 ?_
        exact z_iret C (z_ret1i h) (z_ret2 h) dX10_patched_39
    · replace h := z_if hc h
      refine z_sipush C dX10_patched_9 zcs_m1002 ?_
      exact z_iret C (z_ret1i h) (z_ret2 h) dX10_patched_12
set_option maxRecDepth 100000 in
set_option maxHeartbeats 4000000 in
theorem wX6_put_h (kn : Bool) (ad : Nat → Nat) (v0 : Nat) (v1 : Int32) (g : z_S) (gE : z_S) (hv0 : Nat.blt v0 4 = true) (h : fX6_put_h v0 v1 g = some ((), gE)) : z_M yX6_put cX6_put 2 none 0 0 (layX kn) (nX kn) ad [.ref (ad (34 + 2 * v0)), .int v1] g none gE := by
  refine z_enter (by decide) (Nat.le_of_ble_eq_true rfl) (fun F C => ?_)
  replace C : z_X F (layX kn) (nX kn) ad cX6_put RX6 2 none 0 0 none gE := C
  show z_W F (layX kn) (nX kn) ad 0 [(0, .ref (ad (34 + 2 * v0))), (1, .int v1)] [] g
  unfold fX6_put_h at h
  refine z_aload_n C dX6_put_0 rfl 0 rfl ?_
  obtain ⟨hb1, h⟩ := z_g_some h
  refine z_geti C zf_X6_19 (zo_Xh_1 kn hb1) dX6_put_1 ?_
  refine z_aload_n C dX6_put_4 rfl 0 rfl ?_
  obtain ⟨hb5, h⟩ := z_g_some h
  refine z_getr C zf_X6_13 (zo_Xh_0 kn hb5) dX6_put_5 ?_
  obtain ⟨hb8, h⟩ := z_g_some h
  refine z_alen C (za_Xh kn hb8) (by decide) (v := 24) (by decide) dX6_put_8 ?_
  refine z_icmp_ge 32 C dX6_put_9 rfl (fun hc => ?_) (fun hc => ?_)
  · replace h := z_it hc h
    exact z_vret C rfl (z_ret2 h) dX6_put_32
  · replace h := z_if hc h
    refine z_aload_n C dX6_put_12 rfl 0 rfl ?_
    obtain ⟨hb13, h⟩ := z_g_some h
    refine z_getr C zf_X6_13 (zo_Xh_0 kn hb13) dX6_put_13 ?_
    refine z_aload_n C dX6_put_16 rfl 0 rfl ?_
    obtain ⟨hb17, h⟩ := z_g_some h
    refine z_geti C zf_X6_19 (zo_Xh_1 kn hb17) dX6_put_17 ?_
    refine z_iload_n C dX6_put_20 rfl 1 rfl ?_
    obtain ⟨hb21, h⟩ := z_g_some h
    obtain ⟨hi21, h⟩ := z_g_some h
    obtain ⟨g21, eg21, h⟩ := z_s_some h
    refine z_iast C (za_Xh kn hb21) (z_in_vp hi21) dX6_put_21 ?_
    refine z_gw eg21 ?_
    refine z_aload_n C dX6_put_22 rfl 0 rfl ?_
    refine z_dup C dX6_put_23 rfl ?_
    obtain ⟨hb24, h⟩ := z_g_some h
    refine z_geti C zf_X6_19 (zo_Xh_1 kn hb24) dX6_put_24 ?_
    refine z_iconst C dX6_put_27 zci_1 ?_
    refine z_iadd C dX6_put_28 ?_
    obtain ⟨hb29, h⟩ := z_g_some h
    obtain ⟨g29, eg29, h⟩ := z_s_some h
    refine z_puti C zp_X6_19 (zo_Xh_1 kn hb29) rfl rfl dX6_put_29 ?_
    refine z_gw eg29 ?_
    exact z_vret C rfl (z_ret2 h) dX6_put_32
set_option maxRecDepth 100000 in
set_option maxHeartbeats 4000000 in
theorem wX2_take_11_L26 {kn : Bool} {F : z_F} {ad : Nat → Nat} {gE : z_S} (C : z_X F (layX kn) (nX kn) ad cX2_take RX2 4 none 1 21 none gE) (k50 : z_S → Option (Unit × z_S)) (hk50 : ∀ (g : z_S), k50 g = some ((), gE) → z_W F (layX kn) (nX kn) ad 50 [(0, .ref (ad 26))] [] g) : ∀ (n : Nat) (v2 : Nat) (v3 : Int32) (g : z_S), z_loop (fX2_take_11_B26 k50) n (v2, v3) g = some ((), gE) → z_W F (layX kn) (nX kn) ad 26 [(0, .ref (ad 26)), (1, .ref (ad 11)), (2, .ref (ad (34 + 2 * v2))), (3, .int v3)] [] g := by
  intro n
  induction n with
  | zero =>
    intro v2 v3 g h
    exact (z_loop_0 h).elim
  | succ n ih =>
    intro v2 v3 g h
    replace h := z_loop_S h
    simp only [fX2_take_11_B26] at h
    refine z_iload_n C dX2_take_26 rfl 3 rfl ?_
    refine z_aload_n C dX2_take_27 rfl 1 rfl ?_
    refine z_geti C zf_X2_54 (zo_X_11_1 kn) dX2_take_28 ?_
    refine z_icmp_ge 50 C dX2_take_31 rfl (fun hc => ?_) (fun hc => ?_)
    · replace h := z_it hc h
      refine z_loc [0] rfl ?_
      exact hk50 g h
    · replace h := z_if hc h
      refine z_aload_n C dX2_take_34 rfl 2 rfl ?_
      refine z_aload_n C dX2_take_35 rfl 1 rfl ?_
      refine z_getr C zf_X2_55 (zo_X_11_0 kn) dX2_take_36 ?_
      refine z_iload_n C dX2_take_39 rfl 3 rfl ?_
      obtain ⟨hi40, h⟩ := z_g_some h
      refine z_iald C (za_X_12 kn) (z_in_vp hi40) dX2_take_40 ?_
      obtain ⟨hb41, h⟩ := z_g_some h
      obtain ⟨r41, g41, hq41, h⟩ := z_b_some h
      refine z_callVv [] C zc_X2_58 (zk_Xh kn hb41) rfl (by decide) (Nat.le_of_ble_eq_true rfl) dX2_take_41 rfl (wX6_put_h kn ad v2 (g.1 12 (v3).toNatClampNeg) g g41 hb41 hq41) ?_
      refine z_iinc C dX2_take_44 (by decide) 3 rfl (z_incl zci_1) [(3, .int (v3 + 1)), (0, .ref (ad 26)), (1, .ref (ad 11)), (2, .ref (ad (34 + 2 * v2)))] rfl ?_
      refine z_goto 26 C dX2_take_47 rfl ?_
      refine z_loc [1, 2, 3, 0] rfl ?_
      exact ih v2 (v3 + 1) g41 h
set_option maxRecDepth 100000 in
set_option maxHeartbeats 4000000 in
theorem wX2_take_11 (kn : Bool) (ad : Nat → Nat) (g : z_S) (gE : z_S) (h : fX2_take_11 g = some ((), gE)) : z_M yX2_take cX2_take 4 none 1 21 (layX kn) (nX kn) ad [.ref (ad 26), .ref (ad 11)] g none gE := by
  refine z_enter (by decide) (Nat.le_of_ble_eq_true rfl) (fun F C => ?_)
  replace C : z_X F (layX kn) (nX kn) ad cX2_take RX2 4 none 1 21 none gE := C
  show z_W F (layX kn) (nX kn) ad 0 [(0, .ref (ad 26)), (1, .ref (ad 11))] [] g
  unfold fX2_take_11 at h
  refine z_aload_n C dX2_take_0 rfl 0 rfl ?_
  refine z_geti C zf_X2_51 (zo_X_26_0 kn) dX2_take_1 ?_
  refine z_iconst C dX2_take_4 zci_4 ?_
  refine z_icmp_lt 9 C dX2_take_5 rfl (fun hc => ?_) (fun hc => ?_)
  · replace h := z_it hc h
    refine z_aload_n C dX2_take_9 rfl 0 rfl ?_
    refine z_getr C zf_X2_21 (zo_X_26_8 kn) dX2_take_10 ?_
    refine z_aload_n C dX2_take_13 rfl 0 rfl ?_
    refine z_geti C zf_X2_51 (zo_X_26_0 kn) dX2_take_14 ?_
    obtain ⟨hi17, h⟩ := z_g_some h
    refine z_aald C (zh_N kn) (zh_lay kn) (z_held hi17) (z_in_vp hi17) dX2_take_17 ?_
    refine z_astore_n C dX2_take_18 rfl (by decide) [(2, .ref (ad (34 + 2 * (g.1 26 0).toNatClampNeg))), (0, .ref (ad 26)), (1, .ref (ad 11))] rfl ?_
    refine z_aload_n C dX2_take_19 rfl 0 rfl ?_
    refine z_iconst C dX2_take_20 zci_0 ?_
    obtain ⟨hb21, h⟩ := z_g_some h
    obtain ⟨g21, eg21, h⟩ := z_s_some h
    refine z_puti C zp_X2_54 (zo_Xh_1 kn hb21) rfl rfl dX2_take_21 ?_
    refine z_gw eg21 ?_
    refine z_iconst C dX2_take_24 zci_0 ?_
    refine z_istore_n C dX2_take_25 rfl (by decide) [(3, .int 0), (2, .ref (ad (34 + 2 * (g.1 26 0).toNatClampNeg))), (0, .ref (ad 26)), (1, .ref (ad 11))] rfl ?_
    refine z_loc [2, 3, 1, 0] rfl ?_
    refine wX2_take_11_L26 C _ ?_ zN ((g.1 26 0).toNatClampNeg) 0 g21 h
    · intro g h
      refine z_aload_n C dX2_take_50 rfl 0 rfl ?_
      refine z_dup C dX2_take_51 rfl ?_
      refine z_geti C zf_X2_51 (zo_X_26_0 kn) dX2_take_52 ?_
      refine z_iconst C dX2_take_55 zci_1 ?_
      refine z_iadd C dX2_take_56 ?_
      obtain ⟨g57, eg57, h⟩ := z_s_some h
      refine z_puti C zp_X2_51 (zo_X_26_0 kn) rfl rfl dX2_take_57 ?_
      refine z_gw eg57 ?_
      exact z_vret C rfl (z_ret2 h) dX2_take_60
  · replace h := z_if hc h
    exact z_vret C rfl (z_ret2 h) dX2_take_8
set_option maxRecDepth 100000 in
set_option maxHeartbeats 4000000 in
theorem wX10_line (kn : Bool) (ad : Nat → Nat) (g : z_S) (r : Int32) (gE : z_S) (h : fX10_line g = some (r, gE)) : z_M yX10_line cX10_line 1 (some .int) 2 44 (layX kn) (nX kn) ad [.ref (ad 0)] g (some (.int r)) gE := by
  refine z_enter (by decide) (Nat.le_of_ble_eq_true rfl) (fun F C => ?_)
  replace C : z_X F (layX kn) (nX kn) ad cX10_line RX10 1 (some .int) 2 44 (some (.int r)) gE := C
  show z_W F (layX kn) (nX kn) ad 0 [(0, .ref (ad 0))] [] g
  unfold fX10_line at h
  refine z_aload_n C dX10_line_0 rfl 0 rfl ?_
  refine z_getr C zf_X10_32 (zo_X_0_3 kn) dX10_line_1 ?_
  refine z_geti C zf_X10_93 (zo_X_11_1 kn) dX10_line_4 ?_
  refine z_iconst C dX10_line_7 zci_1 ?_
  refine z_icmp_lt 23 C dX10_line_8 rfl (fun hc => ?_) (fun hc => ?_)
  · replace h := z_it hc h
    refine z_sipush C dX10_line_23 zcs_m1002 ?_
    exact z_iret C (z_ret1i h) (z_ret2 h) dX10_line_26
  · replace h := z_if hc h
    refine z_aload_n C dX10_line_11 rfl 0 rfl ?_
    refine z_getr C zf_X10_32 (zo_X_0_3 kn) dX10_line_12 ?_
    refine z_geti C zf_X10_93 (zo_X_11_1 kn) dX10_line_15 ?_
    refine z_bipush C dX10_line_18 zcb_24 ?_
    refine z_icmp_le 27 C dX10_line_20 rfl (fun hc => ?_) (fun hc => ?_)
    · replace h := z_it hc h
      refine z_aload_n C dX10_line_27 rfl 0 rfl ?_
      refine z_getr C zf_X10_65 (zo_X_0_7 kn) dX10_line_28 ?_
      refine z_geti C zf_X10_92 (zo_X_26_0 kn) dX10_line_31 ?_
      refine z_iconst C dX10_line_34 zci_4 ?_
      refine z_icmp_lt 42 C dX10_line_35 rfl (fun hc => ?_) (fun hc => ?_)
      · replace h := z_it hc h
        refine z_aload_n C dX10_line_42 rfl 0 rfl ?_
        refine z_getr C zf_X10_65 (zo_X_0_7 kn) dX10_line_43 ?_
        refine z_aload_n C dX10_line_46 rfl 0 rfl ?_
        refine z_getr C zf_X10_32 (zo_X_0_3 kn) dX10_line_47 ?_
        obtain ⟨r50, g50, hq50, h⟩ := z_b_some h
        refine z_callVv [] C zc_X10_199 (zk_X_26 kn) rfl (by decide) (Nat.le_of_ble_eq_true rfl) dX10_line_50 rfl (wX2_take_11 kn ad g g50 hq50) ?_
        refine z_aload_n C dX10_line_53 rfl 0 rfl ?_
        refine z_getr C zf_X10_32 (zo_X_0_3 kn) dX10_line_54 ?_
        refine z_iconst C dX10_line_57 zci_0 ?_
        obtain ⟨g58, eg58, h⟩ := z_s_some h
        refine z_puti C zp_X10_93 (zo_X_11_1 kn) rfl rfl dX10_line_58 ?_
        refine z_gw eg58 ?_
        refine z_aload_n C dX10_line_61 rfl 0 rfl ?_
        obtain ⟨r62, g62, hq62, h⟩ := z_b_some h
        refine z_callVv [] C zc_X10_94 (zk_X_0 kn) rfl (by decide) (Nat.le_of_ble_eq_true rfl) dX10_line_62 rfl (wX10_forgetFound kn ad g58 g62 hq62) ?_
        refine z_aload_n C dX10_line_65 rfl 0 rfl ?_
        refine z_getr C zf_X10_65 (zo_X_0_7 kn) dX10_line_66 ?_
        refine z_geti C zf_X10_92 (zo_X_26_0 kn) dX10_line_69 ?_
        exact z_iret C (z_ret1i h) (z_ret2 h) dX10_line_72
      · replace h := z_if hc h
        refine z_sipush C dX10_line_38 zcs_m1004 ?_
        exact z_iret C (z_ret1i h) (z_ret2 h) dX10_line_41
    · replace h := z_if hc h
      refine z_sipush C dX10_line_23 zcs_m1002 ?_
      exact z_iret C (z_ret1i h) (z_ret2 h) dX10_line_26
set_option maxRecDepth 100000 in
set_option maxHeartbeats 4000000 in
theorem wX10_drop (kn : Bool) (ad : Nat → Nat) (g : z_S) (r : Int32) (gE : z_S) (h : fX10_drop g = some (r, gE)) : z_M yX10_drop cX10_drop 2 (some .int) 1 20 (layX kn) (nX kn) ad [.ref (ad 0)] g (some (.int r)) gE := by
  refine z_enter (by decide) (Nat.le_of_ble_eq_true rfl) (fun F C => ?_)
  replace C : z_X F (layX kn) (nX kn) ad cX10_drop RX10 2 (some .int) 1 20 (some (.int r)) gE := C
  show z_W F (layX kn) (nX kn) ad 0 [(0, .ref (ad 0))] [] g
  unfold fX10_drop at h
  refine z_aload_n C dX10_drop_0 rfl 0 rfl ?_
  refine z_getr C zf_X10_65 (zo_X_0_7 kn) dX10_drop_1 ?_
  refine z_geti C zf_X10_92 (zo_X_26_0 kn) dX10_drop_4 ?_
  refine z_istore_n C dX10_drop_7 rfl (by decide) [(1, .int (g.1 26 0)), (0, .ref (ad 0))] rfl ?_
  refine z_aload_n C dX10_drop_8 rfl 1 rfl ?_
  refine z_getr C zf_X10_65 (zo_X_0_7 kn) dX10_drop_9 ?_
  refine z_iconst C dX10_drop_12 zci_0 ?_
  obtain ⟨g13, eg13, h⟩ := z_s_some h
  refine z_puti C zp_X10_92 (zo_X_26_0 kn) rfl rfl dX10_drop_13 ?_
  refine z_gw eg13 ?_
  refine z_aload_n C dX10_drop_16 rfl 1 rfl ?_
  obtain ⟨r17, g17, hq17, h⟩ := z_b_some h
  refine z_callVv [] C zc_X10_94 (zk_X_0 kn) rfl (by decide) (Nat.le_of_ble_eq_true rfl) dX10_drop_17 rfl (wX10_forgetFound kn ad g13 g17 hq17) ?_
  refine z_iload_n C dX10_drop_20 rfl 0 rfl ?_
  exact z_iret C (z_ret1i h) (z_ret2 h) dX10_drop_21
set_option maxRecDepth 100000 in
set_option maxHeartbeats 4000000 in
theorem wX9_standsAt_4_h_L24 {kn : Bool} {F : z_F} {ad : Nat → Nat} {r : Int32} {gE : z_S} (C : z_X F (layX kn) (nX kn) ad cX9_standsAt RX9 5 (some .boolean) 1 22 (some (.int r)) gE) : ∀ (n : Nat) (v1 : Int32) (v2 : Nat) (v3 : Int32) (v4 : Int32) (g : z_S), z_loop fX9_standsAt_4_h_B24 n (v1, v2, v3, v4) g = some (r, gE) → z_W F (layX kn) (nX kn) ad 24 [(0, .ref (ad 4)), (1, .int v1), (2, .ref (ad (34 + 2 * v2))), (3, .int v3), (4, .int v4)] [] g := by
  intro n
  induction n with
  | zero =>
    intro v1 v2 v3 v4 g h
    exact (z_loop_0 h).elim
  | succ n ih =>
    intro v1 v2 v3 v4 g h
    replace h := z_loop_S h
    simp only [fX9_standsAt_4_h_B24] at h
    refine z_iload C dX9_standsAt_24 4 rfl ?_
    refine z_aload_n C dX9_standsAt_26 rfl 0 rfl ?_
    refine z_getr C zf_X9_15 (zo_X_4_2 kn) dX9_standsAt_27 ?_
    refine z_iload_n C dX9_standsAt_30 rfl 1 rfl ?_
    obtain ⟨hi31, h⟩ := z_g_some h
    refine z_iald C (za_X_6 kn) (z_in_vp hi31) dX9_standsAt_31 ?_
    refine z_icmp_ge 62 C dX9_standsAt_32 rfl (fun hc => ?_) (fun hc => ?_)
    · replace h := z_it hc h
      refine z_iconst C dX9_standsAt_62 zci_1 ?_
      exact z_zret C (by decide) (z_ret1i h) (z_ret2 h) dX9_standsAt_63
    · replace h := z_if hc h
      refine z_aload_n C dX9_standsAt_35 rfl 2 rfl ?_
      obtain ⟨hb36, h⟩ := z_g_some h
      refine z_getr C zf_X9_43 (zo_Xh_0 kn hb36) dX9_standsAt_36 ?_
      refine z_iload_n C dX9_standsAt_39 rfl 3 rfl ?_
      refine z_iload C dX9_standsAt_40 4 rfl ?_
      refine z_iadd C dX9_standsAt_42 ?_
      obtain ⟨hb43, h⟩ := z_g_some h
      obtain ⟨hi43, h⟩ := z_g_some h
      refine z_iald C (za_Xh kn hb43) (z_in_vp hi43) dX9_standsAt_43 ?_
      refine z_aload_n C dX9_standsAt_44 rfl 0 rfl ?_
      refine z_iload_n C dX9_standsAt_45 rfl 1 rfl ?_
      refine z_iload C dX9_standsAt_46 4 rfl ?_
      obtain ⟨r48, g48, hq48, h⟩ := z_b_some h
      refine z_callVi [.int (g.1 (35 + 2 * v2) (v3 + v4).toNatClampNeg)] C zc_X9_32 (zk_X_4 kn) rfl (by decide) (Nat.le_of_ble_eq_true rfl) dX9_standsAt_48 rfl (wX9_sign_4 kn ad v1 v4 g r48 g48 hq48) ?_
      refine z_icmp_eq 56 C dX9_standsAt_51 rfl (fun hc => ?_) (fun hc => ?_)
      · replace h := z_it hc h
        refine z_iinc C dX9_standsAt_56 (by decide) 4 rfl (z_incl zci_1) [(4, .int (v4 + 1)), (0, .ref (ad 4)), (1, .int v1), (2, .ref (ad (34 + 2 * v2))), (3, .int v3)] rfl ?_
        refine z_goto 24 C dX9_standsAt_59 rfl ?_
        refine z_loc [1, 2, 3, 4, 0] rfl ?_
        exact ih v1 v2 v3 (v4 + 1) g48 h
      · replace h := z_if hc h
        refine z_iconst C dX9_standsAt_54 zci_0 ?_
        exact z_zret C (by decide) (z_ret1i h) (z_ret2 h) dX9_standsAt_55
set_option maxRecDepth 100000 in
set_option maxHeartbeats 4000000 in
theorem wX9_standsAt_4_h (kn : Bool) (ad : Nat → Nat) (v1 : Int32) (v2 : Nat) (v3 : Int32) (g : z_S) (r : Int32) (gE : z_S) (hv2 : Nat.blt v2 4 = true) (h : fX9_standsAt_4_h v1 v2 v3 g = some (r, gE)) : z_M yX9_standsAt cX9_standsAt 5 (some .boolean) 1 22 (layX kn) (nX kn) ad [.ref (ad 4), .int v1, .ref (ad (34 + 2 * v2)), .int v3] g (some (.int r)) gE := by
  refine z_enter (by decide) (Nat.le_of_ble_eq_true rfl) (fun F C => ?_)
  replace C : z_X F (layX kn) (nX kn) ad cX9_standsAt RX9 5 (some .boolean) 1 22 (some (.int r)) gE := C
  show z_W F (layX kn) (nX kn) ad 0 [(0, .ref (ad 4)), (1, .int v1), (2, .ref (ad (34 + 2 * v2))), (3, .int v3)] [] g
  unfold fX9_standsAt_4_h at h
  refine z_iload_n C dX9_standsAt_0 rfl 3 rfl ?_
  refine z_if_lt 19 C dX9_standsAt_1 rfl (fun hc => ?_) (fun hc => ?_)
  · replace h := z_it hc h
    refine z_iconst C dX9_standsAt_19 zci_0 ?_
    exact z_zret C (by decide) (z_ret1i h) (z_ret2 h) dX9_standsAt_20
  · replace h := z_if hc h
    refine z_iload_n C dX9_standsAt_4 rfl 3 rfl ?_
    refine z_aload_n C dX9_standsAt_5 rfl 0 rfl ?_
    refine z_getr C zf_X9_15 (zo_X_4_2 kn) dX9_standsAt_6 ?_
    refine z_iload_n C dX9_standsAt_9 rfl 1 rfl ?_
    obtain ⟨hi10, h⟩ := z_g_some h
    refine z_iald C (za_X_6 kn) (z_in_vp hi10) dX9_standsAt_10 ?_
    refine z_iadd C dX9_standsAt_11 ?_
    refine z_aload_n C dX9_standsAt_12 rfl 2 rfl ?_
    obtain ⟨hb13, h⟩ := z_g_some h
    refine z_geti C zf_X9_40 (zo_Xh_1 kn hb13) dX9_standsAt_13 ?_
    refine z_icmp_le 21 C dX9_standsAt_16 rfl (fun hc => ?_) (fun hc => ?_)
    · replace h := z_it hc h
      refine z_iconst C dX9_standsAt_21 zci_0 ?_
      refine z_istore C dX9_standsAt_22 (by decide) [(4, .int 0), (0, .ref (ad 4)), (1, .int v1), (2, .ref (ad (34 + 2 * v2))), (3, .int v3)] rfl ?_
      refine z_loc [1, 2, 3, 4, 0] rfl ?_
      refine wX9_standsAt_4_h_L24 C  zN v1 v2 v3 0 g h
    · replace h := z_if hc h
      refine z_iconst C dX9_standsAt_19 zci_0 ?_
      exact z_zret C (by decide) (z_ret1i h) (z_ret2 h) dX9_standsAt_20
set_option maxRecDepth 100000 in
set_option maxHeartbeats 4000000 in
theorem wX9_standingAt_4_h_L5 {kn : Bool} {F : z_F} {ad : Nat → Nat} {r : Int32} {gE : z_S} (C : z_X F (layX kn) (nX kn) ad cX9_standingAt RX9 5 (some .int) 2 46 (some (.int r)) gE) : ∀ (n : Nat) (v1 : Nat) (v2 : Int32) (v3 : Int32) (v4 : Int32) (g : z_S), z_loop fX9_standingAt_4_h_B5 n (v1, v2, v3, v4) g = some (r, gE) → z_W F (layX kn) (nX kn) ad 5 [(0, .ref (ad 4)), (1, .ref (ad (34 + 2 * v1))), (2, .int v2), (3, .int v3), (4, .int v4)] [] g := by
  intro n
  induction n with
  | zero =>
    intro v1 v2 v3 v4 g h
    exact (z_loop_0 h).elim
  | succ n ih =>
    intro v1 v2 v3 v4 g h
    replace h := z_loop_S h
    simp only [fX9_standingAt_4_h_B5] at h
    refine z_iload C dX9_standingAt_5 4 rfl ?_
    refine z_aload_n C dX9_standingAt_7 rfl 0 rfl ?_
    refine z_geti C zf_X9_24 (zo_X_4_0 kn) dX9_standingAt_8 ?_
    refine z_icmp_ge 38 C dX9_standingAt_11 rfl (fun hc => ?_) (fun hc => ?_)
    · replace h := z_it hc h
      refine z_iload_n C dX9_standingAt_38 rfl 3 rfl ?_
      exact z_iret C (z_ret1i h) (z_ret2 h) dX9_standingAt_39
    · replace h := z_if hc h
      refine z_aload_n C dX9_standingAt_14 rfl 0 rfl ?_
      refine z_iload C dX9_standingAt_15 4 rfl ?_
      refine z_aload_n C dX9_standingAt_17 rfl 1 rfl ?_
      refine z_iload_n C dX9_standingAt_18 rfl 2 rfl ?_
      obtain ⟨hb19, h⟩ := z_g_some h
      obtain ⟨r19, g19, hq19, h⟩ := z_b_some h
      refine z_callVi [] C zc_X9_36 (zk_X_4 kn) rfl (by decide) (Nat.le_of_ble_eq_true rfl) dX9_standingAt_19 rfl (wX9_standsAt_4_h kn ad v4 v1 v2 g r19 g19 hb19 hq19) ?_
      refine z_if_eq 32 C dX9_standingAt_22 rfl (fun hc => ?_) (fun hc => ?_)
      · replace h := z_it hc h
        refine z_iinc C dX9_standingAt_32 (by decide) 4 rfl (z_incl zci_1) [(4, .int (v4 + 1)), (0, .ref (ad 4)), (1, .ref (ad (34 + 2 * v1))), (2, .int v2), (3, .int v3)] rfl ?_
        refine z_goto 5 C dX9_standingAt_35 rfl ?_
        refine z_loc [1, 2, 3, 4, 0] rfl ?_
        exact ih v1 v2 v3 (v4 + 1) g19 h
      · replace h := z_if hc h
        refine z_iload_n C dX9_standingAt_25 rfl 3 rfl ?_
        refine z_iconst C dX9_standingAt_26 zci_1 ?_
        refine z_iload C dX9_standingAt_27 4 rfl ?_
        refine z_ishl C dX9_standingAt_29 ?_
        refine z_ior C dX9_standingAt_30 ?_
        refine z_istore_n C dX9_standingAt_31 rfl (by decide) [(3, .int (v3 ||| (1 <<< (v4 &&& 31)))), (0, .ref (ad 4)), (1, .ref (ad (34 + 2 * v1))), (2, .int v2), (4, .int v4)] rfl ?_
        refine z_iinc C dX9_standingAt_32 (by decide) 4 rfl (z_incl zci_1) [(4, .int (v4 + 1)), (3, .int (v3 ||| (1 <<< (v4 &&& 31)))), (0, .ref (ad 4)), (1, .ref (ad (34 + 2 * v1))), (2, .int v2)] rfl ?_
        refine z_goto 5 C dX9_standingAt_35 rfl ?_
        refine z_loc [2, 3, 4, 1, 0] rfl ?_
        exact ih v1 v2 (v3 ||| (1 <<< (v4 &&& 31))) (v4 + 1) g19 h
set_option maxRecDepth 100000 in
set_option maxHeartbeats 4000000 in
theorem wX9_standingAt_4_h (kn : Bool) (ad : Nat → Nat) (v1 : Nat) (v2 : Int32) (g : z_S) (r : Int32) (gE : z_S) (hv1 : Nat.blt v1 4 = true) (h : fX9_standingAt_4_h v1 v2 g = some (r, gE)) : z_M yX9_standingAt cX9_standingAt 5 (some .int) 2 46 (layX kn) (nX kn) ad [.ref (ad 4), .ref (ad (34 + 2 * v1)), .int v2] g (some (.int r)) gE := by
  refine z_enter (by decide) (Nat.le_of_ble_eq_true rfl) (fun F C => ?_)
  replace C : z_X F (layX kn) (nX kn) ad cX9_standingAt RX9 5 (some .int) 2 46 (some (.int r)) gE := C
  show z_W F (layX kn) (nX kn) ad 0 [(0, .ref (ad 4)), (1, .ref (ad (34 + 2 * v1))), (2, .int v2)] [] g
  unfold fX9_standingAt_4_h at h
  refine z_iconst C dX9_standingAt_0 zci_0 ?_
  refine z_istore_n C dX9_standingAt_1 rfl (by decide) [(3, .int 0), (0, .ref (ad 4)), (1, .ref (ad (34 + 2 * v1))), (2, .int v2)] rfl ?_
  refine z_iconst C dX9_standingAt_2 zci_0 ?_
  refine z_istore C dX9_standingAt_3 (by decide) [(4, .int 0), (3, .int 0), (0, .ref (ad 4)), (1, .ref (ad (34 + 2 * v1))), (2, .int v2)] rfl ?_
  refine z_loc [2, 3, 4, 1, 0] rfl ?_
  refine wX9_standingAt_4_h_L5 C  zN v1 v2 0 0 g h
set_option maxRecDepth 100000 in
set_option maxHeartbeats 4000000 in
theorem wX2_match_L12 {kn : Bool} {F : z_F} {ad : Nat → Nat} {gE : z_S} (C : z_X F (layX kn) (nX kn) ad cX2_match RX2 3 none 3 70 none gE) (k56 : Int32 → z_S → Option (Unit × z_S)) (hk56 : ∀ (v1 : Int32) (g : z_S), k56 v1 g = some ((), gE) → z_W F (layX kn) (nX kn) ad 56 [(0, .ref (ad 26)), (1, .int v1)] [] g) : ∀ (n : Nat) (v1 : Int32) (v2 : Int32) (g : z_S), z_loop (fX2_match_B12 k56) n (v1, v2) g = some ((), gE) → z_W F (layX kn) (nX kn) ad 12 [(0, .ref (ad 26)), (1, .int v1), (2, .int v2)] [] g := by
  intro n
  induction n with
  | zero =>
    intro v1 v2 g h
    exact (z_loop_0 h).elim
  | succ n ih =>
    intro v1 v2 g h
    replace h := z_loop_S h
    simp only [fX2_match_B12] at h
    refine z_iload_n C dX2_match_12 rfl 2 rfl ?_
    refine z_aload_n C dX2_match_13 rfl 0 rfl ?_
    refine z_getr C zf_X2_21 (zo_X_26_8 kn) dX2_match_14 ?_
    refine z_iload_n C dX2_match_17 rfl 1 rfl ?_
    obtain ⟨hi18, h⟩ := z_g_some h
    refine z_aald C (zh_N kn) (zh_lay kn) (z_held hi18) (z_in_vp hi18) dX2_match_18 ?_
    obtain ⟨hb19, h⟩ := z_g_some h
    refine z_geti C zf_X2_54 (zo_Xh_1 kn hb19) dX2_match_19 ?_
    refine z_icmp_ge 56 C dX2_match_22 rfl (fun hc => ?_) (fun hc => ?_)
    · replace h := z_it hc h
      refine z_loc [0, 1] rfl ?_
      exact hk56 v1 g h
    · replace h := z_if hc h
      refine z_aload_n C dX2_match_25 rfl 0 rfl ?_
      refine z_getr C zf_X2_25 (zo_X_26_9 kn) dX2_match_26 ?_
      refine z_iload_n C dX2_match_29 rfl 1 rfl ?_
      refine z_bipush C dX2_match_30 zcb_24 ?_
      refine z_imul C dX2_match_32 ?_
      refine z_iload_n C dX2_match_33 rfl 2 rfl ?_
      refine z_iadd C dX2_match_34 ?_
      refine z_aload_n C dX2_match_35 rfl 0 rfl ?_
      refine z_getr C zf_X2_40 (zo_X_26_6 kn) dX2_match_36 ?_
      refine z_aload_n C dX2_match_39 rfl 0 rfl ?_
      refine z_getr C zf_X2_21 (zo_X_26_8 kn) dX2_match_40 ?_
      refine z_iload_n C dX2_match_43 rfl 1 rfl ?_
      obtain ⟨hi44, h⟩ := z_g_some h
      refine z_aald C (zh_N kn) (zh_lay kn) (z_held hi44) (z_in_vp hi44) dX2_match_44 ?_
      refine z_iload_n C dX2_match_45 rfl 2 rfl ?_
      obtain ⟨hb46, h⟩ := z_g_some h
      obtain ⟨r46, g46, hq46, h⟩ := z_b_some h
      refine z_callVi [.int ((v1 * 24) + v2), .ref (ad 29)] C zc_X2_61 (zk_X_4 kn) rfl (by decide) (Nat.le_of_ble_eq_true rfl) dX2_match_46 rfl (wX9_standingAt_4_h kn ad ((v1).toNatClampNeg) v2 g r46 g46 hb46 hq46) ?_
      obtain ⟨hi49, h⟩ := z_g_some h
      obtain ⟨g49, eg49, h⟩ := z_s_some h
      refine z_iast C (za_X_29 kn) (z_in_vp hi49) dX2_match_49 ?_
      refine z_gw eg49 ?_
      refine z_iinc C dX2_match_50 (by decide) 2 rfl (z_incl zci_1) [(2, .int (v2 + 1)), (0, .ref (ad 26)), (1, .int v1)] rfl ?_
      refine z_goto 12 C dX2_match_53 rfl ?_
      refine z_loc [1, 2, 0] rfl ?_
      exact ih v1 (v2 + 1) g49 h
set_option maxRecDepth 100000 in
set_option maxHeartbeats 4000000 in
theorem wX2_match_L2 {kn : Bool} {F : z_F} {ad : Nat → Nat} {gE : z_S} (C : z_X F (layX kn) (nX kn) ad cX2_match RX2 3 none 3 70 none gE) : ∀ (n : Nat) (v1 : Int32) (g : z_S), z_loop fX2_match_B2 n v1 g = some ((), gE) → z_W F (layX kn) (nX kn) ad 2 [(0, .ref (ad 26)), (1, .int v1)] [] g := by
  intro n
  induction n with
  | zero =>
    intro v1 g h
    exact (z_loop_0 h).elim
  | succ n ih =>
    intro v1 g h
    replace h := z_loop_S h
    simp only [fX2_match_B2] at h
    refine z_iload_n C dX2_match_2 rfl 1 rfl ?_
    refine z_aload_n C dX2_match_3 rfl 0 rfl ?_
    refine z_geti C zf_X2_51 (zo_X_26_0 kn) dX2_match_4 ?_
    refine z_icmp_ge 62 C dX2_match_7 rfl (fun hc => ?_) (fun hc => ?_)
    · replace h := z_it hc h
      exact z_vret C rfl (z_ret2 h) dX2_match_62
    · replace h := z_if hc h
      refine z_iconst C dX2_match_10 zci_0 ?_
      refine z_istore_n C dX2_match_11 rfl (by decide) [(2, .int 0), (0, .ref (ad 26)), (1, .int v1)] rfl ?_
      refine z_loc [1, 2, 0] rfl ?_
      refine wX2_match_L12 C _ ?_ zN v1 0 g h
      · intro v1 g h
        refine z_iinc C dX2_match_56 (by decide) 1 rfl (z_incl zci_1) [(1, .int (v1 + 1)), (0, .ref (ad 26))] rfl ?_
        refine z_goto 2 C dX2_match_59 rfl ?_
        refine z_loc [1, 0] rfl ?_
        exact ih (v1 + 1) g h
set_option maxRecDepth 100000 in
set_option maxHeartbeats 4000000 in
theorem wX2_match (kn : Bool) (ad : Nat → Nat) (g : z_S) (gE : z_S) (h : fX2_match g = some ((), gE)) : z_M yX2_match cX2_match 3 none 3 70 (layX kn) (nX kn) ad [.ref (ad 26)] g none gE := by
  refine z_enter (by decide) (Nat.le_of_ble_eq_true rfl) (fun F C => ?_)
  replace C : z_X F (layX kn) (nX kn) ad cX2_match RX2 3 none 3 70 none gE := C
  show z_W F (layX kn) (nX kn) ad 0 [(0, .ref (ad 26))] [] g
  unfold fX2_match at h
  refine z_iconst C dX2_match_0 zci_0 ?_
  refine z_istore_n C dX2_match_1 rfl (by decide) [(1, .int 0), (0, .ref (ad 26))] rfl ?_
  refine z_loc [1, 0] rfl ?_
  refine wX2_match_L2 C  zN 0 g h
set_option maxRecDepth 100000 in
set_option maxHeartbeats 4000000 in
theorem wX2_leastWith (kn : Bool) (ad : Nat → Nat) (v1 : Int32) (v2 : Int32) (g : z_S) (r : Int32) (gE : z_S) (h : fX2_leastWith v1 v2 g = some (r, gE)) : z_M yX2_leastWith cX2_leastWith 3 (some .int) 0 0 (layX kn) (nX kn) ad [.ref (ad 26), .int v1, .int v2] g (some (.int r)) gE := by
  refine z_enter (by decide) (Nat.le_of_ble_eq_true rfl) (fun F C => ?_)
  replace C : z_X F (layX kn) (nX kn) ad cX2_leastWith RX2 3 (some .int) 0 0 (some (.int r)) gE := C
  show z_W F (layX kn) (nX kn) ad 0 [(0, .ref (ad 26)), (1, .int v1), (2, .int v2)] [] g
  unfold fX2_leastWith at h
  refine z_aload_n C dX2_leastWith_0 rfl 0 rfl ?_
  refine z_getr C zf_X2_40 (zo_X_26_6 kn) dX2_leastWith_1 ?_
  refine z_getr C zf_X2_104 (zo_X_4_3 kn) dX2_leastWith_4 ?_
  refine z_iload_n C dX2_leastWith_7 rfl 2 rfl ?_
  obtain ⟨hi8, h⟩ := z_g_some h
  refine z_iald C (za_X_7 kn) (z_in_vp hi8) dX2_leastWith_8 ?_
  refine z_aload_n C dX2_leastWith_9 rfl 0 rfl ?_
  refine z_getr C zf_X2_31 (zo_X_26_11 kn) dX2_leastWith_10 ?_
  refine z_iload_n C dX2_leastWith_13 rfl 1 rfl ?_
  refine z_aload_n C dX2_leastWith_14 rfl 0 rfl ?_
  refine z_getr C zf_X2_40 (zo_X_26_6 kn) dX2_leastWith_15 ?_
  refine z_getr C zf_X2_107 (zo_X_4_2 kn) dX2_leastWith_18 ?_
  refine z_iload_n C dX2_leastWith_21 rfl 2 rfl ?_
  obtain ⟨hi22, h⟩ := z_g_some h
  refine z_iald C (za_X_6 kn) (z_in_vp hi22) dX2_leastWith_22 ?_
  refine z_iadd C dX2_leastWith_23 ?_
  refine z_iconst C dX2_leastWith_24 zci_5 ?_
  refine z_imul C dX2_leastWith_25 ?_
  refine z_aload_n C dX2_leastWith_26 rfl 0 rfl ?_
  refine z_getr C zf_X2_40 (zo_X_26_6 kn) dX2_leastWith_27 ?_
  refine z_getr C zf_X2_77 (zo_X_4_4 kn) dX2_leastWith_30 ?_
  refine z_iload_n C dX2_leastWith_33 rfl 2 rfl ?_
  obtain ⟨hi34, h⟩ := z_g_some h
  refine z_iald C (za_X_8 kn) (z_in_vp hi34) dX2_leastWith_34 ?_
  refine z_iadd C dX2_leastWith_35 ?_
  obtain ⟨hi36, h⟩ := z_g_some h
  refine z_iald C (za_X_31 kn) (z_in_vp hi36) dX2_leastWith_36 ?_
  refine z_iadd C dX2_leastWith_37 ?_
  exact z_iret C (z_ret1i h) (z_ret2 h) dX2_leastWith_38
set_option maxRecDepth 100000 in
set_option maxHeartbeats 4000000 in
theorem wX2_measureFrom_L2 {kn : Bool} {F : z_F} {ad : Nat → Nat} {gE : z_S} (C : z_X F (layX kn) (nX kn) ad cX2_measureFrom RX2 7 none 1 22 none gE) (k21 : Int32 → Int32 → z_S → Option (Unit × z_S)) (hk21 : ∀ (v1 : Int32) (v2 : Int32) (g : z_S), k21 v1 v2 g = some ((), gE) → z_W F (layX kn) (nX kn) ad 21 [(0, .ref (ad 26)), (1, .int v1), (2, .int v2)] [] g) : ∀ (n : Nat) (v1 : Int32) (v2 : Int32) (v3 : Int32) (g : z_S), z_loop (fX2_measureFrom_B2 k21) n (v1, v2, v3) g = some ((), gE) → z_W F (layX kn) (nX kn) ad 2 [(0, .ref (ad 26)), (1, .int v1), (2, .int v2), (3, .int v3)] [] g := by
  intro n
  induction n with
  | zero =>
    intro v1 v2 v3 g h
    exact (z_loop_0 h).elim
  | succ n ih =>
    intro v1 v2 v3 g h
    replace h := z_loop_S h
    simp only [fX2_measureFrom_B2] at h
    refine z_iload_n C dX2_measureFrom_2 rfl 3 rfl ?_
    refine z_iconst C dX2_measureFrom_3 zci_4 ?_
    refine z_icmp_ge 21 C dX2_measureFrom_4 rfl (fun hc => ?_) (fun hc => ?_)
    · replace h := z_it hc h
      refine z_loc [0, 1, 2] rfl ?_
      exact hk21 v1 v2 g h
    · replace h := z_if hc h
      refine z_aload_n C dX2_measureFrom_7 rfl 0 rfl ?_
      refine z_getr C zf_X2_34 (zo_X_26_12 kn) dX2_measureFrom_8 ?_
      refine z_iload_n C dX2_measureFrom_11 rfl 3 rfl ?_
      refine z_ldc C dX2_measureFrom_12 zl_X2_75 ?_
      obtain ⟨hi14, h⟩ := z_g_some h
      obtain ⟨g14, eg14, h⟩ := z_s_some h
      refine z_iast C (za_X_32 kn) (z_in_vp hi14) dX2_measureFrom_14 ?_
      refine z_gw eg14 ?_
      refine z_iinc C dX2_measureFrom_15 (by decide) 3 rfl (z_incl zci_1) [(3, .int (v3 + 1)), (0, .ref (ad 26)), (1, .int v1), (2, .int v2)] rfl ?_
      refine z_goto 2 C dX2_measureFrom_18 rfl ?_
      refine z_loc [1, 2, 3, 0] rfl ?_
      exact ih v1 v2 (v3 + 1) g14 h
set_option maxRecDepth 100000 in
set_option maxHeartbeats 4000000 in
theorem wX2_measureFrom_L36 {kn : Bool} {F : z_F} {ad : Nat → Nat} {gE : z_S} (C : z_X F (layX kn) (nX kn) ad cX2_measureFrom RX2 7 none 1 22 none gE) (k110 : Int32 → Int32 → z_S → Option (Unit × z_S)) (hk110 : ∀ (v1 : Int32) (v2 : Int32) (g : z_S), k110 v1 v2 g = some ((), gE) → z_W F (layX kn) (nX kn) ad 110 [(0, .ref (ad 26)), (1, .int v1), (2, .int v2)] [] g) : ∀ (n : Nat) (v1 : Int32) (v2 : Int32) (v3 : Int32) (v4 : Int32) (g : z_S), z_loop (fX2_measureFrom_B36 k110) n (v1, v2, v3, v4) g = some ((), gE) → z_W F (layX kn) (nX kn) ad 36 [(0, .ref (ad 26)), (1, .int v1), (2, .int v2), (3, .int v3), (4, .int v4)] [] g := by
  intro n
  induction n with
  | zero =>
    intro v1 v2 v3 v4 g h
    exact (z_loop_0 h).elim
  | succ n ih =>
    intro v1 v2 v3 v4 g h
    replace h := z_loop_S h
    simp only [fX2_measureFrom_B36] at h
    refine z_iload C dX2_measureFrom_36 4 rfl ?_
    refine z_aload_n C dX2_measureFrom_38 rfl 0 rfl ?_
    refine z_getr C zf_X2_40 (zo_X_26_6 kn) dX2_measureFrom_39 ?_
    refine z_geti C zf_X2_76 (zo_X_4_0 kn) dX2_measureFrom_42 ?_
    refine z_icmp_ge 110 C dX2_measureFrom_45 rfl (fun hc => ?_) (fun hc => ?_)
    · replace h := z_it hc h
      refine z_loc [0, 1, 2] rfl ?_
      exact hk110 v1 v2 g h
    · replace h := z_if hc h
      refine z_iload_n C dX2_measureFrom_48 rfl 3 rfl ?_
      refine z_iload C dX2_measureFrom_49 4 rfl ?_
      refine z_ishr C dX2_measureFrom_51 ?_
      refine z_if_eq 110 C dX2_measureFrom_52 rfl (fun hc => ?_) (fun hc => ?_)
      · replace h := z_it hc h
        refine z_loc [0, 1, 2] rfl ?_
        exact hk110 v1 v2 g h
      · replace h := z_if hc h
        refine z_iload_n C dX2_measureFrom_55 rfl 3 rfl ?_
        refine z_iload C dX2_measureFrom_56 4 rfl ?_
        refine z_ishr C dX2_measureFrom_58 ?_
        refine z_iconst C dX2_measureFrom_59 zci_1 ?_
        refine z_iand C dX2_measureFrom_60 ?_
        refine z_if_eq 104 C dX2_measureFrom_61 rfl (fun hc => ?_) (fun hc => ?_)
        · replace h := z_it hc h
          refine z_iinc C dX2_measureFrom_104 (by decide) 4 rfl (z_incl zci_1) [(4, .int (v4 + 1)), (0, .ref (ad 26)), (1, .int v1), (2, .int v2), (3, .int v3)] rfl ?_
          refine z_goto 36 C dX2_measureFrom_107 rfl ?_
          refine z_loc [1, 2, 3, 4, 0] rfl ?_
          exact ih v1 v2 v3 (v4 + 1) g h
        · replace h := z_if hc h
          refine z_aload_n C dX2_measureFrom_64 rfl 0 rfl ?_
          refine z_getr C zf_X2_34 (zo_X_26_12 kn) dX2_measureFrom_65 ?_
          refine z_aload_n C dX2_measureFrom_68 rfl 0 rfl ?_
          refine z_getr C zf_X2_40 (zo_X_26_6 kn) dX2_measureFrom_69 ?_
          refine z_getr C zf_X2_77 (zo_X_4_4 kn) dX2_measureFrom_72 ?_
          refine z_iload C dX2_measureFrom_75 4 rfl ?_
          obtain ⟨hi77, h⟩ := z_g_some h
          refine z_iald C (za_X_8 kn) (z_in_vp hi77) dX2_measureFrom_77 ?_
          refine z_aload_n C dX2_measureFrom_78 rfl 0 rfl ?_
          refine z_getr C zf_X2_34 (zo_X_26_12 kn) dX2_measureFrom_79 ?_
          refine z_aload_n C dX2_measureFrom_82 rfl 0 rfl ?_
          refine z_getr C zf_X2_40 (zo_X_26_6 kn) dX2_measureFrom_83 ?_
          refine z_getr C zf_X2_77 (zo_X_4_4 kn) dX2_measureFrom_86 ?_
          refine z_iload C dX2_measureFrom_89 4 rfl ?_
          obtain ⟨hi91, h⟩ := z_g_some h
          refine z_iald C (za_X_8 kn) (z_in_vp hi91) dX2_measureFrom_91 ?_
          obtain ⟨hi92, h⟩ := z_g_some h
          refine z_iald C (za_X_32 kn) (z_in_vp hi92) dX2_measureFrom_92 ?_
          refine z_aload_n C dX2_measureFrom_93 rfl 0 rfl ?_
          refine z_iload_n C dX2_measureFrom_94 rfl 2 rfl ?_
          refine z_iload C dX2_measureFrom_95 4 rfl ?_
          obtain ⟨r97, g97, hq97, h⟩ := z_b_some h
          refine z_callVi [.int (g.1 32 (g.1 8 (v4).toNatClampNeg).toNatClampNeg), .int (g.1 8 (v4).toNatClampNeg), .ref (ad 32)] C zc_X2_80 (zk_X_26 kn) rfl (by decide) (Nat.le_of_ble_eq_true rfl) dX2_measureFrom_97 rfl (wX2_leastWith kn ad v2 v4 g r97 g97 hq97) ?_
          refine z_mmin C zm_X2_84 zms_i zmi zmc_i (by decide) (Nat.le_of_ble_eq_true rfl) dX2_measureFrom_100 ?_
          obtain ⟨hi103, h⟩ := z_g_some h
          obtain ⟨g103, eg103, h⟩ := z_s_some h
          refine z_iast C (za_X_32 kn) (z_in_vp hi103) dX2_measureFrom_103 ?_
          refine z_gw eg103 ?_
          refine z_iinc C dX2_measureFrom_104 (by decide) 4 rfl (z_incl zci_1) [(4, .int (v4 + 1)), (0, .ref (ad 26)), (1, .int v1), (2, .int v2), (3, .int v3)] rfl ?_
          refine z_goto 36 C dX2_measureFrom_107 rfl ?_
          refine z_loc [1, 2, 3, 4, 0] rfl ?_
          exact ih v1 v2 v3 (v4 + 1) g103 h
set_option maxRecDepth 100000 in
set_option maxHeartbeats 4000000 in
theorem wX2_measureFrom_L205 {kn : Bool} {F : z_F} {ad : Nat → Nat} {gE : z_S} (C : z_X F (layX kn) (nX kn) ad cX2_measureFrom RX2 7 none 1 22 none gE) (k252 : Int32 → Int32 → Int32 → z_S → Option (Unit × z_S)) (hk252 : ∀ (v2 : Int32) (v4 : Int32) (v5 : Int32) (g : z_S), k252 v2 v4 v5 g = some ((), gE) → z_W F (layX kn) (nX kn) ad 252 [(0, .ref (ad 26)), (2, .int v2), (4, .int v4), (5, .int v5)] [] g) : ∀ (n : Nat) (v2 : Int32) (v4 : Int32) (v5 : Int32) (v6 : Int32) (g : z_S), z_loop (fX2_measureFrom_B205 k252) n (v2, v4, v5, v6) g = some ((), gE) → z_W F (layX kn) (nX kn) ad 205 [(0, .ref (ad 26)), (2, .int v2), (4, .int v4), (5, .int v5), (6, .int v6)] [] g := by
  intro n
  induction n with
  | zero =>
    intro v2 v4 v5 v6 g h
    exact (z_loop_0 h).elim
  | succ n ih =>
    intro v2 v4 v5 v6 g h
    replace h := z_loop_S h
    simp only [fX2_measureFrom_B205] at h
    refine z_iload C dX2_measureFrom_205 4 rfl ?_
    refine z_iconst C dX2_measureFrom_207 zci_4 ?_
    refine z_icmp_ge 252 C dX2_measureFrom_208 rfl (fun hc => ?_) (fun hc => ?_)
    · replace h := z_it hc h
      refine z_loc [0, 1, 2, 3] rfl ?_
      exact hk252 v2 v4 v5 g h
    · replace h := z_if hc h
      refine z_aload_n C dX2_measureFrom_211 rfl 0 rfl ?_
      refine z_getr C zf_X2_34 (zo_X_26_12 kn) dX2_measureFrom_212 ?_
      refine z_iload C dX2_measureFrom_215 4 rfl ?_
      obtain ⟨hi217, h⟩ := z_g_some h
      refine z_iald C (za_X_32 kn) (z_in_vp hi217) dX2_measureFrom_217 ?_
      refine z_iload C dX2_measureFrom_218 3 rfl ?_
      refine z_icmp_ge 246 C dX2_measureFrom_220 rfl (fun hc => ?_) (fun hc => ?_)
      · replace h := z_it hc h
        refine z_iinc C dX2_measureFrom_246 (by decide) 4 rfl (z_incl zci_1) [(6, .int (v6 + 1)), (0, .ref (ad 26)), (2, .int v2), (4, .int v4), (5, .int v5)] rfl ?_
        refine z_goto 205 C dX2_measureFrom_249 rfl ?_
        refine z_loc [1, 2, 3, 4, 0] rfl ?_
        exact ih v2 v4 v5 (v6 + 1) g h
      · replace h := z_if hc h
        refine z_aload_n C dX2_measureFrom_223 rfl 0 rfl ?_
        refine z_getr C zf_X2_44 (zo_X_26_7 kn) dX2_measureFrom_224 ?_
        refine z_iload C dX2_measureFrom_227 2 rfl ?_
        refine z_iload C dX2_measureFrom_229 4 rfl ?_
        obtain ⟨r231, g231, hq231, h⟩ := z_b_some h
        refine z_callVi [] C zc_X2_100 (zk_X_1 kn) rfl (by decide) (Nat.le_of_ble_eq_true rfl) dX2_measureFrom_231 rfl (wX7_mayCome kn ad v4 v6 g r231 g231 hq231) ?_
        refine z_if_eq 246 C dX2_measureFrom_234 rfl (fun hc => ?_) (fun hc => ?_)
        · replace h := z_it hc h
          refine z_iinc C dX2_measureFrom_246 (by decide) 4 rfl (z_incl zci_1) [(6, .int (v6 + 1)), (0, .ref (ad 26)), (2, .int v2), (4, .int v4), (5, .int v5)] rfl ?_
          refine z_goto 205 C dX2_measureFrom_249 rfl ?_
          refine z_loc [1, 2, 3, 4, 0] rfl ?_
          exact ih v2 v4 v5 (v6 + 1) g231 h
        · replace h := z_if hc h
          refine z_aload_n C dX2_measureFrom_237 rfl 0 rfl ?_
          refine z_getr C zf_X2_34 (zo_X_26_12 kn) dX2_measureFrom_238 ?_
          refine z_iload C dX2_measureFrom_241 4 rfl ?_
          obtain ⟨hi243, h⟩ := z_g_some h
          refine z_iald C (za_X_32 kn) (z_in_vp hi243) dX2_measureFrom_243 ?_
          refine z_istore C dX2_measureFrom_244 (by decide) [(5, .int (g231.1 32 (v6).toNatClampNeg)), (0, .ref (ad 26)), (2, .int v2), (4, .int v4), (6, .int v6)] rfl ?_
          refine z_iinc C dX2_measureFrom_246 (by decide) 4 rfl (z_incl zci_1) [(6, .int (v6 + 1)), (5, .int (g231.1 32 (v6).toNatClampNeg)), (0, .ref (ad 26)), (2, .int v2), (4, .int v4)] rfl ?_
          refine z_goto 205 C dX2_measureFrom_249 rfl ?_
          refine z_loc [2, 3, 4, 1, 0] rfl ?_
          exact ih v2 v4 (g231.1 32 (v6).toNatClampNeg) (v6 + 1) g231 h
set_option maxRecDepth 100000 in
set_option maxHeartbeats 4000000 in
theorem wX2_measureFrom_L171 {kn : Bool} {F : z_F} {ad : Nat → Nat} {gE : z_S} (C : z_X F (layX kn) (nX kn) ad cX2_measureFrom RX2 7 none 1 22 none gE) : ∀ (n : Nat) (v2 : Int32) (v4 : Int32) (g : z_S), z_loop fX2_measureFrom_B171 n (v2, v4) g = some ((), gE) → z_W F (layX kn) (nX kn) ad 171 [(0, .ref (ad 26)), (2, .int v2), (4, .int v4)] [] g := by
  intro n
  induction n with
  | zero =>
    intro v2 v4 g h
    exact (z_loop_0 h).elim
  | succ n ih =>
    intro v2 v4 g h
    replace h := z_loop_S h
    simp only [fX2_measureFrom_B171] at h
    refine z_iload C dX2_measureFrom_171 2 rfl ?_
    refine z_iconst C dX2_measureFrom_173 zci_5 ?_
    refine z_icmp_ge 271 C dX2_measureFrom_174 rfl (fun hc => ?_) (fun hc => ?_)
    · replace h := z_it hc h
      exact z_vret C rfl (z_ret2 h) dX2_measureFrom_271
    · replace h := z_if hc h
      refine z_aload_n C dX2_measureFrom_177 rfl 0 rfl ?_
      refine z_getr C zf_X2_44 (zo_X_26_7 kn) dX2_measureFrom_178 ?_
      refine z_getr C zf_X2_95 (zo_X_1_2 kn) dX2_measureFrom_181 ?_
      refine z_iconst C dX2_measureFrom_184 zci_2 ?_
      obtain ⟨hi185, h⟩ := z_g_some h
      refine z_iald C (za_X_3 kn) (z_in_vp hi185) dX2_measureFrom_185 ?_
      refine z_aload_n C dX2_measureFrom_186 rfl 0 rfl ?_
      refine z_getr C zf_X2_31 (zo_X_26_11 kn) dX2_measureFrom_187 ?_
      refine z_iload_n C dX2_measureFrom_190 rfl 1 rfl ?_
      refine z_iconst C dX2_measureFrom_191 zci_1 ?_
      refine z_iadd C dX2_measureFrom_192 ?_
      refine z_iconst C dX2_measureFrom_193 zci_5 ?_
      refine z_imul C dX2_measureFrom_194 ?_
      refine z_iload C dX2_measureFrom_195 2 rfl ?_
      refine z_iadd C dX2_measureFrom_197 ?_
      obtain ⟨hi198, h⟩ := z_g_some h
      refine z_iald C (za_X_31 kn) (z_in_vp hi198) dX2_measureFrom_198 ?_
      refine z_iadd C dX2_measureFrom_199 ?_
      refine z_istore C dX2_measureFrom_200 (by decide) [(5, .int ((g.1 3 (2 : Int32).toNatClampNeg) + (g.1 31 (((v2 + 1) * 5) + v4).toNatClampNeg))), (0, .ref (ad 26)), (2, .int v2), (4, .int v4)] rfl ?_
      refine z_iconst C dX2_measureFrom_202 zci_0 ?_
      refine z_istore C dX2_measureFrom_203 (by decide) [(6, .int 0), (5, .int ((g.1 3 (2 : Int32).toNatClampNeg) + (g.1 31 (((v2 + 1) * 5) + v4).toNatClampNeg))), (0, .ref (ad 26)), (2, .int v2), (4, .int v4)] rfl ?_
      refine z_loc [2, 3, 4, 1, 0] rfl ?_
      refine wX2_measureFrom_L205 C _ ?_ zN v2 v4 ((g.1 3 (2 : Int32).toNatClampNeg) + (g.1 31 (((v2 + 1) * 5) + v4).toNatClampNeg)) 0 g h
      · intro v2 v4 v5 g h
        refine z_aload_n C dX2_measureFrom_252 rfl 0 rfl ?_
        refine z_getr C zf_X2_31 (zo_X_26_11 kn) dX2_measureFrom_253 ?_
        refine z_iload_n C dX2_measureFrom_256 rfl 1 rfl ?_
        refine z_iconst C dX2_measureFrom_257 zci_5 ?_
        refine z_imul C dX2_measureFrom_258 ?_
        refine z_iload C dX2_measureFrom_259 2 rfl ?_
        refine z_iadd C dX2_measureFrom_261 ?_
        refine z_iload C dX2_measureFrom_262 3 rfl ?_
        obtain ⟨hi264, h⟩ := z_g_some h
        obtain ⟨g264, eg264, h⟩ := z_s_some h
        refine z_iast C (za_X_31 kn) (z_in_vp hi264) dX2_measureFrom_264 ?_
        refine z_gw eg264 ?_
        refine z_iinc C dX2_measureFrom_265 (by decide) 2 rfl (z_incl zci_1) [(4, .int (v4 + 1)), (0, .ref (ad 26)), (2, .int v2), (5, .int v5)] rfl ?_
        refine z_goto 171 C dX2_measureFrom_268 rfl ?_
        refine z_loc [1, 2, 0] rfl ?_
        exact ih v2 (v4 + 1) g264 h
set_option maxRecDepth 100000 in
set_option maxHeartbeats 4000000 in
theorem wX2_measureFrom (kn : Bool) (ad : Nat → Nat) (v1 : Int32) (v2 : Int32) (g : z_S) (gE : z_S) (h : fX2_measureFrom v1 v2 g = some ((), gE)) : z_M yX2_measureFrom cX2_measureFrom 7 none 1 22 (layX kn) (nX kn) ad [.ref (ad 26), .int v1, .int v2] g none gE := by
  refine z_enter (by decide) (Nat.le_of_ble_eq_true rfl) (fun F C => ?_)
  replace C : z_X F (layX kn) (nX kn) ad cX2_measureFrom RX2 7 none 1 22 none gE := C
  show z_W F (layX kn) (nX kn) ad 0 [(0, .ref (ad 26)), (1, .int v1), (2, .int v2)] [] g
  unfold fX2_measureFrom at h
  refine z_iconst C dX2_measureFrom_0 zci_0 ?_
  refine z_istore_n C dX2_measureFrom_1 rfl (by decide) [(3, .int 0), (0, .ref (ad 26)), (1, .int v1), (2, .int v2)] rfl ?_
  refine z_loc [1, 2, 3, 0] rfl ?_
  refine wX2_measureFrom_L2 C _ ?_ zN v1 v2 0 g h
  · intro v1 v2 g h
    refine z_aload_n C dX2_measureFrom_21 rfl 0 rfl ?_
    refine z_getr C zf_X2_25 (zo_X_26_9 kn) dX2_measureFrom_22 ?_
    refine z_iload_n C dX2_measureFrom_25 rfl 1 rfl ?_
    refine z_bipush C dX2_measureFrom_26 zcb_24 ?_
    refine z_imul C dX2_measureFrom_28 ?_
    refine z_iload_n C dX2_measureFrom_29 rfl 2 rfl ?_
    refine z_iadd C dX2_measureFrom_30 ?_
    obtain ⟨hi31, h⟩ := z_g_some h
    refine z_iald C (za_X_29 kn) (z_in_vp hi31) dX2_measureFrom_31 ?_
    refine z_istore_n C dX2_measureFrom_32 rfl (by decide) [(3, .int (g.1 29 ((v1 * 24) + v2).toNatClampNeg)), (0, .ref (ad 26)), (1, .int v1), (2, .int v2)] rfl ?_
    refine z_iconst C dX2_measureFrom_33 zci_0 ?_
    refine z_istore C dX2_measureFrom_34 (by decide) [(4, .int 0), (3, .int (g.1 29 ((v1 * 24) + v2).toNatClampNeg)), (0, .ref (ad 26)), (1, .int v1), (2, .int v2)] rfl ?_
    refine z_loc [2, 3, 4, 1, 0] rfl ?_
    refine wX2_measureFrom_L36 C _ ?_ zN v1 v2 (g.1 29 ((v1 * 24) + v2).toNatClampNeg) 0 g h
    · intro v1 v2 g h
      refine z_aload_n C dX2_measureFrom_110 rfl 0 rfl ?_
      refine z_geti C zf_X2_89 (zo_X_26_15 kn) dX2_measureFrom_111 ?_
      refine z_if_eq 168 C dX2_measureFrom_114 rfl (fun hc => ?_) (fun hc => ?_)
      · replace h := z_it hc h
        refine z_iconst C dX2_measureFrom_168 zci_0 ?_
        refine z_istore C dX2_measureFrom_169 (by decide) [(4, .int 0), (0, .ref (ad 26)), (1, .int v1), (2, .int v2)] rfl ?_
        refine z_loc [1, 3, 0] rfl ?_
        refine wX2_measureFrom_L171 C  zN v2 0 g h
      · replace h := z_if hc h
        refine z_aload_n C dX2_measureFrom_117 rfl 0 rfl ?_
        refine z_getr C zf_X2_28 (zo_X_26_10 kn) dX2_measureFrom_118 ?_
        refine z_iload_n C dX2_measureFrom_121 rfl 1 rfl ?_
        refine z_bipush C dX2_measureFrom_122 zcb_24 ?_
        refine z_imul C dX2_measureFrom_124 ?_
        refine z_iload_n C dX2_measureFrom_125 rfl 2 rfl ?_
        refine z_iadd C dX2_measureFrom_126 ?_
        obtain ⟨hi127, h⟩ := z_g_some h
        refine z_iald C (za_X_30 kn) (z_in_vp hi127) dX2_measureFrom_127 ?_
        refine z_aload_n C dX2_measureFrom_128 rfl 0 rfl ?_
        refine z_geti C zf_X2_89 (zo_X_26_15 kn) dX2_measureFrom_129 ?_
        refine z_icmp_ne 168 C dX2_measureFrom_132 rfl (fun hc => ?_) (fun hc => ?_)
        · replace h := z_it hc h
          refine z_aload_n C dX2_measureFrom_135 rfl 0 rfl ?_
          refine z_getr C zf_X2_34 (zo_X_26_12 kn) dX2_measureFrom_136 ?_
          refine z_iconst C dX2_measureFrom_139 zci_0 ?_
          refine z_aload_n C dX2_measureFrom_140 rfl 0 rfl ?_
          refine z_getr C zf_X2_34 (zo_X_26_12 kn) dX2_measureFrom_141 ?_
          refine z_iconst C dX2_measureFrom_144 zci_0 ?_
          obtain ⟨hi145, h⟩ := z_g_some h
          refine z_iald C (za_X_32 kn) (z_in_vp hi145) dX2_measureFrom_145 ?_
          refine z_aload_n C dX2_measureFrom_146 rfl 0 rfl ?_
          refine z_geti C zf_X2_15 (zo_X_26_3 kn) dX2_measureFrom_147 ?_
          refine z_aload_n C dX2_measureFrom_150 rfl 0 rfl ?_
          refine z_getr C zf_X2_31 (zo_X_26_11 kn) dX2_measureFrom_151 ?_
          refine z_iload_n C dX2_measureFrom_154 rfl 2 rfl ?_
          refine z_aload_n C dX2_measureFrom_155 rfl 0 rfl ?_
          refine z_geti C zf_X2_92 (zo_X_26_14 kn) dX2_measureFrom_156 ?_
          refine z_iadd C dX2_measureFrom_159 ?_
          refine z_iconst C dX2_measureFrom_160 zci_5 ?_
          refine z_imul C dX2_measureFrom_161 ?_
          obtain ⟨hi162, h⟩ := z_g_some h
          refine z_iald C (za_X_31 kn) (z_in_vp hi162) dX2_measureFrom_162 ?_
          refine z_iadd C dX2_measureFrom_163 ?_
          refine z_mmin C zm_X2_84 zms_i zmi zmc_i (by decide) (Nat.le_of_ble_eq_true rfl) dX2_measureFrom_164 ?_
          obtain ⟨hi167, h⟩ := z_g_some h
          obtain ⟨g167, eg167, h⟩ := z_s_some h
          refine z_iast C (za_X_32 kn) (z_in_vp hi167) dX2_measureFrom_167 ?_
          refine z_gw eg167 ?_
          refine z_iconst C dX2_measureFrom_168 zci_0 ?_
          refine z_istore C dX2_measureFrom_169 (by decide) [(4, .int 0), (0, .ref (ad 26)), (1, .int v1), (2, .int v2)] rfl ?_
          refine z_loc [1, 3, 0] rfl ?_
          refine wX2_measureFrom_L171 C  zN v2 0 g167 h
        · replace h := z_if hc h
          refine z_iconst C dX2_measureFrom_168 zci_0 ?_
          refine z_istore C dX2_measureFrom_169 (by decide) [(4, .int 0), (0, .ref (ad 26)), (1, .int v1), (2, .int v2)] rfl ?_
          refine z_loc [1, 3, 0] rfl ?_
          refine wX2_measureFrom_L171 C  zN v2 0 g h
set_option maxRecDepth 100000 in
set_option maxHeartbeats 4000000 in
theorem wX2_measure_L12 {kn : Bool} {F : z_F} {ad : Nat → Nat} {r : Int32} {gE : z_S} (C : z_X F (layX kn) (nX kn) ad cX2_measure RX2 4 (some .int) 2 48 (some (.int r)) gE) (k34 : Int32 → Int32 → z_S → Option (Int32 × z_S)) (hk34 : ∀ (v1 : Int32) (v2 : Int32) (g : z_S), k34 v1 v2 g = some (r, gE) → z_W F (layX kn) (nX kn) ad 34 [(0, .ref (ad 26)), (1, .int v1), (2, .int v2)] [] g) : ∀ (n : Nat) (v1 : Int32) (v2 : Int32) (v3 : Int32) (g : z_S), z_loop (fX2_measure_B12 k34) n (v1, v2, v3) g = some (r, gE) → z_W F (layX kn) (nX kn) ad 12 [(0, .ref (ad 26)), (1, .int v1), (2, .int v2), (3, .int v3)] [] g := by
  intro n
  induction n with
  | zero =>
    intro v1 v2 v3 g h
    exact (z_loop_0 h).elim
  | succ n ih =>
    intro v1 v2 v3 g h
    replace h := z_loop_S h
    simp only [fX2_measure_B12] at h
    refine z_iload_n C dX2_measure_12 rfl 3 rfl ?_
    refine z_iconst C dX2_measure_13 zci_5 ?_
    refine z_icmp_ge 34 C dX2_measure_14 rfl (fun hc => ?_) (fun hc => ?_)
    · replace h := z_it hc h
      refine z_loc [0, 1, 2] rfl ?_
      exact hk34 v1 v2 g h
    · replace h := z_if hc h
      refine z_aload_n C dX2_measure_17 rfl 0 rfl ?_
      refine z_getr C zf_X2_31 (zo_X_26_11 kn) dX2_measure_18 ?_
      refine z_iload_n C dX2_measure_21 rfl 2 rfl ?_
      refine z_iconst C dX2_measure_22 zci_5 ?_
      refine z_imul C dX2_measure_23 ?_
      refine z_iload_n C dX2_measure_24 rfl 3 rfl ?_
      refine z_iadd C dX2_measure_25 ?_
      refine z_iconst C dX2_measure_26 zci_0 ?_
      obtain ⟨hi27, h⟩ := z_g_some h
      obtain ⟨g27, eg27, h⟩ := z_s_some h
      refine z_iast C (za_X_31 kn) (z_in_vp hi27) dX2_measure_27 ?_
      refine z_gw eg27 ?_
      refine z_iinc C dX2_measure_28 (by decide) 3 rfl (z_incl zci_1) [(3, .int (v3 + 1)), (0, .ref (ad 26)), (1, .int v1), (2, .int v2)] rfl ?_
      refine z_goto 12 C dX2_measure_31 rfl ?_
      refine z_loc [1, 2, 3, 0] rfl ?_
      exact ih v1 v2 (v3 + 1) g27 h
set_option maxRecDepth 100000 in
set_option maxHeartbeats 4000000 in
theorem wX2_measure_L38 {kn : Bool} {F : z_F} {ad : Nat → Nat} {r : Int32} {gE : z_S} (C : z_X F (layX kn) (nX kn) ad cX2_measure RX2 4 (some .int) 2 48 (some (.int r)) gE) : ∀ (n : Nat) (v1 : Int32) (v3 : Int32) (g : z_S), z_loop fX2_measure_B38 n (v1, v3) g = some (r, gE) → z_W F (layX kn) (nX kn) ad 38 [(0, .ref (ad 26)), (1, .int v1), (3, .int v3)] [] g := by
  intro n
  induction n with
  | zero =>
    intro v1 v3 g h
    exact (z_loop_0 h).elim
  | succ n ih =>
    intro v1 v3 g h
    replace h := z_loop_S h
    simp only [fX2_measure_B38] at h
    refine z_iload_n C dX2_measure_38 rfl 2 rfl ?_
    refine z_if_lt 54 C dX2_measure_39 rfl (fun hc => ?_) (fun hc => ?_)
    · replace h := z_it hc h
      refine z_aload_n C dX2_measure_54 rfl 0 rfl ?_
      refine z_getr C zf_X2_31 (zo_X_26_11 kn) dX2_measure_55 ?_
      refine z_iconst C dX2_measure_58 zci_4 ?_
      obtain ⟨hi59, h⟩ := z_g_some h
      refine z_iald C (za_X_31 kn) (z_in_vp hi59) dX2_measure_59 ?_
      exact z_iret C (z_ret1i h) (z_ret2 h) dX2_measure_60
    · replace h := z_if hc h
      refine z_aload_n C dX2_measure_42 rfl 0 rfl ?_
      refine z_iload_n C dX2_measure_43 rfl 1 rfl ?_
      refine z_iload_n C dX2_measure_44 rfl 2 rfl ?_
      obtain ⟨r45, g45, hq45, h⟩ := z_b_some h
      refine z_callVv [] C zc_X2_71 (zk_X_26 kn) rfl (by decide) (Nat.le_of_ble_eq_true rfl) dX2_measure_45 rfl (wX2_measureFrom kn ad v1 v3 g g45 hq45) ?_
      refine z_iinc C dX2_measure_48 (by decide) 2 rfl (z_incl zci_m1) [(3, .int (v3 + (-1))), (0, .ref (ad 26)), (1, .int v1)] rfl ?_
      refine z_goto 38 C dX2_measure_51 rfl ?_
      refine z_loc [1, 2, 0] rfl ?_
      exact ih v1 (v3 + (-1)) g45 h
set_option maxRecDepth 100000 in
set_option maxHeartbeats 4000000 in
theorem wX2_measure (kn : Bool) (ad : Nat → Nat) (v1 : Int32) (g : z_S) (r : Int32) (gE : z_S) (h : fX2_measure v1 g = some (r, gE)) : z_M yX2_measure cX2_measure 4 (some .int) 2 48 (layX kn) (nX kn) ad [.ref (ad 26), .int v1] g (some (.int r)) gE := by
  refine z_enter (by decide) (Nat.le_of_ble_eq_true rfl) (fun F C => ?_)
  replace C : z_X F (layX kn) (nX kn) ad cX2_measure RX2 4 (some .int) 2 48 (some (.int r)) gE := C
  show z_W F (layX kn) (nX kn) ad 0 [(0, .ref (ad 26)), (1, .int v1)] [] g
  unfold fX2_measure at h
  refine z_aload_n C dX2_measure_0 rfl 0 rfl ?_
  refine z_getr C zf_X2_21 (zo_X_26_8 kn) dX2_measure_1 ?_
  refine z_iload_n C dX2_measure_4 rfl 1 rfl ?_
  obtain ⟨hi5, h⟩ := z_g_some h
  refine z_aald C (zh_N kn) (zh_lay kn) (z_held hi5) (z_in_vp hi5) dX2_measure_5 ?_
  obtain ⟨hb6, h⟩ := z_g_some h
  refine z_geti C zf_X2_54 (zo_Xh_1 kn hb6) dX2_measure_6 ?_
  refine z_istore_n C dX2_measure_9 rfl (by decide) [(2, .int (g.1 (34 + 2 * (v1).toNatClampNeg) 1)), (0, .ref (ad 26)), (1, .int v1)] rfl ?_
  refine z_iconst C dX2_measure_10 zci_0 ?_
  refine z_istore_n C dX2_measure_11 rfl (by decide) [(3, .int 0), (2, .int (g.1 (34 + 2 * (v1).toNatClampNeg) 1)), (0, .ref (ad 26)), (1, .int v1)] rfl ?_
  refine z_loc [2, 3, 1, 0] rfl ?_
  refine wX2_measure_L12 C _ ?_ zN v1 (g.1 (34 + 2 * (v1).toNatClampNeg) 1) 0 g h
  · intro v1 v2 g h
    refine z_iload_n C dX2_measure_34 rfl 2 rfl ?_
    refine z_iconst C dX2_measure_35 zci_1 ?_
    refine z_isub C dX2_measure_36 ?_
    refine z_istore_n C dX2_measure_37 rfl (by decide) [(3, .int (v2 - 1)), (0, .ref (ad 26)), (1, .int v1), (2, .int v2)] rfl ?_
    refine z_loc [1, 2, 0] rfl ?_
    refine wX2_measure_L38 C  zN v1 (v2 - 1) g h
set_option maxRecDepth 100000 in
set_option maxHeartbeats 4000000 in
theorem wX2_sumOfLeast_L4 {kn : Bool} {F : z_F} {ad : Nat → Nat} {r : Int32} {gE : z_S} (C : z_X F (layX kn) (nX kn) ad cX2_sumOfLeast RX2 3 (some .int) 3 71 (some (.int r)) gE) : ∀ (n : Nat) (v1 : Int32) (v2 : Int32) (g : z_S), z_loop fX2_sumOfLeast_B4 n (v1, v2) g = some (r, gE) → z_W F (layX kn) (nX kn) ad 4 [(0, .ref (ad 26)), (1, .int v1), (2, .int v2)] [] g := by
  intro n
  induction n with
  | zero =>
    intro v1 v2 g h
    exact (z_loop_0 h).elim
  | succ n ih =>
    intro v1 v2 g h
    replace h := z_loop_S h
    simp only [fX2_sumOfLeast_B4] at h
    refine z_iload_n C dX2_sumOfLeast_4 rfl 2 rfl ?_
    refine z_aload_n C dX2_sumOfLeast_5 rfl 0 rfl ?_
    refine z_geti C zf_X2_51 (zo_X_26_0 kn) dX2_sumOfLeast_6 ?_
    refine z_icmp_ge 26 C dX2_sumOfLeast_9 rfl (fun hc => ?_) (fun hc => ?_)
    · replace h := z_it hc h
      refine z_iload_n C dX2_sumOfLeast_26 rfl 1 rfl ?_
      exact z_iret C (z_ret1i h) (z_ret2 h) dX2_sumOfLeast_27
    · replace h := z_if hc h
      refine z_iload_n C dX2_sumOfLeast_12 rfl 1 rfl ?_
      refine z_aload_n C dX2_sumOfLeast_13 rfl 0 rfl ?_
      refine z_iload_n C dX2_sumOfLeast_14 rfl 2 rfl ?_
      obtain ⟨r15, g15, hq15, h⟩ := z_b_some h
      refine z_callVi [.int v1] C zc_X2_67 (zk_X_26 kn) rfl (by decide) (Nat.le_of_ble_eq_true rfl) dX2_sumOfLeast_15 rfl (wX2_measure kn ad v2 g r15 g15 hq15) ?_
      refine z_iadd C dX2_sumOfLeast_18 ?_
      refine z_istore_n C dX2_sumOfLeast_19 rfl (by decide) [(1, .int (v1 + r15)), (0, .ref (ad 26)), (2, .int v2)] rfl ?_
      refine z_iinc C dX2_sumOfLeast_20 (by decide) 2 rfl (z_incl zci_1) [(2, .int (v2 + 1)), (1, .int (v1 + r15)), (0, .ref (ad 26))] rfl ?_
      refine z_goto 4 C dX2_sumOfLeast_23 rfl ?_
      refine z_loc [2, 1, 0] rfl ?_
      exact ih (v1 + r15) (v2 + 1) g15 h
set_option maxRecDepth 100000 in
set_option maxHeartbeats 4000000 in
theorem wX2_sumOfLeast (kn : Bool) (ad : Nat → Nat) (g : z_S) (r : Int32) (gE : z_S) (h : fX2_sumOfLeast g = some (r, gE)) : z_M yX2_sumOfLeast cX2_sumOfLeast 3 (some .int) 3 71 (layX kn) (nX kn) ad [.ref (ad 26)] g (some (.int r)) gE := by
  refine z_enter (by decide) (Nat.le_of_ble_eq_true rfl) (fun F C => ?_)
  replace C : z_X F (layX kn) (nX kn) ad cX2_sumOfLeast RX2 3 (some .int) 3 71 (some (.int r)) gE := C
  show z_W F (layX kn) (nX kn) ad 0 [(0, .ref (ad 26))] [] g
  unfold fX2_sumOfLeast at h
  refine z_iconst C dX2_sumOfLeast_0 zci_0 ?_
  refine z_istore_n C dX2_sumOfLeast_1 rfl (by decide) [(1, .int 0), (0, .ref (ad 26))] rfl ?_
  refine z_iconst C dX2_sumOfLeast_2 zci_0 ?_
  refine z_istore_n C dX2_sumOfLeast_3 rfl (by decide) [(2, .int 0), (1, .int 0), (0, .ref (ad 26))] rfl ?_
  refine z_loc [2, 1, 0] rfl ?_
  refine wX2_sumOfLeast_L4 C  zN 0 0 g h
set_option maxRecDepth 100000 in
set_option maxHeartbeats 4000000 in
theorem wX10_totals (kn : Bool) (ad : Nat → Nat) (g : z_S) (r : Int32) (gE : z_S) (h : fX10_totals g = some (r, gE)) : z_M yX10_totals cX10_totals 1 (some .int) 4 93 (layX kn) (nX kn) ad [.ref (ad 0)] g (some (.int r)) gE := by
  refine z_enter (by decide) (Nat.le_of_ble_eq_true rfl) (fun F C => ?_)
  replace C : z_X F (layX kn) (nX kn) ad cX10_totals RX10 1 (some .int) 4 93 (some (.int r)) gE := C
  show z_W F (layX kn) (nX kn) ad 0 [(0, .ref (ad 0))] [] g
  unfold fX10_totals at h
  refine z_aload_n C dX10_totals_0 rfl 0 rfl ?_
  refine z_getr C zf_X10_65 (zo_X_0_7 kn) dX10_totals_1 ?_
  obtain ⟨r4, g4, hq4, h⟩ := z_b_some h
  refine z_callVv [] C zc_X10_203 (zk_X_26 kn) rfl (by decide) (Nat.le_of_ble_eq_true rfl) dX10_totals_4 rfl (wX2_match kn ad g g4 hq4) ?_
  refine z_aload_n C dX10_totals_7 rfl 0 rfl ?_
  refine z_getr C zf_X10_65 (zo_X_0_7 kn) dX10_totals_8 ?_
  obtain ⟨r11, g11, hq11, h⟩ := z_b_some h
  refine z_callVi [] C zc_X10_206 (zk_X_26 kn) rfl (by decide) (Nat.le_of_ble_eq_true rfl) dX10_totals_11 rfl (wX2_sumOfLeast kn ad g4 r11 g11 hq11) ?_
  exact z_iret C (z_ret1i h) (z_ret2 h) dX10_totals_14
set_option maxRecDepth 100000 in
set_option maxHeartbeats 4000000 in
theorem wX2_firstWordOfLeast_L28 {kn : Bool} {F : z_F} {ad : Nat → Nat} {r : Int32} {gE : z_S} (C : z_X F (layX kn) (nX kn) ad cX2_firstWordOfLeast RX2 7 (some .int) 1 22 (some (.int r)) gE) : ∀ (n : Nat) (v2 : Int32) (v3 : Int32) (v4 : Int32) (v5 : Int32) (v6 : Int32) (g : z_S), z_loop fX2_firstWordOfLeast_B28 n (v2, v3, v4, v5, v6) g = some (r, gE) → z_W F (layX kn) (nX kn) ad 28 [(0, .ref (ad 26)), (2, .int v2), (3, .int v3), (4, .int v4), (5, .int v5), (6, .int v6)] [] g := by
  intro n
  induction n with
  | zero =>
    intro v2 v3 v4 v5 v6 g h
    exact (z_loop_0 h).elim
  | succ n ih =>
    intro v2 v3 v4 v5 v6 g h
    replace h := z_loop_S h
    simp only [fX2_firstWordOfLeast_B28] at h
    refine z_iload C dX2_firstWordOfLeast_28 5 rfl ?_
    refine z_aload_n C dX2_firstWordOfLeast_30 rfl 0 rfl ?_
    refine z_getr C zf_X2_40 (zo_X_26_6 kn) dX2_firstWordOfLeast_31 ?_
    refine z_geti C zf_X2_76 (zo_X_4_0 kn) dX2_firstWordOfLeast_34 ?_
    refine z_icmp_ge 92 C dX2_firstWordOfLeast_37 rfl (fun hc => ?_) (fun hc => ?_)
    · replace h := z_it hc h
      refine z_iconst C dX2_firstWordOfLeast_92 zci_m1 ?_
      exact z_iret C (z_ret1i h) (z_ret2 h) dX2_firstWordOfLeast_93
    · replace h := z_if hc h
      refine z_iload C dX2_firstWordOfLeast_40 3 rfl ?_
      refine z_iload C dX2_firstWordOfLeast_42 5 rfl ?_
      refine z_ishr C dX2_firstWordOfLeast_44 ?_
      refine z_iconst C dX2_firstWordOfLeast_45 zci_1 ?_
      refine z_iand C dX2_firstWordOfLeast_46 ?_
      refine z_if_eq 86 C dX2_firstWordOfLeast_47 rfl (fun hc => ?_) (fun hc => ?_)
      · replace h := z_it hc h
        refine z_iinc C dX2_firstWordOfLeast_86 (by decide) 5 rfl (z_incl zci_1) [(6, .int (v6 + 1)), (0, .ref (ad 26)), (2, .int v2), (3, .int v3), (4, .int v4), (5, .int v5)] rfl ?_
        refine z_goto 28 C dX2_firstWordOfLeast_89 rfl ?_
        refine z_loc [1, 2, 3, 4, 5, 0] rfl ?_
        exact ih v2 v3 v4 v5 (v6 + 1) g h
      · replace h := z_if hc h
        refine z_aload_n C dX2_firstWordOfLeast_50 rfl 0 rfl ?_
        refine z_getr C zf_X2_44 (zo_X_26_7 kn) dX2_firstWordOfLeast_51 ?_
        refine z_iload_n C dX2_firstWordOfLeast_54 rfl 2 rfl ?_
        refine z_aload_n C dX2_firstWordOfLeast_55 rfl 0 rfl ?_
        refine z_getr C zf_X2_40 (zo_X_26_6 kn) dX2_firstWordOfLeast_56 ?_
        refine z_getr C zf_X2_77 (zo_X_4_4 kn) dX2_firstWordOfLeast_59 ?_
        refine z_iload C dX2_firstWordOfLeast_62 5 rfl ?_
        obtain ⟨hi64, h⟩ := z_g_some h
        refine z_iald C (za_X_8 kn) (z_in_vp hi64) dX2_firstWordOfLeast_64 ?_
        obtain ⟨r65, g65, hq65, h⟩ := z_b_some h
        refine z_callVi [] C zc_X2_100 (zk_X_1 kn) rfl (by decide) (Nat.le_of_ble_eq_true rfl) dX2_firstWordOfLeast_65 rfl (wX7_mayCome kn ad v3 (g.1 8 (v6).toNatClampNeg) g r65 g65 hq65) ?_
        refine z_if_eq 86 C dX2_firstWordOfLeast_68 rfl (fun hc => ?_) (fun hc => ?_)
        · replace h := z_it hc h
          refine z_iinc C dX2_firstWordOfLeast_86 (by decide) 5 rfl (z_incl zci_1) [(6, .int (v6 + 1)), (0, .ref (ad 26)), (2, .int v2), (3, .int v3), (4, .int v4), (5, .int v5)] rfl ?_
          refine z_goto 28 C dX2_firstWordOfLeast_89 rfl ?_
          refine z_loc [1, 2, 3, 4, 5, 0] rfl ?_
          exact ih v2 v3 v4 v5 (v6 + 1) g65 h
        · replace h := z_if hc h
          refine z_aload_n C dX2_firstWordOfLeast_71 rfl 0 rfl ?_
          refine z_iload_n C dX2_firstWordOfLeast_72 rfl 1 rfl ?_
          refine z_iload C dX2_firstWordOfLeast_73 5 rfl ?_
          obtain ⟨r75, g75, hq75, h⟩ := z_b_some h
          refine z_callVi [] C zc_X2_80 (zk_X_26 kn) rfl (by decide) (Nat.le_of_ble_eq_true rfl) dX2_firstWordOfLeast_75 rfl (wX2_leastWith kn ad v2 v6 g65 r75 g75 hq75) ?_
          refine z_iload C dX2_firstWordOfLeast_78 4 rfl ?_
          refine z_icmp_ne 86 C dX2_firstWordOfLeast_80 rfl (fun hc => ?_) (fun hc => ?_)
          · replace h := z_it hc h
            refine z_iload C dX2_firstWordOfLeast_83 5 rfl ?_
            exact z_iret C (z_ret1i h) (z_ret2 h) dX2_firstWordOfLeast_85
          · replace h := z_if hc h
            refine z_iinc C dX2_firstWordOfLeast_86 (by decide) 5 rfl (z_incl zci_1) [(6, .int (v6 + 1)), (0, .ref (ad 26)), (2, .int v2), (3, .int v3), (4, .int v4), (5, .int v5)] rfl ?_
            refine z_goto 28 C dX2_firstWordOfLeast_89 rfl ?_
            refine z_loc [1, 2, 3, 4, 5, 0] rfl ?_
            exact ih v2 v3 v4 v5 (v6 + 1) g75 h
set_option maxRecDepth 100000 in
set_option maxHeartbeats 4000000 in
theorem wX2_firstWordOfLeast (kn : Bool) (ad : Nat → Nat) (v1 : Int32) (v2 : Int32) (v3 : Int32) (g : z_S) (r : Int32) (gE : z_S) (h : fX2_firstWordOfLeast v1 v2 v3 g = some (r, gE)) : z_M yX2_firstWordOfLeast cX2_firstWordOfLeast 7 (some .int) 1 22 (layX kn) (nX kn) ad [.ref (ad 26), .int v1, .int v2, .int v3] g (some (.int r)) gE := by
  refine z_enter (by decide) (Nat.le_of_ble_eq_true rfl) (fun F C => ?_)
  replace C : z_X F (layX kn) (nX kn) ad cX2_firstWordOfLeast RX2 7 (some .int) 1 22 (some (.int r)) gE := C
  show z_W F (layX kn) (nX kn) ad 0 [(0, .ref (ad 26)), (1, .int v1), (2, .int v2), (3, .int v3)] [] g
  unfold fX2_firstWordOfLeast at h
  refine z_aload_n C dX2_firstWordOfLeast_0 rfl 0 rfl ?_
  refine z_getr C zf_X2_25 (zo_X_26_9 kn) dX2_firstWordOfLeast_1 ?_
  refine z_iload_n C dX2_firstWordOfLeast_4 rfl 1 rfl ?_
  refine z_bipush C dX2_firstWordOfLeast_5 zcb_24 ?_
  refine z_imul C dX2_firstWordOfLeast_7 ?_
  refine z_iload_n C dX2_firstWordOfLeast_8 rfl 2 rfl ?_
  refine z_iadd C dX2_firstWordOfLeast_9 ?_
  obtain ⟨hi10, h⟩ := z_g_some h
  refine z_iald C (za_X_29 kn) (z_in_vp hi10) dX2_firstWordOfLeast_10 ?_
  refine z_istore C dX2_firstWordOfLeast_11 (by decide) [(4, .int (g.1 29 ((v1 * 24) + v2).toNatClampNeg)), (0, .ref (ad 26)), (1, .int v1), (2, .int v2), (3, .int v3)] rfl ?_
  refine z_aload_n C dX2_firstWordOfLeast_13 rfl 1 rfl ?_
  refine z_getr C zf_X2_31 (zo_X_26_11 kn) dX2_firstWordOfLeast_14 ?_
  refine z_iload_n C dX2_firstWordOfLeast_17 rfl 3 rfl ?_
  refine z_iconst C dX2_firstWordOfLeast_18 zci_5 ?_
  refine z_imul C dX2_firstWordOfLeast_19 ?_
  refine z_iload_n C dX2_firstWordOfLeast_20 rfl 4 rfl ?_
  refine z_iadd C dX2_firstWordOfLeast_21 ?_
  obtain ⟨hi22, h⟩ := z_g_some h
  refine z_iald C (za_X_31 kn) (z_in_vp hi22) dX2_firstWordOfLeast_22 ?_
  refine z_istore C dX2_firstWordOfLeast_23 (by decide) [(5, .int (g.1 31 ((v2 * 5) + v3).toNatClampNeg)), (4, .int (g.1 29 ((v1 * 24) + v2).toNatClampNeg)), (0, .ref (ad 26)), (1, .int v1), (2, .int v2), (3, .int v3)] rfl ?_
  refine z_iconst C dX2_firstWordOfLeast_25 zci_0 ?_
  refine z_istore C dX2_firstWordOfLeast_26 (by decide) [(6, .int 0), (5, .int (g.1 31 ((v2 * 5) + v3).toNatClampNeg)), (4, .int (g.1 29 ((v1 * 24) + v2).toNatClampNeg)), (0, .ref (ad 26)), (1, .int v1), (2, .int v2), (3, .int v3)] rfl ?_
  refine z_loc [3, 5, 6, 2, 1, 0] rfl ?_
  refine wX2_firstWordOfLeast_L28 C  zN v2 v3 (g.1 29 ((v1 * 24) + v2).toNatClampNeg) (g.1 31 ((v2 * 5) + v3).toNatClampNeg) 0 g h
set_option maxRecDepth 100000 in
set_option maxHeartbeats 4000000 in
theorem wX2_countUsesOf_L18 {kn : Bool} {F : z_F} {ad : Nat → Nat} {gE : z_S} (C : z_X F (layX kn) (nX kn) ad cX2_countUsesOf RX2 7 none 2 48 none gE) : ∀ (n : Nat) (v1 : Int32) (v2 : Int32) (v3 : Int32) (v4 : Int32) (v5 : Int32) (g : z_S), z_loop fX2_countUsesOf_B18 n (v1, v2, v3, v4, v5) g = some ((), gE) → z_W F (layX kn) (nX kn) ad 18 [(0, .ref (ad 26)), (1, .int v1), (2, .int v2), (3, .int v3), (4, .int v4), (5, .int v5)] [] g := by
  intro n
  induction n with
  | zero =>
    intro v1 v2 v3 v4 v5 g h
    exact (z_loop_0 h).elim
  | succ n ih =>
    intro v1 v2 v3 v4 v5 g h
    replace h := z_loop_S h
    simp only [fX2_countUsesOf_B18] at h
    refine z_iload C dX2_countUsesOf_18 5 rfl ?_
    refine z_bipush C dX2_countUsesOf_20 zcb_24 ?_
    refine z_icmp_ge 106 C dX2_countUsesOf_22 rfl (fun hc => ?_) (fun hc => ?_)
    · replace h := z_it hc h
      exact z_vret C rfl (z_ret2 h) dX2_countUsesOf_106
    · replace h := z_if hc h
      refine z_iload C dX2_countUsesOf_25 4 rfl ?_
      refine z_iload_n C dX2_countUsesOf_27 rfl 2 rfl ?_
      refine z_icmp_ge 106 C dX2_countUsesOf_28 rfl (fun hc => ?_) (fun hc => ?_)
      · replace h := z_it hc h
        exact z_vret C rfl (z_ret2 h) dX2_countUsesOf_106
      · replace h := z_if hc h
        refine z_aload_n C dX2_countUsesOf_31 rfl 0 rfl ?_
        refine z_iload_n C dX2_countUsesOf_32 rfl 1 rfl ?_
        refine z_iload C dX2_countUsesOf_33 4 rfl ?_
        refine z_iload_n C dX2_countUsesOf_35 rfl 3 rfl ?_
        obtain ⟨r36, g36, hq36, h⟩ := z_b_some h
        refine z_callVi [] C zc_X2_116 (zk_X_26 kn) rfl (by decide) (Nat.le_of_ble_eq_true rfl) dX2_countUsesOf_36 rfl (wX2_firstWordOfLeast kn ad v1 v4 v3 g r36 g36 hq36) ?_
        refine z_istore C dX2_countUsesOf_39 (by decide) [(6, .int r36), (0, .ref (ad 26)), (1, .int v1), (2, .int v2), (3, .int v3), (4, .int v4), (5, .int v5)] rfl ?_
        refine z_iload C dX2_countUsesOf_41 0 rfl ?_
        refine z_iconst C dX2_countUsesOf_43 zci_m1 ?_
        refine z_icmp_ne 63 C dX2_countUsesOf_44 rfl (fun hc => ?_) (fun hc => ?_)
        · replace h := z_it hc h
          refine z_aload_n C dX2_countUsesOf_47 rfl 1 rfl ?_
          refine z_dup C dX2_countUsesOf_48 rfl ?_
          refine z_geti C zf_X2_110 (zo_X_26_2 kn) dX2_countUsesOf_49 ?_
          refine z_iconst C dX2_countUsesOf_52 zci_1 ?_
          refine z_iadd C dX2_countUsesOf_53 ?_
          obtain ⟨g54, eg54, h⟩ := z_s_some h
          refine z_puti C zp_X2_110 (zo_X_26_2 kn) rfl rfl dX2_countUsesOf_54 ?_
          refine z_gw eg54 ?_
          refine z_iinc C dX2_countUsesOf_57 (by decide) 5 rfl (z_incl zci_1) [(4, .int (v4 + 1)), (6, .int r36), (0, .ref (ad 26)), (1, .int v1), (2, .int v2), (3, .int v3), (5, .int v5)] rfl ?_
          refine z_goto 100 C dX2_countUsesOf_60 rfl ?_
          refine z_iinc C dX2_countUsesOf_100 (by decide) 6 rfl (z_incl zci_1) [(5, .int (v5 + 1)), (4, .int (v4 + 1)), (6, .int r36), (0, .ref (ad 26)), (1, .int v1), (2, .int v2), (3, .int v3)] rfl ?_
          refine z_goto 18 C dX2_countUsesOf_103 rfl ?_
          refine z_loc [3, 4, 5, 6, 1, 0] rfl ?_
          exact ih v1 v2 v3 (v4 + 1) (v5 + 1) g54 h
        · replace h := z_if hc h
          refine z_aload_n C dX2_countUsesOf_63 rfl 1 rfl ?_
          refine z_getr C zf_X2_9 (zo_X_26_1 kn) dX2_countUsesOf_64 ?_
          refine z_iload C dX2_countUsesOf_67 0 rfl ?_
          refine z_dup2 C dX2_countUsesOf_69 rfl rfl ?_
          obtain ⟨hi70, h⟩ := z_g_some h
          refine z_iald C (za_X_27 kn) (z_in_vp hi70) dX2_countUsesOf_70 ?_
          refine z_iconst C dX2_countUsesOf_71 zci_1 ?_
          refine z_iadd C dX2_countUsesOf_72 ?_
          obtain ⟨hi73, h⟩ := z_g_some h
          obtain ⟨g73, eg73, h⟩ := z_s_some h
          refine z_iast C (za_X_27 kn) (z_in_vp hi73) dX2_countUsesOf_73 ?_
          refine z_gw eg73 ?_
          refine z_iload C dX2_countUsesOf_74 5 rfl ?_
          refine z_aload_n C dX2_countUsesOf_76 rfl 1 rfl ?_
          refine z_getr C zf_X2_40 (zo_X_26_6 kn) dX2_countUsesOf_77 ?_
          refine z_getr C zf_X2_107 (zo_X_4_2 kn) dX2_countUsesOf_80 ?_
          refine z_iload C dX2_countUsesOf_83 0 rfl ?_
          obtain ⟨hi85, h⟩ := z_g_some h
          refine z_iald C (za_X_6 kn) (z_in_vp hi85) dX2_countUsesOf_85 ?_
          refine z_iadd C dX2_countUsesOf_86 ?_
          refine z_istore C dX2_countUsesOf_87 (by decide) [(4, .int (v4 + (g73.1 6 (r36).toNatClampNeg))), (6, .int r36), (0, .ref (ad 26)), (1, .int v1), (2, .int v2), (3, .int v3), (5, .int v5)] rfl ?_
          refine z_aload_n C dX2_countUsesOf_89 rfl 2 rfl ?_
          refine z_getr C zf_X2_40 (zo_X_26_6 kn) dX2_countUsesOf_90 ?_
          refine z_getr C zf_X2_77 (zo_X_4_4 kn) dX2_countUsesOf_93 ?_
          refine z_iload C dX2_countUsesOf_96 1 rfl ?_
          obtain ⟨hi98, h⟩ := z_g_some h
          refine z_iald C (za_X_8 kn) (z_in_vp hi98) dX2_countUsesOf_98 ?_
          refine z_istore_n C dX2_countUsesOf_99 rfl (by decide) [(3, .int (g73.1 8 (r36).toNatClampNeg)), (4, .int (v4 + (g73.1 6 (r36).toNatClampNeg))), (6, .int r36), (0, .ref (ad 26)), (1, .int v1), (2, .int v2), (5, .int v5)] rfl ?_
          refine z_iinc C dX2_countUsesOf_100 (by decide) 6 rfl (z_incl zci_1) [(5, .int (v5 + 1)), (3, .int (g73.1 8 (r36).toNatClampNeg)), (4, .int (v4 + (g73.1 6 (r36).toNatClampNeg))), (6, .int r36), (0, .ref (ad 26)), (1, .int v1), (2, .int v2)] rfl ?_
          refine z_goto 18 C dX2_countUsesOf_103 rfl ?_
          refine z_loc [4, 5, 6, 1, 2, 0] rfl ?_
          exact ih v1 v2 (g73.1 8 (r36).toNatClampNeg) (v4 + (g73.1 6 (r36).toNatClampNeg)) (v5 + 1) g73 h
set_option maxRecDepth 100000 in
set_option maxHeartbeats 4000000 in
theorem wX2_countUsesOf (kn : Bool) (ad : Nat → Nat) (v1 : Int32) (g : z_S) (gE : z_S) (h : fX2_countUsesOf v1 g = some ((), gE)) : z_M yX2_countUsesOf cX2_countUsesOf 7 none 2 48 (layX kn) (nX kn) ad [.ref (ad 26), .int v1] g none gE := by
  refine z_enter (by decide) (Nat.le_of_ble_eq_true rfl) (fun F C => ?_)
  replace C : z_X F (layX kn) (nX kn) ad cX2_countUsesOf RX2 7 none 2 48 none gE := C
  show z_W F (layX kn) (nX kn) ad 0 [(0, .ref (ad 26)), (1, .int v1)] [] g
  unfold fX2_countUsesOf at h
  refine z_aload_n C dX2_countUsesOf_0 rfl 0 rfl ?_
  refine z_getr C zf_X2_21 (zo_X_26_8 kn) dX2_countUsesOf_1 ?_
  refine z_iload_n C dX2_countUsesOf_4 rfl 1 rfl ?_
  obtain ⟨hi5, h⟩ := z_g_some h
  refine z_aald C (zh_N kn) (zh_lay kn) (z_held hi5) (z_in_vp hi5) dX2_countUsesOf_5 ?_
  obtain ⟨hb6, h⟩ := z_g_some h
  refine z_geti C zf_X2_54 (zo_Xh_1 kn hb6) dX2_countUsesOf_6 ?_
  refine z_istore_n C dX2_countUsesOf_9 rfl (by decide) [(2, .int (g.1 (34 + 2 * (v1).toNatClampNeg) 1)), (0, .ref (ad 26)), (1, .int v1)] rfl ?_
  refine z_iconst C dX2_countUsesOf_10 zci_4 ?_
  refine z_istore_n C dX2_countUsesOf_11 rfl (by decide) [(3, .int 4), (2, .int (g.1 (34 + 2 * (v1).toNatClampNeg) 1)), (0, .ref (ad 26)), (1, .int v1)] rfl ?_
  refine z_iconst C dX2_countUsesOf_12 zci_0 ?_
  refine z_istore C dX2_countUsesOf_13 (by decide) [(4, .int 0), (3, .int 4), (2, .int (g.1 (34 + 2 * (v1).toNatClampNeg) 1)), (0, .ref (ad 26)), (1, .int v1)] rfl ?_
  refine z_iconst C dX2_countUsesOf_15 zci_0 ?_
  refine z_istore C dX2_countUsesOf_16 (by decide) [(5, .int 0), (4, .int 0), (3, .int 4), (2, .int (g.1 (34 + 2 * (v1).toNatClampNeg) 1)), (0, .ref (ad 26)), (1, .int v1)] rfl ?_
  refine z_loc [4, 5, 3, 2, 1, 0] rfl ?_
  refine wX2_countUsesOf_L18 C  zN v1 (g.1 (34 + 2 * (v1).toNatClampNeg) 1) 4 0 0 g h
set_option maxRecDepth 100000 in
set_option maxHeartbeats 4000000 in
theorem wX2_countUses_L7 {kn : Bool} {F : z_F} {ad : Nat → Nat} {gE : z_S} (C : z_X F (layX kn) (nX kn) ad cX2_countUses RX2 2 none 3 74 none gE) (k26 : z_S → Option (Unit × z_S)) (hk26 : ∀ (g : z_S), k26 g = some ((), gE) → z_W F (layX kn) (nX kn) ad 26 [(0, .ref (ad 26))] [] g) : ∀ (n : Nat) (v1 : Int32) (g : z_S), z_loop (fX2_countUses_B7 k26) n v1 g = some ((), gE) → z_W F (layX kn) (nX kn) ad 7 [(0, .ref (ad 26)), (1, .int v1)] [] g := by
  intro n
  induction n with
  | zero =>
    intro v1 g h
    exact (z_loop_0 h).elim
  | succ n ih =>
    intro v1 g h
    replace h := z_loop_S h
    simp only [fX2_countUses_B7] at h
    refine z_iload_n C dX2_countUses_7 rfl 1 rfl ?_
    refine z_bipush C dX2_countUses_8 zcb_16 ?_
    refine z_icmp_ge 26 C dX2_countUses_10 rfl (fun hc => ?_) (fun hc => ?_)
    · replace h := z_it hc h
      refine z_loc [0] rfl ?_
      exact hk26 g h
    · replace h := z_if hc h
      refine z_aload_n C dX2_countUses_13 rfl 0 rfl ?_
      refine z_getr C zf_X2_9 (zo_X_26_1 kn) dX2_countUses_14 ?_
      refine z_iload_n C dX2_countUses_17 rfl 1 rfl ?_
      refine z_iconst C dX2_countUses_18 zci_0 ?_
      obtain ⟨hi19, h⟩ := z_g_some h
      obtain ⟨g19, eg19, h⟩ := z_s_some h
      refine z_iast C (za_X_27 kn) (z_in_vp hi19) dX2_countUses_19 ?_
      refine z_gw eg19 ?_
      refine z_iinc C dX2_countUses_20 (by decide) 1 rfl (z_incl zci_1) [(1, .int (v1 + 1)), (0, .ref (ad 26))] rfl ?_
      refine z_goto 7 C dX2_countUses_23 rfl ?_
      refine z_loc [1, 0] rfl ?_
      exact ih (v1 + 1) g19 h
set_option maxRecDepth 100000 in
set_option maxHeartbeats 4000000 in
theorem wX2_countUses_L28 {kn : Bool} {F : z_F} {ad : Nat → Nat} {gE : z_S} (C : z_X F (layX kn) (nX kn) ad cX2_countUses RX2 2 none 3 74 none gE) : ∀ (n : Nat) (v1 : Int32) (g : z_S), z_loop fX2_countUses_B28 n v1 g = some ((), gE) → z_W F (layX kn) (nX kn) ad 28 [(0, .ref (ad 26)), (1, .int v1)] [] g := by
  intro n
  induction n with
  | zero =>
    intro v1 g h
    exact (z_loop_0 h).elim
  | succ n ih =>
    intro v1 g h
    replace h := z_loop_S h
    simp only [fX2_countUses_B28] at h
    refine z_iload_n C dX2_countUses_28 rfl 1 rfl ?_
    refine z_aload_n C dX2_countUses_29 rfl 0 rfl ?_
    refine z_geti C zf_X2_51 (zo_X_26_0 kn) dX2_countUses_30 ?_
    refine z_icmp_ge 53 C dX2_countUses_33 rfl (fun hc => ?_) (fun hc => ?_)
    · replace h := z_it hc h
      exact z_vret C rfl (z_ret2 h) dX2_countUses_53
    · replace h := z_if hc h
      refine z_aload_n C dX2_countUses_36 rfl 0 rfl ?_
      refine z_iload_n C dX2_countUses_37 rfl 1 rfl ?_
      obtain ⟨r38, g38, hq38, h⟩ := z_b_some h
      refine z_callVi [] C zc_X2_67 (zk_X_26 kn) rfl (by decide) (Nat.le_of_ble_eq_true rfl) dX2_countUses_38 rfl (wX2_measure kn ad v1 g r38 g38 hq38) ?_
      refine z_pop C dX2_countUses_41 rfl ?_
      refine z_aload_n C dX2_countUses_42 rfl 0 rfl ?_
      refine z_iload_n C dX2_countUses_43 rfl 1 rfl ?_
      obtain ⟨r44, g44, hq44, h⟩ := z_b_some h
      refine z_callVv [] C zc_X2_113 (zk_X_26 kn) rfl (by decide) (Nat.le_of_ble_eq_true rfl) dX2_countUses_44 rfl (wX2_countUsesOf kn ad v1 g38 g44 hq44) ?_
      refine z_iinc C dX2_countUses_47 (by decide) 1 rfl (z_incl zci_1) [(1, .int (v1 + 1)), (0, .ref (ad 26))] rfl ?_
      refine z_goto 28 C dX2_countUses_50 rfl ?_
      refine z_loc [1, 0] rfl ?_
      exact ih (v1 + 1) g44 h
set_option maxRecDepth 100000 in
set_option maxHeartbeats 4000000 in
theorem wX2_countUses (kn : Bool) (ad : Nat → Nat) (g : z_S) (gE : z_S) (h : fX2_countUses g = some ((), gE)) : z_M yX2_countUses cX2_countUses 2 none 3 74 (layX kn) (nX kn) ad [.ref (ad 26)] g none gE := by
  refine z_enter (by decide) (Nat.le_of_ble_eq_true rfl) (fun F C => ?_)
  replace C : z_X F (layX kn) (nX kn) ad cX2_countUses RX2 2 none 3 74 none gE := C
  show z_W F (layX kn) (nX kn) ad 0 [(0, .ref (ad 26))] [] g
  unfold fX2_countUses at h
  refine z_aload_n C dX2_countUses_0 rfl 0 rfl ?_
  refine z_iconst C dX2_countUses_1 zci_0 ?_
  obtain ⟨g2, eg2, h⟩ := z_s_some h
  refine z_puti C zp_X2_110 (zo_X_26_2 kn) rfl rfl dX2_countUses_2 ?_
  refine z_gw eg2 ?_
  refine z_iconst C dX2_countUses_5 zci_0 ?_
  refine z_istore_n C dX2_countUses_6 rfl (by decide) [(1, .int 0), (0, .ref (ad 26))] rfl ?_
  refine z_loc [1, 0] rfl ?_
  refine wX2_countUses_L7 C _ ?_ zN 0 g2 h
  · intro g h
    refine z_iconst C dX2_countUses_26 zci_0 ?_
    refine z_istore_n C dX2_countUses_27 rfl (by decide) [(1, .int 0), (0, .ref (ad 26))] rfl ?_
    refine z_loc [1, 0] rfl ?_
    refine wX2_countUses_L28 C  zN 0 g h
set_option maxRecDepth 100000 in
set_option maxHeartbeats 4000000 in
theorem wX10_uses_J20 {kn : Bool} {F : z_F} {ad : Nat → Nat} {r : Int32} {gE : z_S} (C : z_X F (layX kn) (nX kn) ad cX10_uses RX10 2 (some .int) 4 95 (some (.int r)) gE) (v1 : Int32) (g : z_S) (h : fX10_uses_J20 v1 g = some (r, gE)) : z_W F (layX kn) (nX kn) ad 20 [(0, .ref (ad 0)), (1, .int v1)] [] g := by
  unfold fX10_uses_J20 at h
  refine z_aload_n C dX10_uses_20 rfl 0 rfl ?_
  refine z_getr C zf_X10_65 (zo_X_0_7 kn) dX10_uses_21 ?_
  obtain ⟨r24, g24, hq24, h⟩ := z_b_some h
  refine z_callVv [] C zc_X10_203 (zk_X_26 kn) rfl (by decide) (Nat.le_of_ble_eq_true rfl) dX10_uses_24 rfl (wX2_match kn ad g g24 hq24) ?_
  refine z_aload_n C dX10_uses_27 rfl 0 rfl ?_
  refine z_getr C zf_X10_65 (zo_X_0_7 kn) dX10_uses_28 ?_
  obtain ⟨r31, g31, hq31, h⟩ := z_b_some h
  refine z_callVv [] C zc_X10_209 (zk_X_26 kn) rfl (by decide) (Nat.le_of_ble_eq_true rfl) dX10_uses_31 rfl (wX2_countUses kn ad g24 g31 hq31) ?_
  refine z_iload_n C dX10_uses_34 rfl 1 rfl ?_
  refine z_iconst C dX10_uses_35 zci_m1 ?_
  refine z_icmp_ne 49 C dX10_uses_36 rfl (fun hc => ?_) (fun hc => ?_)
  · replace h := z_it hc h
    refine z_aload_n C dX10_uses_39 rfl 0 rfl ?_
    refine z_getr C zf_X10_65 (zo_X_0_7 kn) dX10_uses_40 ?_
    refine z_geti C zf_X10_212 (zo_X_26_2 kn) dX10_uses_43 ?_
    refine z_goto 58 C dX10_uses_46 rfl ?_
    exact z_iret C (z_ret1i h) (z_ret2 h) dX10_uses_58
  · replace h := z_if hc h
    refine z_aload_n C dX10_uses_49 rfl 0 rfl ?_
    refine z_getr C zf_X10_65 (zo_X_0_7 kn) dX10_uses_50 ?_
    refine z_getr C zf_X10_215 (zo_X_26_1 kn) dX10_uses_53 ?_
    refine z_iload_n C dX10_uses_56 rfl 1 rfl ?_
    obtain ⟨hi57, h⟩ := z_g_some h
    refine z_iald C (za_X_27 kn) (z_in_vp hi57) dX10_uses_57 ?_
    exact z_iret C (z_ret1i h) (z_ret2 h) dX10_uses_58
set_option maxRecDepth 100000 in
set_option maxHeartbeats 4000000 in
theorem wX10_uses (kn : Bool) (ad : Nat → Nat) (v1 : Int32) (g : z_S) (r : Int32) (gE : z_S) (h : fX10_uses v1 g = some (r, gE)) : z_M yX10_uses cX10_uses 2 (some .int) 4 95 (layX kn) (nX kn) ad [.ref (ad 0), .int v1] g (some (.int r)) gE := by
  refine z_enter (by decide) (Nat.le_of_ble_eq_true rfl) (fun F C => ?_)
  replace C : z_X F (layX kn) (nX kn) ad cX10_uses RX10 2 (some .int) 4 95 (some (.int r)) gE := C
  show z_W F (layX kn) (nX kn) ad 0 [(0, .ref (ad 0)), (1, .int v1)] [] g
  unfold fX10_uses at h
  refine z_iload_n C dX10_uses_0 rfl 1 rfl ?_
  refine z_iconst C dX10_uses_1 zci_m1 ?_
  refine z_icmp_eq 20 C dX10_uses_2 rfl (fun hc => ?_) (fun hc => ?_)
  · replace h := z_it hc h
    exact wX10_uses_J20 C v1 g h
  · replace h := z_if hc h
    refine z_aload_n C dX10_uses_5 rfl 0 rfl ?_
    refine z_getr C zf_X10_19 (zo_X_0_1 kn) dX10_uses_6 ?_
    refine z_iload_n C dX10_uses_9 rfl 1 rfl ?_
    obtain ⟨r10, g10, hq10, h⟩ := z_b_some h
    refine z_callVi [] C zc_X10_114 (zk_X_4 kn) rfl (by decide) (Nat.le_of_ble_eq_true rfl) dX10_uses_10 rfl (wX9_has_4 kn ad v1 g r10 g10 hq10) ?_
    refine z_if_ne 20 C dX10_uses_13 rfl (fun hc => ?_) (fun hc => ?_)
    · replace h := z_it hc h
      refine z_sipush C dX10_uses_16 zcs_m1001 ?_
      exact z_iret C (z_ret1i h) (z_ret2 h) dX10_uses_19
    · replace h := z_if hc h
      exact wX10_uses_J20 C v1 g10 h
set_option maxRecDepth 100000 in
set_option maxHeartbeats 4000000 in
theorem wX2_rankCosts_L20 {kn : Bool} {F : z_F} {ad : Nat → Nat} {r : Int32} {gE : z_S} (C : z_X F (layX kn) (nX kn) ad cX2_rankCosts RX2 5 (some .boolean) 0 0 (some (.int r)) gE) (k57 : Int32 → Int32 → Int32 → z_S → Option (Int32 × z_S)) (hk57 : ∀ (v1 : Int32) (v2 : Int32) (v3 : Int32) (g : z_S), k57 v1 v2 v3 g = some (r, gE) → z_W F (layX kn) (nX kn) ad 57 [(0, .ref (ad 26)), (1, .int v1), (2, .int v2), (3, .int v3)] [] g) : ∀ (n : Nat) (v1 : Int32) (v2 : Int32) (v3 : Int32) (v4 : Int32) (g : z_S), z_loop (fX2_rankCosts_B20 k57) n (v1, v2, v3, v4) g = some (r, gE) → z_W F (layX kn) (nX kn) ad 20 [(0, .ref (ad 26)), (1, .int v1), (2, .int v2), (3, .int v3), (4, .int v4)] [] g := by
  intro n
  induction n with
  | zero =>
    intro v1 v2 v3 v4 g h
    exact (z_loop_0 h).elim
  | succ n ih =>
    intro v1 v2 v3 v4 g h
    replace h := z_loop_S h
    simp only [fX2_rankCosts_B20] at h
    refine z_iload C dX2_rankCosts_20 4 rfl ?_
    refine z_aload_n C dX2_rankCosts_22 rfl 0 rfl ?_
    refine z_getr C zf_X2_40 (zo_X_26_6 kn) dX2_rankCosts_23 ?_
    refine z_geti C zf_X2_76 (zo_X_4_0 kn) dX2_rankCosts_26 ?_
    refine z_icmp_ge 57 C dX2_rankCosts_29 rfl (fun hc => ?_) (fun hc => ?_)
    · replace h := z_it hc h
      refine z_loc [0, 1, 2, 3] rfl ?_
      exact hk57 v1 v2 v3 g h
    · replace h := z_if hc h
      refine z_aload_n C dX2_rankCosts_32 rfl 0 rfl ?_
      refine z_getr C zf_X2_9 (zo_X_26_1 kn) dX2_rankCosts_33 ?_
      refine z_iload C dX2_rankCosts_36 4 rfl ?_
      obtain ⟨hi38, h⟩ := z_g_some h
      refine z_iald C (za_X_27 kn) (z_in_vp hi38) dX2_rankCosts_38 ?_
      refine z_aload_n C dX2_rankCosts_39 rfl 0 rfl ?_
      refine z_getr C zf_X2_9 (zo_X_26_1 kn) dX2_rankCosts_40 ?_
      refine z_iload_n C dX2_rankCosts_43 rfl 2 rfl ?_
      obtain ⟨hi44, h⟩ := z_g_some h
      refine z_iald C (za_X_27 kn) (z_in_vp hi44) dX2_rankCosts_44 ?_
      refine z_icmp_le 51 C dX2_rankCosts_45 rfl (fun hc => ?_) (fun hc => ?_)
      · replace h := z_it hc h
        refine z_iinc C dX2_rankCosts_51 (by decide) 4 rfl (z_incl zci_1) [(4, .int (v4 + 1)), (0, .ref (ad 26)), (1, .int v1), (2, .int v2), (3, .int v3)] rfl ?_
        refine z_goto 20 C dX2_rankCosts_54 rfl ?_
        refine z_loc [1, 2, 3, 4, 0] rfl ?_
        exact ih v1 v2 v3 (v4 + 1) g h
      · replace h := z_if hc h
        refine z_iinc C dX2_rankCosts_48 (by decide) 3 rfl (z_incl zci_1) [(3, .int (v3 + 1)), (0, .ref (ad 26)), (1, .int v1), (2, .int v2), (4, .int v4)] rfl ?_
        refine z_iinc C dX2_rankCosts_51 (by decide) 4 rfl (z_incl zci_1) [(4, .int (v4 + 1)), (3, .int (v3 + 1)), (0, .ref (ad 26)), (1, .int v1), (2, .int v2)] rfl ?_
        refine z_goto 20 C dX2_rankCosts_54 rfl ?_
        refine z_loc [2, 3, 4, 1, 0] rfl ?_
        exact ih v1 v2 (v3 + 1) (v4 + 1) g h
set_option maxRecDepth 100000 in
set_option maxHeartbeats 4000000 in
theorem wX2_rankCosts_L4 {kn : Bool} {F : z_F} {ad : Nat → Nat} {r : Int32} {gE : z_S} (C : z_X F (layX kn) (nX kn) ad cX2_rankCosts RX2 5 (some .boolean) 0 0 (some (.int r)) gE) : ∀ (n : Nat) (v1 : Int32) (v2 : Int32) (g : z_S), z_loop fX2_rankCosts_B4 n (v1, v2) g = some (r, gE) → z_W F (layX kn) (nX kn) ad 4 [(0, .ref (ad 26)), (1, .int v1), (2, .int v2)] [] g := by
  intro n
  induction n with
  | zero =>
    intro v1 v2 g h
    exact (z_loop_0 h).elim
  | succ n ih =>
    intro v1 v2 g h
    replace h := z_loop_S h
    simp only [fX2_rankCosts_B4] at h
    refine z_iload_n C dX2_rankCosts_4 rfl 2 rfl ?_
    refine z_aload_n C dX2_rankCosts_5 rfl 0 rfl ?_
    refine z_getr C zf_X2_40 (zo_X_26_6 kn) dX2_rankCosts_6 ?_
    refine z_geti C zf_X2_76 (zo_X_4_0 kn) dX2_rankCosts_9 ?_
    refine z_icmp_ge 88 C dX2_rankCosts_12 rfl (fun hc => ?_) (fun hc => ?_)
    · replace h := z_it hc h
      refine z_iload_n C dX2_rankCosts_88 rfl 1 rfl ?_
      obtain ⟨hz, h⟩ := z_g_some h
      exact z_zret C (eq_of_beq hz) (z_ret1i h) (z_ret2 h) dX2_rankCosts_89
    · replace h := z_if hc h
      refine z_iconst C dX2_rankCosts_15 zci_1 ?_
      refine z_istore_n C dX2_rankCosts_16 rfl (by decide) [(3, .int 1), (0, .ref (ad 26)), (1, .int v1), (2, .int v2)] rfl ?_
      refine z_iconst C dX2_rankCosts_17 zci_0 ?_
      refine z_istore C dX2_rankCosts_18 (by decide) [(4, .int 0), (3, .int 1), (0, .ref (ad 26)), (1, .int v1), (2, .int v2)] rfl ?_
      refine z_loc [2, 3, 4, 1, 0] rfl ?_
      refine wX2_rankCosts_L20 C _ ?_ zN v1 v2 1 0 g h
      · intro v1 v2 v3 g h
        refine z_aload_n C dX2_rankCosts_57 rfl 0 rfl ?_
        refine z_getr C zf_X2_40 (zo_X_26_6 kn) dX2_rankCosts_58 ?_
        refine z_getr C zf_X2_104 (zo_X_4_3 kn) dX2_rankCosts_61 ?_
        refine z_iload_n C dX2_rankCosts_64 rfl 2 rfl ?_
        obtain ⟨hi65, h⟩ := z_g_some h
        refine z_iald C (za_X_7 kn) (z_in_vp hi65) dX2_rankCosts_65 ?_
        refine z_iload_n C dX2_rankCosts_66 rfl 3 rfl ?_
        refine z_icmp_eq 82 C dX2_rankCosts_67 rfl (fun hc => ?_) (fun hc => ?_)
        · replace h := z_it hc h
          refine z_iinc C dX2_rankCosts_82 (by decide) 2 rfl (z_incl zci_1) [(2, .int (v2 + 1)), (0, .ref (ad 26)), (1, .int v1), (3, .int v3)] rfl ?_
          refine z_goto 4 C dX2_rankCosts_85 rfl ?_
          refine z_loc [1, 2, 0] rfl ?_
          exact ih v1 (v2 + 1) g h
        · replace h := z_if hc h
          refine z_aload_n C dX2_rankCosts_70 rfl 0 rfl ?_
          refine z_getr C zf_X2_40 (zo_X_26_6 kn) dX2_rankCosts_71 ?_
          refine z_getr C zf_X2_104 (zo_X_4_3 kn) dX2_rankCosts_74 ?_
          refine z_iload_n C dX2_rankCosts_77 rfl 2 rfl ?_
          refine z_iload_n C dX2_rankCosts_78 rfl 3 rfl ?_
          obtain ⟨hi79, h⟩ := z_g_some h
          obtain ⟨g79, eg79, h⟩ := z_s_some h
          refine z_iast C (za_X_7 kn) (z_in_vp hi79) dX2_rankCosts_79 ?_
          refine z_gw eg79 ?_
          refine z_iconst C dX2_rankCosts_80 zci_1 ?_
          refine z_istore_n C dX2_rankCosts_81 rfl (by decide) [(1, .int 1), (0, .ref (ad 26)), (2, .int v2), (3, .int v3)] rfl ?_
          refine z_iinc C dX2_rankCosts_82 (by decide) 2 rfl (z_incl zci_1) [(2, .int (v2 + 1)), (1, .int 1), (0, .ref (ad 26)), (3, .int v3)] rfl ?_
          refine z_goto 4 C dX2_rankCosts_85 rfl ?_
          refine z_loc [2, 1, 0] rfl ?_
          exact ih 1 (v2 + 1) g79 h
set_option maxRecDepth 100000 in
set_option maxHeartbeats 4000000 in
theorem wX2_rankCosts (kn : Bool) (ad : Nat → Nat) (g : z_S) (r : Int32) (gE : z_S) (h : fX2_rankCosts g = some (r, gE)) : z_M yX2_rankCosts cX2_rankCosts 5 (some .boolean) 0 0 (layX kn) (nX kn) ad [.ref (ad 26)] g (some (.int r)) gE := by
  refine z_enter (by decide) (Nat.le_of_ble_eq_true rfl) (fun F C => ?_)
  replace C : z_X F (layX kn) (nX kn) ad cX2_rankCosts RX2 5 (some .boolean) 0 0 (some (.int r)) gE := C
  show z_W F (layX kn) (nX kn) ad 0 [(0, .ref (ad 26))] [] g
  unfold fX2_rankCosts at h
  refine z_iconst C dX2_rankCosts_0 zci_0 ?_
  refine z_istore_n C dX2_rankCosts_1 rfl (by decide) [(1, .int 0), (0, .ref (ad 26))] rfl ?_
  refine z_iconst C dX2_rankCosts_2 zci_0 ?_
  refine z_istore_n C dX2_rankCosts_3 rfl (by decide) [(2, .int 0), (1, .int 0), (0, .ref (ad 26))] rfl ?_
  refine z_loc [2, 1, 0] rfl ?_
  refine wX2_rankCosts_L4 C  zN 0 0 g h
set_option maxRecDepth 100000 in
set_option maxHeartbeats 4000000 in
theorem wX10_learn_L28 {kn : Bool} {F : z_F} {ad : Nat → Nat} {r : Int32} {gE : z_S} (C : z_X F (layX kn) (nX kn) ad cX10_learn RX10 3 (some .int) 4 95 (some (.int r)) gE) : ∀ (n : Nat) (v1 : Int32) (v2 : Int32) (g : z_S), z_loop fX10_learn_B28 n (v1, v2) g = some (r, gE) → z_W F (layX kn) (nX kn) ad 28 [(0, .ref (ad 0)), (1, .int v1), (2, .int v2)] [] g := by
  intro n
  induction n with
  | zero =>
    intro v1 v2 g h
    exact (z_loop_0 h).elim
  | succ n ih =>
    intro v1 v2 g h
    replace h := z_loop_S h
    simp only [fX10_learn_B28] at h
    refine z_iload_n C dX10_learn_28 rfl 2 rfl ?_
    refine z_iload_n C dX10_learn_29 rfl 1 rfl ?_
    refine z_icmp_ge 58 C dX10_learn_30 rfl (fun hc => ?_) (fun hc => ?_)
    · replace h := z_it hc h
      refine z_iconst C dX10_learn_58 zci_m1 ?_
      exact z_iret C (z_ret1i h) (z_ret2 h) dX10_learn_59
    · replace h := z_if hc h
      refine z_aload_n C dX10_learn_33 rfl 0 rfl ?_
      refine z_getr C zf_X10_65 (zo_X_0_7 kn) dX10_learn_34 ?_
      obtain ⟨r37, g37, hq37, h⟩ := z_b_some h
      refine z_callVv [] C zc_X10_209 (zk_X_26 kn) rfl (by decide) (Nat.le_of_ble_eq_true rfl) dX10_learn_37 rfl (wX2_countUses kn ad g g37 hq37) ?_
      refine z_aload_n C dX10_learn_40 rfl 0 rfl ?_
      refine z_getr C zf_X10_65 (zo_X_0_7 kn) dX10_learn_41 ?_
      obtain ⟨r44, g44, hq44, h⟩ := z_b_some h
      refine z_callVi [] C zc_X10_218 (zk_X_26 kn) rfl (by decide) (Nat.le_of_ble_eq_true rfl) dX10_learn_44 rfl (wX2_rankCosts kn ad g37 r44 g44 hq44) ?_
      refine z_if_ne 52 C dX10_learn_47 rfl (fun hc => ?_) (fun hc => ?_)
      · replace h := z_it hc h
        refine z_iload_n C dX10_learn_50 rfl 2 rfl ?_
        exact z_iret C (z_ret1i h) (z_ret2 h) dX10_learn_51
      · replace h := z_if hc h
        refine z_iinc C dX10_learn_52 (by decide) 2 rfl (z_incl zci_1) [(2, .int (v2 + 1)), (0, .ref (ad 0)), (1, .int v1)] rfl ?_
        refine z_goto 28 C dX10_learn_55 rfl ?_
        refine z_loc [1, 2, 0] rfl ?_
        exact ih v1 (v2 + 1) g44 h
set_option maxRecDepth 100000 in
set_option maxHeartbeats 4000000 in
theorem wX10_learn (kn : Bool) (ad : Nat → Nat) (v1 : Int32) (g : z_S) (r : Int32) (gE : z_S) (h : fX10_learn v1 g = some (r, gE)) : z_M yX10_learn cX10_learn 3 (some .int) 4 95 (layX kn) (nX kn) ad [.ref (ad 0), .int v1] g (some (.int r)) gE := by
  refine z_enter (by decide) (Nat.le_of_ble_eq_true rfl) (fun F C => ?_)
  replace C : z_X F (layX kn) (nX kn) ad cX10_learn RX10 3 (some .int) 4 95 (some (.int r)) gE := C
  show z_W F (layX kn) (nX kn) ad 0 [(0, .ref (ad 0)), (1, .int v1)] [] g
  unfold fX10_learn at h
  refine z_iload_n C dX10_learn_0 rfl 1 rfl ?_
  refine z_iconst C dX10_learn_1 zci_1 ?_
  refine z_icmp_lt 11 C dX10_learn_2 rfl (fun hc => ?_) (fun hc => ?_)
  · replace h := z_it hc h
    refine z_sipush C dX10_learn_11 zcs_m1002 ?_
    exact z_iret C (z_ret1i h) (z_ret2 h) dX10_learn_14
  · replace h := z_if hc h
    refine z_iload_n C dX10_learn_5 rfl 1 rfl ?_
    refine z_bipush C dX10_learn_6 zcb_20 ?_
    refine z_icmp_le 15 C dX10_learn_8 rfl (fun hc => ?_) (fun hc => ?_)
    · replace h := z_it hc h
      refine z_aload_n C dX10_learn_15 rfl 0 rfl ?_
      obtain ⟨r16, g16, hq16, h⟩ := z_b_some h
      refine z_callVv [] C zc_X10_94 (zk_X_0 kn) rfl (by decide) (Nat.le_of_ble_eq_true rfl) dX10_learn_16 rfl (wX10_forgetFound kn ad g g16 hq16) ?_
      refine z_aload_n C dX10_learn_19 rfl 0 rfl ?_
      refine z_getr C zf_X10_65 (zo_X_0_7 kn) dX10_learn_20 ?_
      obtain ⟨r23, g23, hq23, h⟩ := z_b_some h
      refine z_callVv [] C zc_X10_203 (zk_X_26 kn) rfl (by decide) (Nat.le_of_ble_eq_true rfl) dX10_learn_23 rfl (wX2_match kn ad g16 g23 hq23) ?_
      refine z_iconst C dX10_learn_26 zci_0 ?_
      refine z_istore_n C dX10_learn_27 rfl (by decide) [(2, .int 0), (0, .ref (ad 0)), (1, .int v1)] rfl ?_
      refine z_loc [1, 2, 0] rfl ?_
      refine wX10_learn_L28 C  zN v1 0 g23 h
    · replace h := z_if hc h
      refine z_sipush C dX10_learn_11 zcs_m1002 ?_
      exact z_iret C (z_ret1i h) (z_ret2 h) dX10_learn_14
set_option maxRecDepth 100000 in
set_option maxHeartbeats 4000000 in
theorem wX10_codeOf_hc_L5 {kn : Bool} {F : z_F} {ad : Nat → Nat} {r : Int32} {gE : z_S} (C : z_X F (layX kn) (nX kn) ad cX10_codeOf RX10 5 (some .int) 0 0 (some (.int r)) gE) : ∀ (n : Nat) (v0 : Nat) (v1 : Int32) (v2 : Int32) (v3 : Int32) (v4 : Int32) (g : z_S), z_loop fX10_codeOf_hc_B5 n (v0, v1, v2, v3, v4) g = some (r, gE) → z_W F (layX kn) (nX kn) ad 5 [(0, .ref (ad (35 + 2 * v0))), (1, .int v1), (2, .int v2), (3, .int v3), (4, .int v4)] [] g := by
  intro n
  induction n with
  | zero =>
    intro v0 v1 v2 v3 v4 g h
    exact (z_loop_0 h).elim
  | succ n ih =>
    intro v0 v1 v2 v3 v4 g h
    replace h := z_loop_S h
    simp only [fX10_codeOf_hc_B5] at h
    refine z_iload C dX10_codeOf_5 4 rfl ?_
    refine z_iconst C dX10_codeOf_7 zci_5 ?_
    refine z_icmp_ge 41 C dX10_codeOf_8 rfl (fun hc => ?_) (fun hc => ?_)
    · replace h := z_it hc h
      refine z_iload_n C dX10_codeOf_41 rfl 3 rfl ?_
      exact z_iret C (z_ret1i h) (z_ret2 h) dX10_codeOf_42
    · replace h := z_if hc h
      refine z_iload_n C dX10_codeOf_11 rfl 3 rfl ?_
      refine z_bipush C dX10_codeOf_12 zcb_9 ?_
      refine z_imul C dX10_codeOf_14 ?_
      refine z_iload C dX10_codeOf_15 4 rfl ?_
      refine z_iload_n C dX10_codeOf_17 rfl 2 rfl ?_
      refine z_icmp_ge 32 C dX10_codeOf_18 rfl (fun hc => ?_) (fun hc => ?_)
      · replace h := z_it hc h
        refine z_iconst C dX10_codeOf_32 zci_0 ?_
        refine z_iadd C dX10_codeOf_33 ?_
        refine z_istore_n C dX10_codeOf_34 rfl (by decide) [(3, .int ((v3 * 9) + 0)), (0, .ref (ad (35 + 2 * v0))), (1, .int v1), (2, .int v2), (4, .int v4)] rfl ?_
        refine z_iinc C dX10_codeOf_35 (by decide) 4 rfl (z_incl zci_1) [(4, .int (v4 + 1)), (3, .int ((v3 * 9) + 0)), (0, .ref (ad (35 + 2 * v0))), (1, .int v1), (2, .int v2)] rfl ?_
        refine z_goto 5 C dX10_codeOf_38 rfl ?_
        refine z_loc [2, 3, 4, 1, 0] rfl ?_
        exact ih v0 v1 v2 ((v3 * 9) + 0) (v4 + 1) g h
      · replace h := z_if hc h
        refine z_aload_n C dX10_codeOf_21 rfl 0 rfl ?_
        refine z_iload_n C dX10_codeOf_22 rfl 1 rfl ?_
        refine z_iload C dX10_codeOf_23 4 rfl ?_
        refine z_iadd C dX10_codeOf_25 ?_
        obtain ⟨hb26, h⟩ := z_g_some h
        obtain ⟨hi26, h⟩ := z_g_some h
        refine z_iald C (za_Xh kn hb26) (z_in_vp hi26) dX10_codeOf_26 ?_
        refine z_iconst C dX10_codeOf_27 zci_1 ?_
        refine z_iadd C dX10_codeOf_28 ?_
        refine z_goto 33 C dX10_codeOf_29 rfl ?_
        refine z_iadd C dX10_codeOf_33 ?_
        refine z_istore_n C dX10_codeOf_34 rfl (by decide) [(3, .int ((v3 * 9) + ((g.1 (35 + 2 * v0) (v1 + v4).toNatClampNeg) + 1))), (0, .ref (ad (35 + 2 * v0))), (1, .int v1), (2, .int v2), (4, .int v4)] rfl ?_
        refine z_iinc C dX10_codeOf_35 (by decide) 4 rfl (z_incl zci_1) [(4, .int (v4 + 1)), (3, .int ((v3 * 9) + ((g.1 (35 + 2 * v0) (v1 + v4).toNatClampNeg) + 1))), (0, .ref (ad (35 + 2 * v0))), (1, .int v1), (2, .int v2)] rfl ?_
        refine z_goto 5 C dX10_codeOf_38 rfl ?_
        refine z_loc [2, 3, 4, 1, 0] rfl ?_
        exact ih v0 v1 v2 ((v3 * 9) + ((g.1 (35 + 2 * v0) (v1 + v4).toNatClampNeg) + 1)) (v4 + 1) g h
set_option maxRecDepth 100000 in
set_option maxHeartbeats 4000000 in
theorem wX10_codeOf_hc (kn : Bool) (ad : Nat → Nat) (v0 : Nat) (v1 : Int32) (v2 : Int32) (g : z_S) (r : Int32) (gE : z_S) (hv0 : Nat.blt v0 4 = true) (h : fX10_codeOf_hc v0 v1 v2 g = some (r, gE)) : z_M yX10_codeOf cX10_codeOf 5 (some .int) 0 0 (layX kn) (nX kn) ad [.ref (ad (35 + 2 * v0)), .int v1, .int v2] g (some (.int r)) gE := by
  refine z_enter (by decide) (Nat.le_of_ble_eq_true rfl) (fun F C => ?_)
  replace C : z_X F (layX kn) (nX kn) ad cX10_codeOf RX10 5 (some .int) 0 0 (some (.int r)) gE := C
  show z_W F (layX kn) (nX kn) ad 0 [(0, .ref (ad (35 + 2 * v0))), (1, .int v1), (2, .int v2)] [] g
  unfold fX10_codeOf_hc at h
  refine z_iconst C dX10_codeOf_0 zci_0 ?_
  refine z_istore_n C dX10_codeOf_1 rfl (by decide) [(3, .int 0), (0, .ref (ad (35 + 2 * v0))), (1, .int v1), (2, .int v2)] rfl ?_
  refine z_iconst C dX10_codeOf_2 zci_0 ?_
  refine z_istore C dX10_codeOf_3 (by decide) [(4, .int 0), (3, .int 0), (0, .ref (ad (35 + 2 * v0))), (1, .int v1), (2, .int v2)] rfl ?_
  refine z_loc [2, 3, 4, 1, 0] rfl ?_
  refine wX10_codeOf_hc_L5 C  zN v0 v1 v2 0 0 g h
set_option maxRecDepth 100000 in
set_option maxHeartbeats 4000000 in
theorem wX2_encode_J41 {kn : Bool} {F : z_F} {ad : Nat → Nat} {gE : z_S} (C : z_X F (layX kn) (nX kn) ad cX2_encode RX2 4 none 1 24 none gE) (rc : (Int32 × Int32) → z_S → Option (Unit × z_S)) (hrc : ∀ (v1 : Int32) (v2 : Int32) (g : z_S), rc (v1, v2) g = some ((), gE) → z_W F (layX kn) (nX kn) ad 12 [(0, .ref (ad 26)), (1, .int v1), (2, .int v2)] [] g) (v1 : Int32) (v2 : Int32) (s0 : Int32) (g : z_S) (h : fX2_encode_J41 rc v1 v2 s0 g = some ((), gE)) : z_W F (layX kn) (nX kn) ad 41 [(0, .ref (ad 26)), (1, .int v1), (2, .int v2)] [.int s0] g := by
  unfold fX2_encode_J41 at h
  refine z_istore_n C dX2_encode_41 rfl (by decide) [(3, .int s0), (0, .ref (ad 26)), (1, .int v1), (2, .int v2)] rfl ?_
  refine z_aload_n C dX2_encode_42 rfl 1 rfl ?_
  refine z_getr C zf_X2_28 (zo_X_26_10 kn) dX2_encode_43 ?_
  refine z_iload_n C dX2_encode_46 rfl 2 rfl ?_
  refine z_bipush C dX2_encode_47 zcb_24 ?_
  refine z_imul C dX2_encode_49 ?_
  refine z_iload_n C dX2_encode_50 rfl 3 rfl ?_
  refine z_iadd C dX2_encode_51 ?_
  refine z_iload_n C dX2_encode_52 rfl 0 rfl ?_
  refine z_if_eq 76 C dX2_encode_53 rfl (fun hc => ?_) (fun hc => ?_)
  · replace h := z_it hc h
    refine z_iconst C dX2_encode_76 zci_0 ?_
    obtain ⟨hi77, h⟩ := z_g_some h
    obtain ⟨g77, eg77, h⟩ := z_s_some h
    refine z_iast C (za_X_30 kn) (z_in_vp hi77) dX2_encode_77 ?_
    refine z_gw eg77 ?_
    refine z_iinc C dX2_encode_78 (by decide) 3 rfl (z_incl zci_1) [(2, .int (v2 + 1)), (3, .int s0), (0, .ref (ad 26)), (1, .int v1)] rfl ?_
    refine z_goto 12 C dX2_encode_81 rfl ?_
    refine z_loc [2, 3, 0] rfl ?_
    exact hrc v1 (v2 + 1) g77 h
  · replace h := z_if hc h
    refine z_aload_n C dX2_encode_56 rfl 1 rfl ?_
    refine z_getr C zf_X2_21 (zo_X_26_8 kn) dX2_encode_57 ?_
    refine z_iload_n C dX2_encode_60 rfl 2 rfl ?_
    obtain ⟨hi61, h⟩ := z_g_some h
    refine z_aald C (zh_N kn) (zh_lay kn) (z_held hi61) (z_in_vp hi61) dX2_encode_61 ?_
    obtain ⟨hb62, h⟩ := z_g_some h
    refine z_getr C zf_X2_55 (zo_Xh_0 kn hb62) dX2_encode_62 ?_
    refine z_iload_n C dX2_encode_65 rfl 3 rfl ?_
    refine z_aload_n C dX2_encode_66 rfl 1 rfl ?_
    refine z_geti C zf_X2_92 (zo_X_26_14 kn) dX2_encode_67 ?_
    obtain ⟨hb70, h⟩ := z_g_some h
    obtain ⟨r70, g70, hq70, h⟩ := z_b_some h
    refine z_callNi [.int ((v1 * 24) + v2), .ref (ad 30)] C zc_X2_135 rfl (by decide) (Nat.le_of_ble_eq_true rfl) dX2_encode_70 rfl (wX10_codeOf_hc kn ad ((v1).toNatClampNeg) v2 (g.1 26 14) g r70 g70 hb70 hq70) ?_
    refine z_goto 77 C dX2_encode_73 rfl ?_
    obtain ⟨hi77, h⟩ := z_g_some h
    obtain ⟨g77, eg77, h⟩ := z_s_some h
    refine z_iast C (za_X_30 kn) (z_in_vp hi77) dX2_encode_77 ?_
    refine z_gw eg77 ?_
    refine z_iinc C dX2_encode_78 (by decide) 3 rfl (z_incl zci_1) [(2, .int (v2 + 1)), (3, .int s0), (0, .ref (ad 26)), (1, .int v1)] rfl ?_
    refine z_goto 12 C dX2_encode_81 rfl ?_
    refine z_loc [2, 3, 0] rfl ?_
    exact hrc v1 (v2 + 1) g77 h
set_option maxRecDepth 100000 in
set_option maxHeartbeats 4000000 in
theorem wX2_encode_L12 {kn : Bool} {F : z_F} {ad : Nat → Nat} {gE : z_S} (C : z_X F (layX kn) (nX kn) ad cX2_encode RX2 4 none 1 24 none gE) (k84 : Int32 → z_S → Option (Unit × z_S)) (hk84 : ∀ (v1 : Int32) (g : z_S), k84 v1 g = some ((), gE) → z_W F (layX kn) (nX kn) ad 84 [(0, .ref (ad 26)), (1, .int v1)] [] g) : ∀ (n : Nat) (v1 : Int32) (v2 : Int32) (g : z_S), z_loop (fX2_encode_B12 k84) n (v1, v2) g = some ((), gE) → z_W F (layX kn) (nX kn) ad 12 [(0, .ref (ad 26)), (1, .int v1), (2, .int v2)] [] g := by
  intro n
  induction n with
  | zero =>
    intro v1 v2 g h
    exact (z_loop_0 h).elim
  | succ n ih =>
    intro v1 v2 g h
    replace h := z_loop_S h
    simp only [fX2_encode_B12] at h
    refine z_iload_n C dX2_encode_12 rfl 2 rfl ?_
    refine z_bipush C dX2_encode_13 zcb_24 ?_
    refine z_icmp_ge 84 C dX2_encode_15 rfl (fun hc => ?_) (fun hc => ?_)
    · replace h := z_it hc h
      refine z_loc [0, 1] rfl ?_
      exact hk84 v1 g h
    · replace h := z_if hc h
      refine z_iload_n C dX2_encode_18 rfl 2 rfl ?_
      refine z_aload_n C dX2_encode_19 rfl 0 rfl ?_
      refine z_geti C zf_X2_92 (zo_X_26_14 kn) dX2_encode_20 ?_
      refine z_iadd C dX2_encode_23 ?_
      refine z_aload_n C dX2_encode_24 rfl 0 rfl ?_
      refine z_getr C zf_X2_21 (zo_X_26_8 kn) dX2_encode_25 ?_
      refine z_iload_n C dX2_encode_28 rfl 1 rfl ?_
      obtain ⟨hi29, h⟩ := z_g_some h
      refine z_aald C (zh_N kn) (zh_lay kn) (z_held hi29) (z_in_vp hi29) dX2_encode_29 ?_
      obtain ⟨hb30, h⟩ := z_g_some h
      refine z_geti C zf_X2_54 (zo_Xh_1 kn hb30) dX2_encode_30 ?_
      refine z_icmp_gt 40 C dX2_encode_33 rfl (fun hc => ?_) (fun hc => ?_)
      · replace h := z_it hc h
        refine z_iconst C dX2_encode_40 zci_0 ?_
        exact wX2_encode_J41 C _ (fun v1 v2 g h => ih v1 v2 g h) v1 v2 0 g h
      · replace h := z_if hc h
        refine z_iconst C dX2_encode_36 zci_1 ?_
        refine z_goto 41 C dX2_encode_37 rfl ?_
        exact wX2_encode_J41 C _ (fun v1 v2 g h => ih v1 v2 g h) v1 v2 1 g h
set_option maxRecDepth 100000 in
set_option maxHeartbeats 4000000 in
theorem wX2_encode_L2 {kn : Bool} {F : z_F} {ad : Nat → Nat} {gE : z_S} (C : z_X F (layX kn) (nX kn) ad cX2_encode RX2 4 none 1 24 none gE) : ∀ (n : Nat) (v1 : Int32) (g : z_S), z_loop fX2_encode_B2 n v1 g = some ((), gE) → z_W F (layX kn) (nX kn) ad 2 [(0, .ref (ad 26)), (1, .int v1)] [] g := by
  intro n
  induction n with
  | zero =>
    intro v1 g h
    exact (z_loop_0 h).elim
  | succ n ih =>
    intro v1 g h
    replace h := z_loop_S h
    simp only [fX2_encode_B2] at h
    refine z_iload_n C dX2_encode_2 rfl 1 rfl ?_
    refine z_aload_n C dX2_encode_3 rfl 0 rfl ?_
    refine z_geti C zf_X2_51 (zo_X_26_0 kn) dX2_encode_4 ?_
    refine z_icmp_ge 90 C dX2_encode_7 rfl (fun hc => ?_) (fun hc => ?_)
    · replace h := z_it hc h
      exact z_vret C rfl (z_ret2 h) dX2_encode_90
    · replace h := z_if hc h
      refine z_iconst C dX2_encode_10 zci_0 ?_
      refine z_istore_n C dX2_encode_11 rfl (by decide) [(2, .int 0), (0, .ref (ad 26)), (1, .int v1)] rfl ?_
      refine z_loc [1, 2, 0] rfl ?_
      refine wX2_encode_L12 C _ ?_ zN v1 0 g h
      · intro v1 g h
        refine z_iinc C dX2_encode_84 (by decide) 1 rfl (z_incl zci_1) [(1, .int (v1 + 1)), (0, .ref (ad 26))] rfl ?_
        refine z_goto 2 C dX2_encode_87 rfl ?_
        refine z_loc [1, 0] rfl ?_
        exact ih (v1 + 1) g h
set_option maxRecDepth 100000 in
set_option maxHeartbeats 4000000 in
theorem wX2_encode (kn : Bool) (ad : Nat → Nat) (g : z_S) (gE : z_S) (h : fX2_encode g = some ((), gE)) : z_M yX2_encode cX2_encode 4 none 1 24 (layX kn) (nX kn) ad [.ref (ad 26)] g none gE := by
  refine z_enter (by decide) (Nat.le_of_ble_eq_true rfl) (fun F C => ?_)
  replace C : z_X F (layX kn) (nX kn) ad cX2_encode RX2 4 none 1 24 none gE := C
  show z_W F (layX kn) (nX kn) ad 0 [(0, .ref (ad 26))] [] g
  unfold fX2_encode at h
  refine z_iconst C dX2_encode_0 zci_0 ?_
  refine z_istore_n C dX2_encode_1 rfl (by decide) [(1, .int 0), (0, .ref (ad 26))] rfl ?_
  refine z_loc [1, 0] rfl ?_
  refine wX2_encode_L2 C  zN 0 g h
set_option maxRecDepth 100000 in
set_option maxHeartbeats 4000000 in
theorem wX2_isTriedAhead_L2 {kn : Bool} {F : z_F} {ad : Nat → Nat} {r : Int32} {gE : z_S} (C : z_X F (layX kn) (nX kn) ad cX2_isTriedAhead RX2 3 (some .boolean) 0 0 (some (.int r)) gE) : ∀ (n : Nat) (v1 : Int32) (v2 : Int32) (g : z_S), z_loop fX2_isTriedAhead_B2 n (v1, v2) g = some (r, gE) → z_W F (layX kn) (nX kn) ad 2 [(0, .ref (ad 26)), (1, .int v1), (2, .int v2)] [] g := by
  intro n
  induction n with
  | zero =>
    intro v1 v2 g h
    exact (z_loop_0 h).elim
  | succ n ih =>
    intro v1 v2 g h
    replace h := z_loop_S h
    simp only [fX2_isTriedAhead_B2] at h
    refine z_iload_n C dX2_isTriedAhead_2 rfl 2 rfl ?_
    refine z_iload_n C dX2_isTriedAhead_3 rfl 1 rfl ?_
    refine z_icmp_ge 30 C dX2_isTriedAhead_4 rfl (fun hc => ?_) (fun hc => ?_)
    · replace h := z_it hc h
      refine z_iconst C dX2_isTriedAhead_30 zci_0 ?_
      exact z_zret C (by decide) (z_ret1i h) (z_ret2 h) dX2_isTriedAhead_31
    · replace h := z_if hc h
      refine z_aload_n C dX2_isTriedAhead_7 rfl 0 rfl ?_
      refine z_getr C zf_X2_28 (zo_X_26_10 kn) dX2_isTriedAhead_8 ?_
      refine z_iload_n C dX2_isTriedAhead_11 rfl 2 rfl ?_
      obtain ⟨hi12, h⟩ := z_g_some h
      refine z_iald C (za_X_30 kn) (z_in_vp hi12) dX2_isTriedAhead_12 ?_
      refine z_aload_n C dX2_isTriedAhead_13 rfl 0 rfl ?_
      refine z_getr C zf_X2_28 (zo_X_26_10 kn) dX2_isTriedAhead_14 ?_
      refine z_iload_n C dX2_isTriedAhead_17 rfl 1 rfl ?_
      obtain ⟨hi18, h⟩ := z_g_some h
      refine z_iald C (za_X_30 kn) (z_in_vp hi18) dX2_isTriedAhead_18 ?_
      refine z_icmp_ne 24 C dX2_isTriedAhead_19 rfl (fun hc => ?_) (fun hc => ?_)
      · replace h := z_it hc h
        refine z_iconst C dX2_isTriedAhead_22 zci_1 ?_
        exact z_zret C (by decide) (z_ret1i h) (z_ret2 h) dX2_isTriedAhead_23
      · replace h := z_if hc h
        refine z_iinc C dX2_isTriedAhead_24 (by decide) 2 rfl (z_incl zci_1) [(2, .int (v2 + 1)), (0, .ref (ad 26)), (1, .int v1)] rfl ?_
        refine z_goto 2 C dX2_isTriedAhead_27 rfl ?_
        refine z_loc [1, 2, 0] rfl ?_
        exact ih v1 (v2 + 1) g h
set_option maxRecDepth 100000 in
set_option maxHeartbeats 4000000 in
theorem wX2_isTriedAhead (kn : Bool) (ad : Nat → Nat) (v1 : Int32) (g : z_S) (r : Int32) (gE : z_S) (h : fX2_isTriedAhead v1 g = some (r, gE)) : z_M yX2_isTriedAhead cX2_isTriedAhead 3 (some .boolean) 0 0 (layX kn) (nX kn) ad [.ref (ad 26), .int v1] g (some (.int r)) gE := by
  refine z_enter (by decide) (Nat.le_of_ble_eq_true rfl) (fun F C => ?_)
  replace C : z_X F (layX kn) (nX kn) ad cX2_isTriedAhead RX2 3 (some .boolean) 0 0 (some (.int r)) gE := C
  show z_W F (layX kn) (nX kn) ad 0 [(0, .ref (ad 26)), (1, .int v1)] [] g
  unfold fX2_isTriedAhead at h
  refine z_iconst C dX2_isTriedAhead_0 zci_0 ?_
  refine z_istore_n C dX2_isTriedAhead_1 rfl (by decide) [(2, .int 0), (0, .ref (ad 26)), (1, .int v1)] rfl ?_
  refine z_loc [1, 2, 0] rfl ?_
  refine wX2_isTriedAhead_L2 C  zN v1 0 g h
set_option maxRecDepth 100000 in
set_option maxHeartbeats 4000000 in
theorem wX10_codeOf_5_L5 {kn : Bool} {F : z_F} {ad : Nat → Nat} {r : Int32} {gE : z_S} (C : z_X F (layX kn) (nX kn) ad cX10_codeOf RX10 5 (some .int) 0 0 (some (.int r)) gE) : ∀ (n : Nat) (v1 : Int32) (v2 : Int32) (v3 : Int32) (v4 : Int32) (g : z_S), z_loop fX10_codeOf_5_B5 n (v1, v2, v3, v4) g = some (r, gE) → z_W F (layX kn) (nX kn) ad 5 [(0, .ref (ad 5)), (1, .int v1), (2, .int v2), (3, .int v3), (4, .int v4)] [] g := by
  intro n
  induction n with
  | zero =>
    intro v1 v2 v3 v4 g h
    exact (z_loop_0 h).elim
  | succ n ih =>
    intro v1 v2 v3 v4 g h
    replace h := z_loop_S h
    simp only [fX10_codeOf_5_B5] at h
    refine z_iload C dX10_codeOf_5 4 rfl ?_
    refine z_iconst C dX10_codeOf_7 zci_5 ?_
    refine z_icmp_ge 41 C dX10_codeOf_8 rfl (fun hc => ?_) (fun hc => ?_)
    · replace h := z_it hc h
      refine z_iload_n C dX10_codeOf_41 rfl 3 rfl ?_
      exact z_iret C (z_ret1i h) (z_ret2 h) dX10_codeOf_42
    · replace h := z_if hc h
      refine z_iload_n C dX10_codeOf_11 rfl 3 rfl ?_
      refine z_bipush C dX10_codeOf_12 zcb_9 ?_
      refine z_imul C dX10_codeOf_14 ?_
      refine z_iload C dX10_codeOf_15 4 rfl ?_
      refine z_iload_n C dX10_codeOf_17 rfl 2 rfl ?_
      refine z_icmp_ge 32 C dX10_codeOf_18 rfl (fun hc => ?_) (fun hc => ?_)
      · replace h := z_it hc h
        refine z_iconst C dX10_codeOf_32 zci_0 ?_
        refine z_iadd C dX10_codeOf_33 ?_
        refine z_istore_n C dX10_codeOf_34 rfl (by decide) [(3, .int ((v3 * 9) + 0)), (0, .ref (ad 5)), (1, .int v1), (2, .int v2), (4, .int v4)] rfl ?_
        refine z_iinc C dX10_codeOf_35 (by decide) 4 rfl (z_incl zci_1) [(4, .int (v4 + 1)), (3, .int ((v3 * 9) + 0)), (0, .ref (ad 5)), (1, .int v1), (2, .int v2)] rfl ?_
        refine z_goto 5 C dX10_codeOf_38 rfl ?_
        refine z_loc [2, 3, 4, 1, 0] rfl ?_
        exact ih v1 v2 ((v3 * 9) + 0) (v4 + 1) g h
      · replace h := z_if hc h
        refine z_aload_n C dX10_codeOf_21 rfl 0 rfl ?_
        refine z_iload_n C dX10_codeOf_22 rfl 1 rfl ?_
        refine z_iload C dX10_codeOf_23 4 rfl ?_
        refine z_iadd C dX10_codeOf_25 ?_
        obtain ⟨hi26, h⟩ := z_g_some h
        refine z_iald C (za_X_5 kn) (z_in_vp hi26) dX10_codeOf_26 ?_
        refine z_iconst C dX10_codeOf_27 zci_1 ?_
        refine z_iadd C dX10_codeOf_28 ?_
        refine z_goto 33 C dX10_codeOf_29 rfl ?_
        refine z_iadd C dX10_codeOf_33 ?_
        refine z_istore_n C dX10_codeOf_34 rfl (by decide) [(3, .int ((v3 * 9) + ((g.1 5 (v1 + v4).toNatClampNeg) + 1))), (0, .ref (ad 5)), (1, .int v1), (2, .int v2), (4, .int v4)] rfl ?_
        refine z_iinc C dX10_codeOf_35 (by decide) 4 rfl (z_incl zci_1) [(4, .int (v4 + 1)), (3, .int ((v3 * 9) + ((g.1 5 (v1 + v4).toNatClampNeg) + 1))), (0, .ref (ad 5)), (1, .int v1), (2, .int v2)] rfl ?_
        refine z_goto 5 C dX10_codeOf_38 rfl ?_
        refine z_loc [2, 3, 4, 1, 0] rfl ?_
        exact ih v1 v2 ((v3 * 9) + ((g.1 5 (v1 + v4).toNatClampNeg) + 1)) (v4 + 1) g h
set_option maxRecDepth 100000 in
set_option maxHeartbeats 4000000 in
theorem wX10_codeOf_5 (kn : Bool) (ad : Nat → Nat) (v1 : Int32) (v2 : Int32) (g : z_S) (r : Int32) (gE : z_S) (h : fX10_codeOf_5 v1 v2 g = some (r, gE)) : z_M yX10_codeOf cX10_codeOf 5 (some .int) 0 0 (layX kn) (nX kn) ad [.ref (ad 5), .int v1, .int v2] g (some (.int r)) gE := by
  refine z_enter (by decide) (Nat.le_of_ble_eq_true rfl) (fun F C => ?_)
  replace C : z_X F (layX kn) (nX kn) ad cX10_codeOf RX10 5 (some .int) 0 0 (some (.int r)) gE := C
  show z_W F (layX kn) (nX kn) ad 0 [(0, .ref (ad 5)), (1, .int v1), (2, .int v2)] [] g
  unfold fX10_codeOf_5 at h
  refine z_iconst C dX10_codeOf_0 zci_0 ?_
  refine z_istore_n C dX10_codeOf_1 rfl (by decide) [(3, .int 0), (0, .ref (ad 5)), (1, .int v1), (2, .int v2)] rfl ?_
  refine z_iconst C dX10_codeOf_2 zci_0 ?_
  refine z_istore C dX10_codeOf_3 (by decide) [(4, .int 0), (3, .int 0), (0, .ref (ad 5)), (1, .int v1), (2, .int v2)] rfl ?_
  refine z_loc [2, 3, 4, 1, 0] rfl ?_
  refine wX10_codeOf_5_L5 C  zN v1 v2 0 0 g h
set_option maxRecDepth 100000 in
set_option maxHeartbeats 4000000 in
theorem wX2_isCodeOfWord_L2 {kn : Bool} {F : z_F} {ad : Nat → Nat} {r : Int32} {gE : z_S} (C : z_X F (layX kn) (nX kn) ad cX2_isCodeOfWord RX2 3 (some .boolean) 1 24 (some (.int r)) gE) : ∀ (n : Nat) (v1 : Int32) (v2 : Int32) (g : z_S), z_loop fX2_isCodeOfWord_B2 n (v1, v2) g = some (r, gE) → z_W F (layX kn) (nX kn) ad 2 [(0, .ref (ad 26)), (1, .int v1), (2, .int v2)] [] g := by
  intro n
  induction n with
  | zero =>
    intro v1 v2 g h
    exact (z_loop_0 h).elim
  | succ n ih =>
    intro v1 v2 g h
    replace h := z_loop_S h
    simp only [fX2_isCodeOfWord_B2] at h
    refine z_iload_n C dX2_isCodeOfWord_2 rfl 2 rfl ?_
    refine z_aload_n C dX2_isCodeOfWord_3 rfl 0 rfl ?_
    refine z_getr C zf_X2_40 (zo_X_26_6 kn) dX2_isCodeOfWord_4 ?_
    refine z_geti C zf_X2_76 (zo_X_4_0 kn) dX2_isCodeOfWord_7 ?_
    refine z_icmp_ge 59 C dX2_isCodeOfWord_10 rfl (fun hc => ?_) (fun hc => ?_)
    · replace h := z_it hc h
      refine z_iconst C dX2_isCodeOfWord_59 zci_0 ?_
      exact z_zret C (by decide) (z_ret1i h) (z_ret2 h) dX2_isCodeOfWord_60
    · replace h := z_if hc h
      refine z_aload_n C dX2_isCodeOfWord_13 rfl 0 rfl ?_
      refine z_getr C zf_X2_40 (zo_X_26_6 kn) dX2_isCodeOfWord_14 ?_
      refine z_getr C zf_X2_107 (zo_X_4_2 kn) dX2_isCodeOfWord_17 ?_
      refine z_iload_n C dX2_isCodeOfWord_20 rfl 2 rfl ?_
      obtain ⟨hi21, h⟩ := z_g_some h
      refine z_iald C (za_X_6 kn) (z_in_vp hi21) dX2_isCodeOfWord_21 ?_
      refine z_aload_n C dX2_isCodeOfWord_22 rfl 0 rfl ?_
      refine z_geti C zf_X2_92 (zo_X_26_14 kn) dX2_isCodeOfWord_23 ?_
      refine z_icmp_ne 53 C dX2_isCodeOfWord_26 rfl (fun hc => ?_) (fun hc => ?_)
      · replace h := z_it hc h
        refine z_aload_n C dX2_isCodeOfWord_29 rfl 0 rfl ?_
        refine z_getr C zf_X2_40 (zo_X_26_6 kn) dX2_isCodeOfWord_30 ?_
        refine z_getr C zf_X2_149 (zo_X_4_1 kn) dX2_isCodeOfWord_33 ?_
        refine z_iload_n C dX2_isCodeOfWord_36 rfl 2 rfl ?_
        refine z_bipush C dX2_isCodeOfWord_37 zcb_8 ?_
        refine z_imul C dX2_isCodeOfWord_39 ?_
        refine z_aload_n C dX2_isCodeOfWord_40 rfl 0 rfl ?_
        refine z_geti C zf_X2_92 (zo_X_26_14 kn) dX2_isCodeOfWord_41 ?_
        obtain ⟨r44, g44, hq44, h⟩ := z_b_some h
        refine z_callNi [] C zc_X2_135 rfl (by decide) (Nat.le_of_ble_eq_true rfl) dX2_isCodeOfWord_44 rfl (wX10_codeOf_5 kn ad (v2 * 8) (g.1 26 14) g r44 g44 hq44) ?_
        refine z_iload_n C dX2_isCodeOfWord_47 rfl 1 rfl ?_
        refine z_icmp_ne 53 C dX2_isCodeOfWord_48 rfl (fun hc => ?_) (fun hc => ?_)
        · replace h := z_it hc h
          refine z_iconst C dX2_isCodeOfWord_51 zci_1 ?_
          exact z_zret C (by decide) (z_ret1i h) (z_ret2 h) dX2_isCodeOfWord_52
        · replace h := z_if hc h
          refine z_iinc C dX2_isCodeOfWord_53 (by decide) 2 rfl (z_incl zci_1) [(2, .int (v2 + 1)), (0, .ref (ad 26)), (1, .int v1)] rfl ?_
          refine z_goto 2 C dX2_isCodeOfWord_56 rfl ?_
          refine z_loc [1, 2, 0] rfl ?_
          exact ih v1 (v2 + 1) g44 h
      · replace h := z_if hc h
        refine z_iinc C dX2_isCodeOfWord_53 (by decide) 2 rfl (z_incl zci_1) [(2, .int (v2 + 1)), (0, .ref (ad 26)), (1, .int v1)] rfl ?_
        refine z_goto 2 C dX2_isCodeOfWord_56 rfl ?_
        refine z_loc [1, 2, 0] rfl ?_
        exact ih v1 (v2 + 1) g h
set_option maxRecDepth 100000 in
set_option maxHeartbeats 4000000 in
theorem wX2_isCodeOfWord (kn : Bool) (ad : Nat → Nat) (v1 : Int32) (g : z_S) (r : Int32) (gE : z_S) (h : fX2_isCodeOfWord v1 g = some (r, gE)) : z_M yX2_isCodeOfWord cX2_isCodeOfWord 3 (some .boolean) 1 24 (layX kn) (nX kn) ad [.ref (ad 26), .int v1] g (some (.int r)) gE := by
  refine z_enter (by decide) (Nat.le_of_ble_eq_true rfl) (fun F C => ?_)
  replace C : z_X F (layX kn) (nX kn) ad cX2_isCodeOfWord RX2 3 (some .boolean) 1 24 (some (.int r)) gE := C
  show z_W F (layX kn) (nX kn) ad 0 [(0, .ref (ad 26)), (1, .int v1)] [] g
  unfold fX2_isCodeOfWord at h
  refine z_iconst C dX2_isCodeOfWord_0 zci_0 ?_
  refine z_istore_n C dX2_isCodeOfWord_1 rfl (by decide) [(2, .int 0), (0, .ref (ad 26)), (1, .int v1)] rfl ?_
  refine z_loc [1, 2, 0] rfl ?_
  refine wX2_isCodeOfWord_L2 C  zN v1 0 g h
set_option maxRecDepth 100000 in
set_option maxHeartbeats 4000000 in
theorem wX2_comesIn_L2 {kn : Bool} {F : z_F} {ad : Nat → Nat} {r : Int32} {gE : z_S} (C : z_X F (layX kn) (nX kn) ad cX2_comesIn RX2 4 (some .boolean) 0 0 (some (.int r)) gE) : ∀ (n : Nat) (v1 : Int32) (v2 : Int32) (v3 : Int32) (g : z_S), z_loop fX2_comesIn_B2 n (v1, v2, v3) g = some (r, gE) → z_W F (layX kn) (nX kn) ad 2 [(0, .ref (ad 26)), (1, .int v1), (2, .int v2), (3, .int v3)] [] g := by
  intro n
  induction n with
  | zero =>
    intro v1 v2 v3 g h
    exact (z_loop_0 h).elim
  | succ n ih =>
    intro v1 v2 v3 g h
    replace h := z_loop_S h
    simp only [fX2_comesIn_B2] at h
    refine z_iload_n C dX2_comesIn_2 rfl 3 rfl ?_
    refine z_bipush C dX2_comesIn_3 zcb_24 ?_
    refine z_icmp_ge 31 C dX2_comesIn_5 rfl (fun hc => ?_) (fun hc => ?_)
    · replace h := z_it hc h
      refine z_iconst C dX2_comesIn_31 zci_0 ?_
      exact z_zret C (by decide) (z_ret1i h) (z_ret2 h) dX2_comesIn_32
    · replace h := z_if hc h
      refine z_aload_n C dX2_comesIn_8 rfl 0 rfl ?_
      refine z_getr C zf_X2_28 (zo_X_26_10 kn) dX2_comesIn_9 ?_
      refine z_iload_n C dX2_comesIn_12 rfl 1 rfl ?_
      refine z_bipush C dX2_comesIn_13 zcb_24 ?_
      refine z_imul C dX2_comesIn_15 ?_
      refine z_iload_n C dX2_comesIn_16 rfl 3 rfl ?_
      refine z_iadd C dX2_comesIn_17 ?_
      obtain ⟨hi18, h⟩ := z_g_some h
      refine z_iald C (za_X_30 kn) (z_in_vp hi18) dX2_comesIn_18 ?_
      refine z_iload_n C dX2_comesIn_19 rfl 2 rfl ?_
      refine z_icmp_ne 25 C dX2_comesIn_20 rfl (fun hc => ?_) (fun hc => ?_)
      · replace h := z_it hc h
        refine z_iconst C dX2_comesIn_23 zci_1 ?_
        exact z_zret C (by decide) (z_ret1i h) (z_ret2 h) dX2_comesIn_24
      · replace h := z_if hc h
        refine z_iinc C dX2_comesIn_25 (by decide) 3 rfl (z_incl zci_1) [(3, .int (v3 + 1)), (0, .ref (ad 26)), (1, .int v1), (2, .int v2)] rfl ?_
        refine z_goto 2 C dX2_comesIn_28 rfl ?_
        refine z_loc [1, 2, 3, 0] rfl ?_
        exact ih v1 v2 (v3 + 1) g h
set_option maxRecDepth 100000 in
set_option maxHeartbeats 4000000 in
theorem wX2_comesIn (kn : Bool) (ad : Nat → Nat) (v1 : Int32) (v2 : Int32) (g : z_S) (r : Int32) (gE : z_S) (h : fX2_comesIn v1 v2 g = some (r, gE)) : z_M yX2_comesIn cX2_comesIn 4 (some .boolean) 0 0 (layX kn) (nX kn) ad [.ref (ad 26), .int v1, .int v2] g (some (.int r)) gE := by
  refine z_enter (by decide) (Nat.le_of_ble_eq_true rfl) (fun F C => ?_)
  replace C : z_X F (layX kn) (nX kn) ad cX2_comesIn RX2 4 (some .boolean) 0 0 (some (.int r)) gE := C
  show z_W F (layX kn) (nX kn) ad 0 [(0, .ref (ad 26)), (1, .int v1), (2, .int v2)] [] g
  unfold fX2_comesIn at h
  refine z_iconst C dX2_comesIn_0 zci_0 ?_
  refine z_istore_n C dX2_comesIn_1 rfl (by decide) [(3, .int 0), (0, .ref (ad 26)), (1, .int v1), (2, .int v2)] rfl ?_
  refine z_loc [1, 2, 3, 0] rfl ?_
  refine wX2_comesIn_L2 C  zN v1 v2 0 g h
set_option maxRecDepth 100000 in
set_option maxHeartbeats 4000000 in
theorem wX2_tryNew_L38 {kn : Bool} {F : z_F} {ad : Nat → Nat} {gE : z_S} (C : z_X F (layX kn) (nX kn) ad cX2_tryNew RX2 5 none 3 71 none gE) (k80 : Int32 → Int32 → z_S → Option (Unit × z_S)) (hk80 : ∀ (v2 : Int32) (v3 : Int32) (g : z_S), k80 v2 v3 g = some ((), gE) → z_W F (layX kn) (nX kn) ad 80 [(0, .ref (ad 26)), (2, .int v2), (3, .int v3)] [] g) : ∀ (n : Nat) (v2 : Int32) (v3 : Int32) (v4 : Int32) (g : z_S), z_loop (fX2_tryNew_B38 k80) n (v2, v3, v4) g = some ((), gE) → z_W F (layX kn) (nX kn) ad 38 [(0, .ref (ad 26)), (2, .int v2), (3, .int v3), (4, .int v4)] [] g := by
  intro n
  induction n with
  | zero =>
    intro v2 v3 v4 g h
    exact (z_loop_0 h).elim
  | succ n ih =>
    intro v2 v3 v4 g h
    replace h := z_loop_S h
    simp only [fX2_tryNew_B38] at h
    refine z_iload C dX2_tryNew_38 3 rfl ?_
    refine z_aload_n C dX2_tryNew_40 rfl 0 rfl ?_
    refine z_geti C zf_X2_51 (zo_X_26_0 kn) dX2_tryNew_41 ?_
    refine z_icmp_ge 80 C dX2_tryNew_44 rfl (fun hc => ?_) (fun hc => ?_)
    · replace h := z_it hc h
      refine z_loc [0, 1, 2] rfl ?_
      exact hk80 v2 v3 g h
    · replace h := z_if hc h
      refine z_aload_n C dX2_tryNew_47 rfl 0 rfl ?_
      refine z_iload C dX2_tryNew_48 3 rfl ?_
      refine z_iload_n C dX2_tryNew_50 rfl 1 rfl ?_
      obtain ⟨r51, g51, hq51, h⟩ := z_b_some h
      refine z_callVi [] C zc_X2_146 (zk_X_26 kn) rfl (by decide) (Nat.le_of_ble_eq_true rfl) dX2_tryNew_51 rfl (wX2_comesIn kn ad v4 v2 g r51 g51 hq51) ?_
      refine z_if_eq 74 C dX2_tryNew_54 rfl (fun hc => ?_) (fun hc => ?_)
      · replace h := z_it hc h
        refine z_iinc C dX2_tryNew_74 (by decide) 3 rfl (z_incl zci_1) [(4, .int (v4 + 1)), (0, .ref (ad 26)), (2, .int v2), (3, .int v3)] rfl ?_
        refine z_goto 38 C dX2_tryNew_77 rfl ?_
        refine z_loc [1, 2, 3, 0] rfl ?_
        exact ih v2 v3 (v4 + 1) g51 h
      · replace h := z_if hc h
        refine z_iload_n C dX2_tryNew_57 rfl 2 rfl ?_
        refine z_aload_n C dX2_tryNew_58 rfl 0 rfl ?_
        refine z_getr C zf_X2_37 (zo_X_26_13 kn) dX2_tryNew_59 ?_
        refine z_iload C dX2_tryNew_62 3 rfl ?_
        obtain ⟨hi64, h⟩ := z_g_some h
        refine z_iald C (za_X_33 kn) (z_in_vp hi64) dX2_tryNew_64 ?_
        refine z_aload_n C dX2_tryNew_65 rfl 0 rfl ?_
        refine z_iload C dX2_tryNew_66 3 rfl ?_
        obtain ⟨r68, g68, hq68, h⟩ := z_b_some h
        refine z_callVi [.int (g51.1 33 (v4).toNatClampNeg), .int v3] C zc_X2_67 (zk_X_26 kn) rfl (by decide) (Nat.le_of_ble_eq_true rfl) dX2_tryNew_68 rfl (wX2_measure kn ad v4 g51 r68 g68 hq68) ?_
        refine z_isub C dX2_tryNew_71 ?_
        refine z_iadd C dX2_tryNew_72 ?_
        refine z_istore_n C dX2_tryNew_73 rfl (by decide) [(3, .int (v3 + ((g51.1 33 (v4).toNatClampNeg) - r68))), (0, .ref (ad 26)), (2, .int v2), (4, .int v4)] rfl ?_
        refine z_iinc C dX2_tryNew_74 (by decide) 3 rfl (z_incl zci_1) [(4, .int (v4 + 1)), (3, .int (v3 + ((g51.1 33 (v4).toNatClampNeg) - r68))), (0, .ref (ad 26)), (2, .int v2)] rfl ?_
        refine z_goto 38 C dX2_tryNew_77 rfl ?_
        refine z_loc [2, 3, 1, 0] rfl ?_
        exact ih v2 (v3 + ((g51.1 33 (v4).toNatClampNeg) - r68)) (v4 + 1) g68 h
set_option maxRecDepth 100000 in
set_option maxHeartbeats 4000000 in
theorem wX2_tryNew_J113 {kn : Bool} {F : z_F} {ad : Nat → Nat} {gE : z_S} (C : z_X F (layX kn) (nX kn) ad cX2_tryNew RX2 5 none 3 71 none gE) (v2 : Int32) (v3 : Int32) (g : z_S) (h : fX2_tryNew_J113 v2 v3 g = some ((), gE)) : z_W F (layX kn) (nX kn) ad 113 [(0, .ref (ad 26)), (2, .int v2), (3, .int v3)] [] g := by
  unfold fX2_tryNew_J113 at h
  refine z_aload_n C dX2_tryNew_113 rfl 0 rfl ?_
  refine z_iload_n C dX2_tryNew_114 rfl 2 rfl ?_
  obtain ⟨g115, eg115, h⟩ := z_s_some h
  refine z_puti C zp_X2_120 (zo_X_26_4 kn) rfl rfl dX2_tryNew_115 ?_
  refine z_gw eg115 ?_
  refine z_aload_n C dX2_tryNew_118 rfl 0 rfl ?_
  refine z_iload_n C dX2_tryNew_119 rfl 1 rfl ?_
  obtain ⟨g120, eg120, h⟩ := z_s_some h
  refine z_puti C zp_X2_123 (zo_X_26_5 kn) rfl rfl dX2_tryNew_120 ?_
  refine z_gw eg120 ?_
  exact z_vret C rfl (z_ret2 h) dX2_tryNew_123
set_option maxRecDepth 100000 in
set_option maxHeartbeats 4000000 in
theorem wX2_tryNew (kn : Bool) (ad : Nat → Nat) (v1 : Int32) (g : z_S) (gE : z_S) (h : fX2_tryNew v1 g = some ((), gE)) : z_M yX2_tryNew cX2_tryNew 5 none 3 71 (layX kn) (nX kn) ad [.ref (ad 26), .int v1] g none gE := by
  refine z_enter (by decide) (Nat.le_of_ble_eq_true rfl) (fun F C => ?_)
  replace C : z_X F (layX kn) (nX kn) ad cX2_tryNew RX2 5 none 3 71 none gE := C
  show z_W F (layX kn) (nX kn) ad 0 [(0, .ref (ad 26)), (1, .int v1)] [] g
  unfold fX2_tryNew at h
  refine z_aload_n C dX2_tryNew_0 rfl 0 rfl ?_
  refine z_getr C zf_X2_28 (zo_X_26_10 kn) dX2_tryNew_1 ?_
  refine z_iload_n C dX2_tryNew_4 rfl 1 rfl ?_
  obtain ⟨hi5, h⟩ := z_g_some h
  refine z_iald C (za_X_30 kn) (z_in_vp hi5) dX2_tryNew_5 ?_
  refine z_istore_n C dX2_tryNew_6 rfl (by decide) [(2, .int (g.1 30 (v1).toNatClampNeg)), (0, .ref (ad 26)), (1, .int v1)] rfl ?_
  refine z_iload_n C dX2_tryNew_7 rfl 0 rfl ?_
  refine z_if_eq 27 C dX2_tryNew_8 rfl (fun hc => ?_) (fun hc => ?_)
  · replace h := z_it hc h
    exact z_vret C rfl (z_ret2 h) dX2_tryNew_27
  · replace h := z_if hc h
    refine z_aload_n C dX2_tryNew_11 rfl 1 rfl ?_
    refine z_iload_n C dX2_tryNew_12 rfl 2 rfl ?_
    obtain ⟨r13, g13, hq13, h⟩ := z_b_some h
    refine z_callVi [] C zc_X2_139 (zk_X_26 kn) rfl (by decide) (Nat.le_of_ble_eq_true rfl) dX2_tryNew_13 rfl (wX2_isTriedAhead kn ad v1 g r13 g13 hq13) ?_
    refine z_if_ne 27 C dX2_tryNew_16 rfl (fun hc => ?_) (fun hc => ?_)
    · replace h := z_it hc h
      refine z_aload_n C dX2_tryNew_19 rfl 1 rfl ?_
      refine z_iload_n C dX2_tryNew_20 rfl 0 rfl ?_
      obtain ⟨r21, g21, hq21, h⟩ := z_b_some h
      refine z_callVi [] C zc_X2_143 (zk_X_26 kn) rfl (by decide) (Nat.le_of_ble_eq_true rfl) dX2_tryNew_21 rfl (wX2_isCodeOfWord kn ad (g.1 30 (v1).toNatClampNeg) g13 r21 g21 hq21) ?_
      refine z_if_eq 28 C dX2_tryNew_24 rfl (fun hc => ?_) (fun hc => ?_)
      · replace h := z_it hc h
        refine z_aload_n C dX2_tryNew_28 rfl 1 rfl ?_
        refine z_iload_n C dX2_tryNew_29 rfl 0 rfl ?_
        obtain ⟨g30, eg30, h⟩ := z_s_some h
        refine z_puti C zp_X2_89 (zo_X_26_15 kn) rfl rfl dX2_tryNew_30 ?_
        refine z_gw eg30 ?_
        refine z_iconst C dX2_tryNew_33 zci_0 ?_
        refine z_istore_n C dX2_tryNew_34 rfl (by decide) [(3, .int 0), (2, .int (g.1 30 (v1).toNatClampNeg)), (0, .ref (ad 26)), (1, .int v1)] rfl ?_
        refine z_iconst C dX2_tryNew_35 zci_0 ?_
        refine z_istore C dX2_tryNew_36 (by decide) [(4, .int 0), (3, .int 0), (2, .int (g.1 30 (v1).toNatClampNeg)), (0, .ref (ad 26)), (1, .int v1)] rfl ?_
        refine z_loc [3, 2, 1, 0] rfl ?_
        refine wX2_tryNew_L38 C _ ?_ zN (g.1 30 (v1).toNatClampNeg) 0 0 g30 h
        · intro v2 v3 g h
          refine z_aload_n C dX2_tryNew_80 rfl 0 rfl ?_
          refine z_iconst C dX2_tryNew_81 zci_0 ?_
          obtain ⟨g82, eg82, h⟩ := z_s_some h
          refine z_puti C zp_X2_89 (zo_X_26_15 kn) rfl rfl dX2_tryNew_82 ?_
          refine z_gw eg82 ?_
          refine z_iload_n C dX2_tryNew_85 rfl 2 rfl ?_
          refine z_aload_n C dX2_tryNew_86 rfl 0 rfl ?_
          refine z_geti C zf_X2_120 (zo_X_26_4 kn) dX2_tryNew_87 ?_
          refine z_icmp_gt 113 C dX2_tryNew_90 rfl (fun hc => ?_) (fun hc => ?_)
          · replace h := z_it hc h
            exact wX2_tryNew_J113 C v2 v3 g82 h
          · replace h := z_if hc h
            refine z_iload_n C dX2_tryNew_93 rfl 2 rfl ?_
            refine z_aload_n C dX2_tryNew_94 rfl 0 rfl ?_
            refine z_geti C zf_X2_120 (zo_X_26_4 kn) dX2_tryNew_95 ?_
            refine z_icmp_ne 123 C dX2_tryNew_98 rfl (fun hc => ?_) (fun hc => ?_)
            · replace h := z_it hc h
              refine z_iload_n C dX2_tryNew_101 rfl 2 rfl ?_
              refine z_if_le 123 C dX2_tryNew_102 rfl (fun hc => ?_) (fun hc => ?_)
              · replace h := z_it hc h
                exact z_vret C rfl (z_ret2 h) dX2_tryNew_123
              · replace h := z_if hc h
                refine z_iload_n C dX2_tryNew_105 rfl 1 rfl ?_
                refine z_aload_n C dX2_tryNew_106 rfl 0 rfl ?_
                refine z_geti C zf_X2_123 (zo_X_26_5 kn) dX2_tryNew_107 ?_
                refine z_icmp_ge 123 C dX2_tryNew_110 rfl (fun hc => ?_) (fun hc => ?_)
                · replace h := z_it hc h
                  exact z_vret C rfl (z_ret2 h) dX2_tryNew_123
                · replace h := z_if hc h
                  exact wX2_tryNew_J113 C v2 v3 g82 h
            · replace h := z_if hc h
              exact z_vret C rfl (z_ret2 h) dX2_tryNew_123
      · replace h := z_if hc h
        exact z_vret C rfl (z_ret2 h) dX2_tryNew_27
    · replace h := z_if hc h
      exact z_vret C rfl (z_ret2 h) dX2_tryNew_27

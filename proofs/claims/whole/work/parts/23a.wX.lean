set_option maxRecDepth 100000 in
set_option maxHeartbeats 4000000 in
theorem wX10_forgetFound (kn : Bool) (ad : Nat → Nat) (g : z_S) (gE : z_S) (h : fX10_forgetFound g = some ((), gE)) : z_M yX10_forgetFound cX10_forgetFound 1 none 0 0 (layX kn) (nX kn) ad [.ref (ad 0)] g none gE := by
  refine z_enter (by decide) (Nat.le_of_ble_eq_true rfl) (fun F C => ?_)
  replace C : z_X F (layX kn) (nX kn) ad cX10_forgetFound RX10 1 none 0 0 none gE := C
  show z_W F (layX kn) (nX kn) ad 0 [(0, .ref (ad 0))] [] g
  unfold fX10_forgetFound at h
  refine z_aload_n C dX10_forgetFound_0 rfl 0 rfl ?_
  refine z_getr C zf_X10_78 (zo_X_0_9 kn) dX10_forgetFound_1 ?_
  refine z_iconst C dX10_forgetFound_4 zci_0 ?_
  obtain ⟨g5, eg5, h⟩ := z_s_some h
  refine z_puti C zp_X10_237 (zo_X_43_1 kn) rfl rfl dX10_forgetFound_5 ?_
  refine z_gw eg5 ?_
  refine z_aload_n C dX10_forgetFound_8 rfl 0 rfl ?_
  refine z_getr C zf_X10_82 (zo_X_0_10 kn) dX10_forgetFound_9 ?_
  refine z_iconst C dX10_forgetFound_12 zci_0 ?_
  obtain ⟨g13, eg13, h⟩ := z_s_some h
  refine z_puti C zp_X10_237 (zo_X_45_1 kn) rfl rfl dX10_forgetFound_13 ?_
  refine z_gw eg13 ?_
  refine z_aload_n C dX10_forgetFound_16 rfl 0 rfl ?_
  refine z_getr C zf_X10_65 (zo_X_0_7 kn) dX10_forgetFound_17 ?_
  refine z_iconst C dX10_forgetFound_20 zci_m1 ?_
  obtain ⟨g21, eg21, h⟩ := z_s_some h
  refine z_puti C zp_X10_241 (zo_X_26_3 kn) rfl rfl dX10_forgetFound_21 ?_
  refine z_gw eg21 ?_
  exact z_vret C rfl (z_ret2 h) dX10_forgetFound_24
set_option maxRecDepth 100000 in
set_option maxHeartbeats 4000000 in
theorem wX10_letters (kn : Bool) (ad : Nat → Nat) (v1 : Int32) (g : z_S) (r : Int32) (gE : z_S) (h : fX10_letters v1 g = some (r, gE)) : z_M yX10_letters cX10_letters 2 (some .int) 1 20 (layX kn) (nX kn) ad [.ref (ad 0), .int v1] g (some (.int r)) gE := by
  refine z_enter (by decide) (Nat.le_of_ble_eq_true rfl) (fun F C => ?_)
  replace C : z_X F (layX kn) (nX kn) ad cX10_letters RX10 2 (some .int) 1 20 (some (.int r)) gE := C
  show z_W F (layX kn) (nX kn) ad 0 [(0, .ref (ad 0)), (1, .int v1)] [] g
  unfold fX10_letters at h
  refine z_iload_n C dX10_letters_0 rfl 1 rfl ?_
  refine z_iconst C dX10_letters_1 zci_2 ?_
  refine z_icmp_lt 11 C dX10_letters_2 rfl (fun hc => ?_) (fun hc => ?_)
  · replace h := z_it hc h
    refine z_sipush C dX10_letters_11 zcs_m1002 ?_
    exact z_iret C (z_ret1i h) (z_ret2 h) dX10_letters_14
  · replace h := z_if hc h
    refine z_iload_n C dX10_letters_5 rfl 1 rfl ?_
    refine z_bipush C dX10_letters_6 zcb_8 ?_
    refine z_icmp_le 15 C dX10_letters_8 rfl (fun hc => ?_) (fun hc => ?_)
    · replace h := z_it hc h
      refine z_aload_n C dX10_letters_15 rfl 0 rfl ?_
      refine z_getr C zf_X10_10 (zo_X_0_0 kn) dX10_letters_16 ?_
      refine z_iload_n C dX10_letters_19 rfl 1 rfl ?_
      obtain ⟨g20, eg20, h⟩ := z_s_some h
      refine z_puti C zp_X10_85 (zo_X_1_0 kn) rfl rfl dX10_letters_20 ?_
      refine z_gw eg20 ?_
      refine z_aload_n C dX10_letters_23 rfl 0 rfl ?_
      refine z_getr C zf_X10_19 (zo_X_0_1 kn) dX10_letters_24 ?_
      refine z_iconst C dX10_letters_27 zci_0 ?_
      obtain ⟨g28, eg28, h⟩ := z_s_some h
      refine z_puti C zp_X10_89 (zo_X_4_0 kn) rfl rfl dX10_letters_28 ?_
      refine z_gw eg28 ?_
      refine z_aload_n C dX10_letters_31 rfl 0 rfl ?_
      refine z_getr C zf_X10_65 (zo_X_0_7 kn) dX10_letters_32 ?_
      refine z_iconst C dX10_letters_35 zci_0 ?_
      obtain ⟨g36, eg36, h⟩ := z_s_some h
      refine z_puti C zp_X10_92 (zo_X_26_0 kn) rfl rfl dX10_letters_36 ?_
      refine z_gw eg36 ?_
      refine z_aload_n C dX10_letters_39 rfl 0 rfl ?_
      refine z_getr C zf_X10_32 (zo_X_0_3 kn) dX10_letters_40 ?_
      refine z_iconst C dX10_letters_43 zci_0 ?_
      obtain ⟨g44, eg44, h⟩ := z_s_some h
      refine z_puti C zp_X10_93 (zo_X_11_1 kn) rfl rfl dX10_letters_44 ?_
      refine z_gw eg44 ?_
      refine z_aload_n C dX10_letters_47 rfl 0 rfl ?_
      obtain ⟨r48, g48, hq48, h⟩ := z_b_some h
      refine z_callVv [] C zc_X10_94 (zk_X_0 kn) rfl (by decide) (Nat.le_of_ble_eq_true rfl) dX10_letters_48 rfl (wX10_forgetFound kn ad g44 g48 hq48) ?_
      refine z_iload_n C dX10_letters_51 rfl 1 rfl ?_
      exact z_iret C (z_ret1i h) (z_ret2 h) dX10_letters_52
    · replace h := z_if hc h
      refine z_sipush C dX10_letters_11 zcs_m1002 ?_
      exact z_iret C (z_ret1i h) (z_ret2 h) dX10_letters_14
set_option maxRecDepth 100000 in
set_option maxHeartbeats 4000000 in
theorem wX6_put_9 (kn : Bool) (ad : Nat → Nat) (v1 : Int32) (g : z_S) (gE : z_S) (h : fX6_put_9 v1 g = some ((), gE)) : z_M yX6_put cX6_put 2 none 0 0 (layX kn) (nX kn) ad [.ref (ad 9), .int v1] g none gE := by
  refine z_enter (by decide) (Nat.le_of_ble_eq_true rfl) (fun F C => ?_)
  replace C : z_X F (layX kn) (nX kn) ad cX6_put RX6 2 none 0 0 none gE := C
  show z_W F (layX kn) (nX kn) ad 0 [(0, .ref (ad 9)), (1, .int v1)] [] g
  unfold fX6_put_9 at h
  refine z_aload_n C dX6_put_0 rfl 0 rfl ?_
  refine z_geti C zf_X6_19 (zo_X_9_1 kn) dX6_put_1 ?_
  refine z_aload_n C dX6_put_4 rfl 0 rfl ?_
  refine z_getr C zf_X6_13 (zo_X_9_0 kn) dX6_put_5 ?_
  refine z_alen C (za_X_10 kn) (by decide) (v := 200) (by decide) dX6_put_8 ?_
  refine z_icmp_ge 32 C dX6_put_9 rfl (fun hc => ?_) (fun hc => ?_)
  · replace h := z_it hc h
    exact z_vret C rfl (z_ret2 h) dX6_put_32
  · replace h := z_if hc h
    refine z_aload_n C dX6_put_12 rfl 0 rfl ?_
    refine z_getr C zf_X6_13 (zo_X_9_0 kn) dX6_put_13 ?_
    refine z_aload_n C dX6_put_16 rfl 0 rfl ?_
    refine z_geti C zf_X6_19 (zo_X_9_1 kn) dX6_put_17 ?_
    refine z_iload_n C dX6_put_20 rfl 1 rfl ?_
    obtain ⟨hi21, h⟩ := z_g_some h
    obtain ⟨g21, eg21, h⟩ := z_s_some h
    refine z_iast C (za_X_10 kn) (z_in_vp hi21) dX6_put_21 ?_
    refine z_gw eg21 ?_
    refine z_aload_n C dX6_put_22 rfl 0 rfl ?_
    refine z_dup C dX6_put_23 rfl ?_
    refine z_geti C zf_X6_19 (zo_X_9_1 kn) dX6_put_24 ?_
    refine z_iconst C dX6_put_27 zci_1 ?_
    refine z_iadd C dX6_put_28 ?_
    obtain ⟨g29, eg29, h⟩ := z_s_some h
    refine z_puti C zp_X6_19 (zo_X_9_1 kn) rfl rfl dX6_put_29 ?_
    refine z_gw eg29 ?_
    exact z_vret C rfl (z_ret2 h) dX6_put_32
set_option maxRecDepth 100000 in
set_option maxHeartbeats 4000000 in
theorem wX10_feed_L39 {kn : Bool} {F : z_F} {ad : Nat → Nat} {r : Int32} {gE : z_S} (C : z_X F (layX kn) (nX kn) ad cX10_feed RX10 5 (some .int) 1 21 (some (.int r)) gE) : ∀ (n : Nat) (v2 : Int64) (v4 : Int32) (g : z_S), z_loop fX10_feed_B39 n (v2, v4) g = some (r, gE) → z_W F (layX kn) (nX kn) ad 39 [(0, .ref (ad 0)), (2, .long v2), (4, .int v4)] [] g := by
  intro n
  induction n with
  | zero =>
    intro v2 v4 g h
    exact (z_loop_0 h).elim
  | succ n ih =>
    intro v2 v4 g h
    replace h := z_loop_S h
    simp only [fX10_feed_B39] at h
    refine z_iload C dX10_feed_39 2 rfl ?_
    refine z_if_lt 69 C dX10_feed_41 rfl (fun hc => ?_) (fun hc => ?_)
    · replace h := z_it hc h
      refine z_aload_n C dX10_feed_69 rfl 0 rfl ?_
      refine z_getr C zf_X10_28 (zo_X_0_2 kn) dX10_feed_70 ?_
      refine z_geti C zf_X10_93 (zo_X_9_1 kn) dX10_feed_73 ?_
      exact z_iret C (z_ret1i h) (z_ret2 h) dX10_feed_76
    · replace h := z_if hc h
      refine z_aload_n C dX10_feed_44 rfl 0 rfl ?_
      refine z_getr C zf_X10_28 (zo_X_0_2 kn) dX10_feed_45 ?_
      refine z_lload_n C dX10_feed_48 rfl 1 rfl ?_
      refine z_bipush C dX10_feed_49 zcb_8 ?_
      refine z_iload C dX10_feed_51 2 rfl ?_
      refine z_imul C dX10_feed_53 ?_
      refine z_lushr C dX10_feed_54 ?_
      refine z_l2i C dX10_feed_55 ?_
      refine z_sipush C dX10_feed_56 zcs_255 ?_
      refine z_iand C dX10_feed_59 ?_
      obtain ⟨r60, g60, hq60, h⟩ := z_b_some h
      refine z_callVv [] C zc_X10_97 (zk_X_9 kn) rfl (by decide) (Nat.le_of_ble_eq_true rfl) dX10_feed_60 rfl (wX6_put_9 kn ad (((((v2).toUInt64 >>> ((8 * v4).toInt64.toUInt64 &&& Int64.toUInt64 63)).toInt64).toInt32) &&& 255) g g60 hq60) ?_
      refine z_iinc C dX10_feed_63 (by decide) 2 rfl (z_incl zci_m1) [(4, .int (v4 + (-1))), (0, .ref (ad 0)), (2, .long v2)] rfl ?_
      refine z_goto 39 C dX10_feed_66 rfl ?_
      refine z_loc [1, 2, 0] rfl ?_
      exact ih v2 (v4 + (-1)) g60 h
set_option maxRecDepth 100000 in
set_option maxHeartbeats 4000000 in
theorem wX10_feed (kn : Bool) (ad : Nat → Nat) (v1 : Int32) (v2 : Int64) (g : z_S) (r : Int32) (gE : z_S) (h : fX10_feed v1 v2 g = some (r, gE)) : z_M yX10_feed cX10_feed 5 (some .int) 1 21 (layX kn) (nX kn) ad [.ref (ad 0), .int v1, .long v2] g (some (.int r)) gE := by
  refine z_enter (by decide) (Nat.le_of_ble_eq_true rfl) (fun F C => ?_)
  replace C : z_X F (layX kn) (nX kn) ad cX10_feed RX10 5 (some .int) 1 21 (some (.int r)) gE := C
  show z_W F (layX kn) (nX kn) ad 0 [(0, .ref (ad 0)), (1, .int v1), (2, .long v2)] [] g
  unfold fX10_feed at h
  refine z_iload_n C dX10_feed_0 rfl 1 rfl ?_
  refine z_iconst C dX10_feed_1 zci_1 ?_
  refine z_icmp_lt 11 C dX10_feed_2 rfl (fun hc => ?_) (fun hc => ?_)
  · replace h := z_it hc h
    refine z_sipush C dX10_feed_11 zcs_m1002 ?_
    exact z_iret C (z_ret1i h) (z_ret2 h) dX10_feed_14
  · replace h := z_if hc h
    refine z_iload_n C dX10_feed_5 rfl 1 rfl ?_
    refine z_bipush C dX10_feed_6 zcb_8 ?_
    refine z_icmp_le 15 C dX10_feed_8 rfl (fun hc => ?_) (fun hc => ?_)
    · replace h := z_it hc h
      refine z_aload_n C dX10_feed_15 rfl 0 rfl ?_
      refine z_getr C zf_X10_28 (zo_X_0_2 kn) dX10_feed_16 ?_
      refine z_geti C zf_X10_93 (zo_X_9_1 kn) dX10_feed_19 ?_
      refine z_iload_n C dX10_feed_22 rfl 1 rfl ?_
      refine z_iadd C dX10_feed_23 ?_
      refine z_sipush C dX10_feed_24 zcs_200 ?_
      refine z_icmp_le 34 C dX10_feed_27 rfl (fun hc => ?_) (fun hc => ?_)
      · replace h := z_it hc h
        refine z_iload_n C dX10_feed_34 rfl 1 rfl ?_
        refine z_iconst C dX10_feed_35 zci_1 ?_
        refine z_isub C dX10_feed_36 ?_
        refine z_istore C dX10_feed_37 (by decide) [(4, .int (v1 - 1)), (0, .ref (ad 0)), (1, .int v1), (2, .long v2)] rfl ?_
        refine z_loc [1, 3, 0] rfl ?_
        refine wX10_feed_L39 C  zN v2 (v1 - 1) g h
      · replace h := z_if hc h
        refine z_sipush C dX10_feed_30 zcs_m1004 ?_
        exact z_iret C (z_ret1i h) (z_ret2 h) dX10_feed_33
    · replace h := z_if hc h
      refine z_sipush C dX10_feed_11 zcs_m1002 ?_
      exact z_iret C (z_ret1i h) (z_ret2 h) dX10_feed_14
set_option maxRecDepth 100000 in
set_option maxHeartbeats 4000000 in
theorem wX0_here (kn : Bool) (ad : Nat → Nat) (g : z_S) (r : Int32) (gE : z_S) (h : fX0_here g = some (r, gE)) : z_M yX0_here cX0_here 1 (some .int) 0 0 (layX kn) (nX kn) ad [.ref (ad 13)] g (some (.int r)) gE := by
  refine z_enter (by decide) (Nat.le_of_ble_eq_true rfl) (fun F C => ?_)
  replace C : z_X F (layX kn) (nX kn) ad cX0_here RX0 1 (some .int) 0 0 (some (.int r)) gE := C
  show z_W F (layX kn) (nX kn) ad 0 [(0, .ref (ad 13))] [] g
  unfold fX0_here at h
  refine z_aload_n C dX0_here_0 rfl 0 rfl ?_
  refine z_geti C zf_X0_33 (zo_X_13_4 kn) dX0_here_1 ?_
  refine z_if_lt 36 C dX0_here_4 rfl (fun hc => ?_) (fun hc => ?_)
  · replace h := z_it hc h
    refine z_iconst C dX0_here_36 zci_m1 ?_
    exact z_iret C (z_ret1i h) (z_ret2 h) dX0_here_37
  · replace h := z_if hc h
    refine z_aload_n C dX0_here_7 rfl 0 rfl ?_
    refine z_geti C zf_X0_33 (zo_X_13_4 kn) dX0_here_8 ?_
    refine z_aload_n C dX0_here_11 rfl 0 rfl ?_
    refine z_getr C zf_X0_22 (zo_X_13_2 kn) dX0_here_12 ?_
    refine z_geti C zf_X0_39 (zo_X_9_1 kn) dX0_here_15 ?_
    refine z_icmp_ge 36 C dX0_here_18 rfl (fun hc => ?_) (fun hc => ?_)
    · replace h := z_it hc h
      refine z_iconst C dX0_here_36 zci_m1 ?_
      exact z_iret C (z_ret1i h) (z_ret2 h) dX0_here_37
    · replace h := z_if hc h
      refine z_aload_n C dX0_here_21 rfl 0 rfl ?_
      refine z_getr C zf_X0_22 (zo_X_13_2 kn) dX0_here_22 ?_
      refine z_getr C zf_X0_106 (zo_X_9_0 kn) dX0_here_25 ?_
      refine z_aload_n C dX0_here_28 rfl 0 rfl ?_
      refine z_geti C zf_X0_33 (zo_X_13_4 kn) dX0_here_29 ?_
      obtain ⟨hi32, h⟩ := z_g_some h
      refine z_iald C (za_X_10 kn) (z_in_vp hi32) dX0_here_32 ?_
      refine z_goto 37 C dX0_here_33 rfl ?_
      exact z_iret C (z_ret1i h) (z_ret2 h) dX0_here_37
set_option maxRecDepth 100000 in
set_option maxHeartbeats 4000000 in
theorem wX0_skipBlanks_L0 {kn : Bool} {F : z_F} {ad : Nat → Nat} {gE : z_S} (C : z_X F (layX kn) (nX kn) ad cX0_skipBlanks RX0 1 none 1 20 none gE) : ∀ (n : Nat) (g : z_S), z_loop fX0_skipBlanks_B0 n () g = some ((), gE) → z_W F (layX kn) (nX kn) ad 0 [(0, .ref (ad 13))] [] g := by
  intro n
  induction n with
  | zero =>
    intro  g h
    exact (z_loop_0 h).elim
  | succ n ih =>
    intro  g h
    replace h := z_loop_S h
    simp only [fX0_skipBlanks_B0] at h
    refine z_aload_n C dX0_skipBlanks_0 rfl 0 rfl ?_
    refine z_geti C zf_X0_33 (zo_X_13_4 kn) dX0_skipBlanks_1 ?_
    refine z_aload_n C dX0_skipBlanks_4 rfl 0 rfl ?_
    refine z_getr C zf_X0_22 (zo_X_13_2 kn) dX0_skipBlanks_5 ?_
    refine z_geti C zf_X0_39 (zo_X_9_1 kn) dX0_skipBlanks_8 ?_
    refine z_icmp_ge 36 C dX0_skipBlanks_11 rfl (fun hc => ?_) (fun hc => ?_)
    · replace h := z_it hc h
      exact z_vret C rfl (z_ret2 h) dX0_skipBlanks_36
    · replace h := z_if hc h
      refine z_aload_n C dX0_skipBlanks_14 rfl 0 rfl ?_
      obtain ⟨r15, g15, hq15, h⟩ := z_b_some h
      refine z_callVi [] C zc_X0_55 (zk_X_13 kn) rfl (by decide) (Nat.le_of_ble_eq_true rfl) dX0_skipBlanks_15 rfl (wX0_here kn ad g r15 g15 hq15) ?_
      refine z_bipush C dX0_skipBlanks_18 zcb_32 ?_
      refine z_icmp_ne 36 C dX0_skipBlanks_20 rfl (fun hc => ?_) (fun hc => ?_)
      · replace h := z_it hc h
        refine z_aload_n C dX0_skipBlanks_23 rfl 0 rfl ?_
        refine z_dup C dX0_skipBlanks_24 rfl ?_
        refine z_geti C zf_X0_33 (zo_X_13_4 kn) dX0_skipBlanks_25 ?_
        refine z_iconst C dX0_skipBlanks_28 zci_1 ?_
        refine z_iadd C dX0_skipBlanks_29 ?_
        obtain ⟨g30, eg30, h⟩ := z_s_some h
        refine z_puti C zp_X0_33 (zo_X_13_4 kn) rfl rfl dX0_skipBlanks_30 ?_
        refine z_gw eg30 ?_
        refine z_goto 0 C dX0_skipBlanks_33 rfl ?_
        exact ih g30 h
      · replace h := z_if hc h
        exact z_vret C rfl (z_ret2 h) dX0_skipBlanks_36
set_option maxRecDepth 100000 in
set_option maxHeartbeats 4000000 in
theorem wX0_skipBlanks (kn : Bool) (ad : Nat → Nat) (g : z_S) (gE : z_S) (h : fX0_skipBlanks g = some ((), gE)) : z_M yX0_skipBlanks cX0_skipBlanks 1 none 1 20 (layX kn) (nX kn) ad [.ref (ad 13)] g none gE := by
  refine z_enter (by decide) (Nat.le_of_ble_eq_true rfl) (fun F C => ?_)
  replace C : z_X F (layX kn) (nX kn) ad cX0_skipBlanks RX0 1 none 1 20 none gE := C
  show z_W F (layX kn) (nX kn) ad 0 [(0, .ref (ad 13))] [] g
  unfold fX0_skipBlanks at h
  refine z_aload_n C dX0_skipBlanks_0 rfl 0 rfl ?_
  refine z_geti C zf_X0_33 (zo_X_13_4 kn) dX0_skipBlanks_1 ?_
  refine z_aload_n C dX0_skipBlanks_4 rfl 0 rfl ?_
  refine z_getr C zf_X0_22 (zo_X_13_2 kn) dX0_skipBlanks_5 ?_
  refine z_geti C zf_X0_39 (zo_X_9_1 kn) dX0_skipBlanks_8 ?_
  refine z_icmp_ge 36 C dX0_skipBlanks_11 rfl (fun hc => ?_) (fun hc => ?_)
  · replace h := z_it hc h
    exact z_vret C rfl (z_ret2 h) dX0_skipBlanks_36
  · replace h := z_if hc h
    refine z_aload_n C dX0_skipBlanks_14 rfl 0 rfl ?_
    obtain ⟨r15, g15, hq15, h⟩ := z_b_some h
    refine z_callVi [] C zc_X0_55 (zk_X_13 kn) rfl (by decide) (Nat.le_of_ble_eq_true rfl) dX0_skipBlanks_15 rfl (wX0_here kn ad g r15 g15 hq15) ?_
    refine z_bipush C dX0_skipBlanks_18 zcb_32 ?_
    refine z_icmp_ne 36 C dX0_skipBlanks_20 rfl (fun hc => ?_) (fun hc => ?_)
    · replace h := z_it hc h
      refine z_aload_n C dX0_skipBlanks_23 rfl 0 rfl ?_
      refine z_dup C dX0_skipBlanks_24 rfl ?_
      refine z_geti C zf_X0_33 (zo_X_13_4 kn) dX0_skipBlanks_25 ?_
      refine z_iconst C dX0_skipBlanks_28 zci_1 ?_
      refine z_iadd C dX0_skipBlanks_29 ?_
      obtain ⟨g30, eg30, h⟩ := z_s_some h
      refine z_puti C zp_X0_33 (zo_X_13_4 kn) rfl rfl dX0_skipBlanks_30 ?_
      refine z_gw eg30 ?_
      refine z_goto 0 C dX0_skipBlanks_33 rfl ?_
      refine wX0_skipBlanks_L0 C  zN g30 h
    · replace h := z_if hc h
      exact z_vret C rfl (z_ret2 h) dX0_skipBlanks_36
set_option maxRecDepth 100000 in
set_option maxHeartbeats 4000000 in
theorem wX0_isLetter (kn : Bool) (ad : Nat → Nat) (v0 : Int32) (g : z_S) (r : Int32) (gE : z_S) (h : fX0_isLetter v0 g = some (r, gE)) : z_M yX0_isLetter cX0_isLetter 1 (some .boolean) 0 0 (layX kn) (nX kn) ad [.int v0] g (some (.int r)) gE := by
  refine z_enter (by decide) (Nat.le_of_ble_eq_true rfl) (fun F C => ?_)
  replace C : z_X F (layX kn) (nX kn) ad cX0_isLetter RX0 1 (some .boolean) 0 0 (some (.int r)) gE := C
  show z_W F (layX kn) (nX kn) ad 0 [(0, .int v0)] [] g
  unfold fX0_isLetter at h
  refine z_iload_n C dX0_isLetter_0 rfl 0 rfl ?_
  refine z_bipush C dX0_isLetter_1 zcb_97 ?_
  refine z_icmp_lt 16 C dX0_isLetter_3 rfl (fun hc => ?_) (fun hc => ?_)
  · replace h := z_it hc h
    refine z_iconst C dX0_isLetter_16 zci_0 ?_
    exact z_zret C (by decide) (z_ret1i h) (z_ret2 h) dX0_isLetter_17
  · replace h := z_if hc h
    refine z_iload_n C dX0_isLetter_6 rfl 0 rfl ?_
    refine z_bipush C dX0_isLetter_7 zcb_104 ?_
    refine z_icmp_gt 16 C dX0_isLetter_9 rfl (fun hc => ?_) (fun hc => ?_)
    · replace h := z_it hc h
      refine z_iconst C dX0_isLetter_16 zci_0 ?_
      exact z_zret C (by decide) (z_ret1i h) (z_ret2 h) dX0_isLetter_17
    · replace h := z_if hc h
      refine z_iconst C dX0_isLetter_12 zci_1 ?_
      refine z_goto 17 C dX0_isLetter_13 rfl ?_
      exact z_zret C (by decide) (z_ret1i h) (z_ret2 h) dX0_isLetter_17
set_option maxRecDepth 100000 in
set_option maxHeartbeats 4000000 in
theorem wX0_blame (kn : Bool) (ad : Nat → Nat) (v1 : Int32) (v2 : Int32) (g : z_S) (r : Int32) (gE : z_S) (h : fX0_blame v1 v2 g = some (r, gE)) : z_M yX0_blame cX0_blame 3 (some .int) 0 0 (layX kn) (nX kn) ad [.ref (ad 13), .int v1, .int v2] g (some (.int r)) gE := by
  refine z_enter (by decide) (Nat.le_of_ble_eq_true rfl) (fun F C => ?_)
  replace C : z_X F (layX kn) (nX kn) ad cX0_blame RX0 3 (some .int) 0 0 (some (.int r)) gE := C
  show z_W F (layX kn) (nX kn) ad 0 [(0, .ref (ad 13)), (1, .int v1), (2, .int v2)] [] g
  unfold fX0_blame at h
  refine z_aload_n C dX0_blame_0 rfl 0 rfl ?_
  refine z_iload_n C dX0_blame_1 rfl 2 rfl ?_
  obtain ⟨g2, eg2, h⟩ := z_s_some h
  refine z_puti C zp_X0_18 (zo_X_13_1 kn) rfl rfl dX0_blame_2 ?_
  refine z_gw eg2 ?_
  refine z_iload_n C dX0_blame_5 rfl 1 rfl ?_
  exact z_iret C (z_ret1i h) (z_ret2 h) dX0_blame_6
set_option maxRecDepth 100000 in
set_option maxHeartbeats 4000000 in
theorem wX9_sign_14 (kn : Bool) (ad : Nat → Nat) (v1 : Int32) (v2 : Int32) (g : z_S) (r : Int32) (gE : z_S) (h : fX9_sign_14 v1 v2 g = some (r, gE)) : z_M yX9_sign cX9_sign 3 (some .int) 0 0 (layX kn) (nX kn) ad [.ref (ad 14), .int v1, .int v2] g (some (.int r)) gE := by
  refine z_enter (by decide) (Nat.le_of_ble_eq_true rfl) (fun F C => ?_)
  replace C : z_X F (layX kn) (nX kn) ad cX9_sign RX9 3 (some .int) 0 0 (some (.int r)) gE := C
  show z_W F (layX kn) (nX kn) ad 0 [(0, .ref (ad 14)), (1, .int v1), (2, .int v2)] [] g
  unfold fX9_sign_14 at h
  refine z_aload_n C dX9_sign_0 rfl 0 rfl ?_
  refine z_getr C zf_X9_9 (zo_X_14_1 kn) dX9_sign_1 ?_
  refine z_iload_n C dX9_sign_4 rfl 1 rfl ?_
  refine z_bipush C dX9_sign_5 zcb_8 ?_
  refine z_imul C dX9_sign_7 ?_
  refine z_iload_n C dX9_sign_8 rfl 2 rfl ?_
  refine z_iadd C dX9_sign_9 ?_
  obtain ⟨hi10, h⟩ := z_g_some h
  refine z_iald C (za_X_15 kn) (z_in_vp hi10) dX9_sign_10 ?_
  exact z_iret C (z_ret1i h) (z_ret2 h) dX9_sign_11
set_option maxRecDepth 100000 in
set_option maxHeartbeats 4000000 in
theorem wX9_liesAt_14_J84 {kn : Bool} {F : z_F} {ad : Nat → Nat} {r : Int32} {gE : z_S} (C : z_X F (layX kn) (nX kn) ad cX9_liesAt RX9 9 (some .boolean) 1 22 (some (.int r)) gE) (rc : (Int32 × Int32 × Int32 × Int32 × Int32 × Int32) → z_S → Option (Int32 × z_S)) (hrc : ∀ (v1 : Int32) (v2 : Int32) (v3 : Int32) (v4 : Int32) (v5 : Int32) (v6 : Int32) (g : z_S), rc (v1, v2, v3, v4, v5, v6) g = some (r, gE) → z_W F (layX kn) (nX kn) ad 39 [(0, .ref (ad 14)), (1, .int v1), (2, .int v2), (3, .int v3), (4, .int v4), (5, .int v5), (6, .int v6)] [] g) (v1 : Int32) (v2 : Int32) (v3 : Int32) (v4 : Int32) (v5 : Int32) (v6 : Int32) (s0 : Int32) (g : z_S) (h : fX9_liesAt_14_J84 rc v1 v2 v3 v4 v5 v6 s0 g = some (r, gE)) : z_W F (layX kn) (nX kn) ad 84 [(0, .ref (ad 14)), (1, .int v1), (2, .int v2), (3, .int v3), (4, .int v4), (5, .int v5), (6, .int v6)] [.int s0] g := by
  unfold fX9_liesAt_14_J84 at h
  refine z_istore C dX9_liesAt_84 (by decide) [(8, .int s0), (0, .ref (ad 14)), (1, .int v1), (2, .int v2), (3, .int v3), (4, .int v4), (5, .int v5), (6, .int v6)] rfl ?_
  refine z_iload C dX9_liesAt_86 0 rfl ?_
  refine z_aload_n C dX9_liesAt_88 rfl 1 rfl ?_
  refine z_iload_n C dX9_liesAt_89 rfl 2 rfl ?_
  refine z_iload C dX9_liesAt_90 7 rfl ?_
  obtain ⟨r92, g92, hq92, h⟩ := z_b_some h
  refine z_callVi [.int s0] C zc_X9_32 (zk_X_14 kn) rfl (by decide) (Nat.le_of_ble_eq_true rfl) dX9_liesAt_92 rfl (wX9_sign_14 kn ad v1 v6 g r92 g92 hq92) ?_
  refine z_icmp_eq 100 C dX9_liesAt_95 rfl (fun hc => ?_) (fun hc => ?_)
  · replace h := z_it hc h
    refine z_iinc C dX9_liesAt_100 (by decide) 7 rfl (z_incl zci_1) [(6, .int (v6 + 1)), (8, .int s0), (0, .ref (ad 14)), (1, .int v1), (2, .int v2), (3, .int v3), (4, .int v4), (5, .int v5)] rfl ?_
    refine z_goto 39 C dX9_liesAt_103 rfl ?_
    refine z_loc [2, 3, 4, 5, 6, 7, 0] rfl ?_
    exact hrc v1 v2 v3 v4 v5 (v6 + 1) g92 h
  · replace h := z_if hc h
    refine z_iconst C dX9_liesAt_98 zci_0 ?_
    exact z_zret C (by decide) (z_ret1i h) (z_ret2 h) dX9_liesAt_99
set_option maxRecDepth 100000 in
set_option maxHeartbeats 4000000 in
theorem wX9_liesAt_14_L39 {kn : Bool} {F : z_F} {ad : Nat → Nat} {r : Int32} {gE : z_S} (C : z_X F (layX kn) (nX kn) ad cX9_liesAt RX9 9 (some .boolean) 1 22 (some (.int r)) gE) : ∀ (n : Nat) (v1 : Int32) (v2 : Int32) (v3 : Int32) (v4 : Int32) (v5 : Int32) (v6 : Int32) (g : z_S), z_loop fX9_liesAt_14_B39 n (v1, v2, v3, v4, v5, v6) g = some (r, gE) → z_W F (layX kn) (nX kn) ad 39 [(0, .ref (ad 14)), (1, .int v1), (2, .int v2), (3, .int v3), (4, .int v4), (5, .int v5), (6, .int v6)] [] g := by
  intro n
  induction n with
  | zero =>
    intro v1 v2 v3 v4 v5 v6 g h
    exact (z_loop_0 h).elim
  | succ n ih =>
    intro v1 v2 v3 v4 v5 v6 g h
    replace h := z_loop_S h
    simp only [fX9_liesAt_14_B39] at h
    refine z_iload C dX9_liesAt_39 6 rfl ?_
    refine z_aload_n C dX9_liesAt_41 rfl 0 rfl ?_
    refine z_getr C zf_X9_15 (zo_X_14_2 kn) dX9_liesAt_42 ?_
    refine z_iload_n C dX9_liesAt_45 rfl 1 rfl ?_
    obtain ⟨hi46, h⟩ := z_g_some h
    refine z_iald C (za_X_16 kn) (z_in_vp hi46) dX9_liesAt_46 ?_
    refine z_icmp_ge 106 C dX9_liesAt_47 rfl (fun hc => ?_) (fun hc => ?_)
    · replace h := z_it hc h
      refine z_iconst C dX9_liesAt_106 zci_1 ?_
      exact z_zret C (by decide) (z_ret1i h) (z_ret2 h) dX9_liesAt_107
    · replace h := z_if hc h
      refine z_iload C dX9_liesAt_50 4 rfl ?_
      refine z_iload C dX9_liesAt_52 6 rfl ?_
      refine z_iadd C dX9_liesAt_54 ?_
      refine z_istore C dX9_liesAt_55 (by decide) [(7, .int (v4 + v6)), (0, .ref (ad 14)), (1, .int v1), (2, .int v2), (3, .int v3), (4, .int v4), (5, .int v5), (6, .int v6)] rfl ?_
      refine z_iload C dX9_liesAt_57 0 rfl ?_
      refine z_iload C dX9_liesAt_59 6 rfl ?_
      refine z_icmp_ge 74 C dX9_liesAt_61 rfl (fun hc => ?_) (fun hc => ?_)
      · replace h := z_it hc h
        refine z_aload_n C dX9_liesAt_74 rfl 1 rfl ?_
        refine z_iload_n C dX9_liesAt_75 rfl 4 rfl ?_
        refine z_iload C dX9_liesAt_76 0 rfl ?_
        refine z_iload C dX9_liesAt_78 6 rfl ?_
        refine z_isub C dX9_liesAt_80 ?_
        obtain ⟨r81, g81, hq81, h⟩ := z_b_some h
        refine z_callVi [] C zc_X9_32 (zk_X_14 kn) rfl (by decide) (Nat.le_of_ble_eq_true rfl) dX9_liesAt_81 rfl (wX9_sign_14 kn ad v3 ((v4 + v6) - v5) g r81 g81 hq81) ?_
        refine z_loc [1, 2, 3, 4, 5, 6, 7] rfl ?_
        exact wX9_liesAt_14_J84 C _ (fun v1 v2 v3 v4 v5 v6 g h => ih v1 v2 v3 v4 v5 v6 g h) v1 v2 v3 v4 v5 v6 r81 g81 h
      · replace h := z_if hc h
        refine z_aload_n C dX9_liesAt_64 rfl 1 rfl ?_
        refine z_iload_n C dX9_liesAt_65 rfl 3 rfl ?_
        refine z_iload C dX9_liesAt_66 0 rfl ?_
        obtain ⟨r68, g68, hq68, h⟩ := z_b_some h
        refine z_callVi [] C zc_X9_32 (zk_X_14 kn) rfl (by decide) (Nat.le_of_ble_eq_true rfl) dX9_liesAt_68 rfl (wX9_sign_14 kn ad v2 (v4 + v6) g r68 g68 hq68) ?_
        refine z_goto 84 C dX9_liesAt_71 rfl ?_
        refine z_loc [1, 2, 3, 4, 5, 6, 7] rfl ?_
        exact wX9_liesAt_14_J84 C _ (fun v1 v2 v3 v4 v5 v6 g h => ih v1 v2 v3 v4 v5 v6 g h) v1 v2 v3 v4 v5 v6 r68 g68 h
set_option maxRecDepth 100000 in
set_option maxHeartbeats 4000000 in
theorem wX9_liesAt_14 (kn : Bool) (ad : Nat → Nat) (v1 : Int32) (v2 : Int32) (v3 : Int32) (v4 : Int32) (g : z_S) (r : Int32) (gE : z_S) (h : fX9_liesAt_14 v1 v2 v3 v4 g = some (r, gE)) : z_M yX9_liesAt cX9_liesAt 9 (some .boolean) 1 22 (layX kn) (nX kn) ad [.ref (ad 14), .int v1, .int v2, .int v3, .int v4] g (some (.int r)) gE := by
  refine z_enter (by decide) (Nat.le_of_ble_eq_true rfl) (fun F C => ?_)
  replace C : z_X F (layX kn) (nX kn) ad cX9_liesAt RX9 9 (some .boolean) 1 22 (some (.int r)) gE := C
  show z_W F (layX kn) (nX kn) ad 0 [(0, .ref (ad 14)), (1, .int v1), (2, .int v2), (3, .int v3), (4, .int v4)] [] g
  unfold fX9_liesAt_14 at h
  refine z_aload_n C dX9_liesAt_0 rfl 0 rfl ?_
  refine z_getr C zf_X9_15 (zo_X_14_2 kn) dX9_liesAt_1 ?_
  refine z_iload_n C dX9_liesAt_4 rfl 2 rfl ?_
  obtain ⟨hi5, h⟩ := z_g_some h
  refine z_iald C (za_X_16 kn) (z_in_vp hi5) dX9_liesAt_5 ?_
  refine z_istore C dX9_liesAt_6 (by decide) [(5, .int (g.1 16 (v2).toNatClampNeg)), (0, .ref (ad 14)), (1, .int v1), (2, .int v2), (3, .int v3), (4, .int v4)] rfl ?_
  refine z_iload C dX9_liesAt_8 5 rfl ?_
  refine z_if_lt 34 C dX9_liesAt_10 rfl (fun hc => ?_) (fun hc => ?_)
  · replace h := z_it hc h
    refine z_iconst C dX9_liesAt_34 zci_0 ?_
    exact z_zret C (by decide) (z_ret1i h) (z_ret2 h) dX9_liesAt_35
  · replace h := z_if hc h
    refine z_iload C dX9_liesAt_13 5 rfl ?_
    refine z_aload_n C dX9_liesAt_15 rfl 1 rfl ?_
    refine z_getr C zf_X9_15 (zo_X_14_2 kn) dX9_liesAt_16 ?_
    refine z_iload_n C dX9_liesAt_19 rfl 2 rfl ?_
    obtain ⟨hi20, h⟩ := z_g_some h
    refine z_iald C (za_X_16 kn) (z_in_vp hi20) dX9_liesAt_20 ?_
    refine z_iadd C dX9_liesAt_21 ?_
    refine z_iload C dX9_liesAt_22 0 rfl ?_
    refine z_aload_n C dX9_liesAt_24 rfl 1 rfl ?_
    refine z_getr C zf_X9_15 (zo_X_14_2 kn) dX9_liesAt_25 ?_
    refine z_iload_n C dX9_liesAt_28 rfl 4 rfl ?_
    obtain ⟨hi29, h⟩ := z_g_some h
    refine z_iald C (za_X_16 kn) (z_in_vp hi29) dX9_liesAt_29 ?_
    refine z_iadd C dX9_liesAt_30 ?_
    refine z_icmp_le 36 C dX9_liesAt_31 rfl (fun hc => ?_) (fun hc => ?_)
    · replace h := z_it hc h
      refine z_iconst C dX9_liesAt_36 zci_0 ?_
      refine z_istore C dX9_liesAt_37 (by decide) [(6, .int 0), (5, .int (g.1 16 (v2).toNatClampNeg)), (0, .ref (ad 14)), (1, .int v1), (2, .int v2), (3, .int v3), (4, .int v4)] rfl ?_
      refine z_loc [2, 3, 4, 5, 6, 1, 0] rfl ?_
      refine wX9_liesAt_14_L39 C  zN v1 v2 v3 v4 (g.1 16 (v2).toNatClampNeg) 0 g h
    · replace h := z_if hc h
      refine z_iconst C dX9_liesAt_34 zci_0 ?_
      exact z_zret C (by decide) (z_ret1i h) (z_ret2 h) dX9_liesAt_35
set_option maxRecDepth 100000 in
set_option maxHeartbeats 4000000 in
theorem wX9_isAlike_14 (kn : Bool) (ad : Nat → Nat) (v1 : Int32) (v2 : Int32) (g : z_S) (r : Int32) (gE : z_S) (h : fX9_isAlike_14 v1 v2 g = some (r, gE)) : z_M yX9_isAlike cX9_isAlike 3 (some .boolean) 2 50 (layX kn) (nX kn) ad [.ref (ad 14), .int v1, .int v2] g (some (.int r)) gE := by
  refine z_enter (by decide) (Nat.le_of_ble_eq_true rfl) (fun F C => ?_)
  replace C : z_X F (layX kn) (nX kn) ad cX9_isAlike RX9 3 (some .boolean) 2 50 (some (.int r)) gE := C
  show z_W F (layX kn) (nX kn) ad 0 [(0, .ref (ad 14)), (1, .int v1), (2, .int v2)] [] g
  unfold fX9_isAlike_14 at h
  refine z_aload_n C dX9_isAlike_0 rfl 0 rfl ?_
  refine z_getr C zf_X9_15 (zo_X_14_2 kn) dX9_isAlike_1 ?_
  refine z_iload_n C dX9_isAlike_4 rfl 1 rfl ?_
  obtain ⟨hi5, h⟩ := z_g_some h
  refine z_iald C (za_X_16 kn) (z_in_vp hi5) dX9_isAlike_5 ?_
  refine z_aload_n C dX9_isAlike_6 rfl 0 rfl ?_
  refine z_getr C zf_X9_15 (zo_X_14_2 kn) dX9_isAlike_7 ?_
  refine z_iload_n C dX9_isAlike_10 rfl 2 rfl ?_
  obtain ⟨hi11, h⟩ := z_g_some h
  refine z_iald C (za_X_16 kn) (z_in_vp hi11) dX9_isAlike_11 ?_
  refine z_icmp_ne 30 C dX9_isAlike_12 rfl (fun hc => ?_) (fun hc => ?_)
  · replace h := z_it hc h
    refine z_aload_n C dX9_isAlike_15 rfl 0 rfl ?_
    refine z_iload_n C dX9_isAlike_16 rfl 1 rfl ?_
    refine z_iload_n C dX9_isAlike_17 rfl 2 rfl ?_
    refine z_iload_n C dX9_isAlike_18 rfl 2 rfl ?_
    refine z_iconst C dX9_isAlike_19 zci_0 ?_
    obtain ⟨r20, g20, hq20, h⟩ := z_b_some h
    refine z_callVi [] C zc_X9_28 (zk_X_14 kn) rfl (by decide) (Nat.le_of_ble_eq_true rfl) dX9_isAlike_20 rfl (wX9_liesAt_14 kn ad v1 v2 v2 0 g r20 g20 hq20) ?_
    refine z_if_eq 30 C dX9_isAlike_23 rfl (fun hc => ?_) (fun hc => ?_)
    · replace h := z_it hc h
      refine z_iconst C dX9_isAlike_30 zci_0 ?_
      exact z_zret C (by decide) (z_ret1i h) (z_ret2 h) dX9_isAlike_31
    · replace h := z_if hc h
      refine z_iconst C dX9_isAlike_26 zci_1 ?_
      refine z_goto 31 C dX9_isAlike_27 rfl ?_
      exact z_zret C (by decide) (z_ret1i h) (z_ret2 h) dX9_isAlike_31
  · replace h := z_if hc h
    refine z_iconst C dX9_isAlike_30 zci_0 ?_
    exact z_zret C (by decide) (z_ret1i h) (z_ret2 h) dX9_isAlike_31
set_option maxRecDepth 100000 in
set_option maxHeartbeats 4000000 in
theorem wX0_isToldAgain_L2 {kn : Bool} {F : z_F} {ad : Nat → Nat} {r : Int32} {gE : z_S} (C : z_X F (layX kn) (nX kn) ad cX0_isToldAgain RX0 3 (some .boolean) 3 72 (some (.int r)) gE) : ∀ (n : Nat) (v1 : Int32) (v2 : Int32) (g : z_S), z_loop fX0_isToldAgain_B2 n (v1, v2) g = some (r, gE) → z_W F (layX kn) (nX kn) ad 2 [(0, .ref (ad 13)), (1, .int v1), (2, .int v2)] [] g := by
  intro n
  induction n with
  | zero =>
    intro v1 v2 g h
    exact (z_loop_0 h).elim
  | succ n ih =>
    intro v1 v2 g h
    replace h := z_loop_S h
    simp only [fX0_isToldAgain_B2] at h
    refine z_iload_n C dX0_isToldAgain_2 rfl 2 rfl ?_
    refine z_iload_n C dX0_isToldAgain_3 rfl 1 rfl ?_
    refine z_icmp_ge 27 C dX0_isToldAgain_4 rfl (fun hc => ?_) (fun hc => ?_)
    · replace h := z_it hc h
      refine z_iconst C dX0_isToldAgain_27 zci_0 ?_
      exact z_zret C (by decide) (z_ret1i h) (z_ret2 h) dX0_isToldAgain_28
    · replace h := z_if hc h
      refine z_aload_n C dX0_isToldAgain_7 rfl 0 rfl ?_
      refine z_getr C zf_X0_12 (zo_X_13_0 kn) dX0_isToldAgain_8 ?_
      refine z_iload_n C dX0_isToldAgain_11 rfl 2 rfl ?_
      refine z_iload_n C dX0_isToldAgain_12 rfl 1 rfl ?_
      obtain ⟨r13, g13, hq13, h⟩ := z_b_some h
      refine z_callVi [] C zc_X0_87 (zk_X_14 kn) rfl (by decide) (Nat.le_of_ble_eq_true rfl) dX0_isToldAgain_13 rfl (wX9_isAlike_14 kn ad v2 v1 g r13 g13 hq13) ?_
      refine z_if_eq 21 C dX0_isToldAgain_16 rfl (fun hc => ?_) (fun hc => ?_)
      · replace h := z_it hc h
        refine z_iinc C dX0_isToldAgain_21 (by decide) 2 rfl (z_incl zci_1) [(2, .int (v2 + 1)), (0, .ref (ad 13)), (1, .int v1)] rfl ?_
        refine z_goto 2 C dX0_isToldAgain_24 rfl ?_
        refine z_loc [1, 2, 0] rfl ?_
        exact ih v1 (v2 + 1) g13 h
      · replace h := z_if hc h
        refine z_iconst C dX0_isToldAgain_19 zci_1 ?_
        exact z_zret C (by decide) (z_ret1i h) (z_ret2 h) dX0_isToldAgain_20
set_option maxRecDepth 100000 in
set_option maxHeartbeats 4000000 in
theorem wX0_isToldAgain (kn : Bool) (ad : Nat → Nat) (v1 : Int32) (g : z_S) (r : Int32) (gE : z_S) (h : fX0_isToldAgain v1 g = some (r, gE)) : z_M yX0_isToldAgain cX0_isToldAgain 3 (some .boolean) 3 72 (layX kn) (nX kn) ad [.ref (ad 13), .int v1] g (some (.int r)) gE := by
  refine z_enter (by decide) (Nat.le_of_ble_eq_true rfl) (fun F C => ?_)
  replace C : z_X F (layX kn) (nX kn) ad cX0_isToldAgain RX0 3 (some .boolean) 3 72 (some (.int r)) gE := C
  show z_W F (layX kn) (nX kn) ad 0 [(0, .ref (ad 13)), (1, .int v1)] [] g
  unfold fX0_isToldAgain at h
  refine z_iconst C dX0_isToldAgain_0 zci_0 ?_
  refine z_istore_n C dX0_isToldAgain_1 rfl (by decide) [(2, .int 0), (0, .ref (ad 13)), (1, .int v1)] rfl ?_
  refine z_loc [1, 2, 0] rfl ?_
  refine wX0_isToldAgain_L2 C  zN v1 0 g h
set_option maxRecDepth 100000 in
set_option maxHeartbeats 4000000 in
theorem wX0_parseLetters_L35 {kn : Bool} {F : z_F} {ad : Nat → Nat} {r : Int32} {gE : z_S} (C : z_X F (layX kn) (nX kn) ad cX0_parseLetters RX0 5 (some .int) 4 94 (some (.int r)) gE) (k80 : z_S → Option (Int32 × z_S)) (k96 : Int32 → z_S → Option (Int32 × z_S)) (k109 : z_S → Option (Int32 × z_S)) (k155 : Int32 → Int32 → Int32 → z_S → Option (Int32 × z_S)) (hk80 : ∀ (g : z_S), k80 g = some (r, gE) → z_W F (layX kn) (nX kn) ad 80 [(0, .ref (ad 13))] [] g) (hk96 : ∀ (v1 : Int32) (g : z_S), k96 v1 g = some (r, gE) → z_W F (layX kn) (nX kn) ad 96 [(0, .ref (ad 13)), (1, .int v1)] [] g) (hk109 : ∀ (g : z_S), k109 g = some (r, gE) → z_W F (layX kn) (nX kn) ad 109 [(0, .ref (ad 13))] [] g) (hk155 : ∀ (v1 : Int32) (v2 : Int32) (v3 : Int32) (g : z_S), k155 v1 v2 v3 g = some (r, gE) → z_W F (layX kn) (nX kn) ad 155 [(0, .ref (ad 13)), (1, .int v1), (2, .int v2), (3, .int v3)] [] g) : ∀ (n : Nat) (v1 : Int32) (v2 : Int32) (v3 : Int32) (g : z_S), z_loop (fX0_parseLetters_B35 k80 k96 k109 k155) n (v1, v2, v3) g = some (r, gE) → z_W F (layX kn) (nX kn) ad 35 [(0, .ref (ad 13)), (1, .int v1), (2, .int v2), (3, .int v3)] [] g := by
  intro n
  induction n with
  | zero =>
    intro v1 v2 v3 g h
    exact (z_loop_0 h).elim
  | succ n ih =>
    intro v1 v2 v3 g h
    replace h := z_loop_S h
    simp only [fX0_parseLetters_B35] at h
    refine z_aload_n C dX0_parseLetters_35 rfl 0 rfl ?_
    refine z_geti C zf_X0_33 (zo_X_13_4 kn) dX0_parseLetters_36 ?_
    refine z_aload_n C dX0_parseLetters_39 rfl 0 rfl ?_
    refine z_getr C zf_X0_22 (zo_X_13_2 kn) dX0_parseLetters_40 ?_
    refine z_geti C zf_X0_39 (zo_X_9_1 kn) dX0_parseLetters_43 ?_
    refine z_icmp_ge 155 C dX0_parseLetters_46 rfl (fun hc => ?_) (fun hc => ?_)
    · replace h := z_it hc h
      exact hk155 v1 v2 v3 g h
    · replace h := z_if hc h
      refine z_aload_n C dX0_parseLetters_49 rfl 0 rfl ?_
      obtain ⟨r50, g50, hq50, h⟩ := z_b_some h
      refine z_callVi [] C zc_X0_55 (zk_X_13 kn) rfl (by decide) (Nat.le_of_ble_eq_true rfl) dX0_parseLetters_50 rfl (wX0_here kn ad g r50 g50 hq50) ?_
      obtain ⟨r53, g53, hq53, h⟩ := z_b_some h
      refine z_callSi [] C zc_X0_62 rfl (by decide) (Nat.le_of_ble_eq_true rfl) dX0_parseLetters_53 rfl (wX0_isLetter kn ad r50 g50 r53 g53 hq53) ?_
      refine z_if_eq 155 C dX0_parseLetters_56 rfl (fun hc => ?_) (fun hc => ?_)
      · replace h := z_it hc h
        exact hk155 v1 v2 v3 g53 h
      · replace h := z_if hc h
        refine z_aload_n C dX0_parseLetters_59 rfl 0 rfl ?_
        obtain ⟨r60, g60, hq60, h⟩ := z_b_some h
        refine z_callVi [] C zc_X0_55 (zk_X_13 kn) rfl (by decide) (Nat.le_of_ble_eq_true rfl) dX0_parseLetters_60 rfl (wX0_here kn ad g53 r60 g60 hq60) ?_
        refine z_bipush C dX0_parseLetters_63 zcb_97 ?_
        refine z_isub C dX0_parseLetters_65 ?_
        refine z_istore C dX0_parseLetters_66 (by decide) [(4, .int (r60 - 97)), (0, .ref (ad 13)), (1, .int v1), (2, .int v2), (3, .int v3)] rfl ?_
        refine z_iload C dX0_parseLetters_68 0 rfl ?_
        refine z_aload_n C dX0_parseLetters_70 rfl 1 rfl ?_
        refine z_getr C zf_X0_26 (zo_X_13_3 kn) dX0_parseLetters_71 ?_
        refine z_geti C zf_X0_66 (zo_X_1_0 kn) dX0_parseLetters_74 ?_
        refine z_icmp_lt 90 C dX0_parseLetters_77 rfl (fun hc => ?_) (fun hc => ?_)
        · replace h := z_it hc h
          refine z_iload_n C dX0_parseLetters_90 rfl 3 rfl ?_
          refine z_bipush C dX0_parseLetters_91 zcb_16 ?_
          refine z_icmp_lt 103 C dX0_parseLetters_93 rfl (fun hc => ?_) (fun hc => ?_)
          · replace h := z_it hc h
            refine z_iload_n C dX0_parseLetters_103 rfl 4 rfl ?_
            refine z_bipush C dX0_parseLetters_104 zcb_8 ?_
            refine z_icmp_lt 119 C dX0_parseLetters_106 rfl (fun hc => ?_) (fun hc => ?_)
            · replace h := z_it hc h
              refine z_aload_n C dX0_parseLetters_119 rfl 1 rfl ?_
              refine z_getr C zf_X0_12 (zo_X_13_0 kn) dX0_parseLetters_120 ?_
              refine z_getr C zf_X0_71 (zo_X_14_1 kn) dX0_parseLetters_123 ?_
              refine z_iload_n C dX0_parseLetters_126 rfl 3 rfl ?_
              refine z_bipush C dX0_parseLetters_127 zcb_8 ?_
              refine z_imul C dX0_parseLetters_129 ?_
              refine z_iload_n C dX0_parseLetters_130 rfl 4 rfl ?_
              refine z_iadd C dX0_parseLetters_131 ?_
              refine z_iload C dX0_parseLetters_132 0 rfl ?_
              obtain ⟨hi134, h⟩ := z_g_some h
              obtain ⟨g134, eg134, h⟩ := z_s_some h
              refine z_iast C (za_X_15 kn) (z_in_vp hi134) dX0_parseLetters_134 ?_
              refine z_gw eg134 ?_
              refine z_iinc C dX0_parseLetters_135 (by decide) 4 rfl (z_incl zci_1) [(3, .int (v3 + 1)), (4, .int (r60 - 97)), (0, .ref (ad 13)), (1, .int v1), (2, .int v2)] rfl ?_
              refine z_aload_n C dX0_parseLetters_138 rfl 2 rfl ?_
              refine z_dup C dX0_parseLetters_139 rfl ?_
              refine z_geti C zf_X0_33 (zo_X_13_4 kn) dX0_parseLetters_140 ?_
              refine z_iconst C dX0_parseLetters_143 zci_1 ?_
              refine z_iadd C dX0_parseLetters_144 ?_
              obtain ⟨g145, eg145, h⟩ := z_s_some h
              refine z_puti C zp_X0_33 (zo_X_13_4 kn) rfl rfl dX0_parseLetters_145 ?_
              refine z_gw eg145 ?_
              refine z_aload_n C dX0_parseLetters_148 rfl 2 rfl ?_
              obtain ⟨r149, g149, hq149, h⟩ := z_b_some h
              refine z_callVv [] C zc_X0_36 (zk_X_13 kn) rfl (by decide) (Nat.le_of_ble_eq_true rfl) dX0_parseLetters_149 rfl (wX0_skipBlanks kn ad g145 g149 hq149) ?_
              refine z_goto 35 C dX0_parseLetters_152 rfl ?_
              refine z_loc [2, 3, 4, 0] rfl ?_
              exact ih v1 v2 (v3 + 1) g149 h
            · replace h := z_if hc h
              refine z_loc [1] rfl ?_
              exact hk109 g60 h
          · replace h := z_if hc h
            refine z_loc [1, 2] rfl ?_
            exact hk96 v1 g60 h
        · replace h := z_if hc h
          refine z_loc [1] rfl ?_
          exact hk80 g60 h
set_option maxRecDepth 100000 in
set_option maxHeartbeats 4000000 in
theorem wX0_parseLetters (kn : Bool) (ad : Nat → Nat) (g : z_S) (r : Int32) (gE : z_S) (h : fX0_parseLetters g = some (r, gE)) : z_M yX0_parseLetters cX0_parseLetters 5 (some .int) 4 94 (layX kn) (nX kn) ad [.ref (ad 13)] g (some (.int r)) gE := by
  refine z_enter (by decide) (Nat.le_of_ble_eq_true rfl) (fun F C => ?_)
  replace C : z_X F (layX kn) (nX kn) ad cX0_parseLetters RX0 5 (some .int) 4 94 (some (.int r)) gE := C
  show z_W F (layX kn) (nX kn) ad 0 [(0, .ref (ad 13))] [] g
  unfold fX0_parseLetters at h
  refine z_aload_n C dX0_parseLetters_0 rfl 0 rfl ?_
  refine z_geti C zf_X0_33 (zo_X_13_4 kn) dX0_parseLetters_1 ?_
  refine z_istore_n C dX0_parseLetters_4 rfl (by decide) [(1, .int (g.1 13 4)), (0, .ref (ad 13))] rfl ?_
  refine z_aload_n C dX0_parseLetters_5 rfl 1 rfl ?_
  obtain ⟨r6, g6, hq6, h⟩ := z_b_some h
  refine z_callVi [] C zc_X0_55 (zk_X_13 kn) rfl (by decide) (Nat.le_of_ble_eq_true rfl) dX0_parseLetters_6 rfl (wX0_here kn ad g r6 g6 hq6) ?_
  obtain ⟨r9, g9, hq9, h⟩ := z_b_some h
  refine z_callSi [] C zc_X0_62 rfl (by decide) (Nat.le_of_ble_eq_true rfl) dX0_parseLetters_9 rfl (wX0_isLetter kn ad r6 g6 r9 g9 hq9) ?_
  refine z_if_ne 25 C dX0_parseLetters_12 rfl (fun hc => ?_) (fun hc => ?_)
  · replace h := z_it hc h
    refine z_aload_n C dX0_parseLetters_15 rfl 1 rfl ?_
    refine z_iconst C dX0_parseLetters_16 zci_1 ?_
    refine z_aload_n C dX0_parseLetters_17 rfl 1 rfl ?_
    refine z_geti C zf_X0_33 (zo_X_13_4 kn) dX0_parseLetters_18 ?_
    obtain ⟨r21, g21, hq21, h⟩ := z_b_some h
    refine z_callVi [] C zc_X0_58 (zk_X_13 kn) rfl (by decide) (Nat.le_of_ble_eq_true rfl) dX0_parseLetters_21 rfl (wX0_blame kn ad 1 (g9.1 13 4) g9 r21 g21 hq21) ?_
    exact z_iret C (z_ret1i h) (z_ret2 h) dX0_parseLetters_24
  · replace h := z_if hc h
    refine z_aload_n C dX0_parseLetters_25 rfl 1 rfl ?_
    refine z_getr C zf_X0_12 (zo_X_13_0 kn) dX0_parseLetters_26 ?_
    refine z_geti C zf_X0_30 (zo_X_14_0 kn) dX0_parseLetters_29 ?_
    refine z_istore_n C dX0_parseLetters_32 rfl (by decide) [(2, .int (g9.1 14 0)), (1, .int (g.1 13 4)), (0, .ref (ad 13))] rfl ?_
    refine z_iconst C dX0_parseLetters_33 zci_0 ?_
    refine z_istore_n C dX0_parseLetters_34 rfl (by decide) [(3, .int 0), (2, .int (g9.1 14 0)), (1, .int (g.1 13 4)), (0, .ref (ad 13))] rfl ?_
    refine z_loc [3, 2, 1, 0] rfl ?_
    refine wX0_parseLetters_L35 C _ _ _ _ ?_ ?_ ?_ ?_ zN (g.1 13 4) (g9.1 14 0) 0 g9 h
    · intro g h
      refine z_aload_n C dX0_parseLetters_80 rfl 0 rfl ?_
      refine z_iconst C dX0_parseLetters_81 zci_2 ?_
      refine z_aload_n C dX0_parseLetters_82 rfl 0 rfl ?_
      refine z_geti C zf_X0_33 (zo_X_13_4 kn) dX0_parseLetters_83 ?_
      obtain ⟨r86, g86, hq86, h⟩ := z_b_some h
      refine z_callVi [] C zc_X0_58 (zk_X_13 kn) rfl (by decide) (Nat.le_of_ble_eq_true rfl) dX0_parseLetters_86 rfl (wX0_blame kn ad 2 (g.1 13 4) g r86 g86 hq86) ?_
      exact z_iret C (z_ret1i h) (z_ret2 h) dX0_parseLetters_89
    · intro v1 g h
      refine z_aload_n C dX0_parseLetters_96 rfl 0 rfl ?_
      refine z_iconst C dX0_parseLetters_97 zci_5 ?_
      refine z_iload_n C dX0_parseLetters_98 rfl 1 rfl ?_
      obtain ⟨r99, g99, hq99, h⟩ := z_b_some h
      refine z_callVi [] C zc_X0_58 (zk_X_13 kn) rfl (by decide) (Nat.le_of_ble_eq_true rfl) dX0_parseLetters_99 rfl (wX0_blame kn ad 5 v1 g r99 g99 hq99) ?_
      exact z_iret C (z_ret1i h) (z_ret2 h) dX0_parseLetters_102
    · intro g h
      refine z_aload_n C dX0_parseLetters_109 rfl 0 rfl ?_
      refine z_iconst C dX0_parseLetters_110 zci_3 ?_
      refine z_aload_n C dX0_parseLetters_111 rfl 0 rfl ?_
      refine z_geti C zf_X0_33 (zo_X_13_4 kn) dX0_parseLetters_112 ?_
      obtain ⟨r115, g115, hq115, h⟩ := z_b_some h
      refine z_callVi [] C zc_X0_58 (zk_X_13 kn) rfl (by decide) (Nat.le_of_ble_eq_true rfl) dX0_parseLetters_115 rfl (wX0_blame kn ad 3 (g.1 13 4) g r115 g115 hq115) ?_
      exact z_iret C (z_ret1i h) (z_ret2 h) dX0_parseLetters_118
    · intro v1 v2 v3 g h
      refine z_aload_n C dX0_parseLetters_155 rfl 0 rfl ?_
      refine z_getr C zf_X0_12 (zo_X_13_0 kn) dX0_parseLetters_156 ?_
      refine z_getr C zf_X0_75 (zo_X_14_2 kn) dX0_parseLetters_159 ?_
      refine z_iload_n C dX0_parseLetters_162 rfl 2 rfl ?_
      refine z_iload_n C dX0_parseLetters_163 rfl 3 rfl ?_
      obtain ⟨hi164, h⟩ := z_g_some h
      obtain ⟨g164, eg164, h⟩ := z_s_some h
      refine z_iast C (za_X_16 kn) (z_in_vp hi164) dX0_parseLetters_164 ?_
      refine z_gw eg164 ?_
      refine z_aload_n C dX0_parseLetters_165 rfl 0 rfl ?_
      refine z_getr C zf_X0_12 (zo_X_13_0 kn) dX0_parseLetters_166 ?_
      refine z_getr C zf_X0_78 (zo_X_14_3 kn) dX0_parseLetters_169 ?_
      refine z_iload_n C dX0_parseLetters_172 rfl 2 rfl ?_
      refine z_iconst C dX0_parseLetters_173 zci_1 ?_
      obtain ⟨hi174, h⟩ := z_g_some h
      obtain ⟨g174, eg174, h⟩ := z_s_some h
      refine z_iast C (za_X_17 kn) (z_in_vp hi174) dX0_parseLetters_174 ?_
      refine z_gw eg174 ?_
      refine z_aload_n C dX0_parseLetters_175 rfl 0 rfl ?_
      refine z_getr C zf_X0_12 (zo_X_13_0 kn) dX0_parseLetters_176 ?_
      refine z_getr C zf_X0_81 (zo_X_14_4 kn) dX0_parseLetters_179 ?_
      refine z_iload_n C dX0_parseLetters_182 rfl 2 rfl ?_
      refine z_iconst C dX0_parseLetters_183 zci_0 ?_
      obtain ⟨hi184, h⟩ := z_g_some h
      obtain ⟨g184, eg184, h⟩ := z_s_some h
      refine z_iast C (za_X_18 kn) (z_in_vp hi184) dX0_parseLetters_184 ?_
      refine z_gw eg184 ?_
      refine z_aload_n C dX0_parseLetters_185 rfl 0 rfl ?_
      refine z_iload_n C dX0_parseLetters_186 rfl 2 rfl ?_
      obtain ⟨r187, g187, hq187, h⟩ := z_b_some h
      refine z_callVi [] C zc_X0_84 (zk_X_13 kn) rfl (by decide) (Nat.le_of_ble_eq_true rfl) dX0_parseLetters_187 rfl (wX0_isToldAgain kn ad v2 g184 r187 g187 hq187) ?_
      refine z_if_eq 202 C dX0_parseLetters_190 rfl (fun hc => ?_) (fun hc => ?_)
      · replace h := z_it hc h
        refine z_iconst C dX0_parseLetters_202 zci_0 ?_
        exact z_iret C (z_ret1i h) (z_ret2 h) dX0_parseLetters_203
      · replace h := z_if hc h
        refine z_aload_n C dX0_parseLetters_193 rfl 0 rfl ?_
        refine z_iconst C dX0_parseLetters_194 zci_4 ?_
        refine z_iload_n C dX0_parseLetters_195 rfl 1 rfl ?_
        obtain ⟨r196, g196, hq196, h⟩ := z_b_some h
        refine z_callVi [] C zc_X0_58 (zk_X_13 kn) rfl (by decide) (Nat.le_of_ble_eq_true rfl) dX0_parseLetters_196 rfl (wX0_blame kn ad 4 v1 g187 r196 g196 hq196) ?_
        refine z_goto 203 C dX0_parseLetters_199 rfl ?_
        exact z_iret C (z_ret1i h) (z_ret2 h) dX0_parseLetters_203
set_option maxRecDepth 100000 in
set_option maxHeartbeats 4000000 in
theorem wX0_isFigure (kn : Bool) (ad : Nat → Nat) (v0 : Int32) (g : z_S) (r : Int32) (gE : z_S) (h : fX0_isFigure v0 g = some (r, gE)) : z_M yX0_isFigure cX0_isFigure 1 (some .boolean) 0 0 (layX kn) (nX kn) ad [.int v0] g (some (.int r)) gE := by
  refine z_enter (by decide) (Nat.le_of_ble_eq_true rfl) (fun F C => ?_)
  replace C : z_X F (layX kn) (nX kn) ad cX0_isFigure RX0 1 (some .boolean) 0 0 (some (.int r)) gE := C
  show z_W F (layX kn) (nX kn) ad 0 [(0, .int v0)] [] g
  unfold fX0_isFigure at h
  refine z_iload_n C dX0_isFigure_0 rfl 0 rfl ?_
  refine z_bipush C dX0_isFigure_1 zcb_48 ?_
  refine z_icmp_lt 16 C dX0_isFigure_3 rfl (fun hc => ?_) (fun hc => ?_)
  · replace h := z_it hc h
    refine z_iconst C dX0_isFigure_16 zci_0 ?_
    exact z_zret C (by decide) (z_ret1i h) (z_ret2 h) dX0_isFigure_17
  · replace h := z_if hc h
    refine z_iload_n C dX0_isFigure_6 rfl 0 rfl ?_
    refine z_bipush C dX0_isFigure_7 zcb_57 ?_
    refine z_icmp_gt 16 C dX0_isFigure_9 rfl (fun hc => ?_) (fun hc => ?_)
    · replace h := z_it hc h
      refine z_iconst C dX0_isFigure_16 zci_0 ?_
      exact z_zret C (by decide) (z_ret1i h) (z_ret2 h) dX0_isFigure_17
    · replace h := z_if hc h
      refine z_iconst C dX0_isFigure_12 zci_1 ?_
      refine z_goto 17 C dX0_isFigure_13 rfl ?_
      exact z_zret C (by decide) (z_ret1i h) (z_ret2 h) dX0_isFigure_17
set_option maxRecDepth 100000 in
set_option maxHeartbeats 4000000 in
theorem wX0_parseNumber_L38 {kn : Bool} {F : z_F} {ad : Nat → Nat} {r : Int32} {gE : z_S} (C : z_X F (layX kn) (nX kn) ad cX0_parseNumber RX0 6 (some .int) 2 40 (some (.int r)) gE) (k95 : Int32 → Int32 → Int32 → Int32 → z_S → Option (Int32 × z_S)) (hk95 : ∀ (v2 : Int32) (v3 : Int32) (v4 : Int32) (v5 : Int32) (g : z_S), k95 v2 v3 v4 v5 g = some (r, gE) → z_W F (layX kn) (nX kn) ad 95 [(0, .ref (ad 13)), (2, .int v2), (3, .int v3), (4, .int v4), (5, .int v5)] [] g) : ∀ (n : Nat) (v2 : Int32) (v3 : Int32) (v4 : Int32) (v5 : Int32) (g : z_S), z_loop (fX0_parseNumber_B38 k95) n (v2, v3, v4, v5) g = some (r, gE) → z_W F (layX kn) (nX kn) ad 38 [(0, .ref (ad 13)), (2, .int v2), (3, .int v3), (4, .int v4), (5, .int v5)] [] g := by
  intro n
  induction n with
  | zero =>
    intro v2 v3 v4 v5 g h
    exact (z_loop_0 h).elim
  | succ n ih =>
    intro v2 v3 v4 v5 g h
    replace h := z_loop_S h
    simp only [fX0_parseNumber_B38] at h
    refine z_aload_n C dX0_parseNumber_38 rfl 0 rfl ?_
    refine z_geti C zf_X0_33 (zo_X_13_4 kn) dX0_parseNumber_39 ?_
    refine z_aload_n C dX0_parseNumber_42 rfl 0 rfl ?_
    refine z_getr C zf_X0_22 (zo_X_13_2 kn) dX0_parseNumber_43 ?_
    refine z_geti C zf_X0_39 (zo_X_9_1 kn) dX0_parseNumber_46 ?_
    refine z_icmp_ge 95 C dX0_parseNumber_49 rfl (fun hc => ?_) (fun hc => ?_)
    · replace h := z_it hc h
      exact hk95 v2 v3 v4 v5 g h
    · replace h := z_if hc h
      refine z_aload_n C dX0_parseNumber_52 rfl 0 rfl ?_
      obtain ⟨r53, g53, hq53, h⟩ := z_b_some h
      refine z_callVi [] C zc_X0_55 (zk_X_13 kn) rfl (by decide) (Nat.le_of_ble_eq_true rfl) dX0_parseNumber_53 rfl (wX0_here kn ad g r53 g53 hq53) ?_
      obtain ⟨r56, g56, hq56, h⟩ := z_b_some h
      refine z_callSi [] C zc_X0_98 rfl (by decide) (Nat.le_of_ble_eq_true rfl) dX0_parseNumber_56 rfl (wX0_isFigure kn ad r53 g53 r56 g56 hq56) ?_
      refine z_if_eq 95 C dX0_parseNumber_59 rfl (fun hc => ?_) (fun hc => ?_)
      · replace h := z_it hc h
        exact hk95 v2 v3 v4 v5 g56 h
      · replace h := z_if hc h
        refine z_iload C dX0_parseNumber_62 4 rfl ?_
        refine z_bipush C dX0_parseNumber_64 zcb_10 ?_
        refine z_imul C dX0_parseNumber_66 ?_
        refine z_aload_n C dX0_parseNumber_67 rfl 0 rfl ?_
        obtain ⟨r68, g68, hq68, h⟩ := z_b_some h
        refine z_callVi [.int (v5 * 10)] C zc_X0_55 (zk_X_13 kn) rfl (by decide) (Nat.le_of_ble_eq_true rfl) dX0_parseNumber_68 rfl (wX0_here kn ad g56 r68 g68 hq68) ?_
        refine z_iadd C dX0_parseNumber_71 ?_
        refine z_bipush C dX0_parseNumber_72 zcb_48 ?_
        refine z_isub C dX0_parseNumber_74 ?_
        refine z_bipush C dX0_parseNumber_75 zcb_100 ?_
        refine z_mmin C zm_X0_101 zms_i zmi zmc_i (by decide) (Nat.le_of_ble_eq_true rfl) dX0_parseNumber_77 ?_
        refine z_istore C dX0_parseNumber_80 (by decide) [(5, .int (if 100 < ((v5 * 10) + r68) - 48 then 100 else ((v5 * 10) + r68) - 48)), (0, .ref (ad 13)), (2, .int v2), (3, .int v3), (4, .int v4)] rfl ?_
        refine z_aload_n C dX0_parseNumber_82 rfl 1 rfl ?_
        refine z_dup C dX0_parseNumber_83 rfl ?_
        refine z_geti C zf_X0_33 (zo_X_13_4 kn) dX0_parseNumber_84 ?_
        refine z_iconst C dX0_parseNumber_87 zci_1 ?_
        refine z_iadd C dX0_parseNumber_88 ?_
        obtain ⟨g89, eg89, h⟩ := z_s_some h
        refine z_puti C zp_X0_33 (zo_X_13_4 kn) rfl rfl dX0_parseNumber_89 ?_
        refine z_gw eg89 ?_
        refine z_goto 38 C dX0_parseNumber_92 rfl ?_
        refine z_loc [1, 2, 3, 4, 0] rfl ?_
        exact ih v2 v3 v4 (if 100 < ((v5 * 10) + r68) - 48 then 100 else ((v5 * 10) + r68) - 48) g89 h
set_option maxRecDepth 100000 in
set_option maxHeartbeats 4000000 in
theorem wX0_parseNumber_J131 {kn : Bool} {F : z_F} {ad : Nat → Nat} {r : Int32} {gE : z_S} (C : z_X F (layX kn) (nX kn) ad cX0_parseNumber RX0 6 (some .int) 2 40 (some (.int r)) gE) (v4 : Int32) (g : z_S) (h : fX0_parseNumber_J131 v4 g = some (r, gE)) : z_W F (layX kn) (nX kn) ad 131 [(0, .ref (ad 13)), (4, .int v4)] [] g := by
  unfold fX0_parseNumber_J131 at h
  refine z_aload_n C dX0_parseNumber_131 rfl 0 rfl ?_
  refine z_iconst C dX0_parseNumber_132 zci_2 ?_
  refine z_iload C dX0_parseNumber_133 1 rfl ?_
  obtain ⟨r135, g135, hq135, h⟩ := z_b_some h
  refine z_callVi [] C zc_X0_58 (zk_X_13 kn) rfl (by decide) (Nat.le_of_ble_eq_true rfl) dX0_parseNumber_135 rfl (wX0_blame kn ad 2 v4 g r135 g135 hq135) ?_
  exact z_iret C (z_ret1i h) (z_ret2 h) dX0_parseNumber_138
set_option maxRecDepth 100000 in
set_option maxHeartbeats 4000000 in
theorem wX0_parseNumber (kn : Bool) (ad : Nat → Nat) (v1 : Int32) (v2 : Int32) (v3 : Int32) (g : z_S) (r : Int32) (gE : z_S) (h : fX0_parseNumber v1 v2 v3 g = some (r, gE)) : z_M yX0_parseNumber cX0_parseNumber 6 (some .int) 2 40 (layX kn) (nX kn) ad [.ref (ad 13), .int v1, .int v2, .int v3] g (some (.int r)) gE := by
  refine z_enter (by decide) (Nat.le_of_ble_eq_true rfl) (fun F C => ?_)
  replace C : z_X F (layX kn) (nX kn) ad cX0_parseNumber RX0 6 (some .int) 2 40 (some (.int r)) gE := C
  show z_W F (layX kn) (nX kn) ad 0 [(0, .ref (ad 13)), (1, .int v1), (2, .int v2), (3, .int v3)] [] g
  unfold fX0_parseNumber at h
  refine z_aload_n C dX0_parseNumber_0 rfl 0 rfl ?_
  refine z_iconst C dX0_parseNumber_1 zci_m1 ?_
  obtain ⟨g2, eg2, h⟩ := z_s_some h
  refine z_puti C zp_X0_95 (zo_X_13_5 kn) rfl rfl dX0_parseNumber_2 ?_
  refine z_gw eg2 ?_
  refine z_aload_n C dX0_parseNumber_5 rfl 0 rfl ?_
  obtain ⟨r6, g6, hq6, h⟩ := z_b_some h
  refine z_callVi [] C zc_X0_55 (zk_X_13 kn) rfl (by decide) (Nat.le_of_ble_eq_true rfl) dX0_parseNumber_6 rfl (wX0_here kn ad g2 r6 g6 hq6) ?_
  refine z_iload_n C dX0_parseNumber_9 rfl 1 rfl ?_
  refine z_icmp_eq 15 C dX0_parseNumber_10 rfl (fun hc => ?_) (fun hc => ?_)
  · replace h := z_it hc h
    refine z_aload_n C dX0_parseNumber_15 rfl 0 rfl ?_
    refine z_dup C dX0_parseNumber_16 rfl ?_
    refine z_geti C zf_X0_33 (zo_X_13_4 kn) dX0_parseNumber_17 ?_
    refine z_iconst C dX0_parseNumber_20 zci_1 ?_
    refine z_iadd C dX0_parseNumber_21 ?_
    obtain ⟨g22, eg22, h⟩ := z_s_some h
    refine z_puti C zp_X0_33 (zo_X_13_4 kn) rfl rfl dX0_parseNumber_22 ?_
    refine z_gw eg22 ?_
    refine z_aload_n C dX0_parseNumber_25 rfl 0 rfl ?_
    obtain ⟨r26, g26, hq26, h⟩ := z_b_some h
    refine z_callVv [] C zc_X0_36 (zk_X_13 kn) rfl (by decide) (Nat.le_of_ble_eq_true rfl) dX0_parseNumber_26 rfl (wX0_skipBlanks kn ad g22 g26 hq26) ?_
    refine z_aload_n C dX0_parseNumber_29 rfl 0 rfl ?_
    refine z_geti C zf_X0_33 (zo_X_13_4 kn) dX0_parseNumber_30 ?_
    refine z_istore C dX0_parseNumber_33 (by decide) [(4, .int (g26.1 13 4)), (0, .ref (ad 13)), (1, .int v1), (2, .int v2), (3, .int v3)] rfl ?_
    refine z_iconst C dX0_parseNumber_35 zci_0 ?_
    refine z_istore C dX0_parseNumber_36 (by decide) [(5, .int 0), (4, .int (g26.1 13 4)), (0, .ref (ad 13)), (1, .int v1), (2, .int v2), (3, .int v3)] rfl ?_
    refine z_loc [2, 4, 5, 1, 0] rfl ?_
    refine wX0_parseNumber_L38 C _ ?_ zN v2 v3 (g26.1 13 4) 0 g26 h
    · intro v2 v3 v4 v5 g h
      refine z_aload_n C dX0_parseNumber_95 rfl 0 rfl ?_
      refine z_geti C zf_X0_33 (zo_X_13_4 kn) dX0_parseNumber_96 ?_
      refine z_iload C dX0_parseNumber_99 3 rfl ?_
      refine z_icmp_ne 114 C dX0_parseNumber_101 rfl (fun hc => ?_) (fun hc => ?_)
      · replace h := z_it hc h
        refine z_aload_n C dX0_parseNumber_104 rfl 0 rfl ?_
        refine z_iconst C dX0_parseNumber_105 zci_1 ?_
        refine z_aload_n C dX0_parseNumber_106 rfl 0 rfl ?_
        refine z_geti C zf_X0_33 (zo_X_13_4 kn) dX0_parseNumber_107 ?_
        obtain ⟨r110, g110, hq110, h⟩ := z_b_some h
        refine z_callVi [] C zc_X0_58 (zk_X_13 kn) rfl (by decide) (Nat.le_of_ble_eq_true rfl) dX0_parseNumber_110 rfl (wX0_blame kn ad 1 (g.1 13 4) g r110 g110 hq110) ?_
        exact z_iret C (z_ret1i h) (z_ret2 h) dX0_parseNumber_113
      · replace h := z_if hc h
        refine z_aload_n C dX0_parseNumber_114 rfl 0 rfl ?_
        refine z_geti C zf_X0_33 (zo_X_13_4 kn) dX0_parseNumber_115 ?_
        refine z_iload C dX0_parseNumber_118 3 rfl ?_
        refine z_isub C dX0_parseNumber_120 ?_
        refine z_iload_n C dX0_parseNumber_121 rfl 1 rfl ?_
        refine z_icmp_gt 131 C dX0_parseNumber_122 rfl (fun hc => ?_) (fun hc => ?_)
        · replace h := z_it hc h
          refine z_loc [0, 3] rfl ?_
          exact wX0_parseNumber_J131 C v4 g h
        · replace h := z_if hc h
          refine z_iload C dX0_parseNumber_125 4 rfl ?_
          refine z_iload_n C dX0_parseNumber_127 rfl 2 rfl ?_
          refine z_icmp_le 139 C dX0_parseNumber_128 rfl (fun hc => ?_) (fun hc => ?_)
          · replace h := z_it hc h
            refine z_aload_n C dX0_parseNumber_139 rfl 0 rfl ?_
            refine z_iload C dX0_parseNumber_140 4 rfl ?_
            obtain ⟨g142, eg142, h⟩ := z_s_some h
            refine z_puti C zp_X0_95 (zo_X_13_5 kn) rfl rfl dX0_parseNumber_142 ?_
            refine z_gw eg142 ?_
            refine z_aload_n C dX0_parseNumber_145 rfl 0 rfl ?_
            obtain ⟨r146, g146, hq146, h⟩ := z_b_some h
            refine z_callVv [] C zc_X0_36 (zk_X_13 kn) rfl (by decide) (Nat.le_of_ble_eq_true rfl) dX0_parseNumber_146 rfl (wX0_skipBlanks kn ad g142 g146 hq146) ?_
            refine z_iconst C dX0_parseNumber_149 zci_0 ?_
            exact z_iret C (z_ret1i h) (z_ret2 h) dX0_parseNumber_150
          · replace h := z_if hc h
            refine z_loc [0, 3] rfl ?_
            exact wX0_parseNumber_J131 C v4 g h
  · replace h := z_if hc h
    refine z_iconst C dX0_parseNumber_13 zci_0 ?_
    exact z_iret C (z_ret1i h) (z_ret2 h) dX0_parseNumber_14
set_option maxRecDepth 100000 in
set_option maxHeartbeats 4000000 in
theorem wX0_parseCost (kn : Bool) (ad : Nat → Nat) (g : z_S) (r : Int32) (gE : z_S) (h : fX0_parseCost g = some (r, gE)) : z_M yX0_parseCost cX0_parseCost 2 (some .int) 3 65 (layX kn) (nX kn) ad [.ref (ad 13)] g (some (.int r)) gE := by
  refine z_enter (by decide) (Nat.le_of_ble_eq_true rfl) (fun F C => ?_)
  replace C : z_X F (layX kn) (nX kn) ad cX0_parseCost RX0 2 (some .int) 3 65 (some (.int r)) gE := C
  show z_W F (layX kn) (nX kn) ad 0 [(0, .ref (ad 13))] [] g
  unfold fX0_parseCost at h
  refine z_aload_n C dX0_parseCost_0 rfl 0 rfl ?_
  refine z_bipush C dX0_parseCost_1 zcb_58 ?_
  refine z_iconst C dX0_parseCost_3 zci_2 ?_
  refine z_bipush C dX0_parseCost_4 zcb_99 ?_
  obtain ⟨r6, g6, hq6, h⟩ := z_b_some h
  refine z_callVi [] C zc_X0_91 (zk_X_13 kn) rfl (by decide) (Nat.le_of_ble_eq_true rfl) dX0_parseCost_6 rfl (wX0_parseNumber kn ad 58 2 99 g r6 g6 hq6) ?_
  refine z_istore_n C dX0_parseCost_9 rfl (by decide) [(1, .int r6), (0, .ref (ad 13))] rfl ?_
  refine z_iload_n C dX0_parseCost_10 rfl 0 rfl ?_
  refine z_if_ne 41 C dX0_parseCost_11 rfl (fun hc => ?_) (fun hc => ?_)
  · replace h := z_it hc h
    refine z_aload_n C dX0_parseCost_14 rfl 1 rfl ?_
    refine z_geti C zf_X0_95 (zo_X_13_5 kn) dX0_parseCost_15 ?_
    refine z_iconst C dX0_parseCost_18 zci_m1 ?_
    refine z_icmp_eq 41 C dX0_parseCost_19 rfl (fun hc => ?_) (fun hc => ?_)
    · replace h := z_it hc h
      refine z_iload_n C dX0_parseCost_41 rfl 0 rfl ?_
      exact z_iret C (z_ret1i h) (z_ret2 h) dX0_parseCost_42
    · replace h := z_if hc h
      refine z_aload_n C dX0_parseCost_22 rfl 1 rfl ?_
      refine z_getr C zf_X0_12 (zo_X_13_0 kn) dX0_parseCost_23 ?_
      refine z_getr C zf_X0_78 (zo_X_14_3 kn) dX0_parseCost_26 ?_
      refine z_aload_n C dX0_parseCost_29 rfl 1 rfl ?_
      refine z_getr C zf_X0_12 (zo_X_13_0 kn) dX0_parseCost_30 ?_
      refine z_geti C zf_X0_30 (zo_X_14_0 kn) dX0_parseCost_33 ?_
      refine z_aload_n C dX0_parseCost_36 rfl 1 rfl ?_
      refine z_geti C zf_X0_95 (zo_X_13_5 kn) dX0_parseCost_37 ?_
      obtain ⟨hi40, h⟩ := z_g_some h
      obtain ⟨g40, eg40, h⟩ := z_s_some h
      refine z_iast C (za_X_17 kn) (z_in_vp hi40) dX0_parseCost_40 ?_
      refine z_gw eg40 ?_
      refine z_iload_n C dX0_parseCost_41 rfl 0 rfl ?_
      exact z_iret C (z_ret1i h) (z_ret2 h) dX0_parseCost_42
  · replace h := z_if hc h
    refine z_iload_n C dX0_parseCost_41 rfl 0 rfl ?_
    exact z_iret C (z_ret1i h) (z_ret2 h) dX0_parseCost_42
set_option maxRecDepth 100000 in
set_option maxHeartbeats 4000000 in
theorem wX0_parseKind (kn : Bool) (ad : Nat → Nat) (g : z_S) (r : Int32) (gE : z_S) (h : fX0_parseKind g = some (r, gE)) : z_M yX0_parseKind cX0_parseKind 2 (some .int) 3 65 (layX kn) (nX kn) ad [.ref (ad 13)] g (some (.int r)) gE := by
  refine z_enter (by decide) (Nat.le_of_ble_eq_true rfl) (fun F C => ?_)
  replace C : z_X F (layX kn) (nX kn) ad cX0_parseKind RX0 2 (some .int) 3 65 (some (.int r)) gE := C
  show z_W F (layX kn) (nX kn) ad 0 [(0, .ref (ad 13))] [] g
  unfold fX0_parseKind at h
  refine z_aload_n C dX0_parseKind_0 rfl 0 rfl ?_
  refine z_bipush C dX0_parseKind_1 zcb_47 ?_
  refine z_iconst C dX0_parseKind_3 zci_1 ?_
  refine z_iconst C dX0_parseKind_4 zci_3 ?_
  obtain ⟨r5, g5, hq5, h⟩ := z_b_some h
  refine z_callVi [] C zc_X0_91 (zk_X_13 kn) rfl (by decide) (Nat.le_of_ble_eq_true rfl) dX0_parseKind_5 rfl (wX0_parseNumber kn ad 47 1 3 g r5 g5 hq5) ?_
  refine z_istore_n C dX0_parseKind_8 rfl (by decide) [(1, .int r5), (0, .ref (ad 13))] rfl ?_
  refine z_iload_n C dX0_parseKind_9 rfl 0 rfl ?_
  refine z_if_ne 40 C dX0_parseKind_10 rfl (fun hc => ?_) (fun hc => ?_)
  · replace h := z_it hc h
    refine z_aload_n C dX0_parseKind_13 rfl 1 rfl ?_
    refine z_geti C zf_X0_95 (zo_X_13_5 kn) dX0_parseKind_14 ?_
    refine z_iconst C dX0_parseKind_17 zci_m1 ?_
    refine z_icmp_eq 40 C dX0_parseKind_18 rfl (fun hc => ?_) (fun hc => ?_)
    · replace h := z_it hc h
      refine z_iload_n C dX0_parseKind_40 rfl 0 rfl ?_
      exact z_iret C (z_ret1i h) (z_ret2 h) dX0_parseKind_41
    · replace h := z_if hc h
      refine z_aload_n C dX0_parseKind_21 rfl 1 rfl ?_
      refine z_getr C zf_X0_12 (zo_X_13_0 kn) dX0_parseKind_22 ?_
      refine z_getr C zf_X0_81 (zo_X_14_4 kn) dX0_parseKind_25 ?_
      refine z_aload_n C dX0_parseKind_28 rfl 1 rfl ?_
      refine z_getr C zf_X0_12 (zo_X_13_0 kn) dX0_parseKind_29 ?_
      refine z_geti C zf_X0_30 (zo_X_14_0 kn) dX0_parseKind_32 ?_
      refine z_aload_n C dX0_parseKind_35 rfl 1 rfl ?_
      refine z_geti C zf_X0_95 (zo_X_13_5 kn) dX0_parseKind_36 ?_
      obtain ⟨hi39, h⟩ := z_g_some h
      obtain ⟨g39, eg39, h⟩ := z_s_some h
      refine z_iast C (za_X_18 kn) (z_in_vp hi39) dX0_parseKind_39 ?_
      refine z_gw eg39 ?_
      refine z_iload_n C dX0_parseKind_40 rfl 0 rfl ?_
      exact z_iret C (z_ret1i h) (z_ret2 h) dX0_parseKind_41
  · replace h := z_if hc h
    refine z_iload_n C dX0_parseKind_40 rfl 0 rfl ?_
    exact z_iret C (z_ret1i h) (z_ret2 h) dX0_parseKind_41
set_option maxRecDepth 100000 in
set_option maxHeartbeats 4000000 in
theorem wX0_parseClause_J23 {kn : Bool} {F : z_F} {ad : Nat → Nat} {r : Int32} {gE : z_S} (C : z_X F (layX kn) (nX kn) ad cX0_parseClause RX0 2 (some .int) 5 118 (some (.int r)) gE) (v1 : Int32) (g : z_S) (h : fX0_parseClause_J23 v1 g = some (r, gE)) : z_W F (layX kn) (nX kn) ad 23 [(0, .ref (ad 13)), (1, .int v1)] [] g := by
  unfold fX0_parseClause_J23 at h
  refine z_iload_n C dX0_parseClause_23 rfl 1 rfl ?_
  refine z_if_eq 29 C dX0_parseClause_24 rfl (fun hc => ?_) (fun hc => ?_)
  · replace h := z_it hc h
    refine z_aload_n C dX0_parseClause_29 rfl 0 rfl ?_
    obtain ⟨r30, g30, hq30, h⟩ := z_b_some h
    refine z_callVi [] C zc_X0_55 (zk_X_13 kn) rfl (by decide) (Nat.le_of_ble_eq_true rfl) dX0_parseClause_30 rfl (wX0_here kn ad g r30 g30 hq30) ?_
    refine z_bipush C dX0_parseClause_33 zcb_59 ?_
    refine z_icmp_eq 48 C dX0_parseClause_35 rfl (fun hc => ?_) (fun hc => ?_)
    · replace h := z_it hc h
      refine z_aload_n C dX0_parseClause_48 rfl 0 rfl ?_
      refine z_dup C dX0_parseClause_49 rfl ?_
      refine z_geti C zf_X0_33 (zo_X_13_4 kn) dX0_parseClause_50 ?_
      refine z_iconst C dX0_parseClause_53 zci_1 ?_
      refine z_iadd C dX0_parseClause_54 ?_
      obtain ⟨g55, eg55, h⟩ := z_s_some h
      refine z_puti C zp_X0_33 (zo_X_13_4 kn) rfl rfl dX0_parseClause_55 ?_
      refine z_gw eg55 ?_
      refine z_aload_n C dX0_parseClause_58 rfl 0 rfl ?_
      refine z_getr C zf_X0_12 (zo_X_13_0 kn) dX0_parseClause_59 ?_
      refine z_dup C dX0_parseClause_62 rfl ?_
      refine z_geti C zf_X0_30 (zo_X_14_0 kn) dX0_parseClause_63 ?_
      refine z_iconst C dX0_parseClause_66 zci_1 ?_
      refine z_iadd C dX0_parseClause_67 ?_
      obtain ⟨g68, eg68, h⟩ := z_s_some h
      refine z_puti C zp_X0_30 (zo_X_14_0 kn) rfl rfl dX0_parseClause_68 ?_
      refine z_gw eg68 ?_
      refine z_iconst C dX0_parseClause_71 zci_0 ?_
      exact z_iret C (z_ret1i h) (z_ret2 h) dX0_parseClause_72
    · replace h := z_if hc h
      refine z_aload_n C dX0_parseClause_38 rfl 0 rfl ?_
      refine z_iconst C dX0_parseClause_39 zci_1 ?_
      refine z_aload_n C dX0_parseClause_40 rfl 0 rfl ?_
      refine z_geti C zf_X0_33 (zo_X_13_4 kn) dX0_parseClause_41 ?_
      obtain ⟨r44, g44, hq44, h⟩ := z_b_some h
      refine z_callVi [] C zc_X0_58 (zk_X_13 kn) rfl (by decide) (Nat.le_of_ble_eq_true rfl) dX0_parseClause_44 rfl (wX0_blame kn ad 1 (g30.1 13 4) g30 r44 g44 hq44) ?_
      exact z_iret C (z_ret1i h) (z_ret2 h) dX0_parseClause_47
  · replace h := z_if hc h
    refine z_iload_n C dX0_parseClause_27 rfl 1 rfl ?_
    exact z_iret C (z_ret1i h) (z_ret2 h) dX0_parseClause_28
set_option maxRecDepth 100000 in
set_option maxHeartbeats 4000000 in
theorem wX0_parseClause_J14 {kn : Bool} {F : z_F} {ad : Nat → Nat} {r : Int32} {gE : z_S} (C : z_X F (layX kn) (nX kn) ad cX0_parseClause RX0 2 (some .int) 5 118 (some (.int r)) gE) (v1 : Int32) (g : z_S) (h : fX0_parseClause_J14 v1 g = some (r, gE)) : z_W F (layX kn) (nX kn) ad 14 [(0, .ref (ad 13)), (1, .int v1)] [] g := by
  unfold fX0_parseClause_J14 at h
  refine z_iload_n C dX0_parseClause_14 rfl 1 rfl ?_
  refine z_if_ne 23 C dX0_parseClause_15 rfl (fun hc => ?_) (fun hc => ?_)
  · replace h := z_it hc h
    refine z_aload_n C dX0_parseClause_18 rfl 0 rfl ?_
    obtain ⟨r19, g19, hq19, h⟩ := z_b_some h
    refine z_callVi [] C zc_X0_52 (zk_X_13 kn) rfl (by decide) (Nat.le_of_ble_eq_true rfl) dX0_parseClause_19 rfl (wX0_parseKind kn ad g r19 g19 hq19) ?_
    refine z_istore_n C dX0_parseClause_22 rfl (by decide) [(1, .int r19), (0, .ref (ad 13))] rfl ?_
    refine z_loc [1, 0] rfl ?_
    exact wX0_parseClause_J23 C r19 g19 h
  · replace h := z_if hc h
    exact wX0_parseClause_J23 C v1 g h
set_option maxRecDepth 100000 in
set_option maxHeartbeats 4000000 in
theorem wX0_parseClause (kn : Bool) (ad : Nat → Nat) (g : z_S) (r : Int32) (gE : z_S) (h : fX0_parseClause g = some (r, gE)) : z_M yX0_parseClause cX0_parseClause 2 (some .int) 5 118 (layX kn) (nX kn) ad [.ref (ad 13)] g (some (.int r)) gE := by
  refine z_enter (by decide) (Nat.le_of_ble_eq_true rfl) (fun F C => ?_)
  replace C : z_X F (layX kn) (nX kn) ad cX0_parseClause RX0 2 (some .int) 5 118 (some (.int r)) gE := C
  show z_W F (layX kn) (nX kn) ad 0 [(0, .ref (ad 13))] [] g
  unfold fX0_parseClause at h
  refine z_aload_n C dX0_parseClause_0 rfl 0 rfl ?_
  obtain ⟨r1, g1, hq1, h⟩ := z_b_some h
  refine z_callVi [] C zc_X0_46 (zk_X_13 kn) rfl (by decide) (Nat.le_of_ble_eq_true rfl) dX0_parseClause_1 rfl (wX0_parseLetters kn ad g r1 g1 hq1) ?_
  refine z_istore_n C dX0_parseClause_4 rfl (by decide) [(1, .int r1), (0, .ref (ad 13))] rfl ?_
  refine z_iload_n C dX0_parseClause_5 rfl 0 rfl ?_
  refine z_if_ne 14 C dX0_parseClause_6 rfl (fun hc => ?_) (fun hc => ?_)
  · replace h := z_it hc h
    refine z_aload_n C dX0_parseClause_9 rfl 1 rfl ?_
    obtain ⟨r10, g10, hq10, h⟩ := z_b_some h
    refine z_callVi [] C zc_X0_49 (zk_X_13 kn) rfl (by decide) (Nat.le_of_ble_eq_true rfl) dX0_parseClause_10 rfl (wX0_parseCost kn ad g1 r10 g10 hq10) ?_
    refine z_istore_n C dX0_parseClause_13 rfl (by decide) [(1, .int r10), (0, .ref (ad 13))] rfl ?_
    refine z_loc [1, 0] rfl ?_
    exact wX0_parseClause_J14 C r10 g10 h
  · replace h := z_if hc h
    refine z_loc [1, 0] rfl ?_
    exact wX0_parseClause_J14 C r1 g1 h
set_option maxRecDepth 100000 in
set_option maxHeartbeats 4000000 in
theorem wX0_parse_L24 {kn : Bool} {F : z_F} {ad : Nat → Nat} {r : Int32} {gE : z_S} (C : z_X F (layX kn) (nX kn) ad cX0_parse RX0 3 (some .int) 6 139 (some (.int r)) gE) : ∀ (n : Nat) (v1 : Int32) (g : z_S), z_loop fX0_parse_B24 n v1 g = some (r, gE) → z_W F (layX kn) (nX kn) ad 24 [(0, .ref (ad 13)), (1, .int v1)] [] g := by
  intro n
  induction n with
  | zero =>
    intro v1 g h
    exact (z_loop_0 h).elim
  | succ n ih =>
    intro v1 g h
    replace h := z_loop_S h
    simp only [fX0_parse_B24] at h
    refine z_iload_n C dX0_parse_24 rfl 1 rfl ?_
    refine z_sipush C dX0_parse_25 zcs_200 ?_
    refine z_icmp_gt 66 C dX0_parse_28 rfl (fun hc => ?_) (fun hc => ?_)
    · replace h := z_it hc h
      refine z_iconst C dX0_parse_66 zci_0 ?_
      exact z_iret C (z_ret1i h) (z_ret2 h) dX0_parse_67
    · replace h := z_if hc h
      refine z_aload_n C dX0_parse_31 rfl 0 rfl ?_
      refine z_geti C zf_X0_33 (zo_X_13_4 kn) dX0_parse_32 ?_
      refine z_aload_n C dX0_parse_35 rfl 0 rfl ?_
      refine z_getr C zf_X0_22 (zo_X_13_2 kn) dX0_parse_36 ?_
      refine z_geti C zf_X0_39 (zo_X_9_1 kn) dX0_parse_39 ?_
      refine z_icmp_ge 66 C dX0_parse_42 rfl (fun hc => ?_) (fun hc => ?_)
      · replace h := z_it hc h
        refine z_iconst C dX0_parse_66 zci_0 ?_
        exact z_iret C (z_ret1i h) (z_ret2 h) dX0_parse_67
      · replace h := z_if hc h
        refine z_aload_n C dX0_parse_45 rfl 0 rfl ?_
        obtain ⟨r46, g46, hq46, h⟩ := z_b_some h
        refine z_callVi [] C zc_X0_42 (zk_X_13 kn) rfl (by decide) (Nat.le_of_ble_eq_true rfl) dX0_parse_46 rfl (wX0_parseClause kn ad g r46 g46 hq46) ?_
        refine z_istore_n C dX0_parse_49 rfl (by decide) [(2, .int r46), (0, .ref (ad 13)), (1, .int v1)] rfl ?_
        refine z_iload_n C dX0_parse_50 rfl 0 rfl ?_
        refine z_if_eq 56 C dX0_parse_51 rfl (fun hc => ?_) (fun hc => ?_)
        · replace h := z_it hc h
          refine z_aload_n C dX0_parse_56 rfl 1 rfl ?_
          obtain ⟨r57, g57, hq57, h⟩ := z_b_some h
          refine z_callVv [] C zc_X0_36 (zk_X_13 kn) rfl (by decide) (Nat.le_of_ble_eq_true rfl) dX0_parse_57 rfl (wX0_skipBlanks kn ad g46 g57 hq57) ?_
          refine z_iinc C dX0_parse_60 (by decide) 2 rfl (z_incl zci_1) [(1, .int (v1 + 1)), (2, .int r46), (0, .ref (ad 13))] rfl ?_
          refine z_goto 24 C dX0_parse_63 rfl ?_
          refine z_loc [2, 0] rfl ?_
          exact ih (v1 + 1) g57 h
        · replace h := z_if hc h
          refine z_iload_n C dX0_parse_54 rfl 0 rfl ?_
          exact z_iret C (z_ret1i h) (z_ret2 h) dX0_parse_55
set_option maxRecDepth 100000 in
set_option maxHeartbeats 4000000 in
theorem wX0_parse (kn : Bool) (ad : Nat → Nat) (g : z_S) (r : Int32) (gE : z_S) (h : fX0_parse g = some (r, gE)) : z_M yX0_parse cX0_parse 3 (some .int) 6 139 (layX kn) (nX kn) ad [.ref (ad 13)] g (some (.int r)) gE := by
  refine z_enter (by decide) (Nat.le_of_ble_eq_true rfl) (fun F C => ?_)
  replace C : z_X F (layX kn) (nX kn) ad cX0_parse RX0 3 (some .int) 6 139 (some (.int r)) gE := C
  show z_W F (layX kn) (nX kn) ad 0 [(0, .ref (ad 13))] [] g
  unfold fX0_parse at h
  refine z_aload_n C dX0_parse_0 rfl 0 rfl ?_
  refine z_iconst C dX0_parse_1 zci_m1 ?_
  obtain ⟨g2, eg2, h⟩ := z_s_some h
  refine z_puti C zp_X0_18 (zo_X_13_1 kn) rfl rfl dX0_parse_2 ?_
  refine z_gw eg2 ?_
  refine z_aload_n C dX0_parse_5 rfl 0 rfl ?_
  refine z_getr C zf_X0_12 (zo_X_13_0 kn) dX0_parse_6 ?_
  refine z_iconst C dX0_parse_9 zci_0 ?_
  obtain ⟨g10, eg10, h⟩ := z_s_some h
  refine z_puti C zp_X0_30 (zo_X_14_0 kn) rfl rfl dX0_parse_10 ?_
  refine z_gw eg10 ?_
  refine z_aload_n C dX0_parse_13 rfl 0 rfl ?_
  refine z_iconst C dX0_parse_14 zci_0 ?_
  obtain ⟨g15, eg15, h⟩ := z_s_some h
  refine z_puti C zp_X0_33 (zo_X_13_4 kn) rfl rfl dX0_parse_15 ?_
  refine z_gw eg15 ?_
  refine z_aload_n C dX0_parse_18 rfl 0 rfl ?_
  obtain ⟨r19, g19, hq19, h⟩ := z_b_some h
  refine z_callVv [] C zc_X0_36 (zk_X_13 kn) rfl (by decide) (Nat.le_of_ble_eq_true rfl) dX0_parse_19 rfl (wX0_skipBlanks kn ad g15 g19 hq19) ?_
  refine z_iconst C dX0_parse_22 zci_0 ?_
  refine z_istore_n C dX0_parse_23 rfl (by decide) [(1, .int 0), (0, .ref (ad 13))] rfl ?_
  refine z_loc [1, 0] rfl ?_
  refine wX0_parse_L24 C  zN 0 g19 h
set_option maxRecDepth 100000 in
set_option maxHeartbeats 4000000 in
theorem wX9_become_4_14_L10 {kn : Bool} {F : z_F} {ad : Nat → Nat} {gE : z_S} (C : z_X F (layX kn) (nX kn) ad cX9_become RX9 3 none 0 0 none gE) (k60 : z_S → Option (Unit × z_S)) (hk60 : ∀ (g : z_S), k60 g = some ((), gE) → z_W F (layX kn) (nX kn) ad 60 [(0, .ref (ad 4)), (1, .ref (ad 14))] [] g) : ∀ (n : Nat) (v2 : Int32) (g : z_S), z_loop (fX9_become_4_14_B10 k60) n v2 g = some ((), gE) → z_W F (layX kn) (nX kn) ad 10 [(0, .ref (ad 4)), (1, .ref (ad 14)), (2, .int v2)] [] g := by
  intro n
  induction n with
  | zero =>
    intro v2 g h
    exact (z_loop_0 h).elim
  | succ n ih =>
    intro v2 g h
    replace h := z_loop_S h
    simp only [fX9_become_4_14_B10] at h
    refine z_iload_n C dX9_become_10 rfl 2 rfl ?_
    refine z_aload_n C dX9_become_11 rfl 0 rfl ?_
    refine z_geti C zf_X9_24 (zo_X_4_0 kn) dX9_become_12 ?_
    refine z_icmp_ge 60 C dX9_become_15 rfl (fun hc => ?_) (fun hc => ?_)
    · replace h := z_it hc h
      refine z_loc [0, 1] rfl ?_
      exact hk60 g h
    · replace h := z_if hc h
      refine z_aload_n C dX9_become_18 rfl 0 rfl ?_
      refine z_getr C zf_X9_15 (zo_X_4_2 kn) dX9_become_19 ?_
      refine z_iload_n C dX9_become_22 rfl 2 rfl ?_
      refine z_aload_n C dX9_become_23 rfl 1 rfl ?_
      refine z_getr C zf_X9_15 (zo_X_14_2 kn) dX9_become_24 ?_
      refine z_iload_n C dX9_become_27 rfl 2 rfl ?_
      obtain ⟨hi28, h⟩ := z_g_some h
      refine z_iald C (za_X_16 kn) (z_in_vp hi28) dX9_become_28 ?_
      obtain ⟨hi29, h⟩ := z_g_some h
      obtain ⟨g29, eg29, h⟩ := z_s_some h
      refine z_iast C (za_X_6 kn) (z_in_vp hi29) dX9_become_29 ?_
      refine z_gw eg29 ?_
      refine z_aload_n C dX9_become_30 rfl 0 rfl ?_
      refine z_getr C zf_X9_18 (zo_X_4_3 kn) dX9_become_31 ?_
      refine z_iload_n C dX9_become_34 rfl 2 rfl ?_
      refine z_aload_n C dX9_become_35 rfl 1 rfl ?_
      refine z_getr C zf_X9_18 (zo_X_14_3 kn) dX9_become_36 ?_
      refine z_iload_n C dX9_become_39 rfl 2 rfl ?_
      obtain ⟨hi40, h⟩ := z_g_some h
      refine z_iald C (za_X_17 kn) (z_in_vp hi40) dX9_become_40 ?_
      obtain ⟨hi41, h⟩ := z_g_some h
      obtain ⟨g41, eg41, h⟩ := z_s_some h
      refine z_iast C (za_X_7 kn) (z_in_vp hi41) dX9_become_41 ?_
      refine z_gw eg41 ?_
      refine z_aload_n C dX9_become_42 rfl 0 rfl ?_
      refine z_getr C zf_X9_21 (zo_X_4_4 kn) dX9_become_43 ?_
      refine z_iload_n C dX9_become_46 rfl 2 rfl ?_
      refine z_aload_n C dX9_become_47 rfl 1 rfl ?_
      refine z_getr C zf_X9_21 (zo_X_14_4 kn) dX9_become_48 ?_
      refine z_iload_n C dX9_become_51 rfl 2 rfl ?_
      obtain ⟨hi52, h⟩ := z_g_some h
      refine z_iald C (za_X_18 kn) (z_in_vp hi52) dX9_become_52 ?_
      obtain ⟨hi53, h⟩ := z_g_some h
      obtain ⟨g53, eg53, h⟩ := z_s_some h
      refine z_iast C (za_X_8 kn) (z_in_vp hi53) dX9_become_53 ?_
      refine z_gw eg53 ?_
      refine z_iinc C dX9_become_54 (by decide) 2 rfl (z_incl zci_1) [(2, .int (v2 + 1)), (0, .ref (ad 4)), (1, .ref (ad 14))] rfl ?_
      refine z_goto 10 C dX9_become_57 rfl ?_
      refine z_loc [1, 2, 0] rfl ?_
      exact ih (v2 + 1) g53 h
set_option maxRecDepth 100000 in
set_option maxHeartbeats 4000000 in
theorem wX9_become_4_14_L62 {kn : Bool} {F : z_F} {ad : Nat → Nat} {gE : z_S} (C : z_X F (layX kn) (nX kn) ad cX9_become RX9 3 none 0 0 none gE) : ∀ (n : Nat) (v2 : Int32) (g : z_S), z_loop fX9_become_4_14_B62 n v2 g = some ((), gE) → z_W F (layX kn) (nX kn) ad 62 [(0, .ref (ad 4)), (1, .ref (ad 14)), (2, .int v2)] [] g := by
  intro n
  induction n with
  | zero =>
    intro v2 g h
    exact (z_loop_0 h).elim
  | succ n ih =>
    intro v2 g h
    replace h := z_loop_S h
    simp only [fX9_become_4_14_B62] at h
    refine z_iload_n C dX9_become_62 rfl 2 rfl ?_
    refine z_aload_n C dX9_become_63 rfl 0 rfl ?_
    refine z_geti C zf_X9_24 (zo_X_4_0 kn) dX9_become_64 ?_
    refine z_bipush C dX9_become_67 zcb_8 ?_
    refine z_imul C dX9_become_69 ?_
    refine z_icmp_ge 91 C dX9_become_70 rfl (fun hc => ?_) (fun hc => ?_)
    · replace h := z_it hc h
      exact z_vret C rfl (z_ret2 h) dX9_become_91
    · replace h := z_if hc h
      refine z_aload_n C dX9_become_73 rfl 0 rfl ?_
      refine z_getr C zf_X9_9 (zo_X_4_1 kn) dX9_become_74 ?_
      refine z_iload_n C dX9_become_77 rfl 2 rfl ?_
      refine z_aload_n C dX9_become_78 rfl 1 rfl ?_
      refine z_getr C zf_X9_9 (zo_X_14_1 kn) dX9_become_79 ?_
      refine z_iload_n C dX9_become_82 rfl 2 rfl ?_
      obtain ⟨hi83, h⟩ := z_g_some h
      refine z_iald C (za_X_15 kn) (z_in_vp hi83) dX9_become_83 ?_
      obtain ⟨hi84, h⟩ := z_g_some h
      obtain ⟨g84, eg84, h⟩ := z_s_some h
      refine z_iast C (za_X_5 kn) (z_in_vp hi84) dX9_become_84 ?_
      refine z_gw eg84 ?_
      refine z_iinc C dX9_become_85 (by decide) 2 rfl (z_incl zci_1) [(2, .int (v2 + 1)), (0, .ref (ad 4)), (1, .ref (ad 14))] rfl ?_
      refine z_goto 62 C dX9_become_88 rfl ?_
      refine z_loc [1, 2, 0] rfl ?_
      exact ih (v2 + 1) g84 h
set_option maxRecDepth 100000 in
set_option maxHeartbeats 4000000 in
theorem wX9_become_4_14 (kn : Bool) (ad : Nat → Nat) (g : z_S) (gE : z_S) (h : fX9_become_4_14 g = some ((), gE)) : z_M yX9_become cX9_become 3 none 0 0 (layX kn) (nX kn) ad [.ref (ad 4), .ref (ad 14)] g none gE := by
  refine z_enter (by decide) (Nat.le_of_ble_eq_true rfl) (fun F C => ?_)
  replace C : z_X F (layX kn) (nX kn) ad cX9_become RX9 3 none 0 0 none gE := C
  show z_W F (layX kn) (nX kn) ad 0 [(0, .ref (ad 4)), (1, .ref (ad 14))] [] g
  unfold fX9_become_4_14 at h
  refine z_aload_n C dX9_become_0 rfl 0 rfl ?_
  refine z_aload_n C dX9_become_1 rfl 1 rfl ?_
  refine z_geti C zf_X9_24 (zo_X_14_0 kn) dX9_become_2 ?_
  obtain ⟨g5, eg5, h⟩ := z_s_some h
  refine z_puti C zp_X9_24 (zo_X_4_0 kn) rfl rfl dX9_become_5 ?_
  refine z_gw eg5 ?_
  refine z_iconst C dX9_become_8 zci_0 ?_
  refine z_istore_n C dX9_become_9 rfl (by decide) [(2, .int 0), (0, .ref (ad 4)), (1, .ref (ad 14))] rfl ?_
  refine z_loc [1, 2, 0] rfl ?_
  refine wX9_become_4_14_L10 C _ ?_ zN 0 g5 h
  · intro g h
    refine z_iconst C dX9_become_60 zci_0 ?_
    refine z_istore_n C dX9_become_61 rfl (by decide) [(2, .int 0), (0, .ref (ad 4)), (1, .ref (ad 14))] rfl ?_
    refine z_loc [1, 2, 0] rfl ?_
    refine wX9_become_4_14_L62 C  zN 0 g h
set_option maxRecDepth 100000 in
set_option maxHeartbeats 4000000 in
theorem wX10_read (kn : Bool) (ad : Nat → Nat) (g : z_S) (r : Int32) (gE : z_S) (h : fX10_read g = some (r, gE)) : z_M yX10_read cX10_read 2 (some .int) 7 161 (layX kn) (nX kn) ad [.ref (ad 0)] g (some (.int r)) gE := by
  refine z_enter (by decide) (Nat.le_of_ble_eq_true rfl) (fun F C => ?_)
  replace C : z_X F (layX kn) (nX kn) ad cX10_read RX10 2 (some .int) 7 161 (some (.int r)) gE := C
  show z_W F (layX kn) (nX kn) ad 0 [(0, .ref (ad 0))] [] g
  unfold fX10_read at h
  refine z_aload_n C dX10_read_0 rfl 0 rfl ?_
  refine z_getr C zf_X10_40 (zo_X_0_4 kn) dX10_read_1 ?_
  obtain ⟨r4, g4, hq4, h⟩ := z_b_some h
  refine z_callVi [] C zc_X10_100 (zk_X_13 kn) rfl (by decide) (Nat.le_of_ble_eq_true rfl) dX10_read_4 rfl (wX0_parse kn ad g r4 g4 hq4) ?_
  refine z_istore_n C dX10_read_7 rfl (by decide) [(1, .int r4), (0, .ref (ad 0))] rfl ?_
  refine z_aload_n C dX10_read_8 rfl 1 rfl ?_
  refine z_getr C zf_X10_28 (zo_X_0_2 kn) dX10_read_9 ?_
  refine z_iconst C dX10_read_12 zci_0 ?_
  obtain ⟨g13, eg13, h⟩ := z_s_some h
  refine z_puti C zp_X10_93 (zo_X_9_1 kn) rfl rfl dX10_read_13 ?_
  refine z_gw eg13 ?_
  refine z_iload_n C dX10_read_16 rfl 0 rfl ?_
  refine z_if_eq 25 C dX10_read_17 rfl (fun hc => ?_) (fun hc => ?_)
  · replace h := z_it hc h
    refine z_aload_n C dX10_read_25 rfl 1 rfl ?_
    refine z_getr C zf_X10_19 (zo_X_0_1 kn) dX10_read_26 ?_
    refine z_aload_n C dX10_read_29 rfl 1 rfl ?_
    refine z_getr C zf_X10_40 (zo_X_0_4 kn) dX10_read_30 ?_
    refine z_getr C zf_X10_104 (zo_X_13_0 kn) dX10_read_33 ?_
    obtain ⟨r36, g36, hq36, h⟩ := z_b_some h
    refine z_callVv [] C zc_X10_107 (zk_X_4 kn) rfl (by decide) (Nat.le_of_ble_eq_true rfl) dX10_read_36 rfl (wX9_become_4_14 kn ad g13 g36 hq36) ?_
    refine z_aload_n C dX10_read_39 rfl 1 rfl ?_
    obtain ⟨r40, g40, hq40, h⟩ := z_b_some h
    refine z_callVv [] C zc_X10_94 (zk_X_0 kn) rfl (by decide) (Nat.le_of_ble_eq_true rfl) dX10_read_40 rfl (wX10_forgetFound kn ad g36 g40 hq40) ?_
    refine z_aload_n C dX10_read_43 rfl 1 rfl ?_
    refine z_getr C zf_X10_19 (zo_X_0_1 kn) dX10_read_44 ?_
    refine z_geti C zf_X10_89 (zo_X_4_0 kn) dX10_read_47 ?_
    exact z_iret C (z_ret1i h) (z_ret2 h) dX10_read_50
  · replace h := z_if hc h
    refine z_bipush C dX10_read_20 zcb_m10 ?_
    refine z_iload_n C dX10_read_22 rfl 0 rfl ?_
    refine z_isub C dX10_read_23 ?_
    exact z_iret C (z_ret1i h) (z_ret2 h) dX10_read_24
set_option maxRecDepth 100000 in
set_option maxHeartbeats 4000000 in
theorem wX10_fault (kn : Bool) (ad : Nat → Nat) (g : z_S) (r : Int32) (gE : z_S) (h : fX10_fault g = some (r, gE)) : z_M yX10_fault cX10_fault 1 (some .int) 0 0 (layX kn) (nX kn) ad [.ref (ad 0)] g (some (.int r)) gE := by
  refine z_enter (by decide) (Nat.le_of_ble_eq_true rfl) (fun F C => ?_)
  replace C : z_X F (layX kn) (nX kn) ad cX10_fault RX10 1 (some .int) 0 0 (some (.int r)) gE := C
  show z_W F (layX kn) (nX kn) ad 0 [(0, .ref (ad 0))] [] g
  unfold fX10_fault at h
  refine z_aload_n C dX10_fault_0 rfl 0 rfl ?_
  refine z_getr C zf_X10_40 (zo_X_0_4 kn) dX10_fault_1 ?_
  refine z_geti C zf_X10_111 (zo_X_13_1 kn) dX10_fault_4 ?_
  exact z_iret C (z_ret1i h) (z_ret2 h) dX10_fault_7
set_option maxRecDepth 100000 in
set_option maxHeartbeats 4000000 in
theorem wX9_has_4 (kn : Bool) (ad : Nat → Nat) (v1 : Int32) (g : z_S) (r : Int32) (gE : z_S) (h : fX9_has_4 v1 g = some (r, gE)) : z_M yX9_has cX9_has 2 (some .boolean) 0 0 (layX kn) (nX kn) ad [.ref (ad 4), .int v1] g (some (.int r)) gE := by
  refine z_enter (by decide) (Nat.le_of_ble_eq_true rfl) (fun F C => ?_)
  replace C : z_X F (layX kn) (nX kn) ad cX9_has RX9 2 (some .boolean) 0 0 (some (.int r)) gE := C
  show z_W F (layX kn) (nX kn) ad 0 [(0, .ref (ad 4)), (1, .int v1)] [] g
  unfold fX9_has_4 at h
  refine z_iload_n C dX9_has_0 rfl 1 rfl ?_
  refine z_if_lt 16 C dX9_has_1 rfl (fun hc => ?_) (fun hc => ?_)
  · replace h := z_it hc h
    refine z_iconst C dX9_has_16 zci_0 ?_
    exact z_zret C (by decide) (z_ret1i h) (z_ret2 h) dX9_has_17
  · replace h := z_if hc h
    refine z_iload_n C dX9_has_4 rfl 1 rfl ?_
    refine z_aload_n C dX9_has_5 rfl 0 rfl ?_
    refine z_geti C zf_X9_24 (zo_X_4_0 kn) dX9_has_6 ?_
    refine z_icmp_ge 16 C dX9_has_9 rfl (fun hc => ?_) (fun hc => ?_)
    · replace h := z_it hc h
      refine z_iconst C dX9_has_16 zci_0 ?_
      exact z_zret C (by decide) (z_ret1i h) (z_ret2 h) dX9_has_17
    · replace h := z_if hc h
      refine z_iconst C dX9_has_12 zci_1 ?_
      refine z_goto 17 C dX9_has_13 rfl ?_
      exact z_zret C (by decide) (z_ret1i h) (z_ret2 h) dX9_has_17
set_option maxRecDepth 100000 in
set_option maxHeartbeats 4000000 in
theorem wX9_sign_4 (kn : Bool) (ad : Nat → Nat) (v1 : Int32) (v2 : Int32) (g : z_S) (r : Int32) (gE : z_S) (h : fX9_sign_4 v1 v2 g = some (r, gE)) : z_M yX9_sign cX9_sign 3 (some .int) 0 0 (layX kn) (nX kn) ad [.ref (ad 4), .int v1, .int v2] g (some (.int r)) gE := by
  refine z_enter (by decide) (Nat.le_of_ble_eq_true rfl) (fun F C => ?_)
  replace C : z_X F (layX kn) (nX kn) ad cX9_sign RX9 3 (some .int) 0 0 (some (.int r)) gE := C
  show z_W F (layX kn) (nX kn) ad 0 [(0, .ref (ad 4)), (1, .int v1), (2, .int v2)] [] g
  unfold fX9_sign_4 at h
  refine z_aload_n C dX9_sign_0 rfl 0 rfl ?_
  refine z_getr C zf_X9_9 (zo_X_4_1 kn) dX9_sign_1 ?_
  refine z_iload_n C dX9_sign_4 rfl 1 rfl ?_
  refine z_bipush C dX9_sign_5 zcb_8 ?_
  refine z_imul C dX9_sign_7 ?_
  refine z_iload_n C dX9_sign_8 rfl 2 rfl ?_
  refine z_iadd C dX9_sign_9 ?_
  obtain ⟨hi10, h⟩ := z_g_some h
  refine z_iald C (za_X_5 kn) (z_in_vp hi10) dX9_sign_10 ?_
  exact z_iret C (z_ret1i h) (z_ret2 h) dX9_sign_11
set_option maxRecDepth 100000 in
set_option maxHeartbeats 4000000 in
theorem wX10_word (kn : Bool) (ad : Nat → Nat) (v1 : Int32) (v2 : Int32) (g : z_S) (r : Int32) (gE : z_S) (h : fX10_word v1 v2 g = some (r, gE)) : z_M yX10_word cX10_word 3 (some .int) 1 22 (layX kn) (nX kn) ad [.ref (ad 0), .int v1, .int v2] g (some (.int r)) gE := by
  refine z_enter (by decide) (Nat.le_of_ble_eq_true rfl) (fun F C => ?_)
  replace C : z_X F (layX kn) (nX kn) ad cX10_word RX10 3 (some .int) 1 22 (some (.int r)) gE := C
  show z_W F (layX kn) (nX kn) ad 0 [(0, .ref (ad 0)), (1, .int v1), (2, .int v2)] [] g
  unfold fX10_word at h
  refine z_aload_n C dX10_word_0 rfl 0 rfl ?_
  refine z_getr C zf_X10_19 (zo_X_0_1 kn) dX10_word_1 ?_
  refine z_iload_n C dX10_word_4 rfl 1 rfl ?_
  obtain ⟨r5, g5, hq5, h⟩ := z_b_some h
  refine z_callVi [] C zc_X10_114 (zk_X_4 kn) rfl (by decide) (Nat.le_of_ble_eq_true rfl) dX10_word_5 rfl (wX9_has_4 kn ad v1 g r5 g5 hq5) ?_
  refine z_if_ne 15 C dX10_word_8 rfl (fun hc => ?_) (fun hc => ?_)
  · replace h := z_it hc h
    refine z_sipush C dX10_word_11 zcs_m1001 ?_
    exact z_iret C (z_ret1i h) (z_ret2 h) dX10_word_14
  · replace h := z_if hc h
    refine z_iload_n C dX10_word_15 rfl 2 rfl ?_
    refine z_if_lt 25 C dX10_word_16 rfl (fun hc => ?_) (fun hc => ?_)
    · replace h := z_it hc h
      refine z_sipush C dX10_word_25 zcs_m1002 ?_
      exact z_iret C (z_ret1i h) (z_ret2 h) dX10_word_28
    · replace h := z_if hc h
      refine z_iload_n C dX10_word_19 rfl 2 rfl ?_
      refine z_bipush C dX10_word_20 zcb_10 ?_
      refine z_icmp_le 29 C dX10_word_22 rfl (fun hc => ?_) (fun hc => ?_)
      · replace h := z_it hc h
        refine z_iload_n C dX10_word_29 rfl 2 rfl ?_
        by_cases hc30_0 : v2 = 0
        · replace h := z_it hc30_0 h
          refine z_tabIn (off := 26) 0 56 C dX10_word_30 hc30_0 (by decide) (by decide) (by decide) rfl ?_
          refine z_aload_n C dX10_word_56 rfl 0 rfl ?_
          refine z_getr C zf_X10_19 (zo_X_0_1 kn) dX10_word_57 ?_
          refine z_getr C zf_X10_118 (zo_X_4_3 kn) dX10_word_60 ?_
          refine z_iload_n C dX10_word_63 rfl 1 rfl ?_
          obtain ⟨hi64, h⟩ := z_g_some h
          refine z_iald C (za_X_7 kn) (z_in_vp hi64) dX10_word_64 ?_
          exact z_iret C (z_ret1i h) (z_ret2 h) dX10_word_65
        replace h := z_if hc30_0 h
        by_cases hc30_1 : v2 = 1
        · replace h := z_it hc30_1 h
          refine z_tabIn (off := 36) 1 66 C dX10_word_30 hc30_1 (by decide) (by decide) (by decide) rfl ?_
          refine z_aload_n C dX10_word_66 rfl 0 rfl ?_
          refine z_getr C zf_X10_19 (zo_X_0_1 kn) dX10_word_67 ?_
          refine z_getr C zf_X10_122 (zo_X_4_4 kn) dX10_word_70 ?_
          refine z_iload_n C dX10_word_73 rfl 1 rfl ?_
          obtain ⟨hi74, h⟩ := z_g_some h
          refine z_iald C (za_X_8 kn) (z_in_vp hi74) dX10_word_74 ?_
          exact z_iret C (z_ret1i h) (z_ret2 h) dX10_word_75
        replace h := z_if hc30_1 h
        by_cases hc30_2 : v2 = 2
        · replace h := z_it hc30_2 h
          refine z_tabIn (off := 46) 2 76 C dX10_word_30 hc30_2 (by decide) (by decide) (by decide) rfl ?_
          refine z_aload_n C dX10_word_76 rfl 0 rfl ?_
          refine z_getr C zf_X10_19 (zo_X_0_1 kn) dX10_word_77 ?_
          refine z_getr C zf_X10_125 (zo_X_4_2 kn) dX10_word_80 ?_
          refine z_iload_n C dX10_word_83 rfl 1 rfl ?_
          obtain ⟨hi84, h⟩ := z_g_some h
          refine z_iald C (za_X_6 kn) (z_in_vp hi84) dX10_word_84 ?_
          exact z_iret C (z_ret1i h) (z_ret2 h) dX10_word_85
        replace h := z_if hc30_2 h
        refine z_tabOut 86 C dX10_word_30 (z_tabne [0, 1, 2] (by decide) (by decide) (List.forall_mem_cons.mpr ⟨hc30_0, List.forall_mem_cons.mpr ⟨hc30_1, List.forall_mem_cons.mpr ⟨hc30_2, List.forall_mem_nil _⟩⟩⟩)) rfl ?_
        refine z_iload_n C dX10_word_86 rfl 2 rfl ?_
        refine z_iconst C dX10_word_87 zci_3 ?_
        refine z_isub C dX10_word_88 ?_
        refine z_aload_n C dX10_word_89 rfl 0 rfl ?_
        refine z_getr C zf_X10_19 (zo_X_0_1 kn) dX10_word_90 ?_
        refine z_getr C zf_X10_125 (zo_X_4_2 kn) dX10_word_93 ?_
        refine z_iload_n C dX10_word_96 rfl 1 rfl ?_
        obtain ⟨hi97, h⟩ := z_g_some h
        refine z_iald C (za_X_6 kn) (z_in_vp hi97) dX10_word_97 ?_
        refine z_icmp_ge 115 C dX10_word_98 rfl (fun hc => ?_) (fun hc => ?_)
        · replace h := z_it hc h
          refine z_iconst C dX10_word_115 zci_m1 ?_
          exact z_iret C (z_ret1i h) (z_ret2 h) dX10_word_116
        · replace h := z_if hc h
          refine z_aload_n C dX10_word_101 rfl 0 rfl ?_
          refine z_getr C zf_X10_19 (zo_X_0_1 kn) dX10_word_102 ?_
          refine z_iload_n C dX10_word_105 rfl 1 rfl ?_
          refine z_iload_n C dX10_word_106 rfl 2 rfl ?_
          refine z_iconst C dX10_word_107 zci_3 ?_
          refine z_isub C dX10_word_108 ?_
          obtain ⟨r109, g109, hq109, h⟩ := z_b_some h
          refine z_callVi [] C zc_X10_128 (zk_X_4 kn) rfl (by decide) (Nat.le_of_ble_eq_true rfl) dX10_word_109 rfl (wX9_sign_4 kn ad v1 (v2 - 3) g5 r109 g109 hq109) ?_
          refine z_goto 116 C dX10_word_112 rfl ?_
          exact z_iret C (z_ret1i h) (z_ret2 h) dX10_word_116
      · replace h := z_if hc h
        refine z_sipush C dX10_word_25 zcs_m1002 ?_
        exact z_iret C (z_ret1i h) (z_ret2 h) dX10_word_28
set_option maxRecDepth 100000 in
set_option maxHeartbeats 4000000 in
theorem wX7_mayCome (kn : Bool) (ad : Nat → Nat) (v1 : Int32) (v2 : Int32) (g : z_S) (r : Int32) (gE : z_S) (h : fX7_mayCome v1 v2 g = some (r, gE)) : z_M yX7_mayCome cX7_mayCome 3 (some .boolean) 0 0 (layX kn) (nX kn) ad [.ref (ad 1), .int v1, .int v2] g (some (.int r)) gE := by
  refine z_enter (by decide) (Nat.le_of_ble_eq_true rfl) (fun F C => ?_)
  replace C : z_X F (layX kn) (nX kn) ad cX7_mayCome RX7 3 (some .boolean) 0 0 (some (.int r)) gE := C
  show z_W F (layX kn) (nX kn) ad 0 [(0, .ref (ad 1)), (1, .int v1), (2, .int v2)] [] g
  unfold fX7_mayCome at h
  refine z_iload_n C dX7_mayCome_0 rfl 1 rfl ?_
  refine z_iconst C dX7_mayCome_1 zci_4 ?_
  refine z_icmp_eq 18 C dX7_mayCome_2 rfl (fun hc => ?_) (fun hc => ?_)
  · replace h := z_it hc h
    refine z_iconst C dX7_mayCome_18 zci_1 ?_
    refine z_goto 23 C dX7_mayCome_19 rfl ?_
    exact z_zret C (by decide) (z_ret1i h) (z_ret2 h) dX7_mayCome_23
  · replace h := z_if hc h
    refine z_aload_n C dX7_mayCome_5 rfl 0 rfl ?_
    refine z_getr C zf_X7_15 (zo_X_1_1 kn) dX7_mayCome_6 ?_
    refine z_iload_n C dX7_mayCome_9 rfl 1 rfl ?_
    refine z_iconst C dX7_mayCome_10 zci_4 ?_
    refine z_imul C dX7_mayCome_11 ?_
    refine z_iload_n C dX7_mayCome_12 rfl 2 rfl ?_
    refine z_iadd C dX7_mayCome_13 ?_
    obtain ⟨hi14, h⟩ := z_g_some h
    refine z_zald C (za_X_2 kn) (z_in_vp hi14) dX7_mayCome_14 ?_
    refine z_if_ne 22 C dX7_mayCome_15 rfl (fun hc => ?_) (fun hc => ?_)
    · replace h := z_it hc h
      refine z_iconst C dX7_mayCome_18 zci_1 ?_
      refine z_goto 23 C dX7_mayCome_19 rfl ?_
      exact z_zret C (by decide) (z_ret1i h) (z_ret2 h) dX7_mayCome_23
    · replace h := z_if hc h
      refine z_iconst C dX7_mayCome_22 zci_0 ?_
      exact z_zret C (by decide) (z_ret1i h) (z_ret2 h) dX7_mayCome_23
set_option maxRecDepth 100000 in
set_option maxHeartbeats 4000000 in
theorem wX10_follows_J62 {kn : Bool} {F : z_F} {ad : Nat → Nat} {r : Int32} {gE : z_S} (C : z_X F (layX kn) (nX kn) ad cX10_follows RX10 5 (some .int) 1 22 (some (.int r)) gE) (v4 : Int32) (s0 : Int32) (s1 : Int32) (g : z_S) (h : fX10_follows_J62 v4 s0 s1 g = some (r, gE)) : z_W F (layX kn) (nX kn) ad 62 [(0, .ref (ad 0)), (4, .int v4)] [.int s0, .int s1, .ref (ad 2)] g := by
  unfold fX10_follows_J62 at h
  obtain ⟨hi62, h⟩ := z_g_some h
  obtain ⟨g62, eg62, h⟩ := z_s_some h
  refine z_zast C (za_X_2 kn) (z_in_vp hi62) dX10_follows_62 ?_
  refine z_gw eg62 ?_
  refine z_aload_n C dX10_follows_63 rfl 0 rfl ?_
  obtain ⟨r64, g64, hq64, h⟩ := z_b_some h
  refine z_callVv [] C zc_X10_94 (zk_X_0 kn) rfl (by decide) (Nat.le_of_ble_eq_true rfl) dX10_follows_64 rfl (wX10_forgetFound kn ad g62 g64 hq64) ?_
  refine z_iload C dX10_follows_67 1 rfl ?_
  exact z_iret C (z_ret1i h) (z_ret2 h) dX10_follows_69
set_option maxRecDepth 100000 in
set_option maxHeartbeats 4000000 in
theorem wX10_follows_J39 {kn : Bool} {F : z_F} {ad : Nat → Nat} {r : Int32} {gE : z_S} (C : z_X F (layX kn) (nX kn) ad cX10_follows RX10 5 (some .int) 1 22 (some (.int r)) gE) (v1 : Int32) (v2 : Int32) (v3 : Int32) (s0 : Int32) (g : z_S) (h : fX10_follows_J39 v1 v2 v3 s0 g = some (r, gE)) : z_W F (layX kn) (nX kn) ad 39 [(0, .ref (ad 0)), (1, .int v1), (2, .int v2), (3, .int v3)] [.int s0] g := by
  unfold fX10_follows_J39 at h
  refine z_istore C dX10_follows_39 (by decide) [(4, .int s0), (0, .ref (ad 0)), (1, .int v1), (2, .int v2), (3, .int v3)] rfl ?_
  refine z_aload_n C dX10_follows_41 rfl 1 rfl ?_
  refine z_getr C zf_X10_10 (zo_X_0_0 kn) dX10_follows_42 ?_
  refine z_getr C zf_X10_136 (zo_X_1_1 kn) dX10_follows_45 ?_
  refine z_iload_n C dX10_follows_48 rfl 2 rfl ?_
  refine z_iconst C dX10_follows_49 zci_4 ?_
  refine z_imul C dX10_follows_50 ?_
  refine z_iload_n C dX10_follows_51 rfl 3 rfl ?_
  refine z_iadd C dX10_follows_52 ?_
  refine z_iload_n C dX10_follows_53 rfl 4 rfl ?_
  refine z_if_ne 61 C dX10_follows_54 rfl (fun hc => ?_) (fun hc => ?_)
  · replace h := z_it hc h
    refine z_iconst C dX10_follows_57 zci_1 ?_
    refine z_goto 62 C dX10_follows_58 rfl ?_
    refine z_loc [1, 0] rfl ?_
    exact wX10_follows_J62 C s0 1 ((v1 * 4) + v2) g h
  · replace h := z_if hc h
    refine z_iconst C dX10_follows_61 zci_0 ?_
    refine z_loc [1, 0] rfl ?_
    exact wX10_follows_J62 C s0 0 ((v1 * 4) + v2) g h
set_option maxRecDepth 100000 in
set_option maxHeartbeats 4000000 in
theorem wX10_follows (kn : Bool) (ad : Nat → Nat) (v1 : Int32) (v2 : Int32) (v3 : Int32) (g : z_S) (r : Int32) (gE : z_S) (h : fX10_follows v1 v2 v3 g = some (r, gE)) : z_M yX10_follows cX10_follows 5 (some .int) 1 22 (layX kn) (nX kn) ad [.ref (ad 0), .int v1, .int v2, .int v3] g (some (.int r)) gE := by
  refine z_enter (by decide) (Nat.le_of_ble_eq_true rfl) (fun F C => ?_)
  replace C : z_X F (layX kn) (nX kn) ad cX10_follows RX10 5 (some .int) 1 22 (some (.int r)) gE := C
  show z_W F (layX kn) (nX kn) ad 0 [(0, .ref (ad 0)), (1, .int v1), (2, .int v2), (3, .int v3)] [] g
  unfold fX10_follows at h
  refine z_iload_n C dX10_follows_0 rfl 1 rfl ?_
  refine z_if_lt 18 C dX10_follows_1 rfl (fun hc => ?_) (fun hc => ?_)
  · replace h := z_it hc h
    refine z_sipush C dX10_follows_18 zcs_m1002 ?_
    exact z_iret C (z_ret1i h) (z_ret2 h) dX10_follows_21
  · replace h := z_if hc h
    refine z_iload_n C dX10_follows_4 rfl 1 rfl ?_
    refine z_iconst C dX10_follows_5 zci_4 ?_
    refine z_icmp_ge 18 C dX10_follows_6 rfl (fun hc => ?_) (fun hc => ?_)
    · replace h := z_it hc h
      refine z_sipush C dX10_follows_18 zcs_m1002 ?_
      exact z_iret C (z_ret1i h) (z_ret2 h) dX10_follows_21
    · replace h := z_if hc h
      refine z_iload_n C dX10_follows_9 rfl 2 rfl ?_
      refine z_if_lt 18 C dX10_follows_10 rfl (fun hc => ?_) (fun hc => ?_)
      · replace h := z_it hc h
        refine z_sipush C dX10_follows_18 zcs_m1002 ?_
        exact z_iret C (z_ret1i h) (z_ret2 h) dX10_follows_21
      · replace h := z_if hc h
        refine z_iload_n C dX10_follows_13 rfl 2 rfl ?_
        refine z_iconst C dX10_follows_14 zci_4 ?_
        refine z_icmp_lt 22 C dX10_follows_15 rfl (fun hc => ?_) (fun hc => ?_)
        · replace h := z_it hc h
          refine z_aload_n C dX10_follows_22 rfl 0 rfl ?_
          refine z_getr C zf_X10_10 (zo_X_0_0 kn) dX10_follows_23 ?_
          refine z_iload_n C dX10_follows_26 rfl 1 rfl ?_
          refine z_iload_n C dX10_follows_27 rfl 2 rfl ?_
          obtain ⟨r28, g28, hq28, h⟩ := z_b_some h
          refine z_callVi [] C zc_X10_132 (zk_X_1 kn) rfl (by decide) (Nat.le_of_ble_eq_true rfl) dX10_follows_28 rfl (wX7_mayCome kn ad v1 v2 g r28 g28 hq28) ?_
          refine z_if_eq 38 C dX10_follows_31 rfl (fun hc => ?_) (fun hc => ?_)
          · replace h := z_it hc h
            refine z_iconst C dX10_follows_38 zci_0 ?_
            exact wX10_follows_J39 C v1 v2 v3 0 g28 h
          · replace h := z_if hc h
            refine z_iconst C dX10_follows_34 zci_1 ?_
            refine z_goto 39 C dX10_follows_35 rfl ?_
            exact wX10_follows_J39 C v1 v2 v3 1 g28 h
        · replace h := z_if hc h
          refine z_sipush C dX10_follows_18 zcs_m1002 ?_
          exact z_iret C (z_ret1i h) (z_ret2 h) dX10_follows_21
set_option maxRecDepth 100000 in
set_option maxHeartbeats 4000000 in
theorem wX10_count (kn : Bool) (ad : Nat → Nat) (v1 : Int32) (g : z_S) (r : Int32) (gE : z_S) (h : fX10_count v1 g = some (r, gE)) : z_M yX10_count cX10_count 2 (some .int) 0 0 (layX kn) (nX kn) ad [.ref (ad 0), .int v1] g (some (.int r)) gE := by
  refine z_enter (by decide) (Nat.le_of_ble_eq_true rfl) (fun F C => ?_)
  replace C : z_X F (layX kn) (nX kn) ad cX10_count RX10 2 (some .int) 0 0 (some (.int r)) gE := C
  show z_W F (layX kn) (nX kn) ad 0 [(0, .ref (ad 0)), (1, .int v1)] [] g
  unfold fX10_count at h
  refine z_iload_n C dX10_count_0 rfl 1 rfl ?_
  by_cases hc1_0 : v1 = 0
  · replace h := z_it hc1_0 h
    refine z_tabIn (off := 35) 0 36 C dX10_count_1 hc1_0 (by decide) (by decide) (by decide) rfl ?_
    refine z_aload_n C dX10_count_36 rfl 0 rfl ?_
    refine z_getr C zf_X10_10 (zo_X_0_0 kn) dX10_count_37 ?_
    refine z_geti C zf_X10_85 (zo_X_1_0 kn) dX10_count_40 ?_
    exact z_iret C (z_ret1i h) (z_ret2 h) dX10_count_43
  replace h := z_if hc1_0 h
  by_cases hc1_1 : v1 = 1
  · replace h := z_it hc1_1 h
    refine z_tabIn (off := 43) 1 44 C dX10_count_1 hc1_1 (by decide) (by decide) (by decide) rfl ?_
    refine z_aload_n C dX10_count_44 rfl 0 rfl ?_
    refine z_getr C zf_X10_19 (zo_X_0_1 kn) dX10_count_45 ?_
    refine z_geti C zf_X10_89 (zo_X_4_0 kn) dX10_count_48 ?_
    exact z_iret C (z_ret1i h) (z_ret2 h) dX10_count_51
  replace h := z_if hc1_1 h
  by_cases hc1_2 : v1 = 2
  · replace h := z_it hc1_2 h
    refine z_tabIn (off := 51) 2 52 C dX10_count_1 hc1_2 (by decide) (by decide) (by decide) rfl ?_
    refine z_aload_n C dX10_count_52 rfl 0 rfl ?_
    refine z_getr C zf_X10_32 (zo_X_0_3 kn) dX10_count_53 ?_
    refine z_geti C zf_X10_93 (zo_X_11_1 kn) dX10_count_56 ?_
    exact z_iret C (z_ret1i h) (z_ret2 h) dX10_count_59
  replace h := z_if hc1_2 h
  by_cases hc1_3 : v1 = 3
  · replace h := z_it hc1_3 h
    refine z_tabIn (off := 59) 3 60 C dX10_count_1 hc1_3 (by decide) (by decide) (by decide) rfl ?_
    refine z_aload_n C dX10_count_60 rfl 0 rfl ?_
    refine z_getr C zf_X10_28 (zo_X_0_2 kn) dX10_count_61 ?_
    refine z_geti C zf_X10_93 (zo_X_9_1 kn) dX10_count_64 ?_
    exact z_iret C (z_ret1i h) (z_ret2 h) dX10_count_67
  replace h := z_if hc1_3 h
  by_cases hc1_4 : v1 = 4
  · replace h := z_it hc1_4 h
    refine z_tabIn (off := 67) 4 68 C dX10_count_1 hc1_4 (by decide) (by decide) (by decide) rfl ?_
    refine z_aload_n C dX10_count_68 rfl 0 rfl ?_
    refine z_getr C zf_X10_65 (zo_X_0_7 kn) dX10_count_69 ?_
    refine z_geti C zf_X10_92 (zo_X_26_0 kn) dX10_count_72 ?_
    exact z_iret C (z_ret1i h) (z_ret2 h) dX10_count_75
  replace h := z_if hc1_4 h
  refine z_tabOut 76 C dX10_count_1 (z_tabne [0, 1, 2, 3, 4] (by decide) (by decide) (List.forall_mem_cons.mpr ⟨hc1_0, List.forall_mem_cons.mpr ⟨hc1_1, List.forall_mem_cons.mpr ⟨hc1_2, List.forall_mem_cons.mpr ⟨hc1_3, List.forall_mem_cons.mpr ⟨hc1_4, List.forall_mem_nil _⟩⟩⟩⟩⟩)) rfl ?_
  refine z_sipush C dX10_count_76 zcs_m1002 ?_
  exact z_iret C (z_ret1i h) (z_ret2 h) dX10_count_79
set_option maxRecDepth 100000 in
set_option maxHeartbeats 4000000 in
theorem wX6_put_11 (kn : Bool) (ad : Nat → Nat) (v1 : Int32) (g : z_S) (gE : z_S) (h : fX6_put_11 v1 g = some ((), gE)) : z_M yX6_put cX6_put 2 none 0 0 (layX kn) (nX kn) ad [.ref (ad 11), .int v1] g none gE := by
  refine z_enter (by decide) (Nat.le_of_ble_eq_true rfl) (fun F C => ?_)
  replace C : z_X F (layX kn) (nX kn) ad cX6_put RX6 2 none 0 0 none gE := C
  show z_W F (layX kn) (nX kn) ad 0 [(0, .ref (ad 11)), (1, .int v1)] [] g
  unfold fX6_put_11 at h
  refine z_aload_n C dX6_put_0 rfl 0 rfl ?_
  refine z_geti C zf_X6_19 (zo_X_11_1 kn) dX6_put_1 ?_
  refine z_aload_n C dX6_put_4 rfl 0 rfl ?_
  refine z_getr C zf_X6_13 (zo_X_11_0 kn) dX6_put_5 ?_
  refine z_alen C (za_X_12 kn) (by decide) (v := 48) (by decide) dX6_put_8 ?_
  refine z_icmp_ge 32 C dX6_put_9 rfl (fun hc => ?_) (fun hc => ?_)
  · replace h := z_it hc h
    exact z_vret C rfl (z_ret2 h) dX6_put_32
  · replace h := z_if hc h
    refine z_aload_n C dX6_put_12 rfl 0 rfl ?_
    refine z_getr C zf_X6_13 (zo_X_11_0 kn) dX6_put_13 ?_
    refine z_aload_n C dX6_put_16 rfl 0 rfl ?_
    refine z_geti C zf_X6_19 (zo_X_11_1 kn) dX6_put_17 ?_
    refine z_iload_n C dX6_put_20 rfl 1 rfl ?_
    obtain ⟨hi21, h⟩ := z_g_some h
    obtain ⟨g21, eg21, h⟩ := z_s_some h
    refine z_iast C (za_X_12 kn) (z_in_vp hi21) dX6_put_21 ?_
    refine z_gw eg21 ?_
    refine z_aload_n C dX6_put_22 rfl 0 rfl ?_
    refine z_dup C dX6_put_23 rfl ?_
    refine z_geti C zf_X6_19 (zo_X_11_1 kn) dX6_put_24 ?_
    refine z_iconst C dX6_put_27 zci_1 ?_
    refine z_iadd C dX6_put_28 ?_
    obtain ⟨g29, eg29, h⟩ := z_s_some h
    refine z_puti C zp_X6_19 (zo_X_11_1 kn) rfl rfl dX6_put_29 ?_
    refine z_gw eg29 ?_
    exact z_vret C rfl (z_ret2 h) dX6_put_32
set_option maxRecDepth 100000 in
set_option maxHeartbeats 4000000 in
theorem wX10_letter (kn : Bool) (ad : Nat → Nat) (v1 : Int32) (g : z_S) (r : Int32) (gE : z_S) (h : fX10_letter v1 g = some (r, gE)) : z_M yX10_letter cX10_letter 2 (some .int) 1 21 (layX kn) (nX kn) ad [.ref (ad 0), .int v1] g (some (.int r)) gE := by
  refine z_enter (by decide) (Nat.le_of_ble_eq_true rfl) (fun F C => ?_)
  replace C : z_X F (layX kn) (nX kn) ad cX10_letter RX10 2 (some .int) 1 21 (some (.int r)) gE := C
  show z_W F (layX kn) (nX kn) ad 0 [(0, .ref (ad 0)), (1, .int v1)] [] g
  unfold fX10_letter at h
  refine z_iload_n C dX10_letter_0 rfl 1 rfl ?_
  refine z_if_lt 15 C dX10_letter_1 rfl (fun hc => ?_) (fun hc => ?_)
  · replace h := z_it hc h
    refine z_sipush C dX10_letter_15 zcs_m1002 ?_
    exact z_iret C (z_ret1i h) (z_ret2 h) dX10_letter_18
  · replace h := z_if hc h
    refine z_iload_n C dX10_letter_4 rfl 1 rfl ?_
    refine z_aload_n C dX10_letter_5 rfl 0 rfl ?_
    refine z_getr C zf_X10_10 (zo_X_0_0 kn) dX10_letter_6 ?_
    refine z_geti C zf_X10_85 (zo_X_1_0 kn) dX10_letter_9 ?_
    refine z_icmp_lt 19 C dX10_letter_12 rfl (fun hc => ?_) (fun hc => ?_)
    · replace h := z_it hc h
      refine z_aload_n C dX10_letter_19 rfl 0 rfl ?_
      refine z_getr C zf_X10_32 (zo_X_0_3 kn) dX10_letter_20 ?_
      refine z_geti C zf_X10_93 (zo_X_11_1 kn) dX10_letter_23 ?_
      refine z_bipush C dX10_letter_26 zcb_48 ?_
      refine z_icmp_lt 35 C dX10_letter_28 rfl (fun hc => ?_) (fun hc => ?_)
      · replace h := z_it hc h
        refine z_aload_n C dX10_letter_35 rfl 0 rfl ?_
        refine z_getr C zf_X10_32 (zo_X_0_3 kn) dX10_letter_36 ?_
        refine z_iload_n C dX10_letter_39 rfl 1 rfl ?_
        obtain ⟨r40, g40, hq40, h⟩ := z_b_some h
        refine z_callVv [] C zc_X10_97 (zk_X_11 kn) rfl (by decide) (Nat.le_of_ble_eq_true rfl) dX10_letter_40 rfl (wX6_put_11 kn ad v1 g g40 hq40) ?_
        refine z_aload_n C dX10_letter_43 rfl 0 rfl ?_
        refine z_getr C zf_X10_32 (zo_X_0_3 kn) dX10_letter_44 ?_
        refine z_geti C zf_X10_93 (zo_X_11_1 kn) dX10_letter_47 ?_
        exact z_iret C (z_ret1i h) (z_ret2 h) dX10_letter_50
      · replace h := z_if hc h
        refine z_sipush C dX10_letter_31 zcs_m1004 ?_
        exact z_iret C (z_ret1i h) (z_ret2 h) dX10_letter_34
    · replace h := z_if hc h
      refine z_sipush C dX10_letter_15 zcs_m1002 ?_
      exact z_iret C (z_ret1i h) (z_ret2 h) dX10_letter_18
set_option maxRecDepth 100000 in
set_option maxHeartbeats 4000000 in
theorem wX10_append_L43 {kn : Bool} {F : z_F} {ad : Nat → Nat} {r : Int32} {gE : z_S} (C : z_X F (layX kn) (nX kn) ad cX10_append RX10 3 (some .int) 1 22 (some (.int r)) gE) : ∀ (n : Nat) (v1 : Int32) (v2 : Int32) (g : z_S), z_loop fX10_append_B43 n (v1, v2) g = some (r, gE) → z_W F (layX kn) (nX kn) ad 43 [(0, .ref (ad 0)), (1, .int v1), (2, .int v2)] [] g := by
  intro n
  induction n with
  | zero =>
    intro v1 v2 g h
    exact (z_loop_0 h).elim
  | succ n ih =>
    intro v1 v2 g h
    replace h := z_loop_S h
    simp only [fX10_append_B43] at h
    refine z_iload_n C dX10_append_43 rfl 2 rfl ?_
    refine z_aload_n C dX10_append_44 rfl 0 rfl ?_
    refine z_getr C zf_X10_19 (zo_X_0_1 kn) dX10_append_45 ?_
    refine z_getr C zf_X10_125 (zo_X_4_2 kn) dX10_append_48 ?_
    refine z_iload_n C dX10_append_51 rfl 1 rfl ?_
    obtain ⟨hi52, h⟩ := z_g_some h
    refine z_iald C (za_X_6 kn) (z_in_vp hi52) dX10_append_52 ?_
    refine z_icmp_ge 78 C dX10_append_53 rfl (fun hc => ?_) (fun hc => ?_)
    · replace h := z_it hc h
      refine z_aload_n C dX10_append_78 rfl 0 rfl ?_
      refine z_getr C zf_X10_32 (zo_X_0_3 kn) dX10_append_79 ?_
      refine z_geti C zf_X10_93 (zo_X_11_1 kn) dX10_append_82 ?_
      exact z_iret C (z_ret1i h) (z_ret2 h) dX10_append_85
    · replace h := z_if hc h
      refine z_aload_n C dX10_append_56 rfl 0 rfl ?_
      refine z_getr C zf_X10_32 (zo_X_0_3 kn) dX10_append_57 ?_
      refine z_aload_n C dX10_append_60 rfl 0 rfl ?_
      refine z_getr C zf_X10_19 (zo_X_0_1 kn) dX10_append_61 ?_
      refine z_iload_n C dX10_append_64 rfl 1 rfl ?_
      refine z_iload_n C dX10_append_65 rfl 2 rfl ?_
      obtain ⟨r66, g66, hq66, h⟩ := z_b_some h
      refine z_callVi [.ref (ad 11)] C zc_X10_128 (zk_X_4 kn) rfl (by decide) (Nat.le_of_ble_eq_true rfl) dX10_append_66 rfl (wX9_sign_4 kn ad v1 v2 g r66 g66 hq66) ?_
      obtain ⟨r69, g69, hq69, h⟩ := z_b_some h
      refine z_callVv [] C zc_X10_97 (zk_X_11 kn) rfl (by decide) (Nat.le_of_ble_eq_true rfl) dX10_append_69 rfl (wX6_put_11 kn ad r66 g66 g69 hq69) ?_
      refine z_iinc C dX10_append_72 (by decide) 2 rfl (z_incl zci_1) [(2, .int (v2 + 1)), (0, .ref (ad 0)), (1, .int v1)] rfl ?_
      refine z_goto 43 C dX10_append_75 rfl ?_
      refine z_loc [1, 2, 0] rfl ?_
      exact ih v1 (v2 + 1) g69 h
set_option maxRecDepth 100000 in
set_option maxHeartbeats 4000000 in
theorem wX10_append (kn : Bool) (ad : Nat → Nat) (v1 : Int32) (g : z_S) (r : Int32) (gE : z_S) (h : fX10_append v1 g = some (r, gE)) : z_M yX10_append cX10_append 3 (some .int) 1 22 (layX kn) (nX kn) ad [.ref (ad 0), .int v1] g (some (.int r)) gE := by
  refine z_enter (by decide) (Nat.le_of_ble_eq_true rfl) (fun F C => ?_)
  replace C : z_X F (layX kn) (nX kn) ad cX10_append RX10 3 (some .int) 1 22 (some (.int r)) gE := C
  show z_W F (layX kn) (nX kn) ad 0 [(0, .ref (ad 0)), (1, .int v1)] [] g
  unfold fX10_append at h
  refine z_aload_n C dX10_append_0 rfl 0 rfl ?_
  refine z_getr C zf_X10_19 (zo_X_0_1 kn) dX10_append_1 ?_
  refine z_iload_n C dX10_append_4 rfl 1 rfl ?_
  obtain ⟨r5, g5, hq5, h⟩ := z_b_some h
  refine z_callVi [] C zc_X10_114 (zk_X_4 kn) rfl (by decide) (Nat.le_of_ble_eq_true rfl) dX10_append_5 rfl (wX9_has_4 kn ad v1 g r5 g5 hq5) ?_
  refine z_if_ne 15 C dX10_append_8 rfl (fun hc => ?_) (fun hc => ?_)
  · replace h := z_it hc h
    refine z_sipush C dX10_append_11 zcs_m1001 ?_
    exact z_iret C (z_ret1i h) (z_ret2 h) dX10_append_14
  · replace h := z_if hc h
    refine z_aload_n C dX10_append_15 rfl 0 rfl ?_
    refine z_getr C zf_X10_32 (zo_X_0_3 kn) dX10_append_16 ?_
    refine z_geti C zf_X10_93 (zo_X_11_1 kn) dX10_append_19 ?_
    refine z_aload_n C dX10_append_22 rfl 0 rfl ?_
    refine z_getr C zf_X10_19 (zo_X_0_1 kn) dX10_append_23 ?_
    refine z_getr C zf_X10_125 (zo_X_4_2 kn) dX10_append_26 ?_
    refine z_iload_n C dX10_append_29 rfl 1 rfl ?_
    obtain ⟨hi30, h⟩ := z_g_some h
    refine z_iald C (za_X_6 kn) (z_in_vp hi30) dX10_append_30 ?_
    refine z_iadd C dX10_append_31 ?_
    refine z_bipush C dX10_append_32 zcb_48 ?_
    refine z_icmp_le 41 C dX10_append_34 rfl (fun hc => ?_) (fun hc => ?_)
    · replace h := z_it hc h
      refine z_iconst C dX10_append_41 zci_0 ?_
      refine z_istore_n C dX10_append_42 rfl (by decide) [(2, .int 0), (0, .ref (ad 0)), (1, .int v1)] rfl ?_
      refine z_loc [1, 2, 0] rfl ?_
      refine wX10_append_L43 C  zN v1 0 g5 h
    · replace h := z_if hc h
      refine z_sipush C dX10_append_37 zcs_m1004 ?_
      exact z_iret C (z_ret1i h) (z_ret2 h) dX10_append_40
set_option maxRecDepth 100000 in
set_option maxHeartbeats 4000000 in
theorem wX10_clear (kn : Bool) (ad : Nat → Nat) (g : z_S) (r : Int32) (gE : z_S) (h : fX10_clear g = some (r, gE)) : z_M yX10_clear cX10_clear 2 (some .int) 0 0 (layX kn) (nX kn) ad [.ref (ad 0)] g (some (.int r)) gE := by
  refine z_enter (by decide) (Nat.le_of_ble_eq_true rfl) (fun F C => ?_)
  replace C : z_X F (layX kn) (nX kn) ad cX10_clear RX10 2 (some .int) 0 0 (some (.int r)) gE := C
  show z_W F (layX kn) (nX kn) ad 0 [(0, .ref (ad 0))] [] g
  unfold fX10_clear at h
  refine z_aload_n C dX10_clear_0 rfl 0 rfl ?_
  refine z_getr C zf_X10_32 (zo_X_0_3 kn) dX10_clear_1 ?_
  refine z_geti C zf_X10_93 (zo_X_11_1 kn) dX10_clear_4 ?_
  refine z_istore_n C dX10_clear_7 rfl (by decide) [(1, .int (g.1 11 1)), (0, .ref (ad 0))] rfl ?_
  refine z_aload_n C dX10_clear_8 rfl 1 rfl ?_
  refine z_getr C zf_X10_32 (zo_X_0_3 kn) dX10_clear_9 ?_
  refine z_iconst C dX10_clear_12 zci_0 ?_
  obtain ⟨g13, eg13, h⟩ := z_s_some h
  refine z_puti C zp_X10_93 (zo_X_11_1 kn) rfl rfl dX10_clear_13 ?_
  refine z_gw eg13 ?_
  refine z_iload_n C dX10_clear_16 rfl 0 rfl ?_
  exact z_iret C (z_ret1i h) (z_ret2 h) dX10_clear_17
set_option maxRecDepth 100000 in
set_option maxHeartbeats 4000000 in
theorem wX9_standsAt_4_11_L24 {kn : Bool} {F : z_F} {ad : Nat → Nat} {r : Int32} {gE : z_S} (C : z_X F (layX kn) (nX kn) ad cX9_standsAt RX9 5 (some .boolean) 1 22 (some (.int r)) gE) : ∀ (n : Nat) (v1 : Int32) (v3 : Int32) (v4 : Int32) (g : z_S), z_loop fX9_standsAt_4_11_B24 n (v1, v3, v4) g = some (r, gE) → z_W F (layX kn) (nX kn) ad 24 [(0, .ref (ad 4)), (1, .int v1), (2, .ref (ad 11)), (3, .int v3), (4, .int v4)] [] g := by
  intro n
  induction n with
  | zero =>
    intro v1 v3 v4 g h
    exact (z_loop_0 h).elim
  | succ n ih =>
    intro v1 v3 v4 g h
    replace h := z_loop_S h
    simp only [fX9_standsAt_4_11_B24] at h
    refine z_iload C dX9_standsAt_24 4 rfl ?_
    refine z_aload_n C dX9_standsAt_26 rfl 0 rfl ?_
    refine z_getr C zf_X9_15 (zo_X_4_2 kn) dX9_standsAt_27 ?_
    refine z_iload_n C dX9_standsAt_30 rfl 1 rfl ?_
    obtain ⟨hi31, h⟩ := z_g_some h
    refine z_iald C (za_X_6 kn) (z_in_vp hi31) dX9_standsAt_31 ?_
    refine z_icmp_ge 62 C dX9_standsAt_32 rfl (fun hc => ?_) (fun hc => ?_)
    · replace h := z_it hc h
      refine z_iconst C dX9_standsAt_62 zci_1 ?_
      exact z_zret C (by decide) (z_ret1i h) (z_ret2 h) dX9_standsAt_63
    · replace h := z_if hc h
      refine z_aload_n C dX9_standsAt_35 rfl 2 rfl ?_
      refine z_getr C zf_X9_43 (zo_X_11_0 kn) dX9_standsAt_36 ?_
      refine z_iload_n C dX9_standsAt_39 rfl 3 rfl ?_
      refine z_iload C dX9_standsAt_40 4 rfl ?_
      refine z_iadd C dX9_standsAt_42 ?_
      obtain ⟨hi43, h⟩ := z_g_some h
      refine z_iald C (za_X_12 kn) (z_in_vp hi43) dX9_standsAt_43 ?_
      refine z_aload_n C dX9_standsAt_44 rfl 0 rfl ?_
      refine z_iload_n C dX9_standsAt_45 rfl 1 rfl ?_
      refine z_iload C dX9_standsAt_46 4 rfl ?_
      obtain ⟨r48, g48, hq48, h⟩ := z_b_some h
      refine z_callVi [.int (g.1 12 (v3 + v4).toNatClampNeg)] C zc_X9_32 (zk_X_4 kn) rfl (by decide) (Nat.le_of_ble_eq_true rfl) dX9_standsAt_48 rfl (wX9_sign_4 kn ad v1 v4 g r48 g48 hq48) ?_
      refine z_icmp_eq 56 C dX9_standsAt_51 rfl (fun hc => ?_) (fun hc => ?_)
      · replace h := z_it hc h
        refine z_iinc C dX9_standsAt_56 (by decide) 4 rfl (z_incl zci_1) [(4, .int (v4 + 1)), (0, .ref (ad 4)), (1, .int v1), (2, .ref (ad 11)), (3, .int v3)] rfl ?_
        refine z_goto 24 C dX9_standsAt_59 rfl ?_
        refine z_loc [1, 2, 3, 4, 0] rfl ?_
        exact ih v1 v3 (v4 + 1) g48 h
      · replace h := z_if hc h
        refine z_iconst C dX9_standsAt_54 zci_0 ?_
        exact z_zret C (by decide) (z_ret1i h) (z_ret2 h) dX9_standsAt_55
set_option maxRecDepth 100000 in
set_option maxHeartbeats 4000000 in
theorem wX9_standsAt_4_11 (kn : Bool) (ad : Nat → Nat) (v1 : Int32) (v3 : Int32) (g : z_S) (r : Int32) (gE : z_S) (h : fX9_standsAt_4_11 v1 v3 g = some (r, gE)) : z_M yX9_standsAt cX9_standsAt 5 (some .boolean) 1 22 (layX kn) (nX kn) ad [.ref (ad 4), .int v1, .ref (ad 11), .int v3] g (some (.int r)) gE := by
  refine z_enter (by decide) (Nat.le_of_ble_eq_true rfl) (fun F C => ?_)
  replace C : z_X F (layX kn) (nX kn) ad cX9_standsAt RX9 5 (some .boolean) 1 22 (some (.int r)) gE := C
  show z_W F (layX kn) (nX kn) ad 0 [(0, .ref (ad 4)), (1, .int v1), (2, .ref (ad 11)), (3, .int v3)] [] g
  unfold fX9_standsAt_4_11 at h
  refine z_iload_n C dX9_standsAt_0 rfl 3 rfl ?_
  refine z_if_lt 19 C dX9_standsAt_1 rfl (fun hc => ?_) (fun hc => ?_)
  · replace h := z_it hc h
    refine z_iconst C dX9_standsAt_19 zci_0 ?_
    exact z_zret C (by decide) (z_ret1i h) (z_ret2 h) dX9_standsAt_20
  · replace h := z_if hc h
    refine z_iload_n C dX9_standsAt_4 rfl 3 rfl ?_
    refine z_aload_n C dX9_standsAt_5 rfl 0 rfl ?_
    refine z_getr C zf_X9_15 (zo_X_4_2 kn) dX9_standsAt_6 ?_
    refine z_iload_n C dX9_standsAt_9 rfl 1 rfl ?_
    obtain ⟨hi10, h⟩ := z_g_some h
    refine z_iald C (za_X_6 kn) (z_in_vp hi10) dX9_standsAt_10 ?_
    refine z_iadd C dX9_standsAt_11 ?_
    refine z_aload_n C dX9_standsAt_12 rfl 2 rfl ?_
    refine z_geti C zf_X9_40 (zo_X_11_1 kn) dX9_standsAt_13 ?_
    refine z_icmp_le 21 C dX9_standsAt_16 rfl (fun hc => ?_) (fun hc => ?_)
    · replace h := z_it hc h
      refine z_iconst C dX9_standsAt_21 zci_0 ?_
      refine z_istore C dX9_standsAt_22 (by decide) [(4, .int 0), (0, .ref (ad 4)), (1, .int v1), (2, .ref (ad 11)), (3, .int v3)] rfl ?_
      refine z_loc [1, 2, 3, 4, 0] rfl ?_
      refine wX9_standsAt_4_11_L24 C  zN v1 v3 0 g h
    · replace h := z_if hc h
      refine z_iconst C dX9_standsAt_19 zci_0 ?_
      exact z_zret C (by decide) (z_ret1i h) (z_ret2 h) dX9_standsAt_20
set_option maxRecDepth 100000 in
set_option maxHeartbeats 4000000 in
theorem wX9_standingAt_4_11_L5 {kn : Bool} {F : z_F} {ad : Nat → Nat} {r : Int32} {gE : z_S} (C : z_X F (layX kn) (nX kn) ad cX9_standingAt RX9 5 (some .int) 2 46 (some (.int r)) gE) : ∀ (n : Nat) (v2 : Int32) (v3 : Int32) (v4 : Int32) (g : z_S), z_loop fX9_standingAt_4_11_B5 n (v2, v3, v4) g = some (r, gE) → z_W F (layX kn) (nX kn) ad 5 [(0, .ref (ad 4)), (1, .ref (ad 11)), (2, .int v2), (3, .int v3), (4, .int v4)] [] g := by
  intro n
  induction n with
  | zero =>
    intro v2 v3 v4 g h
    exact (z_loop_0 h).elim
  | succ n ih =>
    intro v2 v3 v4 g h
    replace h := z_loop_S h
    simp only [fX9_standingAt_4_11_B5] at h
    refine z_iload C dX9_standingAt_5 4 rfl ?_
    refine z_aload_n C dX9_standingAt_7 rfl 0 rfl ?_
    refine z_geti C zf_X9_24 (zo_X_4_0 kn) dX9_standingAt_8 ?_
    refine z_icmp_ge 38 C dX9_standingAt_11 rfl (fun hc => ?_) (fun hc => ?_)
    · replace h := z_it hc h
      refine z_iload_n C dX9_standingAt_38 rfl 3 rfl ?_
      exact z_iret C (z_ret1i h) (z_ret2 h) dX9_standingAt_39
    · replace h := z_if hc h
      refine z_aload_n C dX9_standingAt_14 rfl 0 rfl ?_
      refine z_iload C dX9_standingAt_15 4 rfl ?_
      refine z_aload_n C dX9_standingAt_17 rfl 1 rfl ?_
      refine z_iload_n C dX9_standingAt_18 rfl 2 rfl ?_
      obtain ⟨r19, g19, hq19, h⟩ := z_b_some h
      refine z_callVi [] C zc_X9_36 (zk_X_4 kn) rfl (by decide) (Nat.le_of_ble_eq_true rfl) dX9_standingAt_19 rfl (wX9_standsAt_4_11 kn ad v4 v2 g r19 g19 hq19) ?_
      refine z_if_eq 32 C dX9_standingAt_22 rfl (fun hc => ?_) (fun hc => ?_)
      · replace h := z_it hc h
        refine z_iinc C dX9_standingAt_32 (by decide) 4 rfl (z_incl zci_1) [(4, .int (v4 + 1)), (0, .ref (ad 4)), (1, .ref (ad 11)), (2, .int v2), (3, .int v3)] rfl ?_
        refine z_goto 5 C dX9_standingAt_35 rfl ?_
        refine z_loc [1, 2, 3, 4, 0] rfl ?_
        exact ih v2 v3 (v4 + 1) g19 h
      · replace h := z_if hc h
        refine z_iload_n C dX9_standingAt_25 rfl 3 rfl ?_
        refine z_iconst C dX9_standingAt_26 zci_1 ?_
        refine z_iload C dX9_standingAt_27 4 rfl ?_
        refine z_ishl C dX9_standingAt_29 ?_
        refine z_ior C dX9_standingAt_30 ?_
        refine z_istore_n C dX9_standingAt_31 rfl (by decide) [(3, .int (v3 ||| (1 <<< (v4 &&& 31)))), (0, .ref (ad 4)), (1, .ref (ad 11)), (2, .int v2), (4, .int v4)] rfl ?_
        refine z_iinc C dX9_standingAt_32 (by decide) 4 rfl (z_incl zci_1) [(4, .int (v4 + 1)), (3, .int (v3 ||| (1 <<< (v4 &&& 31)))), (0, .ref (ad 4)), (1, .ref (ad 11)), (2, .int v2)] rfl ?_
        refine z_goto 5 C dX9_standingAt_35 rfl ?_
        refine z_loc [2, 3, 4, 1, 0] rfl ?_
        exact ih v2 (v3 ||| (1 <<< (v4 &&& 31))) (v4 + 1) g19 h
set_option maxRecDepth 100000 in
set_option maxHeartbeats 4000000 in
theorem wX9_standingAt_4_11 (kn : Bool) (ad : Nat → Nat) (v2 : Int32) (g : z_S) (r : Int32) (gE : z_S) (h : fX9_standingAt_4_11 v2 g = some (r, gE)) : z_M yX9_standingAt cX9_standingAt 5 (some .int) 2 46 (layX kn) (nX kn) ad [.ref (ad 4), .ref (ad 11), .int v2] g (some (.int r)) gE := by
  refine z_enter (by decide) (Nat.le_of_ble_eq_true rfl) (fun F C => ?_)
  replace C : z_X F (layX kn) (nX kn) ad cX9_standingAt RX9 5 (some .int) 2 46 (some (.int r)) gE := C
  show z_W F (layX kn) (nX kn) ad 0 [(0, .ref (ad 4)), (1, .ref (ad 11)), (2, .int v2)] [] g
  unfold fX9_standingAt_4_11 at h
  refine z_iconst C dX9_standingAt_0 zci_0 ?_
  refine z_istore_n C dX9_standingAt_1 rfl (by decide) [(3, .int 0), (0, .ref (ad 4)), (1, .ref (ad 11)), (2, .int v2)] rfl ?_
  refine z_iconst C dX9_standingAt_2 zci_0 ?_
  refine z_istore C dX9_standingAt_3 (by decide) [(4, .int 0), (3, .int 0), (0, .ref (ad 4)), (1, .ref (ad 11)), (2, .int v2)] rfl ?_
  refine z_loc [2, 3, 4, 1, 0] rfl ?_
  refine wX9_standingAt_4_11_L5 C  zN v2 0 0 g h
set_option maxRecDepth 100000 in
set_option maxHeartbeats 4000000 in
theorem wX5_behind (kn : Bool) (ad : Nat → Nat) (v1 : Int32) (v2 : Int32) (g : z_S) (r : Int32) (gE : z_S) (h : fX5_behind v1 v2 g = some (r, gE)) : z_M yX5_behind cX5_behind 3 (some .int) 0 0 (layX kn) (nX kn) ad [.ref (ad 19), .int v1, .int v2] g (some (.int r)) gE := by
  refine z_enter (by decide) (Nat.le_of_ble_eq_true rfl) (fun F C => ?_)
  replace C : z_X F (layX kn) (nX kn) ad cX5_behind RX5 3 (some .int) 0 0 (some (.int r)) gE := C
  show z_W F (layX kn) (nX kn) ad 0 [(0, .ref (ad 19)), (1, .int v1), (2, .int v2)] [] g
  unfold fX5_behind at h
  refine z_iload_n C dX5_behind_0 rfl 1 rfl ?_
  refine z_aload_n C dX5_behind_1 rfl 0 rfl ?_
  refine z_getr C zf_X5_26 (zo_X_19_1 kn) dX5_behind_2 ?_
  refine z_getr C zf_X5_79 (zo_X_4_2 kn) dX5_behind_5 ?_
  refine z_iload_n C dX5_behind_8 rfl 2 rfl ?_
  obtain ⟨hi9, h⟩ := z_g_some h
  refine z_iald C (za_X_6 kn) (z_in_vp hi9) dX5_behind_9 ?_
  refine z_iadd C dX5_behind_10 ?_
  refine z_iconst C dX5_behind_11 zci_5 ?_
  refine z_imul C dX5_behind_12 ?_
  refine z_aload_n C dX5_behind_13 rfl 0 rfl ?_
  refine z_getr C zf_X5_26 (zo_X_19_1 kn) dX5_behind_14 ?_
  refine z_getr C zf_X5_70 (zo_X_4_4 kn) dX5_behind_17 ?_
  refine z_iload_n C dX5_behind_20 rfl 2 rfl ?_
  obtain ⟨hi21, h⟩ := z_g_some h
  refine z_iald C (za_X_8 kn) (z_in_vp hi21) dX5_behind_21 ?_
  refine z_iadd C dX5_behind_22 ?_
  exact z_iret C (z_ret1i h) (z_ret2 h) dX5_behind_23
set_option maxRecDepth 100000 in
set_option maxHeartbeats 4000000 in
theorem wX5_weight (kn : Bool) (ad : Nat → Nat) (v1 : Int32) (v2 : Int32) (g : z_S) (r : Int32) (gE : z_S) (h : fX5_weight v1 v2 g = some (r, gE)) : z_M yX5_weight cX5_weight 3 (some .int) 0 0 (layX kn) (nX kn) ad [.ref (ad 19), .int v1, .int v2] g (some (.int r)) gE := by
  refine z_enter (by decide) (Nat.le_of_ble_eq_true rfl) (fun F C => ?_)
  replace C : z_X F (layX kn) (nX kn) ad cX5_weight RX5 3 (some .int) 0 0 (some (.int r)) gE := C
  show z_W F (layX kn) (nX kn) ad 0 [(0, .ref (ad 19)), (1, .int v1), (2, .int v2)] [] g
  unfold fX5_weight at h
  refine z_aload_n C dX5_weight_0 rfl 0 rfl ?_
  refine z_geti C zf_X5_34 (zo_X_19_6 kn) dX5_weight_1 ?_
  by_cases hc4_1 : g.1 19 6 = 1
  · replace h := z_it hc4_1 h
    refine z_tabIn (off := 36) 1 40 C dX5_weight_4 hc4_1 (by decide) (by decide) (by decide) rfl ?_
    refine z_aload_n C dX5_weight_40 rfl 0 rfl ?_
    refine z_getr C zf_X5_26 (zo_X_19_1 kn) dX5_weight_41 ?_
    refine z_getr C zf_X5_85 (zo_X_4_3 kn) dX5_weight_44 ?_
    refine z_iload_n C dX5_weight_47 rfl 1 rfl ?_
    obtain ⟨hi48, h⟩ := z_g_some h
    refine z_iald C (za_X_7 kn) (z_in_vp hi48) dX5_weight_48 ?_
    exact z_iret C (z_ret1i h) (z_ret2 h) dX5_weight_49
  replace h := z_if hc4_1 h
  by_cases hc4_2 : g.1 19 6 = 2
  · replace h := z_it hc4_2 h
    refine z_tabIn (off := 46) 2 50 C dX5_weight_4 hc4_2 (by decide) (by decide) (by decide) rfl ?_
    refine z_iconst C dX5_weight_50 zci_1 ?_
    exact z_iret C (z_ret1i h) (z_ret2 h) dX5_weight_51
  replace h := z_if hc4_2 h
  by_cases hc4_3 : g.1 19 6 = 3
  · replace h := z_it hc4_3 h
    refine z_tabIn (off := 48) 3 52 C dX5_weight_4 hc4_3 (by decide) (by decide) (by decide) rfl ?_
    refine z_iconst C dX5_weight_52 zci_m1 ?_
    exact z_iret C (z_ret1i h) (z_ret2 h) dX5_weight_53
  replace h := z_if hc4_3 h
  by_cases hc4_4 : g.1 19 6 = 4
  · replace h := z_it hc4_4 h
    refine z_tabIn (off := 50) 4 54 C dX5_weight_4 hc4_4 (by decide) (by decide) (by decide) rfl ?_
    refine z_iload_n C dX5_weight_54 rfl 2 rfl ?_
    refine z_aload_n C dX5_weight_55 rfl 0 rfl ?_
    refine z_geti C zf_X5_38 (zo_X_19_7 kn) dX5_weight_56 ?_
    refine z_icmp_ne 66 C dX5_weight_59 rfl (fun hc => ?_) (fun hc => ?_)
    · replace h := z_it hc h
      refine z_iconst C dX5_weight_62 zci_1 ?_
      refine z_goto 67 C dX5_weight_63 rfl ?_
      exact z_iret C (z_ret1i h) (z_ret2 h) dX5_weight_67
    · replace h := z_if hc h
      refine z_iconst C dX5_weight_66 zci_0 ?_
      exact z_iret C (z_ret1i h) (z_ret2 h) dX5_weight_67
  replace h := z_if hc4_4 h
  by_cases hc4_5 : g.1 19 6 = 5
  · replace h := z_it hc4_5 h
    refine z_tabIn (off := 64) 5 68 C dX5_weight_4 hc4_5 (by decide) (by decide) (by decide) rfl ?_
    refine z_iload_n C dX5_weight_68 rfl 2 rfl ?_
    refine z_aload_n C dX5_weight_69 rfl 0 rfl ?_
    refine z_geti C zf_X5_38 (zo_X_19_7 kn) dX5_weight_70 ?_
    refine z_icmp_ne 80 C dX5_weight_73 rfl (fun hc => ?_) (fun hc => ?_)
    · replace h := z_it hc h
      refine z_iconst C dX5_weight_76 zci_m1 ?_
      refine z_goto 81 C dX5_weight_77 rfl ?_
      exact z_iret C (z_ret1i h) (z_ret2 h) dX5_weight_81
    · replace h := z_if hc h
      refine z_iconst C dX5_weight_80 zci_0 ?_
      exact z_iret C (z_ret1i h) (z_ret2 h) dX5_weight_81
  replace h := z_if hc4_5 h
  refine z_tabOut 82 C dX5_weight_4 (z_tabne [1, 2, 3, 4, 5] (by decide) (by decide) (List.forall_mem_cons.mpr ⟨hc4_1, List.forall_mem_cons.mpr ⟨hc4_2, List.forall_mem_cons.mpr ⟨hc4_3, List.forall_mem_cons.mpr ⟨hc4_4, List.forall_mem_cons.mpr ⟨hc4_5, List.forall_mem_nil _⟩⟩⟩⟩⟩)) rfl ?_
  refine z_iconst C dX5_weight_82 zci_0 ?_
  exact z_iret C (z_ret1i h) (z_ret2 h) dX5_weight_83

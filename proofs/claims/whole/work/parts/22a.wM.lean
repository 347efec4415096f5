set_option maxRecDepth 100000 in
set_option maxHeartbeats 4000000 in
theorem wX11_in (ad : Nat → Nat) (v0 : Int64) (v2 : Int64) (v4 : Int64) (g : z_S) (r : Int32) (gE : z_S) (h : fX11_in v0 v2 v4 g = some (r, gE)) : z_M yX11_in cX11_in 6 (some .boolean) 0 0 layM nM ad [.long v0, .long v2, .long v4] g (some (.int r)) gE := by
  refine z_enter (by decide) (Nat.le_of_ble_eq_true rfl) (fun F C => ?_)
  replace C : z_X F layM nM ad cX11_in RX11 6 (some .boolean) 0 0 (some (.int r)) gE := C
  show z_W F layM nM ad 0 [(0, .long v0), (2, .long v2), (4, .long v4)] [] g
  unfold fX11_in at h
  refine z_lload_n C dX11_in_0 rfl 0 rfl ?_
  refine z_lload_n C dX11_in_1 rfl 1 rfl ?_
  refine z_lcmp_lt 17 C dX11_in_2 dX11_in_3 rfl (fun hc => ?_) (fun hc => ?_)
  · replace h := z_it hc h
    refine z_iconst C dX11_in_17 zci_0 ?_
    exact z_zret C (by decide) (z_ret1i h) (z_ret2 h) dX11_in_18
  · replace h := z_if hc h
    refine z_lload_n C dX11_in_6 rfl 0 rfl ?_
    refine z_lload C dX11_in_7 2 rfl ?_
    refine z_lcmp_gt 17 C dX11_in_9 dX11_in_10 rfl (fun hc => ?_) (fun hc => ?_)
    · replace h := z_it hc h
      refine z_iconst C dX11_in_17 zci_0 ?_
      exact z_zret C (by decide) (z_ret1i h) (z_ret2 h) dX11_in_18
    · replace h := z_if hc h
      refine z_iconst C dX11_in_13 zci_1 ?_
      refine z_goto 18 C dX11_in_14 rfl ?_
      exact z_zret C (by decide) (z_ret1i h) (z_ret2 h) dX11_in_18
set_option maxRecDepth 100000 in
set_option maxHeartbeats 4000000 in
theorem wX11_letters (ad : Nat → Nat) (v1 : Int32) (g : z_S) (r : Int32) (gE : z_S) (h : fX11_letters v1 g = some (r, gE)) : z_M yX11_letters cX11_letters 2 (some .int) 1 25 layM nM ad [.ref (ad 0), .int v1] g (some (.int r)) gE := by
  refine z_enter (by decide) (Nat.le_of_ble_eq_true rfl) (fun F C => ?_)
  replace C : z_X F layM nM ad cX11_letters RX11 2 (some .int) 1 25 (some (.int r)) gE := C
  show z_W F layM nM ad 0 [(0, .ref (ad 0)), (1, .int v1)] [] g
  unfold fX11_letters at h
  refine z_iload_n C dX11_letters_0 rfl 1 rfl ?_
  refine z_i2l C dX11_letters_1 ?_
  refine z_ldc2 C dX11_letters_2 zl_X11_127 ?_
  refine z_ldc2 C dX11_letters_5 zl_X11_129 ?_
  obtain ⟨r8, g8, hq8, h⟩ := z_b_some h
  refine z_callSi [] C zc_X11_131 rfl (by decide) (Nat.le_of_ble_eq_true rfl) dX11_letters_8 rfl (wX11_in ad ((v1).toInt64) 2 8 g r8 g8 hq8) ?_
  refine z_if_ne 18 C dX11_letters_11 rfl (fun hc => ?_) (fun hc => ?_)
  · replace h := z_it hc h
    refine z_sipush C dX11_letters_14 zcs_m1002 ?_
    exact z_iret C (z_ret1i h) (z_ret2 h) dX11_letters_17
  · replace h := z_if hc h
    refine z_aload_n C dX11_letters_18 rfl 0 rfl ?_
    refine z_iload_n C dX11_letters_19 rfl 1 rfl ?_
    obtain ⟨g20, eg20, h⟩ := z_s_some h
    refine z_puti C zp_X11_124 zo_M_0 rfl rfl dX11_letters_20 ?_
    refine z_gw eg20 ?_
    refine z_aload_n C dX11_letters_23 rfl 0 rfl ?_
    refine z_iconst C dX11_letters_24 zci_0 ?_
    obtain ⟨g25, eg25, h⟩ := z_s_some h
    refine z_puti C zp_X11_135 zo_M_1 rfl rfl dX11_letters_25 ?_
    refine z_gw eg25 ?_
    refine z_aload_n C dX11_letters_28 rfl 0 rfl ?_
    refine z_iconst C dX11_letters_29 zci_0 ?_
    obtain ⟨g30, eg30, h⟩ := z_s_some h
    refine z_puti C zp_X11_138 zo_M_10 rfl rfl dX11_letters_30 ?_
    refine z_gw eg30 ?_
    refine z_aload_n C dX11_letters_33 rfl 0 rfl ?_
    refine z_iconst C dX11_letters_34 zci_0 ?_
    obtain ⟨g35, eg35, h⟩ := z_s_some h
    refine z_puti C zp_X11_141 zo_M_9 rfl rfl dX11_letters_35 ?_
    refine z_gw eg35 ?_
    refine z_iload_n C dX11_letters_38 rfl 1 rfl ?_
    exact z_iret C (z_ret1i h) (z_ret2 h) dX11_letters_39
set_option maxRecDepth 100000 in
set_option maxHeartbeats 4000000 in
theorem wX11_feed_L37 {F : z_F} {ad : Nat → Nat} {r : Int32} {gE : z_S} (C : z_X F layM nM ad cX11_feed RX11 5 (some .int) 1 25 (some (.int r)) gE) : ∀ (n : Nat) (v2 : Int64) (v4 : Int32) (g : z_S), z_loop fX11_feed_B37 n (v2, v4) g = some (r, gE) → z_W F layM nM ad 37 [(0, .ref (ad 0)), (2, .long v2), (4, .int v4)] [] g := by
  intro n
  induction n with
  | zero =>
    intro v2 v4 g h
    exact (z_loop_0 h).elim
  | succ n ih =>
    intro v2 v4 g h
    replace h := z_loop_S h
    simp only [fX11_feed_B37] at h
    refine z_iload C dX11_feed_37 2 rfl ?_
    refine z_if_lt 79 C dX11_feed_39 rfl (fun hc => ?_) (fun hc => ?_)
    · replace h := z_it hc h
      refine z_aload_n C dX11_feed_79 rfl 0 rfl ?_
      refine z_geti C zf_X11_144 zo_M_14 dX11_feed_80 ?_
      exact z_iret C (z_ret1i h) (z_ret2 h) dX11_feed_83
    · replace h := z_if hc h
      refine z_aload_n C dX11_feed_42 rfl 0 rfl ?_
      refine z_getr C zf_X11_38 zo_M_13 dX11_feed_43 ?_
      refine z_aload_n C dX11_feed_46 rfl 0 rfl ?_
      refine z_geti C zf_X11_144 zo_M_14 dX11_feed_47 ?_
      refine z_lload_n C dX11_feed_50 rfl 1 rfl ?_
      refine z_bipush C dX11_feed_51 zcb_8 ?_
      refine z_iload C dX11_feed_53 2 rfl ?_
      refine z_imul C dX11_feed_55 ?_
      refine z_lshr C dX11_feed_56 ?_
      refine z_ldc2 C dX11_feed_57 zl_X11_147 ?_
      refine z_land C dX11_feed_60 ?_
      refine z_l2i C dX11_feed_61 ?_
      obtain ⟨hi62, h⟩ := z_g_some h
      obtain ⟨g62, eg62, h⟩ := z_s_some h
      refine z_iast C za_M_10 (z_in_vp hi62) dX11_feed_62 ?_
      refine z_gw eg62 ?_
      refine z_aload_n C dX11_feed_63 rfl 0 rfl ?_
      refine z_dup C dX11_feed_64 rfl ?_
      refine z_geti C zf_X11_144 zo_M_14 dX11_feed_65 ?_
      refine z_iconst C dX11_feed_68 zci_1 ?_
      refine z_iadd C dX11_feed_69 ?_
      obtain ⟨g70, eg70, h⟩ := z_s_some h
      refine z_puti C zp_X11_144 zo_M_14 rfl rfl dX11_feed_70 ?_
      refine z_gw eg70 ?_
      refine z_iinc C dX11_feed_73 (by decide) 2 rfl (z_incl zci_m1) [(4, .int (v4 + (-1))), (0, .ref (ad 0)), (2, .long v2)] rfl ?_
      refine z_goto 37 C dX11_feed_76 rfl ?_
      refine z_loc [1, 2, 0] rfl ?_
      exact ih v2 (v4 + (-1)) g70 h
set_option maxRecDepth 100000 in
set_option maxHeartbeats 4000000 in
theorem wX11_feed (ad : Nat → Nat) (v1 : Int32) (v2 : Int64) (g : z_S) (r : Int32) (gE : z_S) (h : fX11_feed v1 v2 g = some (r, gE)) : z_M yX11_feed cX11_feed 5 (some .int) 1 25 layM nM ad [.ref (ad 0), .int v1, .long v2] g (some (.int r)) gE := by
  refine z_enter (by decide) (Nat.le_of_ble_eq_true rfl) (fun F C => ?_)
  replace C : z_X F layM nM ad cX11_feed RX11 5 (some .int) 1 25 (some (.int r)) gE := C
  show z_W F layM nM ad 0 [(0, .ref (ad 0)), (1, .int v1), (2, .long v2)] [] g
  unfold fX11_feed at h
  refine z_iload_n C dX11_feed_0 rfl 1 rfl ?_
  refine z_i2l C dX11_feed_1 ?_
  refine z_lconst C dX11_feed_2 zcl_1 ?_
  refine z_ldc2 C dX11_feed_3 zl_X11_129 ?_
  obtain ⟨r6, g6, hq6, h⟩ := z_b_some h
  refine z_callSi [] C zc_X11_131 rfl (by decide) (Nat.le_of_ble_eq_true rfl) dX11_feed_6 rfl (wX11_in ad ((v1).toInt64) 1 8 g r6 g6 hq6) ?_
  refine z_if_ne 16 C dX11_feed_9 rfl (fun hc => ?_) (fun hc => ?_)
  · replace h := z_it hc h
    refine z_sipush C dX11_feed_12 zcs_m1002 ?_
    exact z_iret C (z_ret1i h) (z_ret2 h) dX11_feed_15
  · replace h := z_if hc h
    refine z_aload_n C dX11_feed_16 rfl 0 rfl ?_
    refine z_geti C zf_X11_144 zo_M_14 dX11_feed_17 ?_
    refine z_iload_n C dX11_feed_20 rfl 1 rfl ?_
    refine z_iadd C dX11_feed_21 ?_
    refine z_sipush C dX11_feed_22 zcs_200 ?_
    refine z_icmp_le 32 C dX11_feed_25 rfl (fun hc => ?_) (fun hc => ?_)
    · replace h := z_it hc h
      refine z_iload_n C dX11_feed_32 rfl 1 rfl ?_
      refine z_iconst C dX11_feed_33 zci_1 ?_
      refine z_isub C dX11_feed_34 ?_
      refine z_istore C dX11_feed_35 (by decide) [(4, .int (v1 - 1)), (0, .ref (ad 0)), (1, .int v1), (2, .long v2)] rfl ?_
      refine z_loc [1, 3, 0] rfl ?_
      refine wX11_feed_L37 C  zN v2 (v1 - 1) g6 h
    · replace h := z_if hc h
      refine z_sipush C dX11_feed_28 zcs_m1004 ?_
      exact z_iret C (z_ret1i h) (z_ret2 h) dX11_feed_31
set_option maxRecDepth 100000 in
set_option maxHeartbeats 4000000 in
theorem wX11_here_L0 {F : z_F} {ad : Nat → Nat} {r : Int32} {gE : z_S} (C : z_X F layM nM ad cX11_here RX11 1 (some .int) 0 0 (some (.int r)) gE) (k38 : z_S → Option (Int32 × z_S)) (hk38 : ∀ (g : z_S), k38 g = some (r, gE) → z_W F layM nM ad 38 [(0, .ref (ad 0))] [] g) : ∀ (n : Nat) (g : z_S), z_loop (fX11_here_B0 k38) n () g = some (r, gE) → z_W F layM nM ad 0 [(0, .ref (ad 0))] [] g := by
  intro n
  induction n with
  | zero =>
    intro  g h
    exact (z_loop_0 h).elim
  | succ n ih =>
    intro  g h
    replace h := z_loop_S h
    simp only [fX11_here_B0] at h
    refine z_aload_n C dX11_here_0 rfl 0 rfl ?_
    refine z_geti C zf_X11_149 zo_M_15 dX11_here_1 ?_
    refine z_aload_n C dX11_here_4 rfl 0 rfl ?_
    refine z_geti C zf_X11_144 zo_M_14 dX11_here_5 ?_
    refine z_icmp_ge 38 C dX11_here_8 rfl (fun hc => ?_) (fun hc => ?_)
    · replace h := z_it hc h
      exact hk38 g h
    · replace h := z_if hc h
      refine z_aload_n C dX11_here_11 rfl 0 rfl ?_
      refine z_getr C zf_X11_38 zo_M_13 dX11_here_12 ?_
      refine z_aload_n C dX11_here_15 rfl 0 rfl ?_
      refine z_geti C zf_X11_149 zo_M_15 dX11_here_16 ?_
      obtain ⟨hi19, h⟩ := z_g_some h
      refine z_iald C za_M_10 (z_in_vp hi19) dX11_here_19 ?_
      refine z_bipush C dX11_here_20 zcb_32 ?_
      refine z_icmp_ne 38 C dX11_here_22 rfl (fun hc => ?_) (fun hc => ?_)
      · replace h := z_it hc h
        refine z_aload_n C dX11_here_25 rfl 0 rfl ?_
        refine z_dup C dX11_here_26 rfl ?_
        refine z_geti C zf_X11_149 zo_M_15 dX11_here_27 ?_
        refine z_iconst C dX11_here_30 zci_1 ?_
        refine z_iadd C dX11_here_31 ?_
        obtain ⟨g32, eg32, h⟩ := z_s_some h
        refine z_puti C zp_X11_149 zo_M_15 rfl rfl dX11_here_32 ?_
        refine z_gw eg32 ?_
        refine z_goto 0 C dX11_here_35 rfl ?_
        exact ih g32 h
      · replace h := z_if hc h
        exact hk38 g h
set_option maxRecDepth 100000 in
set_option maxHeartbeats 4000000 in
theorem wX11_here (ad : Nat → Nat) (g : z_S) (r : Int32) (gE : z_S) (h : fX11_here g = some (r, gE)) : z_M yX11_here cX11_here 1 (some .int) 0 0 layM nM ad [.ref (ad 0)] g (some (.int r)) gE := by
  refine z_enter (by decide) (Nat.le_of_ble_eq_true rfl) (fun F C => ?_)
  replace C : z_X F layM nM ad cX11_here RX11 1 (some .int) 0 0 (some (.int r)) gE := C
  show z_W F layM nM ad 0 [(0, .ref (ad 0))] [] g
  unfold fX11_here at h
  refine z_aload_n C dX11_here_0 rfl 0 rfl ?_
  refine z_geti C zf_X11_149 zo_M_15 dX11_here_1 ?_
  refine z_aload_n C dX11_here_4 rfl 0 rfl ?_
  refine z_geti C zf_X11_144 zo_M_14 dX11_here_5 ?_
  refine z_icmp_ge 38 C dX11_here_8 rfl (fun hc => ?_) (fun hc => ?_)
  · replace h := z_it hc h
    refine z_aload_n C dX11_here_38 rfl 0 rfl ?_
    refine z_geti C zf_X11_149 zo_M_15 dX11_here_39 ?_
    refine z_aload_n C dX11_here_42 rfl 0 rfl ?_
    refine z_geti C zf_X11_144 zo_M_14 dX11_here_43 ?_
    refine z_icmp_ge 61 C dX11_here_46 rfl (fun hc => ?_) (fun hc => ?_)
    · replace h := z_it hc h
      refine z_iconst C dX11_here_61 zci_m1 ?_
      exact z_iret C (z_ret1i h) (z_ret2 h) dX11_here_62
    · replace h := z_if hc h
      refine z_aload_n C dX11_here_49 rfl 0 rfl ?_
      refine z_getr C zf_X11_38 zo_M_13 dX11_here_50 ?_
      refine z_aload_n C dX11_here_53 rfl 0 rfl ?_
      refine z_geti C zf_X11_149 zo_M_15 dX11_here_54 ?_
      obtain ⟨hi57, h⟩ := z_g_some h
      refine z_iald C za_M_10 (z_in_vp hi57) dX11_here_57 ?_
      refine z_goto 62 C dX11_here_58 rfl ?_
      exact z_iret C (z_ret1i h) (z_ret2 h) dX11_here_62
  · replace h := z_if hc h
    refine z_aload_n C dX11_here_11 rfl 0 rfl ?_
    refine z_getr C zf_X11_38 zo_M_13 dX11_here_12 ?_
    refine z_aload_n C dX11_here_15 rfl 0 rfl ?_
    refine z_geti C zf_X11_149 zo_M_15 dX11_here_16 ?_
    obtain ⟨hi19, h⟩ := z_g_some h
    refine z_iald C za_M_10 (z_in_vp hi19) dX11_here_19 ?_
    refine z_bipush C dX11_here_20 zcb_32 ?_
    refine z_icmp_ne 38 C dX11_here_22 rfl (fun hc => ?_) (fun hc => ?_)
    · replace h := z_it hc h
      refine z_aload_n C dX11_here_25 rfl 0 rfl ?_
      refine z_dup C dX11_here_26 rfl ?_
      refine z_geti C zf_X11_149 zo_M_15 dX11_here_27 ?_
      refine z_iconst C dX11_here_30 zci_1 ?_
      refine z_iadd C dX11_here_31 ?_
      obtain ⟨g32, eg32, h⟩ := z_s_some h
      refine z_puti C zp_X11_149 zo_M_15 rfl rfl dX11_here_32 ?_
      refine z_gw eg32 ?_
      refine z_goto 0 C dX11_here_35 rfl ?_
      refine wX11_here_L0 C _ ?_ zN g32 h
      · intro g h
        refine z_aload_n C dX11_here_38 rfl 0 rfl ?_
        refine z_geti C zf_X11_149 zo_M_15 dX11_here_39 ?_
        refine z_aload_n C dX11_here_42 rfl 0 rfl ?_
        refine z_geti C zf_X11_144 zo_M_14 dX11_here_43 ?_
        refine z_icmp_ge 61 C dX11_here_46 rfl (fun hc => ?_) (fun hc => ?_)
        · replace h := z_it hc h
          refine z_iconst C dX11_here_61 zci_m1 ?_
          exact z_iret C (z_ret1i h) (z_ret2 h) dX11_here_62
        · replace h := z_if hc h
          refine z_aload_n C dX11_here_49 rfl 0 rfl ?_
          refine z_getr C zf_X11_38 zo_M_13 dX11_here_50 ?_
          refine z_aload_n C dX11_here_53 rfl 0 rfl ?_
          refine z_geti C zf_X11_149 zo_M_15 dX11_here_54 ?_
          obtain ⟨hi57, h⟩ := z_g_some h
          refine z_iald C za_M_10 (z_in_vp hi57) dX11_here_57 ?_
          refine z_goto 62 C dX11_here_58 rfl ?_
          exact z_iret C (z_ret1i h) (z_ret2 h) dX11_here_62
    · replace h := z_if hc h
      refine z_aload_n C dX11_here_38 rfl 0 rfl ?_
      refine z_geti C zf_X11_149 zo_M_15 dX11_here_39 ?_
      refine z_aload_n C dX11_here_42 rfl 0 rfl ?_
      refine z_geti C zf_X11_144 zo_M_14 dX11_here_43 ?_
      refine z_icmp_ge 61 C dX11_here_46 rfl (fun hc => ?_) (fun hc => ?_)
      · replace h := z_it hc h
        refine z_iconst C dX11_here_61 zci_m1 ?_
        exact z_iret C (z_ret1i h) (z_ret2 h) dX11_here_62
      · replace h := z_if hc h
        refine z_aload_n C dX11_here_49 rfl 0 rfl ?_
        refine z_getr C zf_X11_38 zo_M_13 dX11_here_50 ?_
        refine z_aload_n C dX11_here_53 rfl 0 rfl ?_
        refine z_geti C zf_X11_149 zo_M_15 dX11_here_54 ?_
        obtain ⟨hi57, h⟩ := z_g_some h
        refine z_iald C za_M_10 (z_in_vp hi57) dX11_here_57 ?_
        refine z_goto 62 C dX11_here_58 rfl ?_
        exact z_iret C (z_ret1i h) (z_ret2 h) dX11_here_62
set_option maxRecDepth 100000 in
set_option maxHeartbeats 4000000 in
theorem wX11_want_J21 {F : z_F} {ad : Nat → Nat} {r : Int32} {gE : z_S} (C : z_X F layM nM ad cX11_want RX11 4 (some .boolean) 0 0 (some (.int r)) gE) (g : z_S) (h : fX11_want_J21 g = some (r, gE)) : z_W F layM nM ad 21 [(0, .ref (ad 0))] [] g := by
  unfold fX11_want_J21 at h
  refine z_aload_n C dX11_want_21 rfl 0 rfl ?_
  refine z_geti C zf_X11_152 zo_M_16 dX11_want_22 ?_
  refine z_if_ne 32 C dX11_want_25 rfl (fun hc => ?_) (fun hc => ?_)
  · replace h := z_it hc h
    refine z_iconst C dX11_want_28 zci_1 ?_
    refine z_goto 33 C dX11_want_29 rfl ?_
    exact z_zret C (by decide) (z_ret1i h) (z_ret2 h) dX11_want_33
  · replace h := z_if hc h
    refine z_iconst C dX11_want_32 zci_0 ?_
    exact z_zret C (by decide) (z_ret1i h) (z_ret2 h) dX11_want_33
set_option maxRecDepth 100000 in
set_option maxHeartbeats 4000000 in
theorem wX11_want (ad : Nat → Nat) (v1 : Int32) (v2 : Int32) (v3 : Int32) (g : z_S) (r : Int32) (gE : z_S) (h : fX11_want v1 v2 v3 g = some (r, gE)) : z_M yX11_want cX11_want 4 (some .boolean) 0 0 layM nM ad [.ref (ad 0), .int v1, .int v2, .int v3] g (some (.int r)) gE := by
  refine z_enter (by decide) (Nat.le_of_ble_eq_true rfl) (fun F C => ?_)
  replace C : z_X F layM nM ad cX11_want RX11 4 (some .boolean) 0 0 (some (.int r)) gE := C
  show z_W F layM nM ad 0 [(0, .ref (ad 0)), (1, .int v1), (2, .int v2), (3, .int v3)] [] g
  unfold fX11_want at h
  refine z_iload_n C dX11_want_0 rfl 1 rfl ?_
  refine z_if_ne 21 C dX11_want_1 rfl (fun hc => ?_) (fun hc => ?_)
  · replace h := z_it hc h
    refine z_aload_n C dX11_want_4 rfl 0 rfl ?_
    refine z_geti C zf_X11_152 zo_M_16 dX11_want_5 ?_
    refine z_if_ne 21 C dX11_want_8 rfl (fun hc => ?_) (fun hc => ?_)
    · replace h := z_it hc h
      refine z_aload_n C dX11_want_11 rfl 0 rfl ?_
      refine z_iload_n C dX11_want_12 rfl 2 rfl ?_
      obtain ⟨g13, eg13, h⟩ := z_s_some h
      refine z_puti C zp_X11_152 zo_M_16 rfl rfl dX11_want_13 ?_
      refine z_gw eg13 ?_
      refine z_aload_n C dX11_want_16 rfl 0 rfl ?_
      refine z_iload_n C dX11_want_17 rfl 3 rfl ?_
      obtain ⟨g18, eg18, h⟩ := z_s_some h
      refine z_puti C zp_X11_41 zo_M_17 rfl rfl dX11_want_18 ?_
      refine z_gw eg18 ?_
      refine z_loc [0] rfl ?_
      exact wX11_want_J21 C g18 h
    · replace h := z_if hc h
      refine z_loc [0] rfl ?_
      exact wX11_want_J21 C g h
  · replace h := z_if hc h
    refine z_loc [0] rfl ?_
    exact wX11_want_J21 C g h
set_option maxRecDepth 100000 in
set_option maxHeartbeats 4000000 in
theorem wX11_takeLetter_J147 {F : z_F} {ad : Nat → Nat} {r : Int32} {gE : z_S} (C : z_X F layM nM ad cX11_takeLetter RX11 3 (some .boolean) 1 25 (some (.int r)) gE) (g : z_S) (h : fX11_takeLetter_J147 g = some (r, gE)) : z_W F layM nM ad 147 [(0, .ref (ad 0))] [] g := by
  unfold fX11_takeLetter_J147 at h
  refine z_aload_n C dX11_takeLetter_147 rfl 0 rfl ?_
  refine z_geti C zf_X11_152 zo_M_16 dX11_takeLetter_148 ?_
  refine z_if_ne 158 C dX11_takeLetter_151 rfl (fun hc => ?_) (fun hc => ?_)
  · replace h := z_it hc h
    refine z_iconst C dX11_takeLetter_154 zci_1 ?_
    refine z_goto 159 C dX11_takeLetter_155 rfl ?_
    exact z_zret C (by decide) (z_ret1i h) (z_ret2 h) dX11_takeLetter_159
  · replace h := z_if hc h
    refine z_iconst C dX11_takeLetter_158 zci_0 ?_
    exact z_zret C (by decide) (z_ret1i h) (z_ret2 h) dX11_takeLetter_159
set_option maxRecDepth 100000 in
set_option maxHeartbeats 4000000 in
theorem wX11_takeLetter_J96 {F : z_F} {ad : Nat → Nat} {r : Int32} {gE : z_S} (C : z_X F layM nM ad cX11_takeLetter RX11 3 (some .boolean) 1 25 (some (.int r)) gE) (v1 : Int32) (v2 : Int32) (s0 : Int32) (g : z_S) (h : fX11_takeLetter_J96 v1 v2 s0 g = some (r, gE)) : z_W F layM nM ad 96 [(0, .ref (ad 0)), (1, .int v1), (2, .int v2)] [.int s0, .ref (ad 0)] g := by
  unfold fX11_takeLetter_J96 at h
  refine z_iconst C dX11_takeLetter_96 zci_3 ?_
  refine z_aload_n C dX11_takeLetter_97 rfl 0 rfl ?_
  refine z_geti C zf_X11_149 zo_M_15 dX11_takeLetter_98 ?_
  obtain ⟨r101, g101, hq101, h⟩ := z_b_some h
  refine z_callVi [] C zc_X11_163 zk_M rfl (by decide) (Nat.le_of_ble_eq_true rfl) dX11_takeLetter_101 rfl (wX11_want ad s0 3 (g.1 0 15) g r101 g101 hq101) ?_
  refine z_if_eq 147 C dX11_takeLetter_104 rfl (fun hc => ?_) (fun hc => ?_)
  · replace h := z_it hc h
    refine z_loc [0] rfl ?_
    exact wX11_takeLetter_J147 C g101 h
  · replace h := z_if hc h
    refine z_aload_n C dX11_takeLetter_107 rfl 0 rfl ?_
    refine z_getr C zf_X11_45 zo_M_18 dX11_takeLetter_108 ?_
    refine z_bipush C dX11_takeLetter_111 zcb_8 ?_
    refine z_iload_n C dX11_takeLetter_113 rfl 1 rfl ?_
    refine z_imul C dX11_takeLetter_114 ?_
    refine z_aload_n C dX11_takeLetter_115 rfl 0 rfl ?_
    refine z_getr C zf_X11_48 zo_M_19 dX11_takeLetter_116 ?_
    refine z_iload_n C dX11_takeLetter_119 rfl 1 rfl ?_
    obtain ⟨hi120, h⟩ := z_g_some h
    refine z_iald C za_M_12 (z_in_vp hi120) dX11_takeLetter_120 ?_
    refine z_iadd C dX11_takeLetter_121 ?_
    refine z_iload_n C dX11_takeLetter_122 rfl 2 rfl ?_
    refine z_bipush C dX11_takeLetter_123 zcb_97 ?_
    refine z_isub C dX11_takeLetter_125 ?_
    obtain ⟨hi126, h⟩ := z_g_some h
    obtain ⟨g126, eg126, h⟩ := z_s_some h
    refine z_iast C za_M_11 (z_in_vp hi126) dX11_takeLetter_126 ?_
    refine z_gw eg126 ?_
    refine z_aload_n C dX11_takeLetter_127 rfl 0 rfl ?_
    refine z_getr C zf_X11_48 zo_M_19 dX11_takeLetter_128 ?_
    refine z_iload_n C dX11_takeLetter_131 rfl 1 rfl ?_
    refine z_dup2 C dX11_takeLetter_132 rfl rfl ?_
    obtain ⟨hi133, h⟩ := z_g_some h
    refine z_iald C za_M_12 (z_in_vp hi133) dX11_takeLetter_133 ?_
    refine z_iconst C dX11_takeLetter_134 zci_1 ?_
    refine z_iadd C dX11_takeLetter_135 ?_
    obtain ⟨hi136, h⟩ := z_g_some h
    obtain ⟨g136, eg136, h⟩ := z_s_some h
    refine z_iast C za_M_12 (z_in_vp hi136) dX11_takeLetter_136 ?_
    refine z_gw eg136 ?_
    refine z_aload_n C dX11_takeLetter_137 rfl 0 rfl ?_
    refine z_dup C dX11_takeLetter_138 rfl ?_
    refine z_geti C zf_X11_149 zo_M_15 dX11_takeLetter_139 ?_
    refine z_iconst C dX11_takeLetter_142 zci_1 ?_
    refine z_iadd C dX11_takeLetter_143 ?_
    obtain ⟨g144, eg144, h⟩ := z_s_some h
    refine z_puti C zp_X11_149 zo_M_15 rfl rfl dX11_takeLetter_144 ?_
    refine z_gw eg144 ?_
    refine z_loc [0] rfl ?_
    exact wX11_takeLetter_J147 C g144 h
set_option maxRecDepth 100000 in
set_option maxHeartbeats 4000000 in
theorem wX11_takeLetter_J68 {F : z_F} {ad : Nat → Nat} {r : Int32} {gE : z_S} (C : z_X F layM nM ad cX11_takeLetter RX11 3 (some .boolean) 1 25 (some (.int r)) gE) (v1 : Int32) (v2 : Int32) (s0 : Int32) (g : z_S) (h : fX11_takeLetter_J68 v1 v2 s0 g = some (r, gE)) : z_W F layM nM ad 68 [(0, .ref (ad 0)), (1, .int v1), (2, .int v2)] [.int s0, .ref (ad 0)] g := by
  unfold fX11_takeLetter_J68 at h
  refine z_iconst C dX11_takeLetter_68 zci_5 ?_
  refine z_aload_n C dX11_takeLetter_69 rfl 0 rfl ?_
  refine z_geti C zf_X11_149 zo_M_15 dX11_takeLetter_70 ?_
  obtain ⟨r73, g73, hq73, h⟩ := z_b_some h
  refine z_callVi [] C zc_X11_163 zk_M rfl (by decide) (Nat.le_of_ble_eq_true rfl) dX11_takeLetter_73 rfl (wX11_want ad s0 5 (g.1 0 15) g r73 g73 hq73) ?_
  refine z_if_eq 147 C dX11_takeLetter_76 rfl (fun hc => ?_) (fun hc => ?_)
  · replace h := z_it hc h
    refine z_loc [0] rfl ?_
    exact wX11_takeLetter_J147 C g73 h
  · replace h := z_if hc h
    refine z_aload_n C dX11_takeLetter_79 rfl 0 rfl ?_
    refine z_aload_n C dX11_takeLetter_80 rfl 0 rfl ?_
    refine z_getr C zf_X11_48 zo_M_19 dX11_takeLetter_81 ?_
    refine z_iload_n C dX11_takeLetter_84 rfl 1 rfl ?_
    obtain ⟨hi85, h⟩ := z_g_some h
    refine z_iald C za_M_12 (z_in_vp hi85) dX11_takeLetter_85 ?_
    refine z_bipush C dX11_takeLetter_86 zcb_8 ?_
    refine z_icmp_ge 95 C dX11_takeLetter_88 rfl (fun hc => ?_) (fun hc => ?_)
    · replace h := z_it hc h
      refine z_iconst C dX11_takeLetter_95 zci_0 ?_
      exact wX11_takeLetter_J96 C v1 v2 0 g73 h
    · replace h := z_if hc h
      refine z_iconst C dX11_takeLetter_91 zci_1 ?_
      refine z_goto 96 C dX11_takeLetter_92 rfl ?_
      exact wX11_takeLetter_J96 C v1 v2 1 g73 h
set_option maxRecDepth 100000 in
set_option maxHeartbeats 4000000 in
theorem wX11_takeLetter_J45 {F : z_F} {ad : Nat → Nat} {r : Int32} {gE : z_S} (C : z_X F layM nM ad cX11_takeLetter RX11 3 (some .boolean) 1 25 (some (.int r)) gE) (v1 : Int32) (v2 : Int32) (s0 : Int32) (g : z_S) (h : fX11_takeLetter_J45 v1 v2 s0 g = some (r, gE)) : z_W F layM nM ad 45 [(0, .ref (ad 0)), (1, .int v1), (2, .int v2)] [.int s0, .ref (ad 0)] g := by
  unfold fX11_takeLetter_J45 at h
  refine z_iconst C dX11_takeLetter_45 zci_2 ?_
  refine z_aload_n C dX11_takeLetter_46 rfl 0 rfl ?_
  refine z_geti C zf_X11_149 zo_M_15 dX11_takeLetter_47 ?_
  obtain ⟨r50, g50, hq50, h⟩ := z_b_some h
  refine z_callVi [] C zc_X11_163 zk_M rfl (by decide) (Nat.le_of_ble_eq_true rfl) dX11_takeLetter_50 rfl (wX11_want ad s0 2 (g.1 0 15) g r50 g50 hq50) ?_
  refine z_if_eq 147 C dX11_takeLetter_53 rfl (fun hc => ?_) (fun hc => ?_)
  · replace h := z_it hc h
    refine z_loc [0] rfl ?_
    exact wX11_takeLetter_J147 C g50 h
  · replace h := z_if hc h
    refine z_aload_n C dX11_takeLetter_56 rfl 0 rfl ?_
    refine z_iload_n C dX11_takeLetter_57 rfl 1 rfl ?_
    refine z_bipush C dX11_takeLetter_58 zcb_16 ?_
    refine z_icmp_ge 67 C dX11_takeLetter_60 rfl (fun hc => ?_) (fun hc => ?_)
    · replace h := z_it hc h
      refine z_iconst C dX11_takeLetter_67 zci_0 ?_
      exact wX11_takeLetter_J68 C v1 v2 0 g50 h
    · replace h := z_if hc h
      refine z_iconst C dX11_takeLetter_63 zci_1 ?_
      refine z_goto 68 C dX11_takeLetter_64 rfl ?_
      exact wX11_takeLetter_J68 C v1 v2 1 g50 h
set_option maxRecDepth 100000 in
set_option maxHeartbeats 4000000 in
theorem wX11_takeLetter (ad : Nat → Nat) (v1 : Int32) (g : z_S) (r : Int32) (gE : z_S) (h : fX11_takeLetter v1 g = some (r, gE)) : z_M yX11_takeLetter cX11_takeLetter 3 (some .boolean) 1 25 layM nM ad [.ref (ad 0), .int v1] g (some (.int r)) gE := by
  refine z_enter (by decide) (Nat.le_of_ble_eq_true rfl) (fun F C => ?_)
  replace C : z_X F layM nM ad cX11_takeLetter RX11 3 (some .boolean) 1 25 (some (.int r)) gE := C
  show z_W F layM nM ad 0 [(0, .ref (ad 0)), (1, .int v1)] [] g
  unfold fX11_takeLetter at h
  refine z_aload_n C dX11_takeLetter_0 rfl 0 rfl ?_
  obtain ⟨r1, g1, hq1, h⟩ := z_b_some h
  refine z_callVi [] C zc_X11_155 zk_M rfl (by decide) (Nat.le_of_ble_eq_true rfl) dX11_takeLetter_1 rfl (wX11_here ad g r1 g1 hq1) ?_
  refine z_istore_n C dX11_takeLetter_4 rfl (by decide) [(2, .int r1), (0, .ref (ad 0)), (1, .int v1)] rfl ?_
  refine z_aload_n C dX11_takeLetter_5 rfl 1 rfl ?_
  refine z_iload_n C dX11_takeLetter_6 rfl 0 rfl ?_
  refine z_i2l C dX11_takeLetter_7 ?_
  refine z_ldc2 C dX11_takeLetter_8 zl_X11_159 ?_
  refine z_ldc2 C dX11_takeLetter_11 zl_X11_161 ?_
  obtain ⟨r14, g14, hq14, h⟩ := z_b_some h
  refine z_callSi [.ref (ad 0)] C zc_X11_131 rfl (by decide) (Nat.le_of_ble_eq_true rfl) dX11_takeLetter_14 rfl (wX11_in ad ((r1).toInt64) 97 104 g1 r14 g14 hq14) ?_
  refine z_iconst C dX11_takeLetter_17 zci_1 ?_
  refine z_aload_n C dX11_takeLetter_18 rfl 1 rfl ?_
  refine z_geti C zf_X11_149 zo_M_15 dX11_takeLetter_19 ?_
  obtain ⟨r22, g22, hq22, h⟩ := z_b_some h
  refine z_callVi [] C zc_X11_163 zk_M rfl (by decide) (Nat.le_of_ble_eq_true rfl) dX11_takeLetter_22 rfl (wX11_want ad r14 1 (g14.1 0 15) g14 r22 g22 hq22) ?_
  refine z_if_eq 147 C dX11_takeLetter_25 rfl (fun hc => ?_) (fun hc => ?_)
  · replace h := z_it hc h
    refine z_loc [1] rfl ?_
    exact wX11_takeLetter_J147 C g22 h
  · replace h := z_if hc h
    refine z_aload_n C dX11_takeLetter_28 rfl 1 rfl ?_
    refine z_iload_n C dX11_takeLetter_29 rfl 0 rfl ?_
    refine z_bipush C dX11_takeLetter_30 zcb_97 ?_
    refine z_isub C dX11_takeLetter_32 ?_
    refine z_aload_n C dX11_takeLetter_33 rfl 1 rfl ?_
    refine z_geti C zf_X11_124 zo_M_0 dX11_takeLetter_34 ?_
    refine z_icmp_ge 44 C dX11_takeLetter_37 rfl (fun hc => ?_) (fun hc => ?_)
    · replace h := z_it hc h
      refine z_iconst C dX11_takeLetter_44 zci_0 ?_
      refine z_loc [1, 2, 0] rfl ?_
      exact wX11_takeLetter_J45 C v1 r1 0 g22 h
    · replace h := z_if hc h
      refine z_iconst C dX11_takeLetter_40 zci_1 ?_
      refine z_goto 45 C dX11_takeLetter_41 rfl ?_
      refine z_loc [1, 2, 0] rfl ?_
      exact wX11_takeLetter_J45 C v1 r1 1 g22 h
set_option maxRecDepth 100000 in
set_option maxHeartbeats 4000000 in
theorem wX11_isNewLike_L24 {F : z_F} {ad : Nat → Nat} {r : Int32} {gE : z_S} (C : z_X F layM nM ad cX11_isNewLike RX11 5 (some .boolean) 0 0 (some (.int r)) gE) : ∀ (n : Nat) (v1 : Int32) (v2 : Int32) (v3 : Int32) (v4 : Int32) (g : z_S), z_loop fX11_isNewLike_B24 n (v1, v2, v3, v4) g = some (r, gE) → z_W F layM nM ad 24 [(0, .ref (ad 0)), (1, .int v1), (2, .int v2), (3, .int v3), (4, .int v4)] [] g := by
  intro n
  induction n with
  | zero =>
    intro v1 v2 v3 v4 g h
    exact (z_loop_0 h).elim
  | succ n ih =>
    intro v1 v2 v3 v4 g h
    replace h := z_loop_S h
    simp only [fX11_isNewLike_B24] at h
    refine z_iload C dX11_isNewLike_24 4 rfl ?_
    refine z_aload_n C dX11_isNewLike_26 rfl 0 rfl ?_
    refine z_getr C zf_X11_48 zo_M_19 dX11_isNewLike_27 ?_
    refine z_iload_n C dX11_isNewLike_30 rfl 2 rfl ?_
    obtain ⟨hi31, h⟩ := z_g_some h
    refine z_iald C za_M_12 (z_in_vp hi31) dX11_isNewLike_31 ?_
    refine z_icmp_ge 78 C dX11_isNewLike_32 rfl (fun hc => ?_) (fun hc => ?_)
    · replace h := z_it hc h
      refine z_iload_n C dX11_isNewLike_78 rfl 3 rfl ?_
      obtain ⟨hz, h⟩ := z_g_some h
      exact z_zret C (eq_of_beq hz) (z_ret1i h) (z_ret2 h) dX11_isNewLike_79
    · replace h := z_if hc h
      refine z_iload_n C dX11_isNewLike_35 rfl 3 rfl ?_
      refine z_if_eq 78 C dX11_isNewLike_36 rfl (fun hc => ?_) (fun hc => ?_)
      · replace h := z_it hc h
        refine z_iload_n C dX11_isNewLike_78 rfl 3 rfl ?_
        obtain ⟨hz, h⟩ := z_g_some h
        exact z_zret C (eq_of_beq hz) (z_ret1i h) (z_ret2 h) dX11_isNewLike_79
      · replace h := z_if hc h
        refine z_aload_n C dX11_isNewLike_39 rfl 0 rfl ?_
        refine z_getr C zf_X11_45 zo_M_18 dX11_isNewLike_40 ?_
        refine z_bipush C dX11_isNewLike_43 zcb_8 ?_
        refine z_iload_n C dX11_isNewLike_45 rfl 1 rfl ?_
        refine z_imul C dX11_isNewLike_46 ?_
        refine z_iload C dX11_isNewLike_47 4 rfl ?_
        refine z_iadd C dX11_isNewLike_49 ?_
        obtain ⟨hi50, h⟩ := z_g_some h
        refine z_iald C za_M_11 (z_in_vp hi50) dX11_isNewLike_50 ?_
        refine z_aload_n C dX11_isNewLike_51 rfl 0 rfl ?_
        refine z_getr C zf_X11_45 zo_M_18 dX11_isNewLike_52 ?_
        refine z_bipush C dX11_isNewLike_55 zcb_8 ?_
        refine z_iload_n C dX11_isNewLike_57 rfl 2 rfl ?_
        refine z_imul C dX11_isNewLike_58 ?_
        refine z_iload C dX11_isNewLike_59 4 rfl ?_
        refine z_iadd C dX11_isNewLike_61 ?_
        obtain ⟨hi62, h⟩ := z_g_some h
        refine z_iald C za_M_11 (z_in_vp hi62) dX11_isNewLike_62 ?_
        refine z_icmp_ne 70 C dX11_isNewLike_63 rfl (fun hc => ?_) (fun hc => ?_)
        · replace h := z_it hc h
          refine z_iconst C dX11_isNewLike_66 zci_1 ?_
          refine z_goto 71 C dX11_isNewLike_67 rfl ?_
          refine z_istore_n C dX11_isNewLike_71 rfl (by decide) [(3, .int 1), (0, .ref (ad 0)), (1, .int v1), (2, .int v2), (4, .int v4)] rfl ?_
          refine z_iinc C dX11_isNewLike_72 (by decide) 4 rfl (z_incl zci_1) [(4, .int (v4 + 1)), (3, .int 1), (0, .ref (ad 0)), (1, .int v1), (2, .int v2)] rfl ?_
          refine z_goto 24 C dX11_isNewLike_75 rfl ?_
          refine z_loc [2, 3, 4, 1, 0] rfl ?_
          exact ih v1 v2 1 (v4 + 1) g h
        · replace h := z_if hc h
          refine z_iconst C dX11_isNewLike_70 zci_0 ?_
          refine z_istore_n C dX11_isNewLike_71 rfl (by decide) [(3, .int 0), (0, .ref (ad 0)), (1, .int v1), (2, .int v2), (4, .int v4)] rfl ?_
          refine z_iinc C dX11_isNewLike_72 (by decide) 4 rfl (z_incl zci_1) [(4, .int (v4 + 1)), (3, .int 0), (0, .ref (ad 0)), (1, .int v1), (2, .int v2)] rfl ?_
          refine z_goto 24 C dX11_isNewLike_75 rfl ?_
          refine z_loc [2, 3, 4, 1, 0] rfl ?_
          exact ih v1 v2 0 (v4 + 1) g h
set_option maxRecDepth 100000 in
set_option maxHeartbeats 4000000 in
theorem wX11_isNewLike (ad : Nat → Nat) (v1 : Int32) (v2 : Int32) (g : z_S) (r : Int32) (gE : z_S) (h : fX11_isNewLike v1 v2 g = some (r, gE)) : z_M yX11_isNewLike cX11_isNewLike 5 (some .boolean) 0 0 layM nM ad [.ref (ad 0), .int v1, .int v2] g (some (.int r)) gE := by
  refine z_enter (by decide) (Nat.le_of_ble_eq_true rfl) (fun F C => ?_)
  replace C : z_X F layM nM ad cX11_isNewLike RX11 5 (some .boolean) 0 0 (some (.int r)) gE := C
  show z_W F layM nM ad 0 [(0, .ref (ad 0)), (1, .int v1), (2, .int v2)] [] g
  unfold fX11_isNewLike at h
  refine z_aload_n C dX11_isNewLike_0 rfl 0 rfl ?_
  refine z_getr C zf_X11_48 zo_M_19 dX11_isNewLike_1 ?_
  refine z_iload_n C dX11_isNewLike_4 rfl 1 rfl ?_
  obtain ⟨hi5, h⟩ := z_g_some h
  refine z_iald C za_M_12 (z_in_vp hi5) dX11_isNewLike_5 ?_
  refine z_aload_n C dX11_isNewLike_6 rfl 0 rfl ?_
  refine z_getr C zf_X11_48 zo_M_19 dX11_isNewLike_7 ?_
  refine z_iload_n C dX11_isNewLike_10 rfl 2 rfl ?_
  obtain ⟨hi11, h⟩ := z_g_some h
  refine z_iald C za_M_12 (z_in_vp hi11) dX11_isNewLike_11 ?_
  refine z_icmp_ne 19 C dX11_isNewLike_12 rfl (fun hc => ?_) (fun hc => ?_)
  · replace h := z_it hc h
    refine z_iconst C dX11_isNewLike_15 zci_1 ?_
    refine z_goto 20 C dX11_isNewLike_16 rfl ?_
    refine z_istore_n C dX11_isNewLike_20 rfl (by decide) [(3, .int 1), (0, .ref (ad 0)), (1, .int v1), (2, .int v2)] rfl ?_
    refine z_iconst C dX11_isNewLike_21 zci_0 ?_
    refine z_istore C dX11_isNewLike_22 (by decide) [(4, .int 0), (3, .int 1), (0, .ref (ad 0)), (1, .int v1), (2, .int v2)] rfl ?_
    refine z_loc [2, 3, 4, 1, 0] rfl ?_
    refine wX11_isNewLike_L24 C  zN v1 v2 1 0 g h
  · replace h := z_if hc h
    refine z_iconst C dX11_isNewLike_19 zci_0 ?_
    refine z_istore_n C dX11_isNewLike_20 rfl (by decide) [(3, .int 0), (0, .ref (ad 0)), (1, .int v1), (2, .int v2)] rfl ?_
    refine z_iconst C dX11_isNewLike_21 zci_0 ?_
    refine z_istore C dX11_isNewLike_22 (by decide) [(4, .int 0), (3, .int 0), (0, .ref (ad 0)), (1, .int v1), (2, .int v2)] rfl ?_
    refine z_loc [2, 3, 4, 1, 0] rfl ?_
    refine wX11_isNewLike_L24 C  zN v1 v2 0 0 g h
set_option maxRecDepth 100000 in
set_option maxHeartbeats 4000000 in
theorem wX11_takeCost_J97 {F : z_F} {ad : Nat → Nat} {r : Int32} {gE : z_S} (C : z_X F layM nM ad cX11_takeCost RX11 5 (some .int) 1 25 (some (.int r)) gE) (rc : (Int32 × Int32) → z_S → Option (Int32 × z_S)) (hrc : ∀ (v2 : Int32) (v3 : Int32) (g : z_S), rc (v2, v3) g = some (r, gE) → z_W F layM nM ad 37 [(0, .ref (ad 0)), (2, .int v2), (3, .int v3)] [] g) (v2 : Int32) (s0 : Int32) (g : z_S) (h : fX11_takeCost_J97 rc v2 s0 g = some (r, gE)) : z_W F layM nM ad 97 [(0, .ref (ad 0)), (2, .int v2)] [.int s0] g := by
  unfold fX11_takeCost_J97 at h
  refine z_istore_n C dX11_takeCost_97 rfl (by decide) [(3, .int s0), (0, .ref (ad 0)), (2, .int v2)] rfl ?_
  refine z_aload_n C dX11_takeCost_98 rfl 1 rfl ?_
  refine z_dup C dX11_takeCost_99 rfl ?_
  refine z_geti C zf_X11_149 zo_M_15 dX11_takeCost_100 ?_
  refine z_iconst C dX11_takeCost_103 zci_1 ?_
  refine z_iadd C dX11_takeCost_104 ?_
  obtain ⟨g105, eg105, h⟩ := z_s_some h
  refine z_puti C zp_X11_149 zo_M_15 rfl rfl dX11_takeCost_105 ?_
  refine z_gw eg105 ?_
  refine z_goto 37 C dX11_takeCost_108 rfl ?_
  refine z_loc [1, 2, 0] rfl ?_
  exact hrc v2 s0 g105 h
set_option maxRecDepth 100000 in
set_option maxHeartbeats 4000000 in
theorem wX11_takeCost_L37 {F : z_F} {ad : Nat → Nat} {r : Int32} {gE : z_S} (C : z_X F layM nM ad cX11_takeCost RX11 5 (some .int) 1 25 (some (.int r)) gE) (k111 : Int32 → Int32 → z_S → Option (Int32 × z_S)) (hk111 : ∀ (v2 : Int32) (v3 : Int32) (g : z_S), k111 v2 v3 g = some (r, gE) → z_W F layM nM ad 111 [(0, .ref (ad 0)), (2, .int v2), (3, .int v3)] [] g) : ∀ (n : Nat) (v2 : Int32) (v3 : Int32) (g : z_S), z_loop (fX11_takeCost_B37 k111) n (v2, v3) g = some (r, gE) → z_W F layM nM ad 37 [(0, .ref (ad 0)), (2, .int v2), (3, .int v3)] [] g := by
  intro n
  induction n with
  | zero =>
    intro v2 v3 g h
    exact (z_loop_0 h).elim
  | succ n ih =>
    intro v2 v3 g h
    replace h := z_loop_S h
    simp only [fX11_takeCost_B37] at h
    refine z_aload_n C dX11_takeCost_37 rfl 0 rfl ?_
    refine z_geti C zf_X11_149 zo_M_15 dX11_takeCost_38 ?_
    refine z_aload_n C dX11_takeCost_41 rfl 0 rfl ?_
    refine z_geti C zf_X11_144 zo_M_14 dX11_takeCost_42 ?_
    refine z_icmp_ge 111 C dX11_takeCost_45 rfl (fun hc => ?_) (fun hc => ?_)
    · replace h := z_it hc h
      exact hk111 v2 v3 g h
    · replace h := z_if hc h
      refine z_aload_n C dX11_takeCost_48 rfl 0 rfl ?_
      refine z_getr C zf_X11_38 zo_M_13 dX11_takeCost_49 ?_
      refine z_aload_n C dX11_takeCost_52 rfl 0 rfl ?_
      refine z_geti C zf_X11_149 zo_M_15 dX11_takeCost_53 ?_
      obtain ⟨hi56, h⟩ := z_g_some h
      refine z_iald C za_M_10 (z_in_vp hi56) dX11_takeCost_56 ?_
      refine z_i2l C dX11_takeCost_57 ?_
      refine z_ldc2 C dX11_takeCost_58 zl_X11_167 ?_
      refine z_ldc2 C dX11_takeCost_61 zl_X11_169 ?_
      obtain ⟨r64, g64, hq64, h⟩ := z_b_some h
      refine z_callSi [] C zc_X11_131 rfl (by decide) (Nat.le_of_ble_eq_true rfl) dX11_takeCost_64 rfl (wX11_in ad ((g.1 10 (g.1 0 15).toNatClampNeg).toInt64) 48 57 g r64 g64 hq64) ?_
      refine z_if_eq 111 C dX11_takeCost_67 rfl (fun hc => ?_) (fun hc => ?_)
      · replace h := z_it hc h
        exact hk111 v2 v3 g64 h
      · replace h := z_if hc h
        refine z_iload_n C dX11_takeCost_70 rfl 2 rfl ?_
        refine z_bipush C dX11_takeCost_71 zcb_99 ?_
        refine z_icmp_le 80 C dX11_takeCost_73 rfl (fun hc => ?_) (fun hc => ?_)
        · replace h := z_it hc h
          refine z_bipush C dX11_takeCost_80 zcb_10 ?_
          refine z_iload_n C dX11_takeCost_82 rfl 2 rfl ?_
          refine z_imul C dX11_takeCost_83 ?_
          refine z_aload_n C dX11_takeCost_84 rfl 0 rfl ?_
          refine z_getr C zf_X11_38 zo_M_13 dX11_takeCost_85 ?_
          refine z_aload_n C dX11_takeCost_88 rfl 0 rfl ?_
          refine z_geti C zf_X11_149 zo_M_15 dX11_takeCost_89 ?_
          obtain ⟨hi92, h⟩ := z_g_some h
          refine z_iald C za_M_10 (z_in_vp hi92) dX11_takeCost_92 ?_
          refine z_iadd C dX11_takeCost_93 ?_
          refine z_bipush C dX11_takeCost_94 zcb_48 ?_
          refine z_isub C dX11_takeCost_96 ?_
          refine z_loc [0, 1] rfl ?_
          exact wX11_takeCost_J97 C _ (fun v2 v3 g h => ih v2 v3 g h) v2 (((10 * v3) + (g64.1 10 (g64.1 0 15).toNatClampNeg)) - 48) g64 h
        · replace h := z_if hc h
          refine z_iload_n C dX11_takeCost_76 rfl 2 rfl ?_
          refine z_goto 97 C dX11_takeCost_77 rfl ?_
          refine z_loc [0, 1] rfl ?_
          exact wX11_takeCost_J97 C _ (fun v2 v3 g h => ih v2 v3 g h) v2 v3 g64 h
set_option maxRecDepth 100000 in
set_option maxHeartbeats 4000000 in
theorem wX11_takeCost_J127 {F : z_F} {ad : Nat → Nat} {r : Int32} {gE : z_S} (C : z_X F layM nM ad cX11_takeCost RX11 5 (some .int) 1 25 (some (.int r)) gE) (v2 : Int32) (v3 : Int32) (s0 : Int32) (g : z_S) (h : fX11_takeCost_J127 v2 v3 s0 g = some (r, gE)) : z_W F layM nM ad 127 [(2, .int v2), (3, .int v3)] [.int s0, .ref (ad 0)] g := by
  unfold fX11_takeCost_J127 at h
  refine z_iconst C dX11_takeCost_127 zci_2 ?_
  refine z_iload_n C dX11_takeCost_128 rfl 0 rfl ?_
  obtain ⟨r129, g129, hq129, h⟩ := z_b_some h
  refine z_callVi [] C zc_X11_163 zk_M rfl (by decide) (Nat.le_of_ble_eq_true rfl) dX11_takeCost_129 rfl (wX11_want ad s0 2 v2 g r129 g129 hq129) ?_
  refine z_istore C dX11_takeCost_132 (by decide) [(4, .int r129), (2, .int v2), (3, .int v3)] rfl ?_
  refine z_iload_n C dX11_takeCost_134 rfl 2 rfl ?_
  exact z_iret C (z_ret1i h) (z_ret2 h) dX11_takeCost_135
set_option maxRecDepth 100000 in
set_option maxHeartbeats 4000000 in
theorem wX11_takeCost (ad : Nat → Nat) (g : z_S) (r : Int32) (gE : z_S) (h : fX11_takeCost g = some (r, gE)) : z_M yX11_takeCost cX11_takeCost 5 (some .int) 1 25 layM nM ad [.ref (ad 0)] g (some (.int r)) gE := by
  refine z_enter (by decide) (Nat.le_of_ble_eq_true rfl) (fun F C => ?_)
  replace C : z_X F layM nM ad cX11_takeCost RX11 5 (some .int) 1 25 (some (.int r)) gE := C
  show z_W F layM nM ad 0 [(0, .ref (ad 0))] [] g
  unfold fX11_takeCost at h
  refine z_aload_n C dX11_takeCost_0 rfl 0 rfl ?_
  obtain ⟨r1, g1, hq1, h⟩ := z_b_some h
  refine z_callVi [] C zc_X11_155 zk_M rfl (by decide) (Nat.le_of_ble_eq_true rfl) dX11_takeCost_1 rfl (wX11_here ad g r1 g1 hq1) ?_
  refine z_istore_n C dX11_takeCost_4 rfl (by decide) [(1, .int r1), (0, .ref (ad 0))] rfl ?_
  refine z_aload_n C dX11_takeCost_5 rfl 1 rfl ?_
  refine z_geti C zf_X11_149 zo_M_15 dX11_takeCost_6 ?_
  refine z_istore_n C dX11_takeCost_9 rfl (by decide) [(2, .int (g1.1 0 15)), (1, .int r1), (0, .ref (ad 0))] rfl ?_
  refine z_aload_n C dX11_takeCost_10 rfl 2 rfl ?_
  refine z_iload_n C dX11_takeCost_11 rfl 1 rfl ?_
  refine z_i2l C dX11_takeCost_12 ?_
  refine z_ldc2 C dX11_takeCost_13 zl_X11_167 ?_
  refine z_ldc2 C dX11_takeCost_16 zl_X11_169 ?_
  obtain ⟨r19, g19, hq19, h⟩ := z_b_some h
  refine z_callSi [.ref (ad 0)] C zc_X11_131 rfl (by decide) (Nat.le_of_ble_eq_true rfl) dX11_takeCost_19 rfl (wX11_in ad ((r1).toInt64) 48 57 g1 r19 g19 hq19) ?_
  refine z_iconst C dX11_takeCost_22 zci_1 ?_
  refine z_aload_n C dX11_takeCost_23 rfl 2 rfl ?_
  refine z_geti C zf_X11_149 zo_M_15 dX11_takeCost_24 ?_
  obtain ⟨r27, g27, hq27, h⟩ := z_b_some h
  refine z_callVi [] C zc_X11_163 zk_M rfl (by decide) (Nat.le_of_ble_eq_true rfl) dX11_takeCost_27 rfl (wX11_want ad r19 1 (g19.1 0 15) g19 r27 g27 hq27) ?_
  refine z_if_ne 35 C dX11_takeCost_30 rfl (fun hc => ?_) (fun hc => ?_)
  · replace h := z_it hc h
    refine z_iconst C dX11_takeCost_33 zci_0 ?_
    exact z_iret C (z_ret1i h) (z_ret2 h) dX11_takeCost_34
  · replace h := z_if hc h
    refine z_iconst C dX11_takeCost_35 zci_0 ?_
    refine z_istore_n C dX11_takeCost_36 rfl (by decide) [(3, .int 0), (2, .int (g1.1 0 15)), (1, .int r1), (0, .ref (ad 0))] rfl ?_
    refine z_loc [3, 1, 0] rfl ?_
    refine wX11_takeCost_L37 C _ ?_ zN (g1.1 0 15) 0 g27 h
    · intro v2 v3 g h
      refine z_aload_n C dX11_takeCost_111 rfl 0 rfl ?_
      refine z_aload_n C dX11_takeCost_112 rfl 0 rfl ?_
      refine z_geti C zf_X11_149 zo_M_15 dX11_takeCost_113 ?_
      refine z_iload_n C dX11_takeCost_116 rfl 1 rfl ?_
      refine z_isub C dX11_takeCost_117 ?_
      refine z_iconst C dX11_takeCost_118 zci_3 ?_
      refine z_icmp_ge 126 C dX11_takeCost_119 rfl (fun hc => ?_) (fun hc => ?_)
      · replace h := z_it hc h
        refine z_iconst C dX11_takeCost_126 zci_0 ?_
        refine z_loc [1, 2] rfl ?_
        exact wX11_takeCost_J127 C v2 v3 0 g h
      · replace h := z_if hc h
        refine z_iconst C dX11_takeCost_122 zci_1 ?_
        refine z_goto 127 C dX11_takeCost_123 rfl ?_
        refine z_loc [1, 2] rfl ?_
        exact wX11_takeCost_J127 C v2 v3 1 g h
set_option maxRecDepth 100000 in
set_option maxHeartbeats 4000000 in
theorem wX11_readWord_L43 {F : z_F} {ad : Nat → Nat} {gE : z_S} (C : z_X F layM nM ad cX11_readWord RX11 7 none 2 49 none gE) (k83 : Int32 → Int32 → z_S → Option (Unit × z_S)) (hk83 : ∀ (v2 : Int32) (v3 : Int32) (g : z_S), k83 v2 v3 g = some ((), gE) → z_W F layM nM ad 83 [(0, .ref (ad 0)), (2, .int v2), (3, .int v3)] [] g) : ∀ (n : Nat) (v2 : Int32) (v3 : Int32) (v4 : Int32) (g : z_S), z_loop (fX11_readWord_B43 k83) n (v2, v3, v4) g = some ((), gE) → z_W F layM nM ad 43 [(0, .ref (ad 0)), (2, .int v2), (3, .int v3), (4, .int v4)] [] g := by
  intro n
  induction n with
  | zero =>
    intro v2 v3 v4 g h
    exact (z_loop_0 h).elim
  | succ n ih =>
    intro v2 v3 v4 g h
    replace h := z_loop_S h
    simp only [fX11_readWord_B43] at h
    refine z_iload C dX11_readWord_43 3 rfl ?_
    refine z_if_eq 83 C dX11_readWord_45 rfl (fun hc => ?_) (fun hc => ?_)
    · replace h := z_it hc h
      refine z_loc [0, 1, 2] rfl ?_
      exact hk83 v2 v3 g h
    · replace h := z_if hc h
      refine z_aload_n C dX11_readWord_48 rfl 0 rfl ?_
      obtain ⟨r49, g49, hq49, h⟩ := z_b_some h
      refine z_callVi [] C zc_X11_155 zk_M rfl (by decide) (Nat.le_of_ble_eq_true rfl) dX11_readWord_49 rfl (wX11_here ad g r49 g49 hq49) ?_
      refine z_i2l C dX11_readWord_52 ?_
      refine z_ldc2 C dX11_readWord_53 zl_X11_159 ?_
      refine z_ldc2 C dX11_readWord_56 zl_X11_161 ?_
      obtain ⟨r59, g59, hq59, h⟩ := z_b_some h
      refine z_callSi [] C zc_X11_131 rfl (by decide) (Nat.le_of_ble_eq_true rfl) dX11_readWord_59 rfl (wX11_in ad ((r49).toInt64) 97 104 g49 r59 g59 hq59) ?_
      refine z_if_eq 77 C dX11_readWord_62 rfl (fun hc => ?_) (fun hc => ?_)
      · replace h := z_it hc h
        refine z_iconst C dX11_readWord_77 zci_0 ?_
        refine z_istore C dX11_readWord_78 (by decide) [(4, .int 0), (0, .ref (ad 0)), (2, .int v2), (3, .int v3)] rfl ?_
        refine z_goto 43 C dX11_readWord_80 rfl ?_
        refine z_loc [1, 2, 3, 0] rfl ?_
        exact ih v2 v3 0 g59 h
      · replace h := z_if hc h
        refine z_aload_n C dX11_readWord_65 rfl 0 rfl ?_
        refine z_iload_n C dX11_readWord_66 rfl 1 rfl ?_
        obtain ⟨r67, g67, hq67, h⟩ := z_b_some h
        refine z_callVi [] C zc_X11_174 zk_M rfl (by decide) (Nat.le_of_ble_eq_true rfl) dX11_readWord_67 rfl (wX11_takeLetter ad v2 g59 r67 g67 hq67) ?_
        refine z_if_eq 77 C dX11_readWord_70 rfl (fun hc => ?_) (fun hc => ?_)
        · replace h := z_it hc h
          refine z_iconst C dX11_readWord_77 zci_0 ?_
          refine z_istore C dX11_readWord_78 (by decide) [(4, .int 0), (0, .ref (ad 0)), (2, .int v2), (3, .int v3)] rfl ?_
          refine z_goto 43 C dX11_readWord_80 rfl ?_
          refine z_loc [1, 2, 3, 0] rfl ?_
          exact ih v2 v3 0 g67 h
        · replace h := z_if hc h
          refine z_iconst C dX11_readWord_73 zci_1 ?_
          refine z_goto 78 C dX11_readWord_74 rfl ?_
          refine z_istore C dX11_readWord_78 (by decide) [(4, .int 1), (0, .ref (ad 0)), (2, .int v2), (3, .int v3)] rfl ?_
          refine z_goto 43 C dX11_readWord_80 rfl ?_
          refine z_loc [1, 2, 3, 0] rfl ?_
          exact ih v2 v3 1 g67 h
set_option maxRecDepth 100000 in
set_option maxHeartbeats 4000000 in
theorem wX11_readWord_J115 {F : z_F} {ad : Nat → Nat} {gE : z_S} (C : z_X F layM nM ad cX11_readWord RX11 7 none 2 49 none gE) (rc : (Int32 × Int32 × Int32) → z_S → Option (Unit × z_S)) (hrc : ∀ (v2 : Int32) (v3 : Int32) (v5 : Int32) (g : z_S), rc (v2, v3, v5) g = some ((), gE) → z_W F layM nM ad 86 [(0, .ref (ad 0)), (2, .int v2), (3, .int v3), (5, .int v5)] [] g) (v2 : Int32) (v3 : Int32) (v5 : Int32) (s0 : Int32) (g : z_S) (h : fX11_readWord_J115 rc v2 v3 v5 s0 g = some ((), gE)) : z_W F layM nM ad 115 [(0, .ref (ad 0)), (2, .int v2), (3, .int v3), (5, .int v5)] [.int s0, .ref (ad 0)] g := by
  unfold fX11_readWord_J115 at h
  refine z_iconst C dX11_readWord_115 zci_4 ?_
  refine z_iload_n C dX11_readWord_116 rfl 2 rfl ?_
  obtain ⟨r117, g117, hq117, h⟩ := z_b_some h
  refine z_callVi [] C zc_X11_163 zk_M rfl (by decide) (Nat.le_of_ble_eq_true rfl) dX11_readWord_117 rfl (wX11_want ad s0 4 v3 g r117 g117 hq117) ?_
  refine z_istore C dX11_readWord_120 (by decide) [(6, .int r117), (0, .ref (ad 0)), (2, .int v2), (3, .int v3), (5, .int v5)] rfl ?_
  refine z_iinc C dX11_readWord_122 (by decide) 4 rfl (z_incl zci_1) [(5, .int (v5 + 1)), (6, .int r117), (0, .ref (ad 0)), (2, .int v2), (3, .int v3)] rfl ?_
  refine z_goto 86 C dX11_readWord_125 rfl ?_
  refine z_loc [2, 3, 4, 0] rfl ?_
  exact hrc v2 v3 (v5 + 1) g117 h
set_option maxRecDepth 100000 in
set_option maxHeartbeats 4000000 in
theorem wX11_readWord_L86 {F : z_F} {ad : Nat → Nat} {gE : z_S} (C : z_X F layM nM ad cX11_readWord RX11 7 none 2 49 none gE) (k128 : Int32 → z_S → Option (Unit × z_S)) (hk128 : ∀ (v2 : Int32) (g : z_S), k128 v2 g = some ((), gE) → z_W F layM nM ad 128 [(0, .ref (ad 0)), (2, .int v2)] [] g) : ∀ (n : Nat) (v2 : Int32) (v3 : Int32) (v5 : Int32) (g : z_S), z_loop (fX11_readWord_B86 k128) n (v2, v3, v5) g = some ((), gE) → z_W F layM nM ad 86 [(0, .ref (ad 0)), (2, .int v2), (3, .int v3), (5, .int v5)] [] g := by
  intro n
  induction n with
  | zero =>
    intro v2 v3 v5 g h
    exact (z_loop_0 h).elim
  | succ n ih =>
    intro v2 v3 v5 g h
    replace h := z_loop_S h
    simp only [fX11_readWord_B86] at h
    refine z_iload C dX11_readWord_86 3 rfl ?_
    refine z_iload_n C dX11_readWord_88 rfl 1 rfl ?_
    refine z_icmp_ge 128 C dX11_readWord_89 rfl (fun hc => ?_) (fun hc => ?_)
    · replace h := z_it hc h
      refine z_loc [0, 1] rfl ?_
      exact hk128 v2 g h
    · replace h := z_if hc h
      refine z_aload_n C dX11_readWord_92 rfl 0 rfl ?_
      refine z_geti C zf_X11_152 zo_M_16 dX11_readWord_93 ?_
      refine z_if_ne 128 C dX11_readWord_96 rfl (fun hc => ?_) (fun hc => ?_)
      · replace h := z_it hc h
        refine z_aload_n C dX11_readWord_99 rfl 0 rfl ?_
        refine z_aload_n C dX11_readWord_100 rfl 0 rfl ?_
        refine z_iload C dX11_readWord_101 3 rfl ?_
        refine z_iload_n C dX11_readWord_103 rfl 1 rfl ?_
        obtain ⟨r104, g104, hq104, h⟩ := z_b_some h
        refine z_callVi [.ref (ad 0)] C zc_X11_178 zk_M rfl (by decide) (Nat.le_of_ble_eq_true rfl) dX11_readWord_104 rfl (wX11_isNewLike ad v5 v2 g r104 g104 hq104) ?_
        refine z_if_ne 114 C dX11_readWord_107 rfl (fun hc => ?_) (fun hc => ?_)
        · replace h := z_it hc h
          refine z_iconst C dX11_readWord_110 zci_1 ?_
          refine z_goto 115 C dX11_readWord_111 rfl ?_
          exact wX11_readWord_J115 C _ (fun v2 v3 v5 g h => ih v2 v3 v5 g h) v2 v3 v5 1 g104 h
        · replace h := z_if hc h
          refine z_iconst C dX11_readWord_114 zci_0 ?_
          exact wX11_readWord_J115 C _ (fun v2 v3 v5 g h => ih v2 v3 v5 g h) v2 v3 v5 0 g104 h
      · replace h := z_if hc h
        refine z_loc [0, 1] rfl ?_
        exact hk128 v2 g h
set_option maxRecDepth 100000 in
set_option maxHeartbeats 4000000 in
theorem wX11_readWord_L224 {F : z_F} {ad : Nat → Nat} {gE : z_S} (C : z_X F layM nM ad cX11_readWord RX11 7 none 2 49 none gE) (k270 : Int32 → Int32 → Int32 → z_S → Option (Unit × z_S)) (hk270 : ∀ (v1 : Int32) (v2 : Int32) (v5 : Int32) (g : z_S), k270 v1 v2 v5 g = some ((), gE) → z_W F layM nM ad 270 [(0, .ref (ad 0)), (1, .int v1), (2, .int v2), (5, .int v5)] [] g) : ∀ (n : Nat) (v1 : Int32) (v2 : Int32) (v5 : Int32) (g : z_S), z_loop (fX11_readWord_B224 k270) n (v1, v2, v5) g = some ((), gE) → z_W F layM nM ad 224 [(0, .ref (ad 0)), (1, .int v1), (2, .int v2), (5, .int v5)] [] g := by
  intro n
  induction n with
  | zero =>
    intro v1 v2 v5 g h
    exact (z_loop_0 h).elim
  | succ n ih =>
    intro v1 v2 v5 g h
    replace h := z_loop_S h
    simp only [fX11_readWord_B224] at h
    refine z_aload_n C dX11_readWord_224 rfl 0 rfl ?_
    refine z_geti C zf_X11_149 zo_M_15 dX11_readWord_225 ?_
    refine z_aload_n C dX11_readWord_228 rfl 0 rfl ?_
    refine z_geti C zf_X11_144 zo_M_14 dX11_readWord_229 ?_
    refine z_icmp_ge 270 C dX11_readWord_232 rfl (fun hc => ?_) (fun hc => ?_)
    · replace h := z_it hc h
      exact hk270 v1 v2 v5 g h
    · replace h := z_if hc h
      refine z_aload_n C dX11_readWord_235 rfl 0 rfl ?_
      refine z_getr C zf_X11_38 zo_M_13 dX11_readWord_236 ?_
      refine z_aload_n C dX11_readWord_239 rfl 0 rfl ?_
      refine z_geti C zf_X11_149 zo_M_15 dX11_readWord_240 ?_
      obtain ⟨hi243, h⟩ := z_g_some h
      refine z_iald C za_M_10 (z_in_vp hi243) dX11_readWord_243 ?_
      refine z_i2l C dX11_readWord_244 ?_
      refine z_ldc2 C dX11_readWord_245 zl_X11_167 ?_
      refine z_ldc2 C dX11_readWord_248 zl_X11_169 ?_
      obtain ⟨r251, g251, hq251, h⟩ := z_b_some h
      refine z_callSi [] C zc_X11_131 rfl (by decide) (Nat.le_of_ble_eq_true rfl) dX11_readWord_251 rfl (wX11_in ad ((g.1 10 (g.1 0 15).toNatClampNeg).toInt64) 48 57 g r251 g251 hq251) ?_
      refine z_if_eq 270 C dX11_readWord_254 rfl (fun hc => ?_) (fun hc => ?_)
      · replace h := z_it hc h
        exact hk270 v1 v2 v5 g251 h
      · replace h := z_if hc h
        refine z_aload_n C dX11_readWord_257 rfl 0 rfl ?_
        refine z_dup C dX11_readWord_258 rfl ?_
        refine z_geti C zf_X11_149 zo_M_15 dX11_readWord_259 ?_
        refine z_iconst C dX11_readWord_262 zci_1 ?_
        refine z_iadd C dX11_readWord_263 ?_
        obtain ⟨g264, eg264, h⟩ := z_s_some h
        refine z_puti C zp_X11_149 zo_M_15 rfl rfl dX11_readWord_264 ?_
        refine z_gw eg264 ?_
        refine z_goto 224 C dX11_readWord_267 rfl ?_
        exact ih v1 v2 v5 g264 h
set_option maxRecDepth 100000 in
set_option maxHeartbeats 4000000 in
theorem wX11_readWord_J335 {F : z_F} {ad : Nat → Nat} {gE : z_S} (C : z_X F layM nM ad cX11_readWord RX11 7 none 2 49 none gE) (s0 : Int32) (g : z_S) (h : fX11_readWord_J335 s0 g = some ((), gE)) : z_W F layM nM ad 335 [(0, .ref (ad 0))] [.int s0, .ref (ad 0)] g := by
  unfold fX11_readWord_J335 at h
  refine z_iconst C dX11_readWord_335 zci_1 ?_
  refine z_aload_n C dX11_readWord_336 rfl 0 rfl ?_
  refine z_geti C zf_X11_149 zo_M_15 dX11_readWord_337 ?_
  obtain ⟨r340, g340, hq340, h⟩ := z_b_some h
  refine z_callVi [] C zc_X11_163 zk_M rfl (by decide) (Nat.le_of_ble_eq_true rfl) dX11_readWord_340 rfl (wX11_want ad s0 1 (g.1 0 15) g r340 g340 hq340) ?_
  refine z_if_eq 366 C dX11_readWord_343 rfl (fun hc => ?_) (fun hc => ?_)
  · replace h := z_it hc h
    exact z_vret C rfl (z_ret2 h) dX11_readWord_366
  · replace h := z_if hc h
    refine z_aload_n C dX11_readWord_346 rfl 0 rfl ?_
    refine z_dup C dX11_readWord_347 rfl ?_
    refine z_geti C zf_X11_149 zo_M_15 dX11_readWord_348 ?_
    refine z_iconst C dX11_readWord_351 zci_1 ?_
    refine z_iadd C dX11_readWord_352 ?_
    obtain ⟨g353, eg353, h⟩ := z_s_some h
    refine z_puti C zp_X11_149 zo_M_15 rfl rfl dX11_readWord_353 ?_
    refine z_gw eg353 ?_
    refine z_aload_n C dX11_readWord_356 rfl 0 rfl ?_
    refine z_dup C dX11_readWord_357 rfl ?_
    refine z_geti C zf_X11_171 zo_M_22 dX11_readWord_358 ?_
    refine z_iconst C dX11_readWord_361 zci_1 ?_
    refine z_iadd C dX11_readWord_362 ?_
    obtain ⟨g363, eg363, h⟩ := z_s_some h
    refine z_puti C zp_X11_171 zo_M_22 rfl rfl dX11_readWord_363 ?_
    refine z_gw eg363 ?_
    exact z_vret C rfl (z_ret2 h) dX11_readWord_366
set_option maxRecDepth 100000 in
set_option maxHeartbeats 4000000 in
theorem wX11_readWord_J311 {F : z_F} {ad : Nat → Nat} {gE : z_S} (C : z_X F layM nM ad cX11_readWord RX11 7 none 2 49 none gE) (g : z_S) (h : fX11_readWord_J311 g = some ((), gE)) : z_W F layM nM ad 311 [(0, .ref (ad 0))] [] g := by
  unfold fX11_readWord_J311 at h
  refine z_aload_n C dX11_readWord_311 rfl 0 rfl ?_
  refine z_geti C zf_X11_152 zo_M_16 dX11_readWord_312 ?_
  refine z_if_ne 366 C dX11_readWord_315 rfl (fun hc => ?_) (fun hc => ?_)
  · replace h := z_it hc h
    refine z_aload_n C dX11_readWord_318 rfl 0 rfl ?_
    obtain ⟨r319, g319, hq319, h⟩ := z_b_some h
    refine z_callVi [] C zc_X11_155 zk_M rfl (by decide) (Nat.le_of_ble_eq_true rfl) dX11_readWord_319 rfl (wX11_here ad g r319 g319 hq319) ?_
    refine z_istore_n C dX11_readWord_322 rfl (by decide) [(1, .int r319), (0, .ref (ad 0))] rfl ?_
    refine z_aload_n C dX11_readWord_323 rfl 1 rfl ?_
    refine z_iload_n C dX11_readWord_324 rfl 0 rfl ?_
    refine z_bipush C dX11_readWord_325 zcb_59 ?_
    refine z_icmp_ne 334 C dX11_readWord_327 rfl (fun hc => ?_) (fun hc => ?_)
    · replace h := z_it hc h
      refine z_iconst C dX11_readWord_330 zci_1 ?_
      refine z_goto 335 C dX11_readWord_331 rfl ?_
      refine z_loc [1] rfl ?_
      exact wX11_readWord_J335 C 1 g319 h
    · replace h := z_if hc h
      refine z_iconst C dX11_readWord_334 zci_0 ?_
      refine z_loc [1] rfl ?_
      exact wX11_readWord_J335 C 0 g319 h
  · replace h := z_if hc h
    exact z_vret C rfl (z_ret2 h) dX11_readWord_366
set_option maxRecDepth 100000 in
set_option maxHeartbeats 4000000 in
theorem wX11_readWord_J303 {F : z_F} {ad : Nat → Nat} {gE : z_S} (C : z_X F layM nM ad cX11_readWord RX11 7 none 2 49 none gE) (v5 : Int32) (s0 : Int32) (g : z_S) (h : fX11_readWord_J303 v5 s0 g = some ((), gE)) : z_W F layM nM ad 303 [(0, .ref (ad 0)), (5, .int v5)] [.int s0, .ref (ad 0)] g := by
  unfold fX11_readWord_J303 at h
  refine z_iconst C dX11_readWord_303 zci_2 ?_
  refine z_iload C dX11_readWord_304 1 rfl ?_
  obtain ⟨r306, g306, hq306, h⟩ := z_b_some h
  refine z_callVi [] C zc_X11_163 zk_M rfl (by decide) (Nat.le_of_ble_eq_true rfl) dX11_readWord_306 rfl (wX11_want ad s0 2 v5 g r306 g306 hq306) ?_
  refine z_istore C dX11_readWord_309 (by decide) [(6, .int r306), (0, .ref (ad 0)), (5, .int v5)] rfl ?_
  refine z_loc [1] rfl ?_
  exact wX11_readWord_J311 C g306 h
set_option maxRecDepth 100000 in
set_option maxHeartbeats 4000000 in
theorem wX11_readWord_J164 {F : z_F} {ad : Nat → Nat} {gE : z_S} (C : z_X F layM nM ad cX11_readWord RX11 7 none 2 49 none gE) (v2 : Int32) (g : z_S) (h : fX11_readWord_J164 v2 g = some ((), gE)) : z_W F layM nM ad 164 [(0, .ref (ad 0)), (2, .int v2)] [] g := by
  unfold fX11_readWord_J164 at h
  refine z_aload_n C dX11_readWord_164 rfl 0 rfl ?_
  refine z_geti C zf_X11_152 zo_M_16 dX11_readWord_165 ?_
  refine z_if_ne 311 C dX11_readWord_168 rfl (fun hc => ?_) (fun hc => ?_)
  · replace h := z_it hc h
    refine z_aload_n C dX11_readWord_171 rfl 0 rfl ?_
    obtain ⟨r172, g172, hq172, h⟩ := z_b_some h
    refine z_callVi [] C zc_X11_155 zk_M rfl (by decide) (Nat.le_of_ble_eq_true rfl) dX11_readWord_172 rfl (wX11_here ad g r172 g172 hq172) ?_
    refine z_bipush C dX11_readWord_175 zcb_47 ?_
    refine z_icmp_ne 311 C dX11_readWord_177 rfl (fun hc => ?_) (fun hc => ?_)
    · replace h := z_it hc h
      refine z_aload_n C dX11_readWord_180 rfl 0 rfl ?_
      refine z_dup C dX11_readWord_181 rfl ?_
      refine z_geti C zf_X11_149 zo_M_15 dX11_readWord_182 ?_
      refine z_iconst C dX11_readWord_185 zci_1 ?_
      refine z_iadd C dX11_readWord_186 ?_
      obtain ⟨g187, eg187, h⟩ := z_s_some h
      refine z_puti C zp_X11_149 zo_M_15 rfl rfl dX11_readWord_187 ?_
      refine z_gw eg187 ?_
      refine z_aload_n C dX11_readWord_190 rfl 0 rfl ?_
      obtain ⟨r191, g191, hq191, h⟩ := z_b_some h
      refine z_callVi [] C zc_X11_155 zk_M rfl (by decide) (Nat.le_of_ble_eq_true rfl) dX11_readWord_191 rfl (wX11_here ad g187 r191 g191 hq191) ?_
      refine z_istore_n C dX11_readWord_194 rfl (by decide) [(1, .int r191), (0, .ref (ad 0)), (2, .int v2)] rfl ?_
      refine z_aload_n C dX11_readWord_195 rfl 1 rfl ?_
      refine z_geti C zf_X11_149 zo_M_15 dX11_readWord_196 ?_
      refine z_istore C dX11_readWord_199 (by decide) [(5, .int (g191.1 0 15)), (1, .int r191), (0, .ref (ad 0)), (2, .int v2)] rfl ?_
      refine z_aload_n C dX11_readWord_201 rfl 2 rfl ?_
      refine z_iload_n C dX11_readWord_202 rfl 1 rfl ?_
      refine z_i2l C dX11_readWord_203 ?_
      refine z_ldc2 C dX11_readWord_204 zl_X11_167 ?_
      refine z_ldc2 C dX11_readWord_207 zl_X11_169 ?_
      obtain ⟨r210, g210, hq210, h⟩ := z_b_some h
      refine z_callSi [.ref (ad 0)] C zc_X11_131 rfl (by decide) (Nat.le_of_ble_eq_true rfl) dX11_readWord_210 rfl (wX11_in ad ((r191).toInt64) 48 57 g191 r210 g210 hq210) ?_
      refine z_iconst C dX11_readWord_213 zci_1 ?_
      refine z_aload_n C dX11_readWord_214 rfl 2 rfl ?_
      refine z_geti C zf_X11_149 zo_M_15 dX11_readWord_215 ?_
      obtain ⟨r218, g218, hq218, h⟩ := z_b_some h
      refine z_callVi [] C zc_X11_163 zk_M rfl (by decide) (Nat.le_of_ble_eq_true rfl) dX11_readWord_218 rfl (wX11_want ad r210 1 (g210.1 0 15) g210 r218 g218 hq218) ?_
      refine z_if_eq 311 C dX11_readWord_221 rfl (fun hc => ?_) (fun hc => ?_)
      · replace h := z_it hc h
        refine z_loc [2] rfl ?_
        exact wX11_readWord_J311 C g218 h
      · replace h := z_if hc h
        refine z_loc [2, 1, 3, 0] rfl ?_
        refine wX11_readWord_L224 C _ ?_ zN r191 v2 (g191.1 0 15) g218 h
        · intro v1 v2 v5 g h
          refine z_aload_n C dX11_readWord_270 rfl 0 rfl ?_
          refine z_getr C zf_X11_54 zo_M_21 dX11_readWord_271 ?_
          refine z_iload_n C dX11_readWord_274 rfl 2 rfl ?_
          refine z_iload_n C dX11_readWord_275 rfl 1 rfl ?_
          refine z_bipush C dX11_readWord_276 zcb_48 ?_
          refine z_isub C dX11_readWord_278 ?_
          obtain ⟨hi279, h⟩ := z_g_some h
          obtain ⟨g279, eg279, h⟩ := z_s_some h
          refine z_iast C za_M_14 (z_in_vp hi279) dX11_readWord_279 ?_
          refine z_gw eg279 ?_
          refine z_aload_n C dX11_readWord_280 rfl 0 rfl ?_
          refine z_aload_n C dX11_readWord_281 rfl 0 rfl ?_
          refine z_geti C zf_X11_149 zo_M_15 dX11_readWord_282 ?_
          refine z_iload C dX11_readWord_285 3 rfl ?_
          refine z_iconst C dX11_readWord_287 zci_1 ?_
          refine z_iadd C dX11_readWord_288 ?_
          refine z_icmp_ne 302 C dX11_readWord_289 rfl (fun hc => ?_) (fun hc => ?_)
          · replace h := z_it hc h
            refine z_iload_n C dX11_readWord_292 rfl 1 rfl ?_
            refine z_bipush C dX11_readWord_293 zcb_52 ?_
            refine z_icmp_ge 302 C dX11_readWord_295 rfl (fun hc => ?_) (fun hc => ?_)
            · replace h := z_it hc h
              refine z_iconst C dX11_readWord_302 zci_0 ?_
              refine z_loc [0, 3] rfl ?_
              exact wX11_readWord_J303 C v5 0 g279 h
            · replace h := z_if hc h
              refine z_iconst C dX11_readWord_298 zci_1 ?_
              refine z_goto 303 C dX11_readWord_299 rfl ?_
              refine z_loc [0, 3] rfl ?_
              exact wX11_readWord_J303 C v5 1 g279 h
          · replace h := z_if hc h
            refine z_iconst C dX11_readWord_302 zci_0 ?_
            refine z_loc [0, 3] rfl ?_
            exact wX11_readWord_J303 C v5 0 g279 h
    · replace h := z_if hc h
      refine z_loc [0] rfl ?_
      exact wX11_readWord_J311 C g172 h
  · replace h := z_if hc h
    refine z_loc [0] rfl ?_
    exact wX11_readWord_J311 C g h
set_option maxRecDepth 100000 in
set_option maxHeartbeats 4000000 in
theorem wX11_readWord (ad : Nat → Nat) (g : z_S) (gE : z_S) (h : fX11_readWord g = some ((), gE)) : z_M yX11_readWord cX11_readWord 7 none 2 49 layM nM ad [.ref (ad 0)] g none gE := by
  refine z_enter (by decide) (Nat.le_of_ble_eq_true rfl) (fun F C => ?_)
  replace C : z_X F layM nM ad cX11_readWord RX11 7 none 2 49 none gE := C
  show z_W F layM nM ad 0 [(0, .ref (ad 0))] [] g
  unfold fX11_readWord at h
  refine z_aload_n C dX11_readWord_0 rfl 0 rfl ?_
  obtain ⟨r1, g1, hq1, h⟩ := z_b_some h
  refine z_callVi [] C zc_X11_155 zk_M rfl (by decide) (Nat.le_of_ble_eq_true rfl) dX11_readWord_1 rfl (wX11_here ad g r1 g1 hq1) ?_
  refine z_istore_n C dX11_readWord_4 rfl (by decide) [(1, .int r1), (0, .ref (ad 0))] rfl ?_
  refine z_aload_n C dX11_readWord_5 rfl 1 rfl ?_
  refine z_geti C zf_X11_171 zo_M_22 dX11_readWord_6 ?_
  refine z_istore_n C dX11_readWord_9 rfl (by decide) [(2, .int (g1.1 0 22)), (1, .int r1), (0, .ref (ad 0))] rfl ?_
  refine z_aload_n C dX11_readWord_10 rfl 2 rfl ?_
  refine z_geti C zf_X11_149 zo_M_15 dX11_readWord_11 ?_
  refine z_istore_n C dX11_readWord_14 rfl (by decide) [(3, .int (g1.1 0 15)), (2, .int (g1.1 0 22)), (1, .int r1), (0, .ref (ad 0))] rfl ?_
  refine z_aload_n C dX11_readWord_15 rfl 3 rfl ?_
  refine z_getr C zf_X11_48 zo_M_19 dX11_readWord_16 ?_
  refine z_iload_n C dX11_readWord_19 rfl 1 rfl ?_
  refine z_iconst C dX11_readWord_20 zci_0 ?_
  obtain ⟨hi21, h⟩ := z_g_some h
  obtain ⟨g21, eg21, h⟩ := z_s_some h
  refine z_iast C za_M_12 (z_in_vp hi21) dX11_readWord_21 ?_
  refine z_gw eg21 ?_
  refine z_aload_n C dX11_readWord_22 rfl 3 rfl ?_
  refine z_getr C zf_X11_51 zo_M_20 dX11_readWord_23 ?_
  refine z_iload_n C dX11_readWord_26 rfl 1 rfl ?_
  refine z_iconst C dX11_readWord_27 zci_1 ?_
  obtain ⟨hi28, h⟩ := z_g_some h
  obtain ⟨g28, eg28, h⟩ := z_s_some h
  refine z_iast C za_M_13 (z_in_vp hi28) dX11_readWord_28 ?_
  refine z_gw eg28 ?_
  refine z_aload_n C dX11_readWord_29 rfl 3 rfl ?_
  refine z_getr C zf_X11_54 zo_M_21 dX11_readWord_30 ?_
  refine z_iload_n C dX11_readWord_33 rfl 1 rfl ?_
  refine z_iconst C dX11_readWord_34 zci_0 ?_
  obtain ⟨hi35, h⟩ := z_g_some h
  obtain ⟨g35, eg35, h⟩ := z_s_some h
  refine z_iast C za_M_14 (z_in_vp hi35) dX11_readWord_35 ?_
  refine z_gw eg35 ?_
  refine z_aload_n C dX11_readWord_36 rfl 3 rfl ?_
  refine z_iload_n C dX11_readWord_37 rfl 1 rfl ?_
  obtain ⟨r38, g38, hq38, h⟩ := z_b_some h
  refine z_callVi [] C zc_X11_174 zk_M rfl (by decide) (Nat.le_of_ble_eq_true rfl) dX11_readWord_38 rfl (wX11_takeLetter ad (g1.1 0 22) g35 r38 g38 hq38) ?_
  refine z_istore C dX11_readWord_41 (by decide) [(4, .int r38), (3, .int (g1.1 0 15)), (2, .int (g1.1 0 22)), (1, .int r1), (0, .ref (ad 0))] rfl ?_
  refine z_loc [4, 2, 1, 0] rfl ?_
  refine wX11_readWord_L43 C _ ?_ zN (g1.1 0 22) (g1.1 0 15) r38 g38 h
  · intro v2 v3 g h
    refine z_iconst C dX11_readWord_83 zci_0 ?_
    refine z_istore C dX11_readWord_84 (by decide) [(5, .int 0), (0, .ref (ad 0)), (2, .int v2), (3, .int v3)] rfl ?_
    refine z_loc [1, 2, 3, 0] rfl ?_
    refine wX11_readWord_L86 C _ ?_ zN v2 v3 0 g h
    · intro v2 g h
      refine z_aload_n C dX11_readWord_128 rfl 0 rfl ?_
      refine z_geti C zf_X11_152 zo_M_16 dX11_readWord_129 ?_
      refine z_if_ne 164 C dX11_readWord_132 rfl (fun hc => ?_) (fun hc => ?_)
      · replace h := z_it hc h
        refine z_aload_n C dX11_readWord_135 rfl 0 rfl ?_
        obtain ⟨r136, g136, hq136, h⟩ := z_b_some h
        refine z_callVi [] C zc_X11_155 zk_M rfl (by decide) (Nat.le_of_ble_eq_true rfl) dX11_readWord_136 rfl (wX11_here ad g r136 g136 hq136) ?_
        refine z_bipush C dX11_readWord_139 zcb_58 ?_
        refine z_icmp_ne 164 C dX11_readWord_141 rfl (fun hc => ?_) (fun hc => ?_)
        · replace h := z_it hc h
          refine z_aload_n C dX11_readWord_144 rfl 0 rfl ?_
          refine z_dup C dX11_readWord_145 rfl ?_
          refine z_geti C zf_X11_149 zo_M_15 dX11_readWord_146 ?_
          refine z_iconst C dX11_readWord_149 zci_1 ?_
          refine z_iadd C dX11_readWord_150 ?_
          obtain ⟨g151, eg151, h⟩ := z_s_some h
          refine z_puti C zp_X11_149 zo_M_15 rfl rfl dX11_readWord_151 ?_
          refine z_gw eg151 ?_
          refine z_aload_n C dX11_readWord_154 rfl 0 rfl ?_
          refine z_getr C zf_X11_51 zo_M_20 dX11_readWord_155 ?_
          refine z_iload_n C dX11_readWord_158 rfl 1 rfl ?_
          refine z_aload_n C dX11_readWord_159 rfl 0 rfl ?_
          obtain ⟨r160, g160, hq160, h⟩ := z_b_some h
          refine z_callVi [.int v2, .ref (ad 13)] C zc_X11_182 zk_M rfl (by decide) (Nat.le_of_ble_eq_true rfl) dX11_readWord_160 rfl (wX11_takeCost ad g151 r160 g160 hq160) ?_
          obtain ⟨hi163, h⟩ := z_g_some h
          obtain ⟨g163, eg163, h⟩ := z_s_some h
          refine z_iast C za_M_13 (z_in_vp hi163) dX11_readWord_163 ?_
          refine z_gw eg163 ?_
          exact wX11_readWord_J164 C v2 g163 h
        · replace h := z_if hc h
          exact wX11_readWord_J164 C v2 g136 h
      · replace h := z_if hc h
        exact wX11_readWord_J164 C v2 g h
set_option maxRecDepth 100000 in
set_option maxHeartbeats 4000000 in
theorem wX11_read_L20 {F : z_F} {ad : Nat → Nat} {r : Int32} {gE : z_S} (C : z_X F layM nM ad cX11_read RX11 3 (some .int) 3 75 (some (.int r)) gE) (k41 : z_S → Option (Int32 × z_S)) (hk41 : ∀ (g : z_S), k41 g = some (r, gE) → z_W F layM nM ad 41 [(0, .ref (ad 0))] [] g) : ∀ (n : Nat) (g : z_S), z_loop (fX11_read_B20 k41) n () g = some (r, gE) → z_W F layM nM ad 20 [(0, .ref (ad 0))] [] g := by
  intro n
  induction n with
  | zero =>
    intro  g h
    exact (z_loop_0 h).elim
  | succ n ih =>
    intro  g h
    replace h := z_loop_S h
    simp only [fX11_read_B20] at h
    refine z_aload_n C dX11_read_20 rfl 0 rfl ?_
    refine z_geti C zf_X11_152 zo_M_16 dX11_read_21 ?_
    refine z_if_ne 41 C dX11_read_24 rfl (fun hc => ?_) (fun hc => ?_)
    · replace h := z_it hc h
      refine z_aload_n C dX11_read_27 rfl 0 rfl ?_
      obtain ⟨r28, g28, hq28, h⟩ := z_b_some h
      refine z_callVi [] C zc_X11_155 zk_M rfl (by decide) (Nat.le_of_ble_eq_true rfl) dX11_read_28 rfl (wX11_here ad g r28 g28 hq28) ?_
      refine z_if_lt 41 C dX11_read_31 rfl (fun hc => ?_) (fun hc => ?_)
      · replace h := z_it hc h
        exact hk41 g28 h
      · replace h := z_if hc h
        refine z_aload_n C dX11_read_34 rfl 0 rfl ?_
        obtain ⟨r35, g35, hq35, h⟩ := z_b_some h
        refine z_callVv [] C zc_X11_185 zk_M rfl (by decide) (Nat.le_of_ble_eq_true rfl) dX11_read_35 rfl (wX11_readWord ad g28 g35 hq35) ?_
        refine z_goto 20 C dX11_read_38 rfl ?_
        exact ih g35 h
    · replace h := z_if hc h
      exact hk41 g h
set_option maxRecDepth 100000 in
set_option maxHeartbeats 4000000 in
theorem wX11_read_L117 {F : z_F} {ad : Nat → Nat} {r : Int32} {gE : z_S} (C : z_X F layM nM ad cX11_read RX11 3 (some .int) 3 75 (some (.int r)) gE) (k155 : Int32 → z_S → Option (Int32 × z_S)) (hk155 : ∀ (v1 : Int32) (g : z_S), k155 v1 g = some (r, gE) → z_W F layM nM ad 155 [(0, .ref (ad 0)), (1, .int v1)] [] g) : ∀ (n : Nat) (v1 : Int32) (v2 : Int32) (g : z_S), z_loop (fX11_read_B117 k155) n (v1, v2) g = some (r, gE) → z_W F layM nM ad 117 [(0, .ref (ad 0)), (1, .int v1), (2, .int v2)] [] g := by
  intro n
  induction n with
  | zero =>
    intro v1 v2 g h
    exact (z_loop_0 h).elim
  | succ n ih =>
    intro v1 v2 g h
    replace h := z_loop_S h
    simp only [fX11_read_B117] at h
    refine z_iload_n C dX11_read_117 rfl 2 rfl ?_
    refine z_aload_n C dX11_read_118 rfl 0 rfl ?_
    refine z_getr C zf_X11_13 zo_M_3 dX11_read_119 ?_
    refine z_iload_n C dX11_read_122 rfl 1 rfl ?_
    obtain ⟨hi123, h⟩ := z_g_some h
    refine z_iald C za_M_2 (z_in_vp hi123) dX11_read_123 ?_
    refine z_icmp_ge 155 C dX11_read_124 rfl (fun hc => ?_) (fun hc => ?_)
    · replace h := z_it hc h
      refine z_loc [0, 1] rfl ?_
      exact hk155 v1 g h
    · replace h := z_if hc h
      refine z_aload_n C dX11_read_127 rfl 0 rfl ?_
      refine z_getr C zf_X11_7 zo_M_2 dX11_read_128 ?_
      refine z_bipush C dX11_read_131 zcb_8 ?_
      refine z_iload_n C dX11_read_133 rfl 1 rfl ?_
      refine z_imul C dX11_read_134 ?_
      refine z_iload_n C dX11_read_135 rfl 2 rfl ?_
      refine z_iadd C dX11_read_136 ?_
      refine z_aload_n C dX11_read_137 rfl 0 rfl ?_
      refine z_getr C zf_X11_45 zo_M_18 dX11_read_138 ?_
      refine z_bipush C dX11_read_141 zcb_8 ?_
      refine z_iload_n C dX11_read_143 rfl 1 rfl ?_
      refine z_imul C dX11_read_144 ?_
      refine z_iload_n C dX11_read_145 rfl 2 rfl ?_
      refine z_iadd C dX11_read_146 ?_
      obtain ⟨hi147, h⟩ := z_g_some h
      refine z_iald C za_M_11 (z_in_vp hi147) dX11_read_147 ?_
      obtain ⟨hi148, h⟩ := z_g_some h
      obtain ⟨g148, eg148, h⟩ := z_s_some h
      refine z_iast C za_M_1 (z_in_vp hi148) dX11_read_148 ?_
      refine z_gw eg148 ?_
      refine z_iinc C dX11_read_149 (by decide) 2 rfl (z_incl zci_1) [(2, .int (v2 + 1)), (0, .ref (ad 0)), (1, .int v1)] rfl ?_
      refine z_goto 117 C dX11_read_152 rfl ?_
      refine z_loc [1, 2, 0] rfl ?_
      exact ih v1 (v2 + 1) g148 h
set_option maxRecDepth 100000 in
set_option maxHeartbeats 4000000 in
theorem wX11_read_L71 {F : z_F} {ad : Nat → Nat} {r : Int32} {gE : z_S} (C : z_X F layM nM ad cX11_read RX11 3 (some .int) 3 75 (some (.int r)) gE) : ∀ (n : Nat) (v1 : Int32) (g : z_S), z_loop fX11_read_B71 n v1 g = some (r, gE) → z_W F layM nM ad 71 [(0, .ref (ad 0)), (1, .int v1)] [] g := by
  intro n
  induction n with
  | zero =>
    intro v1 g h
    exact (z_loop_0 h).elim
  | succ n ih =>
    intro v1 g h
    replace h := z_loop_S h
    simp only [fX11_read_B71] at h
    refine z_iload_n C dX11_read_71 rfl 1 rfl ?_
    refine z_aload_n C dX11_read_72 rfl 0 rfl ?_
    refine z_geti C zf_X11_135 zo_M_1 dX11_read_73 ?_
    refine z_icmp_ge 161 C dX11_read_76 rfl (fun hc => ?_) (fun hc => ?_)
    · replace h := z_it hc h
      refine z_aload_n C dX11_read_161 rfl 0 rfl ?_
      refine z_geti C zf_X11_135 zo_M_1 dX11_read_162 ?_
      exact z_iret C (z_ret1i h) (z_ret2 h) dX11_read_165
    · replace h := z_if hc h
      refine z_aload_n C dX11_read_79 rfl 0 rfl ?_
      refine z_getr C zf_X11_13 zo_M_3 dX11_read_80 ?_
      refine z_iload_n C dX11_read_83 rfl 1 rfl ?_
      refine z_aload_n C dX11_read_84 rfl 0 rfl ?_
      refine z_getr C zf_X11_48 zo_M_19 dX11_read_85 ?_
      refine z_iload_n C dX11_read_88 rfl 1 rfl ?_
      obtain ⟨hi89, h⟩ := z_g_some h
      refine z_iald C za_M_12 (z_in_vp hi89) dX11_read_89 ?_
      obtain ⟨hi90, h⟩ := z_g_some h
      obtain ⟨g90, eg90, h⟩ := z_s_some h
      refine z_iast C za_M_2 (z_in_vp hi90) dX11_read_90 ?_
      refine z_gw eg90 ?_
      refine z_aload_n C dX11_read_91 rfl 0 rfl ?_
      refine z_getr C zf_X11_16 zo_M_4 dX11_read_92 ?_
      refine z_iload_n C dX11_read_95 rfl 1 rfl ?_
      refine z_aload_n C dX11_read_96 rfl 0 rfl ?_
      refine z_getr C zf_X11_51 zo_M_20 dX11_read_97 ?_
      refine z_iload_n C dX11_read_100 rfl 1 rfl ?_
      obtain ⟨hi101, h⟩ := z_g_some h
      refine z_iald C za_M_13 (z_in_vp hi101) dX11_read_101 ?_
      obtain ⟨hi102, h⟩ := z_g_some h
      obtain ⟨g102, eg102, h⟩ := z_s_some h
      refine z_iast C za_M_3 (z_in_vp hi102) dX11_read_102 ?_
      refine z_gw eg102 ?_
      refine z_aload_n C dX11_read_103 rfl 0 rfl ?_
      refine z_getr C zf_X11_19 zo_M_5 dX11_read_104 ?_
      refine z_iload_n C dX11_read_107 rfl 1 rfl ?_
      refine z_aload_n C dX11_read_108 rfl 0 rfl ?_
      refine z_getr C zf_X11_54 zo_M_21 dX11_read_109 ?_
      refine z_iload_n C dX11_read_112 rfl 1 rfl ?_
      obtain ⟨hi113, h⟩ := z_g_some h
      refine z_iald C za_M_14 (z_in_vp hi113) dX11_read_113 ?_
      obtain ⟨hi114, h⟩ := z_g_some h
      obtain ⟨g114, eg114, h⟩ := z_s_some h
      refine z_iast C za_M_4 (z_in_vp hi114) dX11_read_114 ?_
      refine z_gw eg114 ?_
      refine z_iconst C dX11_read_115 zci_0 ?_
      refine z_istore_n C dX11_read_116 rfl (by decide) [(2, .int 0), (0, .ref (ad 0)), (1, .int v1)] rfl ?_
      refine z_loc [1, 2, 0] rfl ?_
      refine wX11_read_L117 C _ ?_ zN v1 0 g114 h
      · intro v1 g h
        refine z_iinc C dX11_read_155 (by decide) 1 rfl (z_incl zci_1) [(1, .int (v1 + 1)), (0, .ref (ad 0))] rfl ?_
        refine z_goto 71 C dX11_read_158 rfl ?_
        refine z_loc [1, 0] rfl ?_
        exact ih (v1 + 1) g h
set_option maxRecDepth 100000 in
set_option maxHeartbeats 4000000 in
theorem wX11_read (ad : Nat → Nat) (g : z_S) (r : Int32) (gE : z_S) (h : fX11_read g = some (r, gE)) : z_M yX11_read cX11_read 3 (some .int) 3 75 layM nM ad [.ref (ad 0)] g (some (.int r)) gE := by
  refine z_enter (by decide) (Nat.le_of_ble_eq_true rfl) (fun F C => ?_)
  replace C : z_X F layM nM ad cX11_read RX11 3 (some .int) 3 75 (some (.int r)) gE := C
  show z_W F layM nM ad 0 [(0, .ref (ad 0))] [] g
  unfold fX11_read at h
  refine z_aload_n C dX11_read_0 rfl 0 rfl ?_
  refine z_iconst C dX11_read_1 zci_0 ?_
  obtain ⟨g2, eg2, h⟩ := z_s_some h
  refine z_puti C zp_X11_149 zo_M_15 rfl rfl dX11_read_2 ?_
  refine z_gw eg2 ?_
  refine z_aload_n C dX11_read_5 rfl 0 rfl ?_
  refine z_iconst C dX11_read_6 zci_0 ?_
  obtain ⟨g7, eg7, h⟩ := z_s_some h
  refine z_puti C zp_X11_152 zo_M_16 rfl rfl dX11_read_7 ?_
  refine z_gw eg7 ?_
  refine z_aload_n C dX11_read_10 rfl 0 rfl ?_
  refine z_iconst C dX11_read_11 zci_m1 ?_
  obtain ⟨g12, eg12, h⟩ := z_s_some h
  refine z_puti C zp_X11_41 zo_M_17 rfl rfl dX11_read_12 ?_
  refine z_gw eg12 ?_
  refine z_aload_n C dX11_read_15 rfl 0 rfl ?_
  refine z_iconst C dX11_read_16 zci_0 ?_
  obtain ⟨g17, eg17, h⟩ := z_s_some h
  refine z_puti C zp_X11_171 zo_M_22 rfl rfl dX11_read_17 ?_
  refine z_gw eg17 ?_
  refine wX11_read_L20 C _ ?_ zN g17 h
  · intro g h
    refine z_aload_n C dX11_read_41 rfl 0 rfl ?_
    refine z_iconst C dX11_read_42 zci_0 ?_
    obtain ⟨g43, eg43, h⟩ := z_s_some h
    refine z_puti C zp_X11_144 zo_M_14 rfl rfl dX11_read_43 ?_
    refine z_gw eg43 ?_
    refine z_aload_n C dX11_read_46 rfl 0 rfl ?_
    refine z_geti C zf_X11_152 zo_M_16 dX11_read_47 ?_
    refine z_if_le 61 C dX11_read_50 rfl (fun hc => ?_) (fun hc => ?_)
    · replace h := z_it hc h
      refine z_aload_n C dX11_read_61 rfl 0 rfl ?_
      refine z_aload_n C dX11_read_62 rfl 0 rfl ?_
      refine z_geti C zf_X11_171 zo_M_22 dX11_read_63 ?_
      obtain ⟨g66, eg66, h⟩ := z_s_some h
      refine z_puti C zp_X11_135 zo_M_1 rfl rfl dX11_read_66 ?_
      refine z_gw eg66 ?_
      refine z_iconst C dX11_read_69 zci_0 ?_
      refine z_istore_n C dX11_read_70 rfl (by decide) [(1, .int 0), (0, .ref (ad 0))] rfl ?_
      refine z_loc [1, 0] rfl ?_
      refine wX11_read_L71 C  zN 0 g66 h
    · replace h := z_if hc h
      refine z_bipush C dX11_read_53 zcb_m10 ?_
      refine z_aload_n C dX11_read_55 rfl 0 rfl ?_
      refine z_geti C zf_X11_152 zo_M_16 dX11_read_56 ?_
      refine z_isub C dX11_read_59 ?_
      exact z_iret C (z_ret1i h) (z_ret2 h) dX11_read_60
set_option maxRecDepth 100000 in
set_option maxHeartbeats 4000000 in
theorem wX11_fault (ad : Nat → Nat) (g : z_S) (r : Int32) (gE : z_S) (h : fX11_fault g = some (r, gE)) : z_M yX11_fault cX11_fault 1 (some .int) 0 0 layM nM ad [.ref (ad 0)] g (some (.int r)) gE := by
  refine z_enter (by decide) (Nat.le_of_ble_eq_true rfl) (fun F C => ?_)
  replace C : z_X F layM nM ad cX11_fault RX11 1 (some .int) 0 0 (some (.int r)) gE := C
  show z_W F layM nM ad 0 [(0, .ref (ad 0))] [] g
  unfold fX11_fault at h
  refine z_aload_n C dX11_fault_0 rfl 0 rfl ?_
  refine z_geti C zf_X11_41 zo_M_17 dX11_fault_1 ?_
  exact z_iret C (z_ret1i h) (z_ret2 h) dX11_fault_4
set_option maxRecDepth 100000 in
set_option maxHeartbeats 4000000 in
theorem wX11_noWord (ad : Nat → Nat) (v1 : Int32) (g : z_S) (r : Int32) (gE : z_S) (h : fX11_noWord v1 g = some (r, gE)) : z_M yX11_noWord cX11_noWord 2 (some .boolean) 1 25 layM nM ad [.ref (ad 0), .int v1] g (some (.int r)) gE := by
  refine z_enter (by decide) (Nat.le_of_ble_eq_true rfl) (fun F C => ?_)
  replace C : z_X F layM nM ad cX11_noWord RX11 2 (some .boolean) 1 25 (some (.int r)) gE := C
  show z_W F layM nM ad 0 [(0, .ref (ad 0)), (1, .int v1)] [] g
  unfold fX11_noWord at h
  refine z_iload_n C dX11_noWord_0 rfl 1 rfl ?_
  refine z_i2l C dX11_noWord_1 ?_
  refine z_lconst C dX11_noWord_2 zcl_0 ?_
  refine z_aload_n C dX11_noWord_3 rfl 0 rfl ?_
  refine z_geti C zf_X11_135 zo_M_1 dX11_noWord_4 ?_
  refine z_iconst C dX11_noWord_7 zci_1 ?_
  refine z_isub C dX11_noWord_8 ?_
  refine z_i2l C dX11_noWord_9 ?_
  obtain ⟨r10, g10, hq10, h⟩ := z_b_some h
  refine z_callSi [] C zc_X11_131 rfl (by decide) (Nat.le_of_ble_eq_true rfl) dX11_noWord_10 rfl (wX11_in ad ((v1).toInt64) 0 (((g.1 0 1) - 1).toInt64) g r10 g10 hq10) ?_
  refine z_if_ne 20 C dX11_noWord_13 rfl (fun hc => ?_) (fun hc => ?_)
  · replace h := z_it hc h
    refine z_iconst C dX11_noWord_16 zci_1 ?_
    refine z_goto 21 C dX11_noWord_17 rfl ?_
    exact z_zret C (by decide) (z_ret1i h) (z_ret2 h) dX11_noWord_21
  · replace h := z_if hc h
    refine z_iconst C dX11_noWord_20 zci_0 ?_
    exact z_zret C (by decide) (z_ret1i h) (z_ret2 h) dX11_noWord_21
set_option maxRecDepth 100000 in
set_option maxHeartbeats 4000000 in
theorem wX11_word (ad : Nat → Nat) (v1 : Int32) (v2 : Int32) (g : z_S) (r : Int32) (gE : z_S) (h : fX11_word v1 v2 g = some (r, gE)) : z_M yX11_word cX11_word 3 (some .int) 2 46 layM nM ad [.ref (ad 0), .int v1, .int v2] g (some (.int r)) gE := by
  refine z_enter (by decide) (Nat.le_of_ble_eq_true rfl) (fun F C => ?_)
  replace C : z_X F layM nM ad cX11_word RX11 3 (some .int) 2 46 (some (.int r)) gE := C
  show z_W F layM nM ad 0 [(0, .ref (ad 0)), (1, .int v1), (2, .int v2)] [] g
  unfold fX11_word at h
  refine z_aload_n C dX11_word_0 rfl 0 rfl ?_
  refine z_iload_n C dX11_word_1 rfl 1 rfl ?_
  obtain ⟨r2, g2, hq2, h⟩ := z_b_some h
  refine z_callVi [] C zc_X11_188 zk_M rfl (by decide) (Nat.le_of_ble_eq_true rfl) dX11_word_2 rfl (wX11_noWord ad v1 g r2 g2 hq2) ?_
  refine z_if_eq 12 C dX11_word_5 rfl (fun hc => ?_) (fun hc => ?_)
  · replace h := z_it hc h
    refine z_iload_n C dX11_word_12 rfl 2 rfl ?_
    refine z_i2l C dX11_word_13 ?_
    refine z_lconst C dX11_word_14 zcl_0 ?_
    refine z_ldc2 C dX11_word_15 zl_X11_191 ?_
    obtain ⟨r18, g18, hq18, h⟩ := z_b_some h
    refine z_callSi [] C zc_X11_131 rfl (by decide) (Nat.le_of_ble_eq_true rfl) dX11_word_18 rfl (wX11_in ad ((v2).toInt64) 0 10 g2 r18 g18 hq18) ?_
    refine z_if_ne 28 C dX11_word_21 rfl (fun hc => ?_) (fun hc => ?_)
    · replace h := z_it hc h
      refine z_sipush C dX11_word_24 zcs_m1002 ?_
      exact z_iret C (z_ret1i h) (z_ret2 h) dX11_word_27
    · replace h := z_if hc h
      refine z_iload_n C dX11_word_28 rfl 2 rfl ?_
      refine z_if_ne 41 C dX11_word_29 rfl (fun hc => ?_) (fun hc => ?_)
      · replace h := z_it hc h
        refine z_aload_n C dX11_word_32 rfl 0 rfl ?_
        refine z_getr C zf_X11_16 zo_M_4 dX11_word_33 ?_
        refine z_iload_n C dX11_word_36 rfl 1 rfl ?_
        obtain ⟨hi37, h⟩ := z_g_some h
        refine z_iald C za_M_3 (z_in_vp hi37) dX11_word_37 ?_
        refine z_goto 98 C dX11_word_38 rfl ?_
        exact z_iret C (z_ret1i h) (z_ret2 h) dX11_word_98
      · replace h := z_if hc h
        refine z_iload_n C dX11_word_41 rfl 2 rfl ?_
        refine z_iconst C dX11_word_42 zci_1 ?_
        refine z_icmp_ne 55 C dX11_word_43 rfl (fun hc => ?_) (fun hc => ?_)
        · replace h := z_it hc h
          refine z_aload_n C dX11_word_46 rfl 0 rfl ?_
          refine z_getr C zf_X11_19 zo_M_5 dX11_word_47 ?_
          refine z_iload_n C dX11_word_50 rfl 1 rfl ?_
          obtain ⟨hi51, h⟩ := z_g_some h
          refine z_iald C za_M_4 (z_in_vp hi51) dX11_word_51 ?_
          refine z_goto 98 C dX11_word_52 rfl ?_
          exact z_iret C (z_ret1i h) (z_ret2 h) dX11_word_98
        · replace h := z_if hc h
          refine z_iload_n C dX11_word_55 rfl 2 rfl ?_
          refine z_iconst C dX11_word_56 zci_2 ?_
          refine z_icmp_ne 69 C dX11_word_57 rfl (fun hc => ?_) (fun hc => ?_)
          · replace h := z_it hc h
            refine z_aload_n C dX11_word_60 rfl 0 rfl ?_
            refine z_getr C zf_X11_13 zo_M_3 dX11_word_61 ?_
            refine z_iload_n C dX11_word_64 rfl 1 rfl ?_
            obtain ⟨hi65, h⟩ := z_g_some h
            refine z_iald C za_M_2 (z_in_vp hi65) dX11_word_65 ?_
            refine z_goto 98 C dX11_word_66 rfl ?_
            exact z_iret C (z_ret1i h) (z_ret2 h) dX11_word_98
          · replace h := z_if hc h
            refine z_iload_n C dX11_word_69 rfl 2 rfl ?_
            refine z_iconst C dX11_word_70 zci_3 ?_
            refine z_isub C dX11_word_71 ?_
            refine z_aload_n C dX11_word_72 rfl 0 rfl ?_
            refine z_getr C zf_X11_13 zo_M_3 dX11_word_73 ?_
            refine z_iload_n C dX11_word_76 rfl 1 rfl ?_
            obtain ⟨hi77, h⟩ := z_g_some h
            refine z_iald C za_M_2 (z_in_vp hi77) dX11_word_77 ?_
            refine z_icmp_ge 97 C dX11_word_78 rfl (fun hc => ?_) (fun hc => ?_)
            · replace h := z_it hc h
              refine z_iconst C dX11_word_97 zci_m1 ?_
              exact z_iret C (z_ret1i h) (z_ret2 h) dX11_word_98
            · replace h := z_if hc h
              refine z_aload_n C dX11_word_81 rfl 0 rfl ?_
              refine z_getr C zf_X11_7 zo_M_2 dX11_word_82 ?_
              refine z_bipush C dX11_word_85 zcb_8 ?_
              refine z_iload_n C dX11_word_87 rfl 1 rfl ?_
              refine z_imul C dX11_word_88 ?_
              refine z_iload_n C dX11_word_89 rfl 2 rfl ?_
              refine z_iadd C dX11_word_90 ?_
              refine z_iconst C dX11_word_91 zci_3 ?_
              refine z_isub C dX11_word_92 ?_
              obtain ⟨hi93, h⟩ := z_g_some h
              refine z_iald C za_M_1 (z_in_vp hi93) dX11_word_93 ?_
              refine z_goto 98 C dX11_word_94 rfl ?_
              exact z_iret C (z_ret1i h) (z_ret2 h) dX11_word_98
  · replace h := z_if hc h
    refine z_sipush C dX11_word_8 zcs_m1001 ?_
    exact z_iret C (z_ret1i h) (z_ret2 h) dX11_word_11
set_option maxRecDepth 100000 in
set_option maxHeartbeats 4000000 in
theorem wX11_one (ad : Nat → Nat) (v0 : Int32) (g : z_S) (r : Int32) (gE : z_S) (h : fX11_one v0 g = some (r, gE)) : z_M yX11_one cX11_one 1 (some .int) 0 0 layM nM ad [.int v0] g (some (.int r)) gE := by
  refine z_enter (by decide) (Nat.le_of_ble_eq_true rfl) (fun F C => ?_)
  replace C : z_X F layM nM ad cX11_one RX11 1 (some .int) 0 0 (some (.int r)) gE := C
  show z_W F layM nM ad 0 [(0, .int v0)] [] g
  unfold fX11_one at h
  refine z_iload_n C dX11_one_0 rfl 0 rfl ?_
  refine z_if_eq 8 C dX11_one_1 rfl (fun hc => ?_) (fun hc => ?_)
  · replace h := z_it hc h
    refine z_iconst C dX11_one_8 zci_0 ?_
    exact z_iret C (z_ret1i h) (z_ret2 h) dX11_one_9
  · replace h := z_if hc h
    refine z_iconst C dX11_one_4 zci_1 ?_
    refine z_goto 9 C dX11_one_5 rfl ?_
    exact z_iret C (z_ret1i h) (z_ret2 h) dX11_one_9
set_option maxRecDepth 100000 in
set_option maxHeartbeats 4000000 in
theorem wX11_follows (ad : Nat → Nat) (v1 : Int32) (v2 : Int32) (v3 : Int32) (g : z_S) (r : Int32) (gE : z_S) (h : fX11_follows v1 v2 v3 g = some (r, gE)) : z_M yX11_follows cX11_follows 5 (some .int) 1 25 layM nM ad [.ref (ad 0), .int v1, .int v2, .int v3] g (some (.int r)) gE := by
  refine z_enter (by decide) (Nat.le_of_ble_eq_true rfl) (fun F C => ?_)
  replace C : z_X F layM nM ad cX11_follows RX11 5 (some .int) 1 25 (some (.int r)) gE := C
  show z_W F layM nM ad 0 [(0, .ref (ad 0)), (1, .int v1), (2, .int v2), (3, .int v3)] [] g
  unfold fX11_follows at h
  refine z_iload_n C dX11_follows_0 rfl 1 rfl ?_
  refine z_i2l C dX11_follows_1 ?_
  refine z_lconst C dX11_follows_2 zcl_0 ?_
  refine z_ldc2 C dX11_follows_3 zl_X11_193 ?_
  obtain ⟨r6, g6, hq6, h⟩ := z_b_some h
  refine z_callSi [] C zc_X11_131 rfl (by decide) (Nat.le_of_ble_eq_true rfl) dX11_follows_6 rfl (wX11_in ad ((v1).toInt64) 0 3 g r6 g6 hq6) ?_
  refine z_if_eq 24 C dX11_follows_9 rfl (fun hc => ?_) (fun hc => ?_)
  · replace h := z_it hc h
    refine z_sipush C dX11_follows_24 zcs_m1002 ?_
    exact z_iret C (z_ret1i h) (z_ret2 h) dX11_follows_27
  · replace h := z_if hc h
    refine z_iload_n C dX11_follows_12 rfl 2 rfl ?_
    refine z_i2l C dX11_follows_13 ?_
    refine z_lconst C dX11_follows_14 zcl_0 ?_
    refine z_ldc2 C dX11_follows_15 zl_X11_193 ?_
    obtain ⟨r18, g18, hq18, h⟩ := z_b_some h
    refine z_callSi [] C zc_X11_131 rfl (by decide) (Nat.le_of_ble_eq_true rfl) dX11_follows_18 rfl (wX11_in ad ((v2).toInt64) 0 3 g6 r18 g18 hq18) ?_
    refine z_if_ne 28 C dX11_follows_21 rfl (fun hc => ?_) (fun hc => ?_)
    · replace h := z_it hc h
      refine z_sipush C dX11_follows_24 zcs_m1002 ?_
      exact z_iret C (z_ret1i h) (z_ret2 h) dX11_follows_27
    · replace h := z_if hc h
      refine z_aload_n C dX11_follows_28 rfl 0 rfl ?_
      refine z_getr C zf_X11_22 zo_M_6 dX11_follows_29 ?_
      refine z_iconst C dX11_follows_32 zci_4 ?_
      refine z_iload_n C dX11_follows_33 rfl 1 rfl ?_
      refine z_imul C dX11_follows_34 ?_
      refine z_iload_n C dX11_follows_35 rfl 2 rfl ?_
      refine z_iadd C dX11_follows_36 ?_
      obtain ⟨hi37, h⟩ := z_g_some h
      refine z_zald C za_M_5 (z_in_vp hi37) dX11_follows_37 ?_
      obtain ⟨r38, g38, hq38, h⟩ := z_b_some h
      refine z_callSi [] C zc_X11_195 rfl (by decide) (Nat.le_of_ble_eq_true rfl) dX11_follows_38 rfl (wX11_one ad (g18.1 5 ((4 * v1) + v2).toNatClampNeg) g18 r38 g38 hq38) ?_
      refine z_istore C dX11_follows_41 (by decide) [(4, .int r38), (0, .ref (ad 0)), (1, .int v1), (2, .int v2), (3, .int v3)] rfl ?_
      refine z_aload_n C dX11_follows_43 rfl 1 rfl ?_
      refine z_getr C zf_X11_22 zo_M_6 dX11_follows_44 ?_
      refine z_iconst C dX11_follows_47 zci_4 ?_
      refine z_iload_n C dX11_follows_48 rfl 2 rfl ?_
      refine z_imul C dX11_follows_49 ?_
      refine z_iload_n C dX11_follows_50 rfl 3 rfl ?_
      refine z_iadd C dX11_follows_51 ?_
      refine z_iload_n C dX11_follows_52 rfl 4 rfl ?_
      obtain ⟨hi53, h⟩ := z_g_some h
      obtain ⟨g53, eg53, h⟩ := z_s_some h
      refine z_zast C za_M_5 (z_in_vp hi53) dX11_follows_53 ?_
      refine z_gw eg53 ?_
      refine z_iload C dX11_follows_54 0 rfl ?_
      exact z_iret C (z_ret1i h) (z_ret2 h) dX11_follows_56
set_option maxRecDepth 100000 in
set_option maxHeartbeats 4000000 in
theorem wX11_count (ad : Nat → Nat) (v1 : Int32) (g : z_S) (r : Int32) (gE : z_S) (h : fX11_count v1 g = some (r, gE)) : z_M yX11_count cX11_count 2 (some .int) 0 0 layM nM ad [.ref (ad 0), .int v1] g (some (.int r)) gE := by
  refine z_enter (by decide) (Nat.le_of_ble_eq_true rfl) (fun F C => ?_)
  replace C : z_X F layM nM ad cX11_count RX11 2 (some .int) 0 0 (some (.int r)) gE := C
  show z_W F layM nM ad 0 [(0, .ref (ad 0)), (1, .int v1)] [] g
  unfold fX11_count at h
  refine z_iload_n C dX11_count_0 rfl 1 rfl ?_
  by_cases hc1_0 : v1 = 0
  · replace h := z_it hc1_0 h
    refine z_tabIn (off := 35) 0 36 C dX11_count_1 hc1_0 (by decide) (by decide) (by decide) rfl ?_
    refine z_aload_n C dX11_count_36 rfl 0 rfl ?_
    refine z_geti C zf_X11_124 zo_M_0 dX11_count_37 ?_
    exact z_iret C (z_ret1i h) (z_ret2 h) dX11_count_40
  replace h := z_if hc1_0 h
  by_cases hc1_1 : v1 = 1
  · replace h := z_it hc1_1 h
    refine z_tabIn (off := 40) 1 41 C dX11_count_1 hc1_1 (by decide) (by decide) (by decide) rfl ?_
    refine z_aload_n C dX11_count_41 rfl 0 rfl ?_
    refine z_geti C zf_X11_135 zo_M_1 dX11_count_42 ?_
    exact z_iret C (z_ret1i h) (z_ret2 h) dX11_count_45
  replace h := z_if hc1_1 h
  by_cases hc1_2 : v1 = 2
  · replace h := z_it hc1_2 h
    refine z_tabIn (off := 45) 2 46 C dX11_count_1 hc1_2 (by decide) (by decide) (by decide) rfl ?_
    refine z_aload_n C dX11_count_46 rfl 0 rfl ?_
    refine z_geti C zf_X11_141 zo_M_9 dX11_count_47 ?_
    exact z_iret C (z_ret1i h) (z_ret2 h) dX11_count_50
  replace h := z_if hc1_2 h
  by_cases hc1_3 : v1 = 3
  · replace h := z_it hc1_3 h
    refine z_tabIn (off := 50) 3 51 C dX11_count_1 hc1_3 (by decide) (by decide) (by decide) rfl ?_
    refine z_aload_n C dX11_count_51 rfl 0 rfl ?_
    refine z_geti C zf_X11_144 zo_M_14 dX11_count_52 ?_
    exact z_iret C (z_ret1i h) (z_ret2 h) dX11_count_55
  replace h := z_if hc1_3 h
  by_cases hc1_4 : v1 = 4
  · replace h := z_it hc1_4 h
    refine z_tabIn (off := 55) 4 56 C dX11_count_1 hc1_4 (by decide) (by decide) (by decide) rfl ?_
    refine z_aload_n C dX11_count_56 rfl 0 rfl ?_
    refine z_geti C zf_X11_138 zo_M_10 dX11_count_57 ?_
    exact z_iret C (z_ret1i h) (z_ret2 h) dX11_count_60
  replace h := z_if hc1_4 h
  refine z_tabOut 61 C dX11_count_1 (z_tabne [0, 1, 2, 3, 4] (by decide) (by decide) (List.forall_mem_cons.mpr ⟨hc1_0, List.forall_mem_cons.mpr ⟨hc1_1, List.forall_mem_cons.mpr ⟨hc1_2, List.forall_mem_cons.mpr ⟨hc1_3, List.forall_mem_cons.mpr ⟨hc1_4, List.forall_mem_nil _⟩⟩⟩⟩⟩)) rfl ?_
  refine z_sipush C dX11_count_61 zcs_m1002 ?_
  exact z_iret C (z_ret1i h) (z_ret2 h) dX11_count_64
set_option maxRecDepth 100000 in
set_option maxHeartbeats 4000000 in
theorem wX11_letter (ad : Nat → Nat) (v1 : Int32) (g : z_S) (r : Int32) (gE : z_S) (h : fX11_letter v1 g = some (r, gE)) : z_M yX11_letter cX11_letter 2 (some .int) 1 25 layM nM ad [.ref (ad 0), .int v1] g (some (.int r)) gE := by
  refine z_enter (by decide) (Nat.le_of_ble_eq_true rfl) (fun F C => ?_)
  replace C : z_X F layM nM ad cX11_letter RX11 2 (some .int) 1 25 (some (.int r)) gE := C
  show z_W F layM nM ad 0 [(0, .ref (ad 0)), (1, .int v1)] [] g
  unfold fX11_letter at h
  refine z_iload_n C dX11_letter_0 rfl 1 rfl ?_
  refine z_i2l C dX11_letter_1 ?_
  refine z_lconst C dX11_letter_2 zcl_0 ?_
  refine z_aload_n C dX11_letter_3 rfl 0 rfl ?_
  refine z_geti C zf_X11_124 zo_M_0 dX11_letter_4 ?_
  refine z_iconst C dX11_letter_7 zci_1 ?_
  refine z_isub C dX11_letter_8 ?_
  refine z_i2l C dX11_letter_9 ?_
  obtain ⟨r10, g10, hq10, h⟩ := z_b_some h
  refine z_callSi [] C zc_X11_131 rfl (by decide) (Nat.le_of_ble_eq_true rfl) dX11_letter_10 rfl (wX11_in ad ((v1).toInt64) 0 (((g.1 0 0) - 1).toInt64) g r10 g10 hq10) ?_
  refine z_if_ne 20 C dX11_letter_13 rfl (fun hc => ?_) (fun hc => ?_)
  · replace h := z_it hc h
    refine z_sipush C dX11_letter_16 zcs_m1002 ?_
    exact z_iret C (z_ret1i h) (z_ret2 h) dX11_letter_19
  · replace h := z_if hc h
    refine z_aload_n C dX11_letter_20 rfl 0 rfl ?_
    refine z_geti C zf_X11_141 zo_M_9 dX11_letter_21 ?_
    refine z_bipush C dX11_letter_24 zcb_48 ?_
    refine z_icmp_ne 33 C dX11_letter_26 rfl (fun hc => ?_) (fun hc => ?_)
    · replace h := z_it hc h
      refine z_sipush C dX11_letter_29 zcs_m1004 ?_
      exact z_iret C (z_ret1i h) (z_ret2 h) dX11_letter_32
    · replace h := z_if hc h
      refine z_aload_n C dX11_letter_33 rfl 0 rfl ?_
      refine z_getr C zf_X11_29 zo_M_8 dX11_letter_34 ?_
      refine z_aload_n C dX11_letter_37 rfl 0 rfl ?_
      refine z_geti C zf_X11_141 zo_M_9 dX11_letter_38 ?_
      refine z_iload_n C dX11_letter_41 rfl 1 rfl ?_
      obtain ⟨hi42, h⟩ := z_g_some h
      obtain ⟨g42, eg42, h⟩ := z_s_some h
      refine z_iast C za_M_7 (z_in_vp hi42) dX11_letter_42 ?_
      refine z_gw eg42 ?_
      refine z_aload_n C dX11_letter_43 rfl 0 rfl ?_
      refine z_dup C dX11_letter_44 rfl ?_
      refine z_geti C zf_X11_141 zo_M_9 dX11_letter_45 ?_
      refine z_iconst C dX11_letter_48 zci_1 ?_
      refine z_iadd C dX11_letter_49 ?_
      obtain ⟨g50, eg50, h⟩ := z_s_some h
      refine z_puti C zp_X11_141 zo_M_9 rfl rfl dX11_letter_50 ?_
      refine z_gw eg50 ?_
      refine z_aload_n C dX11_letter_53 rfl 0 rfl ?_
      refine z_geti C zf_X11_141 zo_M_9 dX11_letter_54 ?_
      exact z_iret C (z_ret1i h) (z_ret2 h) dX11_letter_57
set_option maxRecDepth 100000 in
set_option maxHeartbeats 4000000 in
theorem wX11_append_L34 {F : z_F} {ad : Nat → Nat} {r : Int32} {gE : z_S} (C : z_X F layM nM ad cX11_append RX11 3 (some .int) 2 46 (some (.int r)) gE) : ∀ (n : Nat) (v1 : Int32) (v2 : Int32) (g : z_S), z_loop fX11_append_B34 n (v1, v2) g = some (r, gE) → z_W F layM nM ad 34 [(0, .ref (ad 0)), (1, .int v1), (2, .int v2)] [] g := by
  intro n
  induction n with
  | zero =>
    intro v1 v2 g h
    exact (z_loop_0 h).elim
  | succ n ih =>
    intro v1 v2 g h
    replace h := z_loop_S h
    simp only [fX11_append_B34] at h
    refine z_iload_n C dX11_append_34 rfl 2 rfl ?_
    refine z_aload_n C dX11_append_35 rfl 0 rfl ?_
    refine z_getr C zf_X11_13 zo_M_3 dX11_append_36 ?_
    refine z_iload_n C dX11_append_39 rfl 1 rfl ?_
    obtain ⟨hi40, h⟩ := z_g_some h
    refine z_iald C za_M_2 (z_in_vp hi40) dX11_append_40 ?_
    refine z_icmp_ge 80 C dX11_append_41 rfl (fun hc => ?_) (fun hc => ?_)
    · replace h := z_it hc h
      refine z_aload_n C dX11_append_80 rfl 0 rfl ?_
      refine z_geti C zf_X11_141 zo_M_9 dX11_append_81 ?_
      exact z_iret C (z_ret1i h) (z_ret2 h) dX11_append_84
    · replace h := z_if hc h
      refine z_aload_n C dX11_append_44 rfl 0 rfl ?_
      refine z_getr C zf_X11_29 zo_M_8 dX11_append_45 ?_
      refine z_aload_n C dX11_append_48 rfl 0 rfl ?_
      refine z_geti C zf_X11_141 zo_M_9 dX11_append_49 ?_
      refine z_aload_n C dX11_append_52 rfl 0 rfl ?_
      refine z_getr C zf_X11_7 zo_M_2 dX11_append_53 ?_
      refine z_bipush C dX11_append_56 zcb_8 ?_
      refine z_iload_n C dX11_append_58 rfl 1 rfl ?_
      refine z_imul C dX11_append_59 ?_
      refine z_iload_n C dX11_append_60 rfl 2 rfl ?_
      refine z_iadd C dX11_append_61 ?_
      obtain ⟨hi62, h⟩ := z_g_some h
      refine z_iald C za_M_1 (z_in_vp hi62) dX11_append_62 ?_
      obtain ⟨hi63, h⟩ := z_g_some h
      obtain ⟨g63, eg63, h⟩ := z_s_some h
      refine z_iast C za_M_7 (z_in_vp hi63) dX11_append_63 ?_
      refine z_gw eg63 ?_
      refine z_aload_n C dX11_append_64 rfl 0 rfl ?_
      refine z_dup C dX11_append_65 rfl ?_
      refine z_geti C zf_X11_141 zo_M_9 dX11_append_66 ?_
      refine z_iconst C dX11_append_69 zci_1 ?_
      refine z_iadd C dX11_append_70 ?_
      obtain ⟨g71, eg71, h⟩ := z_s_some h
      refine z_puti C zp_X11_141 zo_M_9 rfl rfl dX11_append_71 ?_
      refine z_gw eg71 ?_
      refine z_iinc C dX11_append_74 (by decide) 2 rfl (z_incl zci_1) [(2, .int (v2 + 1)), (0, .ref (ad 0)), (1, .int v1)] rfl ?_
      refine z_goto 34 C dX11_append_77 rfl ?_
      refine z_loc [1, 2, 0] rfl ?_
      exact ih v1 (v2 + 1) g71 h
set_option maxRecDepth 100000 in
set_option maxHeartbeats 4000000 in
theorem wX11_append (ad : Nat → Nat) (v1 : Int32) (g : z_S) (r : Int32) (gE : z_S) (h : fX11_append v1 g = some (r, gE)) : z_M yX11_append cX11_append 3 (some .int) 2 46 layM nM ad [.ref (ad 0), .int v1] g (some (.int r)) gE := by
  refine z_enter (by decide) (Nat.le_of_ble_eq_true rfl) (fun F C => ?_)
  replace C : z_X F layM nM ad cX11_append RX11 3 (some .int) 2 46 (some (.int r)) gE := C
  show z_W F layM nM ad 0 [(0, .ref (ad 0)), (1, .int v1)] [] g
  unfold fX11_append at h
  refine z_aload_n C dX11_append_0 rfl 0 rfl ?_
  refine z_iload_n C dX11_append_1 rfl 1 rfl ?_
  obtain ⟨r2, g2, hq2, h⟩ := z_b_some h
  refine z_callVi [] C zc_X11_188 zk_M rfl (by decide) (Nat.le_of_ble_eq_true rfl) dX11_append_2 rfl (wX11_noWord ad v1 g r2 g2 hq2) ?_
  refine z_if_eq 12 C dX11_append_5 rfl (fun hc => ?_) (fun hc => ?_)
  · replace h := z_it hc h
    refine z_aload_n C dX11_append_12 rfl 0 rfl ?_
    refine z_geti C zf_X11_141 zo_M_9 dX11_append_13 ?_
    refine z_aload_n C dX11_append_16 rfl 0 rfl ?_
    refine z_getr C zf_X11_13 zo_M_3 dX11_append_17 ?_
    refine z_iload_n C dX11_append_20 rfl 1 rfl ?_
    obtain ⟨hi21, h⟩ := z_g_some h
    refine z_iald C za_M_2 (z_in_vp hi21) dX11_append_21 ?_
    refine z_iadd C dX11_append_22 ?_
    refine z_bipush C dX11_append_23 zcb_48 ?_
    refine z_icmp_le 32 C dX11_append_25 rfl (fun hc => ?_) (fun hc => ?_)
    · replace h := z_it hc h
      refine z_iconst C dX11_append_32 zci_0 ?_
      refine z_istore_n C dX11_append_33 rfl (by decide) [(2, .int 0), (0, .ref (ad 0)), (1, .int v1)] rfl ?_
      refine z_loc [1, 2, 0] rfl ?_
      refine wX11_append_L34 C  zN v1 0 g2 h
    · replace h := z_if hc h
      refine z_sipush C dX11_append_28 zcs_m1004 ?_
      exact z_iret C (z_ret1i h) (z_ret2 h) dX11_append_31
  · replace h := z_if hc h
    refine z_sipush C dX11_append_8 zcs_m1001 ?_
    exact z_iret C (z_ret1i h) (z_ret2 h) dX11_append_11
set_option maxRecDepth 100000 in
set_option maxHeartbeats 4000000 in
theorem wX11_clear (ad : Nat → Nat) (g : z_S) (r : Int32) (gE : z_S) (h : fX11_clear g = some (r, gE)) : z_M yX11_clear cX11_clear 2 (some .int) 0 0 layM nM ad [.ref (ad 0)] g (some (.int r)) gE := by
  refine z_enter (by decide) (Nat.le_of_ble_eq_true rfl) (fun F C => ?_)
  replace C : z_X F layM nM ad cX11_clear RX11 2 (some .int) 0 0 (some (.int r)) gE := C
  show z_W F layM nM ad 0 [(0, .ref (ad 0))] [] g
  unfold fX11_clear at h
  refine z_aload_n C dX11_clear_0 rfl 0 rfl ?_
  refine z_geti C zf_X11_141 zo_M_9 dX11_clear_1 ?_
  refine z_istore_n C dX11_clear_4 rfl (by decide) [(1, .int (g.1 0 9)), (0, .ref (ad 0))] rfl ?_
  refine z_aload_n C dX11_clear_5 rfl 1 rfl ?_
  refine z_iconst C dX11_clear_6 zci_0 ?_
  obtain ⟨g7, eg7, h⟩ := z_s_some h
  refine z_puti C zp_X11_141 zo_M_9 rfl rfl dX11_clear_7 ?_
  refine z_gw eg7 ?_
  refine z_iload_n C dX11_clear_10 rfl 0 rfl ?_
  exact z_iret C (z_ret1i h) (z_ret2 h) dX11_clear_11
set_option maxRecDepth 100000 in
set_option maxHeartbeats 4000000 in
theorem wX11_cell (ad : Nat → Nat) (v0 : Int32) (v1 : Int32) (g : z_S) (r : Int32) (gE : z_S) (h : fX11_cell v0 v1 g = some (r, gE)) : z_M yX11_cell cX11_cell 2 (some .int) 0 0 layM nM ad [.int v0, .int v1] g (some (.int r)) gE := by
  refine z_enter (by decide) (Nat.le_of_ble_eq_true rfl) (fun F C => ?_)
  replace C : z_X F layM nM ad cX11_cell RX11 2 (some .int) 0 0 (some (.int r)) gE := C
  show z_W F layM nM ad 0 [(0, .int v0), (1, .int v1)] [] g
  unfold fX11_cell at h
  refine z_iconst C dX11_cell_0 zci_5 ?_
  refine z_iload_n C dX11_cell_1 rfl 0 rfl ?_
  refine z_imul C dX11_cell_2 ?_
  refine z_iload_n C dX11_cell_3 rfl 1 rfl ?_
  refine z_iadd C dX11_cell_4 ?_
  exact z_iret C (z_ret1i h) (z_ret2 h) dX11_cell_5
set_option maxRecDepth 100000 in
set_option maxHeartbeats 4000000 in
theorem wX11_beginCell_J51 {F : z_F} {ad : Nat → Nat} {gE : z_S} (C : z_X F layM nM ad cX11_beginCell RX11 3 none 1 20 none gE) (v1 : Int32) (v2 : Int32) (s0 : Int32) (s1 : Int32) (g : z_S) (h : fX11_beginCell_J51 v1 v2 s0 s1 g = some ((), gE)) : z_W F layM nM ad 51 [(0, .ref (ad 0)), (1, .int v1), (2, .int v2)] [.int s0, .int s1, .ref (ad 18)] g := by
  unfold fX11_beginCell_J51 at h
  obtain ⟨hi51, h⟩ := z_g_some h
  obtain ⟨g51, eg51, h⟩ := z_s_some h
  refine z_iast C za_M_18 (z_in_vp hi51) dX11_beginCell_51 ?_
  refine z_gw eg51 ?_
  refine z_aload_n C dX11_beginCell_52 rfl 0 rfl ?_
  refine z_getr C zf_X11_70 zo_M_27 dX11_beginCell_53 ?_
  refine z_iload_n C dX11_beginCell_56 rfl 1 rfl ?_
  refine z_iload_n C dX11_beginCell_57 rfl 2 rfl ?_
  refine z_if_eq 65 C dX11_beginCell_58 rfl (fun hc => ?_) (fun hc => ?_)
  · replace h := z_it hc h
    refine z_iconst C dX11_beginCell_65 zci_m1 ?_
    obtain ⟨hi66, h⟩ := z_g_some h
    obtain ⟨g66, eg66, h⟩ := z_s_some h
    refine z_iast C za_M_19 (z_in_vp hi66) dX11_beginCell_66 ?_
    refine z_gw eg66 ?_
    exact z_vret C rfl (z_ret2 h) dX11_beginCell_67
  · replace h := z_if hc h
    refine z_iconst C dX11_beginCell_61 zci_0 ?_
    refine z_goto 66 C dX11_beginCell_62 rfl ?_
    obtain ⟨hi66, h⟩ := z_g_some h
    obtain ⟨g66, eg66, h⟩ := z_s_some h
    refine z_iast C za_M_19 (z_in_vp hi66) dX11_beginCell_66 ?_
    refine z_gw eg66 ?_
    exact z_vret C rfl (z_ret2 h) dX11_beginCell_67
set_option maxRecDepth 100000 in
set_option maxHeartbeats 4000000 in
theorem wX11_beginCell_J25 {F : z_F} {ad : Nat → Nat} {gE : z_S} (C : z_X F layM nM ad cX11_beginCell RX11 3 none 1 20 none gE) (v1 : Int32) (v2 : Int32) (s0 : Int32) (s1 : Int32) (g : z_S) (h : fX11_beginCell_J25 v1 v2 s0 s1 g = some ((), gE)) : z_W F layM nM ad 25 [(0, .ref (ad 0)), (1, .int v1), (2, .int v2)] [.int s0, .int s1, .ref (ad 16)] g := by
  unfold fX11_beginCell_J25 at h
  obtain ⟨hi25, h⟩ := z_g_some h
  obtain ⟨g25, eg25, h⟩ := z_s_some h
  refine z_iast C za_M_16 (z_in_vp hi25) dX11_beginCell_25 ?_
  refine z_gw eg25 ?_
  refine z_aload_n C dX11_beginCell_26 rfl 0 rfl ?_
  refine z_getr C zf_X11_64 zo_M_25 dX11_beginCell_27 ?_
  refine z_iload_n C dX11_beginCell_30 rfl 1 rfl ?_
  refine z_iload_n C dX11_beginCell_31 rfl 2 rfl ?_
  obtain ⟨r32, g32, hq32, h⟩ := z_b_some h
  refine z_callSi [.int v1, .ref (ad 17)] C zc_X11_195 rfl (by decide) (Nat.le_of_ble_eq_true rfl) dX11_beginCell_32 rfl (wX11_one ad v2 g25 r32 g32 hq32) ?_
  refine z_i2l C dX11_beginCell_35 ?_
  obtain ⟨hi36, h⟩ := z_g_some h
  obtain ⟨g36, eg36, h⟩ := z_s_some h
  refine z_last C za_M_17 (z_in_vp hi36) dX11_beginCell_36 ?_
  refine z_gw eg36 ?_
  refine z_aload_n C dX11_beginCell_37 rfl 0 rfl ?_
  refine z_getr C zf_X11_67 zo_M_26 dX11_beginCell_38 ?_
  refine z_iload_n C dX11_beginCell_41 rfl 1 rfl ?_
  refine z_iload_n C dX11_beginCell_42 rfl 2 rfl ?_
  refine z_if_eq 50 C dX11_beginCell_43 rfl (fun hc => ?_) (fun hc => ?_)
  · replace h := z_it hc h
    refine z_iconst C dX11_beginCell_50 zci_m1 ?_
    exact wX11_beginCell_J51 C v1 v2 (-1) v1 g36 h
  · replace h := z_if hc h
    refine z_iconst C dX11_beginCell_46 zci_0 ?_
    refine z_goto 51 C dX11_beginCell_47 rfl ?_
    exact wX11_beginCell_J51 C v1 v2 0 v1 g36 h
set_option maxRecDepth 100000 in
set_option maxHeartbeats 4000000 in
theorem wX11_beginCell (ad : Nat → Nat) (v1 : Int32) (v2 : Int32) (g : z_S) (gE : z_S) (h : fX11_beginCell v1 v2 g = some ((), gE)) : z_M yX11_beginCell cX11_beginCell 3 none 1 20 layM nM ad [.ref (ad 0), .int v1, .int v2] g none gE := by
  refine z_enter (by decide) (Nat.le_of_ble_eq_true rfl) (fun F C => ?_)
  replace C : z_X F layM nM ad cX11_beginCell RX11 3 none 1 20 none gE := C
  show z_W F layM nM ad 0 [(0, .ref (ad 0)), (1, .int v1), (2, .int v2)] [] g
  unfold fX11_beginCell at h
  refine z_aload_n C dX11_beginCell_0 rfl 0 rfl ?_
  refine z_getr C zf_X11_57 zo_M_23 dX11_beginCell_1 ?_
  refine z_iload_n C dX11_beginCell_4 rfl 1 rfl ?_
  refine z_iload_n C dX11_beginCell_5 rfl 2 rfl ?_
  obtain ⟨r6, g6, hq6, h⟩ := z_b_some h
  refine z_callSi [.int v1, .ref (ad 15)] C zc_X11_195 rfl (by decide) (Nat.le_of_ble_eq_true rfl) dX11_beginCell_6 rfl (wX11_one ad v2 g r6 g6 hq6) ?_
  refine z_i2l C dX11_beginCell_9 ?_
  obtain ⟨hi10, h⟩ := z_g_some h
  obtain ⟨g10, eg10, h⟩ := z_s_some h
  refine z_last C za_M_15 (z_in_vp hi10) dX11_beginCell_10 ?_
  refine z_gw eg10 ?_
  refine z_aload_n C dX11_beginCell_11 rfl 0 rfl ?_
  refine z_getr C zf_X11_61 zo_M_24 dX11_beginCell_12 ?_
  refine z_iload_n C dX11_beginCell_15 rfl 1 rfl ?_
  refine z_iload_n C dX11_beginCell_16 rfl 2 rfl ?_
  refine z_if_eq 24 C dX11_beginCell_17 rfl (fun hc => ?_) (fun hc => ?_)
  · replace h := z_it hc h
    refine z_iconst C dX11_beginCell_24 zci_m1 ?_
    exact wX11_beginCell_J25 C v1 v2 (-1) v1 g10 h
  · replace h := z_if hc h
    refine z_iconst C dX11_beginCell_20 zci_0 ?_
    refine z_goto 25 C dX11_beginCell_21 rfl ?_
    exact wX11_beginCell_J25 C v1 v2 0 v1 g10 h
set_option maxRecDepth 100000 in
set_option maxHeartbeats 4000000 in
theorem wX11_mayFollow (ad : Nat → Nat) (v1 : Int32) (v2 : Int32) (g : z_S) (r : Int32) (gE : z_S) (h : fX11_mayFollow v1 v2 g = some (r, gE)) : z_M yX11_mayFollow cX11_mayFollow 3 (some .boolean) 0 0 layM nM ad [.ref (ad 0), .int v1, .int v2] g (some (.int r)) gE := by
  refine z_enter (by decide) (Nat.le_of_ble_eq_true rfl) (fun F C => ?_)
  replace C : z_X F layM nM ad cX11_mayFollow RX11 3 (some .boolean) 0 0 (some (.int r)) gE := C
  show z_W F layM nM ad 0 [(0, .ref (ad 0)), (1, .int v1), (2, .int v2)] [] g
  unfold fX11_mayFollow at h
  refine z_iload_n C dX11_mayFollow_0 rfl 1 rfl ?_
  refine z_iconst C dX11_mayFollow_1 zci_4 ?_
  refine z_icmp_eq 23 C dX11_mayFollow_2 rfl (fun hc => ?_) (fun hc => ?_)
  · replace h := z_it hc h
    refine z_iconst C dX11_mayFollow_23 zci_1 ?_
    refine z_goto 28 C dX11_mayFollow_24 rfl ?_
    exact z_zret C (by decide) (z_ret1i h) (z_ret2 h) dX11_mayFollow_28
  · replace h := z_if hc h
    refine z_aload_n C dX11_mayFollow_5 rfl 0 rfl ?_
    refine z_getr C zf_X11_22 zo_M_6 dX11_mayFollow_6 ?_
    refine z_iconst C dX11_mayFollow_9 zci_4 ?_
    refine z_iload_n C dX11_mayFollow_10 rfl 1 rfl ?_
    refine z_imul C dX11_mayFollow_11 ?_
    refine z_aload_n C dX11_mayFollow_12 rfl 0 rfl ?_
    refine z_getr C zf_X11_19 zo_M_5 dX11_mayFollow_13 ?_
    refine z_iload_n C dX11_mayFollow_16 rfl 2 rfl ?_
    obtain ⟨hi17, h⟩ := z_g_some h
    refine z_iald C za_M_4 (z_in_vp hi17) dX11_mayFollow_17 ?_
    refine z_iadd C dX11_mayFollow_18 ?_
    obtain ⟨hi19, h⟩ := z_g_some h
    refine z_zald C za_M_5 (z_in_vp hi19) dX11_mayFollow_19 ?_
    refine z_if_eq 27 C dX11_mayFollow_20 rfl (fun hc => ?_) (fun hc => ?_)
    · replace h := z_it hc h
      refine z_iconst C dX11_mayFollow_27 zci_0 ?_
      exact z_zret C (by decide) (z_ret1i h) (z_ret2 h) dX11_mayFollow_28
    · replace h := z_if hc h
      refine z_iconst C dX11_mayFollow_23 zci_1 ?_
      refine z_goto 28 C dX11_mayFollow_24 rfl ?_
      exact z_zret C (by decide) (z_ret1i h) (z_ret2 h) dX11_mayFollow_28
set_option maxRecDepth 100000 in
set_option maxHeartbeats 4000000 in
theorem wX11_stands_L24 {F : z_F} {ad : Nat → Nat} {r : Int32} {gE : z_S} (C : z_X F layM nM ad cX11_stands RX11 5 (some .boolean) 0 0 (some (.int r)) gE) : ∀ (n : Nat) (v1 : Int32) (v2 : Int32) (v3 : Int32) (v4 : Int32) (g : z_S), z_loop fX11_stands_B24 n (v1, v2, v3, v4) g = some (r, gE) → z_W F layM nM ad 24 [(0, .ref (ad 0)), (1, .int v1), (2, .int v2), (3, .int v3), (4, .int v4)] [] g := by
  intro n
  induction n with
  | zero =>
    intro v1 v2 v3 v4 g h
    exact (z_loop_0 h).elim
  | succ n ih =>
    intro v1 v2 v3 v4 g h
    replace h := z_loop_S h
    simp only [fX11_stands_B24] at h
    refine z_iload C dX11_stands_24 4 rfl ?_
    refine z_aload_n C dX11_stands_26 rfl 0 rfl ?_
    refine z_getr C zf_X11_13 zo_M_3 dX11_stands_27 ?_
    refine z_iload_n C dX11_stands_30 rfl 1 rfl ?_
    obtain ⟨hi31, h⟩ := z_g_some h
    refine z_iald C za_M_2 (z_in_vp hi31) dX11_stands_31 ?_
    refine z_icmp_ge 75 C dX11_stands_32 rfl (fun hc => ?_) (fun hc => ?_)
    · replace h := z_it hc h
      refine z_iload_n C dX11_stands_75 rfl 3 rfl ?_
      obtain ⟨hz, h⟩ := z_g_some h
      exact z_zret C (eq_of_beq hz) (z_ret1i h) (z_ret2 h) dX11_stands_76
    · replace h := z_if hc h
      refine z_iload_n C dX11_stands_35 rfl 3 rfl ?_
      refine z_if_eq 75 C dX11_stands_36 rfl (fun hc => ?_) (fun hc => ?_)
      · replace h := z_it hc h
        refine z_iload_n C dX11_stands_75 rfl 3 rfl ?_
        obtain ⟨hz, h⟩ := z_g_some h
        exact z_zret C (eq_of_beq hz) (z_ret1i h) (z_ret2 h) dX11_stands_76
      · replace h := z_if hc h
        refine z_aload_n C dX11_stands_39 rfl 0 rfl ?_
        refine z_getr C zf_X11_29 zo_M_8 dX11_stands_40 ?_
        refine z_iload_n C dX11_stands_43 rfl 2 rfl ?_
        refine z_iload C dX11_stands_44 4 rfl ?_
        refine z_iadd C dX11_stands_46 ?_
        obtain ⟨hi47, h⟩ := z_g_some h
        refine z_iald C za_M_7 (z_in_vp hi47) dX11_stands_47 ?_
        refine z_aload_n C dX11_stands_48 rfl 0 rfl ?_
        refine z_getr C zf_X11_7 zo_M_2 dX11_stands_49 ?_
        refine z_bipush C dX11_stands_52 zcb_8 ?_
        refine z_iload_n C dX11_stands_54 rfl 1 rfl ?_
        refine z_imul C dX11_stands_55 ?_
        refine z_iload C dX11_stands_56 4 rfl ?_
        refine z_iadd C dX11_stands_58 ?_
        obtain ⟨hi59, h⟩ := z_g_some h
        refine z_iald C za_M_1 (z_in_vp hi59) dX11_stands_59 ?_
        refine z_icmp_ne 67 C dX11_stands_60 rfl (fun hc => ?_) (fun hc => ?_)
        · replace h := z_it hc h
          refine z_iconst C dX11_stands_63 zci_1 ?_
          refine z_goto 68 C dX11_stands_64 rfl ?_
          refine z_istore_n C dX11_stands_68 rfl (by decide) [(3, .int 1), (0, .ref (ad 0)), (1, .int v1), (2, .int v2), (4, .int v4)] rfl ?_
          refine z_iinc C dX11_stands_69 (by decide) 4 rfl (z_incl zci_1) [(4, .int (v4 + 1)), (3, .int 1), (0, .ref (ad 0)), (1, .int v1), (2, .int v2)] rfl ?_
          refine z_goto 24 C dX11_stands_72 rfl ?_
          refine z_loc [2, 3, 4, 1, 0] rfl ?_
          exact ih v1 v2 1 (v4 + 1) g h
        · replace h := z_if hc h
          refine z_iconst C dX11_stands_67 zci_0 ?_
          refine z_istore_n C dX11_stands_68 rfl (by decide) [(3, .int 0), (0, .ref (ad 0)), (1, .int v1), (2, .int v2), (4, .int v4)] rfl ?_
          refine z_iinc C dX11_stands_69 (by decide) 4 rfl (z_incl zci_1) [(4, .int (v4 + 1)), (3, .int 0), (0, .ref (ad 0)), (1, .int v1), (2, .int v2)] rfl ?_
          refine z_goto 24 C dX11_stands_72 rfl ?_
          refine z_loc [2, 3, 4, 1, 0] rfl ?_
          exact ih v1 v2 0 (v4 + 1) g h
set_option maxRecDepth 100000 in
set_option maxHeartbeats 4000000 in
theorem wX11_stands (ad : Nat → Nat) (v1 : Int32) (v2 : Int32) (g : z_S) (r : Int32) (gE : z_S) (h : fX11_stands v1 v2 g = some (r, gE)) : z_M yX11_stands cX11_stands 5 (some .boolean) 0 0 layM nM ad [.ref (ad 0), .int v1, .int v2] g (some (.int r)) gE := by
  refine z_enter (by decide) (Nat.le_of_ble_eq_true rfl) (fun F C => ?_)
  replace C : z_X F layM nM ad cX11_stands RX11 5 (some .boolean) 0 0 (some (.int r)) gE := C
  show z_W F layM nM ad 0 [(0, .ref (ad 0)), (1, .int v1), (2, .int v2)] [] g
  unfold fX11_stands at h
  refine z_iload_n C dX11_stands_0 rfl 2 rfl ?_
  refine z_aload_n C dX11_stands_1 rfl 0 rfl ?_
  refine z_getr C zf_X11_13 zo_M_3 dX11_stands_2 ?_
  refine z_iload_n C dX11_stands_5 rfl 1 rfl ?_
  obtain ⟨hi6, h⟩ := z_g_some h
  refine z_iald C za_M_2 (z_in_vp hi6) dX11_stands_6 ?_
  refine z_iadd C dX11_stands_7 ?_
  refine z_aload_n C dX11_stands_8 rfl 0 rfl ?_
  refine z_geti C zf_X11_141 zo_M_9 dX11_stands_9 ?_
  refine z_icmp_gt 19 C dX11_stands_12 rfl (fun hc => ?_) (fun hc => ?_)
  · replace h := z_it hc h
    refine z_iconst C dX11_stands_19 zci_0 ?_
    refine z_istore_n C dX11_stands_20 rfl (by decide) [(3, .int 0), (0, .ref (ad 0)), (1, .int v1), (2, .int v2)] rfl ?_
    refine z_iconst C dX11_stands_21 zci_0 ?_
    refine z_istore C dX11_stands_22 (by decide) [(4, .int 0), (3, .int 0), (0, .ref (ad 0)), (1, .int v1), (2, .int v2)] rfl ?_
    refine z_loc [2, 3, 4, 1, 0] rfl ?_
    refine wX11_stands_L24 C  zN v1 v2 0 0 g h
  · replace h := z_if hc h
    refine z_iconst C dX11_stands_15 zci_1 ?_
    refine z_goto 20 C dX11_stands_16 rfl ?_
    refine z_istore_n C dX11_stands_20 rfl (by decide) [(3, .int 1), (0, .ref (ad 0)), (1, .int v1), (2, .int v2)] rfl ?_
    refine z_iconst C dX11_stands_21 zci_0 ?_
    refine z_istore C dX11_stands_22 (by decide) [(4, .int 0), (3, .int 1), (0, .ref (ad 0)), (1, .int v1), (2, .int v2)] rfl ?_
    refine z_loc [2, 3, 4, 1, 0] rfl ?_
    refine wX11_stands_L24 C  zN v1 v2 1 0 g h
set_option maxRecDepth 100000 in
set_option maxHeartbeats 4000000 in
theorem wX11_addWord_J196 {F : z_F} {ad : Nat → Nat} {gE : z_S} (C : z_X F layM nM ad cX11_addWord RX11 7 none 0 0 none gE) (v1 : Int32) (v3 : Int32) (s0 : Int32) (s1 : Int32) (g : z_S) (h : fX11_addWord_J196 v1 v3 s0 s1 g = some ((), gE)) : z_W F layM nM ad 196 [(0, .ref (ad 0)), (1, .int v1), (3, .int v3)] [.int s0, .int s1, .ref (ad 18)] g := by
  unfold fX11_addWord_J196 at h
  obtain ⟨hi196, h⟩ := z_g_some h
  obtain ⟨g196, eg196, h⟩ := z_s_some h
  refine z_iast C za_M_18 (z_in_vp hi196) dX11_addWord_196 ?_
  refine z_gw eg196 ?_
  refine z_aload_n C dX11_addWord_197 rfl 0 rfl ?_
  refine z_getr C zf_X11_70 zo_M_27 dX11_addWord_198 ?_
  refine z_iload_n C dX11_addWord_201 rfl 1 rfl ?_
  refine z_aload_n C dX11_addWord_202 rfl 0 rfl ?_
  refine z_getr C zf_X11_70 zo_M_27 dX11_addWord_203 ?_
  refine z_iload_n C dX11_addWord_206 rfl 2 rfl ?_
  obtain ⟨hi207, h⟩ := z_g_some h
  refine z_iald C za_M_19 (z_in_vp hi207) dX11_addWord_207 ?_
  refine z_iconst C dX11_addWord_208 zci_1 ?_
  refine z_iadd C dX11_addWord_209 ?_
  refine z_aload_n C dX11_addWord_210 rfl 0 rfl ?_
  refine z_getr C zf_X11_70 zo_M_27 dX11_addWord_211 ?_
  refine z_iload_n C dX11_addWord_214 rfl 1 rfl ?_
  obtain ⟨hi215, h⟩ := z_g_some h
  refine z_iald C za_M_19 (z_in_vp hi215) dX11_addWord_215 ?_
  refine z_icmp_le 230 C dX11_addWord_216 rfl (fun hc => ?_) (fun hc => ?_)
  · replace h := z_it hc h
    refine z_aload_n C dX11_addWord_230 rfl 0 rfl ?_
    refine z_getr C zf_X11_70 zo_M_27 dX11_addWord_231 ?_
    refine z_iload_n C dX11_addWord_234 rfl 1 rfl ?_
    obtain ⟨hi235, h⟩ := z_g_some h
    refine z_iald C za_M_19 (z_in_vp hi235) dX11_addWord_235 ?_
    obtain ⟨hi236, h⟩ := z_g_some h
    obtain ⟨g236, eg236, h⟩ := z_s_some h
    refine z_iast C za_M_19 (z_in_vp hi236) dX11_addWord_236 ?_
    refine z_gw eg236 ?_
    exact z_vret C rfl (z_ret2 h) dX11_addWord_237
  · replace h := z_if hc h
    refine z_aload_n C dX11_addWord_219 rfl 0 rfl ?_
    refine z_getr C zf_X11_70 zo_M_27 dX11_addWord_220 ?_
    refine z_iload_n C dX11_addWord_223 rfl 2 rfl ?_
    obtain ⟨hi224, h⟩ := z_g_some h
    refine z_iald C za_M_19 (z_in_vp hi224) dX11_addWord_224 ?_
    refine z_iconst C dX11_addWord_225 zci_1 ?_
    refine z_iadd C dX11_addWord_226 ?_
    refine z_goto 236 C dX11_addWord_227 rfl ?_
    obtain ⟨hi236, h⟩ := z_g_some h
    obtain ⟨g236, eg236, h⟩ := z_s_some h
    refine z_iast C za_M_19 (z_in_vp hi236) dX11_addWord_236 ?_
    refine z_gw eg236 ?_
    exact z_vret C rfl (z_ret2 h) dX11_addWord_237
set_option maxRecDepth 100000 in
set_option maxHeartbeats 4000000 in
theorem wX11_addWord_J179 {F : z_F} {ad : Nat → Nat} {gE : z_S} (C : z_X F layM nM ad cX11_addWord RX11 7 none 0 0 none gE) (v1 : Int32) (v3 : Int32) (s0 : Int32) (g : z_S) (h : fX11_addWord_J179 v1 v3 s0 g = some ((), gE)) : z_W F layM nM ad 179 [(0, .ref (ad 0)), (1, .int v1), (3, .int v3)] [.int s0, .ref (ad 18)] g := by
  unfold fX11_addWord_J179 at h
  refine z_aload_n C dX11_addWord_179 rfl 0 rfl ?_
  refine z_getr C zf_X11_67 zo_M_26 dX11_addWord_180 ?_
  refine z_iload_n C dX11_addWord_183 rfl 2 rfl ?_
  obtain ⟨hi184, h⟩ := z_g_some h
  refine z_iald C za_M_18 (z_in_vp hi184) dX11_addWord_184 ?_
  refine z_iconst C dX11_addWord_185 zci_1 ?_
  refine z_iadd C dX11_addWord_186 ?_
  refine z_goto 196 C dX11_addWord_187 rfl ?_
  exact wX11_addWord_J196 C v1 v3 ((g.1 18 (v3).toNatClampNeg) + 1) s0 g h
set_option maxRecDepth 100000 in
set_option maxHeartbeats 4000000 in
theorem wX11_addWord_J148 {F : z_F} {ad : Nat → Nat} {gE : z_S} (C : z_X F layM nM ad cX11_addWord RX11 7 none 0 0 none gE) (v1 : Int32) (v3 : Int32) (g : z_S) (h : fX11_addWord_J148 v1 v3 g = some ((), gE)) : z_W F layM nM ad 148 [(0, .ref (ad 0)), (1, .int v1), (3, .int v3)] [] g := by
  unfold fX11_addWord_J148 at h
  refine z_aload_n C dX11_addWord_148 rfl 0 rfl ?_
  refine z_getr C zf_X11_67 zo_M_26 dX11_addWord_149 ?_
  refine z_iload_n C dX11_addWord_152 rfl 1 rfl ?_
  refine z_aload_n C dX11_addWord_153 rfl 0 rfl ?_
  refine z_getr C zf_X11_67 zo_M_26 dX11_addWord_154 ?_
  refine z_iload_n C dX11_addWord_157 rfl 1 rfl ?_
  obtain ⟨hi158, h⟩ := z_g_some h
  refine z_iald C za_M_18 (z_in_vp hi158) dX11_addWord_158 ?_
  refine z_if_lt 179 C dX11_addWord_159 rfl (fun hc => ?_) (fun hc => ?_)
  · replace h := z_it hc h
    exact wX11_addWord_J179 C v1 v3 v1 g h
  · replace h := z_if hc h
    refine z_aload_n C dX11_addWord_162 rfl 0 rfl ?_
    refine z_getr C zf_X11_67 zo_M_26 dX11_addWord_163 ?_
    refine z_iload_n C dX11_addWord_166 rfl 2 rfl ?_
    obtain ⟨hi167, h⟩ := z_g_some h
    refine z_iald C za_M_18 (z_in_vp hi167) dX11_addWord_167 ?_
    refine z_iconst C dX11_addWord_168 zci_1 ?_
    refine z_iadd C dX11_addWord_169 ?_
    refine z_aload_n C dX11_addWord_170 rfl 0 rfl ?_
    refine z_getr C zf_X11_67 zo_M_26 dX11_addWord_171 ?_
    refine z_iload_n C dX11_addWord_174 rfl 1 rfl ?_
    obtain ⟨hi175, h⟩ := z_g_some h
    refine z_iald C za_M_18 (z_in_vp hi175) dX11_addWord_175 ?_
    refine z_icmp_ge 190 C dX11_addWord_176 rfl (fun hc => ?_) (fun hc => ?_)
    · replace h := z_it hc h
      refine z_aload_n C dX11_addWord_190 rfl 0 rfl ?_
      refine z_getr C zf_X11_67 zo_M_26 dX11_addWord_191 ?_
      refine z_iload_n C dX11_addWord_194 rfl 1 rfl ?_
      obtain ⟨hi195, h⟩ := z_g_some h
      refine z_iald C za_M_18 (z_in_vp hi195) dX11_addWord_195 ?_
      exact wX11_addWord_J196 C v1 v3 (g.1 18 (v1).toNatClampNeg) v1 g h
    · replace h := z_if hc h
      exact wX11_addWord_J179 C v1 v3 v1 g h
set_option maxRecDepth 100000 in
set_option maxHeartbeats 4000000 in
theorem wX11_addWord_J99 {F : z_F} {ad : Nat → Nat} {gE : z_S} (C : z_X F layM nM ad cX11_addWord RX11 7 none 0 0 none gE) (v1 : Int32) (v3 : Int32) (v6 : Int32) (g : z_S) (h : fX11_addWord_J99 v1 v3 v6 g = some ((), gE)) : z_W F layM nM ad 99 [(0, .ref (ad 0)), (1, .int v1), (3, .int v3), (6, .int v6)] [] g := by
  unfold fX11_addWord_J99 at h
  refine z_iload C dX11_addWord_99 3 rfl ?_
  refine z_aload_n C dX11_addWord_101 rfl 0 rfl ?_
  refine z_getr C zf_X11_61 zo_M_24 dX11_addWord_102 ?_
  refine z_iload_n C dX11_addWord_105 rfl 1 rfl ?_
  obtain ⟨hi106, h⟩ := z_g_some h
  refine z_iald C za_M_16 (z_in_vp hi106) dX11_addWord_106 ?_
  refine z_icmp_ne 148 C dX11_addWord_107 rfl (fun hc => ?_) (fun hc => ?_)
  · replace h := z_it hc h
    refine z_aload_n C dX11_addWord_110 rfl 0 rfl ?_
    refine z_getr C zf_X11_64 zo_M_25 dX11_addWord_111 ?_
    refine z_iload_n C dX11_addWord_114 rfl 1 rfl ?_
    obtain ⟨hi115, h⟩ := z_g_some h
    refine z_lald C za_M_17 (z_in_vp hi115) dX11_addWord_115 ?_
    refine z_aload_n C dX11_addWord_116 rfl 0 rfl ?_
    refine z_getr C zf_X11_64 zo_M_25 dX11_addWord_117 ?_
    refine z_iload_n C dX11_addWord_120 rfl 2 rfl ?_
    obtain ⟨hi121, h⟩ := z_g_some h
    refine z_lald C za_M_17 (z_in_vp hi121) dX11_addWord_121 ?_
    refine z_ladd C dX11_addWord_122 ?_
    refine z_lstore C dX11_addWord_123 (by decide) [(4, .long ((g.2 17 (v1).toNatClampNeg) + (g.2 17 (v3).toNatClampNeg))), (0, .ref (ad 0)), (1, .int v1), (3, .int v3), (6, .int v6)] rfl ?_
    refine z_aload_n C dX11_addWord_125 rfl 1 rfl ?_
    refine z_getr C zf_X11_64 zo_M_25 dX11_addWord_126 ?_
    refine z_iload_n C dX11_addWord_129 rfl 2 rfl ?_
    refine z_lload C dX11_addWord_130 0 rfl ?_
    refine z_ldc2 C dX11_addWord_132 zl_X11_199 ?_
    refine z_lcmp_le 145 C dX11_addWord_135 dX11_addWord_136 rfl (fun hc => ?_) (fun hc => ?_)
    · replace h := z_it hc h
      refine z_lload C dX11_addWord_145 0 rfl ?_
      obtain ⟨hi147, h⟩ := z_g_some h
      obtain ⟨g147, eg147, h⟩ := z_s_some h
      refine z_last C za_M_17 (z_in_vp hi147) dX11_addWord_147 ?_
      refine z_gw eg147 ?_
      refine z_loc [1, 2, 3] rfl ?_
      exact wX11_addWord_J148 C v1 v3 g147 h
    · replace h := z_if hc h
      refine z_ldc2 C dX11_addWord_139 zl_X11_199 ?_
      refine z_goto 147 C dX11_addWord_142 rfl ?_
      obtain ⟨hi147, h⟩ := z_g_some h
      obtain ⟨g147, eg147, h⟩ := z_s_some h
      refine z_last C za_M_17 (z_in_vp hi147) dX11_addWord_147 ?_
      refine z_gw eg147 ?_
      refine z_loc [1, 2, 3] rfl ?_
      exact wX11_addWord_J148 C v1 v3 g147 h
  · replace h := z_if hc h
    refine z_loc [0, 1, 2] rfl ?_
    exact wX11_addWord_J148 C v1 v3 g h
set_option maxRecDepth 100000 in
set_option maxHeartbeats 4000000 in
theorem wX11_addWord_J84 {F : z_F} {ad : Nat → Nat} {gE : z_S} (C : z_X F layM nM ad cX11_addWord RX11 7 none 0 0 none gE) (v1 : Int32) (v3 : Int32) (v6 : Int32) (g : z_S) (h : fX11_addWord_J84 v1 v3 v6 g = some ((), gE)) : z_W F layM nM ad 84 [(0, .ref (ad 0)), (1, .int v1), (3, .int v3), (6, .int v6)] [] g := by
  unfold fX11_addWord_J84 at h
  refine z_aload_n C dX11_addWord_84 rfl 0 rfl ?_
  refine z_getr C zf_X11_61 zo_M_24 dX11_addWord_85 ?_
  refine z_iload_n C dX11_addWord_88 rfl 1 rfl ?_
  refine z_iload C dX11_addWord_89 3 rfl ?_
  obtain ⟨hi91, h⟩ := z_g_some h
  obtain ⟨g91, eg91, h⟩ := z_s_some h
  refine z_iast C za_M_16 (z_in_vp hi91) dX11_addWord_91 ?_
  refine z_gw eg91 ?_
  refine z_aload_n C dX11_addWord_92 rfl 0 rfl ?_
  refine z_getr C zf_X11_64 zo_M_25 dX11_addWord_93 ?_
  refine z_iload_n C dX11_addWord_96 rfl 1 rfl ?_
  refine z_lconst C dX11_addWord_97 zcl_0 ?_
  obtain ⟨hi98, h⟩ := z_g_some h
  obtain ⟨g98, eg98, h⟩ := z_s_some h
  refine z_last C za_M_17 (z_in_vp hi98) dX11_addWord_98 ?_
  refine z_gw eg98 ?_
  exact wX11_addWord_J99 C v1 v3 v6 g98 h
set_option maxRecDepth 100000 in
set_option maxHeartbeats 4000000 in
theorem wX11_addWord_J48 {F : z_F} {ad : Nat → Nat} {gE : z_S} (C : z_X F layM nM ad cX11_addWord RX11 7 none 0 0 none gE) (v1 : Int32) (v2 : Int32) (v3 : Int32) (s0 : Int64) (s1 : Int32) (g : z_S) (h : fX11_addWord_J48 v1 v2 v3 s0 s1 g = some ((), gE)) : z_W F layM nM ad 48 [(0, .ref (ad 0)), (1, .int v1), (2, .int v2), (3, .int v3)] [.long s0, .int s1, .ref (ad 15)] g := by
  unfold fX11_addWord_J48 at h
  obtain ⟨hi48, h⟩ := z_g_some h
  obtain ⟨g48, eg48, h⟩ := z_s_some h
  refine z_last C za_M_15 (z_in_vp hi48) dX11_addWord_48 ?_
  refine z_gw eg48 ?_
  refine z_aload_n C dX11_addWord_49 rfl 0 rfl ?_
  refine z_getr C zf_X11_16 zo_M_4 dX11_addWord_50 ?_
  refine z_iload_n C dX11_addWord_53 rfl 2 rfl ?_
  obtain ⟨hi54, h⟩ := z_g_some h
  refine z_iald C za_M_3 (z_in_vp hi54) dX11_addWord_54 ?_
  refine z_aload_n C dX11_addWord_55 rfl 0 rfl ?_
  refine z_getr C zf_X11_61 zo_M_24 dX11_addWord_56 ?_
  refine z_iload_n C dX11_addWord_59 rfl 3 rfl ?_
  obtain ⟨hi60, h⟩ := z_g_some h
  refine z_iald C za_M_16 (z_in_vp hi60) dX11_addWord_60 ?_
  refine z_iadd C dX11_addWord_61 ?_
  refine z_istore C dX11_addWord_62 (by decide) [(6, .int ((g48.1 3 (v2).toNatClampNeg) + (g48.1 16 (v3).toNatClampNeg))), (0, .ref (ad 0)), (1, .int v1), (2, .int v2), (3, .int v3)] rfl ?_
  refine z_aload_n C dX11_addWord_64 rfl 1 rfl ?_
  refine z_getr C zf_X11_61 zo_M_24 dX11_addWord_65 ?_
  refine z_iload_n C dX11_addWord_68 rfl 2 rfl ?_
  obtain ⟨hi69, h⟩ := z_g_some h
  refine z_iald C za_M_16 (z_in_vp hi69) dX11_addWord_69 ?_
  refine z_if_lt 84 C dX11_addWord_70 rfl (fun hc => ?_) (fun hc => ?_)
  · replace h := z_it hc h
    refine z_loc [1, 2, 4, 0] rfl ?_
    exact wX11_addWord_J84 C v1 v3 ((g48.1 3 (v2).toNatClampNeg) + (g48.1 16 (v3).toNatClampNeg)) g48 h
  · replace h := z_if hc h
    refine z_iload C dX11_addWord_73 0 rfl ?_
    refine z_aload_n C dX11_addWord_75 rfl 1 rfl ?_
    refine z_getr C zf_X11_61 zo_M_24 dX11_addWord_76 ?_
    refine z_iload_n C dX11_addWord_79 rfl 2 rfl ?_
    obtain ⟨hi80, h⟩ := z_g_some h
    refine z_iald C za_M_16 (z_in_vp hi80) dX11_addWord_80 ?_
    refine z_icmp_ge 99 C dX11_addWord_81 rfl (fun hc => ?_) (fun hc => ?_)
    · replace h := z_it hc h
      refine z_loc [1, 2, 4, 0] rfl ?_
      exact wX11_addWord_J99 C v1 v3 ((g48.1 3 (v2).toNatClampNeg) + (g48.1 16 (v3).toNatClampNeg)) g48 h
    · replace h := z_if hc h
      refine z_loc [1, 2, 4, 0] rfl ?_
      exact wX11_addWord_J84 C v1 v3 ((g48.1 3 (v2).toNatClampNeg) + (g48.1 16 (v3).toNatClampNeg)) g48 h
set_option maxRecDepth 100000 in
set_option maxHeartbeats 4000000 in
theorem wX11_addWord (ad : Nat → Nat) (v1 : Int32) (v2 : Int32) (v3 : Int32) (g : z_S) (gE : z_S) (h : fX11_addWord v1 v2 v3 g = some ((), gE)) : z_M yX11_addWord cX11_addWord 7 none 0 0 layM nM ad [.ref (ad 0), .int v1, .int v2, .int v3] g none gE := by
  refine z_enter (by decide) (Nat.le_of_ble_eq_true rfl) (fun F C => ?_)
  replace C : z_X F layM nM ad cX11_addWord RX11 7 none 0 0 none gE := C
  show z_W F layM nM ad 0 [(0, .ref (ad 0)), (1, .int v1), (2, .int v2), (3, .int v3)] [] g
  unfold fX11_addWord at h
  refine z_aload_n C dX11_addWord_0 rfl 0 rfl ?_
  refine z_getr C zf_X11_57 zo_M_23 dX11_addWord_1 ?_
  refine z_iload_n C dX11_addWord_4 rfl 3 rfl ?_
  obtain ⟨hi5, h⟩ := z_g_some h
  refine z_lald C za_M_15 (z_in_vp hi5) dX11_addWord_5 ?_
  refine z_lconst C dX11_addWord_6 zcl_0 ?_
  refine z_lcmp_le 237 C dX11_addWord_7 dX11_addWord_8 rfl (fun hc => ?_) (fun hc => ?_)
  · replace h := z_it hc h
    exact z_vret C rfl (z_ret2 h) dX11_addWord_237
  · replace h := z_if hc h
    refine z_aload_n C dX11_addWord_11 rfl 0 rfl ?_
    refine z_getr C zf_X11_57 zo_M_23 dX11_addWord_12 ?_
    refine z_iload_n C dX11_addWord_15 rfl 1 rfl ?_
    obtain ⟨hi16, h⟩ := z_g_some h
    refine z_lald C za_M_15 (z_in_vp hi16) dX11_addWord_16 ?_
    refine z_aload_n C dX11_addWord_17 rfl 0 rfl ?_
    refine z_getr C zf_X11_57 zo_M_23 dX11_addWord_18 ?_
    refine z_iload_n C dX11_addWord_21 rfl 3 rfl ?_
    obtain ⟨hi22, h⟩ := z_g_some h
    refine z_lald C za_M_15 (z_in_vp hi22) dX11_addWord_22 ?_
    refine z_ladd C dX11_addWord_23 ?_
    refine z_lstore C dX11_addWord_24 (by decide) [(4, .long ((g.2 15 (v1).toNatClampNeg) + (g.2 15 (v3).toNatClampNeg))), (0, .ref (ad 0)), (1, .int v1), (2, .int v2), (3, .int v3)] rfl ?_
    refine z_aload_n C dX11_addWord_26 rfl 1 rfl ?_
    refine z_getr C zf_X11_57 zo_M_23 dX11_addWord_27 ?_
    refine z_iload_n C dX11_addWord_30 rfl 2 rfl ?_
    refine z_lload C dX11_addWord_31 0 rfl ?_
    refine z_ldc2 C dX11_addWord_33 zl_X11_199 ?_
    refine z_lcmp_le 46 C dX11_addWord_36 dX11_addWord_37 rfl (fun hc => ?_) (fun hc => ?_)
    · replace h := z_it hc h
      refine z_lload C dX11_addWord_46 0 rfl ?_
      refine z_loc [1, 2, 3, 4] rfl ?_
      exact wX11_addWord_J48 C v1 v2 v3 ((g.2 15 (v1).toNatClampNeg) + (g.2 15 (v3).toNatClampNeg)) v1 g h
    · replace h := z_if hc h
      refine z_ldc2 C dX11_addWord_40 zl_X11_199 ?_
      refine z_goto 48 C dX11_addWord_43 rfl ?_
      refine z_loc [1, 2, 3, 4] rfl ?_
      exact wX11_addWord_J48 C v1 v2 v3 2000000000000000 v1 g h

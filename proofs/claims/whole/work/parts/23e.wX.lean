set_option maxRecDepth 100000 in
set_option maxHeartbeats 4000000 in
theorem wX2_seekNew_L30 {kn : Bool} {F : z_F} {ad : Nat → Nat} {gE : z_S} (C : z_X F (layX kn) (nX kn) ad cX2_seekNew RX2 4 none 4 95 none gE) (k55 : z_S → Option (Unit × z_S)) (hk55 : ∀ (g : z_S), k55 g = some ((), gE) → z_W F (layX kn) (nX kn) ad 55 [(0, .ref (ad 26))] [] g) : ∀ (n : Nat) (v2 : Int32) (g : z_S), z_loop (fX2_seekNew_B30 k55) n v2 g = some ((), gE) → z_W F (layX kn) (nX kn) ad 30 [(0, .ref (ad 26)), (2, .int v2)] [] g := by
  intro n
  induction n with
  | zero =>
    intro v2 g h
    exact (z_loop_0 h).elim
  | succ n ih =>
    intro v2 g h
    replace h := z_loop_S h
    simp only [fX2_seekNew_B30] at h
    refine z_iload_n C dX2_seekNew_30 rfl 1 rfl ?_
    refine z_aload_n C dX2_seekNew_31 rfl 0 rfl ?_
    refine z_geti C zf_X2_51 (zo_X_26_0 kn) dX2_seekNew_32 ?_
    refine z_icmp_ge 55 C dX2_seekNew_35 rfl (fun hc => ?_) (fun hc => ?_)
    · replace h := z_it hc h
      refine z_loc [0] rfl ?_
      exact hk55 g h
    · replace h := z_if hc h
      refine z_aload_n C dX2_seekNew_38 rfl 0 rfl ?_
      refine z_getr C zf_X2_37 (zo_X_26_13 kn) dX2_seekNew_39 ?_
      refine z_iload_n C dX2_seekNew_42 rfl 1 rfl ?_
      refine z_aload_n C dX2_seekNew_43 rfl 0 rfl ?_
      refine z_iload_n C dX2_seekNew_44 rfl 1 rfl ?_
      obtain ⟨r45, g45, hq45, h⟩ := z_b_some h
      refine z_callVi [.int v2, .ref (ad 33)] C zc_X2_67 (zk_X_26 kn) rfl (by decide) (Nat.le_of_ble_eq_true rfl) dX2_seekNew_45 rfl (wX2_measure kn ad v2 g r45 g45 hq45) ?_
      obtain ⟨hi48, h⟩ := z_g_some h
      obtain ⟨g48, eg48, h⟩ := z_s_some h
      refine z_iast C (za_X_33 kn) (z_in_vp hi48) dX2_seekNew_48 ?_
      refine z_gw eg48 ?_
      refine z_iinc C dX2_seekNew_49 (by decide) 1 rfl (z_incl zci_1) [(2, .int (v2 + 1)), (0, .ref (ad 26))] rfl ?_
      refine z_goto 30 C dX2_seekNew_52 rfl ?_
      refine z_loc [1, 0] rfl ?_
      exact ih (v2 + 1) g48 h
set_option maxRecDepth 100000 in
set_option maxHeartbeats 4000000 in
theorem wX2_seekNew_L73 {kn : Bool} {F : z_F} {ad : Nat → Nat} {gE : z_S} (C : z_X F (layX kn) (nX kn) ad cX2_seekNew RX2 4 none 4 95 none gE) (k95 : Int32 → z_S → Option (Unit × z_S)) (hk95 : ∀ (v2 : Int32) (g : z_S), k95 v2 g = some ((), gE) → z_W F (layX kn) (nX kn) ad 95 [(0, .ref (ad 26)), (2, .int v2)] [] g) : ∀ (n : Nat) (v2 : Int32) (v3 : Int32) (g : z_S), z_loop (fX2_seekNew_B73 k95) n (v2, v3) g = some ((), gE) → z_W F (layX kn) (nX kn) ad 73 [(0, .ref (ad 26)), (2, .int v2), (3, .int v3)] [] g := by
  intro n
  induction n with
  | zero =>
    intro v2 v3 g h
    exact (z_loop_0 h).elim
  | succ n ih =>
    intro v2 v3 g h
    replace h := z_loop_S h
    simp only [fX2_seekNew_B73] at h
    refine z_iload_n C dX2_seekNew_73 rfl 2 rfl ?_
    refine z_aload_n C dX2_seekNew_74 rfl 0 rfl ?_
    refine z_geti C zf_X2_51 (zo_X_26_0 kn) dX2_seekNew_75 ?_
    refine z_bipush C dX2_seekNew_78 zcb_24 ?_
    refine z_imul C dX2_seekNew_80 ?_
    refine z_icmp_ge 95 C dX2_seekNew_81 rfl (fun hc => ?_) (fun hc => ?_)
    · replace h := z_it hc h
      refine z_loc [0, 1] rfl ?_
      exact hk95 v2 g h
    · replace h := z_if hc h
      refine z_aload_n C dX2_seekNew_84 rfl 0 rfl ?_
      refine z_iload_n C dX2_seekNew_85 rfl 2 rfl ?_
      obtain ⟨r86, g86, hq86, h⟩ := z_b_some h
      refine z_callVv [] C zc_X2_132 (zk_X_26 kn) rfl (by decide) (Nat.le_of_ble_eq_true rfl) dX2_seekNew_86 rfl (wX2_tryNew kn ad v3 g g86 hq86) ?_
      refine z_iinc C dX2_seekNew_89 (by decide) 2 rfl (z_incl zci_1) [(3, .int (v3 + 1)), (0, .ref (ad 26)), (2, .int v2)] rfl ?_
      refine z_goto 73 C dX2_seekNew_92 rfl ?_
      refine z_loc [1, 2, 0] rfl ?_
      exact ih v2 (v3 + 1) g86 h
set_option maxRecDepth 100000 in
set_option maxHeartbeats 4000000 in
theorem wX2_seekNew_L57 {kn : Bool} {F : z_F} {ad : Nat → Nat} {gE : z_S} (C : z_X F (layX kn) (nX kn) ad cX2_seekNew RX2 4 none 4 95 none gE) : ∀ (n : Nat) (v2 : Int32) (g : z_S), z_loop fX2_seekNew_B57 n v2 g = some ((), gE) → z_W F (layX kn) (nX kn) ad 57 [(0, .ref (ad 26)), (2, .int v2)] [] g := by
  intro n
  induction n with
  | zero =>
    intro v2 g h
    exact (z_loop_0 h).elim
  | succ n ih =>
    intro v2 g h
    replace h := z_loop_S h
    simp only [fX2_seekNew_B57] at h
    refine z_iload_n C dX2_seekNew_57 rfl 1 rfl ?_
    refine z_iconst C dX2_seekNew_58 zci_5 ?_
    refine z_icmp_gt 101 C dX2_seekNew_59 rfl (fun hc => ?_) (fun hc => ?_)
    · replace h := z_it hc h
      exact z_vret C rfl (z_ret2 h) dX2_seekNew_101
    · replace h := z_if hc h
      refine z_aload_n C dX2_seekNew_62 rfl 0 rfl ?_
      refine z_iload_n C dX2_seekNew_63 rfl 1 rfl ?_
      obtain ⟨g64, eg64, h⟩ := z_s_some h
      refine z_puti C zp_X2_92 (zo_X_26_14 kn) rfl rfl dX2_seekNew_64 ?_
      refine z_gw eg64 ?_
      refine z_aload_n C dX2_seekNew_67 rfl 0 rfl ?_
      obtain ⟨r68, g68, hq68, h⟩ := z_b_some h
      refine z_callVv [] C zc_X2_129 (zk_X_26 kn) rfl (by decide) (Nat.le_of_ble_eq_true rfl) dX2_seekNew_68 rfl (wX2_encode kn ad g64 g68 hq68) ?_
      refine z_iconst C dX2_seekNew_71 zci_0 ?_
      refine z_istore_n C dX2_seekNew_72 rfl (by decide) [(3, .int 0), (0, .ref (ad 26)), (2, .int v2)] rfl ?_
      refine z_loc [1, 2, 0] rfl ?_
      refine wX2_seekNew_L73 C _ ?_ zN v2 0 g68 h
      · intro v2 g h
        refine z_iinc C dX2_seekNew_95 (by decide) 1 rfl (z_incl zci_1) [(2, .int (v2 + 1)), (0, .ref (ad 26))] rfl ?_
        refine z_goto 57 C dX2_seekNew_98 rfl ?_
        refine z_loc [1, 0] rfl ?_
        exact ih (v2 + 1) g h
set_option maxRecDepth 100000 in
set_option maxHeartbeats 4000000 in
theorem wX2_seekNew (kn : Bool) (ad : Nat → Nat) (v1 : Int32) (g : z_S) (gE : z_S) (h : fX2_seekNew v1 g = some ((), gE)) : z_M yX2_seekNew cX2_seekNew 4 none 4 95 (layX kn) (nX kn) ad [.ref (ad 26), .int v1] g none gE := by
  refine z_enter (by decide) (Nat.le_of_ble_eq_true rfl) (fun F C => ?_)
  replace C : z_X F (layX kn) (nX kn) ad cX2_seekNew RX2 4 none 4 95 none gE := C
  show z_W F (layX kn) (nX kn) ad 0 [(0, .ref (ad 26)), (1, .int v1)] [] g
  unfold fX2_seekNew at h
  refine z_aload_n C dX2_seekNew_0 rfl 0 rfl ?_
  refine z_geti C zf_X2_15 (zo_X_26_3 kn) dX2_seekNew_1 ?_
  refine z_iload_n C dX2_seekNew_4 rfl 1 rfl ?_
  refine z_icmp_ne 9 C dX2_seekNew_5 rfl (fun hc => ?_) (fun hc => ?_)
  · replace h := z_it hc h
    exact z_vret C rfl (z_ret2 h) dX2_seekNew_8
  · replace h := z_if hc h
    refine z_aload_n C dX2_seekNew_9 rfl 0 rfl ?_
    refine z_iload_n C dX2_seekNew_10 rfl 1 rfl ?_
    obtain ⟨g11, eg11, h⟩ := z_s_some h
    refine z_puti C zp_X2_15 (zo_X_26_3 kn) rfl rfl dX2_seekNew_11 ?_
    refine z_gw eg11 ?_
    refine z_aload_n C dX2_seekNew_14 rfl 0 rfl ?_
    refine z_iconst C dX2_seekNew_15 zci_0 ?_
    obtain ⟨g16, eg16, h⟩ := z_s_some h
    refine z_puti C zp_X2_120 (zo_X_26_4 kn) rfl rfl dX2_seekNew_16 ?_
    refine z_gw eg16 ?_
    refine z_aload_n C dX2_seekNew_19 rfl 0 rfl ?_
    refine z_iconst C dX2_seekNew_20 zci_0 ?_
    obtain ⟨g21, eg21, h⟩ := z_s_some h
    refine z_puti C zp_X2_123 (zo_X_26_5 kn) rfl rfl dX2_seekNew_21 ?_
    refine z_gw eg21 ?_
    refine z_aload_n C dX2_seekNew_24 rfl 0 rfl ?_
    obtain ⟨r25, g25, hq25, h⟩ := z_b_some h
    refine z_callVv [] C zc_X2_126 (zk_X_26 kn) rfl (by decide) (Nat.le_of_ble_eq_true rfl) dX2_seekNew_25 rfl (wX2_match kn ad g21 g25 hq25) ?_
    refine z_iconst C dX2_seekNew_28 zci_0 ?_
    refine z_istore_n C dX2_seekNew_29 rfl (by decide) [(2, .int 0), (0, .ref (ad 26)), (1, .int v1)] rfl ?_
    refine z_loc [1, 0] rfl ?_
    refine wX2_seekNew_L30 C _ ?_ zN 0 g25 h
    · intro g h
      refine z_iconst C dX2_seekNew_55 zci_2 ?_
      refine z_istore_n C dX2_seekNew_56 rfl (by decide) [(2, .int 2), (0, .ref (ad 26))] rfl ?_
      refine z_loc [1, 0] rfl ?_
      refine wX2_seekNew_L57 C  zN 2 g h
set_option maxRecDepth 100000 in
set_option maxHeartbeats 4000000 in
theorem wX10_letterOfCode_L4 {kn : Bool} {F : z_F} {ad : Nat → Nat} {r : Int32} {gE : z_S} (C : z_X F (layX kn) (nX kn) ad cX10_letterOfCode RX10 4 (some .int) 0 0 (some (.int r)) gE) (k20 : Int32 → z_S → Option (Int32 × z_S)) (hk20 : ∀ (v2 : Int32) (g : z_S), k20 v2 g = some (r, gE) → z_W F (layX kn) (nX kn) ad 20 [(2, .int v2)] [] g) : ∀ (n : Nat) (v1 : Int32) (v2 : Int32) (v3 : Int32) (g : z_S), z_loop (fX10_letterOfCode_B4 k20) n (v1, v2, v3) g = some (r, gE) → z_W F (layX kn) (nX kn) ad 4 [(1, .int v1), (2, .int v2), (3, .int v3)] [] g := by
  intro n
  induction n with
  | zero =>
    intro v1 v2 v3 g h
    exact (z_loop_0 h).elim
  | succ n ih =>
    intro v1 v2 v3 g h
    replace h := z_loop_S h
    simp only [fX10_letterOfCode_B4] at h
    refine z_iload_n C dX10_letterOfCode_4 rfl 2 rfl ?_
    refine z_iload_n C dX10_letterOfCode_5 rfl 0 rfl ?_
    refine z_icmp_le 20 C dX10_letterOfCode_6 rfl (fun hc => ?_) (fun hc => ?_)
    · replace h := z_it hc h
      refine z_loc [1] rfl ?_
      exact hk20 v2 g h
    · replace h := z_if hc h
      refine z_iload_n C dX10_letterOfCode_9 rfl 1 rfl ?_
      refine z_bipush C dX10_letterOfCode_10 zcb_9 ?_
      refine z_idiv C dX10_letterOfCode_12 (by decide) ?_
      refine z_istore_n C dX10_letterOfCode_13 rfl (by decide) [(2, .int (v2 / 9)), (1, .int v1), (3, .int v3)] rfl ?_
      refine z_iinc C dX10_letterOfCode_14 (by decide) 2 rfl (z_incl zci_m1) [(3, .int (v3 + (-1))), (2, .int (v2 / 9)), (1, .int v1)] rfl ?_
      refine z_goto 4 C dX10_letterOfCode_17 rfl ?_
      refine z_loc [2, 1, 0] rfl ?_
      exact ih v1 (v2 / 9) (v3 + (-1)) g h
set_option maxRecDepth 100000 in
set_option maxHeartbeats 4000000 in
theorem wX10_letterOfCode (kn : Bool) (ad : Nat → Nat) (v0 : Int32) (v1 : Int32) (g : z_S) (r : Int32) (gE : z_S) (h : fX10_letterOfCode v0 v1 g = some (r, gE)) : z_M yX10_letterOfCode cX10_letterOfCode 4 (some .int) 0 0 (layX kn) (nX kn) ad [.int v0, .int v1] g (some (.int r)) gE := by
  refine z_enter (by decide) (Nat.le_of_ble_eq_true rfl) (fun F C => ?_)
  replace C : z_X F (layX kn) (nX kn) ad cX10_letterOfCode RX10 4 (some .int) 0 0 (some (.int r)) gE := C
  show z_W F (layX kn) (nX kn) ad 0 [(0, .int v0), (1, .int v1)] [] g
  unfold fX10_letterOfCode at h
  refine z_iload_n C dX10_letterOfCode_0 rfl 0 rfl ?_
  refine z_istore_n C dX10_letterOfCode_1 rfl (by decide) [(2, .int v0), (0, .int v0), (1, .int v1)] rfl ?_
  refine z_iconst C dX10_letterOfCode_2 zci_4 ?_
  refine z_istore_n C dX10_letterOfCode_3 rfl (by decide) [(3, .int 4), (2, .int v0), (0, .int v0), (1, .int v1)] rfl ?_
  refine z_loc [3, 1, 0] rfl ?_
  refine wX10_letterOfCode_L4 C _ ?_ zN v1 v0 4 g h
  · intro v2 g h
    refine z_iload_n C dX10_letterOfCode_20 rfl 0 rfl ?_
    refine z_bipush C dX10_letterOfCode_21 zcb_9 ?_
    refine z_irem C dX10_letterOfCode_23 (by decide) ?_
    refine z_iconst C dX10_letterOfCode_24 zci_1 ?_
    refine z_isub C dX10_letterOfCode_25 ?_
    exact z_iret C (z_ret1i h) (z_ret2 h) dX10_letterOfCode_26
set_option maxRecDepth 100000 in
set_option maxHeartbeats 4000000 in
theorem wX10_lengthOfCode_L4 {kn : Bool} {F : z_F} {ad : Nat → Nat} {r : Int32} {gE : z_S} (C : z_X F (layX kn) (nX kn) ad cX10_lengthOfCode RX10 3 (some .int) 1 23 (some (.int r)) gE) : ∀ (n : Nat) (v0 : Int32) (v1 : Int32) (v2 : Int32) (g : z_S), z_loop fX10_lengthOfCode_B4 n (v0, v1, v2) g = some (r, gE) → z_W F (layX kn) (nX kn) ad 4 [(0, .int v0), (1, .int v1), (2, .int v2)] [] g := by
  intro n
  induction n with
  | zero =>
    intro v0 v1 v2 g h
    exact (z_loop_0 h).elim
  | succ n ih =>
    intro v0 v1 v2 g h
    replace h := z_loop_S h
    simp only [fX10_lengthOfCode_B4] at h
    refine z_iload_n C dX10_lengthOfCode_4 rfl 2 rfl ?_
    refine z_iconst C dX10_lengthOfCode_5 zci_5 ?_
    refine z_icmp_ge 27 C dX10_lengthOfCode_6 rfl (fun hc => ?_) (fun hc => ?_)
    · replace h := z_it hc h
      refine z_iload_n C dX10_lengthOfCode_27 rfl 1 rfl ?_
      exact z_iret C (z_ret1i h) (z_ret2 h) dX10_lengthOfCode_28
    · replace h := z_if hc h
      refine z_iload_n C dX10_lengthOfCode_9 rfl 0 rfl ?_
      refine z_iload_n C dX10_lengthOfCode_10 rfl 2 rfl ?_
      obtain ⟨r11, g11, hq11, h⟩ := z_b_some h
      refine z_callSi [] C zc_X10_234 rfl (by decide) (Nat.le_of_ble_eq_true rfl) dX10_lengthOfCode_11 rfl (wX10_letterOfCode kn ad v0 v2 g r11 g11 hq11) ?_
      refine z_iconst C dX10_lengthOfCode_14 zci_m1 ?_
      refine z_icmp_eq 21 C dX10_lengthOfCode_15 rfl (fun hc => ?_) (fun hc => ?_)
      · replace h := z_it hc h
        refine z_iinc C dX10_lengthOfCode_21 (by decide) 2 rfl (z_incl zci_1) [(2, .int (v2 + 1)), (0, .int v0), (1, .int v1)] rfl ?_
        refine z_goto 4 C dX10_lengthOfCode_24 rfl ?_
        refine z_loc [1, 2, 0] rfl ?_
        exact ih v0 v1 (v2 + 1) g11 h
      · replace h := z_if hc h
        refine z_iinc C dX10_lengthOfCode_18 (by decide) 1 rfl (z_incl zci_1) [(1, .int (v1 + 1)), (0, .int v0), (2, .int v2)] rfl ?_
        refine z_iinc C dX10_lengthOfCode_21 (by decide) 2 rfl (z_incl zci_1) [(2, .int (v2 + 1)), (1, .int (v1 + 1)), (0, .int v0)] rfl ?_
        refine z_goto 4 C dX10_lengthOfCode_24 rfl ?_
        refine z_loc [2, 1, 0] rfl ?_
        exact ih v0 (v1 + 1) (v2 + 1) g11 h
set_option maxRecDepth 100000 in
set_option maxHeartbeats 4000000 in
theorem wX10_lengthOfCode (kn : Bool) (ad : Nat → Nat) (v0 : Int32) (g : z_S) (r : Int32) (gE : z_S) (h : fX10_lengthOfCode v0 g = some (r, gE)) : z_M yX10_lengthOfCode cX10_lengthOfCode 3 (some .int) 1 23 (layX kn) (nX kn) ad [.int v0] g (some (.int r)) gE := by
  refine z_enter (by decide) (Nat.le_of_ble_eq_true rfl) (fun F C => ?_)
  replace C : z_X F (layX kn) (nX kn) ad cX10_lengthOfCode RX10 3 (some .int) 1 23 (some (.int r)) gE := C
  show z_W F (layX kn) (nX kn) ad 0 [(0, .int v0)] [] g
  unfold fX10_lengthOfCode at h
  refine z_iconst C dX10_lengthOfCode_0 zci_0 ?_
  refine z_istore_n C dX10_lengthOfCode_1 rfl (by decide) [(1, .int 0), (0, .int v0)] rfl ?_
  refine z_iconst C dX10_lengthOfCode_2 zci_0 ?_
  refine z_istore_n C dX10_lengthOfCode_3 rfl (by decide) [(2, .int 0), (1, .int 0), (0, .int v0)] rfl ?_
  refine z_loc [2, 1, 0] rfl ?_
  refine wX10_lengthOfCode_L4 C  zN v0 0 0 g h
set_option maxRecDepth 100000 in
set_option maxHeartbeats 4000000 in
theorem wX10_fresh (kn : Bool) (ad : Nat → Nat) (v1 : Int32) (v2 : Int32) (g : z_S) (r : Int32) (gE : z_S) (h : fX10_fresh v1 v2 g = some (r, gE)) : z_M yX10_fresh cX10_fresh 3 (some .int) 5 118 (layX kn) (nX kn) ad [.ref (ad 0), .int v1, .int v2] g (some (.int r)) gE := by
  refine z_enter (by decide) (Nat.le_of_ble_eq_true rfl) (fun F C => ?_)
  replace C : z_X F (layX kn) (nX kn) ad cX10_fresh RX10 3 (some .int) 5 118 (some (.int r)) gE := C
  show z_W F (layX kn) (nX kn) ad 0 [(0, .ref (ad 0)), (1, .int v1), (2, .int v2)] [] g
  unfold fX10_fresh at h
  refine z_iload_n C dX10_fresh_0 rfl 1 rfl ?_
  refine z_if_lt 20 C dX10_fresh_1 rfl (fun hc => ?_) (fun hc => ?_)
  · replace h := z_it hc h
    refine z_sipush C dX10_fresh_20 zcs_m1002 ?_
    exact z_iret C (z_ret1i h) (z_ret2 h) dX10_fresh_23
  · replace h := z_if hc h
    refine z_iload_n C dX10_fresh_4 rfl 1 rfl ?_
    refine z_bipush C dX10_fresh_5 zcb_99 ?_
    refine z_icmp_gt 20 C dX10_fresh_7 rfl (fun hc => ?_) (fun hc => ?_)
    · replace h := z_it hc h
      refine z_sipush C dX10_fresh_20 zcs_m1002 ?_
      exact z_iret C (z_ret1i h) (z_ret2 h) dX10_fresh_23
    · replace h := z_if hc h
      refine z_iload_n C dX10_fresh_10 rfl 2 rfl ?_
      refine z_if_lt 20 C dX10_fresh_11 rfl (fun hc => ?_) (fun hc => ?_)
      · replace h := z_it hc h
        refine z_sipush C dX10_fresh_20 zcs_m1002 ?_
        exact z_iret C (z_ret1i h) (z_ret2 h) dX10_fresh_23
      · replace h := z_if hc h
        refine z_iload_n C dX10_fresh_14 rfl 2 rfl ?_
        refine z_bipush C dX10_fresh_15 zcb_6 ?_
        refine z_icmp_le 24 C dX10_fresh_17 rfl (fun hc => ?_) (fun hc => ?_)
        · replace h := z_it hc h
          refine z_aload_n C dX10_fresh_24 rfl 0 rfl ?_
          refine z_getr C zf_X10_19 (zo_X_0_1 kn) dX10_fresh_25 ?_
          refine z_geti C zf_X10_89 (zo_X_4_0 kn) dX10_fresh_28 ?_
          refine z_bipush C dX10_fresh_31 zcb_16 ?_
          refine z_icmp_lt 40 C dX10_fresh_33 rfl (fun hc => ?_) (fun hc => ?_)
          · replace h := z_it hc h
            refine z_aload_n C dX10_fresh_40 rfl 0 rfl ?_
            refine z_getr C zf_X10_65 (zo_X_0_7 kn) dX10_fresh_41 ?_
            refine z_iload_n C dX10_fresh_44 rfl 1 rfl ?_
            obtain ⟨r45, g45, hq45, h⟩ := z_b_some h
            refine z_callVv [] C zc_X10_221 (zk_X_26 kn) rfl (by decide) (Nat.le_of_ble_eq_true rfl) dX10_fresh_45 rfl (wX2_seekNew kn ad v1 g g45 hq45) ?_
            refine z_aload_n C dX10_fresh_48 rfl 0 rfl ?_
            refine z_getr C zf_X10_65 (zo_X_0_7 kn) dX10_fresh_49 ?_
            refine z_geti C zf_X10_224 (zo_X_26_4 kn) dX10_fresh_52 ?_
            refine z_if_gt 60 C dX10_fresh_55 rfl (fun hc => ?_) (fun hc => ?_)
            · replace h := z_it hc h
              refine z_iload_n C dX10_fresh_60 rfl 2 rfl ?_
              by_cases hc61_0 : v2 = 0
              · replace h := z_it hc61_0 h
                refine z_lookup (off := 27) 88 C dX10_fresh_61 (by decide) (by rw [hc61_0]; decide) rfl ?_
                refine z_aload_n C dX10_fresh_88 rfl 0 rfl ?_
                refine z_getr C zf_X10_65 (zo_X_0_7 kn) dX10_fresh_89 ?_
                refine z_geti C zf_X10_224 (zo_X_26_4 kn) dX10_fresh_92 ?_
                exact z_iret C (z_ret1i h) (z_ret2 h) dX10_fresh_95
              replace h := z_if hc61_0 h
              by_cases hc61_1 : v2 = 1
              · replace h := z_it hc61_1 h
                refine z_lookup (off := 35) 96 C dX10_fresh_61 (by decide) (by rw [hc61_1]; decide) rfl ?_
                refine z_aload_n C dX10_fresh_96 rfl 0 rfl ?_
                refine z_getr C zf_X10_65 (zo_X_0_7 kn) dX10_fresh_97 ?_
                refine z_geti C zf_X10_227 (zo_X_26_5 kn) dX10_fresh_100 ?_
                obtain ⟨r103, g103, hq103, h⟩ := z_b_some h
                refine z_callSi [] C zc_X10_230 rfl (by decide) (Nat.le_of_ble_eq_true rfl) dX10_fresh_103 rfl (wX10_lengthOfCode kn ad (g45.1 26 5) g45 r103 g103 hq103) ?_
                exact z_iret C (z_ret1i h) (z_ret2 h) dX10_fresh_106
              replace h := z_if hc61_1 h
              refine z_lookup (off := 46) 107 C dX10_fresh_61 (by decide) ((lv_osw hc61_0 (by decide)).trans ((lv_osw hc61_1 (by decide)).trans (rfl))) rfl ?_
              refine z_aload_n C dX10_fresh_107 rfl 0 rfl ?_
              refine z_getr C zf_X10_65 (zo_X_0_7 kn) dX10_fresh_108 ?_
              refine z_geti C zf_X10_227 (zo_X_26_5 kn) dX10_fresh_111 ?_
              refine z_iload_n C dX10_fresh_114 rfl 2 rfl ?_
              refine z_iconst C dX10_fresh_115 zci_2 ?_
              refine z_isub C dX10_fresh_116 ?_
              obtain ⟨r117, g117, hq117, h⟩ := z_b_some h
              refine z_callSi [] C zc_X10_234 rfl (by decide) (Nat.le_of_ble_eq_true rfl) dX10_fresh_117 rfl (wX10_letterOfCode kn ad (g45.1 26 5) (v2 - 2) g45 r117 g117 hq117) ?_
              exact z_iret C (z_ret1i h) (z_ret2 h) dX10_fresh_120
            · replace h := z_if hc h
              refine z_iconst C dX10_fresh_58 zci_m1 ?_
              exact z_iret C (z_ret1i h) (z_ret2 h) dX10_fresh_59
          · replace h := z_if hc h
            refine z_sipush C dX10_fresh_36 zcs_m1003 ?_
            exact z_iret C (z_ret1i h) (z_ret2 h) dX10_fresh_39
        · replace h := z_if hc h
          refine z_sipush C dX10_fresh_20 zcs_m1002 ?_
          exact z_iret C (z_ret1i h) (z_ret2 h) dX10_fresh_23

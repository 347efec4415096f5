set_option maxRecDepth 100000 in
set_option maxHeartbeats 4000000 in
theorem wX5_weightFrom (kn : Bool) (ad : Nat → Nat) (v1 : Int32) (v2 : Int32) (v3 : Int32) (g : z_S) (r : Int32) (gE : z_S) (h : fX5_weightFrom v1 v2 v3 g = some (r, gE)) : z_M yX5_weightFrom cX5_weightFrom 5 (some .int) 1 22 (layX kn) (nX kn) ad [.ref (ad 19), .int v1, .int v2, .int v3] g (some (.int r)) gE := by
  refine z_enter (by decide) (Nat.le_of_ble_eq_true rfl) (fun F C => ?_)
  replace C : z_X F (layX kn) (nX kn) ad cX5_weightFrom RX5 5 (some .int) 1 22 (some (.int r)) gE := C
  show z_W F (layX kn) (nX kn) ad 0 [(0, .ref (ad 19)), (1, .int v1), (2, .int v2), (3, .int v3)] [] g
  unfold fX5_weightFrom at h
  refine z_aload_n C dX5_weightFrom_0 rfl 0 rfl ?_
  refine z_getr C zf_X5_9 (zo_X_19_3 kn) dX5_weightFrom_1 ?_
  refine z_iload_n C dX5_weightFrom_4 rfl 1 rfl ?_
  obtain ⟨hi5, h⟩ := z_g_some h
  refine z_iald C (za_X_20 kn) (z_in_vp hi5) dX5_weightFrom_5 ?_
  refine z_iload_n C dX5_weightFrom_6 rfl 3 rfl ?_
  refine z_ishr C dX5_weightFrom_7 ?_
  refine z_iconst C dX5_weightFrom_8 zci_1 ?_
  refine z_iand C dX5_weightFrom_9 ?_
  refine z_if_eq 33 C dX5_weightFrom_10 rfl (fun hc => ?_) (fun hc => ?_)
  · replace h := z_it hc h
    refine z_ldc C dX5_weightFrom_33 zl_X5_56 ?_
    exact z_iret C (z_ret1i h) (z_ret2 h) dX5_weightFrom_35
  · replace h := z_if hc h
    refine z_aload_n C dX5_weightFrom_13 rfl 0 rfl ?_
    refine z_getr C zf_X5_30 (zo_X_19_2 kn) dX5_weightFrom_14 ?_
    refine z_iload_n C dX5_weightFrom_17 rfl 2 rfl ?_
    refine z_aload_n C dX5_weightFrom_18 rfl 0 rfl ?_
    refine z_getr C zf_X5_26 (zo_X_19_1 kn) dX5_weightFrom_19 ?_
    refine z_getr C zf_X5_70 (zo_X_4_4 kn) dX5_weightFrom_22 ?_
    refine z_iload_n C dX5_weightFrom_25 rfl 3 rfl ?_
    obtain ⟨hi26, h⟩ := z_g_some h
    refine z_iald C (za_X_8 kn) (z_in_vp hi26) dX5_weightFrom_26 ?_
    obtain ⟨r27, g27, hq27, h⟩ := z_b_some h
    refine z_callVi [] C zc_X5_73 (zk_X_1 kn) rfl (by decide) (Nat.le_of_ble_eq_true rfl) dX5_weightFrom_27 rfl (wX7_mayCome kn ad v2 (g.1 8 (v3).toNatClampNeg) g r27 g27 hq27) ?_
    refine z_if_ne 36 C dX5_weightFrom_30 rfl (fun hc => ?_) (fun hc => ?_)
    · replace h := z_it hc h
      refine z_ldc C dX5_weightFrom_33 zl_X5_56 ?_
      exact z_iret C (z_ret1i h) (z_ret2 h) dX5_weightFrom_35
    · replace h := z_if hc h
      refine z_aload_n C dX5_weightFrom_36 rfl 0 rfl ?_
      refine z_getr C zf_X5_15 (zo_X_19_4 kn) dX5_weightFrom_37 ?_
      refine z_aload_n C dX5_weightFrom_40 rfl 0 rfl ?_
      refine z_iload_n C dX5_weightFrom_41 rfl 1 rfl ?_
      refine z_iload_n C dX5_weightFrom_42 rfl 3 rfl ?_
      obtain ⟨r43, g43, hq43, h⟩ := z_b_some h
      refine z_callVi [.ref (ad 21)] C zc_X5_62 (zk_X_19 kn) rfl (by decide) (Nat.le_of_ble_eq_true rfl) dX5_weightFrom_43 rfl (wX5_behind kn ad v1 v3 g27 r43 g43 hq43) ?_
      obtain ⟨hi46, h⟩ := z_g_some h
      refine z_iald C (za_X_21 kn) (z_in_vp hi46) dX5_weightFrom_46 ?_
      refine z_istore C dX5_weightFrom_47 (by decide) [(4, .int (g43.1 21 (r43).toNatClampNeg)), (0, .ref (ad 19)), (1, .int v1), (2, .int v2), (3, .int v3)] rfl ?_
      refine z_iload C dX5_weightFrom_49 0 rfl ?_
      refine z_ldc C dX5_weightFrom_51 zl_X5_56 ?_
      refine z_icmp_lt 61 C dX5_weightFrom_53 rfl (fun hc => ?_) (fun hc => ?_)
      · replace h := z_it hc h
        refine z_iload C dX5_weightFrom_61 0 rfl ?_
        refine z_aload_n C dX5_weightFrom_63 rfl 1 rfl ?_
        refine z_iload_n C dX5_weightFrom_64 rfl 4 rfl ?_
        refine z_iload_n C dX5_weightFrom_65 rfl 2 rfl ?_
        refine z_aload_n C dX5_weightFrom_66 rfl 1 rfl ?_
        refine z_getr C zf_X5_26 (zo_X_19_1 kn) dX5_weightFrom_67 ?_
        refine z_getr C zf_X5_79 (zo_X_4_2 kn) dX5_weightFrom_70 ?_
        refine z_iload_n C dX5_weightFrom_73 rfl 4 rfl ?_
        obtain ⟨hi74, h⟩ := z_g_some h
        refine z_iald C (za_X_6 kn) (z_in_vp hi74) dX5_weightFrom_74 ?_
        refine z_iadd C dX5_weightFrom_75 ?_
        obtain ⟨r76, g76, hq76, h⟩ := z_b_some h
        refine z_callVi [.int (g43.1 21 (r43).toNatClampNeg)] C zc_X5_82 (zk_X_19 kn) rfl (by decide) (Nat.le_of_ble_eq_true rfl) dX5_weightFrom_76 rfl (wX5_weight kn ad v3 (v1 + (g43.1 6 (v3).toNatClampNeg)) g43 r76 g76 hq76) ?_
        refine z_iadd C dX5_weightFrom_79 ?_
        exact z_iret C (z_ret1i h) (z_ret2 h) dX5_weightFrom_80
      · replace h := z_if hc h
        refine z_ldc C dX5_weightFrom_56 zl_X5_56 ?_
        refine z_goto 80 C dX5_weightFrom_58 rfl ?_
        exact z_iret C (z_ret1i h) (z_ret2 h) dX5_weightFrom_80
set_option maxRecDepth 100000 in
set_option maxHeartbeats 4000000 in
theorem wX10_addCapped (kn : Bool) (ad : Nat → Nat) (v0 : Int64) (v2 : Int64) (g : z_S) (r : Int64) (gE : z_S) (h : fX10_addCapped v0 v2 g = some (r, gE)) : z_M yX10_addCapped cX10_addCapped 4 (some .long) 1 23 (layX kn) (nX kn) ad [.long v0, .long v2] g (some (.long r)) gE := by
  refine z_enter (by decide) (Nat.le_of_ble_eq_true rfl) (fun F C => ?_)
  replace C : z_X F (layX kn) (nX kn) ad cX10_addCapped RX10 4 (some .long) 1 23 (some (.long r)) gE := C
  show z_W F (layX kn) (nX kn) ad 0 [(0, .long v0), (2, .long v2)] [] g
  unfold fX10_addCapped at h
  refine z_lload_n C dX10_addCapped_0 rfl 0 rfl ?_
  refine z_lload_n C dX10_addCapped_1 rfl 1 rfl ?_
  refine z_ladd C dX10_addCapped_2 ?_
  refine z_ldc2 C dX10_addCapped_3 zl_X10_270 ?_
  refine z_mminl C zm_X10_272 zms_l zmi zmc_l (by decide) (Nat.le_of_ble_eq_true rfl) dX10_addCapped_6 ?_
  exact z_lret C (z_ret1l h) (z_ret2 h) dX10_addCapped_9
set_option maxRecDepth 100000 in
set_option maxHeartbeats 4000000 in
theorem wX5_measureFrom_J43 {kn : Bool} {F : z_F} {ad : Nat → Nat} {gE : z_S} (C : z_X F (layX kn) (nX kn) ad cX5_measureFrom RX5 8 none 2 46 none gE) (rc : (Int32 × Int32 × Int32 × Int64 × Int32) → z_S → Option (Unit × z_S)) (hrc : ∀ (v1 : Int32) (v2 : Int32) (v3 : Int32) (v4 : Int64) (v6 : Int32) (g : z_S), rc (v1, v2, v3, v4, v6) g = some ((), gE) → z_W F (layX kn) (nX kn) ad 9 [(0, .ref (ad 19)), (1, .int v1), (2, .int v2), (3, .int v3), (4, .long v4), (6, .int v6)] [] g) (v1 : Int32) (v2 : Int32) (v3 : Int32) (v4 : Int64) (v6 : Int32) (v7 : Int32) (g : z_S) (h : fX5_measureFrom_J43 rc v1 v2 v3 v4 v6 v7 g = some ((), gE)) : z_W F (layX kn) (nX kn) ad 43 [(0, .ref (ad 19)), (1, .int v1), (2, .int v2), (3, .int v3), (4, .long v4), (6, .int v6), (7, .int v7)] [] g := by
  unfold fX5_measureFrom_J43 at h
  refine z_iload C dX5_measureFrom_43 6 rfl ?_
  refine z_ldc C dX5_measureFrom_45 zl_X5_56 ?_
  refine z_icmp_ge 75 C dX5_measureFrom_47 rfl (fun hc => ?_) (fun hc => ?_)
  · replace h := z_it hc h
    refine z_iinc C dX5_measureFrom_75 (by decide) 5 rfl (z_incl zci_1) [(6, .int (v6 + 1)), (0, .ref (ad 19)), (1, .int v1), (2, .int v2), (3, .int v3), (4, .long v4), (7, .int v7)] rfl ?_
    refine z_goto 9 C dX5_measureFrom_78 rfl ?_
    refine z_loc [1, 2, 3, 4, 5, 0] rfl ?_
    exact hrc v1 v2 v3 v4 (v6 + 1) g h
  · replace h := z_if hc h
    refine z_iload C dX5_measureFrom_50 6 rfl ?_
    refine z_iload_n C dX5_measureFrom_52 rfl 3 rfl ?_
    refine z_icmp_ne 75 C dX5_measureFrom_53 rfl (fun hc => ?_) (fun hc => ?_)
    · replace h := z_it hc h
      refine z_lload C dX5_measureFrom_56 4 rfl ?_
      refine z_aload_n C dX5_measureFrom_58 rfl 0 rfl ?_
      refine z_getr C zf_X5_18 (zo_X_19_5 kn) dX5_measureFrom_59 ?_
      refine z_aload_n C dX5_measureFrom_62 rfl 0 rfl ?_
      refine z_iload_n C dX5_measureFrom_63 rfl 1 rfl ?_
      refine z_iload C dX5_measureFrom_64 5 rfl ?_
      obtain ⟨r66, g66, hq66, h⟩ := z_b_some h
      refine z_callVi [.ref (ad 22), .long v4] C zc_X5_62 (zk_X_19 kn) rfl (by decide) (Nat.le_of_ble_eq_true rfl) dX5_measureFrom_66 rfl (wX5_behind kn ad v1 v6 g r66 g66 hq66) ?_
      obtain ⟨hi69, h⟩ := z_g_some h
      refine z_lald C (za_X_22 kn) (z_in_vp hi69) dX5_measureFrom_69 ?_
      obtain ⟨r70, g70, hq70, h⟩ := z_b_some h
      refine z_callNl [] C zc_X5_66 rfl (by decide) (Nat.le_of_ble_eq_true rfl) dX5_measureFrom_70 rfl (wX10_addCapped kn ad v4 (g66.2 22 (r66).toNatClampNeg) g66 r70 g70 hq70) ?_
      refine z_lstore C dX5_measureFrom_73 (by decide) [(4, .long r70), (0, .ref (ad 19)), (1, .int v1), (2, .int v2), (3, .int v3), (6, .int v6), (7, .int v7)] rfl ?_
      refine z_iinc C dX5_measureFrom_75 (by decide) 5 rfl (z_incl zci_1) [(6, .int (v6 + 1)), (4, .long r70), (0, .ref (ad 19)), (1, .int v1), (2, .int v2), (3, .int v3), (7, .int v7)] rfl ?_
      refine z_goto 9 C dX5_measureFrom_78 rfl ?_
      refine z_loc [2, 3, 4, 5, 1, 0] rfl ?_
      exact hrc v1 v2 v3 r70 (v6 + 1) g70 h
    · replace h := z_if hc h
      refine z_iinc C dX5_measureFrom_75 (by decide) 5 rfl (z_incl zci_1) [(6, .int (v6 + 1)), (0, .ref (ad 19)), (1, .int v1), (2, .int v2), (3, .int v3), (4, .long v4), (7, .int v7)] rfl ?_
      refine z_goto 9 C dX5_measureFrom_78 rfl ?_
      refine z_loc [1, 2, 3, 4, 5, 0] rfl ?_
      exact hrc v1 v2 v3 v4 (v6 + 1) g h
set_option maxRecDepth 100000 in
set_option maxHeartbeats 4000000 in
theorem wX5_measureFrom_L9 {kn : Bool} {F : z_F} {ad : Nat → Nat} {gE : z_S} (C : z_X F (layX kn) (nX kn) ad cX5_measureFrom RX5 8 none 2 46 none gE) (k81 : Int32 → Int32 → Int32 → Int64 → z_S → Option (Unit × z_S)) (hk81 : ∀ (v1 : Int32) (v2 : Int32) (v3 : Int32) (v4 : Int64) (g : z_S), k81 v1 v2 v3 v4 g = some ((), gE) → z_W F (layX kn) (nX kn) ad 81 [(0, .ref (ad 19)), (1, .int v1), (2, .int v2), (3, .int v3), (4, .long v4)] [] g) : ∀ (n : Nat) (v1 : Int32) (v2 : Int32) (v3 : Int32) (v4 : Int64) (v6 : Int32) (g : z_S), z_loop (fX5_measureFrom_B9 k81) n (v1, v2, v3, v4, v6) g = some ((), gE) → z_W F (layX kn) (nX kn) ad 9 [(0, .ref (ad 19)), (1, .int v1), (2, .int v2), (3, .int v3), (4, .long v4), (6, .int v6)] [] g := by
  intro n
  induction n with
  | zero =>
    intro v1 v2 v3 v4 v6 g h
    exact (z_loop_0 h).elim
  | succ n ih =>
    intro v1 v2 v3 v4 v6 g h
    replace h := z_loop_S h
    simp only [fX5_measureFrom_B9] at h
    refine z_iload C dX5_measureFrom_9 5 rfl ?_
    refine z_aload_n C dX5_measureFrom_11 rfl 0 rfl ?_
    refine z_getr C zf_X5_26 (zo_X_19_1 kn) dX5_measureFrom_12 ?_
    refine z_geti C zf_X5_57 (zo_X_4_0 kn) dX5_measureFrom_15 ?_
    refine z_icmp_ge 81 C dX5_measureFrom_18 rfl (fun hc => ?_) (fun hc => ?_)
    · replace h := z_it hc h
      refine z_loc [0, 1, 2, 3, 4] rfl ?_
      exact hk81 v1 v2 v3 v4 g h
    · replace h := z_if hc h
      refine z_aload_n C dX5_measureFrom_21 rfl 0 rfl ?_
      refine z_iload_n C dX5_measureFrom_22 rfl 1 rfl ?_
      refine z_iload_n C dX5_measureFrom_23 rfl 2 rfl ?_
      refine z_iload C dX5_measureFrom_24 5 rfl ?_
      obtain ⟨r26, g26, hq26, h⟩ := z_b_some h
      refine z_callVi [] C zc_X5_58 (zk_X_19 kn) rfl (by decide) (Nat.le_of_ble_eq_true rfl) dX5_measureFrom_26 rfl (wX5_weightFrom kn ad v1 v2 v6 g r26 g26 hq26) ?_
      refine z_istore C dX5_measureFrom_29 (by decide) [(7, .int r26), (0, .ref (ad 19)), (1, .int v1), (2, .int v2), (3, .int v3), (4, .long v4), (6, .int v6)] rfl ?_
      refine z_iload C dX5_measureFrom_31 0 rfl ?_
      refine z_iload_n C dX5_measureFrom_33 rfl 4 rfl ?_
      refine z_icmp_ge 43 C dX5_measureFrom_34 rfl (fun hc => ?_) (fun hc => ?_)
      · replace h := z_it hc h
        refine z_loc [1, 2, 3, 4, 5, 6, 0] rfl ?_
        exact wX5_measureFrom_J43 C _ (fun v1 v2 v3 v4 v6 g h => ih v1 v2 v3 v4 v6 g h) v1 v2 v3 v4 v6 r26 g26 h
      · replace h := z_if hc h
        refine z_iload C dX5_measureFrom_37 0 rfl ?_
        refine z_istore_n C dX5_measureFrom_39 rfl (by decide) [(3, .int r26), (7, .int r26), (0, .ref (ad 19)), (1, .int v1), (2, .int v2), (4, .long v4), (6, .int v6)] rfl ?_
        refine z_lconst C dX5_measureFrom_40 zcl_0 ?_
        refine z_lstore C dX5_measureFrom_41 (by decide) [(4, .long 0), (3, .int r26), (7, .int r26), (0, .ref (ad 19)), (1, .int v1), (2, .int v2), (6, .int v6)] rfl ?_
        refine z_loc [3, 4, 5, 1, 0, 6, 2] rfl ?_
        exact wX5_measureFrom_J43 C _ (fun v1 v2 v3 v4 v6 g h => ih v1 v2 v3 v4 v6 g h) v1 v2 r26 0 v6 r26 g26 h
set_option maxRecDepth 100000 in
set_option maxHeartbeats 4000000 in
theorem wX5_measureFrom (kn : Bool) (ad : Nat → Nat) (v1 : Int32) (v2 : Int32) (g : z_S) (gE : z_S) (h : fX5_measureFrom v1 v2 g = some ((), gE)) : z_M yX5_measureFrom cX5_measureFrom 8 none 2 46 (layX kn) (nX kn) ad [.ref (ad 19), .int v1, .int v2] g none gE := by
  refine z_enter (by decide) (Nat.le_of_ble_eq_true rfl) (fun F C => ?_)
  replace C : z_X F (layX kn) (nX kn) ad cX5_measureFrom RX5 8 none 2 46 none gE := C
  show z_W F (layX kn) (nX kn) ad 0 [(0, .ref (ad 19)), (1, .int v1), (2, .int v2)] [] g
  unfold fX5_measureFrom at h
  refine z_ldc C dX5_measureFrom_0 zl_X5_56 ?_
  refine z_istore_n C dX5_measureFrom_2 rfl (by decide) [(3, .int 1000000000), (0, .ref (ad 19)), (1, .int v1), (2, .int v2)] rfl ?_
  refine z_lconst C dX5_measureFrom_3 zcl_0 ?_
  refine z_lstore C dX5_measureFrom_4 (by decide) [(4, .long 0), (3, .int 1000000000), (0, .ref (ad 19)), (1, .int v1), (2, .int v2)] rfl ?_
  refine z_iconst C dX5_measureFrom_6 zci_0 ?_
  refine z_istore C dX5_measureFrom_7 (by decide) [(6, .int 0), (4, .long 0), (3, .int 1000000000), (0, .ref (ad 19)), (1, .int v1), (2, .int v2)] rfl ?_
  refine z_loc [3, 4, 5, 2, 1, 0] rfl ?_
  refine wX5_measureFrom_L9 C _ ?_ zN v1 v2 1000000000 0 0 g h
  · intro v1 v2 v3 v4 g h
    refine z_aload_n C dX5_measureFrom_81 rfl 0 rfl ?_
    refine z_getr C zf_X5_15 (zo_X_19_4 kn) dX5_measureFrom_82 ?_
    refine z_iload_n C dX5_measureFrom_85 rfl 1 rfl ?_
    refine z_iconst C dX5_measureFrom_86 zci_5 ?_
    refine z_imul C dX5_measureFrom_87 ?_
    refine z_iload_n C dX5_measureFrom_88 rfl 2 rfl ?_
    refine z_iadd C dX5_measureFrom_89 ?_
    refine z_iload_n C dX5_measureFrom_90 rfl 3 rfl ?_
    obtain ⟨hi91, h⟩ := z_g_some h
    obtain ⟨g91, eg91, h⟩ := z_s_some h
    refine z_iast C (za_X_21 kn) (z_in_vp hi91) dX5_measureFrom_91 ?_
    refine z_gw eg91 ?_
    refine z_aload_n C dX5_measureFrom_92 rfl 0 rfl ?_
    refine z_getr C zf_X5_18 (zo_X_19_5 kn) dX5_measureFrom_93 ?_
    refine z_iload_n C dX5_measureFrom_96 rfl 1 rfl ?_
    refine z_iconst C dX5_measureFrom_97 zci_5 ?_
    refine z_imul C dX5_measureFrom_98 ?_
    refine z_iload_n C dX5_measureFrom_99 rfl 2 rfl ?_
    refine z_iadd C dX5_measureFrom_100 ?_
    refine z_lload C dX5_measureFrom_101 4 rfl ?_
    obtain ⟨hi103, h⟩ := z_g_some h
    obtain ⟨g103, eg103, h⟩ := z_s_some h
    refine z_last C (za_X_22 kn) (z_in_vp hi103) dX5_measureFrom_103 ?_
    refine z_gw eg103 ?_
    exact z_vret C rfl (z_ret2 h) dX5_measureFrom_104
set_option maxRecDepth 100000 in
set_option maxHeartbeats 4000000 in
theorem wX5_measure_L12 {kn : Bool} {F : z_F} {ad : Nat → Nat} {gE : z_S} (C : z_X F (layX kn) (nX kn) ad cX5_measure RX5 5 none 3 73 none gE) (k57 : z_S → Option (Unit × z_S)) (hk57 : ∀ (g : z_S), k57 g = some ((), gE) → z_W F (layX kn) (nX kn) ad 57 [(0, .ref (ad 19))] [] g) : ∀ (n : Nat) (v3 : Int32) (g : z_S), z_loop (fX5_measure_B12 k57) n v3 g = some ((), gE) → z_W F (layX kn) (nX kn) ad 12 [(0, .ref (ad 19)), (3, .int v3)] [] g := by
  intro n
  induction n with
  | zero =>
    intro v3 g h
    exact (z_loop_0 h).elim
  | succ n ih =>
    intro v3 g h
    replace h := z_loop_S h
    simp only [fX5_measure_B12] at h
    refine z_iload_n C dX5_measure_12 rfl 1 rfl ?_
    refine z_iconst C dX5_measure_13 zci_5 ?_
    refine z_icmp_ge 57 C dX5_measure_14 rfl (fun hc => ?_) (fun hc => ?_)
    · replace h := z_it hc h
      refine z_loc [0] rfl ?_
      exact hk57 g h
    · replace h := z_if hc h
      refine z_aload_n C dX5_measure_17 rfl 0 rfl ?_
      refine z_getr C zf_X5_15 (zo_X_19_4 kn) dX5_measure_18 ?_
      refine z_aload_n C dX5_measure_21 rfl 0 rfl ?_
      refine z_getr C zf_X5_22 (zo_X_19_0 kn) dX5_measure_22 ?_
      refine z_geti C zf_X5_41 (zo_X_11_1 kn) dX5_measure_25 ?_
      refine z_iconst C dX5_measure_28 zci_5 ?_
      refine z_imul C dX5_measure_29 ?_
      refine z_iload_n C dX5_measure_30 rfl 1 rfl ?_
      refine z_iadd C dX5_measure_31 ?_
      refine z_iconst C dX5_measure_32 zci_0 ?_
      obtain ⟨hi33, h⟩ := z_g_some h
      obtain ⟨g33, eg33, h⟩ := z_s_some h
      refine z_iast C (za_X_21 kn) (z_in_vp hi33) dX5_measure_33 ?_
      refine z_gw eg33 ?_
      refine z_aload_n C dX5_measure_34 rfl 0 rfl ?_
      refine z_getr C zf_X5_18 (zo_X_19_5 kn) dX5_measure_35 ?_
      refine z_aload_n C dX5_measure_38 rfl 0 rfl ?_
      refine z_getr C zf_X5_22 (zo_X_19_0 kn) dX5_measure_39 ?_
      refine z_geti C zf_X5_41 (zo_X_11_1 kn) dX5_measure_42 ?_
      refine z_iconst C dX5_measure_45 zci_5 ?_
      refine z_imul C dX5_measure_46 ?_
      refine z_iload_n C dX5_measure_47 rfl 1 rfl ?_
      refine z_iadd C dX5_measure_48 ?_
      refine z_lconst C dX5_measure_49 zcl_1 ?_
      obtain ⟨hi50, h⟩ := z_g_some h
      obtain ⟨g50, eg50, h⟩ := z_s_some h
      refine z_last C (za_X_22 kn) (z_in_vp hi50) dX5_measure_50 ?_
      refine z_gw eg50 ?_
      refine z_iinc C dX5_measure_51 (by decide) 1 rfl (z_incl zci_1) [(3, .int (v3 + 1)), (0, .ref (ad 19))] rfl ?_
      refine z_goto 12 C dX5_measure_54 rfl ?_
      refine z_loc [1, 0] rfl ?_
      exact ih (v3 + 1) g50 h
set_option maxRecDepth 100000 in
set_option maxHeartbeats 4000000 in
theorem wX5_measure_L92 {kn : Bool} {F : z_F} {ad : Nat → Nat} {gE : z_S} (C : z_X F (layX kn) (nX kn) ad cX5_measure RX5 5 none 3 73 none gE) (k111 : Int32 → z_S → Option (Unit × z_S)) (hk111 : ∀ (v3 : Int32) (g : z_S), k111 v3 g = some ((), gE) → z_W F (layX kn) (nX kn) ad 111 [(0, .ref (ad 19)), (3, .int v3)] [] g) : ∀ (n : Nat) (v3 : Int32) (v4 : Int32) (g : z_S), z_loop (fX5_measure_B92 k111) n (v3, v4) g = some ((), gE) → z_W F (layX kn) (nX kn) ad 92 [(0, .ref (ad 19)), (3, .int v3), (4, .int v4)] [] g := by
  intro n
  induction n with
  | zero =>
    intro v3 v4 g h
    exact (z_loop_0 h).elim
  | succ n ih =>
    intro v3 v4 g h
    replace h := z_loop_S h
    simp only [fX5_measure_B92] at h
    refine z_iload C dX5_measure_92 2 rfl ?_
    refine z_iconst C dX5_measure_94 zci_5 ?_
    refine z_icmp_ge 111 C dX5_measure_95 rfl (fun hc => ?_) (fun hc => ?_)
    · replace h := z_it hc h
      refine z_loc [0, 1] rfl ?_
      exact hk111 v3 g h
    · replace h := z_if hc h
      refine z_aload_n C dX5_measure_98 rfl 0 rfl ?_
      refine z_iload_n C dX5_measure_99 rfl 1 rfl ?_
      refine z_iload C dX5_measure_100 2 rfl ?_
      obtain ⟨r102, g102, hq102, h⟩ := z_b_some h
      refine z_callVv [] C zc_X5_52 (zk_X_19 kn) rfl (by decide) (Nat.le_of_ble_eq_true rfl) dX5_measure_102 rfl (wX5_measureFrom kn ad v3 v4 g g102 hq102) ?_
      refine z_iinc C dX5_measure_105 (by decide) 2 rfl (z_incl zci_1) [(4, .int (v4 + 1)), (0, .ref (ad 19)), (3, .int v3)] rfl ?_
      refine z_goto 92 C dX5_measure_108 rfl ?_
      refine z_loc [1, 2, 0] rfl ?_
      exact ih v3 (v4 + 1) g102 h
set_option maxRecDepth 100000 in
set_option maxHeartbeats 4000000 in
theorem wX5_measure_L67 {kn : Bool} {F : z_F} {ad : Nat → Nat} {gE : z_S} (C : z_X F (layX kn) (nX kn) ad cX5_measure RX5 5 none 3 73 none gE) : ∀ (n : Nat) (v3 : Int32) (g : z_S), z_loop fX5_measure_B67 n v3 g = some ((), gE) → z_W F (layX kn) (nX kn) ad 67 [(0, .ref (ad 19)), (3, .int v3)] [] g := by
  intro n
  induction n with
  | zero =>
    intro v3 g h
    exact (z_loop_0 h).elim
  | succ n ih =>
    intro v3 g h
    replace h := z_loop_S h
    simp only [fX5_measure_B67] at h
    refine z_iload_n C dX5_measure_67 rfl 1 rfl ?_
    refine z_if_lt 117 C dX5_measure_68 rfl (fun hc => ?_) (fun hc => ?_)
    · replace h := z_it hc h
      exact z_vret C rfl (z_ret2 h) dX5_measure_117
    · replace h := z_if hc h
      refine z_aload_n C dX5_measure_71 rfl 0 rfl ?_
      refine z_getr C zf_X5_9 (zo_X_19_3 kn) dX5_measure_72 ?_
      refine z_iload_n C dX5_measure_75 rfl 1 rfl ?_
      refine z_aload_n C dX5_measure_76 rfl 0 rfl ?_
      refine z_getr C zf_X5_26 (zo_X_19_1 kn) dX5_measure_77 ?_
      refine z_aload_n C dX5_measure_80 rfl 0 rfl ?_
      refine z_getr C zf_X5_22 (zo_X_19_0 kn) dX5_measure_81 ?_
      refine z_iload_n C dX5_measure_84 rfl 1 rfl ?_
      obtain ⟨r85, g85, hq85, h⟩ := z_b_some h
      refine z_callVi [.int v3, .ref (ad 20)] C zc_X5_46 (zk_X_4 kn) rfl (by decide) (Nat.le_of_ble_eq_true rfl) dX5_measure_85 rfl (wX9_standingAt_4_11 kn ad v3 g r85 g85 hq85) ?_
      obtain ⟨hi88, h⟩ := z_g_some h
      obtain ⟨g88, eg88, h⟩ := z_s_some h
      refine z_iast C (za_X_20 kn) (z_in_vp hi88) dX5_measure_88 ?_
      refine z_gw eg88 ?_
      refine z_iconst C dX5_measure_89 zci_0 ?_
      refine z_istore C dX5_measure_90 (by decide) [(4, .int 0), (0, .ref (ad 19)), (3, .int v3)] rfl ?_
      refine z_loc [1, 2, 0] rfl ?_
      refine wX5_measure_L92 C _ ?_ zN v3 0 g88 h
      · intro v3 g h
        refine z_iinc C dX5_measure_111 (by decide) 1 rfl (z_incl zci_m1) [(3, .int (v3 + (-1))), (0, .ref (ad 19))] rfl ?_
        refine z_goto 67 C dX5_measure_114 rfl ?_
        refine z_loc [1, 0] rfl ?_
        exact ih (v3 + (-1)) g h
set_option maxRecDepth 100000 in
set_option maxHeartbeats 4000000 in
theorem wX5_measure (kn : Bool) (ad : Nat → Nat) (v1 : Int32) (v2 : Int32) (g : z_S) (gE : z_S) (h : fX5_measure v1 v2 g = some ((), gE)) : z_M yX5_measure cX5_measure 5 none 3 73 (layX kn) (nX kn) ad [.ref (ad 19), .int v1, .int v2] g none gE := by
  refine z_enter (by decide) (Nat.le_of_ble_eq_true rfl) (fun F C => ?_)
  replace C : z_X F (layX kn) (nX kn) ad cX5_measure RX5 5 none 3 73 none gE := C
  show z_W F (layX kn) (nX kn) ad 0 [(0, .ref (ad 19)), (1, .int v1), (2, .int v2)] [] g
  unfold fX5_measure at h
  refine z_aload_n C dX5_measure_0 rfl 0 rfl ?_
  refine z_iload_n C dX5_measure_1 rfl 1 rfl ?_
  obtain ⟨g2, eg2, h⟩ := z_s_some h
  refine z_puti C zp_X5_34 (zo_X_19_6 kn) rfl rfl dX5_measure_2 ?_
  refine z_gw eg2 ?_
  refine z_aload_n C dX5_measure_5 rfl 0 rfl ?_
  refine z_iload_n C dX5_measure_6 rfl 2 rfl ?_
  obtain ⟨g7, eg7, h⟩ := z_s_some h
  refine z_puti C zp_X5_38 (zo_X_19_7 kn) rfl rfl dX5_measure_7 ?_
  refine z_gw eg7 ?_
  refine z_iconst C dX5_measure_10 zci_0 ?_
  refine z_istore_n C dX5_measure_11 rfl (by decide) [(3, .int 0), (0, .ref (ad 19)), (1, .int v1), (2, .int v2)] rfl ?_
  refine z_loc [1, 0] rfl ?_
  refine wX5_measure_L12 C _ ?_ zN 0 g7 h
  · intro g h
    refine z_aload_n C dX5_measure_57 rfl 0 rfl ?_
    refine z_getr C zf_X5_22 (zo_X_19_0 kn) dX5_measure_58 ?_
    refine z_geti C zf_X5_41 (zo_X_11_1 kn) dX5_measure_61 ?_
    refine z_iconst C dX5_measure_64 zci_1 ?_
    refine z_isub C dX5_measure_65 ?_
    refine z_istore_n C dX5_measure_66 rfl (by decide) [(3, .int ((g.1 11 1) - 1)), (0, .ref (ad 19))] rfl ?_
    refine z_loc [1, 0] rfl ?_
    refine wX5_measure_L67 C  zN ((g.1 11 1) - 1) g h
set_option maxRecDepth 100000 in
set_option maxHeartbeats 4000000 in
theorem wX5_manyInAll (kn : Bool) (ad : Nat → Nat) (g : z_S) (r : Int64) (gE : z_S) (h : fX5_manyInAll g = some (r, gE)) : z_M yX5_manyInAll cX5_manyInAll 1 (some .long) 0 0 (layX kn) (nX kn) ad [.ref (ad 19)] g (some (.long r)) gE := by
  refine z_enter (by decide) (Nat.le_of_ble_eq_true rfl) (fun F C => ?_)
  replace C : z_X F (layX kn) (nX kn) ad cX5_manyInAll RX5 1 (some .long) 0 0 (some (.long r)) gE := C
  show z_W F (layX kn) (nX kn) ad 0 [(0, .ref (ad 19))] [] g
  unfold fX5_manyInAll at h
  refine z_aload_n C dX5_manyInAll_0 rfl 0 rfl ?_
  refine z_getr C zf_X5_18 (zo_X_19_5 kn) dX5_manyInAll_1 ?_
  refine z_iconst C dX5_manyInAll_4 zci_4 ?_
  obtain ⟨hi5, h⟩ := z_g_some h
  refine z_lald C (za_X_22 kn) (z_in_vp hi5) dX5_manyInAll_5 ?_
  exact z_lret C (z_ret1l h) (z_ret2 h) dX5_manyInAll_6
set_option maxRecDepth 100000 in
set_option maxHeartbeats 4000000 in
theorem wX10_readings (kn : Bool) (ad : Nat → Nat) (g : z_S) (r : Int64) (gE : z_S) (h : fX10_readings g = some (r, gE)) : z_M yX10_readings cX10_readings 3 (some .long) 4 97 (layX kn) (nX kn) ad [.ref (ad 0)] g (some (.long r)) gE := by
  refine z_enter (by decide) (Nat.le_of_ble_eq_true rfl) (fun F C => ?_)
  replace C : z_X F (layX kn) (nX kn) ad cX10_readings RX10 3 (some .long) 4 97 (some (.long r)) gE := C
  show z_W F (layX kn) (nX kn) ad 0 [(0, .ref (ad 0))] [] g
  unfold fX10_readings at h
  refine z_aload_n C dX10_readings_0 rfl 0 rfl ?_
  refine z_getr C zf_X10_49 (zo_X_0_5 kn) dX10_readings_1 ?_
  refine z_iconst C dX10_readings_4 zci_0 ?_
  refine z_iconst C dX10_readings_5 zci_m1 ?_
  obtain ⟨r6, g6, hq6, h⟩ := z_b_some h
  refine z_callVv [] C zc_X10_140 (zk_X_19 kn) rfl (by decide) (Nat.le_of_ble_eq_true rfl) dX10_readings_6 rfl (wX5_measure kn ad 0 (-1) g g6 hq6) ?_
  refine z_aload_n C dX10_readings_9 rfl 0 rfl ?_
  refine z_getr C zf_X10_49 (zo_X_0_5 kn) dX10_readings_10 ?_
  obtain ⟨r13, g13, hq13, h⟩ := z_b_some h
  refine z_callVl [] C zc_X10_144 (zk_X_19 kn) rfl (by decide) (Nat.le_of_ble_eq_true rfl) dX10_readings_13 rfl (wX5_manyInAll kn ad g6 r13 g13 hq13) ?_
  refine z_lstore_n C dX10_readings_16 rfl (by decide) [(1, .long r13), (0, .ref (ad 0))] rfl ?_
  refine z_lload_n C dX10_readings_17 rfl 0 rfl ?_
  refine z_ldc2 C dX10_readings_18 zl_X10_148 ?_
  refine z_lcmp_le 31 C dX10_readings_21 dX10_readings_22 rfl (fun hc => ?_) (fun hc => ?_)
  · replace h := z_it hc h
    refine z_lload_n C dX10_readings_31 rfl 0 rfl ?_
    exact z_lret C (z_ret1l h) (z_ret2 h) dX10_readings_32
  · replace h := z_if hc h
    refine z_ldc2 C dX10_readings_25 zl_X10_150 ?_
    refine z_goto 32 C dX10_readings_28 rfl ?_
    exact z_lret C (z_ret1l h) (z_ret2 h) dX10_readings_32
set_option maxRecDepth 100000 in
set_option maxHeartbeats 4000000 in
theorem wX5_choose_L14 {kn : Bool} {F : z_F} {ad : Nat → Nat} {r : Int32} {gE : z_S} (C : z_X F (layX kn) (nX kn) ad cX5_choose RX5 8 (some .int) 2 46 (some (.int r)) gE) : ∀ (n : Nat) (v1 : Int32) (v2 : Int32) (v3 : Int32) (v4 : Int32) (g : z_S), z_loop fX5_choose_B14 n (v1, v2, v3, v4) g = some (r, gE) → z_W F (layX kn) (nX kn) ad 14 [(0, .ref (ad 19)), (1, .int v1), (2, .int v2), (3, .int v3), (4, .int v4)] [] g := by
  intro n
  induction n with
  | zero =>
    intro v1 v2 v3 v4 g h
    exact (z_loop_0 h).elim
  | succ n ih =>
    intro v1 v2 v3 v4 g h
    replace h := z_loop_S h
    simp only [fX5_choose_B14] at h
    refine z_iload C dX5_choose_14 4 rfl ?_
    refine z_aload_n C dX5_choose_16 rfl 0 rfl ?_
    refine z_getr C zf_X5_26 (zo_X_19_1 kn) dX5_choose_17 ?_
    refine z_geti C zf_X5_57 (zo_X_4_0 kn) dX5_choose_20 ?_
    refine z_icmp_ge 96 C dX5_choose_23 rfl (fun hc => ?_) (fun hc => ?_)
    · replace h := z_it hc h
      refine z_iconst C dX5_choose_96 zci_m1 ?_
      exact z_iret C (z_ret1i h) (z_ret2 h) dX5_choose_97
    · replace h := z_if hc h
      refine z_aload_n C dX5_choose_26 rfl 0 rfl ?_
      refine z_iload_n C dX5_choose_27 rfl 1 rfl ?_
      refine z_iload_n C dX5_choose_28 rfl 2 rfl ?_
      refine z_iload C dX5_choose_29 4 rfl ?_
      obtain ⟨r31, g31, hq31, h⟩ := z_b_some h
      refine z_callVi [] C zc_X5_58 (zk_X_19 kn) rfl (by decide) (Nat.le_of_ble_eq_true rfl) dX5_choose_31 rfl (wX5_weightFrom kn ad v1 v2 v4 g r31 g31 hq31) ?_
      refine z_istore C dX5_choose_34 (by decide) [(5, .int r31), (0, .ref (ad 19)), (1, .int v1), (2, .int v2), (3, .int v3), (4, .int v4)] rfl ?_
      refine z_iload C dX5_choose_36 0 rfl ?_
      refine z_ldc C dX5_choose_38 zl_X5_56 ?_
      refine z_icmp_ge 90 C dX5_choose_40 rfl (fun hc => ?_) (fun hc => ?_)
      · replace h := z_it hc h
        refine z_iinc C dX5_choose_90 (by decide) 5 rfl (z_incl zci_1) [(4, .int (v4 + 1)), (5, .int r31), (0, .ref (ad 19)), (1, .int v1), (2, .int v2), (3, .int v3)] rfl ?_
        refine z_goto 14 C dX5_choose_93 rfl ?_
        refine z_loc [2, 3, 4, 5, 0] rfl ?_
        exact ih v1 v2 v3 (v4 + 1) g31 h
      · replace h := z_if hc h
        refine z_iload C dX5_choose_43 0 rfl ?_
        refine z_iload_n C dX5_choose_45 rfl 4 rfl ?_
        refine z_icmp_le 52 C dX5_choose_46 rfl (fun hc => ?_) (fun hc => ?_)
        · replace h := z_it hc h
          refine z_aload_n C dX5_choose_52 rfl 1 rfl ?_
          refine z_getr C zf_X5_18 (zo_X_19_5 kn) dX5_choose_53 ?_
          refine z_aload_n C dX5_choose_56 rfl 1 rfl ?_
          refine z_iload_n C dX5_choose_57 rfl 2 rfl ?_
          refine z_iload C dX5_choose_58 5 rfl ?_
          obtain ⟨r60, g60, hq60, h⟩ := z_b_some h
          refine z_callVi [.ref (ad 22)] C zc_X5_62 (zk_X_19 kn) rfl (by decide) (Nat.le_of_ble_eq_true rfl) dX5_choose_60 rfl (wX5_behind kn ad v1 v4 g31 r60 g60 hq60) ?_
          obtain ⟨hi63, h⟩ := z_g_some h
          refine z_lald C (za_X_22 kn) (z_in_vp hi63) dX5_choose_63 ?_
          refine z_lstore C dX5_choose_64 (by decide) [(6, .long (g60.2 22 (r60).toNatClampNeg)), (5, .int r31), (0, .ref (ad 19)), (1, .int v1), (2, .int v2), (3, .int v3), (4, .int v4)] rfl ?_
          refine z_aload_n C dX5_choose_66 rfl 2 rfl ?_
          refine z_getl C zf_X5_88 (zo_X_19_8 kn) dX5_choose_67 ?_
          refine z_lload C dX5_choose_70 0 rfl ?_
          refine z_lcmp_ge 79 C dX5_choose_72 dX5_choose_73 rfl (fun hc => ?_) (fun hc => ?_)
          · replace h := z_it hc h
            refine z_aload_n C dX5_choose_79 rfl 2 rfl ?_
            refine z_dup C dX5_choose_80 rfl ?_
            refine z_getl C zf_X5_88 (zo_X_19_8 kn) dX5_choose_81 ?_
            refine z_lload C dX5_choose_84 0 rfl ?_
            refine z_lsub C dX5_choose_86 ?_
            obtain ⟨g87, eg87, h⟩ := z_s_some h
            refine z_putl C zp_X5_88 (zo_X_19_8 kn) dX5_choose_87 ?_
            refine z_gw eg87 ?_
            refine z_iinc C dX5_choose_90 (by decide) 6 rfl (z_incl zci_1) [(4, .int (v4 + 1)), (6, .long (g60.2 22 (r60).toNatClampNeg)), (5, .int r31), (0, .ref (ad 19)), (1, .int v1), (2, .int v2), (3, .int v3)] rfl ?_
            refine z_goto 14 C dX5_choose_93 rfl ?_
            refine z_loc [3, 4, 5, 6, 0] rfl ?_
            exact ih v1 v2 v3 (v4 + 1) g87 h
          · replace h := z_if hc h
            refine z_iload C dX5_choose_76 6 rfl ?_
            exact z_iret C (z_ret1i h) (z_ret2 h) dX5_choose_78
        · replace h := z_if hc h
          refine z_goto 90 C dX5_choose_49 rfl ?_
          refine z_iinc C dX5_choose_90 (by decide) 5 rfl (z_incl zci_1) [(4, .int (v4 + 1)), (5, .int r31), (0, .ref (ad 19)), (1, .int v1), (2, .int v2), (3, .int v3)] rfl ?_
          refine z_goto 14 C dX5_choose_93 rfl ?_
          refine z_loc [2, 3, 4, 5, 0] rfl ?_
          exact ih v1 v2 v3 (v4 + 1) g31 h
set_option maxRecDepth 100000 in
set_option maxHeartbeats 4000000 in
theorem wX5_choose (kn : Bool) (ad : Nat → Nat) (v1 : Int32) (v2 : Int32) (g : z_S) (r : Int32) (gE : z_S) (h : fX5_choose v1 v2 g = some (r, gE)) : z_M yX5_choose cX5_choose 8 (some .int) 2 46 (layX kn) (nX kn) ad [.ref (ad 19), .int v1, .int v2] g (some (.int r)) gE := by
  refine z_enter (by decide) (Nat.le_of_ble_eq_true rfl) (fun F C => ?_)
  replace C : z_X F (layX kn) (nX kn) ad cX5_choose RX5 8 (some .int) 2 46 (some (.int r)) gE := C
  show z_W F (layX kn) (nX kn) ad 0 [(0, .ref (ad 19)), (1, .int v1), (2, .int v2)] [] g
  unfold fX5_choose at h
  refine z_aload_n C dX5_choose_0 rfl 0 rfl ?_
  refine z_getr C zf_X5_15 (zo_X_19_4 kn) dX5_choose_1 ?_
  refine z_iload_n C dX5_choose_4 rfl 1 rfl ?_
  refine z_iconst C dX5_choose_5 zci_5 ?_
  refine z_imul C dX5_choose_6 ?_
  refine z_iload_n C dX5_choose_7 rfl 2 rfl ?_
  refine z_iadd C dX5_choose_8 ?_
  obtain ⟨hi9, h⟩ := z_g_some h
  refine z_iald C (za_X_21 kn) (z_in_vp hi9) dX5_choose_9 ?_
  refine z_istore_n C dX5_choose_10 rfl (by decide) [(3, .int (g.1 21 ((v1 * 5) + v2).toNatClampNeg)), (0, .ref (ad 19)), (1, .int v1), (2, .int v2)] rfl ?_
  refine z_iconst C dX5_choose_11 zci_0 ?_
  refine z_istore C dX5_choose_12 (by decide) [(4, .int 0), (3, .int (g.1 21 ((v1 * 5) + v2).toNatClampNeg)), (0, .ref (ad 19)), (1, .int v1), (2, .int v2)] rfl ?_
  refine z_loc [2, 3, 4, 1, 0] rfl ?_
  refine wX5_choose_L14 C  zN v1 v2 (g.1 21 ((v1 * 5) + v2).toNatClampNeg) 0 g h
set_option maxRecDepth 100000 in
set_option maxHeartbeats 4000000 in
theorem wX5_wordOfLeast_L27 {kn : Bool} {F : z_F} {ad : Nat → Nat} {r : Int32} {gE : z_S} (C : z_X F (layX kn) (nX kn) ad cX5_wordOfLeast RX5 8 (some .int) 3 73 (some (.int r)) gE) : ∀ (n : Nat) (v3 : Int32) (v4 : Int32) (v5 : Int32) (v6 : Int32) (g : z_S), z_loop fX5_wordOfLeast_B27 n (v3, v4, v5, v6) g = some (r, gE) → z_W F (layX kn) (nX kn) ad 27 [(0, .ref (ad 19)), (3, .int v3), (4, .int v4), (5, .int v5), (6, .int v6)] [] g := by
  intro n
  induction n with
  | zero =>
    intro v3 v4 v5 v6 g h
    exact (z_loop_0 h).elim
  | succ n ih =>
    intro v3 v4 v5 v6 g h
    replace h := z_loop_S h
    simp only [fX5_wordOfLeast_B27] at h
    refine z_iload C dX5_wordOfLeast_27 4 rfl ?_
    refine z_iload_n C dX5_wordOfLeast_29 rfl 1 rfl ?_
    refine z_icmp_gt 103 C dX5_wordOfLeast_30 rfl (fun hc => ?_) (fun hc => ?_)
    · replace h := z_it hc h
      refine z_iconst C dX5_wordOfLeast_103 zci_m1 ?_
      exact z_iret C (z_ret1i h) (z_ret2 h) dX5_wordOfLeast_104
    · replace h := z_if hc h
      refine z_iload C dX5_wordOfLeast_33 2 rfl ?_
      refine z_aload_n C dX5_wordOfLeast_35 rfl 0 rfl ?_
      refine z_getr C zf_X5_22 (zo_X_19_0 kn) dX5_wordOfLeast_36 ?_
      refine z_geti C zf_X5_41 (zo_X_11_1 kn) dX5_wordOfLeast_39 ?_
      refine z_icmp_ge 103 C dX5_wordOfLeast_42 rfl (fun hc => ?_) (fun hc => ?_)
      · replace h := z_it hc h
        refine z_iconst C dX5_wordOfLeast_103 zci_m1 ?_
        exact z_iret C (z_ret1i h) (z_ret2 h) dX5_wordOfLeast_104
      · replace h := z_if hc h
        refine z_aload_n C dX5_wordOfLeast_45 rfl 0 rfl ?_
        refine z_iload C dX5_wordOfLeast_46 2 rfl ?_
        refine z_iload C dX5_wordOfLeast_48 3 rfl ?_
        obtain ⟨r50, g50, hq50, h⟩ := z_b_some h
        refine z_callVi [] C zc_X5_92 (zk_X_19 kn) rfl (by decide) (Nat.le_of_ble_eq_true rfl) dX5_wordOfLeast_50 rfl (wX5_choose kn ad v4 v5 g r50 g50 hq50) ?_
        refine z_istore C dX5_wordOfLeast_53 (by decide) [(7, .int r50), (0, .ref (ad 19)), (3, .int v3), (4, .int v4), (5, .int v5), (6, .int v6)] rfl ?_
        refine z_iload C dX5_wordOfLeast_55 0 rfl ?_
        refine z_iconst C dX5_wordOfLeast_57 zci_m1 ?_
        refine z_icmp_eq 67 C dX5_wordOfLeast_58 rfl (fun hc => ?_) (fun hc => ?_)
        · replace h := z_it hc h
          refine z_iload C dX5_wordOfLeast_67 0 rfl ?_
          exact z_iret C (z_ret1i h) (z_ret2 h) dX5_wordOfLeast_69
        · replace h := z_if hc h
          refine z_iload C dX5_wordOfLeast_61 5 rfl ?_
          refine z_iload_n C dX5_wordOfLeast_63 rfl 2 rfl ?_
          refine z_icmp_ne 70 C dX5_wordOfLeast_64 rfl (fun hc => ?_) (fun hc => ?_)
          · replace h := z_it hc h
            refine z_iload C dX5_wordOfLeast_67 0 rfl ?_
            exact z_iret C (z_ret1i h) (z_ret2 h) dX5_wordOfLeast_69
          · replace h := z_if hc h
            refine z_iload C dX5_wordOfLeast_70 3 rfl ?_
            refine z_aload_n C dX5_wordOfLeast_72 rfl 1 rfl ?_
            refine z_getr C zf_X5_26 (zo_X_19_1 kn) dX5_wordOfLeast_73 ?_
            refine z_getr C zf_X5_79 (zo_X_4_2 kn) dX5_wordOfLeast_76 ?_
            refine z_iload C dX5_wordOfLeast_79 0 rfl ?_
            obtain ⟨hi81, h⟩ := z_g_some h
            refine z_iald C (za_X_6 kn) (z_in_vp hi81) dX5_wordOfLeast_81 ?_
            refine z_iadd C dX5_wordOfLeast_82 ?_
            refine z_istore C dX5_wordOfLeast_83 (by decide) [(4, .int (v4 + (g50.1 6 (r50).toNatClampNeg))), (7, .int r50), (0, .ref (ad 19)), (3, .int v3), (5, .int v5), (6, .int v6)] rfl ?_
            refine z_aload_n C dX5_wordOfLeast_85 rfl 2 rfl ?_
            refine z_getr C zf_X5_26 (zo_X_19_1 kn) dX5_wordOfLeast_86 ?_
            refine z_getr C zf_X5_70 (zo_X_4_4 kn) dX5_wordOfLeast_89 ?_
            refine z_iload C dX5_wordOfLeast_92 1 rfl ?_
            obtain ⟨hi94, h⟩ := z_g_some h
            refine z_iald C (za_X_8 kn) (z_in_vp hi94) dX5_wordOfLeast_94 ?_
            refine z_istore C dX5_wordOfLeast_95 (by decide) [(5, .int (g50.1 8 (r50).toNatClampNeg)), (4, .int (v4 + (g50.1 6 (r50).toNatClampNeg))), (7, .int r50), (0, .ref (ad 19)), (3, .int v3), (6, .int v6)] rfl ?_
            refine z_iinc C dX5_wordOfLeast_97 (by decide) 5 rfl (z_incl zci_1) [(6, .int (v6 + 1)), (5, .int (g50.1 8 (r50).toNatClampNeg)), (4, .int (v4 + (g50.1 6 (r50).toNatClampNeg))), (7, .int r50), (0, .ref (ad 19)), (3, .int v3)] rfl ?_
            refine z_goto 27 C dX5_wordOfLeast_100 rfl ?_
            refine z_loc [4, 5, 2, 1, 0] rfl ?_
            exact ih v3 (v4 + (g50.1 6 (r50).toNatClampNeg)) (g50.1 8 (r50).toNatClampNeg) (v6 + 1) g50 h
set_option maxRecDepth 100000 in
set_option maxHeartbeats 4000000 in
theorem wX5_wordOfLeast (kn : Bool) (ad : Nat → Nat) (v1 : Int64) (v3 : Int32) (g : z_S) (r : Int32) (gE : z_S) (h : fX5_wordOfLeast v1 v3 g = some (r, gE)) : z_M yX5_wordOfLeast cX5_wordOfLeast 8 (some .int) 3 73 (layX kn) (nX kn) ad [.ref (ad 19), .long v1, .int v3] g (some (.int r)) gE := by
  refine z_enter (by decide) (Nat.le_of_ble_eq_true rfl) (fun F C => ?_)
  replace C : z_X F (layX kn) (nX kn) ad cX5_wordOfLeast RX5 8 (some .int) 3 73 (some (.int r)) gE := C
  show z_W F (layX kn) (nX kn) ad 0 [(0, .ref (ad 19)), (1, .long v1), (3, .int v3)] [] g
  unfold fX5_wordOfLeast at h
  refine z_lload_n C dX5_wordOfLeast_0 rfl 1 rfl ?_
  refine z_aload_n C dX5_wordOfLeast_1 rfl 0 rfl ?_
  refine z_getr C zf_X5_18 (zo_X_19_5 kn) dX5_wordOfLeast_2 ?_
  refine z_iconst C dX5_wordOfLeast_5 zci_4 ?_
  obtain ⟨hi6, h⟩ := z_g_some h
  refine z_lald C (za_X_22 kn) (z_in_vp hi6) dX5_wordOfLeast_6 ?_
  refine z_lcmp_lt 13 C dX5_wordOfLeast_7 dX5_wordOfLeast_8 rfl (fun hc => ?_) (fun hc => ?_)
  · replace h := z_it hc h
    refine z_aload_n C dX5_wordOfLeast_13 rfl 0 rfl ?_
    refine z_lload_n C dX5_wordOfLeast_14 rfl 1 rfl ?_
    obtain ⟨g15, eg15, h⟩ := z_s_some h
    refine z_putl C zp_X5_88 (zo_X_19_8 kn) dX5_wordOfLeast_15 ?_
    refine z_gw eg15 ?_
    refine z_iconst C dX5_wordOfLeast_18 zci_0 ?_
    refine z_istore C dX5_wordOfLeast_19 (by decide) [(4, .int 0), (0, .ref (ad 19)), (1, .long v1), (3, .int v3)] rfl ?_
    refine z_iconst C dX5_wordOfLeast_21 zci_4 ?_
    refine z_istore C dX5_wordOfLeast_22 (by decide) [(5, .int 4), (4, .int 0), (0, .ref (ad 19)), (1, .long v1), (3, .int v3)] rfl ?_
    refine z_iconst C dX5_wordOfLeast_24 zci_0 ?_
    refine z_istore C dX5_wordOfLeast_25 (by decide) [(6, .int 0), (5, .int 4), (4, .int 0), (0, .ref (ad 19)), (1, .long v1), (3, .int v3)] rfl ?_
    refine z_loc [3, 5, 2, 1, 0] rfl ?_
    refine wX5_wordOfLeast_L27 C  zN v3 0 4 0 g15 h
  · replace h := z_if hc h
    refine z_iconst C dX5_wordOfLeast_11 zci_m1 ?_
    exact z_iret C (z_ret1i h) (z_ret2 h) dX5_wordOfLeast_12
set_option maxRecDepth 100000 in
set_option maxHeartbeats 4000000 in
theorem wX10_reading (kn : Bool) (ad : Nat → Nat) (v1 : Int64) (v3 : Int32) (g : z_S) (r : Int32) (gE : z_S) (h : fX10_reading v1 v3 g = some (r, gE)) : z_M yX10_reading cX10_reading 4 (some .int) 4 100 (layX kn) (nX kn) ad [.ref (ad 0), .long v1, .int v3] g (some (.int r)) gE := by
  refine z_enter (by decide) (Nat.le_of_ble_eq_true rfl) (fun F C => ?_)
  replace C : z_X F (layX kn) (nX kn) ad cX10_reading RX10 4 (some .int) 4 100 (some (.int r)) gE := C
  show z_W F (layX kn) (nX kn) ad 0 [(0, .ref (ad 0)), (1, .long v1), (3, .int v3)] [] g
  unfold fX10_reading at h
  refine z_lload_n C dX10_reading_0 rfl 1 rfl ?_
  refine z_lconst C dX10_reading_1 zcl_0 ?_
  refine z_lcmp_lt 14 C dX10_reading_2 dX10_reading_3 rfl (fun hc => ?_) (fun hc => ?_)
  · replace h := z_it hc h
    refine z_sipush C dX10_reading_14 zcs_m1002 ?_
    exact z_iret C (z_ret1i h) (z_ret2 h) dX10_reading_17
  · replace h := z_if hc h
    refine z_lload_n C dX10_reading_6 rfl 1 rfl ?_
    refine z_ldc2 C dX10_reading_7 zl_X10_148 ?_
    refine z_lcmp_le 18 C dX10_reading_10 dX10_reading_11 rfl (fun hc => ?_) (fun hc => ?_)
    · replace h := z_it hc h
      refine z_aload_n C dX10_reading_18 rfl 0 rfl ?_
      refine z_getr C zf_X10_49 (zo_X_0_5 kn) dX10_reading_19 ?_
      refine z_iconst C dX10_reading_22 zci_0 ?_
      refine z_iconst C dX10_reading_23 zci_m1 ?_
      obtain ⟨r24, g24, hq24, h⟩ := z_b_some h
      refine z_callVv [] C zc_X10_140 (zk_X_19 kn) rfl (by decide) (Nat.le_of_ble_eq_true rfl) dX10_reading_24 rfl (wX5_measure kn ad 0 (-1) g g24 hq24) ?_
      refine z_aload_n C dX10_reading_27 rfl 0 rfl ?_
      refine z_getr C zf_X10_49 (zo_X_0_5 kn) dX10_reading_28 ?_
      refine z_lload_n C dX10_reading_31 rfl 1 rfl ?_
      refine z_iload_n C dX10_reading_32 rfl 2 rfl ?_
      obtain ⟨r33, g33, hq33, h⟩ := z_b_some h
      refine z_callVi [] C zc_X10_152 (zk_X_19 kn) rfl (by decide) (Nat.le_of_ble_eq_true rfl) dX10_reading_33 rfl (wX5_wordOfLeast kn ad v1 v3 g24 r33 g33 hq33) ?_
      exact z_iret C (z_ret1i h) (z_ret2 h) dX10_reading_36
    · replace h := z_if hc h
      refine z_sipush C dX10_reading_14 zcs_m1002 ?_
      exact z_iret C (z_ret1i h) (z_ret2 h) dX10_reading_17
set_option maxRecDepth 100000 in
set_option maxHeartbeats 4000000 in
theorem wX5_isReadable (kn : Bool) (ad : Nat → Nat) (g : z_S) (r : Int32) (gE : z_S) (h : fX5_isReadable g = some (r, gE)) : z_M yX5_isReadable cX5_isReadable 1 (some .boolean) 0 0 (layX kn) (nX kn) ad [.ref (ad 19)] g (some (.int r)) gE := by
  refine z_enter (by decide) (Nat.le_of_ble_eq_true rfl) (fun F C => ?_)
  replace C : z_X F (layX kn) (nX kn) ad cX5_isReadable RX5 1 (some .boolean) 0 0 (some (.int r)) gE := C
  show z_W F (layX kn) (nX kn) ad 0 [(0, .ref (ad 19))] [] g
  unfold fX5_isReadable at h
  refine z_aload_n C dX5_isReadable_0 rfl 0 rfl ?_
  refine z_getr C zf_X5_18 (zo_X_19_5 kn) dX5_isReadable_1 ?_
  refine z_iconst C dX5_isReadable_4 zci_4 ?_
  obtain ⟨hi5, h⟩ := z_g_some h
  refine z_lald C (za_X_22 kn) (z_in_vp hi5) dX5_isReadable_5 ?_
  refine z_lconst C dX5_isReadable_6 zcl_0 ?_
  refine z_lcmp_le 15 C dX5_isReadable_7 dX5_isReadable_8 rfl (fun hc => ?_) (fun hc => ?_)
  · replace h := z_it hc h
    refine z_iconst C dX5_isReadable_15 zci_0 ?_
    exact z_zret C (by decide) (z_ret1i h) (z_ret2 h) dX5_isReadable_16
  · replace h := z_if hc h
    refine z_iconst C dX5_isReadable_11 zci_1 ?_
    refine z_goto 16 C dX5_isReadable_12 rfl ?_
    exact z_zret C (by decide) (z_ret1i h) (z_ret2 h) dX5_isReadable_16
set_option maxRecDepth 100000 in
set_option maxHeartbeats 4000000 in
theorem wX5_leastInAll (kn : Bool) (ad : Nat → Nat) (g : z_S) (r : Int32) (gE : z_S) (h : fX5_leastInAll g = some (r, gE)) : z_M yX5_leastInAll cX5_leastInAll 1 (some .int) 0 0 (layX kn) (nX kn) ad [.ref (ad 19)] g (some (.int r)) gE := by
  refine z_enter (by decide) (Nat.le_of_ble_eq_true rfl) (fun F C => ?_)
  replace C : z_X F (layX kn) (nX kn) ad cX5_leastInAll RX5 1 (some .int) 0 0 (some (.int r)) gE := C
  show z_W F (layX kn) (nX kn) ad 0 [(0, .ref (ad 19))] [] g
  unfold fX5_leastInAll at h
  refine z_aload_n C dX5_leastInAll_0 rfl 0 rfl ?_
  refine z_getr C zf_X5_15 (zo_X_19_4 kn) dX5_leastInAll_1 ?_
  refine z_iconst C dX5_leastInAll_4 zci_4 ?_
  obtain ⟨hi5, h⟩ := z_g_some h
  refine z_iald C (za_X_21 kn) (z_in_vp hi5) dX5_leastInAll_5 ?_
  exact z_iret C (z_ret1i h) (z_ret2 h) dX5_leastInAll_6
set_option maxRecDepth 100000 in
set_option maxHeartbeats 4000000 in
theorem wX10_best (kn : Bool) (ad : Nat → Nat) (v1 : Int32) (g : z_S) (r : Int32) (gE : z_S) (h : fX10_best v1 g = some (r, gE)) : z_M yX10_best cX10_best 2 (some .int) 4 97 (layX kn) (nX kn) ad [.ref (ad 0), .int v1] g (some (.int r)) gE := by
  refine z_enter (by decide) (Nat.le_of_ble_eq_true rfl) (fun F C => ?_)
  replace C : z_X F (layX kn) (nX kn) ad cX10_best RX10 2 (some .int) 4 97 (some (.int r)) gE := C
  show z_W F (layX kn) (nX kn) ad 0 [(0, .ref (ad 0)), (1, .int v1)] [] g
  unfold fX10_best at h
  refine z_iload_n C dX10_best_0 rfl 1 rfl ?_
  by_cases hc1_0 : v1 = 0
  · replace h := z_it hc1_0 h
    refine z_tabIn (off := 31) 0 32 C dX10_best_1 hc1_0 (by decide) (by decide) (by decide) rfl ?_
    refine z_aload_n C dX10_best_32 rfl 0 rfl ?_
    refine z_getr C zf_X10_49 (zo_X_0_5 kn) dX10_best_33 ?_
    refine z_iconst C dX10_best_36 zci_1 ?_
    refine z_iconst C dX10_best_37 zci_m1 ?_
    obtain ⟨r38, g38, hq38, h⟩ := z_b_some h
    refine z_callVv [] C zc_X10_140 (zk_X_19 kn) rfl (by decide) (Nat.le_of_ble_eq_true rfl) dX10_best_38 rfl (wX5_measure kn ad 1 (-1) g g38 hq38) ?_
    refine z_aload_n C dX10_best_41 rfl 0 rfl ?_
    refine z_getr C zf_X10_49 (zo_X_0_5 kn) dX10_best_42 ?_
    obtain ⟨r45, g45, hq45, h⟩ := z_b_some h
    refine z_callVi [] C zc_X10_156 (zk_X_19 kn) rfl (by decide) (Nat.le_of_ble_eq_true rfl) dX10_best_45 rfl (wX5_isReadable kn ad g38 r45 g45 hq45) ?_
    refine z_if_eq 61 C dX10_best_48 rfl (fun hc => ?_) (fun hc => ?_)
    · replace h := z_it hc h
      refine z_iconst C dX10_best_61 zci_m1 ?_
      exact z_iret C (z_ret1i h) (z_ret2 h) dX10_best_62
    · replace h := z_if hc h
      refine z_aload_n C dX10_best_51 rfl 0 rfl ?_
      refine z_getr C zf_X10_49 (zo_X_0_5 kn) dX10_best_52 ?_
      obtain ⟨r55, g55, hq55, h⟩ := z_b_some h
      refine z_callVi [] C zc_X10_160 (zk_X_19 kn) rfl (by decide) (Nat.le_of_ble_eq_true rfl) dX10_best_55 rfl (wX5_leastInAll kn ad g45 r55 g55 hq55) ?_
      refine z_goto 62 C dX10_best_58 rfl ?_
      exact z_iret C (z_ret1i h) (z_ret2 h) dX10_best_62
  replace h := z_if hc1_0 h
  by_cases hc1_1 : v1 = 1
  · replace h := z_it hc1_1 h
    refine z_tabIn (off := 62) 1 63 C dX10_best_1 hc1_1 (by decide) (by decide) (by decide) rfl ?_
    refine z_aload_n C dX10_best_63 rfl 0 rfl ?_
    refine z_getr C zf_X10_49 (zo_X_0_5 kn) dX10_best_64 ?_
    refine z_iconst C dX10_best_67 zci_1 ?_
    refine z_iconst C dX10_best_68 zci_m1 ?_
    obtain ⟨r69, g69, hq69, h⟩ := z_b_some h
    refine z_callVv [] C zc_X10_140 (zk_X_19 kn) rfl (by decide) (Nat.le_of_ble_eq_true rfl) dX10_best_69 rfl (wX5_measure kn ad 1 (-1) g g69 hq69) ?_
    refine z_aload_n C dX10_best_72 rfl 0 rfl ?_
    refine z_getr C zf_X10_49 (zo_X_0_5 kn) dX10_best_73 ?_
    obtain ⟨r76, g76, hq76, h⟩ := z_b_some h
    refine z_callVl [] C zc_X10_144 (zk_X_19 kn) rfl (by decide) (Nat.le_of_ble_eq_true rfl) dX10_best_76 rfl (wX5_manyInAll kn ad g69 r76 g76 hq76) ?_
    refine z_ldc2 C dX10_best_79 zl_X10_163 ?_
    refine z_lcmp_le 92 C dX10_best_82 dX10_best_83 rfl (fun hc => ?_) (fun hc => ?_)
    · replace h := z_it hc h
      refine z_aload_n C dX10_best_92 rfl 0 rfl ?_
      refine z_getr C zf_X10_49 (zo_X_0_5 kn) dX10_best_93 ?_
      obtain ⟨r96, g96, hq96, h⟩ := z_b_some h
      refine z_callVl [] C zc_X10_144 (zk_X_19 kn) rfl (by decide) (Nat.le_of_ble_eq_true rfl) dX10_best_96 rfl (wX5_manyInAll kn ad g76 r96 g96 hq96) ?_
      refine z_l2i C dX10_best_99 ?_
      exact z_iret C (z_ret1i h) (z_ret2 h) dX10_best_100
    · replace h := z_if hc h
      refine z_sipush C dX10_best_86 zcs_m1005 ?_
      refine z_goto 100 C dX10_best_89 rfl ?_
      exact z_iret C (z_ret1i h) (z_ret2 h) dX10_best_100
  replace h := z_if hc1_1 h
  by_cases hc1_2 : v1 = 2
  · replace h := z_it hc1_2 h
    refine z_tabIn (off := 100) 2 101 C dX10_best_1 hc1_2 (by decide) (by decide) (by decide) rfl ?_
    refine z_aload_n C dX10_best_101 rfl 0 rfl ?_
    refine z_getr C zf_X10_49 (zo_X_0_5 kn) dX10_best_102 ?_
    refine z_iconst C dX10_best_105 zci_2 ?_
    refine z_iconst C dX10_best_106 zci_m1 ?_
    obtain ⟨r107, g107, hq107, h⟩ := z_b_some h
    refine z_callVv [] C zc_X10_140 (zk_X_19 kn) rfl (by decide) (Nat.le_of_ble_eq_true rfl) dX10_best_107 rfl (wX5_measure kn ad 2 (-1) g g107 hq107) ?_
    refine z_aload_n C dX10_best_110 rfl 0 rfl ?_
    refine z_getr C zf_X10_49 (zo_X_0_5 kn) dX10_best_111 ?_
    obtain ⟨r114, g114, hq114, h⟩ := z_b_some h
    refine z_callVi [] C zc_X10_156 (zk_X_19 kn) rfl (by decide) (Nat.le_of_ble_eq_true rfl) dX10_best_114 rfl (wX5_isReadable kn ad g107 r114 g114 hq114) ?_
    refine z_if_eq 130 C dX10_best_117 rfl (fun hc => ?_) (fun hc => ?_)
    · replace h := z_it hc h
      refine z_iconst C dX10_best_130 zci_m1 ?_
      exact z_iret C (z_ret1i h) (z_ret2 h) dX10_best_131
    · replace h := z_if hc h
      refine z_aload_n C dX10_best_120 rfl 0 rfl ?_
      refine z_getr C zf_X10_49 (zo_X_0_5 kn) dX10_best_121 ?_
      obtain ⟨r124, g124, hq124, h⟩ := z_b_some h
      refine z_callVi [] C zc_X10_160 (zk_X_19 kn) rfl (by decide) (Nat.le_of_ble_eq_true rfl) dX10_best_124 rfl (wX5_leastInAll kn ad g114 r124 g124 hq124) ?_
      refine z_goto 131 C dX10_best_127 rfl ?_
      exact z_iret C (z_ret1i h) (z_ret2 h) dX10_best_131
  replace h := z_if hc1_2 h
  by_cases hc1_3 : v1 = 3
  · replace h := z_it hc1_3 h
    refine z_tabIn (off := 131) 3 132 C dX10_best_1 hc1_3 (by decide) (by decide) (by decide) rfl ?_
    refine z_aload_n C dX10_best_132 rfl 0 rfl ?_
    refine z_getr C zf_X10_49 (zo_X_0_5 kn) dX10_best_133 ?_
    refine z_iconst C dX10_best_136 zci_3 ?_
    refine z_iconst C dX10_best_137 zci_m1 ?_
    obtain ⟨r138, g138, hq138, h⟩ := z_b_some h
    refine z_callVv [] C zc_X10_140 (zk_X_19 kn) rfl (by decide) (Nat.le_of_ble_eq_true rfl) dX10_best_138 rfl (wX5_measure kn ad 3 (-1) g g138 hq138) ?_
    refine z_aload_n C dX10_best_141 rfl 0 rfl ?_
    refine z_getr C zf_X10_49 (zo_X_0_5 kn) dX10_best_142 ?_
    obtain ⟨r145, g145, hq145, h⟩ := z_b_some h
    refine z_callVi [] C zc_X10_156 (zk_X_19 kn) rfl (by decide) (Nat.le_of_ble_eq_true rfl) dX10_best_145 rfl (wX5_isReadable kn ad g138 r145 g145 hq145) ?_
    refine z_if_eq 162 C dX10_best_148 rfl (fun hc => ?_) (fun hc => ?_)
    · replace h := z_it hc h
      refine z_iconst C dX10_best_162 zci_m1 ?_
      exact z_iret C (z_ret1i h) (z_ret2 h) dX10_best_163
    · replace h := z_if hc h
      refine z_aload_n C dX10_best_151 rfl 0 rfl ?_
      refine z_getr C zf_X10_49 (zo_X_0_5 kn) dX10_best_152 ?_
      obtain ⟨r155, g155, hq155, h⟩ := z_b_some h
      refine z_callVi [] C zc_X10_160 (zk_X_19 kn) rfl (by decide) (Nat.le_of_ble_eq_true rfl) dX10_best_155 rfl (wX5_leastInAll kn ad g145 r155 g155 hq155) ?_
      refine z_ineg C dX10_best_158 ?_
      refine z_goto 163 C dX10_best_159 rfl ?_
      exact z_iret C (z_ret1i h) (z_ret2 h) dX10_best_163
  replace h := z_if hc1_3 h
  refine z_tabOut 164 C dX10_best_1 (z_tabne [0, 1, 2, 3] (by decide) (by decide) (List.forall_mem_cons.mpr ⟨hc1_0, List.forall_mem_cons.mpr ⟨hc1_1, List.forall_mem_cons.mpr ⟨hc1_2, List.forall_mem_cons.mpr ⟨hc1_3, List.forall_mem_nil _⟩⟩⟩⟩)) rfl ?_
  refine z_sipush C dX10_best_164 zcs_m1002 ?_
  exact z_iret C (z_ret1i h) (z_ret2 h) dX10_best_167
set_option maxRecDepth 100000 in
set_option maxHeartbeats 4000000 in
theorem wX10_cheapest (kn : Bool) (ad : Nat → Nat) (v1 : Int32) (g : z_S) (r : Int32) (gE : z_S) (h : fX10_cheapest v1 g = some (r, gE)) : z_M yX10_cheapest cX10_cheapest 2 (some .int) 4 100 (layX kn) (nX kn) ad [.ref (ad 0), .int v1] g (some (.int r)) gE := by
  refine z_enter (by decide) (Nat.le_of_ble_eq_true rfl) (fun F C => ?_)
  replace C : z_X F (layX kn) (nX kn) ad cX10_cheapest RX10 2 (some .int) 4 100 (some (.int r)) gE := C
  show z_W F (layX kn) (nX kn) ad 0 [(0, .ref (ad 0)), (1, .int v1)] [] g
  unfold fX10_cheapest at h
  refine z_aload_n C dX10_cheapest_0 rfl 0 rfl ?_
  refine z_getr C zf_X10_49 (zo_X_0_5 kn) dX10_cheapest_1 ?_
  refine z_iconst C dX10_cheapest_4 zci_1 ?_
  refine z_iconst C dX10_cheapest_5 zci_m1 ?_
  obtain ⟨r6, g6, hq6, h⟩ := z_b_some h
  refine z_callVv [] C zc_X10_140 (zk_X_19 kn) rfl (by decide) (Nat.le_of_ble_eq_true rfl) dX10_cheapest_6 rfl (wX5_measure kn ad 1 (-1) g g6 hq6) ?_
  refine z_aload_n C dX10_cheapest_9 rfl 0 rfl ?_
  refine z_getr C zf_X10_49 (zo_X_0_5 kn) dX10_cheapest_10 ?_
  refine z_lconst C dX10_cheapest_13 zcl_0 ?_
  refine z_iload_n C dX10_cheapest_14 rfl 1 rfl ?_
  obtain ⟨r15, g15, hq15, h⟩ := z_b_some h
  refine z_callVi [] C zc_X10_152 (zk_X_19 kn) rfl (by decide) (Nat.le_of_ble_eq_true rfl) dX10_cheapest_15 rfl (wX5_wordOfLeast kn ad 0 v1 g6 r15 g15 hq15) ?_
  exact z_iret C (z_ret1i h) (z_ret2 h) dX10_cheapest_18
set_option maxRecDepth 100000 in
set_option maxHeartbeats 4000000 in
theorem wX10_end (kn : Bool) (ad : Nat → Nat) (v1 : Int32) (g : z_S) (r : Int32) (gE : z_S) (h : fX10_end v1 g = some (r, gE)) : z_M yX10_end cX10_end 2 (some .int) 4 97 (layX kn) (nX kn) ad [.ref (ad 0), .int v1] g (some (.int r)) gE := by
  refine z_enter (by decide) (Nat.le_of_ble_eq_true rfl) (fun F C => ?_)
  replace C : z_X F (layX kn) (nX kn) ad cX10_end RX10 2 (some .int) 4 97 (some (.int r)) gE := C
  show z_W F (layX kn) (nX kn) ad 0 [(0, .ref (ad 0)), (1, .int v1)] [] g
  unfold fX10_end at h
  refine z_iload_n C dX10_end_0 rfl 1 rfl ?_
  refine z_if_lt 15 C dX10_end_1 rfl (fun hc => ?_) (fun hc => ?_)
  · replace h := z_it hc h
    refine z_sipush C dX10_end_15 zcs_m1002 ?_
    exact z_iret C (z_ret1i h) (z_ret2 h) dX10_end_18
  · replace h := z_if hc h
    refine z_iload_n C dX10_end_4 rfl 1 rfl ?_
    refine z_aload_n C dX10_end_5 rfl 0 rfl ?_
    refine z_getr C zf_X10_32 (zo_X_0_3 kn) dX10_end_6 ?_
    refine z_geti C zf_X10_93 (zo_X_11_1 kn) dX10_end_9 ?_
    refine z_icmp_le 19 C dX10_end_12 rfl (fun hc => ?_) (fun hc => ?_)
    · replace h := z_it hc h
      refine z_aload_n C dX10_end_19 rfl 0 rfl ?_
      refine z_getr C zf_X10_49 (zo_X_0_5 kn) dX10_end_20 ?_
      refine z_iconst C dX10_end_23 zci_4 ?_
      refine z_iload_n C dX10_end_24 rfl 1 rfl ?_
      obtain ⟨r25, g25, hq25, h⟩ := z_b_some h
      refine z_callVv [] C zc_X10_140 (zk_X_19 kn) rfl (by decide) (Nat.le_of_ble_eq_true rfl) dX10_end_25 rfl (wX5_measure kn ad 4 v1 g g25 hq25) ?_
      refine z_aload_n C dX10_end_28 rfl 0 rfl ?_
      refine z_getr C zf_X10_49 (zo_X_0_5 kn) dX10_end_29 ?_
      obtain ⟨r32, g32, hq32, h⟩ := z_b_some h
      refine z_callVi [] C zc_X10_156 (zk_X_19 kn) rfl (by decide) (Nat.le_of_ble_eq_true rfl) dX10_end_32 rfl (wX5_isReadable kn ad g25 r32 g32 hq32) ?_
      refine z_if_ne 40 C dX10_end_35 rfl (fun hc => ?_) (fun hc => ?_)
      · replace h := z_it hc h
        refine z_iconst C dX10_end_38 zci_0 ?_
        exact z_iret C (z_ret1i h) (z_ret2 h) dX10_end_39
      · replace h := z_if hc h
        refine z_iload_n C dX10_end_40 rfl 1 rfl ?_
        refine z_if_eq 54 C dX10_end_41 rfl (fun hc => ?_) (fun hc => ?_)
        · replace h := z_it hc h
          refine z_iconst C dX10_end_54 zci_2 ?_
          exact z_iret C (z_ret1i h) (z_ret2 h) dX10_end_55
        · replace h := z_if hc h
          refine z_aload_n C dX10_end_44 rfl 0 rfl ?_
          refine z_getr C zf_X10_49 (zo_X_0_5 kn) dX10_end_45 ?_
          obtain ⟨r48, g48, hq48, h⟩ := z_b_some h
          refine z_callVi [] C zc_X10_160 (zk_X_19 kn) rfl (by decide) (Nat.le_of_ble_eq_true rfl) dX10_end_48 rfl (wX5_leastInAll kn ad g32 r48 g48 hq48) ?_
          refine z_if_le 56 C dX10_end_51 rfl (fun hc => ?_) (fun hc => ?_)
          · replace h := z_it hc h
            refine z_aload_n C dX10_end_56 rfl 0 rfl ?_
            refine z_getr C zf_X10_49 (zo_X_0_5 kn) dX10_end_57 ?_
            refine z_iconst C dX10_end_60 zci_5 ?_
            refine z_iload_n C dX10_end_61 rfl 1 rfl ?_
            obtain ⟨r62, g62, hq62, h⟩ := z_b_some h
            refine z_callVv [] C zc_X10_140 (zk_X_19 kn) rfl (by decide) (Nat.le_of_ble_eq_true rfl) dX10_end_62 rfl (wX5_measure kn ad 5 v1 g48 g62 hq62) ?_
            refine z_aload_n C dX10_end_65 rfl 0 rfl ?_
            refine z_getr C zf_X10_49 (zo_X_0_5 kn) dX10_end_66 ?_
            obtain ⟨r69, g69, hq69, h⟩ := z_b_some h
            refine z_callVi [] C zc_X10_160 (zk_X_19 kn) rfl (by decide) (Nat.le_of_ble_eq_true rfl) dX10_end_69 rfl (wX5_leastInAll kn ad g62 r69 g69 hq69) ?_
            refine z_if_ge 79 C dX10_end_72 rfl (fun hc => ?_) (fun hc => ?_)
            · replace h := z_it hc h
              refine z_iconst C dX10_end_79 zci_0 ?_
              exact z_iret C (z_ret1i h) (z_ret2 h) dX10_end_80
            · replace h := z_if hc h
              refine z_iconst C dX10_end_75 zci_1 ?_
              refine z_goto 80 C dX10_end_76 rfl ?_
              exact z_iret C (z_ret1i h) (z_ret2 h) dX10_end_80
          · replace h := z_if hc h
            refine z_iconst C dX10_end_54 zci_2 ?_
            exact z_iret C (z_ret1i h) (z_ret2 h) dX10_end_55
    · replace h := z_if hc h
      refine z_sipush C dX10_end_15 zcs_m1002 ?_
      exact z_iret C (z_ret1i h) (z_ret2 h) dX10_end_18
set_option maxRecDepth 100000 in
set_option maxHeartbeats 4000000 in
theorem wX9_liesAt_4_J84 {kn : Bool} {F : z_F} {ad : Nat → Nat} {r : Int32} {gE : z_S} (C : z_X F (layX kn) (nX kn) ad cX9_liesAt RX9 9 (some .boolean) 1 22 (some (.int r)) gE) (rc : (Int32 × Int32 × Int32 × Int32 × Int32 × Int32) → z_S → Option (Int32 × z_S)) (hrc : ∀ (v1 : Int32) (v2 : Int32) (v3 : Int32) (v4 : Int32) (v5 : Int32) (v6 : Int32) (g : z_S), rc (v1, v2, v3, v4, v5, v6) g = some (r, gE) → z_W F (layX kn) (nX kn) ad 39 [(0, .ref (ad 4)), (1, .int v1), (2, .int v2), (3, .int v3), (4, .int v4), (5, .int v5), (6, .int v6)] [] g) (v1 : Int32) (v2 : Int32) (v3 : Int32) (v4 : Int32) (v5 : Int32) (v6 : Int32) (s0 : Int32) (g : z_S) (h : fX9_liesAt_4_J84 rc v1 v2 v3 v4 v5 v6 s0 g = some (r, gE)) : z_W F (layX kn) (nX kn) ad 84 [(0, .ref (ad 4)), (1, .int v1), (2, .int v2), (3, .int v3), (4, .int v4), (5, .int v5), (6, .int v6)] [.int s0] g := by
  unfold fX9_liesAt_4_J84 at h
  refine z_istore C dX9_liesAt_84 (by decide) [(8, .int s0), (0, .ref (ad 4)), (1, .int v1), (2, .int v2), (3, .int v3), (4, .int v4), (5, .int v5), (6, .int v6)] rfl ?_
  refine z_iload C dX9_liesAt_86 0 rfl ?_
  refine z_aload_n C dX9_liesAt_88 rfl 1 rfl ?_
  refine z_iload_n C dX9_liesAt_89 rfl 2 rfl ?_
  refine z_iload C dX9_liesAt_90 7 rfl ?_
  obtain ⟨r92, g92, hq92, h⟩ := z_b_some h
  refine z_callVi [.int s0] C zc_X9_32 (zk_X_4 kn) rfl (by decide) (Nat.le_of_ble_eq_true rfl) dX9_liesAt_92 rfl (wX9_sign_4 kn ad v1 v6 g r92 g92 hq92) ?_
  refine z_icmp_eq 100 C dX9_liesAt_95 rfl (fun hc => ?_) (fun hc => ?_)
  · replace h := z_it hc h
    refine z_iinc C dX9_liesAt_100 (by decide) 7 rfl (z_incl zci_1) [(6, .int (v6 + 1)), (8, .int s0), (0, .ref (ad 4)), (1, .int v1), (2, .int v2), (3, .int v3), (4, .int v4), (5, .int v5)] rfl ?_
    refine z_goto 39 C dX9_liesAt_103 rfl ?_
    refine z_loc [2, 3, 4, 5, 6, 7, 0] rfl ?_
    exact hrc v1 v2 v3 v4 v5 (v6 + 1) g92 h
  · replace h := z_if hc h
    refine z_iconst C dX9_liesAt_98 zci_0 ?_
    exact z_zret C (by decide) (z_ret1i h) (z_ret2 h) dX9_liesAt_99
set_option maxRecDepth 100000 in
set_option maxHeartbeats 4000000 in
theorem wX9_liesAt_4_L39 {kn : Bool} {F : z_F} {ad : Nat → Nat} {r : Int32} {gE : z_S} (C : z_X F (layX kn) (nX kn) ad cX9_liesAt RX9 9 (some .boolean) 1 22 (some (.int r)) gE) : ∀ (n : Nat) (v1 : Int32) (v2 : Int32) (v3 : Int32) (v4 : Int32) (v5 : Int32) (v6 : Int32) (g : z_S), z_loop fX9_liesAt_4_B39 n (v1, v2, v3, v4, v5, v6) g = some (r, gE) → z_W F (layX kn) (nX kn) ad 39 [(0, .ref (ad 4)), (1, .int v1), (2, .int v2), (3, .int v3), (4, .int v4), (5, .int v5), (6, .int v6)] [] g := by
  intro n
  induction n with
  | zero =>
    intro v1 v2 v3 v4 v5 v6 g h
    exact (z_loop_0 h).elim
  | succ n ih =>
    intro v1 v2 v3 v4 v5 v6 g h
    replace h := z_loop_S h
    simp only [fX9_liesAt_4_B39] at h
    refine z_iload C dX9_liesAt_39 6 rfl ?_
    refine z_aload_n C dX9_liesAt_41 rfl 0 rfl ?_
    refine z_getr C zf_X9_15 (zo_X_4_2 kn) dX9_liesAt_42 ?_
    refine z_iload_n C dX9_liesAt_45 rfl 1 rfl ?_
    obtain ⟨hi46, h⟩ := z_g_some h
    refine z_iald C (za_X_6 kn) (z_in_vp hi46) dX9_liesAt_46 ?_
    refine z_icmp_ge 106 C dX9_liesAt_47 rfl (fun hc => ?_) (fun hc => ?_)
    · replace h := z_it hc h
      refine z_iconst C dX9_liesAt_106 zci_1 ?_
      exact z_zret C (by decide) (z_ret1i h) (z_ret2 h) dX9_liesAt_107
    · replace h := z_if hc h
      refine z_iload C dX9_liesAt_50 4 rfl ?_
      refine z_iload C dX9_liesAt_52 6 rfl ?_
      refine z_iadd C dX9_liesAt_54 ?_
      refine z_istore C dX9_liesAt_55 (by decide) [(7, .int (v4 + v6)), (0, .ref (ad 4)), (1, .int v1), (2, .int v2), (3, .int v3), (4, .int v4), (5, .int v5), (6, .int v6)] rfl ?_
      refine z_iload C dX9_liesAt_57 0 rfl ?_
      refine z_iload C dX9_liesAt_59 6 rfl ?_
      refine z_icmp_ge 74 C dX9_liesAt_61 rfl (fun hc => ?_) (fun hc => ?_)
      · replace h := z_it hc h
        refine z_aload_n C dX9_liesAt_74 rfl 1 rfl ?_
        refine z_iload_n C dX9_liesAt_75 rfl 4 rfl ?_
        refine z_iload C dX9_liesAt_76 0 rfl ?_
        refine z_iload C dX9_liesAt_78 6 rfl ?_
        refine z_isub C dX9_liesAt_80 ?_
        obtain ⟨r81, g81, hq81, h⟩ := z_b_some h
        refine z_callVi [] C zc_X9_32 (zk_X_4 kn) rfl (by decide) (Nat.le_of_ble_eq_true rfl) dX9_liesAt_81 rfl (wX9_sign_4 kn ad v3 ((v4 + v6) - v5) g r81 g81 hq81) ?_
        refine z_loc [1, 2, 3, 4, 5, 6, 7] rfl ?_
        exact wX9_liesAt_4_J84 C _ (fun v1 v2 v3 v4 v5 v6 g h => ih v1 v2 v3 v4 v5 v6 g h) v1 v2 v3 v4 v5 v6 r81 g81 h
      · replace h := z_if hc h
        refine z_aload_n C dX9_liesAt_64 rfl 1 rfl ?_
        refine z_iload_n C dX9_liesAt_65 rfl 3 rfl ?_
        refine z_iload C dX9_liesAt_66 0 rfl ?_
        obtain ⟨r68, g68, hq68, h⟩ := z_b_some h
        refine z_callVi [] C zc_X9_32 (zk_X_4 kn) rfl (by decide) (Nat.le_of_ble_eq_true rfl) dX9_liesAt_68 rfl (wX9_sign_4 kn ad v2 (v4 + v6) g r68 g68 hq68) ?_
        refine z_goto 84 C dX9_liesAt_71 rfl ?_
        refine z_loc [1, 2, 3, 4, 5, 6, 7] rfl ?_
        exact wX9_liesAt_4_J84 C _ (fun v1 v2 v3 v4 v5 v6 g h => ih v1 v2 v3 v4 v5 v6 g h) v1 v2 v3 v4 v5 v6 r68 g68 h
set_option maxRecDepth 100000 in
set_option maxHeartbeats 4000000 in
theorem wX9_liesAt_4 (kn : Bool) (ad : Nat → Nat) (v1 : Int32) (v2 : Int32) (v3 : Int32) (v4 : Int32) (g : z_S) (r : Int32) (gE : z_S) (h : fX9_liesAt_4 v1 v2 v3 v4 g = some (r, gE)) : z_M yX9_liesAt cX9_liesAt 9 (some .boolean) 1 22 (layX kn) (nX kn) ad [.ref (ad 4), .int v1, .int v2, .int v3, .int v4] g (some (.int r)) gE := by
  refine z_enter (by decide) (Nat.le_of_ble_eq_true rfl) (fun F C => ?_)
  replace C : z_X F (layX kn) (nX kn) ad cX9_liesAt RX9 9 (some .boolean) 1 22 (some (.int r)) gE := C
  show z_W F (layX kn) (nX kn) ad 0 [(0, .ref (ad 4)), (1, .int v1), (2, .int v2), (3, .int v3), (4, .int v4)] [] g
  unfold fX9_liesAt_4 at h
  refine z_aload_n C dX9_liesAt_0 rfl 0 rfl ?_
  refine z_getr C zf_X9_15 (zo_X_4_2 kn) dX9_liesAt_1 ?_
  refine z_iload_n C dX9_liesAt_4 rfl 2 rfl ?_
  obtain ⟨hi5, h⟩ := z_g_some h
  refine z_iald C (za_X_6 kn) (z_in_vp hi5) dX9_liesAt_5 ?_
  refine z_istore C dX9_liesAt_6 (by decide) [(5, .int (g.1 6 (v2).toNatClampNeg)), (0, .ref (ad 4)), (1, .int v1), (2, .int v2), (3, .int v3), (4, .int v4)] rfl ?_
  refine z_iload C dX9_liesAt_8 5 rfl ?_
  refine z_if_lt 34 C dX9_liesAt_10 rfl (fun hc => ?_) (fun hc => ?_)
  · replace h := z_it hc h
    refine z_iconst C dX9_liesAt_34 zci_0 ?_
    exact z_zret C (by decide) (z_ret1i h) (z_ret2 h) dX9_liesAt_35
  · replace h := z_if hc h
    refine z_iload C dX9_liesAt_13 5 rfl ?_
    refine z_aload_n C dX9_liesAt_15 rfl 1 rfl ?_
    refine z_getr C zf_X9_15 (zo_X_4_2 kn) dX9_liesAt_16 ?_
    refine z_iload_n C dX9_liesAt_19 rfl 2 rfl ?_
    obtain ⟨hi20, h⟩ := z_g_some h
    refine z_iald C (za_X_6 kn) (z_in_vp hi20) dX9_liesAt_20 ?_
    refine z_iadd C dX9_liesAt_21 ?_
    refine z_iload C dX9_liesAt_22 0 rfl ?_
    refine z_aload_n C dX9_liesAt_24 rfl 1 rfl ?_
    refine z_getr C zf_X9_15 (zo_X_4_2 kn) dX9_liesAt_25 ?_
    refine z_iload_n C dX9_liesAt_28 rfl 4 rfl ?_
    obtain ⟨hi29, h⟩ := z_g_some h
    refine z_iald C (za_X_6 kn) (z_in_vp hi29) dX9_liesAt_29 ?_
    refine z_iadd C dX9_liesAt_30 ?_
    refine z_icmp_le 36 C dX9_liesAt_31 rfl (fun hc => ?_) (fun hc => ?_)
    · replace h := z_it hc h
      refine z_iconst C dX9_liesAt_36 zci_0 ?_
      refine z_istore C dX9_liesAt_37 (by decide) [(6, .int 0), (5, .int (g.1 6 (v2).toNatClampNeg)), (0, .ref (ad 4)), (1, .int v1), (2, .int v2), (3, .int v3), (4, .int v4)] rfl ?_
      refine z_loc [2, 3, 4, 5, 6, 1, 0] rfl ?_
      refine wX9_liesAt_4_L39 C  zN v1 v2 v3 v4 (g.1 6 (v2).toNatClampNeg) 0 g h
    · replace h := z_if hc h
      refine z_iconst C dX9_liesAt_34 zci_0 ?_
      exact z_zret C (by decide) (z_ret1i h) (z_ret2 h) dX9_liesAt_35
set_option maxRecDepth 100000 in
set_option maxHeartbeats 4000000 in
theorem wX10_isHiddenIn_J75 {kn : Bool} {F : z_F} {ad : Nat → Nat} {r : Int32} {gE : z_S} (C : z_X F (layX kn) (nX kn) ad cX10_isHiddenIn RX10 7 (some .boolean) 2 50 (some (.int r)) gE) (rc : (Int32 × Int32 × Int32 × Int32 × Int32) → z_S → Option (Int32 × z_S)) (hrc : ∀ (v1 : Int32) (v2 : Int32) (v3 : Int32) (v4 : Int32) (v5 : Int32) (g : z_S), rc (v1, v2, v3, v4, v5) g = some (r, gE) → z_W F (layX kn) (nX kn) ad 34 [(0, .ref (ad 0)), (1, .int v1), (2, .int v2), (3, .int v3), (4, .int v4), (5, .int v5)] [] g) (v1 : Int32) (v2 : Int32) (v3 : Int32) (v4 : Int32) (v5 : Int32) (s0 : Int32) (g : z_S) (h : fX10_isHiddenIn_J75 rc v1 v2 v3 v4 v5 s0 g = some (r, gE)) : z_W F (layX kn) (nX kn) ad 75 [(0, .ref (ad 0)), (1, .int v1), (2, .int v2), (3, .int v3), (4, .int v4), (5, .int v5)] [.int s0] g := by
  unfold fX10_isHiddenIn_J75 at h
  refine z_istore C dX10_isHiddenIn_75 (by decide) [(6, .int s0), (0, .ref (ad 0)), (1, .int v1), (2, .int v2), (3, .int v3), (4, .int v4), (5, .int v5)] rfl ?_
  refine z_iload C dX10_isHiddenIn_77 0 rfl ?_
  refine z_if_ne 99 C dX10_isHiddenIn_79 rfl (fun hc => ?_) (fun hc => ?_)
  · replace h := z_it hc h
    refine z_aload_n C dX10_isHiddenIn_82 rfl 1 rfl ?_
    refine z_getr C zf_X10_19 (zo_X_0_1 kn) dX10_isHiddenIn_83 ?_
    refine z_iload_n C dX10_isHiddenIn_86 rfl 2 rfl ?_
    refine z_iload_n C dX10_isHiddenIn_87 rfl 3 rfl ?_
    refine z_iload_n C dX10_isHiddenIn_88 rfl 4 rfl ?_
    refine z_iload C dX10_isHiddenIn_89 6 rfl ?_
    obtain ⟨r91, g91, hq91, h⟩ := z_b_some h
    refine z_callVi [] C zc_X10_259 (zk_X_4 kn) rfl (by decide) (Nat.le_of_ble_eq_true rfl) dX10_isHiddenIn_91 rfl (wX9_liesAt_4 kn ad v1 v2 v3 v5 g r91 g91 hq91) ?_
    refine z_if_eq 99 C dX10_isHiddenIn_94 rfl (fun hc => ?_) (fun hc => ?_)
    · replace h := z_it hc h
      refine z_iinc C dX10_isHiddenIn_99 (by decide) 6 rfl (z_incl zci_1) [(5, .int (v5 + 1)), (6, .int s0), (0, .ref (ad 0)), (1, .int v1), (2, .int v2), (3, .int v3), (4, .int v4)] rfl ?_
      refine z_goto 34 C dX10_isHiddenIn_102 rfl ?_
      refine z_loc [2, 3, 4, 5, 6, 0] rfl ?_
      exact hrc v1 v2 v3 v4 (v5 + 1) g91 h
    · replace h := z_if hc h
      refine z_iconst C dX10_isHiddenIn_97 zci_1 ?_
      exact z_zret C (by decide) (z_ret1i h) (z_ret2 h) dX10_isHiddenIn_98
  · replace h := z_if hc h
    refine z_iinc C dX10_isHiddenIn_99 (by decide) 6 rfl (z_incl zci_1) [(5, .int (v5 + 1)), (6, .int s0), (0, .ref (ad 0)), (1, .int v1), (2, .int v2), (3, .int v3), (4, .int v4)] rfl ?_
    refine z_goto 34 C dX10_isHiddenIn_102 rfl ?_
    refine z_loc [2, 3, 4, 5, 6, 0] rfl ?_
    exact hrc v1 v2 v3 v4 (v5 + 1) g h
set_option maxRecDepth 100000 in
set_option maxHeartbeats 4000000 in
theorem wX10_isHiddenIn_J51 {kn : Bool} {F : z_F} {ad : Nat → Nat} {r : Int32} {gE : z_S} (C : z_X F (layX kn) (nX kn) ad cX10_isHiddenIn RX10 7 (some .boolean) 2 50 (some (.int r)) gE) (rc : (Int32 × Int32 × Int32 × Int32 × Int32) → z_S → Option (Int32 × z_S)) (hrc : ∀ (v1 : Int32) (v2 : Int32) (v3 : Int32) (v4 : Int32) (v5 : Int32) (g : z_S), rc (v1, v2, v3, v4, v5) g = some (r, gE) → z_W F (layX kn) (nX kn) ad 34 [(0, .ref (ad 0)), (1, .int v1), (2, .int v2), (3, .int v3), (4, .int v4), (5, .int v5)] [] g) (v1 : Int32) (v2 : Int32) (v3 : Int32) (v4 : Int32) (v5 : Int32) (g : z_S) (h : fX10_isHiddenIn_J51 rc v1 v2 v3 v4 v5 g = some (r, gE)) : z_W F (layX kn) (nX kn) ad 51 [(0, .ref (ad 0)), (1, .int v1), (2, .int v2), (3, .int v3), (4, .int v4), (5, .int v5)] [] g := by
  unfold fX10_isHiddenIn_J51 at h
  refine z_iload C dX10_isHiddenIn_51 5 rfl ?_
  refine z_aload_n C dX10_isHiddenIn_53 rfl 0 rfl ?_
  refine z_getr C zf_X10_19 (zo_X_0_1 kn) dX10_isHiddenIn_54 ?_
  refine z_getr C zf_X10_125 (zo_X_4_2 kn) dX10_isHiddenIn_57 ?_
  refine z_iload_n C dX10_isHiddenIn_60 rfl 2 rfl ?_
  obtain ⟨hi61, h⟩ := z_g_some h
  refine z_iald C (za_X_6 kn) (z_in_vp hi61) dX10_isHiddenIn_61 ?_
  refine z_icmp_ne 74 C dX10_isHiddenIn_62 rfl (fun hc => ?_) (fun hc => ?_)
  · replace h := z_it hc h
    refine z_iload_n C dX10_isHiddenIn_65 rfl 1 rfl ?_
    refine z_iload_n C dX10_isHiddenIn_66 rfl 3 rfl ?_
    refine z_icmp_ne 74 C dX10_isHiddenIn_67 rfl (fun hc => ?_) (fun hc => ?_)
    · replace h := z_it hc h
      refine z_iconst C dX10_isHiddenIn_70 zci_1 ?_
      refine z_goto 75 C dX10_isHiddenIn_71 rfl ?_
      exact wX10_isHiddenIn_J75 C _ hrc v1 v2 v3 v4 v5 1 g h
    · replace h := z_if hc h
      refine z_iconst C dX10_isHiddenIn_74 zci_0 ?_
      exact wX10_isHiddenIn_J75 C _ hrc v1 v2 v3 v4 v5 0 g h
  · replace h := z_if hc h
    refine z_iconst C dX10_isHiddenIn_74 zci_0 ?_
    exact wX10_isHiddenIn_J75 C _ hrc v1 v2 v3 v4 v5 0 g h
set_option maxRecDepth 100000 in
set_option maxHeartbeats 4000000 in
theorem wX10_isHiddenIn_L34 {kn : Bool} {F : z_F} {ad : Nat → Nat} {r : Int32} {gE : z_S} (C : z_X F (layX kn) (nX kn) ad cX10_isHiddenIn RX10 7 (some .boolean) 2 50 (some (.int r)) gE) : ∀ (n : Nat) (v1 : Int32) (v2 : Int32) (v3 : Int32) (v4 : Int32) (v5 : Int32) (g : z_S), z_loop fX10_isHiddenIn_B34 n (v1, v2, v3, v4, v5) g = some (r, gE) → z_W F (layX kn) (nX kn) ad 34 [(0, .ref (ad 0)), (1, .int v1), (2, .int v2), (3, .int v3), (4, .int v4), (5, .int v5)] [] g := by
  intro n
  induction n with
  | zero =>
    intro v1 v2 v3 v4 v5 g h
    exact (z_loop_0 h).elim
  | succ n ih =>
    intro v1 v2 v3 v4 v5 g h
    replace h := z_loop_S h
    simp only [fX10_isHiddenIn_B34] at h
    refine z_iload C dX10_isHiddenIn_34 5 rfl ?_
    refine z_iload C dX10_isHiddenIn_36 4 rfl ?_
    refine z_icmp_gt 105 C dX10_isHiddenIn_38 rfl (fun hc => ?_) (fun hc => ?_)
    · replace h := z_it hc h
      refine z_iconst C dX10_isHiddenIn_105 zci_0 ?_
      exact z_zret C (by decide) (z_ret1i h) (z_ret2 h) dX10_isHiddenIn_106
    · replace h := z_if hc h
      refine z_iload C dX10_isHiddenIn_41 5 rfl ?_
      refine z_if_ne 51 C dX10_isHiddenIn_43 rfl (fun hc => ?_) (fun hc => ?_)
      · replace h := z_it hc h
        refine z_iload_n C dX10_isHiddenIn_46 rfl 1 rfl ?_
        refine z_iload_n C dX10_isHiddenIn_47 rfl 2 rfl ?_
        refine z_icmp_eq 70 C dX10_isHiddenIn_48 rfl (fun hc => ?_) (fun hc => ?_)
        · replace h := z_it hc h
          refine z_iconst C dX10_isHiddenIn_70 zci_1 ?_
          refine z_goto 75 C dX10_isHiddenIn_71 rfl ?_
          exact wX10_isHiddenIn_J75 C _ (fun v1 v2 v3 v4 v5 g h => ih v1 v2 v3 v4 v5 g h) v1 v2 v3 v4 v5 1 g h
        · replace h := z_if hc h
          exact wX10_isHiddenIn_J51 C _ (fun v1 v2 v3 v4 v5 g h => ih v1 v2 v3 v4 v5 g h) v1 v2 v3 v4 v5 g h
      · replace h := z_if hc h
        exact wX10_isHiddenIn_J51 C _ (fun v1 v2 v3 v4 v5 g h => ih v1 v2 v3 v4 v5 g h) v1 v2 v3 v4 v5 g h
set_option maxRecDepth 100000 in
set_option maxHeartbeats 4000000 in
theorem wX10_isHiddenIn (kn : Bool) (ad : Nat → Nat) (v1 : Int32) (v2 : Int32) (v3 : Int32) (g : z_S) (r : Int32) (gE : z_S) (h : fX10_isHiddenIn v1 v2 v3 g = some (r, gE)) : z_M yX10_isHiddenIn cX10_isHiddenIn 7 (some .boolean) 2 50 (layX kn) (nX kn) ad [.ref (ad 0), .int v1, .int v2, .int v3] g (some (.int r)) gE := by
  refine z_enter (by decide) (Nat.le_of_ble_eq_true rfl) (fun F C => ?_)
  replace C : z_X F (layX kn) (nX kn) ad cX10_isHiddenIn RX10 7 (some .boolean) 2 50 (some (.int r)) gE := C
  show z_W F (layX kn) (nX kn) ad 0 [(0, .ref (ad 0)), (1, .int v1), (2, .int v2), (3, .int v3)] [] g
  unfold fX10_isHiddenIn at h
  refine z_aload_n C dX10_isHiddenIn_0 rfl 0 rfl ?_
  refine z_getr C zf_X10_19 (zo_X_0_1 kn) dX10_isHiddenIn_1 ?_
  refine z_getr C zf_X10_125 (zo_X_4_2 kn) dX10_isHiddenIn_4 ?_
  refine z_iload_n C dX10_isHiddenIn_7 rfl 2 rfl ?_
  obtain ⟨hi8, h⟩ := z_g_some h
  refine z_iald C (za_X_6 kn) (z_in_vp hi8) dX10_isHiddenIn_8 ?_
  refine z_aload_n C dX10_isHiddenIn_9 rfl 0 rfl ?_
  refine z_getr C zf_X10_19 (zo_X_0_1 kn) dX10_isHiddenIn_10 ?_
  refine z_getr C zf_X10_125 (zo_X_4_2 kn) dX10_isHiddenIn_13 ?_
  refine z_iload_n C dX10_isHiddenIn_16 rfl 3 rfl ?_
  obtain ⟨hi17, h⟩ := z_g_some h
  refine z_iald C (za_X_6 kn) (z_in_vp hi17) dX10_isHiddenIn_17 ?_
  refine z_iadd C dX10_isHiddenIn_18 ?_
  refine z_aload_n C dX10_isHiddenIn_19 rfl 0 rfl ?_
  refine z_getr C zf_X10_19 (zo_X_0_1 kn) dX10_isHiddenIn_20 ?_
  refine z_getr C zf_X10_125 (zo_X_4_2 kn) dX10_isHiddenIn_23 ?_
  refine z_iload_n C dX10_isHiddenIn_26 rfl 1 rfl ?_
  obtain ⟨hi27, h⟩ := z_g_some h
  refine z_iald C (za_X_6 kn) (z_in_vp hi27) dX10_isHiddenIn_27 ?_
  refine z_isub C dX10_isHiddenIn_28 ?_
  refine z_istore C dX10_isHiddenIn_29 (by decide) [(4, .int (((g.1 6 (v2).toNatClampNeg) + (g.1 6 (v3).toNatClampNeg)) - (g.1 6 (v1).toNatClampNeg))), (0, .ref (ad 0)), (1, .int v1), (2, .int v2), (3, .int v3)] rfl ?_
  refine z_iconst C dX10_isHiddenIn_31 zci_0 ?_
  refine z_istore C dX10_isHiddenIn_32 (by decide) [(5, .int 0), (4, .int (((g.1 6 (v2).toNatClampNeg) + (g.1 6 (v3).toNatClampNeg)) - (g.1 6 (v1).toNatClampNeg))), (0, .ref (ad 0)), (1, .int v1), (2, .int v2), (3, .int v3)] rfl ?_
  refine z_loc [2, 3, 4, 5, 1, 0] rfl ?_
  refine wX10_isHiddenIn_L34 C  zN v1 v2 v3 (((g.1 6 (v2).toNatClampNeg) + (g.1 6 (v3).toNatClampNeg)) - (g.1 6 (v1).toNatClampNeg)) 0 g h
set_option maxRecDepth 100000 in
set_option maxHeartbeats 4000000 in
theorem wX10_isHidden_L15 {kn : Bool} {F : z_F} {ad : Nat → Nat} {r : Int32} {gE : z_S} (C : z_X F (layX kn) (nX kn) ad cX10_isHidden RX10 4 (some .boolean) 3 76 (some (.int r)) gE) (k44 : Int32 → Int32 → z_S → Option (Int32 × z_S)) (hk44 : ∀ (v1 : Int32) (v2 : Int32) (g : z_S), k44 v1 v2 g = some (r, gE) → z_W F (layX kn) (nX kn) ad 44 [(0, .ref (ad 0)), (1, .int v1), (2, .int v2)] [] g) : ∀ (n : Nat) (v1 : Int32) (v2 : Int32) (v3 : Int32) (g : z_S), z_loop (fX10_isHidden_B15 k44) n (v1, v2, v3) g = some (r, gE) → z_W F (layX kn) (nX kn) ad 15 [(0, .ref (ad 0)), (1, .int v1), (2, .int v2), (3, .int v3)] [] g := by
  intro n
  induction n with
  | zero =>
    intro v1 v2 v3 g h
    exact (z_loop_0 h).elim
  | succ n ih =>
    intro v1 v2 v3 g h
    replace h := z_loop_S h
    simp only [fX10_isHidden_B15] at h
    refine z_iload_n C dX10_isHidden_15 rfl 3 rfl ?_
    refine z_aload_n C dX10_isHidden_16 rfl 0 rfl ?_
    refine z_getr C zf_X10_19 (zo_X_0_1 kn) dX10_isHidden_17 ?_
    refine z_geti C zf_X10_89 (zo_X_4_0 kn) dX10_isHidden_20 ?_
    refine z_icmp_ge 44 C dX10_isHidden_23 rfl (fun hc => ?_) (fun hc => ?_)
    · replace h := z_it hc h
      refine z_loc [0, 1, 2] rfl ?_
      exact hk44 v1 v2 g h
    · replace h := z_if hc h
      refine z_aload_n C dX10_isHidden_26 rfl 0 rfl ?_
      refine z_iload_n C dX10_isHidden_27 rfl 1 rfl ?_
      refine z_iload_n C dX10_isHidden_28 rfl 2 rfl ?_
      refine z_iload_n C dX10_isHidden_29 rfl 3 rfl ?_
      obtain ⟨r30, g30, hq30, h⟩ := z_b_some h
      refine z_callVi [] C zc_X10_266 (zk_X_0 kn) rfl (by decide) (Nat.le_of_ble_eq_true rfl) dX10_isHidden_30 rfl (wX10_isHiddenIn kn ad v1 v2 v3 g r30 g30 hq30) ?_
      refine z_if_eq 38 C dX10_isHidden_33 rfl (fun hc => ?_) (fun hc => ?_)
      · replace h := z_it hc h
        refine z_iinc C dX10_isHidden_38 (by decide) 3 rfl (z_incl zci_1) [(3, .int (v3 + 1)), (0, .ref (ad 0)), (1, .int v1), (2, .int v2)] rfl ?_
        refine z_goto 15 C dX10_isHidden_41 rfl ?_
        refine z_loc [1, 2, 3, 0] rfl ?_
        exact ih v1 v2 (v3 + 1) g30 h
      · replace h := z_if hc h
        refine z_iconst C dX10_isHidden_36 zci_1 ?_
        exact z_zret C (by decide) (z_ret1i h) (z_ret2 h) dX10_isHidden_37
set_option maxRecDepth 100000 in
set_option maxHeartbeats 4000000 in
theorem wX10_isHidden_L2 {kn : Bool} {F : z_F} {ad : Nat → Nat} {r : Int32} {gE : z_S} (C : z_X F (layX kn) (nX kn) ad cX10_isHidden RX10 4 (some .boolean) 3 76 (some (.int r)) gE) : ∀ (n : Nat) (v1 : Int32) (v2 : Int32) (g : z_S), z_loop fX10_isHidden_B2 n (v1, v2) g = some (r, gE) → z_W F (layX kn) (nX kn) ad 2 [(0, .ref (ad 0)), (1, .int v1), (2, .int v2)] [] g := by
  intro n
  induction n with
  | zero =>
    intro v1 v2 g h
    exact (z_loop_0 h).elim
  | succ n ih =>
    intro v1 v2 g h
    replace h := z_loop_S h
    simp only [fX10_isHidden_B2] at h
    refine z_iload_n C dX10_isHidden_2 rfl 2 rfl ?_
    refine z_aload_n C dX10_isHidden_3 rfl 0 rfl ?_
    refine z_getr C zf_X10_19 (zo_X_0_1 kn) dX10_isHidden_4 ?_
    refine z_geti C zf_X10_89 (zo_X_4_0 kn) dX10_isHidden_7 ?_
    refine z_icmp_ge 50 C dX10_isHidden_10 rfl (fun hc => ?_) (fun hc => ?_)
    · replace h := z_it hc h
      refine z_iconst C dX10_isHidden_50 zci_0 ?_
      exact z_zret C (by decide) (z_ret1i h) (z_ret2 h) dX10_isHidden_51
    · replace h := z_if hc h
      refine z_iconst C dX10_isHidden_13 zci_0 ?_
      refine z_istore_n C dX10_isHidden_14 rfl (by decide) [(3, .int 0), (0, .ref (ad 0)), (1, .int v1), (2, .int v2)] rfl ?_
      refine z_loc [1, 2, 3, 0] rfl ?_
      refine wX10_isHidden_L15 C _ ?_ zN v1 v2 0 g h
      · intro v1 v2 g h
        refine z_iinc C dX10_isHidden_44 (by decide) 2 rfl (z_incl zci_1) [(2, .int (v2 + 1)), (0, .ref (ad 0)), (1, .int v1)] rfl ?_
        refine z_goto 2 C dX10_isHidden_47 rfl ?_
        refine z_loc [1, 2, 0] rfl ?_
        exact ih v1 (v2 + 1) g h
set_option maxRecDepth 100000 in
set_option maxHeartbeats 4000000 in
theorem wX10_isHidden (kn : Bool) (ad : Nat → Nat) (v1 : Int32) (g : z_S) (r : Int32) (gE : z_S) (h : fX10_isHidden v1 g = some (r, gE)) : z_M yX10_isHidden cX10_isHidden 4 (some .boolean) 3 76 (layX kn) (nX kn) ad [.ref (ad 0), .int v1] g (some (.int r)) gE := by
  refine z_enter (by decide) (Nat.le_of_ble_eq_true rfl) (fun F C => ?_)
  replace C : z_X F (layX kn) (nX kn) ad cX10_isHidden RX10 4 (some .boolean) 3 76 (some (.int r)) gE := C
  show z_W F (layX kn) (nX kn) ad 0 [(0, .ref (ad 0)), (1, .int v1)] [] g
  unfold fX10_isHidden at h
  refine z_iconst C dX10_isHidden_0 zci_0 ?_
  refine z_istore_n C dX10_isHidden_1 rfl (by decide) [(2, .int 0), (0, .ref (ad 0)), (1, .int v1)] rfl ?_
  refine z_loc [1, 2, 0] rfl ?_
  refine wX10_isHidden_L2 C  zN v1 0 g h
set_option maxRecDepth 100000 in
set_option maxHeartbeats 4000000 in
theorem wX10_countHidden_L4 {kn : Bool} {F : z_F} {ad : Nat → Nat} {r : Int32} {gE : z_S} (C : z_X F (layX kn) (nX kn) ad cX10_countHidden RX10 3 (some .int) 4 99 (some (.int r)) gE) : ∀ (n : Nat) (v1 : Int32) (v2 : Int32) (g : z_S), z_loop fX10_countHidden_B4 n (v1, v2) g = some (r, gE) → z_W F (layX kn) (nX kn) ad 4 [(0, .ref (ad 0)), (1, .int v1), (2, .int v2)] [] g := by
  intro n
  induction n with
  | zero =>
    intro v1 v2 g h
    exact (z_loop_0 h).elim
  | succ n ih =>
    intro v1 v2 g h
    replace h := z_loop_S h
    simp only [fX10_countHidden_B4] at h
    refine z_iload_n C dX10_countHidden_4 rfl 2 rfl ?_
    refine z_aload_n C dX10_countHidden_5 rfl 0 rfl ?_
    refine z_getr C zf_X10_19 (zo_X_0_1 kn) dX10_countHidden_6 ?_
    refine z_geti C zf_X10_89 (zo_X_4_0 kn) dX10_countHidden_9 ?_
    refine z_icmp_ge 32 C dX10_countHidden_12 rfl (fun hc => ?_) (fun hc => ?_)
    · replace h := z_it hc h
      refine z_iload_n C dX10_countHidden_32 rfl 1 rfl ?_
      exact z_iret C (z_ret1i h) (z_ret2 h) dX10_countHidden_33
    · replace h := z_if hc h
      refine z_aload_n C dX10_countHidden_15 rfl 0 rfl ?_
      refine z_iload_n C dX10_countHidden_16 rfl 2 rfl ?_
      obtain ⟨r17, g17, hq17, h⟩ := z_b_some h
      refine z_callVi [] C zc_X10_263 (zk_X_0 kn) rfl (by decide) (Nat.le_of_ble_eq_true rfl) dX10_countHidden_17 rfl (wX10_isHidden kn ad v2 g r17 g17 hq17) ?_
      refine z_if_eq 26 C dX10_countHidden_20 rfl (fun hc => ?_) (fun hc => ?_)
      · replace h := z_it hc h
        refine z_iinc C dX10_countHidden_26 (by decide) 2 rfl (z_incl zci_1) [(2, .int (v2 + 1)), (0, .ref (ad 0)), (1, .int v1)] rfl ?_
        refine z_goto 4 C dX10_countHidden_29 rfl ?_
        refine z_loc [1, 2, 0] rfl ?_
        exact ih v1 (v2 + 1) g17 h
      · replace h := z_if hc h
        refine z_iinc C dX10_countHidden_23 (by decide) 1 rfl (z_incl zci_1) [(1, .int (v1 + 1)), (0, .ref (ad 0)), (2, .int v2)] rfl ?_
        refine z_iinc C dX10_countHidden_26 (by decide) 2 rfl (z_incl zci_1) [(2, .int (v2 + 1)), (1, .int (v1 + 1)), (0, .ref (ad 0))] rfl ?_
        refine z_goto 4 C dX10_countHidden_29 rfl ?_
        refine z_loc [2, 1, 0] rfl ?_
        exact ih (v1 + 1) (v2 + 1) g17 h
set_option maxRecDepth 100000 in
set_option maxHeartbeats 4000000 in
theorem wX10_countHidden (kn : Bool) (ad : Nat → Nat) (g : z_S) (r : Int32) (gE : z_S) (h : fX10_countHidden g = some (r, gE)) : z_M yX10_countHidden cX10_countHidden 3 (some .int) 4 99 (layX kn) (nX kn) ad [.ref (ad 0)] g (some (.int r)) gE := by
  refine z_enter (by decide) (Nat.le_of_ble_eq_true rfl) (fun F C => ?_)
  replace C : z_X F (layX kn) (nX kn) ad cX10_countHidden RX10 3 (some .int) 4 99 (some (.int r)) gE := C
  show z_W F (layX kn) (nX kn) ad 0 [(0, .ref (ad 0))] [] g
  unfold fX10_countHidden at h
  refine z_iconst C dX10_countHidden_0 zci_0 ?_
  refine z_istore_n C dX10_countHidden_1 rfl (by decide) [(1, .int 0), (0, .ref (ad 0))] rfl ?_
  refine z_iconst C dX10_countHidden_2 zci_0 ?_
  refine z_istore_n C dX10_countHidden_3 rfl (by decide) [(2, .int 0), (1, .int 0), (0, .ref (ad 0))] rfl ?_
  refine z_loc [2, 1, 0] rfl ?_
  refine wX10_countHidden_L4 C  zN 0 0 g h
set_option maxRecDepth 100000 in
set_option maxHeartbeats 4000000 in
theorem wX10_countPairs_J76 {kn : Bool} {F : z_F} {ad : Nat → Nat} {r : Int32} {gE : z_S} (C : z_X F (layX kn) (nX kn) ad cX10_countPairs RX10 6 (some .int) 2 50 (some (.int r)) gE) (rc : (Int32 × Int32 × Int32 × Int32) → z_S → Option (Int32 × z_S)) (hrc : ∀ (v1 : Int32) (v2 : Int32) (v3 : Int32) (v4 : Int32) (g : z_S), rc (v1, v2, v3, v4) g = some (r, gE) → z_W F (layX kn) (nX kn) ad 18 [(0, .ref (ad 0)), (1, .int v1), (2, .int v2), (3, .int v3), (4, .int v4)] [] g) (v1 : Int32) (v2 : Int32) (v3 : Int32) (v4 : Int32) (s0 : Int32) (s1 : Int32) (s2 : Int32) (s3 : Int32) (g : z_S) (h : fX10_countPairs_J76 rc v1 v2 v3 v4 s0 s1 s2 s3 g = some (r, gE)) : z_W F (layX kn) (nX kn) ad 76 [(0, .ref (ad 0)), (1, .int v1), (2, .int v2), (3, .int v3), (4, .int v4)] [.int s0, .int s1, .int s2, .int s3, .ref (ad 4)] g := by
  unfold fX10_countPairs_J76 at h
  obtain ⟨r76, g76, hq76, h⟩ := z_b_some h
  refine z_callVi [] C zc_X10_259 (zk_X_4 kn) rfl (by decide) (Nat.le_of_ble_eq_true rfl) dX10_countPairs_76 rfl (wX9_liesAt_4 kn ad s3 s2 s1 s0 g r76 g76 hq76) ?_
  refine z_if_eq 85 C dX10_countPairs_79 rfl (fun hc => ?_) (fun hc => ?_)
  · replace h := z_it hc h
    refine z_iinc C dX10_countPairs_85 (by decide) 4 rfl (z_incl zci_1) [(4, .int (v4 + 1)), (0, .ref (ad 0)), (1, .int v1), (2, .int v2), (3, .int v3)] rfl ?_
    refine z_goto 18 C dX10_countPairs_88 rfl ?_
    refine z_loc [1, 2, 3, 4, 0] rfl ?_
    exact hrc v1 v2 v3 (v4 + 1) g76 h
  · replace h := z_if hc h
    refine z_iinc C dX10_countPairs_82 (by decide) 2 rfl (z_incl zci_1) [(2, .int (v2 + 1)), (0, .ref (ad 0)), (1, .int v1), (3, .int v3), (4, .int v4)] rfl ?_
    refine z_iinc C dX10_countPairs_85 (by decide) 4 rfl (z_incl zci_1) [(4, .int (v4 + 1)), (2, .int (v2 + 1)), (0, .ref (ad 0)), (1, .int v1), (3, .int v3)] rfl ?_
    refine z_goto 18 C dX10_countPairs_88 rfl ?_
    refine z_loc [2, 3, 1, 4, 0] rfl ?_
    exact hrc v1 (v2 + 1) v3 (v4 + 1) g76 h
set_option maxRecDepth 100000 in
set_option maxHeartbeats 4000000 in
theorem wX10_countPairs_L18 {kn : Bool} {F : z_F} {ad : Nat → Nat} {r : Int32} {gE : z_S} (C : z_X F (layX kn) (nX kn) ad cX10_countPairs RX10 6 (some .int) 2 50 (some (.int r)) gE) (k91 : Int32 → Int32 → Int32 → z_S → Option (Int32 × z_S)) (hk91 : ∀ (v1 : Int32) (v2 : Int32) (v3 : Int32) (g : z_S), k91 v1 v2 v3 g = some (r, gE) → z_W F (layX kn) (nX kn) ad 91 [(0, .ref (ad 0)), (1, .int v1), (2, .int v2), (3, .int v3)] [] g) : ∀ (n : Nat) (v1 : Int32) (v2 : Int32) (v3 : Int32) (v4 : Int32) (g : z_S), z_loop (fX10_countPairs_B18 k91) n (v1, v2, v3, v4) g = some (r, gE) → z_W F (layX kn) (nX kn) ad 18 [(0, .ref (ad 0)), (1, .int v1), (2, .int v2), (3, .int v3), (4, .int v4)] [] g := by
  intro n
  induction n with
  | zero =>
    intro v1 v2 v3 v4 g h
    exact (z_loop_0 h).elim
  | succ n ih =>
    intro v1 v2 v3 v4 g h
    replace h := z_loop_S h
    simp only [fX10_countPairs_B18] at h
    refine z_iload C dX10_countPairs_18 4 rfl ?_
    refine z_aload_n C dX10_countPairs_20 rfl 0 rfl ?_
    refine z_getr C zf_X10_19 (zo_X_0_1 kn) dX10_countPairs_21 ?_
    refine z_geti C zf_X10_89 (zo_X_4_0 kn) dX10_countPairs_24 ?_
    refine z_icmp_ge 91 C dX10_countPairs_27 rfl (fun hc => ?_) (fun hc => ?_)
    · replace h := z_it hc h
      refine z_loc [0, 1, 2, 3] rfl ?_
      exact hk91 v1 v2 v3 g h
    · replace h := z_if hc h
      refine z_aload_n C dX10_countPairs_30 rfl 0 rfl ?_
      refine z_getr C zf_X10_19 (zo_X_0_1 kn) dX10_countPairs_31 ?_
      refine z_getr C zf_X10_125 (zo_X_4_2 kn) dX10_countPairs_34 ?_
      refine z_iload C dX10_countPairs_37 4 rfl ?_
      obtain ⟨hi39, h⟩ := z_g_some h
      refine z_iald C (za_X_6 kn) (z_in_vp hi39) dX10_countPairs_39 ?_
      refine z_aload_n C dX10_countPairs_40 rfl 0 rfl ?_
      refine z_getr C zf_X10_19 (zo_X_0_1 kn) dX10_countPairs_41 ?_
      refine z_getr C zf_X10_125 (zo_X_4_2 kn) dX10_countPairs_44 ?_
      refine z_iload_n C dX10_countPairs_47 rfl 3 rfl ?_
      obtain ⟨hi48, h⟩ := z_g_some h
      refine z_iald C (za_X_6 kn) (z_in_vp hi48) dX10_countPairs_48 ?_
      refine z_isub C dX10_countPairs_49 ?_
      refine z_istore C dX10_countPairs_50 (by decide) [(5, .int ((g.1 6 (v4).toNatClampNeg) - (g.1 6 (v3).toNatClampNeg))), (0, .ref (ad 0)), (1, .int v1), (2, .int v2), (3, .int v3), (4, .int v4)] rfl ?_
      refine z_iload C dX10_countPairs_52 0 rfl ?_
      refine z_if_le 85 C dX10_countPairs_54 rfl (fun hc => ?_) (fun hc => ?_)
      · replace h := z_it hc h
        refine z_iinc C dX10_countPairs_85 (by decide) 5 rfl (z_incl zci_1) [(4, .int (v4 + 1)), (5, .int ((g.1 6 (v4).toNatClampNeg) - (g.1 6 (v3).toNatClampNeg))), (0, .ref (ad 0)), (1, .int v1), (2, .int v2), (3, .int v3)] rfl ?_
        refine z_goto 18 C dX10_countPairs_88 rfl ?_
        refine z_loc [2, 3, 4, 5, 0] rfl ?_
        exact ih v1 v2 v3 (v4 + 1) g h
      · replace h := z_if hc h
        refine z_aload_n C dX10_countPairs_57 rfl 1 rfl ?_
        refine z_getr C zf_X10_19 (zo_X_0_1 kn) dX10_countPairs_58 ?_
        refine z_iload_n C dX10_countPairs_61 rfl 4 rfl ?_
        refine z_iload C dX10_countPairs_62 5 rfl ?_
        refine z_iload C dX10_countPairs_64 5 rfl ?_
        refine z_iload_n C dX10_countPairs_66 rfl 2 rfl ?_
        refine z_if_eq 74 C dX10_countPairs_67 rfl (fun hc => ?_) (fun hc => ?_)
        · replace h := z_it hc h
          refine z_iload C dX10_countPairs_74 0 rfl ?_
          refine z_loc [1, 2, 3, 4, 5] rfl ?_
          exact wX10_countPairs_J76 C _ (fun v1 v2 v3 v4 g h => ih v1 v2 v3 v4 g h) v1 v2 v3 v4 ((g.1 6 (v4).toNatClampNeg) - (g.1 6 (v3).toNatClampNeg)) v4 v4 v3 g h
        · replace h := z_if hc h
          refine z_iconst C dX10_countPairs_70 zci_0 ?_
          refine z_goto 76 C dX10_countPairs_71 rfl ?_
          refine z_loc [1, 2, 3, 4, 5] rfl ?_
          exact wX10_countPairs_J76 C _ (fun v1 v2 v3 v4 g h => ih v1 v2 v3 v4 g h) v1 v2 v3 v4 0 v4 v4 v3 g h
set_option maxRecDepth 100000 in
set_option maxHeartbeats 4000000 in
theorem wX10_countPairs_L4 {kn : Bool} {F : z_F} {ad : Nat → Nat} {r : Int32} {gE : z_S} (C : z_X F (layX kn) (nX kn) ad cX10_countPairs RX10 6 (some .int) 2 50 (some (.int r)) gE) : ∀ (n : Nat) (v1 : Int32) (v2 : Int32) (v3 : Int32) (g : z_S), z_loop fX10_countPairs_B4 n (v1, v2, v3) g = some (r, gE) → z_W F (layX kn) (nX kn) ad 4 [(0, .ref (ad 0)), (1, .int v1), (2, .int v2), (3, .int v3)] [] g := by
  intro n
  induction n with
  | zero =>
    intro v1 v2 v3 g h
    exact (z_loop_0 h).elim
  | succ n ih =>
    intro v1 v2 v3 g h
    replace h := z_loop_S h
    simp only [fX10_countPairs_B4] at h
    refine z_iload_n C dX10_countPairs_4 rfl 3 rfl ?_
    refine z_aload_n C dX10_countPairs_5 rfl 0 rfl ?_
    refine z_getr C zf_X10_19 (zo_X_0_1 kn) dX10_countPairs_6 ?_
    refine z_geti C zf_X10_89 (zo_X_4_0 kn) dX10_countPairs_9 ?_
    refine z_icmp_ge 97 C dX10_countPairs_12 rfl (fun hc => ?_) (fun hc => ?_)
    · replace h := z_it hc h
      refine z_iload_n C dX10_countPairs_97 rfl 2 rfl ?_
      exact z_iret C (z_ret1i h) (z_ret2 h) dX10_countPairs_98
    · replace h := z_if hc h
      refine z_iconst C dX10_countPairs_15 zci_0 ?_
      refine z_istore C dX10_countPairs_16 (by decide) [(4, .int 0), (0, .ref (ad 0)), (1, .int v1), (2, .int v2), (3, .int v3)] rfl ?_
      refine z_loc [1, 2, 3, 4, 0] rfl ?_
      refine wX10_countPairs_L18 C _ ?_ zN v1 v2 v3 0 g h
      · intro v1 v2 v3 g h
        refine z_iinc C dX10_countPairs_91 (by decide) 3 rfl (z_incl zci_1) [(3, .int (v3 + 1)), (0, .ref (ad 0)), (1, .int v1), (2, .int v2)] rfl ?_
        refine z_goto 4 C dX10_countPairs_94 rfl ?_
        refine z_loc [1, 2, 3, 0] rfl ?_
        exact ih v1 v2 (v3 + 1) g h
set_option maxRecDepth 100000 in
set_option maxHeartbeats 4000000 in
theorem wX10_countPairs (kn : Bool) (ad : Nat → Nat) (v1 : Int32) (g : z_S) (r : Int32) (gE : z_S) (h : fX10_countPairs v1 g = some (r, gE)) : z_M yX10_countPairs cX10_countPairs 6 (some .int) 2 50 (layX kn) (nX kn) ad [.ref (ad 0), .int v1] g (some (.int r)) gE := by
  refine z_enter (by decide) (Nat.le_of_ble_eq_true rfl) (fun F C => ?_)
  replace C : z_X F (layX kn) (nX kn) ad cX10_countPairs RX10 6 (some .int) 2 50 (some (.int r)) gE := C
  show z_W F (layX kn) (nX kn) ad 0 [(0, .ref (ad 0)), (1, .int v1)] [] g
  unfold fX10_countPairs at h
  refine z_iconst C dX10_countPairs_0 zci_0 ?_
  refine z_istore_n C dX10_countPairs_1 rfl (by decide) [(2, .int 0), (0, .ref (ad 0)), (1, .int v1)] rfl ?_
  refine z_iconst C dX10_countPairs_2 zci_0 ?_
  refine z_istore_n C dX10_countPairs_3 rfl (by decide) [(3, .int 0), (2, .int 0), (0, .ref (ad 0)), (1, .int v1)] rfl ?_
  refine z_loc [2, 3, 1, 0] rfl ?_
  refine wX10_countPairs_L4 C  zN v1 0 0 g h
set_option maxRecDepth 100000 in
set_option maxHeartbeats 4000000 in
theorem wX10_within (kn : Bool) (ad : Nat → Nat) (v1 : Int32) (g : z_S) (r : Int32) (gE : z_S) (h : fX10_within v1 g = some (r, gE)) : z_M yX10_within cX10_within 2 (some .int) 5 121 (layX kn) (nX kn) ad [.ref (ad 0), .int v1] g (some (.int r)) gE := by
  refine z_enter (by decide) (Nat.le_of_ble_eq_true rfl) (fun F C => ?_)
  replace C : z_X F (layX kn) (nX kn) ad cX10_within RX10 2 (some .int) 5 121 (some (.int r)) gE := C
  show z_W F (layX kn) (nX kn) ad 0 [(0, .ref (ad 0)), (1, .int v1)] [] g
  unfold fX10_within at h
  refine z_iload_n C dX10_within_0 rfl 1 rfl ?_
  by_cases hc1_0 : v1 = 0
  · replace h := z_it hc1_0 h
    refine z_tabIn (off := 27) 0 28 C dX10_within_1 hc1_0 (by decide) (by decide) (by decide) rfl ?_
    refine z_aload_n C dX10_within_28 rfl 0 rfl ?_
    refine z_iconst C dX10_within_29 zci_1 ?_
    obtain ⟨r30, g30, hq30, h⟩ := z_b_some h
    refine z_callVi [] C zc_X10_165 (zk_X_0 kn) rfl (by decide) (Nat.le_of_ble_eq_true rfl) dX10_within_30 rfl (wX10_countPairs kn ad 1 g r30 g30 hq30) ?_
    exact z_iret C (z_ret1i h) (z_ret2 h) dX10_within_33
  replace h := z_if hc1_0 h
  by_cases hc1_1 : v1 = 1
  · replace h := z_it hc1_1 h
    refine z_tabIn (off := 33) 1 34 C dX10_within_1 hc1_1 (by decide) (by decide) (by decide) rfl ?_
    refine z_aload_n C dX10_within_34 rfl 0 rfl ?_
    refine z_iconst C dX10_within_35 zci_0 ?_
    obtain ⟨r36, g36, hq36, h⟩ := z_b_some h
    refine z_callVi [] C zc_X10_165 (zk_X_0 kn) rfl (by decide) (Nat.le_of_ble_eq_true rfl) dX10_within_36 rfl (wX10_countPairs kn ad 0 g r36 g36 hq36) ?_
    exact z_iret C (z_ret1i h) (z_ret2 h) dX10_within_39
  replace h := z_if hc1_1 h
  by_cases hc1_2 : v1 = 2
  · replace h := z_it hc1_2 h
    refine z_tabIn (off := 39) 2 40 C dX10_within_1 hc1_2 (by decide) (by decide) (by decide) rfl ?_
    refine z_aload_n C dX10_within_40 rfl 0 rfl ?_
    obtain ⟨r41, g41, hq41, h⟩ := z_b_some h
    refine z_callVi [] C zc_X10_169 (zk_X_0 kn) rfl (by decide) (Nat.le_of_ble_eq_true rfl) dX10_within_41 rfl (wX10_countHidden kn ad g r41 g41 hq41) ?_
    exact z_iret C (z_ret1i h) (z_ret2 h) dX10_within_44
  replace h := z_if hc1_2 h
  refine z_tabOut 45 C dX10_within_1 (z_tabne [0, 1, 2] (by decide) (by decide) (List.forall_mem_cons.mpr ⟨hc1_0, List.forall_mem_cons.mpr ⟨hc1_1, List.forall_mem_cons.mpr ⟨hc1_2, List.forall_mem_nil _⟩⟩⟩)) rfl ?_
  refine z_sipush C dX10_within_45 zcs_m1002 ?_
  exact z_iret C (z_ret1i h) (z_ret2 h) dX10_within_48
set_option maxRecDepth 100000 in
set_option maxHeartbeats 4000000 in
theorem wX10_states (ad : Nat → Nat) (g : z_S) (gE : z_S) (h : fX10_states g = some ((), gE)) : z_M yX10_states cX10_states 1 (some (.object "RunTogether$Knowing")) 0 0 (layX true) (nX true) ad [.ref (ad 0)] g (some (.ref (ad 47))) gE := by
  refine z_enter (by decide) (Nat.le_of_ble_eq_true rfl) (fun F C => ?_)
  replace C : z_X F (layX true) (nX true) ad cX10_states RX10 1 (some (.object "RunTogether$Knowing")) 0 0 (some (.ref (ad 47))) gE := C
  show z_W F (layX true) (nX true) ad 0 [(0, .ref (ad 0))] [] g
  unfold fX10_states at h
  refine z_aload_n C dX10_states_0 rfl 0 rfl ?_
  refine z_getr C zf_X10_244 zo_K_0_11 dX10_states_1 ?_
  refine z_ifnn 26 C dX10_states_4 rfl ?_
  refine z_aload_n C dX10_states_26 rfl 0 rfl ?_
  refine z_getr C zf_X10_244 zo_K_0_11 dX10_states_27 ?_
  exact z_aret C rfl (z_ret2 h) dX10_states_30
set_option maxRecDepth 100000 in
set_option maxHeartbeats 4000000 in
theorem wX4_empty_58 (ad : Nat → Nat) (g : z_S) (gE : z_S) (h : fX4_empty_58 g = some ((), gE)) : z_M yX4_empty cX4_empty 1 none 0 0 (layX true) (nX true) ad [.ref (ad 58)] g none gE := by
  refine z_enter (by decide) (Nat.le_of_ble_eq_true rfl) (fun F C => ?_)
  replace C : z_X F (layX true) (nX true) ad cX4_empty RX4 1 none 0 0 none gE := C
  show z_W F (layX true) (nX true) ad 0 [(0, .ref (ad 58))] [] g
  unfold fX4_empty_58 at h
  refine z_aload_n C dX4_empty_0 rfl 0 rfl ?_
  refine z_lconst C dX4_empty_1 zcl_0 ?_
  obtain ⟨g2, eg2, h⟩ := z_s_some h
  refine z_putl C zp_X4_9 zo_K_58_0 dX4_empty_2 ?_
  refine z_gw eg2 ?_
  refine z_aload_n C dX4_empty_5 rfl 0 rfl ?_
  refine z_lconst C dX4_empty_6 zcl_0 ?_
  obtain ⟨g7, eg7, h⟩ := z_s_some h
  refine z_putl C zp_X4_19 zo_K_58_1 dX4_empty_7 ?_
  refine z_gw eg7 ?_
  exact z_vret C rfl (z_ret2 h) dX4_empty_10
set_option maxRecDepth 100000 in
set_option maxHeartbeats 4000000 in
theorem wX4_empty_59 (ad : Nat → Nat) (g : z_S) (gE : z_S) (h : fX4_empty_59 g = some ((), gE)) : z_M yX4_empty cX4_empty 1 none 0 0 (layX true) (nX true) ad [.ref (ad 59)] g none gE := by
  refine z_enter (by decide) (Nat.le_of_ble_eq_true rfl) (fun F C => ?_)
  replace C : z_X F (layX true) (nX true) ad cX4_empty RX4 1 none 0 0 none gE := C
  show z_W F (layX true) (nX true) ad 0 [(0, .ref (ad 59))] [] g
  unfold fX4_empty_59 at h
  refine z_aload_n C dX4_empty_0 rfl 0 rfl ?_
  refine z_lconst C dX4_empty_1 zcl_0 ?_
  obtain ⟨g2, eg2, h⟩ := z_s_some h
  refine z_putl C zp_X4_9 zo_K_59_0 dX4_empty_2 ?_
  refine z_gw eg2 ?_
  refine z_aload_n C dX4_empty_5 rfl 0 rfl ?_
  refine z_lconst C dX4_empty_6 zcl_0 ?_
  obtain ⟨g7, eg7, h⟩ := z_s_some h
  refine z_putl C zp_X4_19 zo_K_59_1 dX4_empty_7 ?_
  refine z_gw eg7 ?_
  exact z_vret C rfl (z_ret2 h) dX4_empty_10
set_option maxRecDepth 100000 in
set_option maxHeartbeats 4000000 in
theorem wX4_lowBit (ad : Nat → Nat) (v0 : Int32) (g : z_S) (r : Int64) (gE : z_S) (h : fX4_lowBit v0 g = some (r, gE)) : z_M yX4_lowBit cX4_lowBit 1 (some .long) 0 0 (layX true) (nX true) ad [.int v0] g (some (.long r)) gE := by
  refine z_enter (by decide) (Nat.le_of_ble_eq_true rfl) (fun F C => ?_)
  replace C : z_X F (layX true) (nX true) ad cX4_lowBit RX4 1 (some .long) 0 0 (some (.long r)) gE := C
  show z_W F (layX true) (nX true) ad 0 [(0, .int v0)] [] g
  unfold fX4_lowBit at h
  refine z_iload_n C dX4_lowBit_0 rfl 0 rfl ?_
  refine z_bipush C dX4_lowBit_1 zcb_64 ?_
  refine z_icmp_ge 12 C dX4_lowBit_3 rfl (fun hc => ?_) (fun hc => ?_)
  · replace h := z_it hc h
    refine z_lconst C dX4_lowBit_12 zcl_0 ?_
    exact z_lret C (z_ret1l h) (z_ret2 h) dX4_lowBit_13
  · replace h := z_if hc h
    refine z_lconst C dX4_lowBit_6 zcl_1 ?_
    refine z_iload_n C dX4_lowBit_7 rfl 0 rfl ?_
    refine z_lshl C dX4_lowBit_8 ?_
    refine z_goto 13 C dX4_lowBit_9 rfl ?_
    exact z_lret C (z_ret1l h) (z_ret2 h) dX4_lowBit_13
set_option maxRecDepth 100000 in
set_option maxHeartbeats 4000000 in
theorem wX4_highBit (ad : Nat → Nat) (v0 : Int32) (g : z_S) (r : Int64) (gE : z_S) (h : fX4_highBit v0 g = some (r, gE)) : z_M yX4_highBit cX4_highBit 1 (some .long) 0 0 (layX true) (nX true) ad [.int v0] g (some (.long r)) gE := by
  refine z_enter (by decide) (Nat.le_of_ble_eq_true rfl) (fun F C => ?_)
  replace C : z_X F (layX true) (nX true) ad cX4_highBit RX4 1 (some .long) 0 0 (some (.long r)) gE := C
  show z_W F (layX true) (nX true) ad 0 [(0, .int v0)] [] g
  unfold fX4_highBit at h
  refine z_iload_n C dX4_highBit_0 rfl 0 rfl ?_
  refine z_bipush C dX4_highBit_1 zcb_64 ?_
  refine z_icmp_ge 10 C dX4_highBit_3 rfl (fun hc => ?_) (fun hc => ?_)
  · replace h := z_it hc h
    refine z_lconst C dX4_highBit_10 zcl_1 ?_
    refine z_iload_n C dX4_highBit_11 rfl 0 rfl ?_
    refine z_bipush C dX4_highBit_12 zcb_64 ?_
    refine z_isub C dX4_highBit_14 ?_
    refine z_lshl C dX4_highBit_15 ?_
    exact z_lret C (z_ret1l h) (z_ret2 h) dX4_highBit_16
  · replace h := z_if hc h
    refine z_lconst C dX4_highBit_6 zcl_0 ?_
    refine z_goto 16 C dX4_highBit_7 rfl ?_
    exact z_lret C (z_ret1l h) (z_ret2 h) dX4_highBit_16
set_option maxRecDepth 100000 in
set_option maxHeartbeats 4000000 in
theorem wX4_add_58 (ad : Nat → Nat) (v1 : Int32) (g : z_S) (gE : z_S) (h : fX4_add_58 v1 g = some ((), gE)) : z_M yX4_add cX4_add 2 none 1 20 (layX true) (nX true) ad [.ref (ad 58), .int v1] g none gE := by
  refine z_enter (by decide) (Nat.le_of_ble_eq_true rfl) (fun F C => ?_)
  replace C : z_X F (layX true) (nX true) ad cX4_add RX4 2 none 1 20 none gE := C
  show z_W F (layX true) (nX true) ad 0 [(0, .ref (ad 58)), (1, .int v1)] [] g
  unfold fX4_add_58 at h
  refine z_aload_n C dX4_add_0 rfl 0 rfl ?_
  refine z_dup C dX4_add_1 rfl ?_
  refine z_getl C zf_X4_9 zo_K_58_0 dX4_add_2 ?_
  refine z_iload_n C dX4_add_5 rfl 1 rfl ?_
  obtain ⟨r6, g6, hq6, h⟩ := z_b_some h
  refine z_callSl [.long (g.2 58 0), .ref (ad 58)] C zc_X4_15 rfl (by decide) (Nat.le_of_ble_eq_true rfl) dX4_add_6 rfl (wX4_lowBit ad v1 g r6 g6 hq6) ?_
  refine z_lor C dX4_add_9 ?_
  obtain ⟨g10, eg10, h⟩ := z_s_some h
  refine z_putl C zp_X4_9 zo_K_58_0 dX4_add_10 ?_
  refine z_gw eg10 ?_
  refine z_aload_n C dX4_add_13 rfl 0 rfl ?_
  refine z_dup C dX4_add_14 rfl ?_
  refine z_getl C zf_X4_19 zo_K_58_1 dX4_add_15 ?_
  refine z_iload_n C dX4_add_18 rfl 1 rfl ?_
  obtain ⟨r19, g19, hq19, h⟩ := z_b_some h
  refine z_callSl [.long (g10.2 58 1), .ref (ad 58)] C zc_X4_22 rfl (by decide) (Nat.le_of_ble_eq_true rfl) dX4_add_19 rfl (wX4_highBit ad v1 g10 r19 g19 hq19) ?_
  refine z_lor C dX4_add_22 ?_
  obtain ⟨g23, eg23, h⟩ := z_s_some h
  refine z_putl C zp_X4_19 zo_K_58_1 dX4_add_23 ?_
  refine z_gw eg23 ?_
  exact z_vret C rfl (z_ret2 h) dX4_add_26
set_option maxRecDepth 100000 in
set_option maxHeartbeats 4000000 in
theorem wX4_add_59 (ad : Nat → Nat) (v1 : Int32) (g : z_S) (gE : z_S) (h : fX4_add_59 v1 g = some ((), gE)) : z_M yX4_add cX4_add 2 none 1 20 (layX true) (nX true) ad [.ref (ad 59), .int v1] g none gE := by
  refine z_enter (by decide) (Nat.le_of_ble_eq_true rfl) (fun F C => ?_)
  replace C : z_X F (layX true) (nX true) ad cX4_add RX4 2 none 1 20 none gE := C
  show z_W F (layX true) (nX true) ad 0 [(0, .ref (ad 59)), (1, .int v1)] [] g
  unfold fX4_add_59 at h
  refine z_aload_n C dX4_add_0 rfl 0 rfl ?_
  refine z_dup C dX4_add_1 rfl ?_
  refine z_getl C zf_X4_9 zo_K_59_0 dX4_add_2 ?_
  refine z_iload_n C dX4_add_5 rfl 1 rfl ?_
  obtain ⟨r6, g6, hq6, h⟩ := z_b_some h
  refine z_callSl [.long (g.2 59 0), .ref (ad 59)] C zc_X4_15 rfl (by decide) (Nat.le_of_ble_eq_true rfl) dX4_add_6 rfl (wX4_lowBit ad v1 g r6 g6 hq6) ?_
  refine z_lor C dX4_add_9 ?_
  obtain ⟨g10, eg10, h⟩ := z_s_some h
  refine z_putl C zp_X4_9 zo_K_59_0 dX4_add_10 ?_
  refine z_gw eg10 ?_
  refine z_aload_n C dX4_add_13 rfl 0 rfl ?_
  refine z_dup C dX4_add_14 rfl ?_
  refine z_getl C zf_X4_19 zo_K_59_1 dX4_add_15 ?_
  refine z_iload_n C dX4_add_18 rfl 1 rfl ?_
  obtain ⟨r19, g19, hq19, h⟩ := z_b_some h
  refine z_callSl [.long (g10.2 59 1), .ref (ad 59)] C zc_X4_22 rfl (by decide) (Nat.le_of_ble_eq_true rfl) dX4_add_19 rfl (wX4_highBit ad v1 g10 r19 g19 hq19) ?_
  refine z_lor C dX4_add_22 ?_
  obtain ⟨g23, eg23, h⟩ := z_s_some h
  refine z_putl C zp_X4_19 zo_K_59_1 dX4_add_23 ?_
  refine z_gw eg23 ?_
  exact z_vret C rfl (z_ret2 h) dX4_add_26
set_option maxRecDepth 100000 in
set_option maxHeartbeats 4000000 in
theorem wX1_layOut_L16 {F : z_F} {ad : Nat → Nat} {gE : z_S} (C : z_X F (layX true) (nX true) ad cX1_layOut RX1 5 none 2 41 none gE) (k42 : z_S → Option (Unit × z_S)) (hk42 : ∀ (g : z_S), k42 g = some ((), gE) → z_W F (layX true) (nX true) ad 42 [(0, .ref (ad 47))] [] g) : ∀ (n : Nat) (v1 : Int32) (g : z_S), z_loop (fX1_layOut_B16 k42) n v1 g = some ((), gE) → z_W F (layX true) (nX true) ad 16 [(0, .ref (ad 47)), (1, .int v1)] [] g := by
  intro n
  induction n with
  | zero =>
    intro v1 g h
    exact (z_loop_0 h).elim
  | succ n ih =>
    intro v1 g h
    replace h := z_loop_S h
    simp only [fX1_layOut_B16] at h
    refine z_iload_n C dX1_layOut_16 rfl 1 rfl ?_
    refine z_bipush C dX1_layOut_17 zcb_8 ?_
    refine z_icmp_ge 42 C dX1_layOut_19 rfl (fun hc => ?_) (fun hc => ?_)
    · replace h := z_it hc h
      refine z_loc [0] rfl ?_
      exact hk42 g h
    · replace h := z_if hc h
      refine z_aload_n C dX1_layOut_22 rfl 0 rfl ?_
      refine z_getr C zf_X1_37 zo_K_47_11 dX1_layOut_23 ?_
      refine z_iload_n C dX1_layOut_26 rfl 1 rfl ?_
      refine z_lconst C dX1_layOut_27 zcl_0 ?_
      obtain ⟨hi28, h⟩ := z_g_some h
      obtain ⟨g28, eg28, h⟩ := z_s_some h
      refine z_last C za_K_56 (z_in_vp hi28) dX1_layOut_28 ?_
      refine z_gw eg28 ?_
      refine z_aload_n C dX1_layOut_29 rfl 0 rfl ?_
      refine z_getr C zf_X1_40 zo_K_47_12 dX1_layOut_30 ?_
      refine z_iload_n C dX1_layOut_33 rfl 1 rfl ?_
      refine z_lconst C dX1_layOut_34 zcl_0 ?_
      obtain ⟨hi35, h⟩ := z_g_some h
      obtain ⟨g35, eg35, h⟩ := z_s_some h
      refine z_last C za_K_57 (z_in_vp hi35) dX1_layOut_35 ?_
      refine z_gw eg35 ?_
      refine z_iinc C dX1_layOut_36 (by decide) 1 rfl (z_incl zci_1) [(1, .int (v1 + 1)), (0, .ref (ad 47))] rfl ?_
      refine z_goto 16 C dX1_layOut_39 rfl ?_
      refine z_loc [1, 0] rfl ?_
      exact ih (v1 + 1) g35 h
set_option maxRecDepth 100000 in
set_option maxHeartbeats 4000000 in
theorem wX1_layOut_L67 {F : z_F} {ad : Nat → Nat} {gE : z_S} (C : z_X F (layX true) (nX true) ad cX1_layOut RX1 5 none 2 41 none gE) (k128 : Int32 → Int32 → z_S → Option (Unit × z_S)) (hk128 : ∀ (v1 : Int32) (v2 : Int32) (g : z_S), k128 v1 v2 g = some ((), gE) → z_W F (layX true) (nX true) ad 128 [(0, .ref (ad 47)), (1, .int v1), (2, .int v2)] [] g) : ∀ (n : Nat) (v1 : Int32) (v2 : Int32) (v3 : Int32) (g : z_S), z_loop (fX1_layOut_B67 k128) n (v1, v2, v3) g = some ((), gE) → z_W F (layX true) (nX true) ad 67 [(0, .ref (ad 47)), (1, .int v1), (2, .int v2), (3, .int v3)] [] g := by
  intro n
  induction n with
  | zero =>
    intro v1 v2 v3 g h
    exact (z_loop_0 h).elim
  | succ n ih =>
    intro v1 v2 v3 g h
    replace h := z_loop_S h
    simp only [fX1_layOut_B67] at h
    refine z_iload_n C dX1_layOut_67 rfl 3 rfl ?_
    refine z_aload_n C dX1_layOut_68 rfl 0 rfl ?_
    refine z_getr C zf_X1_56 zo_K_47_0 dX1_layOut_69 ?_
    refine z_getr C zf_X1_149 (zo_X_4_2 true) dX1_layOut_72 ?_
    refine z_iload_n C dX1_layOut_75 rfl 2 rfl ?_
    obtain ⟨hi76, h⟩ := z_g_some h
    refine z_iald C (za_X_6 true) (z_in_vp hi76) dX1_layOut_76 ?_
    refine z_icmp_ge 128 C dX1_layOut_77 rfl (fun hc => ?_) (fun hc => ?_)
    · replace h := z_it hc h
      refine z_loc [0, 1, 2] rfl ?_
      exact hk128 v1 v2 g h
    · replace h := z_if hc h
      refine z_aload_n C dX1_layOut_80 rfl 0 rfl ?_
      refine z_getr C zf_X1_56 zo_K_47_0 dX1_layOut_81 ?_
      refine z_iload_n C dX1_layOut_84 rfl 2 rfl ?_
      refine z_iload_n C dX1_layOut_85 rfl 3 rfl ?_
      obtain ⟨r86, g86, hq86, h⟩ := z_b_some h
      refine z_callVi [] C zc_X1_152 (zk_X_4 true) rfl (by decide) (Nat.le_of_ble_eq_true rfl) dX1_layOut_86 rfl (wX9_sign_4 true ad v2 v3 g r86 g86 hq86) ?_
      refine z_istore C dX1_layOut_89 (by decide) [(4, .int r86), (0, .ref (ad 47)), (1, .int v1), (2, .int v2), (3, .int v3)] rfl ?_
      refine z_aload_n C dX1_layOut_91 rfl 1 rfl ?_
      refine z_getr C zf_X1_37 zo_K_47_11 dX1_layOut_92 ?_
      refine z_iload C dX1_layOut_95 0 rfl ?_
      refine z_dup2 C dX1_layOut_97 rfl rfl ?_
      obtain ⟨hi98, h⟩ := z_g_some h
      refine z_lald C za_K_56 (z_in_vp hi98) dX1_layOut_98 ?_
      refine z_iload_n C dX1_layOut_99 rfl 2 rfl ?_
      obtain ⟨r100, g100, hq100, h⟩ := z_b_some h
      refine z_callSl [.long (g86.2 56 (r86).toNatClampNeg), .int r86, .ref (ad 56)] C zc_X1_156 rfl (by decide) (Nat.le_of_ble_eq_true rfl) dX1_layOut_100 rfl (wX4_lowBit ad v1 g86 r100 g100 hq100) ?_
      refine z_lor C dX1_layOut_103 ?_
      obtain ⟨hi104, h⟩ := z_g_some h
      obtain ⟨g104, eg104, h⟩ := z_s_some h
      refine z_last C za_K_56 (z_in_vp hi104) dX1_layOut_104 ?_
      refine z_gw eg104 ?_
      refine z_aload_n C dX1_layOut_105 rfl 1 rfl ?_
      refine z_getr C zf_X1_40 zo_K_47_12 dX1_layOut_106 ?_
      refine z_iload C dX1_layOut_109 0 rfl ?_
      refine z_dup2 C dX1_layOut_111 rfl rfl ?_
      obtain ⟨hi112, h⟩ := z_g_some h
      refine z_lald C za_K_57 (z_in_vp hi112) dX1_layOut_112 ?_
      refine z_iload_n C dX1_layOut_113 rfl 2 rfl ?_
      obtain ⟨r114, g114, hq114, h⟩ := z_b_some h
      refine z_callSl [.long (g104.2 57 (r86).toNatClampNeg), .int r86, .ref (ad 57)] C zc_X1_160 rfl (by decide) (Nat.le_of_ble_eq_true rfl) dX1_layOut_114 rfl (wX4_highBit ad v1 g104 r114 g114 hq114) ?_
      refine z_lor C dX1_layOut_117 ?_
      obtain ⟨hi118, h⟩ := z_g_some h
      obtain ⟨g118, eg118, h⟩ := z_s_some h
      refine z_last C za_K_57 (z_in_vp hi118) dX1_layOut_118 ?_
      refine z_gw eg118 ?_
      refine z_iinc C dX1_layOut_119 (by decide) 2 rfl (z_incl zci_1) [(1, .int (v1 + 1)), (4, .int r86), (0, .ref (ad 47)), (2, .int v2), (3, .int v3)] rfl ?_
      refine z_iinc C dX1_layOut_122 (by decide) 4 rfl (z_incl zci_1) [(3, .int (v3 + 1)), (1, .int (v1 + 1)), (4, .int r86), (0, .ref (ad 47)), (2, .int v2)] rfl ?_
      refine z_goto 67 C dX1_layOut_125 rfl ?_
      refine z_loc [3, 1, 4, 0] rfl ?_
      exact ih (v1 + 1) v2 (v3 + 1) g118 h
set_option maxRecDepth 100000 in
set_option maxHeartbeats 4000000 in
theorem wX1_layOut_L46 {F : z_F} {ad : Nat → Nat} {gE : z_S} (C : z_X F (layX true) (nX true) ad cX1_layOut RX1 5 none 2 41 none gE) : ∀ (n : Nat) (v1 : Int32) (v2 : Int32) (g : z_S), z_loop fX1_layOut_B46 n (v1, v2) g = some ((), gE) → z_W F (layX true) (nX true) ad 46 [(0, .ref (ad 47)), (1, .int v1), (2, .int v2)] [] g := by
  intro n
  induction n with
  | zero =>
    intro v1 v2 g h
    exact (z_loop_0 h).elim
  | succ n ih =>
    intro v1 v2 g h
    replace h := z_loop_S h
    simp only [fX1_layOut_B46] at h
    refine z_iload_n C dX1_layOut_46 rfl 2 rfl ?_
    refine z_aload_n C dX1_layOut_47 rfl 0 rfl ?_
    refine z_getr C zf_X1_56 zo_K_47_0 dX1_layOut_48 ?_
    refine z_geti C zf_X1_142 (zo_X_4_0 true) dX1_layOut_51 ?_
    refine z_icmp_ge 144 C dX1_layOut_54 rfl (fun hc => ?_) (fun hc => ?_)
    · replace h := z_it hc h
      exact z_vret C rfl (z_ret2 h) dX1_layOut_144
    · replace h := z_if hc h
      refine z_aload_n C dX1_layOut_57 rfl 0 rfl ?_
      refine z_getr C zf_X1_46 zo_K_47_13 dX1_layOut_58 ?_
      refine z_iload_n C dX1_layOut_61 rfl 1 rfl ?_
      obtain ⟨r62, g62, hq62, h⟩ := z_b_some h
      refine z_callVv [] C zc_X1_145 zk_K_58 rfl (by decide) (Nat.le_of_ble_eq_true rfl) dX1_layOut_62 rfl (wX4_add_58 ad v1 g g62 hq62) ?_
      refine z_iconst C dX1_layOut_65 zci_0 ?_
      refine z_istore_n C dX1_layOut_66 rfl (by decide) [(3, .int 0), (0, .ref (ad 47)), (1, .int v1), (2, .int v2)] rfl ?_
      refine z_loc [1, 2, 3, 0] rfl ?_
      refine wX1_layOut_L67 C _ ?_ zN v1 v2 0 g62 h
      · intro v1 v2 g h
        refine z_aload_n C dX1_layOut_128 rfl 0 rfl ?_
        refine z_getr C zf_X1_50 zo_K_47_14 dX1_layOut_129 ?_
        refine z_iload_n C dX1_layOut_132 rfl 1 rfl ?_
        refine z_iconst C dX1_layOut_133 zci_1 ?_
        refine z_isub C dX1_layOut_134 ?_
        obtain ⟨r135, g135, hq135, h⟩ := z_b_some h
        refine z_callVv [] C zc_X1_145 zk_K_59 rfl (by decide) (Nat.le_of_ble_eq_true rfl) dX1_layOut_135 rfl (wX4_add_59 ad (v1 - 1) g g135 hq135) ?_
        refine z_iinc C dX1_layOut_138 (by decide) 2 rfl (z_incl zci_1) [(2, .int (v2 + 1)), (0, .ref (ad 47)), (1, .int v1)] rfl ?_
        refine z_goto 46 C dX1_layOut_141 rfl ?_
        refine z_loc [1, 2, 0] rfl ?_
        exact ih v1 (v2 + 1) g135 h
set_option maxRecDepth 100000 in
set_option maxHeartbeats 4000000 in
theorem wX1_layOut (ad : Nat → Nat) (g : z_S) (gE : z_S) (h : fX1_layOut g = some ((), gE)) : z_M yX1_layOut cX1_layOut 5 none 2 41 (layX true) (nX true) ad [.ref (ad 47)] g none gE := by
  refine z_enter (by decide) (Nat.le_of_ble_eq_true rfl) (fun F C => ?_)
  replace C : z_X F (layX true) (nX true) ad cX1_layOut RX1 5 none 2 41 none gE := C
  show z_W F (layX true) (nX true) ad 0 [(0, .ref (ad 47))] [] g
  unfold fX1_layOut at h
  refine z_aload_n C dX1_layOut_0 rfl 0 rfl ?_
  refine z_getr C zf_X1_46 zo_K_47_13 dX1_layOut_1 ?_
  obtain ⟨r4, g4, hq4, h⟩ := z_b_some h
  refine z_callVv [] C zc_X1_97 zk_K_58 rfl (by decide) (Nat.le_of_ble_eq_true rfl) dX1_layOut_4 rfl (wX4_empty_58 ad g g4 hq4) ?_
  refine z_aload_n C dX1_layOut_7 rfl 0 rfl ?_
  refine z_getr C zf_X1_50 zo_K_47_14 dX1_layOut_8 ?_
  obtain ⟨r11, g11, hq11, h⟩ := z_b_some h
  refine z_callVv [] C zc_X1_97 zk_K_59 rfl (by decide) (Nat.le_of_ble_eq_true rfl) dX1_layOut_11 rfl (wX4_empty_59 ad g4 g11 hq11) ?_
  refine z_iconst C dX1_layOut_14 zci_0 ?_
  refine z_istore_n C dX1_layOut_15 rfl (by decide) [(1, .int 0), (0, .ref (ad 47))] rfl ?_
  refine z_loc [1, 0] rfl ?_
  refine wX1_layOut_L16 C _ ?_ zN 0 g11 h
  · intro g h
    refine z_iconst C dX1_layOut_42 zci_0 ?_
    refine z_istore_n C dX1_layOut_43 rfl (by decide) [(1, .int 0), (0, .ref (ad 47))] rfl ?_
    refine z_iconst C dX1_layOut_44 zci_0 ?_
    refine z_istore_n C dX1_layOut_45 rfl (by decide) [(2, .int 0), (1, .int 0), (0, .ref (ad 47))] rfl ?_
    refine z_loc [2, 1, 0] rfl ?_
    refine wX1_layOut_L46 C  zN 0 0 g h
set_option maxRecDepth 100000 in
set_option maxHeartbeats 4000000 in
theorem wX4_empty_60 (ad : Nat → Nat) (g : z_S) (gE : z_S) (h : fX4_empty_60 g = some ((), gE)) : z_M yX4_empty cX4_empty 1 none 0 0 (layX true) (nX true) ad [.ref (ad 60)] g none gE := by
  refine z_enter (by decide) (Nat.le_of_ble_eq_true rfl) (fun F C => ?_)
  replace C : z_X F (layX true) (nX true) ad cX4_empty RX4 1 none 0 0 none gE := C
  show z_W F (layX true) (nX true) ad 0 [(0, .ref (ad 60))] [] g
  unfold fX4_empty_60 at h
  refine z_aload_n C dX4_empty_0 rfl 0 rfl ?_
  refine z_lconst C dX4_empty_1 zcl_0 ?_
  obtain ⟨g2, eg2, h⟩ := z_s_some h
  refine z_putl C zp_X4_9 zo_K_60_0 dX4_empty_2 ?_
  refine z_gw eg2 ?_
  refine z_aload_n C dX4_empty_5 rfl 0 rfl ?_
  refine z_lconst C dX4_empty_6 zcl_0 ?_
  obtain ⟨g7, eg7, h⟩ := z_s_some h
  refine z_putl C zp_X4_19 zo_K_60_1 dX4_empty_7 ?_
  refine z_gw eg7 ?_
  exact z_vret C rfl (z_ret2 h) dX4_empty_10
set_option maxRecDepth 100000 in
set_option maxHeartbeats 4000000 in
theorem wX1_beAnywhere_L9 {F : z_F} {ad : Nat → Nat} {gE : z_S} (C : z_X F (layX true) (nX true) ad cX1_beAnywhere RX1 2 none 1 20 none gE) : ∀ (n : Nat) (v1 : Int32) (g : z_S), z_loop fX1_beAnywhere_B9 n v1 g = some ((), gE) → z_W F (layX true) (nX true) ad 9 [(0, .ref (ad 47)), (1, .int v1)] [] g := by
  intro n
  induction n with
  | zero =>
    intro v1 g h
    exact (z_loop_0 h).elim
  | succ n ih =>
    intro v1 g h
    replace h := z_loop_S h
    simp only [fX1_beAnywhere_B9] at h
    refine z_iload_n C dX1_beAnywhere_9 rfl 1 rfl ?_
    refine z_bipush C dX1_beAnywhere_10 zcb_8 ?_
    refine z_icmp_ge 57 C dX1_beAnywhere_12 rfl (fun hc => ?_) (fun hc => ?_)
    · replace h := z_it hc h
      exact z_vret C rfl (z_ret2 h) dX1_beAnywhere_57
    · replace h := z_if hc h
      refine z_aload_n C dX1_beAnywhere_15 rfl 0 rfl ?_
      refine z_getr C zf_X1_53 zo_K_47_15 dX1_beAnywhere_16 ?_
      refine z_dup C dX1_beAnywhere_19 rfl ?_
      refine z_getl C zf_X1_100 zo_K_60_0 dX1_beAnywhere_20 ?_
      refine z_aload_n C dX1_beAnywhere_23 rfl 0 rfl ?_
      refine z_getr C zf_X1_37 zo_K_47_11 dX1_beAnywhere_24 ?_
      refine z_iload_n C dX1_beAnywhere_27 rfl 1 rfl ?_
      obtain ⟨hi28, h⟩ := z_g_some h
      refine z_lald C za_K_56 (z_in_vp hi28) dX1_beAnywhere_28 ?_
      refine z_lor C dX1_beAnywhere_29 ?_
      obtain ⟨g30, eg30, h⟩ := z_s_some h
      refine z_putl C zp_X1_100 zo_K_60_0 dX1_beAnywhere_30 ?_
      refine z_gw eg30 ?_
      refine z_aload_n C dX1_beAnywhere_33 rfl 0 rfl ?_
      refine z_getr C zf_X1_53 zo_K_47_15 dX1_beAnywhere_34 ?_
      refine z_dup C dX1_beAnywhere_37 rfl ?_
      refine z_getl C zf_X1_104 zo_K_60_1 dX1_beAnywhere_38 ?_
      refine z_aload_n C dX1_beAnywhere_41 rfl 0 rfl ?_
      refine z_getr C zf_X1_40 zo_K_47_12 dX1_beAnywhere_42 ?_
      refine z_iload_n C dX1_beAnywhere_45 rfl 1 rfl ?_
      obtain ⟨hi46, h⟩ := z_g_some h
      refine z_lald C za_K_57 (z_in_vp hi46) dX1_beAnywhere_46 ?_
      refine z_lor C dX1_beAnywhere_47 ?_
      obtain ⟨g48, eg48, h⟩ := z_s_some h
      refine z_putl C zp_X1_104 zo_K_60_1 dX1_beAnywhere_48 ?_
      refine z_gw eg48 ?_
      refine z_iinc C dX1_beAnywhere_51 (by decide) 1 rfl (z_incl zci_1) [(1, .int (v1 + 1)), (0, .ref (ad 47))] rfl ?_
      refine z_goto 9 C dX1_beAnywhere_54 rfl ?_
      refine z_loc [1, 0] rfl ?_
      exact ih (v1 + 1) g48 h
set_option maxRecDepth 100000 in
set_option maxHeartbeats 4000000 in
theorem wX1_beAnywhere (ad : Nat → Nat) (g : z_S) (gE : z_S) (h : fX1_beAnywhere g = some ((), gE)) : z_M yX1_beAnywhere cX1_beAnywhere 2 none 1 20 (layX true) (nX true) ad [.ref (ad 47)] g none gE := by
  refine z_enter (by decide) (Nat.le_of_ble_eq_true rfl) (fun F C => ?_)
  replace C : z_X F (layX true) (nX true) ad cX1_beAnywhere RX1 2 none 1 20 none gE := C
  show z_W F (layX true) (nX true) ad 0 [(0, .ref (ad 47))] [] g
  unfold fX1_beAnywhere at h
  refine z_aload_n C dX1_beAnywhere_0 rfl 0 rfl ?_
  refine z_getr C zf_X1_53 zo_K_47_15 dX1_beAnywhere_1 ?_
  obtain ⟨r4, g4, hq4, h⟩ := z_b_some h
  refine z_callVv [] C zc_X1_97 zk_K_60 rfl (by decide) (Nat.le_of_ble_eq_true rfl) dX1_beAnywhere_4 rfl (wX4_empty_60 ad g g4 hq4) ?_
  refine z_iconst C dX1_beAnywhere_7 zci_0 ?_
  refine z_istore_n C dX1_beAnywhere_8 rfl (by decide) [(1, .int 0), (0, .ref (ad 47))] rfl ?_
  refine z_loc [1, 0] rfl ?_
  refine wX1_beAnywhere_L9 C  zN 0 g4 h
set_option maxRecDepth 100000 in
set_option maxHeartbeats 4000000 in
theorem wX4_head_60 (ad : Nat → Nat) (g : z_S) (r : Int32) (gE : z_S) (h : fX4_head_60 g = some (r, gE)) : z_M yX4_head cX4_head 3 (some .int) 0 0 (layX true) (nX true) ad [.ref (ad 60)] g (some (.int r)) gE := by
  refine z_enter (by decide) (Nat.le_of_ble_eq_true rfl) (fun F C => ?_)
  replace C : z_X F (layX true) (nX true) ad cX4_head RX4 3 (some .int) 0 0 (some (.int r)) gE := C
  show z_W F (layX true) (nX true) ad 0 [(0, .ref (ad 60))] [] g
  unfold fX4_head_60 at h
  refine z_aload_n C dX4_head_0 rfl 0 rfl ?_
  refine z_getl C zf_X4_9 zo_K_60_0 dX4_head_1 ?_
  refine z_aload_n C dX4_head_4 rfl 0 rfl ?_
  refine z_getl C zf_X4_19 zo_K_60_1 dX4_head_5 ?_
  refine z_ldc2 C dX4_head_8 zl_X4_25 ?_
  refine z_lmul C dX4_head_11 ?_
  refine z_lxor C dX4_head_12 ?_
  refine z_ldc2 C dX4_head_13 zl_X4_27 ?_
  refine z_lmul C dX4_head_16 ?_
  refine z_lstore_n C dX4_head_17 rfl (by decide) [(1, .long (((g.2 60 0) ^^^ ((g.2 60 1) * 31)) * (-7046029254386353131))), (0, .ref (ad 60))] rfl ?_
  refine z_lload_n C dX4_head_18 rfl 0 rfl ?_
  refine z_bipush C dX4_head_19 zcb_54 ?_
  refine z_lushr C dX4_head_21 ?_
  refine z_l2i C dX4_head_22 ?_
  refine z_sipush C dX4_head_23 zcs_1023 ?_
  refine z_iand C dX4_head_26 ?_
  exact z_iret C (z_ret1i h) (z_ret2 h) dX4_head_27
set_option maxRecDepth 100000 in
set_option maxHeartbeats 4000000 in
theorem wX1_keep (ad : Nat → Nat) (g : z_S) (gE : z_S) (h : fX1_keep g = some ((), gE)) : z_M yX1_keep cX1_keep 1 none 1 22 (layX true) (nX true) ad [.ref (ad 47)] g none gE := by
  refine z_enter (by decide) (Nat.le_of_ble_eq_true rfl) (fun F C => ?_)
  replace C : z_X F (layX true) (nX true) ad cX1_keep RX1 1 none 1 22 none gE := C
  show z_W F (layX true) (nX true) ad 0 [(0, .ref (ad 47))] [] g
  unfold fX1_keep at h
  refine z_aload_n C dX1_keep_0 rfl 0 rfl ?_
  refine z_geti C zf_X1_90 zo_K_47_2 dX1_keep_1 ?_
  refine z_sipush C dX1_keep_4 zcs_2000 ?_
  refine z_icmp_ge 89 C dX1_keep_7 rfl (fun hc => ?_) (fun hc => ?_)
  · replace h := z_it hc h
    exact z_vret C rfl (z_ret2 h) dX1_keep_89
  · replace h := z_if hc h
    refine z_aload_n C dX1_keep_10 rfl 0 rfl ?_
    refine z_getr C zf_X1_9 zo_K_47_3 dX1_keep_11 ?_
    refine z_aload_n C dX1_keep_14 rfl 0 rfl ?_
    refine z_geti C zf_X1_90 zo_K_47_2 dX1_keep_15 ?_
    refine z_aload_n C dX1_keep_18 rfl 0 rfl ?_
    refine z_getr C zf_X1_53 zo_K_47_15 dX1_keep_19 ?_
    refine z_getl C zf_X1_100 zo_K_60_0 dX1_keep_22 ?_
    obtain ⟨hi25, h⟩ := z_g_some h
    obtain ⟨g25, eg25, h⟩ := z_s_some h
    refine z_last C za_K_48 (z_in_vp hi25) dX1_keep_25 ?_
    refine z_gw eg25 ?_
    refine z_aload_n C dX1_keep_26 rfl 0 rfl ?_
    refine z_getr C zf_X1_15 zo_K_47_4 dX1_keep_27 ?_
    refine z_aload_n C dX1_keep_30 rfl 0 rfl ?_
    refine z_geti C zf_X1_90 zo_K_47_2 dX1_keep_31 ?_
    refine z_aload_n C dX1_keep_34 rfl 0 rfl ?_
    refine z_getr C zf_X1_53 zo_K_47_15 dX1_keep_35 ?_
    refine z_getl C zf_X1_104 zo_K_60_1 dX1_keep_38 ?_
    obtain ⟨hi41, h⟩ := z_g_some h
    obtain ⟨g41, eg41, h⟩ := z_s_some h
    refine z_last C za_K_49 (z_in_vp hi41) dX1_keep_41 ?_
    refine z_gw eg41 ?_
    refine z_aload_n C dX1_keep_42 rfl 0 rfl ?_
    refine z_getr C zf_X1_22 zo_K_47_6 dX1_keep_43 ?_
    refine z_aload_n C dX1_keep_46 rfl 0 rfl ?_
    refine z_geti C zf_X1_90 zo_K_47_2 dX1_keep_47 ?_
    refine z_aload_n C dX1_keep_50 rfl 0 rfl ?_
    refine z_getr C zf_X1_18 zo_K_47_5 dX1_keep_51 ?_
    refine z_aload_n C dX1_keep_54 rfl 0 rfl ?_
    refine z_getr C zf_X1_53 zo_K_47_15 dX1_keep_55 ?_
    obtain ⟨r58, g58, hq58, h⟩ := z_b_some h
    refine z_callVi [.ref (ad 50), .int (g41.1 47 2), .ref (ad 51)] C zc_X1_165 zk_K_60 rfl (by decide) (Nat.le_of_ble_eq_true rfl) dX1_keep_58 rfl (wX4_head_60 ad g41 r58 g58 hq58) ?_
    obtain ⟨hi61, h⟩ := z_g_some h
    refine z_iald C za_K_50 (z_in_vp hi61) dX1_keep_61 ?_
    obtain ⟨hi62, h⟩ := z_g_some h
    obtain ⟨g62, eg62, h⟩ := z_s_some h
    refine z_iast C za_K_51 (z_in_vp hi62) dX1_keep_62 ?_
    refine z_gw eg62 ?_
    refine z_aload_n C dX1_keep_63 rfl 0 rfl ?_
    refine z_getr C zf_X1_18 zo_K_47_5 dX1_keep_64 ?_
    refine z_aload_n C dX1_keep_67 rfl 0 rfl ?_
    refine z_getr C zf_X1_53 zo_K_47_15 dX1_keep_68 ?_
    obtain ⟨r71, g71, hq71, h⟩ := z_b_some h
    refine z_callVi [.ref (ad 50)] C zc_X1_165 zk_K_60 rfl (by decide) (Nat.le_of_ble_eq_true rfl) dX1_keep_71 rfl (wX4_head_60 ad g62 r71 g71 hq71) ?_
    refine z_aload_n C dX1_keep_74 rfl 0 rfl ?_
    refine z_geti C zf_X1_90 zo_K_47_2 dX1_keep_75 ?_
    obtain ⟨hi78, h⟩ := z_g_some h
    obtain ⟨g78, eg78, h⟩ := z_s_some h
    refine z_iast C za_K_50 (z_in_vp hi78) dX1_keep_78 ?_
    refine z_gw eg78 ?_
    refine z_aload_n C dX1_keep_79 rfl 0 rfl ?_
    refine z_dup C dX1_keep_80 rfl ?_
    refine z_geti C zf_X1_90 zo_K_47_2 dX1_keep_81 ?_
    refine z_iconst C dX1_keep_84 zci_1 ?_
    refine z_iadd C dX1_keep_85 ?_
    obtain ⟨g86, eg86, h⟩ := z_s_some h
    refine z_puti C zp_X1_90 zo_K_47_2 rfl rfl dX1_keep_86 ?_
    refine z_gw eg86 ?_
    exact z_vret C rfl (z_ret2 h) dX1_keep_89
set_option maxRecDepth 100000 in
set_option maxHeartbeats 4000000 in
theorem wX1_begin_L2 {F : z_F} {ad : Nat → Nat} {gE : z_S} (C : z_X F (layX true) (nX true) ad cX1_begin RX1 2 none 2 42 none gE) (k22 : z_S → Option (Unit × z_S)) (hk22 : ∀ (g : z_S), k22 g = some ((), gE) → z_W F (layX true) (nX true) ad 22 [(0, .ref (ad 47))] [] g) : ∀ (n : Nat) (v1 : Int32) (g : z_S), z_loop (fX1_begin_B2 k22) n v1 g = some ((), gE) → z_W F (layX true) (nX true) ad 2 [(0, .ref (ad 47)), (1, .int v1)] [] g := by
  intro n
  induction n with
  | zero =>
    intro v1 g h
    exact (z_loop_0 h).elim
  | succ n ih =>
    intro v1 g h
    replace h := z_loop_S h
    simp only [fX1_begin_B2] at h
    refine z_iload_n C dX1_begin_2 rfl 1 rfl ?_
    refine z_sipush C dX1_begin_3 zcs_1024 ?_
    refine z_icmp_ge 22 C dX1_begin_6 rfl (fun hc => ?_) (fun hc => ?_)
    · replace h := z_it hc h
      refine z_loc [0] rfl ?_
      exact hk22 g h
    · replace h := z_if hc h
      refine z_aload_n C dX1_begin_9 rfl 0 rfl ?_
      refine z_getr C zf_X1_18 zo_K_47_5 dX1_begin_10 ?_
      refine z_iload_n C dX1_begin_13 rfl 1 rfl ?_
      refine z_iconst C dX1_begin_14 zci_m1 ?_
      obtain ⟨hi15, h⟩ := z_g_some h
      obtain ⟨g15, eg15, h⟩ := z_s_some h
      refine z_iast C za_K_50 (z_in_vp hi15) dX1_begin_15 ?_
      refine z_gw eg15 ?_
      refine z_iinc C dX1_begin_16 (by decide) 1 rfl (z_incl zci_1) [(1, .int (v1 + 1)), (0, .ref (ad 47))] rfl ?_
      refine z_goto 2 C dX1_begin_19 rfl ?_
      refine z_loc [1, 0] rfl ?_
      exact ih (v1 + 1) g15 h
set_option maxRecDepth 100000 in
set_option maxHeartbeats 4000000 in
theorem wX1_begin (ad : Nat → Nat) (g : z_S) (gE : z_S) (h : fX1_begin g = some ((), gE)) : z_M yX1_begin cX1_begin 2 none 2 42 (layX true) (nX true) ad [.ref (ad 47)] g none gE := by
  refine z_enter (by decide) (Nat.le_of_ble_eq_true rfl) (fun F C => ?_)
  replace C : z_X F (layX true) (nX true) ad cX1_begin RX1 2 none 2 42 none gE := C
  show z_W F (layX true) (nX true) ad 0 [(0, .ref (ad 47))] [] g
  unfold fX1_begin at h
  refine z_iconst C dX1_begin_0 zci_0 ?_
  refine z_istore_n C dX1_begin_1 rfl (by decide) [(1, .int 0), (0, .ref (ad 47))] rfl ?_
  refine z_loc [1, 0] rfl ?_
  refine wX1_begin_L2 C _ ?_ zN 0 g h
  · intro g h
    refine z_aload_n C dX1_begin_22 rfl 0 rfl ?_
    refine z_iconst C dX1_begin_23 zci_0 ?_
    obtain ⟨g24, eg24, h⟩ := z_s_some h
    refine z_puti C zp_X1_90 zo_K_47_2 rfl rfl dX1_begin_24 ?_
    refine z_gw eg24 ?_
    refine z_aload_n C dX1_begin_27 rfl 0 rfl ?_
    obtain ⟨r28, g28, hq28, h⟩ := z_b_some h
    refine z_callVv [] C zc_X1_127 zk_K_47 rfl (by decide) (Nat.le_of_ble_eq_true rfl) dX1_begin_28 rfl (wX1_keep ad g24 g28 hq28) ?_
    exact z_vret C rfl (z_ret2 h) dX1_begin_31
set_option maxRecDepth 100000 in
set_option maxHeartbeats 4000000 in
theorem wX4_isLike_60_58 (ad : Nat → Nat) (g : z_S) (r : Int32) (gE : z_S) (h : fX4_isLike_60_58 g = some (r, gE)) : z_M yX4_isLike cX4_isLike 2 (some .boolean) 0 0 (layX true) (nX true) ad [.ref (ad 60), .ref (ad 58)] g (some (.int r)) gE := by
  refine z_enter (by decide) (Nat.le_of_ble_eq_true rfl) (fun F C => ?_)
  replace C : z_X F (layX true) (nX true) ad cX4_isLike RX4 2 (some .boolean) 0 0 (some (.int r)) gE := C
  show z_W F (layX true) (nX true) ad 0 [(0, .ref (ad 60)), (1, .ref (ad 58))] [] g
  unfold fX4_isLike_60_58 at h
  refine z_aload_n C dX4_isLike_0 rfl 0 rfl ?_
  refine z_getl C zf_X4_9 zo_K_60_0 dX4_isLike_1 ?_
  refine z_aload_n C dX4_isLike_4 rfl 1 rfl ?_
  refine z_getl C zf_X4_9 zo_K_58_0 dX4_isLike_5 ?_
  refine z_lcmp_ne 28 C dX4_isLike_8 dX4_isLike_9 rfl (fun hc => ?_) (fun hc => ?_)
  · replace h := z_it hc h
    refine z_aload_n C dX4_isLike_12 rfl 0 rfl ?_
    refine z_getl C zf_X4_19 zo_K_60_1 dX4_isLike_13 ?_
    refine z_aload_n C dX4_isLike_16 rfl 1 rfl ?_
    refine z_getl C zf_X4_19 zo_K_58_1 dX4_isLike_17 ?_
    refine z_lcmp_ne 28 C dX4_isLike_20 dX4_isLike_21 rfl (fun hc => ?_) (fun hc => ?_)
    · replace h := z_it hc h
      refine z_iconst C dX4_isLike_24 zci_1 ?_
      refine z_goto 29 C dX4_isLike_25 rfl ?_
      exact z_zret C (by decide) (z_ret1i h) (z_ret2 h) dX4_isLike_29
    · replace h := z_if hc h
      refine z_iconst C dX4_isLike_28 zci_0 ?_
      exact z_zret C (by decide) (z_ret1i h) (z_ret2 h) dX4_isLike_29
  · replace h := z_if hc h
    refine z_iconst C dX4_isLike_28 zci_0 ?_
    exact z_zret C (by decide) (z_ret1i h) (z_ret2 h) dX4_isLike_29
set_option maxRecDepth 100000 in
set_option maxHeartbeats 4000000 in
theorem wX1_stepFrom_J118 {F : z_F} {ad : Nat → Nat} {gE : z_S} (C : z_X F (layX true) (nX true) ad cX1_stepFrom RX1 8 none 0 0 none gE) (v3 : Int64) (v5 : Int64) (v7 : Int32) (s0 : Int64) (s1 : Int64) (g : z_S) (h : fX1_stepFrom_J118 v3 v5 v7 s0 s1 g = some ((), gE)) : z_W F (layX true) (nX true) ad 118 [(0, .ref (ad 47)), (3, .long v3), (5, .long v5), (7, .int v7)] [.long s0, .long s1, .ref (ad 60)] g := by
  unfold fX1_stepFrom_J118 at h
  refine z_lor C dX1_stepFrom_118 ?_
  obtain ⟨g119, eg119, h⟩ := z_s_some h
  refine z_putl C zp_X1_100 zo_K_60_0 dX1_stepFrom_119 ?_
  refine z_gw eg119 ?_
  refine z_aload_n C dX1_stepFrom_122 rfl 0 rfl ?_
  refine z_getr C zf_X1_53 zo_K_47_15 dX1_stepFrom_123 ?_
  refine z_lload C dX1_stepFrom_126 2 rfl ?_
  refine z_iconst C dX1_stepFrom_128 zci_1 ?_
  refine z_lshl C dX1_stepFrom_129 ?_
  refine z_lload_n C dX1_stepFrom_130 rfl 1 rfl ?_
  refine z_bipush C dX1_stepFrom_131 zcb_63 ?_
  refine z_lushr C dX1_stepFrom_133 ?_
  refine z_lor C dX1_stepFrom_134 ?_
  refine z_iload C dX1_stepFrom_135 3 rfl ?_
  refine z_if_eq 150 C dX1_stepFrom_137 rfl (fun hc => ?_) (fun hc => ?_)
  · replace h := z_it hc h
    refine z_lconst C dX1_stepFrom_150 zcl_0 ?_
    refine z_lor C dX1_stepFrom_151 ?_
    obtain ⟨g152, eg152, h⟩ := z_s_some h
    refine z_putl C zp_X1_104 zo_K_60_1 dX1_stepFrom_152 ?_
    refine z_gw eg152 ?_
    exact z_vret C rfl (z_ret2 h) dX1_stepFrom_155
  · replace h := z_if hc h
    refine z_aload_n C dX1_stepFrom_140 rfl 0 rfl ?_
    refine z_getr C zf_X1_46 zo_K_47_13 dX1_stepFrom_141 ?_
    refine z_getl C zf_X1_104 zo_K_58_1 dX1_stepFrom_144 ?_
    refine z_goto 151 C dX1_stepFrom_147 rfl ?_
    refine z_lor C dX1_stepFrom_151 ?_
    obtain ⟨g152, eg152, h⟩ := z_s_some h
    refine z_putl C zp_X1_104 zo_K_60_1 dX1_stepFrom_152 ?_
    refine z_gw eg152 ?_
    exact z_vret C rfl (z_ret2 h) dX1_stepFrom_155
set_option maxRecDepth 100000 in
set_option maxHeartbeats 4000000 in
theorem wX1_stepFrom_J63 {F : z_F} {ad : Nat → Nat} {gE : z_S} (C : z_X F (layX true) (nX true) ad cX1_stepFrom RX1 8 none 0 0 none gE) (v3 : Int64) (v5 : Int64) (s0 : Int32) (g : z_S) (h : fX1_stepFrom_J63 v3 v5 s0 g = some ((), gE)) : z_W F (layX true) (nX true) ad 63 [(0, .ref (ad 47)), (3, .long v3), (5, .long v5)] [.int s0] g := by
  unfold fX1_stepFrom_J63 at h
  refine z_istore C dX1_stepFrom_63 (by decide) [(7, .int s0), (0, .ref (ad 47)), (3, .long v3), (5, .long v5)] rfl ?_
  refine z_lload_n C dX1_stepFrom_65 rfl 2 rfl ?_
  refine z_aload_n C dX1_stepFrom_66 rfl 1 rfl ?_
  refine z_getr C zf_X1_50 zo_K_47_14 dX1_stepFrom_67 ?_
  refine z_getl C zf_X1_100 zo_K_59_0 dX1_stepFrom_70 ?_
  refine z_ldc2 C dX1_stepFrom_73 zl_X1_163 ?_
  refine z_lxor C dX1_stepFrom_76 ?_
  refine z_land C dX1_stepFrom_77 ?_
  refine z_lstore_n C dX1_stepFrom_78 rfl (by decide) [(3, .long (v3 &&& ((g.2 59 0) ^^^ (-1)))), (7, .int s0), (0, .ref (ad 47)), (5, .long v5)] rfl ?_
  refine z_lload C dX1_stepFrom_79 3 rfl ?_
  refine z_aload_n C dX1_stepFrom_81 rfl 2 rfl ?_
  refine z_getr C zf_X1_50 zo_K_47_14 dX1_stepFrom_82 ?_
  refine z_getl C zf_X1_104 zo_K_59_1 dX1_stepFrom_85 ?_
  refine z_ldc2 C dX1_stepFrom_88 zl_X1_163 ?_
  refine z_lxor C dX1_stepFrom_91 ?_
  refine z_land C dX1_stepFrom_92 ?_
  refine z_lstore C dX1_stepFrom_93 (by decide) [(5, .long (v5 &&& ((g.2 59 1) ^^^ (-1)))), (3, .long (v3 &&& ((g.2 59 0) ^^^ (-1)))), (7, .int s0), (0, .ref (ad 47))] rfl ?_
  refine z_aload_n C dX1_stepFrom_95 rfl 3 rfl ?_
  refine z_getr C zf_X1_53 zo_K_47_15 dX1_stepFrom_96 ?_
  refine z_lload_n C dX1_stepFrom_99 rfl 1 rfl ?_
  refine z_iconst C dX1_stepFrom_100 zci_1 ?_
  refine z_lshl C dX1_stepFrom_101 ?_
  refine z_iload C dX1_stepFrom_102 2 rfl ?_
  refine z_if_eq 117 C dX1_stepFrom_104 rfl (fun hc => ?_) (fun hc => ?_)
  · replace h := z_it hc h
    refine z_lconst C dX1_stepFrom_117 zcl_0 ?_
    refine z_loc [3, 1, 0, 2] rfl ?_
    exact wX1_stepFrom_J118 C (v3 &&& ((g.2 59 0) ^^^ (-1))) (v5 &&& ((g.2 59 1) ^^^ (-1))) s0 0 ((v3 &&& ((g.2 59 0) ^^^ (-1))) <<< ((1 : Int32).toInt64 &&& 63)) g h
  · replace h := z_if hc h
    refine z_aload_n C dX1_stepFrom_107 rfl 3 rfl ?_
    refine z_getr C zf_X1_46 zo_K_47_13 dX1_stepFrom_108 ?_
    refine z_getl C zf_X1_100 zo_K_58_0 dX1_stepFrom_111 ?_
    refine z_goto 118 C dX1_stepFrom_114 rfl ?_
    refine z_loc [3, 1, 0, 2] rfl ?_
    exact wX1_stepFrom_J118 C (v3 &&& ((g.2 59 0) ^^^ (-1))) (v5 &&& ((g.2 59 1) ^^^ (-1))) s0 (g.2 58 0) ((v3 &&& ((g.2 59 0) ^^^ (-1))) <<< ((1 : Int32).toInt64 &&& 63)) g h
set_option maxRecDepth 100000 in
set_option maxHeartbeats 4000000 in
theorem wX1_stepFrom (ad : Nat → Nat) (v1 : Int32) (v2 : Int32) (g : z_S) (gE : z_S) (h : fX1_stepFrom v1 v2 g = some ((), gE)) : z_M yX1_stepFrom cX1_stepFrom 8 none 0 0 (layX true) (nX true) ad [.ref (ad 47), .int v1, .int v2] g none gE := by
  refine z_enter (by decide) (Nat.le_of_ble_eq_true rfl) (fun F C => ?_)
  replace C : z_X F (layX true) (nX true) ad cX1_stepFrom RX1 8 none 0 0 none gE := C
  show z_W F (layX true) (nX true) ad 0 [(0, .ref (ad 47)), (1, .int v1), (2, .int v2)] [] g
  unfold fX1_stepFrom at h
  refine z_aload_n C dX1_stepFrom_0 rfl 0 rfl ?_
  refine z_getr C zf_X1_9 zo_K_47_3 dX1_stepFrom_1 ?_
  refine z_iload_n C dX1_stepFrom_4 rfl 1 rfl ?_
  obtain ⟨hi5, h⟩ := z_g_some h
  refine z_lald C za_K_48 (z_in_vp hi5) dX1_stepFrom_5 ?_
  refine z_aload_n C dX1_stepFrom_6 rfl 0 rfl ?_
  refine z_getr C zf_X1_37 zo_K_47_11 dX1_stepFrom_7 ?_
  refine z_iload_n C dX1_stepFrom_10 rfl 2 rfl ?_
  obtain ⟨hi11, h⟩ := z_g_some h
  refine z_lald C za_K_56 (z_in_vp hi11) dX1_stepFrom_11 ?_
  refine z_land C dX1_stepFrom_12 ?_
  refine z_lstore_n C dX1_stepFrom_13 rfl (by decide) [(3, .long ((g.2 48 (v1).toNatClampNeg) &&& (g.2 56 (v2).toNatClampNeg))), (0, .ref (ad 47)), (1, .int v1), (2, .int v2)] rfl ?_
  refine z_aload_n C dX1_stepFrom_14 rfl 1 rfl ?_
  refine z_getr C zf_X1_15 zo_K_47_4 dX1_stepFrom_15 ?_
  refine z_iload_n C dX1_stepFrom_18 rfl 2 rfl ?_
  obtain ⟨hi19, h⟩ := z_g_some h
  refine z_lald C za_K_49 (z_in_vp hi19) dX1_stepFrom_19 ?_
  refine z_aload_n C dX1_stepFrom_20 rfl 1 rfl ?_
  refine z_getr C zf_X1_40 zo_K_47_12 dX1_stepFrom_21 ?_
  refine z_iload_n C dX1_stepFrom_24 rfl 3 rfl ?_
  obtain ⟨hi25, h⟩ := z_g_some h
  refine z_lald C za_K_57 (z_in_vp hi25) dX1_stepFrom_25 ?_
  refine z_land C dX1_stepFrom_26 ?_
  refine z_lstore C dX1_stepFrom_27 (by decide) [(5, .long ((g.2 49 (v1).toNatClampNeg) &&& (g.2 57 (v2).toNatClampNeg))), (3, .long ((g.2 48 (v1).toNatClampNeg) &&& (g.2 56 (v2).toNatClampNeg))), (0, .ref (ad 47)), (1, .int v1), (2, .int v2)] rfl ?_
  refine z_lload_n C dX1_stepFrom_29 rfl 1 rfl ?_
  refine z_aload_n C dX1_stepFrom_30 rfl 2 rfl ?_
  refine z_getr C zf_X1_50 zo_K_47_14 dX1_stepFrom_31 ?_
  refine z_getl C zf_X1_100 zo_K_59_0 dX1_stepFrom_34 ?_
  refine z_land C dX1_stepFrom_37 ?_
  refine z_lconst C dX1_stepFrom_38 zcl_0 ?_
  refine z_lcmp_ne 58 C dX1_stepFrom_39 dX1_stepFrom_40 rfl (fun hc => ?_) (fun hc => ?_)
  · replace h := z_it hc h
    refine z_lload C dX1_stepFrom_43 0 rfl ?_
    refine z_aload_n C dX1_stepFrom_45 rfl 2 rfl ?_
    refine z_getr C zf_X1_50 zo_K_47_14 dX1_stepFrom_46 ?_
    refine z_getl C zf_X1_104 zo_K_59_1 dX1_stepFrom_49 ?_
    refine z_land C dX1_stepFrom_52 ?_
    refine z_lconst C dX1_stepFrom_53 zcl_0 ?_
    refine z_lcmp_eq 62 C dX1_stepFrom_54 dX1_stepFrom_55 rfl (fun hc => ?_) (fun hc => ?_)
    · replace h := z_it hc h
      refine z_iconst C dX1_stepFrom_62 zci_0 ?_
      refine z_loc [2, 1, 0] rfl ?_
      exact wX1_stepFrom_J63 C ((g.2 48 (v1).toNatClampNeg) &&& (g.2 56 (v2).toNatClampNeg)) ((g.2 49 (v1).toNatClampNeg) &&& (g.2 57 (v2).toNatClampNeg)) 0 g h
    · replace h := z_if hc h
      refine z_iconst C dX1_stepFrom_58 zci_1 ?_
      refine z_goto 63 C dX1_stepFrom_59 rfl ?_
      refine z_loc [2, 1, 0] rfl ?_
      exact wX1_stepFrom_J63 C ((g.2 48 (v1).toNatClampNeg) &&& (g.2 56 (v2).toNatClampNeg)) ((g.2 49 (v1).toNatClampNeg) &&& (g.2 57 (v2).toNatClampNeg)) 1 g h
  · replace h := z_if hc h
    refine z_iconst C dX1_stepFrom_58 zci_1 ?_
    refine z_goto 63 C dX1_stepFrom_59 rfl ?_
    refine z_loc [2, 1, 0] rfl ?_
    exact wX1_stepFrom_J63 C ((g.2 48 (v1).toNatClampNeg) &&& (g.2 56 (v2).toNatClampNeg)) ((g.2 49 (v1).toNatClampNeg) &&& (g.2 57 (v2).toNatClampNeg)) 1 g h

set_option maxRecDepth 100000 in
set_option maxHeartbeats 4000000 in
theorem wX1_spell_43_L23 {F : z_F} {ad : Nat → Nat} {gE : z_S} (C : z_X F (layX true) (nX true) ad cX1_spell RX1 6 none 0 0 none gE) : ∀ (n : Nat) (v4 : Int32) (v5 : Int32) (g : z_S), z_loop fX1_spell_43_B23 n (v4, v5) g = some ((), gE) → z_W F (layX true) (nX true) ad 23 [(0, .ref (ad 47)), (3, .ref (ad 43)), (4, .int v4), (5, .int v5)] [] g := by
  intro n
  induction n with
  | zero =>
    intro v4 v5 g h
    exact (z_loop_0 h).elim
  | succ n ih =>
    intro v4 v5 g h
    replace h := z_loop_S h
    simp only [fX1_spell_43_B23] at h
    refine z_iload C dX1_spell_23 3 rfl ?_
    refine z_if_lt 57 C dX1_spell_25 rfl (fun hc => ?_) (fun hc => ?_)
    · replace h := z_it hc h
      exact z_vret C rfl (z_ret2 h) dX1_spell_57
    · replace h := z_if hc h
      refine z_aload_n C dX1_spell_28 rfl 1 rfl ?_
      refine z_getr C zf_X1_130 (zo_X_43_3 true) dX1_spell_29 ?_
      refine z_iload C dX1_spell_32 3 rfl ?_
      refine z_aload_n C dX1_spell_34 rfl 0 rfl ?_
      refine z_getr C zf_X1_28 zo_K_47_8 dX1_spell_35 ?_
      refine z_iload C dX1_spell_38 2 rfl ?_
      obtain ⟨hi40, h⟩ := z_g_some h
      refine z_iald C za_K_53 (z_in_vp hi40) dX1_spell_40 ?_
      obtain ⟨hi41, h⟩ := z_g_some h
      obtain ⟨g41, eg41, h⟩ := z_s_some h
      refine z_iast C (za_X_44 true) (z_in_vp hi41) dX1_spell_41 ?_
      refine z_gw eg41 ?_
      refine z_aload_n C dX1_spell_42 rfl 0 rfl ?_
      refine z_getr C zf_X1_25 zo_K_47_7 dX1_spell_43 ?_
      refine z_iload C dX1_spell_46 2 rfl ?_
      obtain ⟨hi48, h⟩ := z_g_some h
      refine z_iald C za_K_52 (z_in_vp hi48) dX1_spell_48 ?_
      refine z_istore C dX1_spell_49 (by decide) [(4, .int (g41.1 52 (v4).toNatClampNeg)), (0, .ref (ad 47)), (3, .ref (ad 43)), (5, .int v5)] rfl ?_
      refine z_iinc C dX1_spell_51 (by decide) 3 rfl (z_incl zci_m1) [(5, .int (v5 + (-1))), (4, .int (g41.1 52 (v4).toNatClampNeg)), (0, .ref (ad 47)), (3, .ref (ad 43))] rfl ?_
      refine z_goto 23 C dX1_spell_54 rfl ?_
      refine z_loc [2, 3, 1, 0] rfl ?_
      exact ih (g41.1 52 (v4).toNatClampNeg) (v5 + (-1)) g41 h
set_option maxRecDepth 100000 in
set_option maxHeartbeats 4000000 in
theorem wX1_spell_43 (ad : Nat → Nat) (v1 : Int32) (v2 : Int32) (g : z_S) (gE : z_S) (h : fX1_spell_43 v1 v2 g = some ((), gE)) : z_M yX1_spell cX1_spell 6 none 0 0 (layX true) (nX true) ad [.ref (ad 47), .int v1, .int v2, .ref (ad 43)] g none gE := by
  refine z_enter (by decide) (Nat.le_of_ble_eq_true rfl) (fun F C => ?_)
  replace C : z_X F (layX true) (nX true) ad cX1_spell RX1 6 none 0 0 none gE := C
  show z_W F (layX true) (nX true) ad 0 [(0, .ref (ad 47)), (1, .int v1), (2, .int v2), (3, .ref (ad 43))] [] g
  unfold fX1_spell_43 at h
  refine z_aload_n C dX1_spell_0 rfl 3 rfl ?_
  refine z_getr C zf_X1_130 (zo_X_43_3 true) dX1_spell_1 ?_
  refine z_aload_n C dX1_spell_4 rfl 3 rfl ?_
  refine z_geti C zf_X1_86 (zo_X_43_2 true) dX1_spell_5 ?_
  refine z_iconst C dX1_spell_8 zci_1 ?_
  refine z_isub C dX1_spell_9 ?_
  refine z_iload_n C dX1_spell_10 rfl 2 rfl ?_
  obtain ⟨hi11, h⟩ := z_g_some h
  obtain ⟨g11, eg11, h⟩ := z_s_some h
  refine z_iast C (za_X_44 true) (z_in_vp hi11) dX1_spell_11 ?_
  refine z_gw eg11 ?_
  refine z_iload_n C dX1_spell_12 rfl 1 rfl ?_
  refine z_istore C dX1_spell_13 (by decide) [(4, .int v1), (0, .ref (ad 47)), (1, .int v1), (2, .int v2), (3, .ref (ad 43))] rfl ?_
  refine z_aload_n C dX1_spell_15 rfl 4 rfl ?_
  refine z_geti C zf_X1_86 (zo_X_43_2 true) dX1_spell_16 ?_
  refine z_iconst C dX1_spell_19 zci_2 ?_
  refine z_isub C dX1_spell_20 ?_
  refine z_istore C dX1_spell_21 (by decide) [(5, .int ((g11.1 43 2) - 2)), (4, .int v1), (0, .ref (ad 47)), (1, .int v1), (2, .int v2), (3, .ref (ad 43))] rfl ?_
  refine z_loc [2, 5, 1, 0] rfl ?_
  refine wX1_spell_43_L23 C  zN v1 ((g11.1 43 2) - 2) g11 h
set_option maxRecDepth 100000 in
set_option maxHeartbeats 4000000 in
theorem wX4_isEmpty_60 (ad : Nat → Nat) (g : z_S) (r : Int32) (gE : z_S) (h : fX4_isEmpty_60 g = some (r, gE)) : z_M yX4_isEmpty cX4_isEmpty 1 (some .boolean) 0 0 (layX true) (nX true) ad [.ref (ad 60)] g (some (.int r)) gE := by
  refine z_enter (by decide) (Nat.le_of_ble_eq_true rfl) (fun F C => ?_)
  replace C : z_X F (layX true) (nX true) ad cX4_isEmpty RX4 1 (some .boolean) 0 0 (some (.int r)) gE := C
  show z_W F (layX true) (nX true) ad 0 [(0, .ref (ad 60))] [] g
  unfold fX4_isEmpty_60 at h
  refine z_aload_n C dX4_isEmpty_0 rfl 0 rfl ?_
  refine z_getl C zf_X4_9 zo_K_60_0 dX4_isEmpty_1 ?_
  refine z_lconst C dX4_isEmpty_4 zcl_0 ?_
  refine z_lcmp_ne 22 C dX4_isEmpty_5 dX4_isEmpty_6 rfl (fun hc => ?_) (fun hc => ?_)
  · replace h := z_it hc h
    refine z_aload_n C dX4_isEmpty_9 rfl 0 rfl ?_
    refine z_getl C zf_X4_19 zo_K_60_1 dX4_isEmpty_10 ?_
    refine z_lconst C dX4_isEmpty_13 zcl_0 ?_
    refine z_lcmp_ne 22 C dX4_isEmpty_14 dX4_isEmpty_15 rfl (fun hc => ?_) (fun hc => ?_)
    · replace h := z_it hc h
      refine z_iconst C dX4_isEmpty_18 zci_1 ?_
      refine z_goto 23 C dX4_isEmpty_19 rfl ?_
      exact z_zret C (by decide) (z_ret1i h) (z_ret2 h) dX4_isEmpty_23
    · replace h := z_if hc h
      refine z_iconst C dX4_isEmpty_22 zci_0 ?_
      exact z_zret C (by decide) (z_ret1i h) (z_ret2 h) dX4_isEmpty_23
  · replace h := z_if hc h
    refine z_iconst C dX4_isEmpty_22 zci_0 ?_
    exact z_zret C (by decide) (z_ret1i h) (z_ret2 h) dX4_isEmpty_23
set_option maxRecDepth 100000 in
set_option maxHeartbeats 4000000 in
theorem wX1_find_J63 {F : z_F} {ad : Nat → Nat} {r : Int32} {gE : z_S} (C : z_X F (layX true) (nX true) ad cX1_find RX1 3 (some .int) 1 22 (some (.int r)) gE) (rc : (Int32 × Int32) → z_S → Option (Int32 × z_S)) (hrc : ∀ (v1 : Int32) (v2 : Int32) (g : z_S), rc (v1, v2) g = some (r, gE) → z_W F (layX true) (nX true) ad 15 [(0, .ref (ad 47)), (1, .int v1), (2, .int v2)] [] g) (v1 : Int32) (v2 : Int32) (g : z_S) (h : fX1_find_J63 rc v1 v2 g = some (r, gE)) : z_W F (layX true) (nX true) ad 63 [(0, .ref (ad 47)), (1, .int v1), (2, .int v2)] [] g := by
  unfold fX1_find_J63 at h
  refine z_aload_n C dX1_find_63 rfl 0 rfl ?_
  refine z_getr C zf_X1_22 zo_K_47_6 dX1_find_64 ?_
  refine z_iload_n C dX1_find_67 rfl 1 rfl ?_
  obtain ⟨hi68, h⟩ := z_g_some h
  refine z_iald C za_K_51 (z_in_vp hi68) dX1_find_68 ?_
  refine z_istore_n C dX1_find_69 rfl (by decide) [(1, .int (g.1 51 (v1).toNatClampNeg)), (0, .ref (ad 47)), (2, .int v2)] rfl ?_
  refine z_iinc C dX1_find_70 (by decide) 2 rfl (z_incl zci_1) [(2, .int (v2 + 1)), (1, .int (g.1 51 (v1).toNatClampNeg)), (0, .ref (ad 47))] rfl ?_
  refine z_goto 15 C dX1_find_73 rfl ?_
  refine z_loc [2, 1, 0] rfl ?_
  exact hrc (g.1 51 (v1).toNatClampNeg) (v2 + 1) g h
set_option maxRecDepth 100000 in
set_option maxHeartbeats 4000000 in
theorem wX1_find_L15 {F : z_F} {ad : Nat → Nat} {r : Int32} {gE : z_S} (C : z_X F (layX true) (nX true) ad cX1_find RX1 3 (some .int) 1 22 (some (.int r)) gE) : ∀ (n : Nat) (v1 : Int32) (v2 : Int32) (g : z_S), z_loop fX1_find_B15 n (v1, v2) g = some (r, gE) → z_W F (layX true) (nX true) ad 15 [(0, .ref (ad 47)), (1, .int v1), (2, .int v2)] [] g := by
  intro n
  induction n with
  | zero =>
    intro v1 v2 g h
    exact (z_loop_0 h).elim
  | succ n ih =>
    intro v1 v2 g h
    replace h := z_loop_S h
    simp only [fX1_find_B15] at h
    refine z_iload_n C dX1_find_15 rfl 2 rfl ?_
    refine z_sipush C dX1_find_16 zcs_2000 ?_
    refine z_icmp_ge 76 C dX1_find_19 rfl (fun hc => ?_) (fun hc => ?_)
    · replace h := z_it hc h
      refine z_iconst C dX1_find_76 zci_m1 ?_
      exact z_iret C (z_ret1i h) (z_ret2 h) dX1_find_77
    · replace h := z_if hc h
      refine z_iload_n C dX1_find_22 rfl 1 rfl ?_
      refine z_iconst C dX1_find_23 zci_m1 ?_
      refine z_icmp_eq 76 C dX1_find_24 rfl (fun hc => ?_) (fun hc => ?_)
      · replace h := z_it hc h
        refine z_iconst C dX1_find_76 zci_m1 ?_
        exact z_iret C (z_ret1i h) (z_ret2 h) dX1_find_77
      · replace h := z_if hc h
        refine z_aload_n C dX1_find_27 rfl 0 rfl ?_
        refine z_getr C zf_X1_9 zo_K_47_3 dX1_find_28 ?_
        refine z_iload_n C dX1_find_31 rfl 1 rfl ?_
        obtain ⟨hi32, h⟩ := z_g_some h
        refine z_lald C za_K_48 (z_in_vp hi32) dX1_find_32 ?_
        refine z_aload_n C dX1_find_33 rfl 0 rfl ?_
        refine z_getr C zf_X1_53 zo_K_47_15 dX1_find_34 ?_
        refine z_getl C zf_X1_100 zo_K_60_0 dX1_find_37 ?_
        refine z_lcmp_ne 63 C dX1_find_40 dX1_find_41 rfl (fun hc => ?_) (fun hc => ?_)
        · replace h := z_it hc h
          refine z_aload_n C dX1_find_44 rfl 0 rfl ?_
          refine z_getr C zf_X1_15 zo_K_47_4 dX1_find_45 ?_
          refine z_iload_n C dX1_find_48 rfl 1 rfl ?_
          obtain ⟨hi49, h⟩ := z_g_some h
          refine z_lald C za_K_49 (z_in_vp hi49) dX1_find_49 ?_
          refine z_aload_n C dX1_find_50 rfl 0 rfl ?_
          refine z_getr C zf_X1_53 zo_K_47_15 dX1_find_51 ?_
          refine z_getl C zf_X1_104 zo_K_60_1 dX1_find_54 ?_
          refine z_lcmp_ne 63 C dX1_find_57 dX1_find_58 rfl (fun hc => ?_) (fun hc => ?_)
          · replace h := z_it hc h
            refine z_iload_n C dX1_find_61 rfl 1 rfl ?_
            exact z_iret C (z_ret1i h) (z_ret2 h) dX1_find_62
          · replace h := z_if hc h
            exact wX1_find_J63 C _ (fun v1 v2 g h => ih v1 v2 g h) v1 v2 g h
        · replace h := z_if hc h
          exact wX1_find_J63 C _ (fun v1 v2 g h => ih v1 v2 g h) v1 v2 g h
set_option maxRecDepth 100000 in
set_option maxHeartbeats 4000000 in
theorem wX1_find (ad : Nat → Nat) (g : z_S) (r : Int32) (gE : z_S) (h : fX1_find g = some (r, gE)) : z_M yX1_find cX1_find 3 (some .int) 1 22 (layX true) (nX true) ad [.ref (ad 47)] g (some (.int r)) gE := by
  refine z_enter (by decide) (Nat.le_of_ble_eq_true rfl) (fun F C => ?_)
  replace C : z_X F (layX true) (nX true) ad cX1_find RX1 3 (some .int) 1 22 (some (.int r)) gE := C
  show z_W F (layX true) (nX true) ad 0 [(0, .ref (ad 47))] [] g
  unfold fX1_find at h
  refine z_aload_n C dX1_find_0 rfl 0 rfl ?_
  refine z_getr C zf_X1_18 zo_K_47_5 dX1_find_1 ?_
  refine z_aload_n C dX1_find_4 rfl 0 rfl ?_
  refine z_getr C zf_X1_53 zo_K_47_15 dX1_find_5 ?_
  obtain ⟨r8, g8, hq8, h⟩ := z_b_some h
  refine z_callVi [.ref (ad 50)] C zc_X1_165 zk_K_60 rfl (by decide) (Nat.le_of_ble_eq_true rfl) dX1_find_8 rfl (wX4_head_60 ad g r8 g8 hq8) ?_
  obtain ⟨hi11, h⟩ := z_g_some h
  refine z_iald C za_K_50 (z_in_vp hi11) dX1_find_11 ?_
  refine z_istore_n C dX1_find_12 rfl (by decide) [(1, .int (g8.1 50 (r8).toNatClampNeg)), (0, .ref (ad 47))] rfl ?_
  refine z_iconst C dX1_find_13 zci_0 ?_
  refine z_istore_n C dX1_find_14 rfl (by decide) [(2, .int 0), (1, .int (g8.1 50 (r8).toNatClampNeg)), (0, .ref (ad 47))] rfl ?_
  refine z_loc [2, 1, 0] rfl ?_
  refine wX1_find_L15 C  zN (g8.1 50 (r8).toNatClampNeg) 0 g8 h
set_option maxRecDepth 100000 in
set_option maxHeartbeats 4000000 in
theorem wX1_searchBehind_43_J50 {F : z_F} {ad : Nat → Nat} {gE : z_S} (C : z_X F (layX true) (nX true) ad cX1_searchBehind RX1 6 none 2 44 none gE) (rc : (Int32 × Int32 × Int32) → z_S → Option (Unit × z_S)) (k57 : Int32 → Int32 → Int32 → z_S → Option (Unit × z_S)) (hrc : ∀ (v1 : Int32) (v2 : Int32) (v4 : Int32) (g : z_S), rc (v1, v2, v4) g = some ((), gE) → z_W F (layX true) (nX true) ad 3 [(0, .ref (ad 47)), (1, .int v1), (2, .int v2), (3, .ref (ad 43)), (4, .int v4)] [] g) (hk57 : ∀ (v1 : Int32) (v2 : Int32) (v4 : Int32) (g : z_S), k57 v1 v2 v4 g = some ((), gE) → z_W F (layX true) (nX true) ad 57 [(0, .ref (ad 47)), (1, .int v1), (2, .int v2), (3, .ref (ad 43)), (4, .int v4)] [] g) (v1 : Int32) (v2 : Int32) (v4 : Int32) (s0 : Int32) (g : z_S) (h : fX1_searchBehind_43_J50 rc k57 v1 v2 v4 s0 g = some ((), gE)) : z_W F (layX true) (nX true) ad 50 [(0, .ref (ad 47)), (1, .int v1), (2, .int v2), (3, .ref (ad 43)), (4, .int v4)] [.int s0] g := by
  unfold fX1_searchBehind_43_J50 at h
  refine z_istore C dX1_searchBehind_50 (by decide) [(5, .int s0), (0, .ref (ad 47)), (1, .int v1), (2, .int v2), (3, .ref (ad 43)), (4, .int v4)] rfl ?_
  refine z_iload C dX1_searchBehind_52 0 rfl ?_
  refine z_if_eq 71 C dX1_searchBehind_54 rfl (fun hc => ?_) (fun hc => ?_)
  · replace h := z_it hc h
    refine z_aload_n C dX1_searchBehind_71 rfl 1 rfl ?_
    refine z_getr C zf_X1_53 zo_K_47_15 dX1_searchBehind_72 ?_
    obtain ⟨r75, g75, hq75, h⟩ := z_b_some h
    refine z_callVi [] C zc_X1_116 zk_K_60 rfl (by decide) (Nat.le_of_ble_eq_true rfl) dX1_searchBehind_75 rfl (wX4_isEmpty_60 ad g r75 g75 hq75) ?_
    refine z_if_ne 135 C dX1_searchBehind_78 rfl (fun hc => ?_) (fun hc => ?_)
    · replace h := z_it hc h
      refine z_aload_n C dX1_searchBehind_81 rfl 1 rfl ?_
      obtain ⟨r82, g82, hq82, h⟩ := z_b_some h
      refine z_callVi [] C zc_X1_123 zk_K_47 rfl (by decide) (Nat.le_of_ble_eq_true rfl) dX1_searchBehind_82 rfl (wX1_find ad g75 r82 g82 hq82) ?_
      refine z_iconst C dX1_searchBehind_85 zci_m1 ?_
      refine z_icmp_eq 92 C dX1_searchBehind_86 rfl (fun hc => ?_) (fun hc => ?_)
      · replace h := z_it hc h
        refine z_aload_n C dX1_searchBehind_92 rfl 1 rfl ?_
        refine z_geti C zf_X1_90 zo_K_47_2 dX1_searchBehind_93 ?_
        refine z_sipush C dX1_searchBehind_96 zcs_2000 ?_
        refine z_icmp_lt 110 C dX1_searchBehind_99 rfl (fun hc => ?_) (fun hc => ?_)
        · replace h := z_it hc h
          refine z_aload_n C dX1_searchBehind_110 rfl 1 rfl ?_
          refine z_getr C zf_X1_25 zo_K_47_7 dX1_searchBehind_111 ?_
          refine z_aload_n C dX1_searchBehind_114 rfl 1 rfl ?_
          refine z_geti C zf_X1_90 zo_K_47_2 dX1_searchBehind_115 ?_
          refine z_iload_n C dX1_searchBehind_118 rfl 2 rfl ?_
          obtain ⟨hi119, h⟩ := z_g_some h
          obtain ⟨g119, eg119, h⟩ := z_s_some h
          refine z_iast C za_K_52 (z_in_vp hi119) dX1_searchBehind_119 ?_
          refine z_gw eg119 ?_
          refine z_aload_n C dX1_searchBehind_120 rfl 1 rfl ?_
          refine z_getr C zf_X1_28 zo_K_47_8 dX1_searchBehind_121 ?_
          refine z_aload_n C dX1_searchBehind_124 rfl 1 rfl ?_
          refine z_geti C zf_X1_90 zo_K_47_2 dX1_searchBehind_125 ?_
          refine z_iload C dX1_searchBehind_128 5 rfl ?_
          obtain ⟨hi130, h⟩ := z_g_some h
          obtain ⟨g130, eg130, h⟩ := z_s_some h
          refine z_iast C za_K_53 (z_in_vp hi130) dX1_searchBehind_130 ?_
          refine z_gw eg130 ?_
          refine z_aload_n C dX1_searchBehind_131 rfl 1 rfl ?_
          obtain ⟨r132, g132, hq132, h⟩ := z_b_some h
          refine z_callVv [] C zc_X1_127 zk_K_47 rfl (by decide) (Nat.le_of_ble_eq_true rfl) dX1_searchBehind_132 rfl (wX1_keep ad g130 g132 hq132) ?_
          refine z_iinc C dX1_searchBehind_135 (by decide) 5 rfl (z_incl zci_1) [(4, .int (v4 + 1)), (5, .int s0), (0, .ref (ad 47)), (1, .int v1), (2, .int v2), (3, .ref (ad 43))] rfl ?_
          refine z_goto 3 C dX1_searchBehind_138 rfl ?_
          refine z_loc [2, 3, 4, 5, 0] rfl ?_
          exact hrc v1 v2 (v4 + 1) g132 h
        · replace h := z_if hc h
          refine z_aload_n C dX1_searchBehind_102 rfl 4 rfl ?_
          refine z_sipush C dX1_searchBehind_103 zcs_m1005 ?_
          obtain ⟨g106, eg106, h⟩ := z_s_some h
          refine z_puti C zp_X1_86 (zo_X_43_2 true) rfl rfl dX1_searchBehind_106 ?_
          refine z_gw eg106 ?_
          exact z_vret C rfl (z_ret2 h) dX1_searchBehind_109
      · replace h := z_if hc h
        refine z_goto 135 C dX1_searchBehind_89 rfl ?_
        refine z_iinc C dX1_searchBehind_135 (by decide) 5 rfl (z_incl zci_1) [(4, .int (v4 + 1)), (5, .int s0), (0, .ref (ad 47)), (1, .int v1), (2, .int v2), (3, .ref (ad 43))] rfl ?_
        refine z_goto 3 C dX1_searchBehind_138 rfl ?_
        refine z_loc [2, 3, 4, 5, 0] rfl ?_
        exact hrc v1 v2 (v4 + 1) g82 h
    · replace h := z_if hc h
      refine z_iinc C dX1_searchBehind_135 (by decide) 5 rfl (z_incl zci_1) [(4, .int (v4 + 1)), (5, .int s0), (0, .ref (ad 47)), (1, .int v1), (2, .int v2), (3, .ref (ad 43))] rfl ?_
      refine z_goto 3 C dX1_searchBehind_138 rfl ?_
      refine z_loc [2, 3, 4, 5, 0] rfl ?_
      exact hrc v1 v2 (v4 + 1) g75 h
  · replace h := z_if hc h
    refine z_loc [1, 2, 3, 4, 5] rfl ?_
    exact hk57 v1 v2 v4 g h
set_option maxRecDepth 100000 in
set_option maxHeartbeats 4000000 in
theorem wX1_searchBehind_43_L3 {F : z_F} {ad : Nat → Nat} {gE : z_S} (C : z_X F (layX true) (nX true) ad cX1_searchBehind RX1 6 none 2 44 none gE) (k57 : Int32 → Int32 → Int32 → z_S → Option (Unit × z_S)) (hk57 : ∀ (v1 : Int32) (v2 : Int32) (v4 : Int32) (g : z_S), k57 v1 v2 v4 g = some ((), gE) → z_W F (layX true) (nX true) ad 57 [(0, .ref (ad 47)), (1, .int v1), (2, .int v2), (3, .ref (ad 43)), (4, .int v4)] [] g) : ∀ (n : Nat) (v1 : Int32) (v2 : Int32) (v4 : Int32) (g : z_S), z_loop (fX1_searchBehind_43_B3 k57) n (v1, v2, v4) g = some ((), gE) → z_W F (layX true) (nX true) ad 3 [(0, .ref (ad 47)), (1, .int v1), (2, .int v2), (3, .ref (ad 43)), (4, .int v4)] [] g := by
  intro n
  induction n with
  | zero =>
    intro v1 v2 v4 g h
    exact (z_loop_0 h).elim
  | succ n ih =>
    intro v1 v2 v4 g h
    replace h := z_loop_S h
    simp only [fX1_searchBehind_43_B3] at h
    refine z_iload C dX1_searchBehind_3 4 rfl ?_
    refine z_aload_n C dX1_searchBehind_5 rfl 0 rfl ?_
    refine z_getr C zf_X1_60 zo_K_47_1 dX1_searchBehind_6 ?_
    refine z_geti C zf_X1_107 (zo_X_1_0 true) dX1_searchBehind_9 ?_
    refine z_icmp_ge 141 C dX1_searchBehind_12 rfl (fun hc => ?_) (fun hc => ?_)
    · replace h := z_it hc h
      exact z_vret C rfl (z_ret2 h) dX1_searchBehind_141
    · replace h := z_if hc h
      refine z_aload_n C dX1_searchBehind_15 rfl 0 rfl ?_
      refine z_iload_n C dX1_searchBehind_16 rfl 1 rfl ?_
      refine z_iload C dX1_searchBehind_17 4 rfl ?_
      obtain ⟨r19, g19, hq19, h⟩ := z_b_some h
      refine z_callVv [] C zc_X1_112 zk_K_47 rfl (by decide) (Nat.le_of_ble_eq_true rfl) dX1_searchBehind_19 rfl (wX1_stepFrom ad v1 v4 g g19 hq19) ?_
      refine z_aload_n C dX1_searchBehind_22 rfl 3 rfl ?_
      refine z_geti C zf_X1_79 (zo_X_43_0 true) dX1_searchBehind_23 ?_
      refine z_if_eq 43 C dX1_searchBehind_26 rfl (fun hc => ?_) (fun hc => ?_)
      · replace h := z_it hc h
        refine z_aload_n C dX1_searchBehind_43 rfl 0 rfl ?_
        refine z_getr C zf_X1_53 zo_K_47_15 dX1_searchBehind_44 ?_
        obtain ⟨r47, g47, hq47, h⟩ := z_b_some h
        refine z_callVi [] C zc_X1_116 zk_K_60 rfl (by decide) (Nat.le_of_ble_eq_true rfl) dX1_searchBehind_47 rfl (wX4_isEmpty_60 ad g19 r47 g47 hq47) ?_
        exact wX1_searchBehind_43_J50 C _ _ (fun v1 v2 v4 g h => ih v1 v2 v4 g h) hk57 v1 v2 v4 r47 g47 h
      · replace h := z_if hc h
        refine z_aload_n C dX1_searchBehind_29 rfl 0 rfl ?_
        refine z_getr C zf_X1_53 zo_K_47_15 dX1_searchBehind_30 ?_
        refine z_aload_n C dX1_searchBehind_33 rfl 0 rfl ?_
        refine z_getr C zf_X1_46 zo_K_47_13 dX1_searchBehind_34 ?_
        obtain ⟨r37, g37, hq37, h⟩ := z_b_some h
        refine z_callVi [] C zc_X1_82 zk_K_60 rfl (by decide) (Nat.le_of_ble_eq_true rfl) dX1_searchBehind_37 rfl (wX4_isLike_60_58 ad g19 r37 g37 hq37) ?_
        refine z_goto 50 C dX1_searchBehind_40 rfl ?_
        exact wX1_searchBehind_43_J50 C _ _ (fun v1 v2 v4 g h => ih v1 v2 v4 g h) hk57 v1 v2 v4 r37 g37 h
set_option maxRecDepth 100000 in
set_option maxHeartbeats 4000000 in
theorem wX1_searchBehind_43 (ad : Nat → Nat) (v1 : Int32) (v2 : Int32) (g : z_S) (gE : z_S) (h : fX1_searchBehind_43 v1 v2 g = some ((), gE)) : z_M yX1_searchBehind cX1_searchBehind 6 none 2 44 (layX true) (nX true) ad [.ref (ad 47), .int v1, .int v2, .ref (ad 43)] g none gE := by
  refine z_enter (by decide) (Nat.le_of_ble_eq_true rfl) (fun F C => ?_)
  replace C : z_X F (layX true) (nX true) ad cX1_searchBehind RX1 6 none 2 44 none gE := C
  show z_W F (layX true) (nX true) ad 0 [(0, .ref (ad 47)), (1, .int v1), (2, .int v2), (3, .ref (ad 43))] [] g
  unfold fX1_searchBehind_43 at h
  refine z_iconst C dX1_searchBehind_0 zci_0 ?_
  refine z_istore C dX1_searchBehind_1 (by decide) [(4, .int 0), (0, .ref (ad 47)), (1, .int v1), (2, .int v2), (3, .ref (ad 43))] rfl ?_
  refine z_loc [1, 2, 3, 4, 0] rfl ?_
  refine wX1_searchBehind_43_L3 C _ ?_ zN v1 v2 0 g h
  · intro v1 v2 v4 g h
    refine z_aload_n C dX1_searchBehind_57 rfl 3 rfl ?_
    refine z_iload_n C dX1_searchBehind_58 rfl 2 rfl ?_
    obtain ⟨g59, eg59, h⟩ := z_s_some h
    refine z_puti C zp_X1_86 (zo_X_43_2 true) rfl rfl dX1_searchBehind_59 ?_
    refine z_gw eg59 ?_
    refine z_aload_n C dX1_searchBehind_62 rfl 0 rfl ?_
    refine z_iload_n C dX1_searchBehind_63 rfl 1 rfl ?_
    refine z_iload C dX1_searchBehind_64 4 rfl ?_
    refine z_aload_n C dX1_searchBehind_66 rfl 3 rfl ?_
    obtain ⟨r67, g67, hq67, h⟩ := z_b_some h
    refine z_callVv [] C zc_X1_120 zk_K_47 rfl (by decide) (Nat.le_of_ble_eq_true rfl) dX1_searchBehind_67 rfl (wX1_spell_43 ad v1 v4 g59 g67 hq67) ?_
    exact z_vret C rfl (z_ret2 h) dX1_searchBehind_70
set_option maxRecDepth 100000 in
set_option maxHeartbeats 4000000 in
theorem wX1_search_43_L74 {F : z_F} {ad : Nat → Nat} {gE : z_S} (C : z_X F (layX true) (nX true) ad cX1_search RX1 6 none 3 69 none gE) (k103 : Int32 → Int32 → z_S → Option (Unit × z_S)) (hk103 : ∀ (v3 : Int32) (v4 : Int32) (g : z_S), k103 v3 v4 g = some ((), gE) → z_W F (layX true) (nX true) ad 103 [(0, .ref (ad 47)), (1, .ref (ad 43)), (3, .int v3), (4, .int v4)] [] g) : ∀ (n : Nat) (v3 : Int32) (v4 : Int32) (v5 : Int32) (g : z_S), z_loop (fX1_search_43_B74 k103) n (v3, v4, v5) g = some ((), gE) → z_W F (layX true) (nX true) ad 74 [(0, .ref (ad 47)), (1, .ref (ad 43)), (3, .int v3), (4, .int v4), (5, .int v5)] [] g := by
  intro n
  induction n with
  | zero =>
    intro v3 v4 v5 g h
    exact (z_loop_0 h).elim
  | succ n ih =>
    intro v3 v4 v5 g h
    replace h := z_loop_S h
    simp only [fX1_search_43_B74] at h
    refine z_iload C dX1_search_74 4 rfl ?_
    refine z_iload C dX1_search_76 3 rfl ?_
    refine z_icmp_ge 103 C dX1_search_78 rfl (fun hc => ?_) (fun hc => ?_)
    · replace h := z_it hc h
      refine z_loc [0, 1, 2, 3] rfl ?_
      exact hk103 v3 v4 g h
    · replace h := z_if hc h
      refine z_aload_n C dX1_search_81 rfl 1 rfl ?_
      refine z_geti C zf_X1_86 (zo_X_43_2 true) dX1_search_82 ?_
      refine z_iconst C dX1_search_85 zci_m1 ?_
      refine z_icmp_ne 103 C dX1_search_86 rfl (fun hc => ?_) (fun hc => ?_)
      · replace h := z_it hc h
        refine z_aload_n C dX1_search_89 rfl 0 rfl ?_
        refine z_iload C dX1_search_90 4 rfl ?_
        refine z_iload_n C dX1_search_92 rfl 2 rfl ?_
        refine z_aload_n C dX1_search_93 rfl 1 rfl ?_
        obtain ⟨r94, g94, hq94, h⟩ := z_b_some h
        refine z_callVv [] C zc_X1_93 zk_K_47 rfl (by decide) (Nat.le_of_ble_eq_true rfl) dX1_search_94 rfl (wX1_searchBehind_43 ad v5 v3 g g94 hq94) ?_
        refine z_iinc C dX1_search_97 (by decide) 4 rfl (z_incl zci_1) [(5, .int (v5 + 1)), (0, .ref (ad 47)), (1, .ref (ad 43)), (3, .int v3), (4, .int v4)] rfl ?_
        refine z_goto 74 C dX1_search_100 rfl ?_
        refine z_loc [1, 2, 3, 4, 0] rfl ?_
        exact ih v3 v4 (v5 + 1) g94 h
      · replace h := z_if hc h
        refine z_loc [0, 1, 2, 3] rfl ?_
        exact hk103 v3 v4 g h
set_option maxRecDepth 100000 in
set_option maxHeartbeats 4000000 in
theorem wX1_search_43_L51 {F : z_F} {ad : Nat → Nat} {gE : z_S} (C : z_X F (layX true) (nX true) ad cX1_search RX1 6 none 3 69 none gE) : ∀ (n : Nat) (v2 : Int32) (v3 : Int32) (g : z_S), z_loop fX1_search_43_B51 n (v2, v3) g = some ((), gE) → z_W F (layX true) (nX true) ad 51 [(0, .ref (ad 47)), (1, .ref (ad 43)), (2, .int v2), (3, .int v3)] [] g := by
  intro n
  induction n with
  | zero =>
    intro v2 v3 g h
    exact (z_loop_0 h).elim
  | succ n ih =>
    intro v2 v3 g h
    replace h := z_loop_S h
    simp only [fX1_search_43_B51] at h
    refine z_iload_n C dX1_search_51 rfl 3 rfl ?_
    refine z_bipush C dX1_search_52 zcb_12 ?_
    refine z_icmp_gt 112 C dX1_search_54 rfl (fun hc => ?_) (fun hc => ?_)
    · replace h := z_it hc h
      exact z_vret C rfl (z_ret2 h) dX1_search_112
    · replace h := z_if hc h
      refine z_aload_n C dX1_search_57 rfl 1 rfl ?_
      refine z_geti C zf_X1_86 (zo_X_43_2 true) dX1_search_58 ?_
      refine z_iconst C dX1_search_61 zci_m1 ?_
      refine z_icmp_ne 112 C dX1_search_62 rfl (fun hc => ?_) (fun hc => ?_)
      · replace h := z_it hc h
        refine z_aload_n C dX1_search_65 rfl 0 rfl ?_
        refine z_geti C zf_X1_90 zo_K_47_2 dX1_search_66 ?_
        refine z_istore C dX1_search_69 (by decide) [(4, .int (g.1 47 2)), (0, .ref (ad 47)), (1, .ref (ad 43)), (2, .int v2), (3, .int v3)] rfl ?_
        refine z_iload_n C dX1_search_71 rfl 3 rfl ?_
        refine z_istore C dX1_search_72 (by decide) [(5, .int v2), (4, .int (g.1 47 2)), (0, .ref (ad 47)), (1, .ref (ad 43)), (2, .int v2), (3, .int v3)] rfl ?_
        refine z_loc [2, 3, 5, 1, 0] rfl ?_
        refine wX1_search_43_L74 C _ ?_ zN v3 (g.1 47 2) v2 g h
        · intro v3 v4 g h
          refine z_iload C dX1_search_103 3 rfl ?_
          refine z_istore_n C dX1_search_105 rfl (by decide) [(2, .int v4), (0, .ref (ad 47)), (1, .ref (ad 43)), (3, .int v3), (4, .int v4)] rfl ?_
          refine z_iinc C dX1_search_106 (by decide) 3 rfl (z_incl zci_1) [(3, .int (v3 + 1)), (2, .int v4), (0, .ref (ad 47)), (1, .ref (ad 43)), (4, .int v4)] rfl ?_
          refine z_goto 51 C dX1_search_109 rfl ?_
          refine z_loc [2, 3, 1, 0] rfl ?_
          exact ih v4 (v3 + 1) g h
      · replace h := z_if hc h
        exact z_vret C rfl (z_ret2 h) dX1_search_112
set_option maxRecDepth 100000 in
set_option maxHeartbeats 4000000 in
theorem wX1_search_43_J44 {F : z_F} {ad : Nat → Nat} {gE : z_S} (C : z_X F (layX true) (nX true) ad cX1_search RX1 6 none 3 69 none gE) (s0 : Int32) (g : z_S) (h : fX1_search_43_J44 s0 g = some ((), gE)) : z_W F (layX true) (nX true) ad 44 [(0, .ref (ad 47)), (1, .ref (ad 43))] [.int s0, .ref (ad 43)] g := by
  unfold fX1_search_43_J44 at h
  obtain ⟨g44, eg44, h⟩ := z_s_some h
  refine z_puti C zp_X1_86 (zo_X_43_2 true) rfl rfl dX1_search_44 ?_
  refine z_gw eg44 ?_
  refine z_iconst C dX1_search_47 zci_0 ?_
  refine z_istore_n C dX1_search_48 rfl (by decide) [(2, .int 0), (0, .ref (ad 47)), (1, .ref (ad 43))] rfl ?_
  refine z_iconst C dX1_search_49 zci_1 ?_
  refine z_istore_n C dX1_search_50 rfl (by decide) [(3, .int 1), (2, .int 0), (0, .ref (ad 47)), (1, .ref (ad 43))] rfl ?_
  refine z_loc [2, 3, 1, 0] rfl ?_
  refine wX1_search_43_L51 C  zN 0 1 g44 h
set_option maxRecDepth 100000 in
set_option maxHeartbeats 4000000 in
theorem wX1_search_43 (ad : Nat → Nat) (g : z_S) (gE : z_S) (h : fX1_search_43 g = some ((), gE)) : z_M yX1_search cX1_search 6 none 3 69 (layX true) (nX true) ad [.ref (ad 47), .ref (ad 43)] g none gE := by
  refine z_enter (by decide) (Nat.le_of_ble_eq_true rfl) (fun F C => ?_)
  replace C : z_X F (layX true) (nX true) ad cX1_search RX1 6 none 3 69 none gE := C
  show z_W F (layX true) (nX true) ad 0 [(0, .ref (ad 47)), (1, .ref (ad 43))] [] g
  unfold fX1_search_43 at h
  refine z_aload_n C dX1_search_0 rfl 0 rfl ?_
  obtain ⟨r1, g1, hq1, h⟩ := z_b_some h
  refine z_callVv [] C zc_X1_64 zk_K_47 rfl (by decide) (Nat.le_of_ble_eq_true rfl) dX1_search_1 rfl (wX1_layOut ad g g1 hq1) ?_
  refine z_aload_n C dX1_search_4 rfl 0 rfl ?_
  obtain ⟨r5, g5, hq5, h⟩ := z_b_some h
  refine z_callVv [] C zc_X1_67 zk_K_47 rfl (by decide) (Nat.le_of_ble_eq_true rfl) dX1_search_5 rfl (wX1_beAnywhere ad g1 g5 hq5) ?_
  refine z_aload_n C dX1_search_8 rfl 0 rfl ?_
  obtain ⟨r9, g9, hq9, h⟩ := z_b_some h
  refine z_callVv [] C zc_X1_70 zk_K_47 rfl (by decide) (Nat.le_of_ble_eq_true rfl) dX1_search_9 rfl (wX1_begin ad g5 g9 hq9) ?_
  refine z_aload_n C dX1_search_12 rfl 1 rfl ?_
  refine z_iconst C dX1_search_13 zci_1 ?_
  obtain ⟨g14, eg14, h⟩ := z_s_some h
  refine z_puti C zp_X1_73 (zo_X_43_1 true) rfl rfl dX1_search_14 ?_
  refine z_gw eg14 ?_
  refine z_aload_n C dX1_search_17 rfl 1 rfl ?_
  refine z_aload_n C dX1_search_18 rfl 1 rfl ?_
  refine z_geti C zf_X1_79 (zo_X_43_0 true) dX1_search_19 ?_
  refine z_if_eq 43 C dX1_search_22 rfl (fun hc => ?_) (fun hc => ?_)
  · replace h := z_it hc h
    refine z_iconst C dX1_search_43 zci_m1 ?_
    exact wX1_search_43_J44 C (-1) g14 h
  · replace h := z_if hc h
    refine z_aload_n C dX1_search_25 rfl 0 rfl ?_
    refine z_getr C zf_X1_53 zo_K_47_15 dX1_search_26 ?_
    refine z_aload_n C dX1_search_29 rfl 0 rfl ?_
    refine z_getr C zf_X1_46 zo_K_47_13 dX1_search_30 ?_
    obtain ⟨r33, g33, hq33, h⟩ := z_b_some h
    refine z_callVi [.ref (ad 43)] C zc_X1_82 zk_K_60 rfl (by decide) (Nat.le_of_ble_eq_true rfl) dX1_search_33 rfl (wX4_isLike_60_58 ad g14 r33 g33 hq33) ?_
    refine z_if_eq 43 C dX1_search_36 rfl (fun hc => ?_) (fun hc => ?_)
    · replace h := z_it hc h
      refine z_iconst C dX1_search_43 zci_m1 ?_
      exact wX1_search_43_J44 C (-1) g33 h
    · replace h := z_if hc h
      refine z_iconst C dX1_search_39 zci_0 ?_
      refine z_goto 44 C dX1_search_40 rfl ?_
      exact wX1_search_43_J44 C 0 g33 h
set_option maxRecDepth 100000 in
set_option maxHeartbeats 4000000 in
theorem wX10_partOfShortest_43_J29 {F : z_F} {ad : Nat → Nat} {r : Int32} {gE : z_S} (C : z_X F (layX true) (nX true) ad cX10_partOfShortest RX10 3 (some .int) 4 94 (some (.int r)) gE) (v2 : Int32) (g : z_S) (h : fX10_partOfShortest_43_J29 v2 g = some (r, gE)) : z_W F (layX true) (nX true) ad 29 [(1, .ref (ad 43)), (2, .int v2)] [] g := by
  unfold fX10_partOfShortest_43_J29 at h
  refine z_aload_n C dX10_partOfShortest_29 rfl 0 rfl ?_
  refine z_geti C zf_X10_253 (zo_X_43_2 true) dX10_partOfShortest_30 ?_
  refine z_sipush C dX10_partOfShortest_33 zcs_m1005 ?_
  refine z_icmp_ne 43 C dX10_partOfShortest_36 rfl (fun hc => ?_) (fun hc => ?_)
  · replace h := z_it hc h
    refine z_sipush C dX10_partOfShortest_39 zcs_m1005 ?_
    exact z_iret C (z_ret1i h) (z_ret2 h) dX10_partOfShortest_42
  · replace h := z_if hc h
    refine z_iload_n C dX10_partOfShortest_43 rfl 1 rfl ?_
    refine z_iconst C dX10_partOfShortest_44 zci_m1 ?_
    refine z_icmp_ne 53 C dX10_partOfShortest_45 rfl (fun hc => ?_) (fun hc => ?_)
    · replace h := z_it hc h
      refine z_aload_n C dX10_partOfShortest_48 rfl 0 rfl ?_
      refine z_geti C zf_X10_253 (zo_X_43_2 true) dX10_partOfShortest_49 ?_
      exact z_iret C (z_ret1i h) (z_ret2 h) dX10_partOfShortest_52
    · replace h := z_if hc h
      refine z_iload_n C dX10_partOfShortest_53 rfl 1 rfl ?_
      refine z_if_lt 74 C dX10_partOfShortest_54 rfl (fun hc => ?_) (fun hc => ?_)
      · replace h := z_it hc h
        refine z_iconst C dX10_partOfShortest_74 zci_m1 ?_
        exact z_iret C (z_ret1i h) (z_ret2 h) dX10_partOfShortest_75
      · replace h := z_if hc h
        refine z_iload_n C dX10_partOfShortest_57 rfl 1 rfl ?_
        refine z_aload_n C dX10_partOfShortest_58 rfl 0 rfl ?_
        refine z_geti C zf_X10_253 (zo_X_43_2 true) dX10_partOfShortest_59 ?_
        refine z_icmp_ge 74 C dX10_partOfShortest_62 rfl (fun hc => ?_) (fun hc => ?_)
        · replace h := z_it hc h
          refine z_iconst C dX10_partOfShortest_74 zci_m1 ?_
          exact z_iret C (z_ret1i h) (z_ret2 h) dX10_partOfShortest_75
        · replace h := z_if hc h
          refine z_aload_n C dX10_partOfShortest_65 rfl 0 rfl ?_
          refine z_getr C zf_X10_256 (zo_X_43_3 true) dX10_partOfShortest_66 ?_
          refine z_iload_n C dX10_partOfShortest_69 rfl 1 rfl ?_
          obtain ⟨hi70, h⟩ := z_g_some h
          refine z_iald C (za_X_44 true) (z_in_vp hi70) dX10_partOfShortest_70 ?_
          refine z_goto 75 C dX10_partOfShortest_71 rfl ?_
          exact z_iret C (z_ret1i h) (z_ret2 h) dX10_partOfShortest_75
set_option maxRecDepth 100000 in
set_option maxHeartbeats 4000000 in
theorem wX10_partOfShortest_43 (ad : Nat → Nat) (v2 : Int32) (g : z_S) (r : Int32) (gE : z_S) (h : fX10_partOfShortest_43 v2 g = some (r, gE)) : z_M yX10_partOfShortest cX10_partOfShortest 3 (some .int) 4 94 (layX true) (nX true) ad [.ref (ad 0), .ref (ad 43), .int v2] g (some (.int r)) gE := by
  refine z_enter (by decide) (Nat.le_of_ble_eq_true rfl) (fun F C => ?_)
  replace C : z_X F (layX true) (nX true) ad cX10_partOfShortest RX10 3 (some .int) 4 94 (some (.int r)) gE := C
  show z_W F (layX true) (nX true) ad 0 [(0, .ref (ad 0)), (1, .ref (ad 43)), (2, .int v2)] [] g
  unfold fX10_partOfShortest_43 at h
  refine z_aload_n C dX10_partOfShortest_0 rfl 0 rfl ?_
  refine z_getr C zf_X10_19 (zo_X_0_1 true) dX10_partOfShortest_1 ?_
  refine z_geti C zf_X10_89 (zo_X_4_0 true) dX10_partOfShortest_4 ?_
  refine z_if_ne 14 C dX10_partOfShortest_7 rfl (fun hc => ?_) (fun hc => ?_)
  · replace h := z_it hc h
    refine z_sipush C dX10_partOfShortest_10 zcs_m1003 ?_
    exact z_iret C (z_ret1i h) (z_ret2 h) dX10_partOfShortest_13
  · replace h := z_if hc h
    refine z_aload_n C dX10_partOfShortest_14 rfl 1 rfl ?_
    refine z_geti C zf_X10_237 (zo_X_43_1 true) dX10_partOfShortest_15 ?_
    refine z_if_ne 29 C dX10_partOfShortest_18 rfl (fun hc => ?_) (fun hc => ?_)
    · replace h := z_it hc h
      refine z_aload_n C dX10_partOfShortest_21 rfl 0 rfl ?_
      obtain ⟨r22, g22, hq22, h⟩ := z_b_some h
      refine z_callV [] C zc_X10_182 (zk_X_0 true) rfl (by decide) (Nat.le_of_ble_eq_true rfl) dX10_partOfShortest_22 rfl (wX10_states ad g g22 hq22) ?_
      refine z_aload_n C dX10_partOfShortest_25 rfl 1 rfl ?_
      obtain ⟨r26, g26, hq26, h⟩ := z_b_some h
      refine z_callVv [] C zc_X10_249 zk_K_47 rfl (by decide) (Nat.le_of_ble_eq_true rfl) dX10_partOfShortest_26 rfl (wX1_search_43 ad g22 g26 hq26) ?_
      refine z_loc [1, 2] rfl ?_
      exact wX10_partOfShortest_43_J29 C v2 g26 h
    · replace h := z_if hc h
      refine z_loc [1, 2] rfl ?_
      exact wX10_partOfShortest_43_J29 C v2 g h
set_option maxRecDepth 100000 in
set_option maxHeartbeats 4000000 in
theorem wX10_key (ad : Nat → Nat) (v1 : Int32) (g : z_S) (r : Int32) (gE : z_S) (h : fX10_key v1 g = some (r, gE)) : z_M yX10_key cX10_key 2 (some .int) 5 116 (layX true) (nX true) ad [.ref (ad 0), .int v1] g (some (.int r)) gE := by
  refine z_enter (by decide) (Nat.le_of_ble_eq_true rfl) (fun F C => ?_)
  replace C : z_X F (layX true) (nX true) ad cX10_key RX10 2 (some .int) 5 116 (some (.int r)) gE := C
  show z_W F (layX true) (nX true) ad 0 [(0, .ref (ad 0)), (1, .int v1)] [] g
  unfold fX10_key at h
  refine z_aload_n C dX10_key_0 rfl 0 rfl ?_
  refine z_aload_n C dX10_key_1 rfl 0 rfl ?_
  refine z_getr C zf_X10_78 (zo_X_0_9 true) dX10_key_2 ?_
  refine z_iload_n C dX10_key_5 rfl 1 rfl ?_
  obtain ⟨r6, g6, hq6, h⟩ := z_b_some h
  refine z_callVi [] C zc_X10_172 (zk_X_0 true) rfl (by decide) (Nat.le_of_ble_eq_true rfl) dX10_key_6 rfl (wX10_partOfShortest_43 ad v1 g r6 g6 hq6) ?_
  exact z_iret C (z_ret1i h) (z_ret2 h) dX10_key_9
set_option maxRecDepth 100000 in
set_option maxHeartbeats 4000000 in
theorem wX1_spell_45_L23 {F : z_F} {ad : Nat → Nat} {gE : z_S} (C : z_X F (layX true) (nX true) ad cX1_spell RX1 6 none 0 0 none gE) : ∀ (n : Nat) (v4 : Int32) (v5 : Int32) (g : z_S), z_loop fX1_spell_45_B23 n (v4, v5) g = some ((), gE) → z_W F (layX true) (nX true) ad 23 [(0, .ref (ad 47)), (3, .ref (ad 45)), (4, .int v4), (5, .int v5)] [] g := by
  intro n
  induction n with
  | zero =>
    intro v4 v5 g h
    exact (z_loop_0 h).elim
  | succ n ih =>
    intro v4 v5 g h
    replace h := z_loop_S h
    simp only [fX1_spell_45_B23] at h
    refine z_iload C dX1_spell_23 3 rfl ?_
    refine z_if_lt 57 C dX1_spell_25 rfl (fun hc => ?_) (fun hc => ?_)
    · replace h := z_it hc h
      exact z_vret C rfl (z_ret2 h) dX1_spell_57
    · replace h := z_if hc h
      refine z_aload_n C dX1_spell_28 rfl 1 rfl ?_
      refine z_getr C zf_X1_130 (zo_X_45_3 true) dX1_spell_29 ?_
      refine z_iload C dX1_spell_32 3 rfl ?_
      refine z_aload_n C dX1_spell_34 rfl 0 rfl ?_
      refine z_getr C zf_X1_28 zo_K_47_8 dX1_spell_35 ?_
      refine z_iload C dX1_spell_38 2 rfl ?_
      obtain ⟨hi40, h⟩ := z_g_some h
      refine z_iald C za_K_53 (z_in_vp hi40) dX1_spell_40 ?_
      obtain ⟨hi41, h⟩ := z_g_some h
      obtain ⟨g41, eg41, h⟩ := z_s_some h
      refine z_iast C (za_X_46 true) (z_in_vp hi41) dX1_spell_41 ?_
      refine z_gw eg41 ?_
      refine z_aload_n C dX1_spell_42 rfl 0 rfl ?_
      refine z_getr C zf_X1_25 zo_K_47_7 dX1_spell_43 ?_
      refine z_iload C dX1_spell_46 2 rfl ?_
      obtain ⟨hi48, h⟩ := z_g_some h
      refine z_iald C za_K_52 (z_in_vp hi48) dX1_spell_48 ?_
      refine z_istore C dX1_spell_49 (by decide) [(4, .int (g41.1 52 (v4).toNatClampNeg)), (0, .ref (ad 47)), (3, .ref (ad 45)), (5, .int v5)] rfl ?_
      refine z_iinc C dX1_spell_51 (by decide) 3 rfl (z_incl zci_m1) [(5, .int (v5 + (-1))), (4, .int (g41.1 52 (v4).toNatClampNeg)), (0, .ref (ad 47)), (3, .ref (ad 45))] rfl ?_
      refine z_goto 23 C dX1_spell_54 rfl ?_
      refine z_loc [2, 3, 1, 0] rfl ?_
      exact ih (g41.1 52 (v4).toNatClampNeg) (v5 + (-1)) g41 h
set_option maxRecDepth 100000 in
set_option maxHeartbeats 4000000 in
theorem wX1_spell_45 (ad : Nat → Nat) (v1 : Int32) (v2 : Int32) (g : z_S) (gE : z_S) (h : fX1_spell_45 v1 v2 g = some ((), gE)) : z_M yX1_spell cX1_spell 6 none 0 0 (layX true) (nX true) ad [.ref (ad 47), .int v1, .int v2, .ref (ad 45)] g none gE := by
  refine z_enter (by decide) (Nat.le_of_ble_eq_true rfl) (fun F C => ?_)
  replace C : z_X F (layX true) (nX true) ad cX1_spell RX1 6 none 0 0 none gE := C
  show z_W F (layX true) (nX true) ad 0 [(0, .ref (ad 47)), (1, .int v1), (2, .int v2), (3, .ref (ad 45))] [] g
  unfold fX1_spell_45 at h
  refine z_aload_n C dX1_spell_0 rfl 3 rfl ?_
  refine z_getr C zf_X1_130 (zo_X_45_3 true) dX1_spell_1 ?_
  refine z_aload_n C dX1_spell_4 rfl 3 rfl ?_
  refine z_geti C zf_X1_86 (zo_X_45_2 true) dX1_spell_5 ?_
  refine z_iconst C dX1_spell_8 zci_1 ?_
  refine z_isub C dX1_spell_9 ?_
  refine z_iload_n C dX1_spell_10 rfl 2 rfl ?_
  obtain ⟨hi11, h⟩ := z_g_some h
  obtain ⟨g11, eg11, h⟩ := z_s_some h
  refine z_iast C (za_X_46 true) (z_in_vp hi11) dX1_spell_11 ?_
  refine z_gw eg11 ?_
  refine z_iload_n C dX1_spell_12 rfl 1 rfl ?_
  refine z_istore C dX1_spell_13 (by decide) [(4, .int v1), (0, .ref (ad 47)), (1, .int v1), (2, .int v2), (3, .ref (ad 45))] rfl ?_
  refine z_aload_n C dX1_spell_15 rfl 4 rfl ?_
  refine z_geti C zf_X1_86 (zo_X_45_2 true) dX1_spell_16 ?_
  refine z_iconst C dX1_spell_19 zci_2 ?_
  refine z_isub C dX1_spell_20 ?_
  refine z_istore C dX1_spell_21 (by decide) [(5, .int ((g11.1 45 2) - 2)), (4, .int v1), (0, .ref (ad 47)), (1, .int v1), (2, .int v2), (3, .ref (ad 45))] rfl ?_
  refine z_loc [2, 5, 1, 0] rfl ?_
  refine wX1_spell_45_L23 C  zN v1 ((g11.1 45 2) - 2) g11 h
set_option maxRecDepth 100000 in
set_option maxHeartbeats 4000000 in
theorem wX1_searchBehind_45_J50 {F : z_F} {ad : Nat → Nat} {gE : z_S} (C : z_X F (layX true) (nX true) ad cX1_searchBehind RX1 6 none 2 44 none gE) (rc : (Int32 × Int32 × Int32) → z_S → Option (Unit × z_S)) (k57 : Int32 → Int32 → Int32 → z_S → Option (Unit × z_S)) (hrc : ∀ (v1 : Int32) (v2 : Int32) (v4 : Int32) (g : z_S), rc (v1, v2, v4) g = some ((), gE) → z_W F (layX true) (nX true) ad 3 [(0, .ref (ad 47)), (1, .int v1), (2, .int v2), (3, .ref (ad 45)), (4, .int v4)] [] g) (hk57 : ∀ (v1 : Int32) (v2 : Int32) (v4 : Int32) (g : z_S), k57 v1 v2 v4 g = some ((), gE) → z_W F (layX true) (nX true) ad 57 [(0, .ref (ad 47)), (1, .int v1), (2, .int v2), (3, .ref (ad 45)), (4, .int v4)] [] g) (v1 : Int32) (v2 : Int32) (v4 : Int32) (s0 : Int32) (g : z_S) (h : fX1_searchBehind_45_J50 rc k57 v1 v2 v4 s0 g = some ((), gE)) : z_W F (layX true) (nX true) ad 50 [(0, .ref (ad 47)), (1, .int v1), (2, .int v2), (3, .ref (ad 45)), (4, .int v4)] [.int s0] g := by
  unfold fX1_searchBehind_45_J50 at h
  refine z_istore C dX1_searchBehind_50 (by decide) [(5, .int s0), (0, .ref (ad 47)), (1, .int v1), (2, .int v2), (3, .ref (ad 45)), (4, .int v4)] rfl ?_
  refine z_iload C dX1_searchBehind_52 0 rfl ?_
  refine z_if_eq 71 C dX1_searchBehind_54 rfl (fun hc => ?_) (fun hc => ?_)
  · replace h := z_it hc h
    refine z_aload_n C dX1_searchBehind_71 rfl 1 rfl ?_
    refine z_getr C zf_X1_53 zo_K_47_15 dX1_searchBehind_72 ?_
    obtain ⟨r75, g75, hq75, h⟩ := z_b_some h
    refine z_callVi [] C zc_X1_116 zk_K_60 rfl (by decide) (Nat.le_of_ble_eq_true rfl) dX1_searchBehind_75 rfl (wX4_isEmpty_60 ad g r75 g75 hq75) ?_
    refine z_if_ne 135 C dX1_searchBehind_78 rfl (fun hc => ?_) (fun hc => ?_)
    · replace h := z_it hc h
      refine z_aload_n C dX1_searchBehind_81 rfl 1 rfl ?_
      obtain ⟨r82, g82, hq82, h⟩ := z_b_some h
      refine z_callVi [] C zc_X1_123 zk_K_47 rfl (by decide) (Nat.le_of_ble_eq_true rfl) dX1_searchBehind_82 rfl (wX1_find ad g75 r82 g82 hq82) ?_
      refine z_iconst C dX1_searchBehind_85 zci_m1 ?_
      refine z_icmp_eq 92 C dX1_searchBehind_86 rfl (fun hc => ?_) (fun hc => ?_)
      · replace h := z_it hc h
        refine z_aload_n C dX1_searchBehind_92 rfl 1 rfl ?_
        refine z_geti C zf_X1_90 zo_K_47_2 dX1_searchBehind_93 ?_
        refine z_sipush C dX1_searchBehind_96 zcs_2000 ?_
        refine z_icmp_lt 110 C dX1_searchBehind_99 rfl (fun hc => ?_) (fun hc => ?_)
        · replace h := z_it hc h
          refine z_aload_n C dX1_searchBehind_110 rfl 1 rfl ?_
          refine z_getr C zf_X1_25 zo_K_47_7 dX1_searchBehind_111 ?_
          refine z_aload_n C dX1_searchBehind_114 rfl 1 rfl ?_
          refine z_geti C zf_X1_90 zo_K_47_2 dX1_searchBehind_115 ?_
          refine z_iload_n C dX1_searchBehind_118 rfl 2 rfl ?_
          obtain ⟨hi119, h⟩ := z_g_some h
          obtain ⟨g119, eg119, h⟩ := z_s_some h
          refine z_iast C za_K_52 (z_in_vp hi119) dX1_searchBehind_119 ?_
          refine z_gw eg119 ?_
          refine z_aload_n C dX1_searchBehind_120 rfl 1 rfl ?_
          refine z_getr C zf_X1_28 zo_K_47_8 dX1_searchBehind_121 ?_
          refine z_aload_n C dX1_searchBehind_124 rfl 1 rfl ?_
          refine z_geti C zf_X1_90 zo_K_47_2 dX1_searchBehind_125 ?_
          refine z_iload C dX1_searchBehind_128 5 rfl ?_
          obtain ⟨hi130, h⟩ := z_g_some h
          obtain ⟨g130, eg130, h⟩ := z_s_some h
          refine z_iast C za_K_53 (z_in_vp hi130) dX1_searchBehind_130 ?_
          refine z_gw eg130 ?_
          refine z_aload_n C dX1_searchBehind_131 rfl 1 rfl ?_
          obtain ⟨r132, g132, hq132, h⟩ := z_b_some h
          refine z_callVv [] C zc_X1_127 zk_K_47 rfl (by decide) (Nat.le_of_ble_eq_true rfl) dX1_searchBehind_132 rfl (wX1_keep ad g130 g132 hq132) ?_
          refine z_iinc C dX1_searchBehind_135 (by decide) 5 rfl (z_incl zci_1) [(4, .int (v4 + 1)), (5, .int s0), (0, .ref (ad 47)), (1, .int v1), (2, .int v2), (3, .ref (ad 45))] rfl ?_
          refine z_goto 3 C dX1_searchBehind_138 rfl ?_
          refine z_loc [2, 3, 4, 5, 0] rfl ?_
          exact hrc v1 v2 (v4 + 1) g132 h
        · replace h := z_if hc h
          refine z_aload_n C dX1_searchBehind_102 rfl 4 rfl ?_
          refine z_sipush C dX1_searchBehind_103 zcs_m1005 ?_
          obtain ⟨g106, eg106, h⟩ := z_s_some h
          refine z_puti C zp_X1_86 (zo_X_45_2 true) rfl rfl dX1_searchBehind_106 ?_
          refine z_gw eg106 ?_
          exact z_vret C rfl (z_ret2 h) dX1_searchBehind_109
      · replace h := z_if hc h
        refine z_goto 135 C dX1_searchBehind_89 rfl ?_
        refine z_iinc C dX1_searchBehind_135 (by decide) 5 rfl (z_incl zci_1) [(4, .int (v4 + 1)), (5, .int s0), (0, .ref (ad 47)), (1, .int v1), (2, .int v2), (3, .ref (ad 45))] rfl ?_
        refine z_goto 3 C dX1_searchBehind_138 rfl ?_
        refine z_loc [2, 3, 4, 5, 0] rfl ?_
        exact hrc v1 v2 (v4 + 1) g82 h
    · replace h := z_if hc h
      refine z_iinc C dX1_searchBehind_135 (by decide) 5 rfl (z_incl zci_1) [(4, .int (v4 + 1)), (5, .int s0), (0, .ref (ad 47)), (1, .int v1), (2, .int v2), (3, .ref (ad 45))] rfl ?_
      refine z_goto 3 C dX1_searchBehind_138 rfl ?_
      refine z_loc [2, 3, 4, 5, 0] rfl ?_
      exact hrc v1 v2 (v4 + 1) g75 h
  · replace h := z_if hc h
    refine z_loc [1, 2, 3, 4, 5] rfl ?_
    exact hk57 v1 v2 v4 g h
set_option maxRecDepth 100000 in
set_option maxHeartbeats 4000000 in
theorem wX1_searchBehind_45_L3 {F : z_F} {ad : Nat → Nat} {gE : z_S} (C : z_X F (layX true) (nX true) ad cX1_searchBehind RX1 6 none 2 44 none gE) (k57 : Int32 → Int32 → Int32 → z_S → Option (Unit × z_S)) (hk57 : ∀ (v1 : Int32) (v2 : Int32) (v4 : Int32) (g : z_S), k57 v1 v2 v4 g = some ((), gE) → z_W F (layX true) (nX true) ad 57 [(0, .ref (ad 47)), (1, .int v1), (2, .int v2), (3, .ref (ad 45)), (4, .int v4)] [] g) : ∀ (n : Nat) (v1 : Int32) (v2 : Int32) (v4 : Int32) (g : z_S), z_loop (fX1_searchBehind_45_B3 k57) n (v1, v2, v4) g = some ((), gE) → z_W F (layX true) (nX true) ad 3 [(0, .ref (ad 47)), (1, .int v1), (2, .int v2), (3, .ref (ad 45)), (4, .int v4)] [] g := by
  intro n
  induction n with
  | zero =>
    intro v1 v2 v4 g h
    exact (z_loop_0 h).elim
  | succ n ih =>
    intro v1 v2 v4 g h
    replace h := z_loop_S h
    simp only [fX1_searchBehind_45_B3] at h
    refine z_iload C dX1_searchBehind_3 4 rfl ?_
    refine z_aload_n C dX1_searchBehind_5 rfl 0 rfl ?_
    refine z_getr C zf_X1_60 zo_K_47_1 dX1_searchBehind_6 ?_
    refine z_geti C zf_X1_107 (zo_X_1_0 true) dX1_searchBehind_9 ?_
    refine z_icmp_ge 141 C dX1_searchBehind_12 rfl (fun hc => ?_) (fun hc => ?_)
    · replace h := z_it hc h
      exact z_vret C rfl (z_ret2 h) dX1_searchBehind_141
    · replace h := z_if hc h
      refine z_aload_n C dX1_searchBehind_15 rfl 0 rfl ?_
      refine z_iload_n C dX1_searchBehind_16 rfl 1 rfl ?_
      refine z_iload C dX1_searchBehind_17 4 rfl ?_
      obtain ⟨r19, g19, hq19, h⟩ := z_b_some h
      refine z_callVv [] C zc_X1_112 zk_K_47 rfl (by decide) (Nat.le_of_ble_eq_true rfl) dX1_searchBehind_19 rfl (wX1_stepFrom ad v1 v4 g g19 hq19) ?_
      refine z_aload_n C dX1_searchBehind_22 rfl 3 rfl ?_
      refine z_geti C zf_X1_79 (zo_X_45_0 true) dX1_searchBehind_23 ?_
      refine z_if_eq 43 C dX1_searchBehind_26 rfl (fun hc => ?_) (fun hc => ?_)
      · replace h := z_it hc h
        refine z_aload_n C dX1_searchBehind_43 rfl 0 rfl ?_
        refine z_getr C zf_X1_53 zo_K_47_15 dX1_searchBehind_44 ?_
        obtain ⟨r47, g47, hq47, h⟩ := z_b_some h
        refine z_callVi [] C zc_X1_116 zk_K_60 rfl (by decide) (Nat.le_of_ble_eq_true rfl) dX1_searchBehind_47 rfl (wX4_isEmpty_60 ad g19 r47 g47 hq47) ?_
        exact wX1_searchBehind_45_J50 C _ _ (fun v1 v2 v4 g h => ih v1 v2 v4 g h) hk57 v1 v2 v4 r47 g47 h
      · replace h := z_if hc h
        refine z_aload_n C dX1_searchBehind_29 rfl 0 rfl ?_
        refine z_getr C zf_X1_53 zo_K_47_15 dX1_searchBehind_30 ?_
        refine z_aload_n C dX1_searchBehind_33 rfl 0 rfl ?_
        refine z_getr C zf_X1_46 zo_K_47_13 dX1_searchBehind_34 ?_
        obtain ⟨r37, g37, hq37, h⟩ := z_b_some h
        refine z_callVi [] C zc_X1_82 zk_K_60 rfl (by decide) (Nat.le_of_ble_eq_true rfl) dX1_searchBehind_37 rfl (wX4_isLike_60_58 ad g19 r37 g37 hq37) ?_
        refine z_goto 50 C dX1_searchBehind_40 rfl ?_
        exact wX1_searchBehind_45_J50 C _ _ (fun v1 v2 v4 g h => ih v1 v2 v4 g h) hk57 v1 v2 v4 r37 g37 h
set_option maxRecDepth 100000 in
set_option maxHeartbeats 4000000 in
theorem wX1_searchBehind_45 (ad : Nat → Nat) (v1 : Int32) (v2 : Int32) (g : z_S) (gE : z_S) (h : fX1_searchBehind_45 v1 v2 g = some ((), gE)) : z_M yX1_searchBehind cX1_searchBehind 6 none 2 44 (layX true) (nX true) ad [.ref (ad 47), .int v1, .int v2, .ref (ad 45)] g none gE := by
  refine z_enter (by decide) (Nat.le_of_ble_eq_true rfl) (fun F C => ?_)
  replace C : z_X F (layX true) (nX true) ad cX1_searchBehind RX1 6 none 2 44 none gE := C
  show z_W F (layX true) (nX true) ad 0 [(0, .ref (ad 47)), (1, .int v1), (2, .int v2), (3, .ref (ad 45))] [] g
  unfold fX1_searchBehind_45 at h
  refine z_iconst C dX1_searchBehind_0 zci_0 ?_
  refine z_istore C dX1_searchBehind_1 (by decide) [(4, .int 0), (0, .ref (ad 47)), (1, .int v1), (2, .int v2), (3, .ref (ad 45))] rfl ?_
  refine z_loc [1, 2, 3, 4, 0] rfl ?_
  refine wX1_searchBehind_45_L3 C _ ?_ zN v1 v2 0 g h
  · intro v1 v2 v4 g h
    refine z_aload_n C dX1_searchBehind_57 rfl 3 rfl ?_
    refine z_iload_n C dX1_searchBehind_58 rfl 2 rfl ?_
    obtain ⟨g59, eg59, h⟩ := z_s_some h
    refine z_puti C zp_X1_86 (zo_X_45_2 true) rfl rfl dX1_searchBehind_59 ?_
    refine z_gw eg59 ?_
    refine z_aload_n C dX1_searchBehind_62 rfl 0 rfl ?_
    refine z_iload_n C dX1_searchBehind_63 rfl 1 rfl ?_
    refine z_iload C dX1_searchBehind_64 4 rfl ?_
    refine z_aload_n C dX1_searchBehind_66 rfl 3 rfl ?_
    obtain ⟨r67, g67, hq67, h⟩ := z_b_some h
    refine z_callVv [] C zc_X1_120 zk_K_47 rfl (by decide) (Nat.le_of_ble_eq_true rfl) dX1_searchBehind_67 rfl (wX1_spell_45 ad v1 v4 g59 g67 hq67) ?_
    exact z_vret C rfl (z_ret2 h) dX1_searchBehind_70
set_option maxRecDepth 100000 in
set_option maxHeartbeats 4000000 in
theorem wX1_search_45_L74 {F : z_F} {ad : Nat → Nat} {gE : z_S} (C : z_X F (layX true) (nX true) ad cX1_search RX1 6 none 3 69 none gE) (k103 : Int32 → Int32 → z_S → Option (Unit × z_S)) (hk103 : ∀ (v3 : Int32) (v4 : Int32) (g : z_S), k103 v3 v4 g = some ((), gE) → z_W F (layX true) (nX true) ad 103 [(0, .ref (ad 47)), (1, .ref (ad 45)), (3, .int v3), (4, .int v4)] [] g) : ∀ (n : Nat) (v3 : Int32) (v4 : Int32) (v5 : Int32) (g : z_S), z_loop (fX1_search_45_B74 k103) n (v3, v4, v5) g = some ((), gE) → z_W F (layX true) (nX true) ad 74 [(0, .ref (ad 47)), (1, .ref (ad 45)), (3, .int v3), (4, .int v4), (5, .int v5)] [] g := by
  intro n
  induction n with
  | zero =>
    intro v3 v4 v5 g h
    exact (z_loop_0 h).elim
  | succ n ih =>
    intro v3 v4 v5 g h
    replace h := z_loop_S h
    simp only [fX1_search_45_B74] at h
    refine z_iload C dX1_search_74 4 rfl ?_
    refine z_iload C dX1_search_76 3 rfl ?_
    refine z_icmp_ge 103 C dX1_search_78 rfl (fun hc => ?_) (fun hc => ?_)
    · replace h := z_it hc h
      refine z_loc [0, 1, 2, 3] rfl ?_
      exact hk103 v3 v4 g h
    · replace h := z_if hc h
      refine z_aload_n C dX1_search_81 rfl 1 rfl ?_
      refine z_geti C zf_X1_86 (zo_X_45_2 true) dX1_search_82 ?_
      refine z_iconst C dX1_search_85 zci_m1 ?_
      refine z_icmp_ne 103 C dX1_search_86 rfl (fun hc => ?_) (fun hc => ?_)
      · replace h := z_it hc h
        refine z_aload_n C dX1_search_89 rfl 0 rfl ?_
        refine z_iload C dX1_search_90 4 rfl ?_
        refine z_iload_n C dX1_search_92 rfl 2 rfl ?_
        refine z_aload_n C dX1_search_93 rfl 1 rfl ?_
        obtain ⟨r94, g94, hq94, h⟩ := z_b_some h
        refine z_callVv [] C zc_X1_93 zk_K_47 rfl (by decide) (Nat.le_of_ble_eq_true rfl) dX1_search_94 rfl (wX1_searchBehind_45 ad v5 v3 g g94 hq94) ?_
        refine z_iinc C dX1_search_97 (by decide) 4 rfl (z_incl zci_1) [(5, .int (v5 + 1)), (0, .ref (ad 47)), (1, .ref (ad 45)), (3, .int v3), (4, .int v4)] rfl ?_
        refine z_goto 74 C dX1_search_100 rfl ?_
        refine z_loc [1, 2, 3, 4, 0] rfl ?_
        exact ih v3 v4 (v5 + 1) g94 h
      · replace h := z_if hc h
        refine z_loc [0, 1, 2, 3] rfl ?_
        exact hk103 v3 v4 g h
set_option maxRecDepth 100000 in
set_option maxHeartbeats 4000000 in
theorem wX1_search_45_L51 {F : z_F} {ad : Nat → Nat} {gE : z_S} (C : z_X F (layX true) (nX true) ad cX1_search RX1 6 none 3 69 none gE) : ∀ (n : Nat) (v2 : Int32) (v3 : Int32) (g : z_S), z_loop fX1_search_45_B51 n (v2, v3) g = some ((), gE) → z_W F (layX true) (nX true) ad 51 [(0, .ref (ad 47)), (1, .ref (ad 45)), (2, .int v2), (3, .int v3)] [] g := by
  intro n
  induction n with
  | zero =>
    intro v2 v3 g h
    exact (z_loop_0 h).elim
  | succ n ih =>
    intro v2 v3 g h
    replace h := z_loop_S h
    simp only [fX1_search_45_B51] at h
    refine z_iload_n C dX1_search_51 rfl 3 rfl ?_
    refine z_bipush C dX1_search_52 zcb_12 ?_
    refine z_icmp_gt 112 C dX1_search_54 rfl (fun hc => ?_) (fun hc => ?_)
    · replace h := z_it hc h
      exact z_vret C rfl (z_ret2 h) dX1_search_112
    · replace h := z_if hc h
      refine z_aload_n C dX1_search_57 rfl 1 rfl ?_
      refine z_geti C zf_X1_86 (zo_X_45_2 true) dX1_search_58 ?_
      refine z_iconst C dX1_search_61 zci_m1 ?_
      refine z_icmp_ne 112 C dX1_search_62 rfl (fun hc => ?_) (fun hc => ?_)
      · replace h := z_it hc h
        refine z_aload_n C dX1_search_65 rfl 0 rfl ?_
        refine z_geti C zf_X1_90 zo_K_47_2 dX1_search_66 ?_
        refine z_istore C dX1_search_69 (by decide) [(4, .int (g.1 47 2)), (0, .ref (ad 47)), (1, .ref (ad 45)), (2, .int v2), (3, .int v3)] rfl ?_
        refine z_iload_n C dX1_search_71 rfl 3 rfl ?_
        refine z_istore C dX1_search_72 (by decide) [(5, .int v2), (4, .int (g.1 47 2)), (0, .ref (ad 47)), (1, .ref (ad 45)), (2, .int v2), (3, .int v3)] rfl ?_
        refine z_loc [2, 3, 5, 1, 0] rfl ?_
        refine wX1_search_45_L74 C _ ?_ zN v3 (g.1 47 2) v2 g h
        · intro v3 v4 g h
          refine z_iload C dX1_search_103 3 rfl ?_
          refine z_istore_n C dX1_search_105 rfl (by decide) [(2, .int v4), (0, .ref (ad 47)), (1, .ref (ad 45)), (3, .int v3), (4, .int v4)] rfl ?_
          refine z_iinc C dX1_search_106 (by decide) 3 rfl (z_incl zci_1) [(3, .int (v3 + 1)), (2, .int v4), (0, .ref (ad 47)), (1, .ref (ad 45)), (4, .int v4)] rfl ?_
          refine z_goto 51 C dX1_search_109 rfl ?_
          refine z_loc [2, 3, 1, 0] rfl ?_
          exact ih v4 (v3 + 1) g h
      · replace h := z_if hc h
        exact z_vret C rfl (z_ret2 h) dX1_search_112
set_option maxRecDepth 100000 in
set_option maxHeartbeats 4000000 in
theorem wX1_search_45_J44 {F : z_F} {ad : Nat → Nat} {gE : z_S} (C : z_X F (layX true) (nX true) ad cX1_search RX1 6 none 3 69 none gE) (s0 : Int32) (g : z_S) (h : fX1_search_45_J44 s0 g = some ((), gE)) : z_W F (layX true) (nX true) ad 44 [(0, .ref (ad 47)), (1, .ref (ad 45))] [.int s0, .ref (ad 45)] g := by
  unfold fX1_search_45_J44 at h
  obtain ⟨g44, eg44, h⟩ := z_s_some h
  refine z_puti C zp_X1_86 (zo_X_45_2 true) rfl rfl dX1_search_44 ?_
  refine z_gw eg44 ?_
  refine z_iconst C dX1_search_47 zci_0 ?_
  refine z_istore_n C dX1_search_48 rfl (by decide) [(2, .int 0), (0, .ref (ad 47)), (1, .ref (ad 45))] rfl ?_
  refine z_iconst C dX1_search_49 zci_1 ?_
  refine z_istore_n C dX1_search_50 rfl (by decide) [(3, .int 1), (2, .int 0), (0, .ref (ad 47)), (1, .ref (ad 45))] rfl ?_
  refine z_loc [2, 3, 1, 0] rfl ?_
  refine wX1_search_45_L51 C  zN 0 1 g44 h
set_option maxRecDepth 100000 in
set_option maxHeartbeats 4000000 in
theorem wX1_search_45 (ad : Nat → Nat) (g : z_S) (gE : z_S) (h : fX1_search_45 g = some ((), gE)) : z_M yX1_search cX1_search 6 none 3 69 (layX true) (nX true) ad [.ref (ad 47), .ref (ad 45)] g none gE := by
  refine z_enter (by decide) (Nat.le_of_ble_eq_true rfl) (fun F C => ?_)
  replace C : z_X F (layX true) (nX true) ad cX1_search RX1 6 none 3 69 none gE := C
  show z_W F (layX true) (nX true) ad 0 [(0, .ref (ad 47)), (1, .ref (ad 45))] [] g
  unfold fX1_search_45 at h
  refine z_aload_n C dX1_search_0 rfl 0 rfl ?_
  obtain ⟨r1, g1, hq1, h⟩ := z_b_some h
  refine z_callVv [] C zc_X1_64 zk_K_47 rfl (by decide) (Nat.le_of_ble_eq_true rfl) dX1_search_1 rfl (wX1_layOut ad g g1 hq1) ?_
  refine z_aload_n C dX1_search_4 rfl 0 rfl ?_
  obtain ⟨r5, g5, hq5, h⟩ := z_b_some h
  refine z_callVv [] C zc_X1_67 zk_K_47 rfl (by decide) (Nat.le_of_ble_eq_true rfl) dX1_search_5 rfl (wX1_beAnywhere ad g1 g5 hq5) ?_
  refine z_aload_n C dX1_search_8 rfl 0 rfl ?_
  obtain ⟨r9, g9, hq9, h⟩ := z_b_some h
  refine z_callVv [] C zc_X1_70 zk_K_47 rfl (by decide) (Nat.le_of_ble_eq_true rfl) dX1_search_9 rfl (wX1_begin ad g5 g9 hq9) ?_
  refine z_aload_n C dX1_search_12 rfl 1 rfl ?_
  refine z_iconst C dX1_search_13 zci_1 ?_
  obtain ⟨g14, eg14, h⟩ := z_s_some h
  refine z_puti C zp_X1_73 (zo_X_45_1 true) rfl rfl dX1_search_14 ?_
  refine z_gw eg14 ?_
  refine z_aload_n C dX1_search_17 rfl 1 rfl ?_
  refine z_aload_n C dX1_search_18 rfl 1 rfl ?_
  refine z_geti C zf_X1_79 (zo_X_45_0 true) dX1_search_19 ?_
  refine z_if_eq 43 C dX1_search_22 rfl (fun hc => ?_) (fun hc => ?_)
  · replace h := z_it hc h
    refine z_iconst C dX1_search_43 zci_m1 ?_
    exact wX1_search_45_J44 C (-1) g14 h
  · replace h := z_if hc h
    refine z_aload_n C dX1_search_25 rfl 0 rfl ?_
    refine z_getr C zf_X1_53 zo_K_47_15 dX1_search_26 ?_
    refine z_aload_n C dX1_search_29 rfl 0 rfl ?_
    refine z_getr C zf_X1_46 zo_K_47_13 dX1_search_30 ?_
    obtain ⟨r33, g33, hq33, h⟩ := z_b_some h
    refine z_callVi [.ref (ad 45)] C zc_X1_82 zk_K_60 rfl (by decide) (Nat.le_of_ble_eq_true rfl) dX1_search_33 rfl (wX4_isLike_60_58 ad g14 r33 g33 hq33) ?_
    refine z_if_eq 43 C dX1_search_36 rfl (fun hc => ?_) (fun hc => ?_)
    · replace h := z_it hc h
      refine z_iconst C dX1_search_43 zci_m1 ?_
      exact wX1_search_45_J44 C (-1) g33 h
    · replace h := z_if hc h
      refine z_iconst C dX1_search_39 zci_0 ?_
      refine z_goto 44 C dX1_search_40 rfl ?_
      exact wX1_search_45_J44 C 0 g33 h
set_option maxRecDepth 100000 in
set_option maxHeartbeats 4000000 in
theorem wX10_partOfShortest_45_J29 {F : z_F} {ad : Nat → Nat} {r : Int32} {gE : z_S} (C : z_X F (layX true) (nX true) ad cX10_partOfShortest RX10 3 (some .int) 4 94 (some (.int r)) gE) (v2 : Int32) (g : z_S) (h : fX10_partOfShortest_45_J29 v2 g = some (r, gE)) : z_W F (layX true) (nX true) ad 29 [(1, .ref (ad 45)), (2, .int v2)] [] g := by
  unfold fX10_partOfShortest_45_J29 at h
  refine z_aload_n C dX10_partOfShortest_29 rfl 0 rfl ?_
  refine z_geti C zf_X10_253 (zo_X_45_2 true) dX10_partOfShortest_30 ?_
  refine z_sipush C dX10_partOfShortest_33 zcs_m1005 ?_
  refine z_icmp_ne 43 C dX10_partOfShortest_36 rfl (fun hc => ?_) (fun hc => ?_)
  · replace h := z_it hc h
    refine z_sipush C dX10_partOfShortest_39 zcs_m1005 ?_
    exact z_iret C (z_ret1i h) (z_ret2 h) dX10_partOfShortest_42
  · replace h := z_if hc h
    refine z_iload_n C dX10_partOfShortest_43 rfl 1 rfl ?_
    refine z_iconst C dX10_partOfShortest_44 zci_m1 ?_
    refine z_icmp_ne 53 C dX10_partOfShortest_45 rfl (fun hc => ?_) (fun hc => ?_)
    · replace h := z_it hc h
      refine z_aload_n C dX10_partOfShortest_48 rfl 0 rfl ?_
      refine z_geti C zf_X10_253 (zo_X_45_2 true) dX10_partOfShortest_49 ?_
      exact z_iret C (z_ret1i h) (z_ret2 h) dX10_partOfShortest_52
    · replace h := z_if hc h
      refine z_iload_n C dX10_partOfShortest_53 rfl 1 rfl ?_
      refine z_if_lt 74 C dX10_partOfShortest_54 rfl (fun hc => ?_) (fun hc => ?_)
      · replace h := z_it hc h
        refine z_iconst C dX10_partOfShortest_74 zci_m1 ?_
        exact z_iret C (z_ret1i h) (z_ret2 h) dX10_partOfShortest_75
      · replace h := z_if hc h
        refine z_iload_n C dX10_partOfShortest_57 rfl 1 rfl ?_
        refine z_aload_n C dX10_partOfShortest_58 rfl 0 rfl ?_
        refine z_geti C zf_X10_253 (zo_X_45_2 true) dX10_partOfShortest_59 ?_
        refine z_icmp_ge 74 C dX10_partOfShortest_62 rfl (fun hc => ?_) (fun hc => ?_)
        · replace h := z_it hc h
          refine z_iconst C dX10_partOfShortest_74 zci_m1 ?_
          exact z_iret C (z_ret1i h) (z_ret2 h) dX10_partOfShortest_75
        · replace h := z_if hc h
          refine z_aload_n C dX10_partOfShortest_65 rfl 0 rfl ?_
          refine z_getr C zf_X10_256 (zo_X_45_3 true) dX10_partOfShortest_66 ?_
          refine z_iload_n C dX10_partOfShortest_69 rfl 1 rfl ?_
          obtain ⟨hi70, h⟩ := z_g_some h
          refine z_iald C (za_X_46 true) (z_in_vp hi70) dX10_partOfShortest_70 ?_
          refine z_goto 75 C dX10_partOfShortest_71 rfl ?_
          exact z_iret C (z_ret1i h) (z_ret2 h) dX10_partOfShortest_75
set_option maxRecDepth 100000 in
set_option maxHeartbeats 4000000 in
theorem wX10_partOfShortest_45 (ad : Nat → Nat) (v2 : Int32) (g : z_S) (r : Int32) (gE : z_S) (h : fX10_partOfShortest_45 v2 g = some (r, gE)) : z_M yX10_partOfShortest cX10_partOfShortest 3 (some .int) 4 94 (layX true) (nX true) ad [.ref (ad 0), .ref (ad 45), .int v2] g (some (.int r)) gE := by
  refine z_enter (by decide) (Nat.le_of_ble_eq_true rfl) (fun F C => ?_)
  replace C : z_X F (layX true) (nX true) ad cX10_partOfShortest RX10 3 (some .int) 4 94 (some (.int r)) gE := C
  show z_W F (layX true) (nX true) ad 0 [(0, .ref (ad 0)), (1, .ref (ad 45)), (2, .int v2)] [] g
  unfold fX10_partOfShortest_45 at h
  refine z_aload_n C dX10_partOfShortest_0 rfl 0 rfl ?_
  refine z_getr C zf_X10_19 (zo_X_0_1 true) dX10_partOfShortest_1 ?_
  refine z_geti C zf_X10_89 (zo_X_4_0 true) dX10_partOfShortest_4 ?_
  refine z_if_ne 14 C dX10_partOfShortest_7 rfl (fun hc => ?_) (fun hc => ?_)
  · replace h := z_it hc h
    refine z_sipush C dX10_partOfShortest_10 zcs_m1003 ?_
    exact z_iret C (z_ret1i h) (z_ret2 h) dX10_partOfShortest_13
  · replace h := z_if hc h
    refine z_aload_n C dX10_partOfShortest_14 rfl 1 rfl ?_
    refine z_geti C zf_X10_237 (zo_X_45_1 true) dX10_partOfShortest_15 ?_
    refine z_if_ne 29 C dX10_partOfShortest_18 rfl (fun hc => ?_) (fun hc => ?_)
    · replace h := z_it hc h
      refine z_aload_n C dX10_partOfShortest_21 rfl 0 rfl ?_
      obtain ⟨r22, g22, hq22, h⟩ := z_b_some h
      refine z_callV [] C zc_X10_182 (zk_X_0 true) rfl (by decide) (Nat.le_of_ble_eq_true rfl) dX10_partOfShortest_22 rfl (wX10_states ad g g22 hq22) ?_
      refine z_aload_n C dX10_partOfShortest_25 rfl 1 rfl ?_
      obtain ⟨r26, g26, hq26, h⟩ := z_b_some h
      refine z_callVv [] C zc_X10_249 zk_K_47 rfl (by decide) (Nat.le_of_ble_eq_true rfl) dX10_partOfShortest_26 rfl (wX1_search_45 ad g22 g26 hq26) ?_
      refine z_loc [1, 2] rfl ?_
      exact wX10_partOfShortest_45_J29 C v2 g26 h
    · replace h := z_if hc h
      refine z_loc [1, 2] rfl ?_
      exact wX10_partOfShortest_45_J29 C v2 g h
set_option maxRecDepth 100000 in
set_option maxHeartbeats 4000000 in
theorem wX10_strange (ad : Nat → Nat) (v1 : Int32) (g : z_S) (r : Int32) (gE : z_S) (h : fX10_strange v1 g = some (r, gE)) : z_M yX10_strange cX10_strange 2 (some .int) 5 116 (layX true) (nX true) ad [.ref (ad 0), .int v1] g (some (.int r)) gE := by
  refine z_enter (by decide) (Nat.le_of_ble_eq_true rfl) (fun F C => ?_)
  replace C : z_X F (layX true) (nX true) ad cX10_strange RX10 2 (some .int) 5 116 (some (.int r)) gE := C
  show z_W F (layX true) (nX true) ad 0 [(0, .ref (ad 0)), (1, .int v1)] [] g
  unfold fX10_strange at h
  refine z_aload_n C dX10_strange_0 rfl 0 rfl ?_
  refine z_aload_n C dX10_strange_1 rfl 0 rfl ?_
  refine z_getr C zf_X10_82 (zo_X_0_10 true) dX10_strange_2 ?_
  refine z_iload_n C dX10_strange_5 rfl 1 rfl ?_
  obtain ⟨r6, g6, hq6, h⟩ := z_b_some h
  refine z_callVi [] C zc_X10_172 (zk_X_0 true) rfl (by decide) (Nat.le_of_ble_eq_true rfl) dX10_strange_6 rfl (wX10_partOfShortest_45 ad v1 g r6 g6 hq6) ?_
  exact z_iret C (z_ret1i h) (z_ret2 h) dX10_strange_9
set_option maxRecDepth 100000 in
set_option maxHeartbeats 4000000 in
theorem wX10_ways_L37 {kn : Bool} {F : z_F} {ad : Nat → Nat} {r : Int64} {gE : z_S} (C : z_X F (layX kn) (nX kn) ad cX10_ways RX10 5 (some .long) 2 46 (some (.long r)) gE) (k94 : Int32 → Int32 → z_S → Option (Int64 × z_S)) (hk94 : ∀ (v1 : Int32) (v2 : Int32) (g : z_S), k94 v1 v2 g = some (r, gE) → z_W F (layX kn) (nX kn) ad 94 [(0, .ref (ad 0)), (1, .int v1), (2, .int v2)] [] g) : ∀ (n : Nat) (v1 : Int32) (v2 : Int32) (v3 : Int32) (g : z_S), z_loop (fX10_ways_B37 k94) n (v1, v2, v3) g = some (r, gE) → z_W F (layX kn) (nX kn) ad 37 [(0, .ref (ad 0)), (1, .int v1), (2, .int v2), (3, .int v3)] [] g := by
  intro n
  induction n with
  | zero =>
    intro v1 v2 v3 g h
    exact (z_loop_0 h).elim
  | succ n ih =>
    intro v1 v2 v3 g h
    replace h := z_loop_S h
    simp only [fX10_ways_B37] at h
    refine z_iload_n C dX10_ways_37 rfl 3 rfl ?_
    refine z_aload_n C dX10_ways_38 rfl 0 rfl ?_
    refine z_getr C zf_X10_19 (zo_X_0_1 kn) dX10_ways_39 ?_
    refine z_geti C zf_X10_89 (zo_X_4_0 kn) dX10_ways_42 ?_
    refine z_icmp_ge 94 C dX10_ways_45 rfl (fun hc => ?_) (fun hc => ?_)
    · replace h := z_it hc h
      refine z_loc [0, 1, 2] rfl ?_
      exact hk94 v1 v2 g h
    · replace h := z_if hc h
      refine z_iload_n C dX10_ways_48 rfl 2 rfl ?_
      refine z_aload_n C dX10_ways_49 rfl 0 rfl ?_
      refine z_getr C zf_X10_19 (zo_X_0_1 kn) dX10_ways_50 ?_
      refine z_getr C zf_X10_125 (zo_X_4_2 kn) dX10_ways_53 ?_
      refine z_iload_n C dX10_ways_56 rfl 3 rfl ?_
      obtain ⟨hi57, h⟩ := z_g_some h
      refine z_iald C (za_X_6 kn) (z_in_vp hi57) dX10_ways_57 ?_
      refine z_isub C dX10_ways_58 ?_
      refine z_istore C dX10_ways_59 (by decide) [(4, .int (v2 - (g.1 6 (v3).toNatClampNeg))), (0, .ref (ad 0)), (1, .int v1), (2, .int v2), (3, .int v3)] rfl ?_
      refine z_iload C dX10_ways_61 0 rfl ?_
      refine z_if_lt 88 C dX10_ways_63 rfl (fun hc => ?_) (fun hc => ?_)
      · replace h := z_it hc h
        refine z_iinc C dX10_ways_88 (by decide) 4 rfl (z_incl zci_1) [(3, .int (v3 + 1)), (4, .int (v2 - (g.1 6 (v3).toNatClampNeg))), (0, .ref (ad 0)), (1, .int v1), (2, .int v2)] rfl ?_
        refine z_goto 37 C dX10_ways_91 rfl ?_
        refine z_loc [2, 3, 4, 0] rfl ?_
        exact ih v1 v2 (v3 + 1) g h
      · replace h := z_if hc h
        refine z_aload_n C dX10_ways_66 rfl 1 rfl ?_
        refine z_getr C zf_X10_69 (zo_X_0_8 kn) dX10_ways_67 ?_
        refine z_iload_n C dX10_ways_70 rfl 3 rfl ?_
        refine z_aload_n C dX10_ways_71 rfl 1 rfl ?_
        refine z_getr C zf_X10_69 (zo_X_0_8 kn) dX10_ways_72 ?_
        refine z_iload_n C dX10_ways_75 rfl 3 rfl ?_
        obtain ⟨hi76, h⟩ := z_g_some h
        refine z_lald C (za_X_42 kn) (z_in_vp hi76) dX10_ways_76 ?_
        refine z_aload_n C dX10_ways_77 rfl 1 rfl ?_
        refine z_getr C zf_X10_69 (zo_X_0_8 kn) dX10_ways_78 ?_
        refine z_iload C dX10_ways_81 0 rfl ?_
        obtain ⟨hi83, h⟩ := z_g_some h
        refine z_lald C (za_X_42 kn) (z_in_vp hi83) dX10_ways_83 ?_
        obtain ⟨r84, g84, hq84, h⟩ := z_b_some h
        refine z_callSl [.int v2, .ref (ad 42)] C zc_X10_178 rfl (by decide) (Nat.le_of_ble_eq_true rfl) dX10_ways_84 rfl (wX10_addCapped kn ad (g.2 42 (v2).toNatClampNeg) (g.2 42 (v2 - (g.1 6 (v3).toNatClampNeg)).toNatClampNeg) g r84 g84 hq84) ?_
        obtain ⟨hi87, h⟩ := z_g_some h
        obtain ⟨g87, eg87, h⟩ := z_s_some h
        refine z_last C (za_X_42 kn) (z_in_vp hi87) dX10_ways_87 ?_
        refine z_gw eg87 ?_
        refine z_iinc C dX10_ways_88 (by decide) 4 rfl (z_incl zci_1) [(3, .int (v3 + 1)), (4, .int (v2 - (g.1 6 (v3).toNatClampNeg))), (0, .ref (ad 0)), (1, .int v1), (2, .int v2)] rfl ?_
        refine z_goto 37 C dX10_ways_91 rfl ?_
        refine z_loc [2, 3, 4, 0] rfl ?_
        exact ih v1 v2 (v3 + 1) g87 h
set_option maxRecDepth 100000 in
set_option maxHeartbeats 4000000 in
theorem wX10_ways_L23 {kn : Bool} {F : z_F} {ad : Nat → Nat} {r : Int64} {gE : z_S} (C : z_X F (layX kn) (nX kn) ad cX10_ways RX10 5 (some .long) 2 46 (some (.long r)) gE) (k100 : Int32 → z_S → Option (Int64 × z_S)) (hk100 : ∀ (v1 : Int32) (g : z_S), k100 v1 g = some (r, gE) → z_W F (layX kn) (nX kn) ad 100 [(0, .ref (ad 0)), (1, .int v1)] [] g) : ∀ (n : Nat) (v1 : Int32) (v2 : Int32) (g : z_S), z_loop (fX10_ways_B23 k100) n (v1, v2) g = some (r, gE) → z_W F (layX kn) (nX kn) ad 23 [(0, .ref (ad 0)), (1, .int v1), (2, .int v2)] [] g := by
  intro n
  induction n with
  | zero =>
    intro v1 v2 g h
    exact (z_loop_0 h).elim
  | succ n ih =>
    intro v1 v2 g h
    replace h := z_loop_S h
    simp only [fX10_ways_B23] at h
    refine z_iload_n C dX10_ways_23 rfl 2 rfl ?_
    refine z_iload_n C dX10_ways_24 rfl 1 rfl ?_
    refine z_icmp_gt 100 C dX10_ways_25 rfl (fun hc => ?_) (fun hc => ?_)
    · replace h := z_it hc h
      refine z_loc [0, 1] rfl ?_
      exact hk100 v1 g h
    · replace h := z_if hc h
      refine z_aload_n C dX10_ways_28 rfl 0 rfl ?_
      refine z_getr C zf_X10_69 (zo_X_0_8 kn) dX10_ways_29 ?_
      refine z_iload_n C dX10_ways_32 rfl 2 rfl ?_
      refine z_lconst C dX10_ways_33 zcl_0 ?_
      obtain ⟨hi34, h⟩ := z_g_some h
      obtain ⟨g34, eg34, h⟩ := z_s_some h
      refine z_last C (za_X_42 kn) (z_in_vp hi34) dX10_ways_34 ?_
      refine z_gw eg34 ?_
      refine z_iconst C dX10_ways_35 zci_0 ?_
      refine z_istore_n C dX10_ways_36 rfl (by decide) [(3, .int 0), (0, .ref (ad 0)), (1, .int v1), (2, .int v2)] rfl ?_
      refine z_loc [1, 2, 3, 0] rfl ?_
      refine wX10_ways_L37 C _ ?_ zN v1 v2 0 g34 h
      · intro v1 v2 g h
        refine z_iinc C dX10_ways_94 (by decide) 2 rfl (z_incl zci_1) [(2, .int (v2 + 1)), (0, .ref (ad 0)), (1, .int v1)] rfl ?_
        refine z_goto 23 C dX10_ways_97 rfl ?_
        refine z_loc [1, 2, 0] rfl ?_
        exact ih v1 (v2 + 1) g h
set_option maxRecDepth 100000 in
set_option maxHeartbeats 4000000 in
theorem wX10_ways (kn : Bool) (ad : Nat → Nat) (v1 : Int32) (g : z_S) (r : Int64) (gE : z_S) (h : fX10_ways v1 g = some (r, gE)) : z_M yX10_ways cX10_ways 5 (some .long) 2 46 (layX kn) (nX kn) ad [.ref (ad 0), .int v1] g (some (.long r)) gE := by
  refine z_enter (by decide) (Nat.le_of_ble_eq_true rfl) (fun F C => ?_)
  replace C : z_X F (layX kn) (nX kn) ad cX10_ways RX10 5 (some .long) 2 46 (some (.long r)) gE := C
  show z_W F (layX kn) (nX kn) ad 0 [(0, .ref (ad 0)), (1, .int v1)] [] g
  unfold fX10_ways at h
  refine z_iload_n C dX10_ways_0 rfl 1 rfl ?_
  refine z_if_lt 10 C dX10_ways_1 rfl (fun hc => ?_) (fun hc => ?_)
  · replace h := z_it hc h
    refine z_ldc2 C dX10_ways_10 zl_X10_176 ?_
    exact z_lret C (z_ret1l h) (z_ret2 h) dX10_ways_13
  · replace h := z_if hc h
    refine z_iload_n C dX10_ways_4 rfl 1 rfl ?_
    refine z_bipush C dX10_ways_5 zcb_40 ?_
    refine z_icmp_le 14 C dX10_ways_7 rfl (fun hc => ?_) (fun hc => ?_)
    · replace h := z_it hc h
      refine z_aload_n C dX10_ways_14 rfl 0 rfl ?_
      refine z_getr C zf_X10_69 (zo_X_0_8 kn) dX10_ways_15 ?_
      refine z_iconst C dX10_ways_18 zci_0 ?_
      refine z_lconst C dX10_ways_19 zcl_1 ?_
      obtain ⟨hi20, h⟩ := z_g_some h
      obtain ⟨g20, eg20, h⟩ := z_s_some h
      refine z_last C (za_X_42 kn) (z_in_vp hi20) dX10_ways_20 ?_
      refine z_gw eg20 ?_
      refine z_iconst C dX10_ways_21 zci_1 ?_
      refine z_istore_n C dX10_ways_22 rfl (by decide) [(2, .int 1), (0, .ref (ad 0)), (1, .int v1)] rfl ?_
      refine z_loc [1, 2, 0] rfl ?_
      refine wX10_ways_L23 C _ ?_ zN v1 1 g20 h
      · intro v1 g h
        refine z_aload_n C dX10_ways_100 rfl 0 rfl ?_
        refine z_getr C zf_X10_69 (zo_X_0_8 kn) dX10_ways_101 ?_
        refine z_iload_n C dX10_ways_104 rfl 1 rfl ?_
        obtain ⟨hi105, h⟩ := z_g_some h
        refine z_lald C (za_X_42 kn) (z_in_vp hi105) dX10_ways_105 ?_
        refine z_ldc2 C dX10_ways_106 zl_X10_148 ?_
        refine z_lcmp_le 119 C dX10_ways_109 dX10_ways_110 rfl (fun hc => ?_) (fun hc => ?_)
        · replace h := z_it hc h
          refine z_aload_n C dX10_ways_119 rfl 0 rfl ?_
          refine z_getr C zf_X10_69 (zo_X_0_8 kn) dX10_ways_120 ?_
          refine z_iload_n C dX10_ways_123 rfl 1 rfl ?_
          obtain ⟨hi124, h⟩ := z_g_some h
          refine z_lald C (za_X_42 kn) (z_in_vp hi124) dX10_ways_124 ?_
          exact z_lret C (z_ret1l h) (z_ret2 h) dX10_ways_125
        · replace h := z_if hc h
          refine z_ldc2 C dX10_ways_113 zl_X10_150 ?_
          refine z_goto 125 C dX10_ways_116 rfl ?_
          exact z_lret C (z_ret1l h) (z_ret2 h) dX10_ways_125
    · replace h := z_if hc h
      refine z_ldc2 C dX10_ways_10 zl_X10_176 ?_
      exact z_lret C (z_ret1l h) (z_ret2 h) dX10_ways_13
set_option maxRecDepth 100000 in
set_option maxHeartbeats 4000000 in
theorem wX4_become_60_58 (ad : Nat → Nat) (g : z_S) (gE : z_S) (h : fX4_become_60_58 g = some ((), gE)) : z_M yX4_become cX4_become 2 none 0 0 (layX true) (nX true) ad [.ref (ad 60), .ref (ad 58)] g none gE := by
  refine z_enter (by decide) (Nat.le_of_ble_eq_true rfl) (fun F C => ?_)
  replace C : z_X F (layX true) (nX true) ad cX4_become RX4 2 none 0 0 none gE := C
  show z_W F (layX true) (nX true) ad 0 [(0, .ref (ad 60)), (1, .ref (ad 58))] [] g
  unfold fX4_become_60_58 at h
  refine z_aload_n C dX4_become_0 rfl 0 rfl ?_
  refine z_aload_n C dX4_become_1 rfl 1 rfl ?_
  refine z_getl C zf_X4_9 zo_K_58_0 dX4_become_2 ?_
  obtain ⟨g5, eg5, h⟩ := z_s_some h
  refine z_putl C zp_X4_9 zo_K_60_0 dX4_become_5 ?_
  refine z_gw eg5 ?_
  refine z_aload_n C dX4_become_8 rfl 0 rfl ?_
  refine z_aload_n C dX4_become_9 rfl 1 rfl ?_
  refine z_getl C zf_X4_19 zo_K_58_1 dX4_become_10 ?_
  obtain ⟨g13, eg13, h⟩ := z_s_some h
  refine z_putl C zp_X4_19 zo_K_60_1 dX4_become_13 ?_
  refine z_gw eg13 ?_
  exact z_vret C rfl (z_ret2 h) dX4_become_16
set_option maxRecDepth 100000 in
set_option maxHeartbeats 4000000 in
theorem wX1_countOn_L7 {F : z_F} {ad : Nat → Nat} {r : Int32} {gE : z_S} (C : z_X F (layX true) (nX true) ad cX1_countOn RX1 5 (some .boolean) 2 44 (some (.int r)) gE) (k25 : Int32 → z_S → Option (Int32 × z_S)) (hk25 : ∀ (v1 : Int32) (g : z_S), k25 v1 g = some (r, gE) → z_W F (layX true) (nX true) ad 25 [(0, .ref (ad 47)), (1, .int v1)] [] g) : ∀ (n : Nat) (v1 : Int32) (v2 : Int32) (g : z_S), z_loop (fX1_countOn_B7 k25) n (v1, v2) g = some (r, gE) → z_W F (layX true) (nX true) ad 7 [(0, .ref (ad 47)), (1, .int v1), (2, .int v2)] [] g := by
  intro n
  induction n with
  | zero =>
    intro v1 v2 g h
    exact (z_loop_0 h).elim
  | succ n ih =>
    intro v1 v2 g h
    replace h := z_loop_S h
    simp only [fX1_countOn_B7] at h
    refine z_iload_n C dX1_countOn_7 rfl 2 rfl ?_
    refine z_iload_n C dX1_countOn_8 rfl 1 rfl ?_
    refine z_icmp_ge 25 C dX1_countOn_9 rfl (fun hc => ?_) (fun hc => ?_)
    · replace h := z_it hc h
      refine z_loc [0, 1] rfl ?_
      exact hk25 v1 g h
    · replace h := z_if hc h
      refine z_aload_n C dX1_countOn_12 rfl 0 rfl ?_
      refine z_getr C zf_X1_34 zo_K_47_10 dX1_countOn_13 ?_
      refine z_iload_n C dX1_countOn_16 rfl 2 rfl ?_
      refine z_lconst C dX1_countOn_17 zcl_0 ?_
      obtain ⟨hi18, h⟩ := z_g_some h
      obtain ⟨g18, eg18, h⟩ := z_s_some h
      refine z_last C za_K_55 (z_in_vp hi18) dX1_countOn_18 ?_
      refine z_gw eg18 ?_
      refine z_iinc C dX1_countOn_19 (by decide) 2 rfl (z_incl zci_1) [(2, .int (v2 + 1)), (0, .ref (ad 47)), (1, .int v1)] rfl ?_
      refine z_goto 7 C dX1_countOn_22 rfl ?_
      refine z_loc [1, 2, 0] rfl ?_
      exact ih v1 (v2 + 1) g18 h
set_option maxRecDepth 100000 in
set_option maxHeartbeats 4000000 in
theorem wX1_countOn_J117 {F : z_F} {ad : Nat → Nat} {r : Int32} {gE : z_S} (C : z_X F (layX true) (nX true) ad cX1_countOn RX1 5 (some .boolean) 2 44 (some (.int r)) gE) (rc : (Int32 × Int32 × Int32) → z_S → Option (Int32 × z_S)) (hrc : ∀ (v1 : Int32) (v2 : Int32) (v3 : Int32) (g : z_S), rc (v1, v2, v3) g = some (r, gE) → z_W F (layX true) (nX true) ad 34 [(0, .ref (ad 47)), (1, .int v1), (2, .int v2), (3, .int v3)] [] g) (v1 : Int32) (v2 : Int32) (v3 : Int32) (v4 : Int32) (g : z_S) (h : fX1_countOn_J117 rc v1 v2 v3 v4 g = some (r, gE)) : z_W F (layX true) (nX true) ad 117 [(0, .ref (ad 47)), (1, .int v1), (2, .int v2), (3, .int v3), (4, .int v4)] [] g := by
  unfold fX1_countOn_J117 at h
  refine z_aload_n C dX1_countOn_117 rfl 0 rfl ?_
  refine z_getr C zf_X1_34 zo_K_47_10 dX1_countOn_118 ?_
  refine z_iload C dX1_countOn_121 4 rfl ?_
  refine z_dup2 C dX1_countOn_123 rfl rfl ?_
  obtain ⟨hi124, h⟩ := z_g_some h
  refine z_lald C za_K_55 (z_in_vp hi124) dX1_countOn_124 ?_
  refine z_aload_n C dX1_countOn_125 rfl 0 rfl ?_
  refine z_getr C zf_X1_31 zo_K_47_9 dX1_countOn_126 ?_
  refine z_iload_n C dX1_countOn_129 rfl 2 rfl ?_
  obtain ⟨hi130, h⟩ := z_g_some h
  refine z_lald C za_K_54 (z_in_vp hi130) dX1_countOn_130 ?_
  refine z_ladd C dX1_countOn_131 ?_
  obtain ⟨hi132, h⟩ := z_g_some h
  obtain ⟨g132, eg132, h⟩ := z_s_some h
  refine z_last C za_K_55 (z_in_vp hi132) dX1_countOn_132 ?_
  refine z_gw eg132 ?_
  refine z_iinc C dX1_countOn_133 (by decide) 3 rfl (z_incl zci_1) [(3, .int (v3 + 1)), (0, .ref (ad 47)), (1, .int v1), (2, .int v2), (4, .int v4)] rfl ?_
  refine z_goto 34 C dX1_countOn_136 rfl ?_
  refine z_loc [1, 2, 3, 0] rfl ?_
  exact hrc v1 v2 (v3 + 1) g132 h
set_option maxRecDepth 100000 in
set_option maxHeartbeats 4000000 in
theorem wX1_countOn_L34 {F : z_F} {ad : Nat → Nat} {r : Int32} {gE : z_S} (C : z_X F (layX true) (nX true) ad cX1_countOn RX1 5 (some .boolean) 2 44 (some (.int r)) gE) (k139 : Int32 → Int32 → z_S → Option (Int32 × z_S)) (hk139 : ∀ (v1 : Int32) (v2 : Int32) (g : z_S), k139 v1 v2 g = some (r, gE) → z_W F (layX true) (nX true) ad 139 [(0, .ref (ad 47)), (1, .int v1), (2, .int v2)] [] g) : ∀ (n : Nat) (v1 : Int32) (v2 : Int32) (v3 : Int32) (g : z_S), z_loop (fX1_countOn_B34 k139) n (v1, v2, v3) g = some (r, gE) → z_W F (layX true) (nX true) ad 34 [(0, .ref (ad 47)), (1, .int v1), (2, .int v2), (3, .int v3)] [] g := by
  intro n
  induction n with
  | zero =>
    intro v1 v2 v3 g h
    exact (z_loop_0 h).elim
  | succ n ih =>
    intro v1 v2 v3 g h
    replace h := z_loop_S h
    simp only [fX1_countOn_B34] at h
    refine z_iload_n C dX1_countOn_34 rfl 3 rfl ?_
    refine z_aload_n C dX1_countOn_35 rfl 0 rfl ?_
    refine z_getr C zf_X1_60 zo_K_47_1 dX1_countOn_36 ?_
    refine z_geti C zf_X1_107 (zo_X_1_0 true) dX1_countOn_39 ?_
    refine z_icmp_ge 139 C dX1_countOn_42 rfl (fun hc => ?_) (fun hc => ?_)
    · replace h := z_it hc h
      refine z_loc [0, 1, 2] rfl ?_
      exact hk139 v1 v2 g h
    · replace h := z_if hc h
      refine z_aload_n C dX1_countOn_45 rfl 0 rfl ?_
      refine z_getr C zf_X1_31 zo_K_47_9 dX1_countOn_46 ?_
      refine z_iload_n C dX1_countOn_49 rfl 2 rfl ?_
      obtain ⟨hi50, h⟩ := z_g_some h
      refine z_lald C za_K_54 (z_in_vp hi50) dX1_countOn_50 ?_
      refine z_lconst C dX1_countOn_51 zcl_0 ?_
      refine z_lcmp_le 139 C dX1_countOn_52 dX1_countOn_53 rfl (fun hc => ?_) (fun hc => ?_)
      · replace h := z_it hc h
        refine z_loc [0, 1, 2] rfl ?_
        exact hk139 v1 v2 g h
      · replace h := z_if hc h
        refine z_aload_n C dX1_countOn_56 rfl 0 rfl ?_
        refine z_iload_n C dX1_countOn_57 rfl 2 rfl ?_
        refine z_iload_n C dX1_countOn_58 rfl 3 rfl ?_
        obtain ⟨r59, g59, hq59, h⟩ := z_b_some h
        refine z_callVv [] C zc_X1_112 zk_K_47 rfl (by decide) (Nat.le_of_ble_eq_true rfl) dX1_countOn_59 rfl (wX1_stepFrom ad v2 v3 g g59 hq59) ?_
        refine z_aload_n C dX1_countOn_62 rfl 0 rfl ?_
        refine z_getr C zf_X1_53 zo_K_47_15 dX1_countOn_63 ?_
        obtain ⟨r66, g66, hq66, h⟩ := z_b_some h
        refine z_callVi [] C zc_X1_116 zk_K_60 rfl (by decide) (Nat.le_of_ble_eq_true rfl) dX1_countOn_66 rfl (wX4_isEmpty_60 ad g59 r66 g66 hq66) ?_
        refine z_if_eq 75 C dX1_countOn_69 rfl (fun hc => ?_) (fun hc => ?_)
        · replace h := z_it hc h
          refine z_aload_n C dX1_countOn_75 rfl 0 rfl ?_
          obtain ⟨r76, g76, hq76, h⟩ := z_b_some h
          refine z_callVi [] C zc_X1_123 zk_K_47 rfl (by decide) (Nat.le_of_ble_eq_true rfl) dX1_countOn_76 rfl (wX1_find ad g66 r76 g76 hq76) ?_
          refine z_istore C dX1_countOn_79 (by decide) [(4, .int r76), (0, .ref (ad 47)), (1, .int v1), (2, .int v2), (3, .int v3)] rfl ?_
          refine z_iload C dX1_countOn_81 0 rfl ?_
          refine z_iconst C dX1_countOn_83 zci_m1 ?_
          refine z_icmp_ne 117 C dX1_countOn_84 rfl (fun hc => ?_) (fun hc => ?_)
          · replace h := z_it hc h
            refine z_aload_n C dX1_countOn_87 rfl 1 rfl ?_
            refine z_geti C zf_X1_90 zo_K_47_2 dX1_countOn_88 ?_
            refine z_sipush C dX1_countOn_91 zcs_2000 ?_
            refine z_icmp_lt 99 C dX1_countOn_94 rfl (fun hc => ?_) (fun hc => ?_)
            · replace h := z_it hc h
              refine z_aload_n C dX1_countOn_99 rfl 1 rfl ?_
              refine z_geti C zf_X1_90 zo_K_47_2 dX1_countOn_100 ?_
              refine z_istore C dX1_countOn_103 (by decide) [(4, .int (g76.1 47 2)), (0, .ref (ad 47)), (1, .int v1), (2, .int v2), (3, .int v3)] rfl ?_
              refine z_aload_n C dX1_countOn_105 rfl 1 rfl ?_
              refine z_getr C zf_X1_34 zo_K_47_10 dX1_countOn_106 ?_
              refine z_iload C dX1_countOn_109 0 rfl ?_
              refine z_lconst C dX1_countOn_111 zcl_0 ?_
              obtain ⟨hi112, h⟩ := z_g_some h
              obtain ⟨g112, eg112, h⟩ := z_s_some h
              refine z_last C za_K_55 (z_in_vp hi112) dX1_countOn_112 ?_
              refine z_gw eg112 ?_
              refine z_aload_n C dX1_countOn_113 rfl 1 rfl ?_
              obtain ⟨r114, g114, hq114, h⟩ := z_b_some h
              refine z_callVv [] C zc_X1_127 zk_K_47 rfl (by decide) (Nat.le_of_ble_eq_true rfl) dX1_countOn_114 rfl (wX1_keep ad g112 g114 hq114) ?_
              refine z_loc [1, 2, 3, 4, 0] rfl ?_
              exact wX1_countOn_J117 C _ (fun v1 v2 v3 g h => ih v1 v2 v3 g h) v1 v2 v3 (g76.1 47 2) g114 h
            · replace h := z_if hc h
              refine z_iconst C dX1_countOn_97 zci_0 ?_
              exact z_zret C (by decide) (z_ret1i h) (z_ret2 h) dX1_countOn_98
          · replace h := z_if hc h
            refine z_loc [1, 2, 3, 4, 0] rfl ?_
            exact wX1_countOn_J117 C _ (fun v1 v2 v3 g h => ih v1 v2 v3 g h) v1 v2 v3 r76 g76 h
        · replace h := z_if hc h
          refine z_goto 133 C dX1_countOn_72 rfl ?_
          refine z_iinc C dX1_countOn_133 (by decide) 3 rfl (z_incl zci_1) [(3, .int (v3 + 1)), (0, .ref (ad 47)), (1, .int v1), (2, .int v2)] rfl ?_
          refine z_goto 34 C dX1_countOn_136 rfl ?_
          refine z_loc [1, 2, 3, 0] rfl ?_
          exact ih v1 v2 (v3 + 1) g66 h
set_option maxRecDepth 100000 in
set_option maxHeartbeats 4000000 in
theorem wX1_countOn_L27 {F : z_F} {ad : Nat → Nat} {r : Int32} {gE : z_S} (C : z_X F (layX true) (nX true) ad cX1_countOn RX1 5 (some .boolean) 2 44 (some (.int r)) gE) (k145 : z_S → Option (Int32 × z_S)) (hk145 : ∀ (g : z_S), k145 g = some (r, gE) → z_W F (layX true) (nX true) ad 145 [(0, .ref (ad 47))] [] g) : ∀ (n : Nat) (v1 : Int32) (v2 : Int32) (g : z_S), z_loop (fX1_countOn_B27 k145) n (v1, v2) g = some (r, gE) → z_W F (layX true) (nX true) ad 27 [(0, .ref (ad 47)), (1, .int v1), (2, .int v2)] [] g := by
  intro n
  induction n with
  | zero =>
    intro v1 v2 g h
    exact (z_loop_0 h).elim
  | succ n ih =>
    intro v1 v2 g h
    replace h := z_loop_S h
    simp only [fX1_countOn_B27] at h
    refine z_iload_n C dX1_countOn_27 rfl 2 rfl ?_
    refine z_iload_n C dX1_countOn_28 rfl 1 rfl ?_
    refine z_icmp_ge 145 C dX1_countOn_29 rfl (fun hc => ?_) (fun hc => ?_)
    · replace h := z_it hc h
      refine z_loc [0] rfl ?_
      exact hk145 g h
    · replace h := z_if hc h
      refine z_iconst C dX1_countOn_32 zci_0 ?_
      refine z_istore_n C dX1_countOn_33 rfl (by decide) [(3, .int 0), (0, .ref (ad 47)), (1, .int v1), (2, .int v2)] rfl ?_
      refine z_loc [1, 2, 3, 0] rfl ?_
      refine wX1_countOn_L34 C _ ?_ zN v1 v2 0 g h
      · intro v1 v2 g h
        refine z_iinc C dX1_countOn_139 (by decide) 2 rfl (z_incl zci_1) [(2, .int (v2 + 1)), (0, .ref (ad 47)), (1, .int v1)] rfl ?_
        refine z_goto 27 C dX1_countOn_142 rfl ?_
        refine z_loc [1, 2, 0] rfl ?_
        exact ih v1 (v2 + 1) g h
set_option maxRecDepth 100000 in
set_option maxHeartbeats 4000000 in
theorem wX1_countOn_L147 {F : z_F} {ad : Nat → Nat} {r : Int32} {gE : z_S} (C : z_X F (layX true) (nX true) ad cX1_countOn RX1 5 (some .boolean) 2 44 (some (.int r)) gE) : ∀ (n : Nat) (v2 : Int32) (g : z_S), z_loop fX1_countOn_B147 n v2 g = some (r, gE) → z_W F (layX true) (nX true) ad 147 [(0, .ref (ad 47)), (2, .int v2)] [] g := by
  intro n
  induction n with
  | zero =>
    intro v2 g h
    exact (z_loop_0 h).elim
  | succ n ih =>
    intro v2 g h
    replace h := z_loop_S h
    simp only [fX1_countOn_B147] at h
    refine z_iload_n C dX1_countOn_147 rfl 1 rfl ?_
    refine z_aload_n C dX1_countOn_148 rfl 0 rfl ?_
    refine z_geti C zf_X1_90 zo_K_47_2 dX1_countOn_149 ?_
    refine z_icmp_ge 173 C dX1_countOn_152 rfl (fun hc => ?_) (fun hc => ?_)
    · replace h := z_it hc h
      refine z_iconst C dX1_countOn_173 zci_1 ?_
      exact z_zret C (by decide) (z_ret1i h) (z_ret2 h) dX1_countOn_174
    · replace h := z_if hc h
      refine z_aload_n C dX1_countOn_155 rfl 0 rfl ?_
      refine z_getr C zf_X1_31 zo_K_47_9 dX1_countOn_156 ?_
      refine z_iload_n C dX1_countOn_159 rfl 1 rfl ?_
      refine z_aload_n C dX1_countOn_160 rfl 0 rfl ?_
      refine z_getr C zf_X1_34 zo_K_47_10 dX1_countOn_161 ?_
      refine z_iload_n C dX1_countOn_164 rfl 1 rfl ?_
      obtain ⟨hi165, h⟩ := z_g_some h
      refine z_lald C za_K_55 (z_in_vp hi165) dX1_countOn_165 ?_
      obtain ⟨hi166, h⟩ := z_g_some h
      obtain ⟨g166, eg166, h⟩ := z_s_some h
      refine z_last C za_K_54 (z_in_vp hi166) dX1_countOn_166 ?_
      refine z_gw eg166 ?_
      refine z_iinc C dX1_countOn_167 (by decide) 1 rfl (z_incl zci_1) [(2, .int (v2 + 1)), (0, .ref (ad 47))] rfl ?_
      refine z_goto 147 C dX1_countOn_170 rfl ?_
      refine z_loc [1, 0] rfl ?_
      exact ih (v2 + 1) g166 h
set_option maxRecDepth 100000 in
set_option maxHeartbeats 4000000 in
theorem wX1_countOn (ad : Nat → Nat) (g : z_S) (r : Int32) (gE : z_S) (h : fX1_countOn g = some (r, gE)) : z_M yX1_countOn cX1_countOn 5 (some .boolean) 2 44 (layX true) (nX true) ad [.ref (ad 47)] g (some (.int r)) gE := by
  refine z_enter (by decide) (Nat.le_of_ble_eq_true rfl) (fun F C => ?_)
  replace C : z_X F (layX true) (nX true) ad cX1_countOn RX1 5 (some .boolean) 2 44 (some (.int r)) gE := C
  show z_W F (layX true) (nX true) ad 0 [(0, .ref (ad 47))] [] g
  unfold fX1_countOn at h
  refine z_aload_n C dX1_countOn_0 rfl 0 rfl ?_
  refine z_geti C zf_X1_90 zo_K_47_2 dX1_countOn_1 ?_
  refine z_istore_n C dX1_countOn_4 rfl (by decide) [(1, .int (g.1 47 2)), (0, .ref (ad 47))] rfl ?_
  refine z_iconst C dX1_countOn_5 zci_0 ?_
  refine z_istore_n C dX1_countOn_6 rfl (by decide) [(2, .int 0), (1, .int (g.1 47 2)), (0, .ref (ad 47))] rfl ?_
  refine z_loc [2, 1, 0] rfl ?_
  refine wX1_countOn_L7 C _ ?_ zN (g.1 47 2) 0 g h
  · intro v1 g h
    refine z_iconst C dX1_countOn_25 zci_0 ?_
    refine z_istore_n C dX1_countOn_26 rfl (by decide) [(2, .int 0), (0, .ref (ad 47)), (1, .int v1)] rfl ?_
    refine z_loc [1, 2, 0] rfl ?_
    refine wX1_countOn_L27 C _ ?_ zN v1 0 g h
    · intro g h
      refine z_iconst C dX1_countOn_145 zci_0 ?_
      refine z_istore_n C dX1_countOn_146 rfl (by decide) [(2, .int 0), (0, .ref (ad 47))] rfl ?_
      refine z_loc [1, 0] rfl ?_
      refine wX1_countOn_L147 C  zN 0 g h
set_option maxRecDepth 100000 in
set_option maxHeartbeats 4000000 in
theorem wX1_countRows_L28 {F : z_F} {ad : Nat → Nat} {r : Int64} {gE : z_S} (C : z_X F (layX true) (nX true) ad cX1_countRows RX1 5 (some .long) 3 68 (some (.long r)) gE) (k50 : z_S → Option (Int64 × z_S)) (hk50 : ∀ (g : z_S), k50 g = some (r, gE) → z_W F (layX true) (nX true) ad 50 [(0, .ref (ad 47))] [] g) : ∀ (n : Nat) (v1 : Int32) (v2 : Int32) (g : z_S), z_loop (fX1_countRows_B28 k50) n (v1, v2) g = some (r, gE) → z_W F (layX true) (nX true) ad 28 [(0, .ref (ad 47)), (1, .int v1), (2, .int v2)] [] g := by
  intro n
  induction n with
  | zero =>
    intro v1 v2 g h
    exact (z_loop_0 h).elim
  | succ n ih =>
    intro v1 v2 g h
    replace h := z_loop_S h
    simp only [fX1_countRows_B28] at h
    refine z_iload_n C dX1_countRows_28 rfl 2 rfl ?_
    refine z_iload_n C dX1_countRows_29 rfl 1 rfl ?_
    refine z_icmp_gt 50 C dX1_countRows_30 rfl (fun hc => ?_) (fun hc => ?_)
    · replace h := z_it hc h
      refine z_loc [0] rfl ?_
      exact hk50 g h
    · replace h := z_if hc h
      refine z_aload_n C dX1_countRows_33 rfl 0 rfl ?_
      obtain ⟨r34, g34, hq34, h⟩ := z_b_some h
      refine z_callVi [] C zc_X1_137 zk_K_47 rfl (by decide) (Nat.le_of_ble_eq_true rfl) dX1_countRows_34 rfl (wX1_countOn ad g r34 g34 hq34) ?_
      refine z_if_ne 44 C dX1_countRows_37 rfl (fun hc => ?_) (fun hc => ?_)
      · replace h := z_it hc h
        refine z_ldc2 C dX1_countRows_40 zl_X1_140 ?_
        exact z_lret C (z_ret1l h) (z_ret2 h) dX1_countRows_43
      · replace h := z_if hc h
        refine z_iinc C dX1_countRows_44 (by decide) 2 rfl (z_incl zci_1) [(2, .int (v2 + 1)), (0, .ref (ad 47)), (1, .int v1)] rfl ?_
        refine z_goto 28 C dX1_countRows_47 rfl ?_
        refine z_loc [1, 2, 0] rfl ?_
        exact ih v1 (v2 + 1) g34 h
set_option maxRecDepth 100000 in
set_option maxHeartbeats 4000000 in
theorem wX1_countRows_J104 {F : z_F} {ad : Nat → Nat} {r : Int64} {gE : z_S} (C : z_X F (layX true) (nX true) ad cX1_countRows RX1 5 (some .long) 3 68 (some (.long r)) gE) (rc : (Int64 × Int32) → z_S → Option (Int64 × z_S)) (hrc : ∀ (v2 : Int64) (v4 : Int32) (g : z_S), rc (v2, v4) g = some (r, gE) → z_W F (layX true) (nX true) ad 55 [(0, .ref (ad 47)), (2, .long v2), (4, .int v4)] [] g) (v2 : Int64) (v4 : Int32) (g : z_S) (h : fX1_countRows_J104 rc v2 v4 g = some (r, gE)) : z_W F (layX true) (nX true) ad 104 [(0, .ref (ad 47)), (2, .long v2), (4, .int v4)] [] g := by
  unfold fX1_countRows_J104 at h
  refine z_lload_n C dX1_countRows_104 rfl 1 rfl ?_
  refine z_aload_n C dX1_countRows_105 rfl 0 rfl ?_
  refine z_getr C zf_X1_31 zo_K_47_9 dX1_countRows_106 ?_
  refine z_iload C dX1_countRows_109 2 rfl ?_
  obtain ⟨hi111, h⟩ := z_g_some h
  refine z_lald C za_K_54 (z_in_vp hi111) dX1_countRows_111 ?_
  refine z_ladd C dX1_countRows_112 ?_
  refine z_lstore_n C dX1_countRows_113 rfl (by decide) [(2, .long (v2 + (g.2 54 (v4).toNatClampNeg))), (0, .ref (ad 47)), (4, .int v4)] rfl ?_
  refine z_iinc C dX1_countRows_114 (by decide) 2 rfl (z_incl zci_1) [(4, .int (v4 + 1)), (2, .long (v2 + (g.2 54 (v4).toNatClampNeg))), (0, .ref (ad 47))] rfl ?_
  refine z_goto 55 C dX1_countRows_117 rfl ?_
  refine z_loc [2, 1, 0] rfl ?_
  exact hrc (v2 + (g.2 54 (v4).toNatClampNeg)) (v4 + 1) g h
set_option maxRecDepth 100000 in
set_option maxHeartbeats 4000000 in
theorem wX1_countRows_L55 {F : z_F} {ad : Nat → Nat} {r : Int64} {gE : z_S} (C : z_X F (layX true) (nX true) ad cX1_countRows RX1 5 (some .long) 3 68 (some (.long r)) gE) : ∀ (n : Nat) (v2 : Int64) (v4 : Int32) (g : z_S), z_loop fX1_countRows_B55 n (v2, v4) g = some (r, gE) → z_W F (layX true) (nX true) ad 55 [(0, .ref (ad 47)), (2, .long v2), (4, .int v4)] [] g := by
  intro n
  induction n with
  | zero =>
    intro v2 v4 g h
    exact (z_loop_0 h).elim
  | succ n ih =>
    intro v2 v4 g h
    replace h := z_loop_S h
    simp only [fX1_countRows_B55] at h
    refine z_iload C dX1_countRows_55 2 rfl ?_
    refine z_aload_n C dX1_countRows_57 rfl 0 rfl ?_
    refine z_geti C zf_X1_90 zo_K_47_2 dX1_countRows_58 ?_
    refine z_icmp_ge 120 C dX1_countRows_61 rfl (fun hc => ?_) (fun hc => ?_)
    · replace h := z_it hc h
      refine z_lload_n C dX1_countRows_120 rfl 1 rfl ?_
      exact z_lret C (z_ret1l h) (z_ret2 h) dX1_countRows_121
    · replace h := z_if hc h
      refine z_aload_n C dX1_countRows_64 rfl 0 rfl ?_
      refine z_getr C zf_X1_9 zo_K_47_3 dX1_countRows_65 ?_
      refine z_iload C dX1_countRows_68 2 rfl ?_
      obtain ⟨hi70, h⟩ := z_g_some h
      refine z_lald C za_K_48 (z_in_vp hi70) dX1_countRows_70 ?_
      refine z_aload_n C dX1_countRows_71 rfl 0 rfl ?_
      refine z_getr C zf_X1_46 zo_K_47_13 dX1_countRows_72 ?_
      refine z_getl C zf_X1_100 zo_K_58_0 dX1_countRows_75 ?_
      refine z_land C dX1_countRows_78 ?_
      refine z_lconst C dX1_countRows_79 zcl_0 ?_
      refine z_lcmp_ne 104 C dX1_countRows_80 dX1_countRows_81 rfl (fun hc => ?_) (fun hc => ?_)
      · replace h := z_it hc h
        refine z_aload_n C dX1_countRows_84 rfl 0 rfl ?_
        refine z_getr C zf_X1_15 zo_K_47_4 dX1_countRows_85 ?_
        refine z_iload C dX1_countRows_88 2 rfl ?_
        obtain ⟨hi90, h⟩ := z_g_some h
        refine z_lald C za_K_49 (z_in_vp hi90) dX1_countRows_90 ?_
        refine z_aload_n C dX1_countRows_91 rfl 0 rfl ?_
        refine z_getr C zf_X1_46 zo_K_47_13 dX1_countRows_92 ?_
        refine z_getl C zf_X1_104 zo_K_58_1 dX1_countRows_95 ?_
        refine z_land C dX1_countRows_98 ?_
        refine z_lconst C dX1_countRows_99 zcl_0 ?_
        refine z_lcmp_eq 114 C dX1_countRows_100 dX1_countRows_101 rfl (fun hc => ?_) (fun hc => ?_)
        · replace h := z_it hc h
          refine z_iinc C dX1_countRows_114 (by decide) 2 rfl (z_incl zci_1) [(4, .int (v4 + 1)), (0, .ref (ad 47)), (2, .long v2)] rfl ?_
          refine z_goto 55 C dX1_countRows_117 rfl ?_
          refine z_loc [1, 2, 0] rfl ?_
          exact ih v2 (v4 + 1) g h
        · replace h := z_if hc h
          exact wX1_countRows_J104 C _ (fun v2 v4 g h => ih v2 v4 g h) v2 v4 g h
      · replace h := z_if hc h
        exact wX1_countRows_J104 C _ (fun v2 v4 g h => ih v2 v4 g h) v2 v4 g h
set_option maxRecDepth 100000 in
set_option maxHeartbeats 4000000 in
theorem wX1_countRows (ad : Nat → Nat) (v1 : Int32) (g : z_S) (r : Int64) (gE : z_S) (h : fX1_countRows v1 g = some (r, gE)) : z_M yX1_countRows cX1_countRows 5 (some .long) 3 68 (layX true) (nX true) ad [.ref (ad 47), .int v1] g (some (.long r)) gE := by
  refine z_enter (by decide) (Nat.le_of_ble_eq_true rfl) (fun F C => ?_)
  replace C : z_X F (layX true) (nX true) ad cX1_countRows RX1 5 (some .long) 3 68 (some (.long r)) gE := C
  show z_W F (layX true) (nX true) ad 0 [(0, .ref (ad 47)), (1, .int v1)] [] g
  unfold fX1_countRows at h
  refine z_aload_n C dX1_countRows_0 rfl 0 rfl ?_
  obtain ⟨r1, g1, hq1, h⟩ := z_b_some h
  refine z_callVv [] C zc_X1_64 zk_K_47 rfl (by decide) (Nat.le_of_ble_eq_true rfl) dX1_countRows_1 rfl (wX1_layOut ad g g1 hq1) ?_
  refine z_aload_n C dX1_countRows_4 rfl 0 rfl ?_
  refine z_getr C zf_X1_53 zo_K_47_15 dX1_countRows_5 ?_
  refine z_aload_n C dX1_countRows_8 rfl 0 rfl ?_
  refine z_getr C zf_X1_46 zo_K_47_13 dX1_countRows_9 ?_
  obtain ⟨r12, g12, hq12, h⟩ := z_b_some h
  refine z_callVv [] C zc_X1_133 zk_K_60 rfl (by decide) (Nat.le_of_ble_eq_true rfl) dX1_countRows_12 rfl (wX4_become_60_58 ad g1 g12 hq12) ?_
  refine z_aload_n C dX1_countRows_15 rfl 0 rfl ?_
  obtain ⟨r16, g16, hq16, h⟩ := z_b_some h
  refine z_callVv [] C zc_X1_70 zk_K_47 rfl (by decide) (Nat.le_of_ble_eq_true rfl) dX1_countRows_16 rfl (wX1_begin ad g12 g16 hq16) ?_
  refine z_aload_n C dX1_countRows_19 rfl 0 rfl ?_
  refine z_getr C zf_X1_31 zo_K_47_9 dX1_countRows_20 ?_
  refine z_iconst C dX1_countRows_23 zci_0 ?_
  refine z_lconst C dX1_countRows_24 zcl_1 ?_
  obtain ⟨hi25, h⟩ := z_g_some h
  obtain ⟨g25, eg25, h⟩ := z_s_some h
  refine z_last C za_K_54 (z_in_vp hi25) dX1_countRows_25 ?_
  refine z_gw eg25 ?_
  refine z_iconst C dX1_countRows_26 zci_1 ?_
  refine z_istore_n C dX1_countRows_27 rfl (by decide) [(2, .int 1), (0, .ref (ad 47)), (1, .int v1)] rfl ?_
  refine z_loc [1, 2, 0] rfl ?_
  refine wX1_countRows_L28 C _ ?_ zN v1 1 g25 h
  · intro g h
    refine z_lconst C dX1_countRows_50 zcl_0 ?_
    refine z_lstore_n C dX1_countRows_51 rfl (by decide) [(2, .long 0), (0, .ref (ad 47))] rfl ?_
    refine z_iconst C dX1_countRows_52 zci_0 ?_
    refine z_istore C dX1_countRows_53 (by decide) [(4, .int 0), (2, .long 0), (0, .ref (ad 47))] rfl ?_
    refine z_loc [2, 1, 0] rfl ?_
    refine wX1_countRows_L55 C  zN 0 0 g h
set_option maxRecDepth 100000 in
set_option maxHeartbeats 4000000 in
theorem wX10_rows (ad : Nat → Nat) (v1 : Int32) (g : z_S) (r : Int64) (gE : z_S) (h : fX10_rows v1 g = some (r, gE)) : z_M yX10_rows cX10_rows 4 (some .long) 4 92 (layX true) (nX true) ad [.ref (ad 0), .int v1] g (some (.long r)) gE := by
  refine z_enter (by decide) (Nat.le_of_ble_eq_true rfl) (fun F C => ?_)
  replace C : z_X F (layX true) (nX true) ad cX10_rows RX10 4 (some .long) 4 92 (some (.long r)) gE := C
  show z_W F (layX true) (nX true) ad 0 [(0, .ref (ad 0)), (1, .int v1)] [] g
  unfold fX10_rows at h
  refine z_iload_n C dX10_rows_0 rfl 1 rfl ?_
  refine z_if_lt 10 C dX10_rows_1 rfl (fun hc => ?_) (fun hc => ?_)
  · replace h := z_it hc h
    refine z_ldc2 C dX10_rows_10 zl_X10_176 ?_
    exact z_lret C (z_ret1l h) (z_ret2 h) dX10_rows_13
  · replace h := z_if hc h
    refine z_iload_n C dX10_rows_4 rfl 1 rfl ?_
    refine z_bipush C dX10_rows_5 zcb_20 ?_
    refine z_icmp_le 14 C dX10_rows_7 rfl (fun hc => ?_) (fun hc => ?_)
    · replace h := z_it hc h
      refine z_aload_n C dX10_rows_14 rfl 0 rfl ?_
      refine z_getr C zf_X10_19 (zo_X_0_1 true) dX10_rows_15 ?_
      refine z_geti C zf_X10_89 (zo_X_4_0 true) dX10_rows_18 ?_
      refine z_if_ne 34 C dX10_rows_21 rfl (fun hc => ?_) (fun hc => ?_)
      · replace h := z_it hc h
        refine z_iload_n C dX10_rows_24 rfl 1 rfl ?_
        refine z_if_ne 32 C dX10_rows_25 rfl (fun hc => ?_) (fun hc => ?_)
        · replace h := z_it hc h
          refine z_lconst C dX10_rows_28 zcl_1 ?_
          refine z_goto 33 C dX10_rows_29 rfl ?_
          exact z_lret C (z_ret1l h) (z_ret2 h) dX10_rows_33
        · replace h := z_if hc h
          refine z_lconst C dX10_rows_32 zcl_0 ?_
          exact z_lret C (z_ret1l h) (z_ret2 h) dX10_rows_33
      · replace h := z_if hc h
        refine z_aload_n C dX10_rows_34 rfl 0 rfl ?_
        obtain ⟨r35, g35, hq35, h⟩ := z_b_some h
        refine z_callV [] C zc_X10_182 (zk_X_0 true) rfl (by decide) (Nat.le_of_ble_eq_true rfl) dX10_rows_35 rfl (wX10_states ad g g35 hq35) ?_
        refine z_iload_n C dX10_rows_38 rfl 1 rfl ?_
        obtain ⟨r39, g39, hq39, h⟩ := z_b_some h
        refine z_callVl [] C zc_X10_186 zk_K_47 rfl (by decide) (Nat.le_of_ble_eq_true rfl) dX10_rows_39 rfl (wX1_countRows ad v1 g35 r39 g39 hq39) ?_
        refine z_lstore_n C dX10_rows_42 rfl (by decide) [(2, .long r39), (0, .ref (ad 0)), (1, .int v1)] rfl ?_
        refine z_lload_n C dX10_rows_43 rfl 0 rfl ?_
        refine z_ldc2 C dX10_rows_44 zl_X10_148 ?_
        refine z_lcmp_le 57 C dX10_rows_47 dX10_rows_48 rfl (fun hc => ?_) (fun hc => ?_)
        · replace h := z_it hc h
          refine z_lload_n C dX10_rows_57 rfl 0 rfl ?_
          exact z_lret C (z_ret1l h) (z_ret2 h) dX10_rows_58
        · replace h := z_if hc h
          refine z_ldc2 C dX10_rows_51 zl_X10_150 ?_
          refine z_goto 58 C dX10_rows_54 rfl ?_
          exact z_lret C (z_ret1l h) (z_ret2 h) dX10_rows_58
    · replace h := z_if hc h
      refine z_ldc2 C dX10_rows_10 zl_X10_176 ?_
      exact z_lret C (z_ret1l h) (z_ret2 h) dX10_rows_13
set_option maxRecDepth 100000 in
set_option maxHeartbeats 4000000 in
theorem wX10_price (kn : Bool) (ad : Nat → Nat) (v1 : Int32) (v2 : Int32) (g : z_S) (r : Int32) (gE : z_S) (h : fX10_price v1 v2 g = some (r, gE)) : z_M yX10_price cX10_price 4 (some .int) 1 20 (layX kn) (nX kn) ad [.ref (ad 0), .int v1, .int v2] g (some (.int r)) gE := by
  refine z_enter (by decide) (Nat.le_of_ble_eq_true rfl) (fun F C => ?_)
  replace C : z_X F (layX kn) (nX kn) ad cX10_price RX10 4 (some .int) 1 20 (some (.int r)) gE := C
  show z_W F (layX kn) (nX kn) ad 0 [(0, .ref (ad 0)), (1, .int v1), (2, .int v2)] [] g
  unfold fX10_price at h
  refine z_iload_n C dX10_price_0 rfl 1 rfl ?_
  refine z_if_lt 19 C dX10_price_1 rfl (fun hc => ?_) (fun hc => ?_)
  · replace h := z_it hc h
    refine z_sipush C dX10_price_19 zcs_m1002 ?_
    exact z_iret C (z_ret1i h) (z_ret2 h) dX10_price_22
  · replace h := z_if hc h
    refine z_iload_n C dX10_price_4 rfl 1 rfl ?_
    refine z_iconst C dX10_price_5 zci_3 ?_
    refine z_icmp_ge 19 C dX10_price_6 rfl (fun hc => ?_) (fun hc => ?_)
    · replace h := z_it hc h
      refine z_sipush C dX10_price_19 zcs_m1002 ?_
      exact z_iret C (z_ret1i h) (z_ret2 h) dX10_price_22
    · replace h := z_if hc h
      refine z_iload_n C dX10_price_9 rfl 2 rfl ?_
      refine z_if_lt 19 C dX10_price_10 rfl (fun hc => ?_) (fun hc => ?_)
      · replace h := z_it hc h
        refine z_sipush C dX10_price_19 zcs_m1002 ?_
        exact z_iret C (z_ret1i h) (z_ret2 h) dX10_price_22
      · replace h := z_if hc h
        refine z_iload_n C dX10_price_13 rfl 2 rfl ?_
        refine z_bipush C dX10_price_14 zcb_99 ?_
        refine z_icmp_le 23 C dX10_price_16 rfl (fun hc => ?_) (fun hc => ?_)
        · replace h := z_it hc h
          refine z_aload_n C dX10_price_23 rfl 0 rfl ?_
          refine z_getr C zf_X10_10 (zo_X_0_0 kn) dX10_price_24 ?_
          refine z_getr C zf_X10_192 (zo_X_1_2 kn) dX10_price_27 ?_
          refine z_iload_n C dX10_price_30 rfl 1 rfl ?_
          obtain ⟨hi31, h⟩ := z_g_some h
          refine z_iald C (za_X_3 kn) (z_in_vp hi31) dX10_price_31 ?_
          refine z_istore_n C dX10_price_32 rfl (by decide) [(3, .int (g.1 3 (v1).toNatClampNeg)), (0, .ref (ad 0)), (1, .int v1), (2, .int v2)] rfl ?_
          refine z_aload_n C dX10_price_33 rfl 1 rfl ?_
          refine z_getr C zf_X10_10 (zo_X_0_0 kn) dX10_price_34 ?_
          refine z_getr C zf_X10_192 (zo_X_1_2 kn) dX10_price_37 ?_
          refine z_iload_n C dX10_price_40 rfl 2 rfl ?_
          refine z_iload_n C dX10_price_41 rfl 3 rfl ?_
          obtain ⟨hi42, h⟩ := z_g_some h
          obtain ⟨g42, eg42, h⟩ := z_s_some h
          refine z_iast C (za_X_3 kn) (z_in_vp hi42) dX10_price_42 ?_
          refine z_gw eg42 ?_
          refine z_aload_n C dX10_price_43 rfl 1 rfl ?_
          obtain ⟨r44, g44, hq44, h⟩ := z_b_some h
          refine z_callVv [] C zc_X10_94 (zk_X_0 kn) rfl (by decide) (Nat.le_of_ble_eq_true rfl) dX10_price_44 rfl (wX10_forgetFound kn ad g42 g44 hq44) ?_
          refine z_iload_n C dX10_price_47 rfl 0 rfl ?_
          exact z_iret C (z_ret1i h) (z_ret2 h) dX10_price_48
        · replace h := z_if hc h
          refine z_sipush C dX10_price_19 zcs_m1002 ?_
          exact z_iret C (z_ret1i h) (z_ret2 h) dX10_price_22
set_option maxRecDepth 100000 in
set_option maxHeartbeats 4000000 in
theorem wX3_mistake (kn : Bool) (ad : Nat → Nat) (v1 : Int32) (g : z_S) (r : Int64) (gE : z_S) (h : fX3_mistake v1 g = some (r, gE)) : z_M yX3_mistake cX3_mistake 2 (some .long) 0 0 (layX kn) (nX kn) ad [.ref (ad 23), .int v1] g (some (.long r)) gE := by
  refine z_enter (by decide) (Nat.le_of_ble_eq_true rfl) (fun F C => ?_)
  replace C : z_X F (layX kn) (nX kn) ad cX3_mistake RX3 2 (some .long) 0 0 (some (.long r)) gE := C
  show z_W F (layX kn) (nX kn) ad 0 [(0, .ref (ad 23)), (1, .int v1)] [] g
  unfold fX3_mistake at h
  refine z_aload_n C dX3_mistake_0 rfl 0 rfl ?_
  refine z_getr C zf_X3_26 (zo_X_23_2 kn) dX3_mistake_1 ?_
  refine z_getr C zf_X3_85 (zo_X_1_2 kn) dX3_mistake_4 ?_
  refine z_iload_n C dX3_mistake_7 rfl 1 rfl ?_
  obtain ⟨hi8, h⟩ := z_g_some h
  refine z_iald C (za_X_3 kn) (z_in_vp hi8) dX3_mistake_8 ?_
  refine z_i2l C dX3_mistake_9 ?_
  refine z_bipush C dX3_mistake_10 zcb_20 ?_
  refine z_lshl C dX3_mistake_12 ?_
  refine z_lconst C dX3_mistake_13 zcl_1 ?_
  refine z_ladd C dX3_mistake_14 ?_
  exact z_lret C (z_ret1l h) (z_ret2 h) dX3_mistake_15
set_option maxRecDepth 100000 in
set_option maxHeartbeats 4000000 in
theorem wX3_settleWord_L18 {kn : Bool} {F : z_F} {ad : Nat → Nat} {r : Int32} {gE : z_S} (C : z_X F (layX kn) (nX kn) ad cX3_settleWord RX3 7 (some .boolean) 1 23 (some (.int r)) gE) (k83 : Int32 → Int32 → Int32 → z_S → Option (Int32 × z_S)) (hk83 : ∀ (v1 : Int32) (v2 : Int32) (v3 : Int32) (g : z_S), k83 v1 v2 v3 g = some (r, gE) → z_W F (layX kn) (nX kn) ad 83 [(0, .ref (ad 23)), (1, .int v1), (2, .int v2), (3, .int v3)] [] g) : ∀ (n : Nat) (v1 : Int32) (v2 : Int32) (v3 : Int32) (v4 : Int32) (g : z_S), z_loop (fX3_settleWord_B18 k83) n (v1, v2, v3, v4) g = some (r, gE) → z_W F (layX kn) (nX kn) ad 18 [(0, .ref (ad 23)), (1, .int v1), (2, .int v2), (3, .int v3), (4, .int v4)] [] g := by
  intro n
  induction n with
  | zero =>
    intro v1 v2 v3 v4 g h
    exact (z_loop_0 h).elim
  | succ n ih =>
    intro v1 v2 v3 v4 g h
    replace h := z_loop_S h
    simp only [fX3_settleWord_B18] at h
    refine z_iload C dX3_settleWord_18 4 rfl ?_
    refine z_iconst C dX3_settleWord_20 zci_5 ?_
    refine z_icmp_ge 83 C dX3_settleWord_21 rfl (fun hc => ?_) (fun hc => ?_)
    · replace h := z_it hc h
      refine z_loc [0, 1, 2, 3] rfl ?_
      exact hk83 v1 v2 v3 g h
    · replace h := z_if hc h
      refine z_aload_n C dX3_settleWord_24 rfl 0 rfl ?_
      refine z_getr C zf_X3_26 (zo_X_23_2 kn) dX3_settleWord_25 ?_
      refine z_iload C dX3_settleWord_28 4 rfl ?_
      refine z_iload_n C dX3_settleWord_30 rfl 3 rfl ?_
      obtain ⟨r31, g31, hq31, h⟩ := z_b_some h
      refine z_callVi [] C zc_X3_65 (zk_X_1 kn) rfl (by decide) (Nat.le_of_ble_eq_true rfl) dX3_settleWord_31 rfl (wX7_mayCome kn ad v4 v3 g r31 g31 hq31) ?_
      refine z_if_eq 77 C dX3_settleWord_34 rfl (fun hc => ?_) (fun hc => ?_)
      · replace h := z_it hc h
        refine z_iinc C dX3_settleWord_77 (by decide) 4 rfl (z_incl zci_1) [(4, .int (v4 + 1)), (0, .ref (ad 23)), (1, .int v1), (2, .int v2), (3, .int v3)] rfl ?_
        refine z_goto 18 C dX3_settleWord_80 rfl ?_
        refine z_loc [1, 2, 3, 4, 0] rfl ?_
        exact ih v1 v2 v3 (v4 + 1) g31 h
      · replace h := z_if hc h
        refine z_aload_n C dX3_settleWord_37 rfl 0 rfl ?_
        refine z_getr C zf_X3_15 (zo_X_23_4 kn) dX3_settleWord_38 ?_
        refine z_iload C dX3_settleWord_41 4 rfl ?_
        obtain ⟨hi43, h⟩ := z_g_some h
        refine z_lald C (za_X_25 kn) (z_in_vp hi43) dX3_settleWord_43 ?_
        refine z_aload_n C dX3_settleWord_44 rfl 0 rfl ?_
        refine z_getr C zf_X3_22 (zo_X_23_1 kn) dX3_settleWord_45 ?_
        refine z_getr C zf_X3_71 (zo_X_4_3 kn) dX3_settleWord_48 ?_
        refine z_iload_n C dX3_settleWord_51 rfl 1 rfl ?_
        obtain ⟨hi52, h⟩ := z_g_some h
        refine z_iald C (za_X_7 kn) (z_in_vp hi52) dX3_settleWord_52 ?_
        refine z_i2l C dX3_settleWord_53 ?_
        refine z_bipush C dX3_settleWord_54 zcb_20 ?_
        refine z_lshl C dX3_settleWord_56 ?_
        refine z_ladd C dX3_settleWord_57 ?_
        refine z_lstore C dX3_settleWord_58 (by decide) [(5, .long ((g31.2 25 (v4).toNatClampNeg) + (((g31.1 7 (v1).toNatClampNeg).toInt64) <<< ((20 : Int32).toInt64 &&& 63)))), (0, .ref (ad 23)), (1, .int v1), (2, .int v2), (3, .int v3), (4, .int v4)] rfl ?_
        refine z_aload_n C dX3_settleWord_60 rfl 1 rfl ?_
        refine z_getr C zf_X3_11 (zo_X_23_3 kn) dX3_settleWord_61 ?_
        refine z_iload_n C dX3_settleWord_64 rfl 3 rfl ?_
        refine z_aload_n C dX3_settleWord_65 rfl 1 rfl ?_
        refine z_getr C zf_X3_11 (zo_X_23_3 kn) dX3_settleWord_66 ?_
        refine z_iload_n C dX3_settleWord_69 rfl 3 rfl ?_
        obtain ⟨hi70, h⟩ := z_g_some h
        refine z_lald C (za_X_24 kn) (z_in_vp hi70) dX3_settleWord_70 ?_
        refine z_lload C dX3_settleWord_71 0 rfl ?_
        refine z_mminl C zm_X3_52 zms_l zmi zmc_l (by decide) (Nat.le_of_ble_eq_true rfl) dX3_settleWord_73 ?_
        obtain ⟨hi76, h⟩ := z_g_some h
        obtain ⟨g76, eg76, h⟩ := z_s_some h
        refine z_last C (za_X_24 kn) (z_in_vp hi76) dX3_settleWord_76 ?_
        refine z_gw eg76 ?_
        refine z_iinc C dX3_settleWord_77 (by decide) 5 rfl (z_incl zci_1) [(4, .int (v4 + 1)), (5, .long ((g31.2 25 (v4).toNatClampNeg) + (((g31.1 7 (v1).toNatClampNeg).toInt64) <<< ((20 : Int32).toInt64 &&& 63)))), (0, .ref (ad 23)), (1, .int v1), (2, .int v2), (3, .int v3)] rfl ?_
        refine z_goto 18 C dX3_settleWord_80 rfl ?_
        refine z_loc [2, 3, 4, 5, 0] rfl ?_
        exact ih v1 v2 v3 (v4 + 1) g76 h
set_option maxRecDepth 100000 in
set_option maxHeartbeats 4000000 in
theorem wX3_settleWord_L99 {kn : Bool} {F : z_F} {ad : Nat → Nat} {r : Int32} {gE : z_S} (C : z_X F (layX kn) (nX kn) ad cX3_settleWord RX3 7 (some .boolean) 1 23 (some (.int r)) gE) (k146 : Int32 → Int32 → z_S → Option (Int32 × z_S)) (hk146 : ∀ (v3 : Int32) (v4 : Int32) (g : z_S), k146 v3 v4 g = some (r, gE) → z_W F (layX kn) (nX kn) ad 146 [(0, .ref (ad 23)), (3, .int v3), (4, .int v4)] [] g) : ∀ (n : Nat) (v3 : Int32) (v4 : Int32) (v5 : Int32) (g : z_S), z_loop (fX3_settleWord_B99 k146) n (v3, v4, v5) g = some (r, gE) → z_W F (layX kn) (nX kn) ad 99 [(0, .ref (ad 23)), (3, .int v3), (4, .int v4), (5, .int v5)] [] g := by
  intro n
  induction n with
  | zero =>
    intro v3 v4 v5 g h
    exact (z_loop_0 h).elim
  | succ n ih =>
    intro v3 v4 v5 g h
    replace h := z_loop_S h
    simp only [fX3_settleWord_B99] at h
    refine z_iload C dX3_settleWord_99 3 rfl ?_
    refine z_iload C dX3_settleWord_101 2 rfl ?_
    refine z_icmp_ge 146 C dX3_settleWord_103 rfl (fun hc => ?_) (fun hc => ?_)
    · replace h := z_it hc h
      refine z_loc [0, 1, 2] rfl ?_
      exact hk146 v3 v4 g h
    · replace h := z_if hc h
      refine z_aload_n C dX3_settleWord_106 rfl 0 rfl ?_
      refine z_getr C zf_X3_11 (zo_X_23_3 kn) dX3_settleWord_107 ?_
      refine z_iload C dX3_settleWord_110 3 rfl ?_
      refine z_iconst C dX3_settleWord_112 zci_1 ?_
      refine z_iadd C dX3_settleWord_113 ?_
      refine z_aload_n C dX3_settleWord_114 rfl 0 rfl ?_
      refine z_getr C zf_X3_11 (zo_X_23_3 kn) dX3_settleWord_115 ?_
      refine z_iload C dX3_settleWord_118 3 rfl ?_
      refine z_iconst C dX3_settleWord_120 zci_1 ?_
      refine z_iadd C dX3_settleWord_121 ?_
      obtain ⟨hi122, h⟩ := z_g_some h
      refine z_lald C (za_X_24 kn) (z_in_vp hi122) dX3_settleWord_122 ?_
      refine z_aload_n C dX3_settleWord_123 rfl 0 rfl ?_
      refine z_getr C zf_X3_11 (zo_X_23_3 kn) dX3_settleWord_124 ?_
      refine z_iload C dX3_settleWord_127 3 rfl ?_
      obtain ⟨hi129, h⟩ := z_g_some h
      refine z_lald C (za_X_24 kn) (z_in_vp hi129) dX3_settleWord_129 ?_
      refine z_aload_n C dX3_settleWord_130 rfl 0 rfl ?_
      refine z_iconst C dX3_settleWord_131 zci_1 ?_
      obtain ⟨r132, g132, hq132, h⟩ := z_b_some h
      refine z_callVl [.long (g.2 24 (v5).toNatClampNeg), .long (g.2 24 (v5 + 1).toNatClampNeg), .int (v5 + 1), .ref (ad 24)] C zc_X3_77 (zk_X_23 kn) rfl (by decide) (Nat.le_of_ble_eq_true rfl) dX3_settleWord_132 rfl (wX3_mistake kn ad 1 g r132 g132 hq132) ?_
      refine z_ladd C dX3_settleWord_135 ?_
      refine z_mminl C zm_X3_52 zms_l zmi zmc_l (by decide) (Nat.le_of_ble_eq_true rfl) dX3_settleWord_136 ?_
      obtain ⟨hi139, h⟩ := z_g_some h
      obtain ⟨g139, eg139, h⟩ := z_s_some h
      refine z_last C (za_X_24 kn) (z_in_vp hi139) dX3_settleWord_139 ?_
      refine z_gw eg139 ?_
      refine z_iinc C dX3_settleWord_140 (by decide) 3 rfl (z_incl zci_1) [(5, .int (v5 + 1)), (0, .ref (ad 23)), (3, .int v3), (4, .int v4)] rfl ?_
      refine z_goto 99 C dX3_settleWord_143 rfl ?_
      refine z_loc [1, 2, 3, 0] rfl ?_
      exact ih v3 v4 (v5 + 1) g139 h
set_option maxRecDepth 100000 in
set_option maxHeartbeats 4000000 in
theorem wX3_settleWord (kn : Bool) (ad : Nat → Nat) (v1 : Int32) (g : z_S) (r : Int32) (gE : z_S) (h : fX3_settleWord v1 g = some (r, gE)) : z_M yX3_settleWord cX3_settleWord 7 (some .boolean) 1 23 (layX kn) (nX kn) ad [.ref (ad 23), .int v1] g (some (.int r)) gE := by
  refine z_enter (by decide) (Nat.le_of_ble_eq_true rfl) (fun F C => ?_)
  replace C : z_X F (layX kn) (nX kn) ad cX3_settleWord RX3 7 (some .boolean) 1 23 (some (.int r)) gE := C
  show z_W F (layX kn) (nX kn) ad 0 [(0, .ref (ad 23)), (1, .int v1)] [] g
  unfold fX3_settleWord at h
  refine z_iload_n C dX3_settleWord_0 rfl 1 rfl ?_
  refine z_bipush C dX3_settleWord_1 zcb_9 ?_
  refine z_imul C dX3_settleWord_3 ?_
  refine z_istore_n C dX3_settleWord_4 rfl (by decide) [(2, .int (v1 * 9)), (0, .ref (ad 23)), (1, .int v1)] rfl ?_
  refine z_aload_n C dX3_settleWord_5 rfl 1 rfl ?_
  refine z_getr C zf_X3_22 (zo_X_23_1 kn) dX3_settleWord_6 ?_
  refine z_getr C zf_X3_62 (zo_X_4_4 kn) dX3_settleWord_9 ?_
  refine z_iload_n C dX3_settleWord_12 rfl 2 rfl ?_
  obtain ⟨hi13, h⟩ := z_g_some h
  refine z_iald C (za_X_8 kn) (z_in_vp hi13) dX3_settleWord_13 ?_
  refine z_istore_n C dX3_settleWord_14 rfl (by decide) [(3, .int (g.1 8 (v1).toNatClampNeg)), (2, .int (v1 * 9)), (0, .ref (ad 23)), (1, .int v1)] rfl ?_
  refine z_iconst C dX3_settleWord_15 zci_0 ?_
  refine z_istore C dX3_settleWord_16 (by decide) [(4, .int 0), (3, .int (g.1 8 (v1).toNatClampNeg)), (2, .int (v1 * 9)), (0, .ref (ad 23)), (1, .int v1)] rfl ?_
  refine z_loc [3, 4, 2, 1, 0] rfl ?_
  refine wX3_settleWord_L18 C _ ?_ zN v1 (v1 * 9) (g.1 8 (v1).toNatClampNeg) 0 g h
  · intro v1 v2 v3 g h
    refine z_iload_n C dX3_settleWord_83 rfl 2 rfl ?_
    refine z_aload_n C dX3_settleWord_84 rfl 0 rfl ?_
    refine z_getr C zf_X3_22 (zo_X_23_1 kn) dX3_settleWord_85 ?_
    refine z_getr C zf_X3_74 (zo_X_4_2 kn) dX3_settleWord_88 ?_
    refine z_iload_n C dX3_settleWord_91 rfl 1 rfl ?_
    obtain ⟨hi92, h⟩ := z_g_some h
    refine z_iald C (za_X_6 kn) (z_in_vp hi92) dX3_settleWord_92 ?_
    refine z_iadd C dX3_settleWord_93 ?_
    refine z_istore C dX3_settleWord_94 (by decide) [(4, .int (v2 + (g.1 6 (v1).toNatClampNeg))), (0, .ref (ad 23)), (1, .int v1), (2, .int v2), (3, .int v3)] rfl ?_
    refine z_iload_n C dX3_settleWord_96 rfl 3 rfl ?_
    refine z_istore C dX3_settleWord_97 (by decide) [(5, .int v2), (4, .int (v2 + (g.1 6 (v1).toNatClampNeg))), (0, .ref (ad 23)), (1, .int v1), (2, .int v2), (3, .int v3)] rfl ?_
    refine z_loc [2, 5, 1, 0] rfl ?_
    refine wX3_settleWord_L99 C _ ?_ zN v3 (v2 + (g.1 6 (v1).toNatClampNeg)) v2 g h
    · intro v3 v4 g h
      refine z_aload_n C dX3_settleWord_146 rfl 0 rfl ?_
      refine z_getr C zf_X3_11 (zo_X_23_3 kn) dX3_settleWord_147 ?_
      refine z_iload C dX3_settleWord_150 2 rfl ?_
      obtain ⟨hi152, h⟩ := z_g_some h
      refine z_lald C (za_X_24 kn) (z_in_vp hi152) dX3_settleWord_152 ?_
      refine z_aload_n C dX3_settleWord_153 rfl 0 rfl ?_
      refine z_getr C zf_X3_15 (zo_X_23_4 kn) dX3_settleWord_154 ?_
      refine z_iload_n C dX3_settleWord_157 rfl 1 rfl ?_
      obtain ⟨hi158, h⟩ := z_g_some h
      refine z_lald C (za_X_25 kn) (z_in_vp hi158) dX3_settleWord_158 ?_
      refine z_lcmp_lt 165 C dX3_settleWord_159 dX3_settleWord_160 rfl (fun hc => ?_) (fun hc => ?_)
      · replace h := z_it hc h
        refine z_aload_n C dX3_settleWord_165 rfl 0 rfl ?_
        refine z_getr C zf_X3_15 (zo_X_23_4 kn) dX3_settleWord_166 ?_
        refine z_iload_n C dX3_settleWord_169 rfl 1 rfl ?_
        refine z_aload_n C dX3_settleWord_170 rfl 0 rfl ?_
        refine z_getr C zf_X3_11 (zo_X_23_3 kn) dX3_settleWord_171 ?_
        refine z_iload C dX3_settleWord_174 2 rfl ?_
        obtain ⟨hi176, h⟩ := z_g_some h
        refine z_lald C (za_X_24 kn) (z_in_vp hi176) dX3_settleWord_176 ?_
        obtain ⟨hi177, h⟩ := z_g_some h
        obtain ⟨g177, eg177, h⟩ := z_s_some h
        refine z_last C (za_X_25 kn) (z_in_vp hi177) dX3_settleWord_177 ?_
        refine z_gw eg177 ?_
        refine z_iconst C dX3_settleWord_178 zci_1 ?_
        exact z_zret C (by decide) (z_ret1i h) (z_ret2 h) dX3_settleWord_179
      · replace h := z_if hc h
        refine z_iconst C dX3_settleWord_163 zci_0 ?_
        exact z_zret C (by decide) (z_ret1i h) (z_ret2 h) dX3_settleWord_164
set_option maxRecDepth 100000 in
set_option maxHeartbeats 4000000 in
theorem wX3_settle_L18 {kn : Bool} {F : z_F} {ad : Nat → Nat} {gE : z_S} (C : z_X F (layX kn) (nX kn) ad cX3_settle RX3 4 none 2 49 none gE) (k45 : Int32 → Int32 → z_S → Option (Unit × z_S)) (hk45 : ∀ (v1 : Int32) (v2 : Int32) (g : z_S), k45 v1 v2 g = some ((), gE) → z_W F (layX kn) (nX kn) ad 45 [(0, .ref (ad 23)), (1, .int v1), (2, .int v2)] [] g) : ∀ (n : Nat) (v1 : Int32) (v2 : Int32) (v3 : Int32) (g : z_S), z_loop (fX3_settle_B18 k45) n (v1, v2, v3) g = some ((), gE) → z_W F (layX kn) (nX kn) ad 18 [(0, .ref (ad 23)), (1, .int v1), (2, .int v2), (3, .int v3)] [] g := by
  intro n
  induction n with
  | zero =>
    intro v1 v2 v3 g h
    exact (z_loop_0 h).elim
  | succ n ih =>
    intro v1 v2 v3 g h
    replace h := z_loop_S h
    simp only [fX3_settle_B18] at h
    refine z_iload_n C dX3_settle_18 rfl 3 rfl ?_
    refine z_aload_n C dX3_settle_19 rfl 0 rfl ?_
    refine z_getr C zf_X3_22 (zo_X_23_1 kn) dX3_settle_20 ?_
    refine z_geti C zf_X3_30 (zo_X_4_0 kn) dX3_settle_23 ?_
    refine z_icmp_ge 45 C dX3_settle_26 rfl (fun hc => ?_) (fun hc => ?_)
    · replace h := z_it hc h
      refine z_loc [0, 1, 2] rfl ?_
      exact hk45 v1 v2 g h
    · replace h := z_if hc h
      refine z_aload_n C dX3_settle_29 rfl 0 rfl ?_
      refine z_iload_n C dX3_settle_30 rfl 3 rfl ?_
      obtain ⟨r31, g31, hq31, h⟩ := z_b_some h
      refine z_callVi [] C zc_X3_58 (zk_X_23 kn) rfl (by decide) (Nat.le_of_ble_eq_true rfl) dX3_settle_31 rfl (wX3_settleWord kn ad v3 g r31 g31 hq31) ?_
      refine z_if_eq 39 C dX3_settle_34 rfl (fun hc => ?_) (fun hc => ?_)
      · replace h := z_it hc h
        refine z_iinc C dX3_settle_39 (by decide) 3 rfl (z_incl zci_1) [(3, .int (v3 + 1)), (0, .ref (ad 23)), (1, .int v1), (2, .int v2)] rfl ?_
        refine z_goto 18 C dX3_settle_42 rfl ?_
        refine z_loc [1, 2, 3, 0] rfl ?_
        exact ih v1 v2 (v3 + 1) g31 h
      · replace h := z_if hc h
        refine z_iconst C dX3_settle_37 zci_1 ?_
        refine z_istore_n C dX3_settle_38 rfl (by decide) [(1, .int 1), (0, .ref (ad 23)), (2, .int v2), (3, .int v3)] rfl ?_
        refine z_iinc C dX3_settle_39 (by decide) 3 rfl (z_incl zci_1) [(3, .int (v3 + 1)), (1, .int 1), (0, .ref (ad 23)), (2, .int v2)] rfl ?_
        refine z_goto 18 C dX3_settle_42 rfl ?_
        refine z_loc [2, 1, 3, 0] rfl ?_
        exact ih 1 v2 (v3 + 1) g31 h
set_option maxRecDepth 100000 in
set_option maxHeartbeats 4000000 in
theorem wX3_settle_L4 {kn : Bool} {F : z_F} {ad : Nat → Nat} {gE : z_S} (C : z_X F (layX kn) (nX kn) ad cX3_settle RX3 4 none 2 49 none gE) : ∀ (n : Nat) (v1 : Int32) (v2 : Int32) (g : z_S), z_loop fX3_settle_B4 n (v1, v2) g = some ((), gE) → z_W F (layX kn) (nX kn) ad 4 [(0, .ref (ad 23)), (1, .int v1), (2, .int v2)] [] g := by
  intro n
  induction n with
  | zero =>
    intro v1 v2 g h
    exact (z_loop_0 h).elim
  | succ n ih =>
    intro v1 v2 g h
    replace h := z_loop_S h
    simp only [fX3_settle_B4] at h
    refine z_iload_n C dX3_settle_4 rfl 2 rfl ?_
    refine z_bipush C dX3_settle_5 zcb_10 ?_
    refine z_icmp_ge 51 C dX3_settle_7 rfl (fun hc => ?_) (fun hc => ?_)
    · replace h := z_it hc h
      exact z_vret C rfl (z_ret2 h) dX3_settle_51
    · replace h := z_if hc h
      refine z_iload_n C dX3_settle_10 rfl 1 rfl ?_
      refine z_if_eq 51 C dX3_settle_11 rfl (fun hc => ?_) (fun hc => ?_)
      · replace h := z_it hc h
        exact z_vret C rfl (z_ret2 h) dX3_settle_51
      · replace h := z_if hc h
        refine z_iconst C dX3_settle_14 zci_0 ?_
        refine z_istore_n C dX3_settle_15 rfl (by decide) [(1, .int 0), (0, .ref (ad 23)), (2, .int v2)] rfl ?_
        refine z_iconst C dX3_settle_16 zci_0 ?_
        refine z_istore_n C dX3_settle_17 rfl (by decide) [(3, .int 0), (1, .int 0), (0, .ref (ad 23)), (2, .int v2)] rfl ?_
        refine z_loc [2, 1, 3, 0] rfl ?_
        refine wX3_settle_L18 C _ ?_ zN 0 v2 0 g h
        · intro v1 v2 g h
          refine z_iinc C dX3_settle_45 (by decide) 2 rfl (z_incl zci_1) [(2, .int (v2 + 1)), (0, .ref (ad 23)), (1, .int v1)] rfl ?_
          refine z_goto 4 C dX3_settle_48 rfl ?_
          refine z_loc [1, 2, 0] rfl ?_
          exact ih v1 (v2 + 1) g h
set_option maxRecDepth 100000 in
set_option maxHeartbeats 4000000 in
theorem wX3_settle (kn : Bool) (ad : Nat → Nat) (g : z_S) (gE : z_S) (h : fX3_settle g = some ((), gE)) : z_M yX3_settle cX3_settle 4 none 2 49 (layX kn) (nX kn) ad [.ref (ad 23)] g none gE := by
  refine z_enter (by decide) (Nat.le_of_ble_eq_true rfl) (fun F C => ?_)
  replace C : z_X F (layX kn) (nX kn) ad cX3_settle RX3 4 none 2 49 none gE := C
  show z_W F (layX kn) (nX kn) ad 0 [(0, .ref (ad 23))] [] g
  unfold fX3_settle at h
  refine z_iconst C dX3_settle_0 zci_1 ?_
  refine z_istore_n C dX3_settle_1 rfl (by decide) [(1, .int 1), (0, .ref (ad 23))] rfl ?_
  refine z_iconst C dX3_settle_2 zci_0 ?_
  refine z_istore_n C dX3_settle_3 rfl (by decide) [(2, .int 0), (1, .int 1), (0, .ref (ad 23))] rfl ?_
  refine z_loc [2, 1, 0] rfl ?_
  refine wX3_settle_L4 C  zN 1 0 g h
set_option maxRecDepth 100000 in
set_option maxHeartbeats 4000000 in
theorem wX3_takeLetter_L2 {kn : Bool} {F : z_F} {ad : Nat → Nat} {gE : z_S} (C : z_X F (layX kn) (nX kn) ad cX3_takeLetter RX3 10 none 1 23 none gE) (k27 : Int32 → z_S → Option (Unit × z_S)) (hk27 : ∀ (v1 : Int32) (g : z_S), k27 v1 g = some ((), gE) → z_W F (layX kn) (nX kn) ad 27 [(0, .ref (ad 23)), (1, .int v1)] [] g) : ∀ (n : Nat) (v1 : Int32) (v2 : Int32) (g : z_S), z_loop (fX3_takeLetter_B2 k27) n (v1, v2) g = some ((), gE) → z_W F (layX kn) (nX kn) ad 2 [(0, .ref (ad 23)), (1, .int v1), (2, .int v2)] [] g := by
  intro n
  induction n with
  | zero =>
    intro v1 v2 g h
    exact (z_loop_0 h).elim
  | succ n ih =>
    intro v1 v2 g h
    replace h := z_loop_S h
    simp only [fX3_takeLetter_B2] at h
    refine z_iload_n C dX3_takeLetter_2 rfl 2 rfl ?_
    refine z_iconst C dX3_takeLetter_3 zci_5 ?_
    refine z_icmp_ge 27 C dX3_takeLetter_4 rfl (fun hc => ?_) (fun hc => ?_)
    · replace h := z_it hc h
      refine z_loc [0, 1] rfl ?_
      exact hk27 v1 g h
    · replace h := z_if hc h
      refine z_aload_n C dX3_takeLetter_7 rfl 0 rfl ?_
      refine z_getr C zf_X3_15 (zo_X_23_4 kn) dX3_takeLetter_8 ?_
      refine z_iload_n C dX3_takeLetter_11 rfl 2 rfl ?_
      refine z_dup2 C dX3_takeLetter_12 rfl rfl ?_
      obtain ⟨hi13, h⟩ := z_g_some h
      refine z_lald C (za_X_25 kn) (z_in_vp hi13) dX3_takeLetter_13 ?_
      refine z_aload_n C dX3_takeLetter_14 rfl 0 rfl ?_
      refine z_iconst C dX3_takeLetter_15 zci_2 ?_
      obtain ⟨r16, g16, hq16, h⟩ := z_b_some h
      refine z_callVl [.long (g.2 25 (v2).toNatClampNeg), .int v2, .ref (ad 25)] C zc_X3_77 (zk_X_23 kn) rfl (by decide) (Nat.le_of_ble_eq_true rfl) dX3_takeLetter_16 rfl (wX3_mistake kn ad 2 g r16 g16 hq16) ?_
      refine z_ladd C dX3_takeLetter_19 ?_
      obtain ⟨hi20, h⟩ := z_g_some h
      obtain ⟨g20, eg20, h⟩ := z_s_some h
      refine z_last C (za_X_25 kn) (z_in_vp hi20) dX3_takeLetter_20 ?_
      refine z_gw eg20 ?_
      refine z_iinc C dX3_takeLetter_21 (by decide) 2 rfl (z_incl zci_1) [(2, .int (v2 + 1)), (0, .ref (ad 23)), (1, .int v1)] rfl ?_
      refine z_goto 2 C dX3_takeLetter_24 rfl ?_
      refine z_loc [1, 2, 0] rfl ?_
      exact ih v1 (v2 + 1) g20 h
set_option maxRecDepth 100000 in
set_option maxHeartbeats 4000000 in
theorem wX3_takeLetter_J132 {kn : Bool} {F : z_F} {ad : Nat → Nat} {gE : z_S} (C : z_X F (layX kn) (nX kn) ad cX3_takeLetter RX3 10 none 1 23 none gE) (rc : (Int32 × Int32 × Int32 × Int32 × Int32) → z_S → Option (Unit × z_S)) (hrc : ∀ (v1 : Int32) (v2 : Int32) (v3 : Int32) (v4 : Int32) (v5 : Int32) (g : z_S), rc (v1, v2, v3, v4, v5) g = some ((), gE) → z_W F (layX kn) (nX kn) ad 60 [(0, .ref (ad 23)), (1, .int v1), (2, .int v2), (3, .int v3), (4, .int v4), (5, .int v5)] [] g) (v1 : Int32) (v2 : Int32) (v3 : Int32) (v4 : Int32) (v5 : Int32) (v6 : Int64) (s0 : Int64) (g : z_S) (h : fX3_takeLetter_J132 rc v1 v2 v3 v4 v5 v6 s0 g = some ((), gE)) : z_W F (layX kn) (nX kn) ad 132 [(0, .ref (ad 23)), (1, .int v1), (2, .int v2), (3, .int v3), (4, .int v4), (5, .int v5), (6, .long v6)] [.long s0] g := by
  unfold fX3_takeLetter_J132 at h
  refine z_lstore C dX3_takeLetter_132 (by decide) [(8, .long s0), (0, .ref (ad 23)), (1, .int v1), (2, .int v2), (3, .int v3), (4, .int v4), (5, .int v5), (6, .long v6)] rfl ?_
  refine z_aload_n C dX3_takeLetter_134 rfl 1 rfl ?_
  refine z_getr C zf_X3_11 (zo_X_23_3 kn) dX3_takeLetter_135 ?_
  refine z_iload_n C dX3_takeLetter_138 rfl 4 rfl ?_
  refine z_iload C dX3_takeLetter_139 6 rfl ?_
  refine z_iadd C dX3_takeLetter_141 ?_
  refine z_lload C dX3_takeLetter_142 7 rfl ?_
  refine z_lload C dX3_takeLetter_144 0 rfl ?_
  refine z_mminl C zm_X3_52 zms_l zmi zmc_l (by decide) (Nat.le_of_ble_eq_true rfl) dX3_takeLetter_146 ?_
  obtain ⟨hi149, h⟩ := z_g_some h
  obtain ⟨g149, eg149, h⟩ := z_s_some h
  refine z_last C (za_X_24 kn) (z_in_vp hi149) dX3_takeLetter_149 ?_
  refine z_gw eg149 ?_
  refine z_iinc C dX3_takeLetter_150 (by decide) 6 rfl (z_incl zci_m1) [(5, .int (v5 + (-1))), (8, .long s0), (0, .ref (ad 23)), (1, .int v1), (2, .int v2), (3, .int v3), (4, .int v4), (6, .long v6)] rfl ?_
  refine z_goto 60 C dX3_takeLetter_153 rfl ?_
  refine z_loc [2, 3, 4, 5, 6, 0] rfl ?_
  exact hrc v1 v2 v3 v4 (v5 + (-1)) g149 h
set_option maxRecDepth 100000 in
set_option maxHeartbeats 4000000 in
theorem wX3_takeLetter_J101 {kn : Bool} {F : z_F} {ad : Nat → Nat} {gE : z_S} (C : z_X F (layX kn) (nX kn) ad cX3_takeLetter RX3 10 none 1 23 none gE) (rc : (Int32 × Int32 × Int32 × Int32 × Int32) → z_S → Option (Unit × z_S)) (hrc : ∀ (v1 : Int32) (v2 : Int32) (v3 : Int32) (v4 : Int32) (v5 : Int32) (g : z_S), rc (v1, v2, v3, v4, v5) g = some ((), gE) → z_W F (layX kn) (nX kn) ad 60 [(0, .ref (ad 23)), (1, .int v1), (2, .int v2), (3, .int v3), (4, .int v4), (5, .int v5)] [] g) (v1 : Int32) (v2 : Int32) (v3 : Int32) (v4 : Int32) (v5 : Int32) (s0 : Int64) (s1 : Int64) (g : z_S) (h : fX3_takeLetter_J101 rc v1 v2 v3 v4 v5 s0 s1 g = some ((), gE)) : z_W F (layX kn) (nX kn) ad 101 [(0, .ref (ad 23)), (1, .int v1), (2, .int v2), (3, .int v3), (4, .int v4), (5, .int v5)] [.long s0, .long s1] g := by
  unfold fX3_takeLetter_J101 at h
  refine z_ladd C dX3_takeLetter_101 ?_
  refine z_lstore C dX3_takeLetter_102 (by decide) [(6, .long (s1 + s0)), (0, .ref (ad 23)), (1, .int v1), (2, .int v2), (3, .int v3), (4, .int v4), (5, .int v5)] rfl ?_
  refine z_iload C dX3_takeLetter_104 6 rfl ?_
  refine z_iload C dX3_takeLetter_106 5 rfl ?_
  refine z_icmp_ge 129 C dX3_takeLetter_108 rfl (fun hc => ?_) (fun hc => ?_)
  · replace h := z_it hc h
    refine z_ldc2 C dX3_takeLetter_129 zl_X3_36 ?_
    refine z_loc [1, 2, 3, 4, 5, 6, 0] rfl ?_
    exact wX3_takeLetter_J132 C _ hrc v1 v2 v3 v4 v5 (s1 + s0) 1152921504606846976 g h
  · replace h := z_if hc h
    refine z_aload_n C dX3_takeLetter_111 rfl 1 rfl ?_
    refine z_getr C zf_X3_11 (zo_X_23_3 kn) dX3_takeLetter_112 ?_
    refine z_iload_n C dX3_takeLetter_115 rfl 4 rfl ?_
    refine z_iload C dX3_takeLetter_116 6 rfl ?_
    refine z_iadd C dX3_takeLetter_118 ?_
    obtain ⟨hi119, h⟩ := z_g_some h
    refine z_lald C (za_X_24 kn) (z_in_vp hi119) dX3_takeLetter_119 ?_
    refine z_aload_n C dX3_takeLetter_120 rfl 1 rfl ?_
    refine z_iconst C dX3_takeLetter_121 zci_2 ?_
    obtain ⟨r122, g122, hq122, h⟩ := z_b_some h
    refine z_callVl [.long (g.2 24 (v3 + v5).toNatClampNeg)] C zc_X3_77 (zk_X_23 kn) rfl (by decide) (Nat.le_of_ble_eq_true rfl) dX3_takeLetter_122 rfl (wX3_mistake kn ad 2 g r122 g122 hq122) ?_
    refine z_ladd C dX3_takeLetter_125 ?_
    refine z_goto 132 C dX3_takeLetter_126 rfl ?_
    refine z_loc [1, 2, 3, 4, 5, 6, 0] rfl ?_
    exact wX3_takeLetter_J132 C _ hrc v1 v2 v3 v4 v5 (s1 + s0) ((g.2 24 (v3 + v5).toNatClampNeg) + r122) g122 h
set_option maxRecDepth 100000 in
set_option maxHeartbeats 4000000 in
theorem wX3_takeLetter_L60 {kn : Bool} {F : z_F} {ad : Nat → Nat} {gE : z_S} (C : z_X F (layX kn) (nX kn) ad cX3_takeLetter RX3 10 none 1 23 none gE) (k156 : Int32 → Int32 → Int32 → z_S → Option (Unit × z_S)) (hk156 : ∀ (v1 : Int32) (v2 : Int32) (v3 : Int32) (g : z_S), k156 v1 v2 v3 g = some ((), gE) → z_W F (layX kn) (nX kn) ad 156 [(0, .ref (ad 23)), (1, .int v1), (2, .int v2), (3, .int v3)] [] g) : ∀ (n : Nat) (v1 : Int32) (v2 : Int32) (v3 : Int32) (v4 : Int32) (v5 : Int32) (g : z_S), z_loop (fX3_takeLetter_B60 k156) n (v1, v2, v3, v4, v5) g = some ((), gE) → z_W F (layX kn) (nX kn) ad 60 [(0, .ref (ad 23)), (1, .int v1), (2, .int v2), (3, .int v3), (4, .int v4), (5, .int v5)] [] g := by
  intro n
  induction n with
  | zero =>
    intro v1 v2 v3 v4 v5 g h
    exact (z_loop_0 h).elim
  | succ n ih =>
    intro v1 v2 v3 v4 v5 g h
    replace h := z_loop_S h
    simp only [fX3_takeLetter_B60] at h
    refine z_iload C dX3_takeLetter_60 5 rfl ?_
    refine z_if_le 156 C dX3_takeLetter_62 rfl (fun hc => ?_) (fun hc => ?_)
    · replace h := z_it hc h
      refine z_loc [0, 1, 2, 3] rfl ?_
      exact hk156 v1 v2 v3 g h
    · replace h := z_if hc h
      refine z_aload_n C dX3_takeLetter_65 rfl 0 rfl ?_
      refine z_getr C zf_X3_11 (zo_X_23_3 kn) dX3_takeLetter_66 ?_
      refine z_iload_n C dX3_takeLetter_69 rfl 3 rfl ?_
      refine z_iload C dX3_takeLetter_70 5 rfl ?_
      refine z_iadd C dX3_takeLetter_72 ?_
      refine z_iconst C dX3_takeLetter_73 zci_1 ?_
      refine z_isub C dX3_takeLetter_74 ?_
      obtain ⟨hi75, h⟩ := z_g_some h
      refine z_lald C (za_X_24 kn) (z_in_vp hi75) dX3_takeLetter_75 ?_
      refine z_aload_n C dX3_takeLetter_76 rfl 0 rfl ?_
      refine z_getr C zf_X3_22 (zo_X_23_1 kn) dX3_takeLetter_77 ?_
      refine z_iload_n C dX3_takeLetter_80 rfl 2 rfl ?_
      refine z_iload C dX3_takeLetter_81 5 rfl ?_
      refine z_iconst C dX3_takeLetter_83 zci_1 ?_
      refine z_isub C dX3_takeLetter_84 ?_
      obtain ⟨r85, g85, hq85, h⟩ := z_b_some h
      refine z_callVi [.long (g.2 24 ((v3 + v5) - 1).toNatClampNeg)] C zc_X3_81 (zk_X_4 kn) rfl (by decide) (Nat.le_of_ble_eq_true rfl) dX3_takeLetter_85 rfl (wX9_sign_4 kn ad v2 (v5 - 1) g r85 g85 hq85) ?_
      refine z_iload_n C dX3_takeLetter_88 rfl 1 rfl ?_
      refine z_icmp_ne 96 C dX3_takeLetter_89 rfl (fun hc => ?_) (fun hc => ?_)
      · replace h := z_it hc h
        refine z_lconst C dX3_takeLetter_92 zcl_0 ?_
        refine z_goto 101 C dX3_takeLetter_93 rfl ?_
        exact wX3_takeLetter_J101 C _ (fun v1 v2 v3 v4 v5 g h => ih v1 v2 v3 v4 v5 g h) v1 v2 v3 v4 v5 0 (g.2 24 ((v3 + v5) - 1).toNatClampNeg) g85 h
      · replace h := z_if hc h
        refine z_aload_n C dX3_takeLetter_96 rfl 0 rfl ?_
        refine z_iconst C dX3_takeLetter_97 zci_0 ?_
        obtain ⟨r98, g98, hq98, h⟩ := z_b_some h
        refine z_callVl [.long (g.2 24 ((v3 + v5) - 1).toNatClampNeg)] C zc_X3_77 (zk_X_23 kn) rfl (by decide) (Nat.le_of_ble_eq_true rfl) dX3_takeLetter_98 rfl (wX3_mistake kn ad 0 g85 r98 g98 hq98) ?_
        exact wX3_takeLetter_J101 C _ (fun v1 v2 v3 v4 v5 g h => ih v1 v2 v3 v4 v5 g h) v1 v2 v3 v4 v5 r98 (g.2 24 ((v3 + v5) - 1).toNatClampNeg) g98 h
set_option maxRecDepth 100000 in
set_option maxHeartbeats 4000000 in
theorem wX3_takeLetter_L29 {kn : Bool} {F : z_F} {ad : Nat → Nat} {gE : z_S} (C : z_X F (layX kn) (nX kn) ad cX3_takeLetter RX3 10 none 1 23 none gE) : ∀ (n : Nat) (v1 : Int32) (v2 : Int32) (g : z_S), z_loop fX3_takeLetter_B29 n (v1, v2) g = some ((), gE) → z_W F (layX kn) (nX kn) ad 29 [(0, .ref (ad 23)), (1, .int v1), (2, .int v2)] [] g := by
  intro n
  induction n with
  | zero =>
    intro v1 v2 g h
    exact (z_loop_0 h).elim
  | succ n ih =>
    intro v1 v2 g h
    replace h := z_loop_S h
    simp only [fX3_takeLetter_B29] at h
    refine z_iload_n C dX3_takeLetter_29 rfl 2 rfl ?_
    refine z_aload_n C dX3_takeLetter_30 rfl 0 rfl ?_
    refine z_getr C zf_X3_22 (zo_X_23_1 kn) dX3_takeLetter_31 ?_
    refine z_geti C zf_X3_30 (zo_X_4_0 kn) dX3_takeLetter_34 ?_
    refine z_icmp_ge 171 C dX3_takeLetter_37 rfl (fun hc => ?_) (fun hc => ?_)
    · replace h := z_it hc h
      exact z_vret C rfl (z_ret2 h) dX3_takeLetter_171
    · replace h := z_if hc h
      refine z_iload_n C dX3_takeLetter_40 rfl 2 rfl ?_
      refine z_bipush C dX3_takeLetter_41 zcb_9 ?_
      refine z_imul C dX3_takeLetter_43 ?_
      refine z_istore_n C dX3_takeLetter_44 rfl (by decide) [(3, .int (v2 * 9)), (0, .ref (ad 23)), (1, .int v1), (2, .int v2)] rfl ?_
      refine z_aload_n C dX3_takeLetter_45 rfl 1 rfl ?_
      refine z_getr C zf_X3_22 (zo_X_23_1 kn) dX3_takeLetter_46 ?_
      refine z_getr C zf_X3_74 (zo_X_4_2 kn) dX3_takeLetter_49 ?_
      refine z_iload_n C dX3_takeLetter_52 rfl 3 rfl ?_
      obtain ⟨hi53, h⟩ := z_g_some h
      refine z_iald C (za_X_6 kn) (z_in_vp hi53) dX3_takeLetter_53 ?_
      refine z_istore C dX3_takeLetter_54 (by decide) [(4, .int (g.1 6 (v2).toNatClampNeg)), (3, .int (v2 * 9)), (0, .ref (ad 23)), (1, .int v1), (2, .int v2)] rfl ?_
      refine z_iload C dX3_takeLetter_56 0 rfl ?_
      refine z_istore C dX3_takeLetter_58 (by decide) [(5, .int (g.1 6 (v2).toNatClampNeg)), (4, .int (g.1 6 (v2).toNatClampNeg)), (3, .int (v2 * 9)), (0, .ref (ad 23)), (1, .int v1), (2, .int v2)] rfl ?_
      refine z_loc [3, 4, 5, 2, 1, 0] rfl ?_
      refine wX3_takeLetter_L60 C _ ?_ zN v1 v2 (v2 * 9) (g.1 6 (v2).toNatClampNeg) (g.1 6 (v2).toNatClampNeg) g h
      · intro v1 v2 v3 g h
        refine z_aload_n C dX3_takeLetter_156 rfl 0 rfl ?_
        refine z_getr C zf_X3_11 (zo_X_23_3 kn) dX3_takeLetter_157 ?_
        refine z_iload_n C dX3_takeLetter_160 rfl 3 rfl ?_
        refine z_ldc2 C dX3_takeLetter_161 zl_X3_36 ?_
        obtain ⟨hi164, h⟩ := z_g_some h
        obtain ⟨g164, eg164, h⟩ := z_s_some h
        refine z_last C (za_X_24 kn) (z_in_vp hi164) dX3_takeLetter_164 ?_
        refine z_gw eg164 ?_
        refine z_iinc C dX3_takeLetter_165 (by decide) 2 rfl (z_incl zci_1) [(2, .int (v2 + 1)), (0, .ref (ad 23)), (1, .int v1), (3, .int v3)] rfl ?_
        refine z_goto 29 C dX3_takeLetter_168 rfl ?_
        refine z_loc [1, 2, 0] rfl ?_
        exact ih v1 (v2 + 1) g164 h
set_option maxRecDepth 100000 in
set_option maxHeartbeats 4000000 in
theorem wX3_takeLetter (kn : Bool) (ad : Nat → Nat) (v1 : Int32) (g : z_S) (gE : z_S) (h : fX3_takeLetter v1 g = some ((), gE)) : z_M yX3_takeLetter cX3_takeLetter 10 none 1 23 (layX kn) (nX kn) ad [.ref (ad 23), .int v1] g none gE := by
  refine z_enter (by decide) (Nat.le_of_ble_eq_true rfl) (fun F C => ?_)
  replace C : z_X F (layX kn) (nX kn) ad cX3_takeLetter RX3 10 none 1 23 none gE := C
  show z_W F (layX kn) (nX kn) ad 0 [(0, .ref (ad 23)), (1, .int v1)] [] g
  unfold fX3_takeLetter at h
  refine z_iconst C dX3_takeLetter_0 zci_0 ?_
  refine z_istore_n C dX3_takeLetter_1 rfl (by decide) [(2, .int 0), (0, .ref (ad 23)), (1, .int v1)] rfl ?_
  refine z_loc [1, 2, 0] rfl ?_
  refine wX3_takeLetter_L2 C _ ?_ zN v1 0 g h
  · intro v1 g h
    refine z_iconst C dX3_takeLetter_27 zci_0 ?_
    refine z_istore_n C dX3_takeLetter_28 rfl (by decide) [(2, .int 0), (0, .ref (ad 23)), (1, .int v1)] rfl ?_
    refine z_loc [1, 2, 0] rfl ?_
    refine wX3_takeLetter_L29 C  zN v1 0 g h

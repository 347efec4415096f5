set_option maxRecDepth 100000 in
set_option maxHeartbeats 4000000 in
theorem wX11_totals_L4 {F : z_F} {ad : Nat → Nat} {r : Int32} {gE : z_S} (C : z_X F layM nM ad cX11_totals RX11 3 (some .int) 2 52 (some (.int r)) gE) : ∀ (n : Nat) (v1 : Int32) (v2 : Int32) (g : z_S), z_loop fX11_totals_B4 n (v1, v2) g = some (r, gE) → z_W F layM nM ad 4 [(0, .ref (ad 0)), (1, .int v1), (2, .int v2)] [] g := by
  intro n
  induction n with
  | zero =>
    intro v1 v2 g h
    exact (z_loop_0 h).elim
  | succ n ih =>
    intro v1 v2 g h
    replace h := z_loop_S h
    simp only [fX11_totals_B4] at h
    refine z_iload_n C dX11_totals_4 rfl 2 rfl ?_
    refine z_aload_n C dX11_totals_5 rfl 0 rfl ?_
    refine z_geti C zf_X11_138 zo_M_10 dX11_totals_6 ?_
    refine z_icmp_ge 26 C dX11_totals_9 rfl (fun hc => ?_) (fun hc => ?_)
    · replace h := z_it hc h
      refine z_iload_n C dX11_totals_26 rfl 1 rfl ?_
      exact z_iret C (z_ret1i h) (z_ret2 h) dX11_totals_27
    · replace h := z_if hc h
      refine z_iload_n C dX11_totals_12 rfl 1 rfl ?_
      refine z_aload_n C dX11_totals_13 rfl 0 rfl ?_
      refine z_iload_n C dX11_totals_14 rfl 2 rfl ?_
      obtain ⟨r15, g15, hq15, h⟩ := z_b_some h
      refine z_callVi [.int v1] C zc_X11_315 zk_M rfl (by decide) (Nat.le_of_ble_eq_true rfl) dX11_totals_15 rfl (wX11_findSums ad v2 g r15 g15 hq15) ?_
      refine z_iadd C dX11_totals_18 ?_
      refine z_istore_n C dX11_totals_19 rfl (by decide) [(1, .int (v1 + r15)), (0, .ref (ad 0)), (2, .int v2)] rfl ?_
      refine z_iinc C dX11_totals_20 (by decide) 2 rfl (z_incl zci_1) [(2, .int (v2 + 1)), (1, .int (v1 + r15)), (0, .ref (ad 0))] rfl ?_
      refine z_goto 4 C dX11_totals_23 rfl ?_
      refine z_loc [2, 1, 0] rfl ?_
      exact ih (v1 + r15) (v2 + 1) g15 h
set_option maxRecDepth 100000 in
set_option maxHeartbeats 4000000 in
theorem wX11_totals (ad : Nat → Nat) (g : z_S) (r : Int32) (gE : z_S) (h : fX11_totals g = some (r, gE)) : z_M yX11_totals cX11_totals 3 (some .int) 2 52 layM nM ad [.ref (ad 0)] g (some (.int r)) gE := by
  refine z_enter (by decide) (Nat.le_of_ble_eq_true rfl) (fun F C => ?_)
  replace C : z_X F layM nM ad cX11_totals RX11 3 (some .int) 2 52 (some (.int r)) gE := C
  show z_W F layM nM ad 0 [(0, .ref (ad 0))] [] g
  unfold fX11_totals at h
  refine z_iconst C dX11_totals_0 zci_0 ?_
  refine z_istore_n C dX11_totals_1 rfl (by decide) [(1, .int 0), (0, .ref (ad 0))] rfl ?_
  refine z_iconst C dX11_totals_2 zci_0 ?_
  refine z_istore_n C dX11_totals_3 rfl (by decide) [(2, .int 0), (1, .int 0), (0, .ref (ad 0))] rfl ?_
  refine z_loc [2, 1, 0] rfl ?_
  refine wX11_totals_L4 C  zN 0 0 g h
set_option maxRecDepth 100000 in
set_option maxHeartbeats 4000000 in
theorem wX11_useLine_J114 {F : z_F} {ad : Nat → Nat} {gE : z_S} (C : z_X F layM nM ad cX11_useLine RX11 8 none 2 52 none gE) (rc : (Int32 × Int32 × Int32 × Int32 × Int32) → z_S → Option (Unit × z_S)) (hrc : ∀ (v1 : Int32) (v3 : Int32) (v4 : Int32) (v5 : Int32) (v6 : Int32) (g : z_S), rc (v1, v3, v4, v5, v6) g = some ((), gE) → z_W F layM nM ad 27 [(0, .ref (ad 0)), (1, .int v1), (3, .int v3), (4, .int v4), (5, .int v5), (6, .int v6)] [] g) (v1 : Int32) (v3 : Int32) (v4 : Int32) (v6 : Int32) (s0 : Int32) (g : z_S) (h : fX11_useLine_J114 rc v1 v3 v4 v6 s0 g = some ((), gE)) : z_W F layM nM ad 114 [(0, .ref (ad 0)), (1, .int v1), (3, .int v3), (4, .int v4), (6, .int v6)] [.int s0] g := by
  unfold fX11_useLine_J114 at h
  refine z_istore C dX11_useLine_114 (by decide) [(7, .int s0), (0, .ref (ad 0)), (1, .int v1), (3, .int v3), (4, .int v4), (6, .int v6)] rfl ?_
  refine z_iload C dX11_useLine_116 0 rfl ?_
  refine z_if_eq 126 C dX11_useLine_118 rfl (fun hc => ?_) (fun hc => ?_)
  · replace h := z_it hc h
    refine z_iconst C dX11_useLine_126 zci_m1 ?_
    refine z_istore C dX11_useLine_127 (by decide) [(5, .int (-1)), (7, .int s0), (0, .ref (ad 0)), (1, .int v1), (3, .int v3), (4, .int v4), (6, .int v6)] rfl ?_
    refine z_iinc C dX11_useLine_129 (by decide) 6 rfl (z_incl zci_1) [(6, .int (v6 + 1)), (5, .int (-1)), (7, .int s0), (0, .ref (ad 0)), (1, .int v1), (3, .int v3), (4, .int v4)] rfl ?_
    refine z_goto 27 C dX11_useLine_132 rfl ?_
    refine z_loc [3, 4, 5, 6, 1, 0] rfl ?_
    exact hrc v1 v3 v4 (-1) (v6 + 1) g h
  · replace h := z_if hc h
    refine z_iload C dX11_useLine_121 5 rfl ?_
    refine z_goto 127 C dX11_useLine_123 rfl ?_
    refine z_istore C dX11_useLine_127 (by decide) [(5, .int v6), (7, .int s0), (0, .ref (ad 0)), (1, .int v1), (3, .int v3), (4, .int v4), (6, .int v6)] rfl ?_
    refine z_iinc C dX11_useLine_129 (by decide) 6 rfl (z_incl zci_1) [(6, .int (v6 + 1)), (5, .int v6), (7, .int s0), (0, .ref (ad 0)), (1, .int v1), (3, .int v3), (4, .int v4)] rfl ?_
    refine z_goto 27 C dX11_useLine_132 rfl ?_
    refine z_loc [3, 4, 5, 6, 1, 0] rfl ?_
    exact hrc v1 v3 v4 v6 (v6 + 1) g h
set_option maxRecDepth 100000 in
set_option maxHeartbeats 4000000 in
theorem wX11_useLine_L27 {F : z_F} {ad : Nat → Nat} {gE : z_S} (C : z_X F layM nM ad cX11_useLine RX11 8 none 2 52 none gE) (k135 : Int32 → Int32 → Int32 → Int32 → z_S → Option (Unit × z_S)) (hk135 : ∀ (v1 : Int32) (v3 : Int32) (v4 : Int32) (v5 : Int32) (g : z_S), k135 v1 v3 v4 v5 g = some ((), gE) → z_W F layM nM ad 135 [(0, .ref (ad 0)), (1, .int v1), (3, .int v3), (4, .int v4), (5, .int v5)] [] g) : ∀ (n : Nat) (v1 : Int32) (v3 : Int32) (v4 : Int32) (v5 : Int32) (v6 : Int32) (g : z_S), z_loop (fX11_useLine_B27 k135) n (v1, v3, v4, v5, v6) g = some ((), gE) → z_W F layM nM ad 27 [(0, .ref (ad 0)), (1, .int v1), (3, .int v3), (4, .int v4), (5, .int v5), (6, .int v6)] [] g := by
  intro n
  induction n with
  | zero =>
    intro v1 v3 v4 v5 v6 g h
    exact (z_loop_0 h).elim
  | succ n ih =>
    intro v1 v3 v4 v5 v6 g h
    replace h := z_loop_S h
    simp only [fX11_useLine_B27] at h
    refine z_iload C dX11_useLine_27 5 rfl ?_
    refine z_aload_n C dX11_useLine_29 rfl 0 rfl ?_
    refine z_geti C zf_X11_135 zo_M_1 dX11_useLine_30 ?_
    refine z_icmp_ge 135 C dX11_useLine_33 rfl (fun hc => ?_) (fun hc => ?_)
    · replace h := z_it hc h
      refine z_loc [0, 1, 2, 3, 4] rfl ?_
      exact hk135 v1 v3 v4 v5 g h
    · replace h := z_if hc h
      refine z_iload C dX11_useLine_36 4 rfl ?_
      refine z_if_ge 135 C dX11_useLine_38 rfl (fun hc => ?_) (fun hc => ?_)
      · replace h := z_it hc h
        refine z_loc [0, 1, 2, 3, 4] rfl ?_
        exact hk135 v1 v3 v4 v5 g h
      · replace h := z_if hc h
        refine z_aload_n C dX11_useLine_41 rfl 0 rfl ?_
        refine z_iload C dX11_useLine_42 3 rfl ?_
        refine z_iload C dX11_useLine_44 5 rfl ?_
        obtain ⟨r46, g46, hq46, h⟩ := z_b_some h
        refine z_callVi [] C zc_X11_209 zk_M rfl (by decide) (Nat.le_of_ble_eq_true rfl) dX11_useLine_46 rfl (wX11_mayFollow ad v4 v6 g r46 g46 hq46) ?_
        refine z_if_eq 113 C dX11_useLine_49 rfl (fun hc => ?_) (fun hc => ?_)
        · replace h := z_it hc h
          refine z_iconst C dX11_useLine_113 zci_0 ?_
          refine z_loc [0, 1, 2, 3, 5] rfl ?_
          exact wX11_useLine_J114 C _ (fun v1 v3 v4 v5 v6 g h => ih v1 v3 v4 v5 v6 g h) v1 v3 v4 v6 0 g46 h
        · replace h := z_if hc h
          refine z_aload_n C dX11_useLine_52 rfl 0 rfl ?_
          refine z_iload_n C dX11_useLine_53 rfl 1 rfl ?_
          refine z_iload C dX11_useLine_54 5 rfl ?_
          refine z_iload_n C dX11_useLine_56 rfl 2 rfl ?_
          obtain ⟨r57, g57, hq57, h⟩ := z_b_some h
          refine z_callVi [] C zc_X11_312 zk_M rfl (by decide) (Nat.le_of_ble_eq_true rfl) dX11_useLine_57 rfl (wX11_standsIn ad v1 v6 v3 g46 r57 g57 hq57) ?_
          refine z_if_eq 113 C dX11_useLine_60 rfl (fun hc => ?_) (fun hc => ?_)
          · replace h := z_it hc h
            refine z_iconst C dX11_useLine_113 zci_0 ?_
            refine z_loc [0, 1, 2, 3, 5] rfl ?_
            exact wX11_useLine_J114 C _ (fun v1 v3 v4 v5 v6 g h => ih v1 v3 v4 v5 v6 g h) v1 v3 v4 v6 0 g57 h
          · replace h := z_if hc h
            refine z_aload_n C dX11_useLine_63 rfl 0 rfl ?_
            refine z_getr C zf_X11_16 zo_M_4 dX11_useLine_64 ?_
            refine z_iload C dX11_useLine_67 5 rfl ?_
            obtain ⟨hi69, h⟩ := z_g_some h
            refine z_iald C za_M_3 (z_in_vp hi69) dX11_useLine_69 ?_
            refine z_aload_n C dX11_useLine_70 rfl 0 rfl ?_
            refine z_getr C zf_X11_115 zo_M_46 dX11_useLine_71 ?_
            refine z_iload_n C dX11_useLine_74 rfl 2 rfl ?_
            refine z_aload_n C dX11_useLine_75 rfl 0 rfl ?_
            refine z_getr C zf_X11_13 zo_M_3 dX11_useLine_76 ?_
            refine z_iload C dX11_useLine_79 5 rfl ?_
            obtain ⟨hi81, h⟩ := z_g_some h
            refine z_iald C za_M_2 (z_in_vp hi81) dX11_useLine_81 ?_
            refine z_iadd C dX11_useLine_82 ?_
            refine z_aload_n C dX11_useLine_83 rfl 0 rfl ?_
            refine z_getr C zf_X11_19 zo_M_5 dX11_useLine_84 ?_
            refine z_iload C dX11_useLine_87 5 rfl ?_
            obtain ⟨hi89, h⟩ := z_g_some h
            refine z_iald C za_M_4 (z_in_vp hi89) dX11_useLine_89 ?_
            obtain ⟨r90, g90, hq90, h⟩ := z_b_some h
            refine z_callSi [.ref (ad 34), .int (g57.1 3 (v6).toNatClampNeg)] C zc_X11_201 rfl (by decide) (Nat.le_of_ble_eq_true rfl) dX11_useLine_90 rfl (wX11_cell ad (v3 + (g57.1 2 (v6).toNatClampNeg)) (g57.1 4 (v6).toNatClampNeg) g57 r90 g90 hq90) ?_
            obtain ⟨hi93, h⟩ := z_g_some h
            refine z_iald C za_M_34 (z_in_vp hi93) dX11_useLine_93 ?_
            refine z_iadd C dX11_useLine_94 ?_
            refine z_aload_n C dX11_useLine_95 rfl 0 rfl ?_
            refine z_getr C zf_X11_115 zo_M_46 dX11_useLine_96 ?_
            refine z_iload_n C dX11_useLine_99 rfl 2 rfl ?_
            refine z_iload C dX11_useLine_100 3 rfl ?_
            obtain ⟨r102, g102, hq102, h⟩ := z_b_some h
            refine z_callSi [.ref (ad 34), .int ((g57.1 3 (v6).toNatClampNeg) + (g90.1 34 (r90).toNatClampNeg))] C zc_X11_201 rfl (by decide) (Nat.le_of_ble_eq_true rfl) dX11_useLine_102 rfl (wX11_cell ad v3 v4 g90 r102 g102 hq102) ?_
            obtain ⟨hi105, h⟩ := z_g_some h
            refine z_iald C za_M_34 (z_in_vp hi105) dX11_useLine_105 ?_
            refine z_icmp_ne 113 C dX11_useLine_106 rfl (fun hc => ?_) (fun hc => ?_)
            · replace h := z_it hc h
              refine z_iconst C dX11_useLine_109 zci_1 ?_
              refine z_goto 114 C dX11_useLine_110 rfl ?_
              refine z_loc [0, 1, 2, 3, 5] rfl ?_
              exact wX11_useLine_J114 C _ (fun v1 v3 v4 v5 v6 g h => ih v1 v3 v4 v5 v6 g h) v1 v3 v4 v6 1 g102 h
            · replace h := z_if hc h
              refine z_iconst C dX11_useLine_113 zci_0 ?_
              refine z_loc [0, 1, 2, 3, 5] rfl ?_
              exact wX11_useLine_J114 C _ (fun v1 v3 v4 v5 v6 g h => ih v1 v3 v4 v5 v6 g h) v1 v3 v4 v6 0 g102 h
set_option maxRecDepth 100000 in
set_option maxHeartbeats 4000000 in
theorem wX11_useLine_L11 {F : z_F} {ad : Nat → Nat} {gE : z_S} (C : z_X F layM nM ad cX11_useLine RX11 8 none 2 52 none gE) : ∀ (n : Nat) (v1 : Int32) (v3 : Int32) (v4 : Int32) (g : z_S), z_loop fX11_useLine_B11 n (v1, v3, v4) g = some ((), gE) → z_W F layM nM ad 11 [(0, .ref (ad 0)), (1, .int v1), (3, .int v3), (4, .int v4)] [] g := by
  intro n
  induction n with
  | zero =>
    intro v1 v3 v4 g h
    exact (z_loop_0 h).elim
  | succ n ih =>
    intro v1 v3 v4 g h
    replace h := z_loop_S h
    simp only [fX11_useLine_B11] at h
    refine z_iload_n C dX11_useLine_11 rfl 2 rfl ?_
    refine z_aload_n C dX11_useLine_12 rfl 0 rfl ?_
    refine z_getr C zf_X11_35 zo_M_12 dX11_useLine_13 ?_
    refine z_iload_n C dX11_useLine_16 rfl 1 rfl ?_
    obtain ⟨hi17, h⟩ := z_g_some h
    refine z_iald C za_M_9 (z_in_vp hi17) dX11_useLine_17 ?_
    refine z_icmp_ge 189 C dX11_useLine_18 rfl (fun hc => ?_) (fun hc => ?_)
    · replace h := z_it hc h
      exact z_vret C rfl (z_ret2 h) dX11_useLine_189
    · replace h := z_if hc h
      refine z_iconst C dX11_useLine_21 zci_m1 ?_
      refine z_istore C dX11_useLine_22 (by decide) [(5, .int (-1)), (0, .ref (ad 0)), (1, .int v1), (3, .int v3), (4, .int v4)] rfl ?_
      refine z_iconst C dX11_useLine_24 zci_0 ?_
      refine z_istore C dX11_useLine_25 (by decide) [(6, .int 0), (5, .int (-1)), (0, .ref (ad 0)), (1, .int v1), (3, .int v3), (4, .int v4)] rfl ?_
      refine z_loc [2, 3, 4, 5, 1, 0] rfl ?_
      refine wX11_useLine_L27 C _ ?_ zN v1 v3 v4 (-1) 0 g h
      · intro v1 v3 v4 v5 g h
        refine z_iload C dX11_useLine_135 4 rfl ?_
        refine z_if_ge 156 C dX11_useLine_137 rfl (fun hc => ?_) (fun hc => ?_)
        · replace h := z_it hc h
          refine z_aload_n C dX11_useLine_156 rfl 0 rfl ?_
          refine z_getr C zf_X11_118 zo_M_47 dX11_useLine_157 ?_
          refine z_iload C dX11_useLine_160 4 rfl ?_
          refine z_dup2 C dX11_useLine_162 rfl rfl ?_
          obtain ⟨hi163, h⟩ := z_g_some h
          refine z_iald C za_M_35 (z_in_vp hi163) dX11_useLine_163 ?_
          refine z_iconst C dX11_useLine_164 zci_1 ?_
          refine z_iadd C dX11_useLine_165 ?_
          obtain ⟨hi166, h⟩ := z_g_some h
          obtain ⟨g166, eg166, h⟩ := z_s_some h
          refine z_iast C za_M_35 (z_in_vp hi166) dX11_useLine_166 ?_
          refine z_gw eg166 ?_
          refine z_iload_n C dX11_useLine_167 rfl 2 rfl ?_
          refine z_aload_n C dX11_useLine_168 rfl 0 rfl ?_
          refine z_getr C zf_X11_13 zo_M_3 dX11_useLine_169 ?_
          refine z_iload C dX11_useLine_172 4 rfl ?_
          obtain ⟨hi174, h⟩ := z_g_some h
          refine z_iald C za_M_2 (z_in_vp hi174) dX11_useLine_174 ?_
          refine z_iadd C dX11_useLine_175 ?_
          refine z_istore_n C dX11_useLine_176 rfl (by decide) [(3, .int (v3 + (g166.1 2 (v5).toNatClampNeg))), (0, .ref (ad 0)), (1, .int v1), (4, .int v4), (5, .int v5)] rfl ?_
          refine z_aload_n C dX11_useLine_177 rfl 1 rfl ?_
          refine z_getr C zf_X11_19 zo_M_5 dX11_useLine_178 ?_
          refine z_iload C dX11_useLine_181 4 rfl ?_
          obtain ⟨hi183, h⟩ := z_g_some h
          refine z_iald C za_M_4 (z_in_vp hi183) dX11_useLine_183 ?_
          refine z_istore C dX11_useLine_184 (by decide) [(4, .int (g166.1 4 (v5).toNatClampNeg)), (3, .int (v3 + (g166.1 2 (v5).toNatClampNeg))), (0, .ref (ad 0)), (1, .int v1), (5, .int v5)] rfl ?_
          refine z_goto 11 C dX11_useLine_186 rfl ?_
          refine z_loc [2, 3, 1, 0] rfl ?_
          exact ih v1 (v3 + (g166.1 2 (v5).toNatClampNeg)) (g166.1 4 (v5).toNatClampNeg) g166 h
        · replace h := z_if hc h
          refine z_aload_n C dX11_useLine_140 rfl 0 rfl ?_
          refine z_dup C dX11_useLine_141 rfl ?_
          refine z_geti C zf_X11_319 zo_M_48 dX11_useLine_142 ?_
          refine z_iconst C dX11_useLine_145 zci_1 ?_
          refine z_iadd C dX11_useLine_146 ?_
          obtain ⟨g147, eg147, h⟩ := z_s_some h
          refine z_puti C zp_X11_319 zo_M_48 rfl rfl dX11_useLine_147 ?_
          refine z_gw eg147 ?_
          refine z_iinc C dX11_useLine_150 (by decide) 2 rfl (z_incl zci_1) [(3, .int (v3 + 1)), (0, .ref (ad 0)), (1, .int v1), (4, .int v4), (5, .int v5)] rfl ?_
          refine z_goto 186 C dX11_useLine_153 rfl ?_
          refine z_goto 11 C dX11_useLine_186 rfl ?_
          refine z_loc [1, 2, 0, 3] rfl ?_
          exact ih v1 (v3 + 1) v4 g147 h
set_option maxRecDepth 100000 in
set_option maxHeartbeats 4000000 in
theorem wX11_useLine (ad : Nat → Nat) (v1 : Int32) (g : z_S) (gE : z_S) (h : fX11_useLine v1 g = some ((), gE)) : z_M yX11_useLine cX11_useLine 8 none 2 52 layM nM ad [.ref (ad 0), .int v1] g none gE := by
  refine z_enter (by decide) (Nat.le_of_ble_eq_true rfl) (fun F C => ?_)
  replace C : z_X F layM nM ad cX11_useLine RX11 8 none 2 52 none gE := C
  show z_W F layM nM ad 0 [(0, .ref (ad 0)), (1, .int v1)] [] g
  unfold fX11_useLine at h
  refine z_aload_n C dX11_useLine_0 rfl 0 rfl ?_
  refine z_iload_n C dX11_useLine_1 rfl 1 rfl ?_
  obtain ⟨r2, g2, hq2, h⟩ := z_b_some h
  refine z_callVi [] C zc_X11_315 zk_M rfl (by decide) (Nat.le_of_ble_eq_true rfl) dX11_useLine_2 rfl (wX11_findSums ad v1 g r2 g2 hq2) ?_
  refine z_istore_n C dX11_useLine_5 rfl (by decide) [(2, .int r2), (0, .ref (ad 0)), (1, .int v1)] rfl ?_
  refine z_iconst C dX11_useLine_6 zci_0 ?_
  refine z_istore_n C dX11_useLine_7 rfl (by decide) [(3, .int 0), (2, .int r2), (0, .ref (ad 0)), (1, .int v1)] rfl ?_
  refine z_iconst C dX11_useLine_8 zci_4 ?_
  refine z_istore C dX11_useLine_9 (by decide) [(4, .int 4), (3, .int 0), (2, .int r2), (0, .ref (ad 0)), (1, .int v1)] rfl ?_
  refine z_loc [3, 4, 1, 0] rfl ?_
  refine wX11_useLine_L11 C  zN v1 0 4 g2 h
set_option maxRecDepth 100000 in
set_option maxHeartbeats 4000000 in
theorem wX11_findUses_L7 {F : z_F} {ad : Nat → Nat} {gE : z_S} (C : z_X F layM nM ad cX11_findUses RX11 2 none 3 79 none gE) (k26 : z_S → Option (Unit × z_S)) (hk26 : ∀ (g : z_S), k26 g = some ((), gE) → z_W F layM nM ad 26 [(0, .ref (ad 0))] [] g) : ∀ (n : Nat) (v1 : Int32) (g : z_S), z_loop (fX11_findUses_B7 k26) n v1 g = some ((), gE) → z_W F layM nM ad 7 [(0, .ref (ad 0)), (1, .int v1)] [] g := by
  intro n
  induction n with
  | zero =>
    intro v1 g h
    exact (z_loop_0 h).elim
  | succ n ih =>
    intro v1 g h
    replace h := z_loop_S h
    simp only [fX11_findUses_B7] at h
    refine z_iload_n C dX11_findUses_7 rfl 1 rfl ?_
    refine z_bipush C dX11_findUses_8 zcb_17 ?_
    refine z_icmp_ge 26 C dX11_findUses_10 rfl (fun hc => ?_) (fun hc => ?_)
    · replace h := z_it hc h
      refine z_loc [0] rfl ?_
      exact hk26 g h
    · replace h := z_if hc h
      refine z_aload_n C dX11_findUses_13 rfl 0 rfl ?_
      refine z_getr C zf_X11_118 zo_M_47 dX11_findUses_14 ?_
      refine z_iload_n C dX11_findUses_17 rfl 1 rfl ?_
      refine z_iconst C dX11_findUses_18 zci_0 ?_
      obtain ⟨hi19, h⟩ := z_g_some h
      obtain ⟨g19, eg19, h⟩ := z_s_some h
      refine z_iast C za_M_35 (z_in_vp hi19) dX11_findUses_19 ?_
      refine z_gw eg19 ?_
      refine z_iinc C dX11_findUses_20 (by decide) 1 rfl (z_incl zci_1) [(1, .int (v1 + 1)), (0, .ref (ad 0))] rfl ?_
      refine z_goto 7 C dX11_findUses_23 rfl ?_
      refine z_loc [1, 0] rfl ?_
      exact ih (v1 + 1) g19 h
set_option maxRecDepth 100000 in
set_option maxHeartbeats 4000000 in
theorem wX11_findUses_L28 {F : z_F} {ad : Nat → Nat} {gE : z_S} (C : z_X F layM nM ad cX11_findUses RX11 2 none 3 79 none gE) : ∀ (n : Nat) (v1 : Int32) (g : z_S), z_loop fX11_findUses_B28 n v1 g = some ((), gE) → z_W F layM nM ad 28 [(0, .ref (ad 0)), (1, .int v1)] [] g := by
  intro n
  induction n with
  | zero =>
    intro v1 g h
    exact (z_loop_0 h).elim
  | succ n ih =>
    intro v1 g h
    replace h := z_loop_S h
    simp only [fX11_findUses_B28] at h
    refine z_iload_n C dX11_findUses_28 rfl 1 rfl ?_
    refine z_aload_n C dX11_findUses_29 rfl 0 rfl ?_
    refine z_geti C zf_X11_138 zo_M_10 dX11_findUses_30 ?_
    refine z_icmp_ge 47 C dX11_findUses_33 rfl (fun hc => ?_) (fun hc => ?_)
    · replace h := z_it hc h
      exact z_vret C rfl (z_ret2 h) dX11_findUses_47
    · replace h := z_if hc h
      refine z_aload_n C dX11_findUses_36 rfl 0 rfl ?_
      refine z_iload_n C dX11_findUses_37 rfl 1 rfl ?_
      obtain ⟨r38, g38, hq38, h⟩ := z_b_some h
      refine z_callVv [] C zc_X11_322 zk_M rfl (by decide) (Nat.le_of_ble_eq_true rfl) dX11_findUses_38 rfl (wX11_useLine ad v1 g g38 hq38) ?_
      refine z_iinc C dX11_findUses_41 (by decide) 1 rfl (z_incl zci_1) [(1, .int (v1 + 1)), (0, .ref (ad 0))] rfl ?_
      refine z_goto 28 C dX11_findUses_44 rfl ?_
      refine z_loc [1, 0] rfl ?_
      exact ih (v1 + 1) g38 h
set_option maxRecDepth 100000 in
set_option maxHeartbeats 4000000 in
theorem wX11_findUses (ad : Nat → Nat) (g : z_S) (gE : z_S) (h : fX11_findUses g = some ((), gE)) : z_M yX11_findUses cX11_findUses 2 none 3 79 layM nM ad [.ref (ad 0)] g none gE := by
  refine z_enter (by decide) (Nat.le_of_ble_eq_true rfl) (fun F C => ?_)
  replace C : z_X F layM nM ad cX11_findUses RX11 2 none 3 79 none gE := C
  show z_W F layM nM ad 0 [(0, .ref (ad 0))] [] g
  unfold fX11_findUses at h
  refine z_aload_n C dX11_findUses_0 rfl 0 rfl ?_
  refine z_iconst C dX11_findUses_1 zci_0 ?_
  obtain ⟨g2, eg2, h⟩ := z_s_some h
  refine z_puti C zp_X11_319 zo_M_48 rfl rfl dX11_findUses_2 ?_
  refine z_gw eg2 ?_
  refine z_iconst C dX11_findUses_5 zci_0 ?_
  refine z_istore_n C dX11_findUses_6 rfl (by decide) [(1, .int 0), (0, .ref (ad 0))] rfl ?_
  refine z_loc [1, 0] rfl ?_
  refine wX11_findUses_L7 C _ ?_ zN 0 g2 h
  · intro g h
    refine z_iconst C dX11_findUses_26 zci_0 ?_
    refine z_istore_n C dX11_findUses_27 rfl (by decide) [(1, .int 0), (0, .ref (ad 0))] rfl ?_
    refine z_loc [1, 0] rfl ?_
    refine wX11_findUses_L28 C  zN 0 g h
set_option maxRecDepth 100000 in
set_option maxHeartbeats 4000000 in
theorem wX11_uses_J17 {F : z_F} {ad : Nat → Nat} {r : Int32} {gE : z_S} (C : z_X F layM nM ad cX11_uses RX11 2 (some .int) 4 100 (some (.int r)) gE) (v1 : Int32) (g : z_S) (h : fX11_uses_J17 v1 g = some (r, gE)) : z_W F layM nM ad 17 [(0, .ref (ad 0)), (1, .int v1)] [] g := by
  unfold fX11_uses_J17 at h
  refine z_aload_n C dX11_uses_17 rfl 0 rfl ?_
  obtain ⟨r18, g18, hq18, h⟩ := z_b_some h
  refine z_callVv [] C zc_X11_325 zk_M rfl (by decide) (Nat.le_of_ble_eq_true rfl) dX11_uses_18 rfl (wX11_findUses ad g g18 hq18) ?_
  refine z_iload_n C dX11_uses_21 rfl 1 rfl ?_
  refine z_iconst C dX11_uses_22 zci_m1 ?_
  refine z_icmp_ne 33 C dX11_uses_23 rfl (fun hc => ?_) (fun hc => ?_)
  · replace h := z_it hc h
    refine z_aload_n C dX11_uses_26 rfl 0 rfl ?_
    refine z_geti C zf_X11_319 zo_M_48 dX11_uses_27 ?_
    refine z_goto 39 C dX11_uses_30 rfl ?_
    exact z_iret C (z_ret1i h) (z_ret2 h) dX11_uses_39
  · replace h := z_if hc h
    refine z_aload_n C dX11_uses_33 rfl 0 rfl ?_
    refine z_getr C zf_X11_118 zo_M_47 dX11_uses_34 ?_
    refine z_iload_n C dX11_uses_37 rfl 1 rfl ?_
    obtain ⟨hi38, h⟩ := z_g_some h
    refine z_iald C za_M_35 (z_in_vp hi38) dX11_uses_38 ?_
    exact z_iret C (z_ret1i h) (z_ret2 h) dX11_uses_39
set_option maxRecDepth 100000 in
set_option maxHeartbeats 4000000 in
theorem wX11_uses (ad : Nat → Nat) (v1 : Int32) (g : z_S) (r : Int32) (gE : z_S) (h : fX11_uses v1 g = some (r, gE)) : z_M yX11_uses cX11_uses 2 (some .int) 4 100 layM nM ad [.ref (ad 0), .int v1] g (some (.int r)) gE := by
  refine z_enter (by decide) (Nat.le_of_ble_eq_true rfl) (fun F C => ?_)
  replace C : z_X F layM nM ad cX11_uses RX11 2 (some .int) 4 100 (some (.int r)) gE := C
  show z_W F layM nM ad 0 [(0, .ref (ad 0)), (1, .int v1)] [] g
  unfold fX11_uses at h
  refine z_iload_n C dX11_uses_0 rfl 1 rfl ?_
  refine z_iconst C dX11_uses_1 zci_m1 ?_
  refine z_icmp_eq 17 C dX11_uses_2 rfl (fun hc => ?_) (fun hc => ?_)
  · replace h := z_it hc h
    exact wX11_uses_J17 C v1 g h
  · replace h := z_if hc h
    refine z_aload_n C dX11_uses_5 rfl 0 rfl ?_
    refine z_iload_n C dX11_uses_6 rfl 1 rfl ?_
    obtain ⟨r7, g7, hq7, h⟩ := z_b_some h
    refine z_callVi [] C zc_X11_188 zk_M rfl (by decide) (Nat.le_of_ble_eq_true rfl) dX11_uses_7 rfl (wX11_noWord ad v1 g r7 g7 hq7) ?_
    refine z_if_eq 17 C dX11_uses_10 rfl (fun hc => ?_) (fun hc => ?_)
    · replace h := z_it hc h
      exact wX11_uses_J17 C v1 g7 h
    · replace h := z_if hc h
      refine z_sipush C dX11_uses_13 zcs_m1001 ?_
      exact z_iret C (z_ret1i h) (z_ret2 h) dX11_uses_16
set_option maxRecDepth 100000 in
set_option maxHeartbeats 4000000 in
theorem wX11_learnOnce_J52 {F : z_F} {ad : Nat → Nat} {r : Int32} {gE : z_S} (C : z_X F layM nM ad cX11_learnOnce RX11 5 (some .boolean) 4 100 (some (.int r)) gE) (rc : (Int32 × Int32 × Int32 × Int32) → z_S → Option (Int32 × z_S)) (hrc : ∀ (v1 : Int32) (v2 : Int32) (v3 : Int32) (v4 : Int32) (g : z_S), rc (v1, v2, v3, v4) g = some (r, gE) → z_W F layM nM ad 21 [(0, .ref (ad 0)), (1, .int v1), (2, .int v2), (3, .int v3), (4, .int v4)] [] g) (v1 : Int32) (v2 : Int32) (v4 : Int32) (s0 : Int32) (s1 : Int32) (g : z_S) (h : fX11_learnOnce_J52 rc v1 v2 v4 s0 s1 g = some (r, gE)) : z_W F layM nM ad 52 [(0, .ref (ad 0)), (1, .int v1), (2, .int v2), (4, .int v4)] [.int s0, .int s1] g := by
  unfold fX11_learnOnce_J52 at h
  obtain ⟨r52, g52, hq52, h⟩ := z_b_some h
  refine z_callSi [.int s1] C zc_X11_195 rfl (by decide) (Nat.le_of_ble_eq_true rfl) dX11_learnOnce_52 rfl (wX11_one ad s0 g r52 g52 hq52) ?_
  refine z_iadd C dX11_learnOnce_55 ?_
  refine z_istore_n C dX11_learnOnce_56 rfl (by decide) [(3, .int (s1 + r52)), (0, .ref (ad 0)), (1, .int v1), (2, .int v2), (4, .int v4)] rfl ?_
  refine z_iinc C dX11_learnOnce_57 (by decide) 4 rfl (z_incl zci_1) [(4, .int (v4 + 1)), (3, .int (s1 + r52)), (0, .ref (ad 0)), (1, .int v1), (2, .int v2)] rfl ?_
  refine z_goto 21 C dX11_learnOnce_60 rfl ?_
  refine z_loc [2, 3, 4, 1, 0] rfl ?_
  exact hrc v1 v2 (s1 + r52) (v4 + 1) g52 h
set_option maxRecDepth 100000 in
set_option maxHeartbeats 4000000 in
theorem wX11_learnOnce_L21 {F : z_F} {ad : Nat → Nat} {r : Int32} {gE : z_S} (C : z_X F layM nM ad cX11_learnOnce RX11 5 (some .boolean) 4 100 (some (.int r)) gE) (k63 : Int32 → Int32 → Int32 → z_S → Option (Int32 × z_S)) (hk63 : ∀ (v1 : Int32) (v2 : Int32) (v3 : Int32) (g : z_S), k63 v1 v2 v3 g = some (r, gE) → z_W F layM nM ad 63 [(0, .ref (ad 0)), (1, .int v1), (2, .int v2), (3, .int v3)] [] g) : ∀ (n : Nat) (v1 : Int32) (v2 : Int32) (v3 : Int32) (v4 : Int32) (g : z_S), z_loop (fX11_learnOnce_B21 k63) n (v1, v2, v3, v4) g = some (r, gE) → z_W F layM nM ad 21 [(0, .ref (ad 0)), (1, .int v1), (2, .int v2), (3, .int v3), (4, .int v4)] [] g := by
  intro n
  induction n with
  | zero =>
    intro v1 v2 v3 v4 g h
    exact (z_loop_0 h).elim
  | succ n ih =>
    intro v1 v2 v3 v4 g h
    replace h := z_loop_S h
    simp only [fX11_learnOnce_B21] at h
    refine z_iload C dX11_learnOnce_21 4 rfl ?_
    refine z_aload_n C dX11_learnOnce_23 rfl 0 rfl ?_
    refine z_geti C zf_X11_135 zo_M_1 dX11_learnOnce_24 ?_
    refine z_icmp_ge 63 C dX11_learnOnce_27 rfl (fun hc => ?_) (fun hc => ?_)
    · replace h := z_it hc h
      refine z_loc [0, 1, 2, 3] rfl ?_
      exact hk63 v1 v2 v3 g h
    · replace h := z_if hc h
      refine z_iload_n C dX11_learnOnce_30 rfl 3 rfl ?_
      refine z_aload_n C dX11_learnOnce_31 rfl 0 rfl ?_
      refine z_getr C zf_X11_118 zo_M_47 dX11_learnOnce_32 ?_
      refine z_iload C dX11_learnOnce_35 4 rfl ?_
      obtain ⟨hi37, h⟩ := z_g_some h
      refine z_iald C za_M_35 (z_in_vp hi37) dX11_learnOnce_37 ?_
      refine z_aload_n C dX11_learnOnce_38 rfl 0 rfl ?_
      refine z_getr C zf_X11_118 zo_M_47 dX11_learnOnce_39 ?_
      refine z_iload_n C dX11_learnOnce_42 rfl 2 rfl ?_
      obtain ⟨hi43, h⟩ := z_g_some h
      refine z_iald C za_M_35 (z_in_vp hi43) dX11_learnOnce_43 ?_
      refine z_icmp_le 51 C dX11_learnOnce_44 rfl (fun hc => ?_) (fun hc => ?_)
      · replace h := z_it hc h
        refine z_iconst C dX11_learnOnce_51 zci_0 ?_
        refine z_loc [0, 1, 2, 4] rfl ?_
        exact wX11_learnOnce_J52 C _ (fun v1 v2 v3 v4 g h => ih v1 v2 v3 v4 g h) v1 v2 v4 0 v3 g h
      · replace h := z_if hc h
        refine z_iconst C dX11_learnOnce_47 zci_1 ?_
        refine z_goto 52 C dX11_learnOnce_48 rfl ?_
        refine z_loc [0, 1, 2, 4] rfl ?_
        exact wX11_learnOnce_J52 C _ (fun v1 v2 v3 v4 g h => ih v1 v2 v3 v4 g h) v1 v2 v4 1 v3 g h
set_option maxRecDepth 100000 in
set_option maxHeartbeats 4000000 in
theorem wX11_learnOnce_J82 {F : z_F} {ad : Nat → Nat} {r : Int32} {gE : z_S} (C : z_X F layM nM ad cX11_learnOnce RX11 5 (some .boolean) 4 100 (some (.int r)) gE) (rc : (Int32 × Int32) → z_S → Option (Int32 × z_S)) (hrc : ∀ (v1 : Int32) (v2 : Int32) (g : z_S), rc (v1, v2) g = some (r, gE) → z_W F layM nM ad 8 [(0, .ref (ad 0)), (1, .int v1), (2, .int v2)] [] g) (v2 : Int32) (v3 : Int32) (s0 : Int32) (g : z_S) (h : fX11_learnOnce_J82 rc v2 v3 s0 g = some (r, gE)) : z_W F layM nM ad 82 [(0, .ref (ad 0)), (2, .int v2), (3, .int v3)] [.int s0] g := by
  unfold fX11_learnOnce_J82 at h
  refine z_istore_n C dX11_learnOnce_82 rfl (by decide) [(1, .int s0), (0, .ref (ad 0)), (2, .int v2), (3, .int v3)] rfl ?_
  refine z_aload_n C dX11_learnOnce_83 rfl 1 rfl ?_
  refine z_getr C zf_X11_16 zo_M_4 dX11_learnOnce_84 ?_
  refine z_iload_n C dX11_learnOnce_87 rfl 2 rfl ?_
  refine z_iload_n C dX11_learnOnce_88 rfl 3 rfl ?_
  obtain ⟨hi89, h⟩ := z_g_some h
  obtain ⟨g89, eg89, h⟩ := z_s_some h
  refine z_iast C za_M_3 (z_in_vp hi89) dX11_learnOnce_89 ?_
  refine z_gw eg89 ?_
  refine z_iinc C dX11_learnOnce_90 (by decide) 2 rfl (z_incl zci_1) [(2, .int (v2 + 1)), (1, .int s0), (0, .ref (ad 0)), (3, .int v3)] rfl ?_
  refine z_goto 8 C dX11_learnOnce_93 rfl ?_
  refine z_loc [2, 1, 0] rfl ?_
  exact hrc s0 (v2 + 1) g89 h
set_option maxRecDepth 100000 in
set_option maxHeartbeats 4000000 in
theorem wX11_learnOnce_L8 {F : z_F} {ad : Nat → Nat} {r : Int32} {gE : z_S} (C : z_X F layM nM ad cX11_learnOnce RX11 5 (some .boolean) 4 100 (some (.int r)) gE) : ∀ (n : Nat) (v1 : Int32) (v2 : Int32) (g : z_S), z_loop fX11_learnOnce_B8 n (v1, v2) g = some (r, gE) → z_W F layM nM ad 8 [(0, .ref (ad 0)), (1, .int v1), (2, .int v2)] [] g := by
  intro n
  induction n with
  | zero =>
    intro v1 v2 g h
    exact (z_loop_0 h).elim
  | succ n ih =>
    intro v1 v2 g h
    replace h := z_loop_S h
    simp only [fX11_learnOnce_B8] at h
    refine z_iload_n C dX11_learnOnce_8 rfl 2 rfl ?_
    refine z_aload_n C dX11_learnOnce_9 rfl 0 rfl ?_
    refine z_geti C zf_X11_135 zo_M_1 dX11_learnOnce_10 ?_
    refine z_icmp_ge 96 C dX11_learnOnce_13 rfl (fun hc => ?_) (fun hc => ?_)
    · replace h := z_it hc h
      refine z_iload_n C dX11_learnOnce_96 rfl 1 rfl ?_
      obtain ⟨hz, h⟩ := z_g_some h
      exact z_zret C (eq_of_beq hz) (z_ret1i h) (z_ret2 h) dX11_learnOnce_97
    · replace h := z_if hc h
      refine z_iconst C dX11_learnOnce_16 zci_1 ?_
      refine z_istore_n C dX11_learnOnce_17 rfl (by decide) [(3, .int 1), (0, .ref (ad 0)), (1, .int v1), (2, .int v2)] rfl ?_
      refine z_iconst C dX11_learnOnce_18 zci_0 ?_
      refine z_istore C dX11_learnOnce_19 (by decide) [(4, .int 0), (3, .int 1), (0, .ref (ad 0)), (1, .int v1), (2, .int v2)] rfl ?_
      refine z_loc [2, 3, 4, 1, 0] rfl ?_
      refine wX11_learnOnce_L21 C _ ?_ zN v1 v2 1 0 g h
      · intro v1 v2 v3 g h
        refine z_iload_n C dX11_learnOnce_63 rfl 1 rfl ?_
        refine z_if_ne 77 C dX11_learnOnce_64 rfl (fun hc => ?_) (fun hc => ?_)
        · replace h := z_it hc h
          refine z_aload_n C dX11_learnOnce_67 rfl 0 rfl ?_
          refine z_getr C zf_X11_16 zo_M_4 dX11_learnOnce_68 ?_
          refine z_iload_n C dX11_learnOnce_71 rfl 2 rfl ?_
          obtain ⟨hi72, h⟩ := z_g_some h
          refine z_iald C za_M_3 (z_in_vp hi72) dX11_learnOnce_72 ?_
          refine z_iload_n C dX11_learnOnce_73 rfl 3 rfl ?_
          refine z_icmp_eq 81 C dX11_learnOnce_74 rfl (fun hc => ?_) (fun hc => ?_)
          · replace h := z_it hc h
            refine z_iconst C dX11_learnOnce_81 zci_0 ?_
            refine z_loc [0, 2, 3] rfl ?_
            exact wX11_learnOnce_J82 C _ (fun v1 v2 g h => ih v1 v2 g h) v2 v3 0 g h
          · replace h := z_if hc h
            refine z_iconst C dX11_learnOnce_77 zci_1 ?_
            refine z_goto 82 C dX11_learnOnce_78 rfl ?_
            refine z_loc [0, 2, 3] rfl ?_
            exact wX11_learnOnce_J82 C _ (fun v1 v2 g h => ih v1 v2 g h) v2 v3 1 g h
        · replace h := z_if hc h
          refine z_iconst C dX11_learnOnce_77 zci_1 ?_
          refine z_goto 82 C dX11_learnOnce_78 rfl ?_
          refine z_loc [0, 2, 3] rfl ?_
          exact wX11_learnOnce_J82 C _ (fun v1 v2 g h => ih v1 v2 g h) v2 v3 1 g h
set_option maxRecDepth 100000 in
set_option maxHeartbeats 4000000 in
theorem wX11_learnOnce (ad : Nat → Nat) (g : z_S) (r : Int32) (gE : z_S) (h : fX11_learnOnce g = some (r, gE)) : z_M yX11_learnOnce cX11_learnOnce 5 (some .boolean) 4 100 layM nM ad [.ref (ad 0)] g (some (.int r)) gE := by
  refine z_enter (by decide) (Nat.le_of_ble_eq_true rfl) (fun F C => ?_)
  replace C : z_X F layM nM ad cX11_learnOnce RX11 5 (some .boolean) 4 100 (some (.int r)) gE := C
  show z_W F layM nM ad 0 [(0, .ref (ad 0))] [] g
  unfold fX11_learnOnce at h
  refine z_aload_n C dX11_learnOnce_0 rfl 0 rfl ?_
  obtain ⟨r1, g1, hq1, h⟩ := z_b_some h
  refine z_callVv [] C zc_X11_325 zk_M rfl (by decide) (Nat.le_of_ble_eq_true rfl) dX11_learnOnce_1 rfl (wX11_findUses ad g g1 hq1) ?_
  refine z_iconst C dX11_learnOnce_4 zci_0 ?_
  refine z_istore_n C dX11_learnOnce_5 rfl (by decide) [(1, .int 0), (0, .ref (ad 0))] rfl ?_
  refine z_iconst C dX11_learnOnce_6 zci_0 ?_
  refine z_istore_n C dX11_learnOnce_7 rfl (by decide) [(2, .int 0), (1, .int 0), (0, .ref (ad 0))] rfl ?_
  refine z_loc [2, 1, 0] rfl ?_
  refine wX11_learnOnce_L8 C  zN 0 0 g1 h
set_option maxRecDepth 100000 in
set_option maxHeartbeats 4000000 in
theorem wX11_learn_L18 {F : z_F} {ad : Nat → Nat} {r : Int32} {gE : z_S} (C : z_X F layM nM ad cX11_learn RX11 3 (some .int) 5 124 (some (.int r)) gE) : ∀ (n : Nat) (v1 : Int32) (v2 : Int32) (g : z_S), z_loop fX11_learn_B18 n (v1, v2) g = some (r, gE) → z_W F layM nM ad 18 [(0, .ref (ad 0)), (1, .int v1), (2, .int v2)] [] g := by
  intro n
  induction n with
  | zero =>
    intro v1 v2 g h
    exact (z_loop_0 h).elim
  | succ n ih =>
    intro v1 v2 g h
    replace h := z_loop_S h
    simp only [fX11_learn_B18] at h
    refine z_iload_n C dX11_learn_18 rfl 2 rfl ?_
    refine z_iload_n C dX11_learn_19 rfl 1 rfl ?_
    refine z_icmp_ge 38 C dX11_learn_20 rfl (fun hc => ?_) (fun hc => ?_)
    · replace h := z_it hc h
      refine z_iconst C dX11_learn_38 zci_m1 ?_
      exact z_iret C (z_ret1i h) (z_ret2 h) dX11_learn_39
    · replace h := z_if hc h
      refine z_aload_n C dX11_learn_23 rfl 0 rfl ?_
      obtain ⟨r24, g24, hq24, h⟩ := z_b_some h
      refine z_callVi [] C zc_X11_328 zk_M rfl (by decide) (Nat.le_of_ble_eq_true rfl) dX11_learn_24 rfl (wX11_learnOnce ad g r24 g24 hq24) ?_
      refine z_if_ne 32 C dX11_learn_27 rfl (fun hc => ?_) (fun hc => ?_)
      · replace h := z_it hc h
        refine z_iload_n C dX11_learn_30 rfl 2 rfl ?_
        exact z_iret C (z_ret1i h) (z_ret2 h) dX11_learn_31
      · replace h := z_if hc h
        refine z_iinc C dX11_learn_32 (by decide) 2 rfl (z_incl zci_1) [(2, .int (v2 + 1)), (0, .ref (ad 0)), (1, .int v1)] rfl ?_
        refine z_goto 18 C dX11_learn_35 rfl ?_
        refine z_loc [1, 2, 0] rfl ?_
        exact ih v1 (v2 + 1) g24 h
set_option maxRecDepth 100000 in
set_option maxHeartbeats 4000000 in
theorem wX11_learn (ad : Nat → Nat) (v1 : Int32) (g : z_S) (r : Int32) (gE : z_S) (h : fX11_learn v1 g = some (r, gE)) : z_M yX11_learn cX11_learn 3 (some .int) 5 124 layM nM ad [.ref (ad 0), .int v1] g (some (.int r)) gE := by
  refine z_enter (by decide) (Nat.le_of_ble_eq_true rfl) (fun F C => ?_)
  replace C : z_X F layM nM ad cX11_learn RX11 3 (some .int) 5 124 (some (.int r)) gE := C
  show z_W F layM nM ad 0 [(0, .ref (ad 0)), (1, .int v1)] [] g
  unfold fX11_learn at h
  refine z_iload_n C dX11_learn_0 rfl 1 rfl ?_
  refine z_i2l C dX11_learn_1 ?_
  refine z_lconst C dX11_learn_2 zcl_1 ?_
  refine z_ldc2 C dX11_learn_3 zl_X11_287 ?_
  obtain ⟨r6, g6, hq6, h⟩ := z_b_some h
  refine z_callSi [] C zc_X11_131 rfl (by decide) (Nat.le_of_ble_eq_true rfl) dX11_learn_6 rfl (wX11_in ad ((v1).toInt64) 1 20 g r6 g6 hq6) ?_
  refine z_if_ne 16 C dX11_learn_9 rfl (fun hc => ?_) (fun hc => ?_)
  · replace h := z_it hc h
    refine z_sipush C dX11_learn_12 zcs_m1002 ?_
    exact z_iret C (z_ret1i h) (z_ret2 h) dX11_learn_15
  · replace h := z_if hc h
    refine z_iconst C dX11_learn_16 zci_0 ?_
    refine z_istore_n C dX11_learn_17 rfl (by decide) [(2, .int 0), (0, .ref (ad 0)), (1, .int v1)] rfl ?_
    refine z_loc [1, 2, 0] rfl ?_
    refine wX11_learn_L18 C  zN v1 0 g6 h
set_option maxRecDepth 100000 in
set_option maxHeartbeats 4000000 in
theorem wX11_layWord_L23 {F : z_F} {ad : Nat → Nat} {r : Int32} {gE : z_S} (C : z_X F layM nM ad cX11_layWord RX11 8 (some .boolean) 0 0 (some (.int r)) gE) (k64 : Int32 → z_S → Option (Int32 × z_S)) (hk64 : ∀ (v3 : Int32) (g : z_S), k64 v3 g = some (r, gE) → z_W F layM nM ad 64 [(0, .ref (ad 0)), (3, .int v3)] [] g) : ∀ (n : Nat) (v1 : Int32) (v2 : Int32) (v3 : Int32) (v4 : Int32) (g : z_S), z_loop (fX11_layWord_B23 k64) n (v1, v2, v3, v4) g = some (r, gE) → z_W F layM nM ad 23 [(0, .ref (ad 0)), (1, .int v1), (2, .int v2), (3, .int v3), (4, .int v4)] [] g := by
  intro n
  induction n with
  | zero =>
    intro v1 v2 v3 v4 g h
    exact (z_loop_0 h).elim
  | succ n ih =>
    intro v1 v2 v3 v4 g h
    replace h := z_loop_S h
    simp only [fX11_layWord_B23] at h
    refine z_iload C dX11_layWord_23 4 rfl ?_
    refine z_iload_n C dX11_layWord_25 rfl 3 rfl ?_
    refine z_icmp_ge 64 C dX11_layWord_26 rfl (fun hc => ?_) (fun hc => ?_)
    · replace h := z_it hc h
      refine z_loc [0, 3] rfl ?_
      exact hk64 v3 g h
    · replace h := z_if hc h
      refine z_aload_n C dX11_layWord_29 rfl 0 rfl ?_
      refine z_getr C zf_X11_7 zo_M_2 dX11_layWord_30 ?_
      refine z_bipush C dX11_layWord_33 zcb_8 ?_
      refine z_aload_n C dX11_layWord_35 rfl 0 rfl ?_
      refine z_geti C zf_X11_135 zo_M_1 dX11_layWord_36 ?_
      refine z_imul C dX11_layWord_39 ?_
      refine z_iload C dX11_layWord_40 4 rfl ?_
      refine z_iadd C dX11_layWord_42 ?_
      refine z_aload_n C dX11_layWord_43 rfl 0 rfl ?_
      refine z_getr C zf_X11_32 zo_M_11 dX11_layWord_44 ?_
      refine z_bipush C dX11_layWord_47 zcb_24 ?_
      refine z_iload_n C dX11_layWord_49 rfl 1 rfl ?_
      refine z_imul C dX11_layWord_50 ?_
      refine z_iload_n C dX11_layWord_51 rfl 2 rfl ?_
      refine z_iadd C dX11_layWord_52 ?_
      refine z_iload C dX11_layWord_53 4 rfl ?_
      refine z_iadd C dX11_layWord_55 ?_
      obtain ⟨hi56, h⟩ := z_g_some h
      refine z_iald C za_M_8 (z_in_vp hi56) dX11_layWord_56 ?_
      obtain ⟨hi57, h⟩ := z_g_some h
      obtain ⟨g57, eg57, h⟩ := z_s_some h
      refine z_iast C za_M_1 (z_in_vp hi57) dX11_layWord_57 ?_
      refine z_gw eg57 ?_
      refine z_iinc C dX11_layWord_58 (by decide) 4 rfl (z_incl zci_1) [(4, .int (v4 + 1)), (0, .ref (ad 0)), (1, .int v1), (2, .int v2), (3, .int v3)] rfl ?_
      refine z_goto 23 C dX11_layWord_61 rfl ?_
      refine z_loc [1, 2, 3, 4, 0] rfl ?_
      exact ih v1 v2 v3 (v4 + 1) g57 h
set_option maxRecDepth 100000 in
set_option maxHeartbeats 4000000 in
theorem wX11_layWord_L105 {F : z_F} {ad : Nat → Nat} {r : Int32} {gE : z_S} (C : z_X F layM nM ad cX11_layWord RX11 8 (some .boolean) 0 0 (some (.int r)) gE) (k160 : Int32 → Int32 → Int32 → z_S → Option (Int32 × z_S)) (hk160 : ∀ (v3 : Int32) (v5 : Int32) (v6 : Int32) (g : z_S), k160 v3 v5 v6 g = some (r, gE) → z_W F layM nM ad 160 [(0, .ref (ad 0)), (3, .int v3), (5, .int v5), (6, .int v6)] [] g) : ∀ (n : Nat) (v3 : Int32) (v5 : Int32) (v6 : Int32) (v7 : Int32) (g : z_S), z_loop (fX11_layWord_B105 k160) n (v3, v5, v6, v7) g = some (r, gE) → z_W F layM nM ad 105 [(0, .ref (ad 0)), (3, .int v3), (5, .int v5), (6, .int v6), (7, .int v7)] [] g := by
  intro n
  induction n with
  | zero =>
    intro v3 v5 v6 v7 g h
    exact (z_loop_0 h).elim
  | succ n ih =>
    intro v3 v5 v6 v7 g h
    replace h := z_loop_S h
    simp only [fX11_layWord_B105] at h
    refine z_iload C dX11_layWord_105 4 rfl ?_
    refine z_iload_n C dX11_layWord_107 rfl 1 rfl ?_
    refine z_icmp_ge 160 C dX11_layWord_108 rfl (fun hc => ?_) (fun hc => ?_)
    · replace h := z_it hc h
      refine z_loc [0, 1, 2, 3] rfl ?_
      exact hk160 v3 v5 v6 g h
    · replace h := z_if hc h
      refine z_iload C dX11_layWord_111 3 rfl ?_
      refine z_if_eq 160 C dX11_layWord_113 rfl (fun hc => ?_) (fun hc => ?_)
      · replace h := z_it hc h
        refine z_loc [0, 1, 2, 3] rfl ?_
        exact hk160 v3 v5 v6 g h
      · replace h := z_if hc h
        refine z_aload_n C dX11_layWord_116 rfl 0 rfl ?_
        refine z_getr C zf_X11_7 zo_M_2 dX11_layWord_117 ?_
        refine z_bipush C dX11_layWord_120 zcb_8 ?_
        refine z_iload C dX11_layWord_122 2 rfl ?_
        refine z_imul C dX11_layWord_124 ?_
        refine z_iload C dX11_layWord_125 4 rfl ?_
        refine z_iadd C dX11_layWord_127 ?_
        obtain ⟨hi128, h⟩ := z_g_some h
        refine z_iald C za_M_1 (z_in_vp hi128) dX11_layWord_128 ?_
        refine z_aload_n C dX11_layWord_129 rfl 0 rfl ?_
        refine z_getr C zf_X11_7 zo_M_2 dX11_layWord_130 ?_
        refine z_bipush C dX11_layWord_133 zcb_8 ?_
        refine z_aload_n C dX11_layWord_135 rfl 0 rfl ?_
        refine z_geti C zf_X11_135 zo_M_1 dX11_layWord_136 ?_
        refine z_imul C dX11_layWord_139 ?_
        refine z_iload C dX11_layWord_140 4 rfl ?_
        refine z_iadd C dX11_layWord_142 ?_
        obtain ⟨hi143, h⟩ := z_g_some h
        refine z_iald C za_M_1 (z_in_vp hi143) dX11_layWord_143 ?_
        refine z_icmp_ne 151 C dX11_layWord_144 rfl (fun hc => ?_) (fun hc => ?_)
        · replace h := z_it hc h
          refine z_iconst C dX11_layWord_147 zci_1 ?_
          refine z_goto 152 C dX11_layWord_148 rfl ?_
          refine z_istore C dX11_layWord_152 (by decide) [(6, .int 1), (0, .ref (ad 0)), (3, .int v3), (5, .int v5), (7, .int v7)] rfl ?_
          refine z_iinc C dX11_layWord_154 (by decide) 4 rfl (z_incl zci_1) [(7, .int (v7 + 1)), (6, .int 1), (0, .ref (ad 0)), (3, .int v3), (5, .int v5)] rfl ?_
          refine z_goto 105 C dX11_layWord_157 rfl ?_
          refine z_loc [2, 3, 4, 1, 0] rfl ?_
          exact ih v3 v5 1 (v7 + 1) g h
        · replace h := z_if hc h
          refine z_iconst C dX11_layWord_151 zci_0 ?_
          refine z_istore C dX11_layWord_152 (by decide) [(6, .int 0), (0, .ref (ad 0)), (3, .int v3), (5, .int v5), (7, .int v7)] rfl ?_
          refine z_iinc C dX11_layWord_154 (by decide) 4 rfl (z_incl zci_1) [(7, .int (v7 + 1)), (6, .int 0), (0, .ref (ad 0)), (3, .int v3), (5, .int v5)] rfl ?_
          refine z_goto 105 C dX11_layWord_157 rfl ?_
          refine z_loc [2, 3, 4, 1, 0] rfl ?_
          exact ih v3 v5 0 (v7 + 1) g h
set_option maxRecDepth 100000 in
set_option maxHeartbeats 4000000 in
theorem wX11_layWord_L70 {F : z_F} {ad : Nat → Nat} {r : Int32} {gE : z_S} (C : z_X F layM nM ad cX11_layWord RX11 8 (some .boolean) 0 0 (some (.int r)) gE) : ∀ (n : Nat) (v3 : Int32) (v4 : Int32) (v5 : Int32) (g : z_S), z_loop fX11_layWord_B70 n (v3, v4, v5) g = some (r, gE) → z_W F layM nM ad 70 [(0, .ref (ad 0)), (3, .int v3), (4, .int v4), (5, .int v5)] [] g := by
  intro n
  induction n with
  | zero =>
    intro v3 v4 v5 g h
    exact (z_loop_0 h).elim
  | succ n ih =>
    intro v3 v4 v5 g h
    replace h := z_loop_S h
    simp only [fX11_layWord_B70] at h
    refine z_iload C dX11_layWord_70 3 rfl ?_
    refine z_aload_n C dX11_layWord_72 rfl 0 rfl ?_
    refine z_geti C zf_X11_135 zo_M_1 dX11_layWord_73 ?_
    refine z_icmp_ge 178 C dX11_layWord_76 rfl (fun hc => ?_) (fun hc => ?_)
    · replace h := z_it hc h
      refine z_iload C dX11_layWord_178 2 rfl ?_
      obtain ⟨hz, h⟩ := z_g_some h
      exact z_zret C (eq_of_beq hz) (z_ret1i h) (z_ret2 h) dX11_layWord_180
    · replace h := z_if hc h
      refine z_iload C dX11_layWord_79 2 rfl ?_
      refine z_if_eq 178 C dX11_layWord_81 rfl (fun hc => ?_) (fun hc => ?_)
      · replace h := z_it hc h
        refine z_iload C dX11_layWord_178 2 rfl ?_
        obtain ⟨hz, h⟩ := z_g_some h
        exact z_zret C (eq_of_beq hz) (z_ret1i h) (z_ret2 h) dX11_layWord_180
      · replace h := z_if hc h
        refine z_aload_n C dX11_layWord_84 rfl 0 rfl ?_
        refine z_getr C zf_X11_13 zo_M_3 dX11_layWord_85 ?_
        refine z_iload C dX11_layWord_88 3 rfl ?_
        obtain ⟨hi90, h⟩ := z_g_some h
        refine z_iald C za_M_2 (z_in_vp hi90) dX11_layWord_90 ?_
        refine z_iload_n C dX11_layWord_91 rfl 1 rfl ?_
        refine z_icmp_ne 99 C dX11_layWord_92 rfl (fun hc => ?_) (fun hc => ?_)
        · replace h := z_it hc h
          refine z_iconst C dX11_layWord_95 zci_1 ?_
          refine z_goto 100 C dX11_layWord_96 rfl ?_
          refine z_istore C dX11_layWord_100 (by decide) [(6, .int 1), (0, .ref (ad 0)), (3, .int v3), (4, .int v4), (5, .int v5)] rfl ?_
          refine z_iconst C dX11_layWord_102 zci_0 ?_
          refine z_istore C dX11_layWord_103 (by decide) [(7, .int 0), (6, .int 1), (0, .ref (ad 0)), (3, .int v3), (4, .int v4), (5, .int v5)] rfl ?_
          refine z_loc [2, 3, 5, 1, 0] rfl ?_
          refine wX11_layWord_L105 C _ ?_ zN v3 v5 1 0 g h
          · intro v3 v5 v6 g h
            refine z_iload C dX11_layWord_160 3 rfl ?_
            refine z_if_ne 169 C dX11_layWord_162 rfl (fun hc => ?_) (fun hc => ?_)
            · replace h := z_it hc h
              refine z_iconst C dX11_layWord_165 zci_1 ?_
              refine z_goto 170 C dX11_layWord_166 rfl ?_
              refine z_istore C dX11_layWord_170 (by decide) [(4, .int 1), (0, .ref (ad 0)), (3, .int v3), (5, .int v5), (6, .int v6)] rfl ?_
              refine z_iinc C dX11_layWord_172 (by decide) 3 rfl (z_incl zci_1) [(5, .int (v5 + 1)), (4, .int 1), (0, .ref (ad 0)), (3, .int v3), (6, .int v6)] rfl ?_
              refine z_goto 70 C dX11_layWord_175 rfl ?_
              refine z_loc [2, 3, 1, 0] rfl ?_
              exact ih v3 1 (v5 + 1) g h
            · replace h := z_if hc h
              refine z_iconst C dX11_layWord_169 zci_0 ?_
              refine z_istore C dX11_layWord_170 (by decide) [(4, .int 0), (0, .ref (ad 0)), (3, .int v3), (5, .int v5), (6, .int v6)] rfl ?_
              refine z_iinc C dX11_layWord_172 (by decide) 3 rfl (z_incl zci_1) [(5, .int (v5 + 1)), (4, .int 0), (0, .ref (ad 0)), (3, .int v3), (6, .int v6)] rfl ?_
              refine z_goto 70 C dX11_layWord_175 rfl ?_
              refine z_loc [2, 3, 1, 0] rfl ?_
              exact ih v3 0 (v5 + 1) g h
        · replace h := z_if hc h
          refine z_iconst C dX11_layWord_99 zci_0 ?_
          refine z_istore C dX11_layWord_100 (by decide) [(6, .int 0), (0, .ref (ad 0)), (3, .int v3), (4, .int v4), (5, .int v5)] rfl ?_
          refine z_iconst C dX11_layWord_102 zci_0 ?_
          refine z_istore C dX11_layWord_103 (by decide) [(7, .int 0), (6, .int 0), (0, .ref (ad 0)), (3, .int v3), (4, .int v4), (5, .int v5)] rfl ?_
          refine z_loc [2, 3, 5, 1, 0] rfl ?_
          refine wX11_layWord_L105 C _ ?_ zN v3 v5 0 0 g h
          · intro v3 v5 v6 g h
            refine z_iload C dX11_layWord_160 3 rfl ?_
            refine z_if_ne 169 C dX11_layWord_162 rfl (fun hc => ?_) (fun hc => ?_)
            · replace h := z_it hc h
              refine z_iconst C dX11_layWord_165 zci_1 ?_
              refine z_goto 170 C dX11_layWord_166 rfl ?_
              refine z_istore C dX11_layWord_170 (by decide) [(4, .int 1), (0, .ref (ad 0)), (3, .int v3), (5, .int v5), (6, .int v6)] rfl ?_
              refine z_iinc C dX11_layWord_172 (by decide) 3 rfl (z_incl zci_1) [(5, .int (v5 + 1)), (4, .int 1), (0, .ref (ad 0)), (3, .int v3), (6, .int v6)] rfl ?_
              refine z_goto 70 C dX11_layWord_175 rfl ?_
              refine z_loc [2, 3, 1, 0] rfl ?_
              exact ih v3 1 (v5 + 1) g h
            · replace h := z_if hc h
              refine z_iconst C dX11_layWord_169 zci_0 ?_
              refine z_istore C dX11_layWord_170 (by decide) [(4, .int 0), (0, .ref (ad 0)), (3, .int v3), (5, .int v5), (6, .int v6)] rfl ?_
              refine z_iinc C dX11_layWord_172 (by decide) 3 rfl (z_incl zci_1) [(5, .int (v5 + 1)), (4, .int 0), (0, .ref (ad 0)), (3, .int v3), (6, .int v6)] rfl ?_
              refine z_goto 70 C dX11_layWord_175 rfl ?_
              refine z_loc [2, 3, 1, 0] rfl ?_
              exact ih v3 0 (v5 + 1) g h
set_option maxRecDepth 100000 in
set_option maxHeartbeats 4000000 in
theorem wX11_layWord (ad : Nat → Nat) (v1 : Int32) (v2 : Int32) (v3 : Int32) (g : z_S) (r : Int32) (gE : z_S) (h : fX11_layWord v1 v2 v3 g = some (r, gE)) : z_M yX11_layWord cX11_layWord 8 (some .boolean) 0 0 layM nM ad [.ref (ad 0), .int v1, .int v2, .int v3] g (some (.int r)) gE := by
  refine z_enter (by decide) (Nat.le_of_ble_eq_true rfl) (fun F C => ?_)
  replace C : z_X F layM nM ad cX11_layWord RX11 8 (some .boolean) 0 0 (some (.int r)) gE := C
  show z_W F layM nM ad 0 [(0, .ref (ad 0)), (1, .int v1), (2, .int v2), (3, .int v3)] [] g
  unfold fX11_layWord at h
  refine z_aload_n C dX11_layWord_0 rfl 0 rfl ?_
  refine z_getr C zf_X11_13 zo_M_3 dX11_layWord_1 ?_
  refine z_aload_n C dX11_layWord_4 rfl 0 rfl ?_
  refine z_geti C zf_X11_135 zo_M_1 dX11_layWord_5 ?_
  refine z_iload_n C dX11_layWord_8 rfl 3 rfl ?_
  obtain ⟨hi9, h⟩ := z_g_some h
  obtain ⟨g9, eg9, h⟩ := z_s_some h
  refine z_iast C za_M_2 (z_in_vp hi9) dX11_layWord_9 ?_
  refine z_gw eg9 ?_
  refine z_aload_n C dX11_layWord_10 rfl 0 rfl ?_
  refine z_getr C zf_X11_19 zo_M_5 dX11_layWord_11 ?_
  refine z_aload_n C dX11_layWord_14 rfl 0 rfl ?_
  refine z_geti C zf_X11_135 zo_M_1 dX11_layWord_15 ?_
  refine z_iconst C dX11_layWord_18 zci_0 ?_
  obtain ⟨hi19, h⟩ := z_g_some h
  obtain ⟨g19, eg19, h⟩ := z_s_some h
  refine z_iast C za_M_4 (z_in_vp hi19) dX11_layWord_19 ?_
  refine z_gw eg19 ?_
  refine z_iconst C dX11_layWord_20 zci_0 ?_
  refine z_istore C dX11_layWord_21 (by decide) [(4, .int 0), (0, .ref (ad 0)), (1, .int v1), (2, .int v2), (3, .int v3)] rfl ?_
  refine z_loc [1, 2, 3, 4, 0] rfl ?_
  refine wX11_layWord_L23 C _ ?_ zN v1 v2 v3 0 g19 h
  · intro v3 g h
    refine z_iconst C dX11_layWord_64 zci_1 ?_
    refine z_istore C dX11_layWord_65 (by decide) [(4, .int 1), (0, .ref (ad 0)), (3, .int v3)] rfl ?_
    refine z_iconst C dX11_layWord_67 zci_0 ?_
    refine z_istore C dX11_layWord_68 (by decide) [(5, .int 0), (4, .int 1), (0, .ref (ad 0)), (3, .int v3)] rfl ?_
    refine z_loc [2, 3, 1, 0] rfl ?_
    refine wX11_layWord_L70 C  zN v3 1 0 g h
set_option maxRecDepth 100000 in
set_option maxHeartbeats 4000000 in
theorem wX11_isAheadOfBest_L2 {F : z_F} {ad : Nat → Nat} {r : Int32} {gE : z_S} (C : z_X F layM nM ad cX11_isAheadOfBest RX11 4 (some .boolean) 0 0 (some (.int r)) gE) (k41 : Int32 → z_S → Option (Int32 × z_S)) (k57 : Int32 → z_S → Option (Int32 × z_S)) (hk41 : ∀ (v3 : Int32) (g : z_S), k41 v3 g = some (r, gE) → z_W F layM nM ad 41 [(3, .int v3)] [] g) (hk57 : ∀ (v1 : Int32) (g : z_S), k57 v1 g = some (r, gE) → z_W F layM nM ad 57 [(0, .ref (ad 0)), (1, .int v1)] [] g) : ∀ (n : Nat) (v1 : Int32) (v2 : Int32) (g : z_S), z_loop (fX11_isAheadOfBest_B2 k41 k57) n (v1, v2) g = some (r, gE) → z_W F layM nM ad 2 [(0, .ref (ad 0)), (1, .int v1), (2, .int v2)] [] g := by
  intro n
  induction n with
  | zero =>
    intro v1 v2 g h
    exact (z_loop_0 h).elim
  | succ n ih =>
    intro v1 v2 g h
    replace h := z_loop_S h
    simp only [fX11_isAheadOfBest_B2] at h
    refine z_iload_n C dX11_isAheadOfBest_2 rfl 2 rfl ?_
    refine z_iload_n C dX11_isAheadOfBest_3 rfl 1 rfl ?_
    refine z_icmp_ge 57 C dX11_isAheadOfBest_4 rfl (fun hc => ?_) (fun hc => ?_)
    · replace h := z_it hc h
      refine z_loc [0, 1] rfl ?_
      exact hk57 v1 g h
    · replace h := z_if hc h
      refine z_iload_n C dX11_isAheadOfBest_7 rfl 2 rfl ?_
      refine z_aload_n C dX11_isAheadOfBest_8 rfl 0 rfl ?_
      refine z_geti C zf_X11_332 zo_M_50 dX11_isAheadOfBest_9 ?_
      refine z_icmp_ge 57 C dX11_isAheadOfBest_12 rfl (fun hc => ?_) (fun hc => ?_)
      · replace h := z_it hc h
        refine z_loc [0, 1] rfl ?_
        exact hk57 v1 g h
      · replace h := z_if hc h
        refine z_aload_n C dX11_isAheadOfBest_15 rfl 0 rfl ?_
        refine z_getr C zf_X11_7 zo_M_2 dX11_isAheadOfBest_16 ?_
        refine z_bipush C dX11_isAheadOfBest_19 zcb_8 ?_
        refine z_aload_n C dX11_isAheadOfBest_21 rfl 0 rfl ?_
        refine z_geti C zf_X11_135 zo_M_1 dX11_isAheadOfBest_22 ?_
        refine z_imul C dX11_isAheadOfBest_25 ?_
        refine z_iload_n C dX11_isAheadOfBest_26 rfl 2 rfl ?_
        refine z_iadd C dX11_isAheadOfBest_27 ?_
        obtain ⟨hi28, h⟩ := z_g_some h
        refine z_iald C za_M_1 (z_in_vp hi28) dX11_isAheadOfBest_28 ?_
        refine z_aload_n C dX11_isAheadOfBest_29 rfl 0 rfl ?_
        refine z_getr C zf_X11_121 zo_M_49 dX11_isAheadOfBest_30 ?_
        refine z_iload_n C dX11_isAheadOfBest_33 rfl 2 rfl ?_
        obtain ⟨hi34, h⟩ := z_g_some h
        refine z_iald C za_M_36 (z_in_vp hi34) dX11_isAheadOfBest_34 ?_
        refine z_isub C dX11_isAheadOfBest_35 ?_
        refine z_istore_n C dX11_isAheadOfBest_36 rfl (by decide) [(3, .int ((g.1 1 ((8 * (g.1 0 1)) + v2).toNatClampNeg) - (g.1 36 (v2).toNatClampNeg))), (0, .ref (ad 0)), (1, .int v1), (2, .int v2)] rfl ?_
        refine z_iload_n C dX11_isAheadOfBest_37 rfl 0 rfl ?_
        refine z_if_eq 51 C dX11_isAheadOfBest_38 rfl (fun hc => ?_) (fun hc => ?_)
        · replace h := z_it hc h
          refine z_iinc C dX11_isAheadOfBest_51 (by decide) 3 rfl (z_incl zci_1) [(2, .int (v2 + 1)), (3, .int ((g.1 1 ((8 * (g.1 0 1)) + v2).toNatClampNeg) - (g.1 36 (v2).toNatClampNeg))), (0, .ref (ad 0)), (1, .int v1)] rfl ?_
          refine z_goto 2 C dX11_isAheadOfBest_54 rfl ?_
          refine z_loc [2, 3, 0] rfl ?_
          exact ih v1 (v2 + 1) g h
        · replace h := z_if hc h
          refine z_loc [0] rfl ?_
          exact hk41 ((g.1 1 ((8 * (g.1 0 1)) + v2).toNatClampNeg) - (g.1 36 (v2).toNatClampNeg)) g h
set_option maxRecDepth 100000 in
set_option maxHeartbeats 4000000 in
theorem wX11_isAheadOfBest (ad : Nat → Nat) (v1 : Int32) (g : z_S) (r : Int32) (gE : z_S) (h : fX11_isAheadOfBest v1 g = some (r, gE)) : z_M yX11_isAheadOfBest cX11_isAheadOfBest 4 (some .boolean) 0 0 layM nM ad [.ref (ad 0), .int v1] g (some (.int r)) gE := by
  refine z_enter (by decide) (Nat.le_of_ble_eq_true rfl) (fun F C => ?_)
  replace C : z_X F layM nM ad cX11_isAheadOfBest RX11 4 (some .boolean) 0 0 (some (.int r)) gE := C
  show z_W F layM nM ad 0 [(0, .ref (ad 0)), (1, .int v1)] [] g
  unfold fX11_isAheadOfBest at h
  refine z_iconst C dX11_isAheadOfBest_0 zci_0 ?_
  refine z_istore_n C dX11_isAheadOfBest_1 rfl (by decide) [(2, .int 0), (0, .ref (ad 0)), (1, .int v1)] rfl ?_
  refine z_loc [1, 2, 0] rfl ?_
  refine wX11_isAheadOfBest_L2 C _ _ ?_ ?_ zN v1 0 g h
  · intro v3 g h
    refine z_iload_n C dX11_isAheadOfBest_41 rfl 0 rfl ?_
    refine z_if_ge 49 C dX11_isAheadOfBest_42 rfl (fun hc => ?_) (fun hc => ?_)
    · replace h := z_it hc h
      refine z_iconst C dX11_isAheadOfBest_49 zci_0 ?_
      exact z_zret C (by decide) (z_ret1i h) (z_ret2 h) dX11_isAheadOfBest_50
    · replace h := z_if hc h
      refine z_iconst C dX11_isAheadOfBest_45 zci_1 ?_
      refine z_goto 50 C dX11_isAheadOfBest_46 rfl ?_
      exact z_zret C (by decide) (z_ret1i h) (z_ret2 h) dX11_isAheadOfBest_50
  · intro v1 g h
    refine z_iload_n C dX11_isAheadOfBest_57 rfl 1 rfl ?_
    refine z_aload_n C dX11_isAheadOfBest_58 rfl 0 rfl ?_
    refine z_geti C zf_X11_332 zo_M_50 dX11_isAheadOfBest_59 ?_
    refine z_icmp_ge 69 C dX11_isAheadOfBest_62 rfl (fun hc => ?_) (fun hc => ?_)
    · replace h := z_it hc h
      refine z_iconst C dX11_isAheadOfBest_69 zci_0 ?_
      exact z_zret C (by decide) (z_ret1i h) (z_ret2 h) dX11_isAheadOfBest_70
    · replace h := z_if hc h
      refine z_iconst C dX11_isAheadOfBest_65 zci_1 ?_
      refine z_goto 70 C dX11_isAheadOfBest_66 rfl ?_
      exact z_zret C (by decide) (z_ret1i h) (z_ret2 h) dX11_isAheadOfBest_70
set_option maxRecDepth 100000 in
set_option maxHeartbeats 4000000 in
theorem wX11_tryWord_L68 {F : z_F} {ad : Nat → Nat} {gE : z_S} (C : z_X F layM nM ad cX11_tryWord RX11 5 none 3 74 none gE) : ∀ (n : Nat) (v1 : Int32) (v4 : Int32) (g : z_S), z_loop fX11_tryWord_B68 n (v1, v4) g = some ((), gE) → z_W F layM nM ad 68 [(0, .ref (ad 0)), (1, .int v1), (4, .int v4)] [] g := by
  intro n
  induction n with
  | zero =>
    intro v1 v4 g h
    exact (z_loop_0 h).elim
  | succ n ih =>
    intro v1 v4 g h
    replace h := z_loop_S h
    simp only [fX11_tryWord_B68] at h
    refine z_iload C dX11_tryWord_68 2 rfl ?_
    refine z_iload_n C dX11_tryWord_70 rfl 1 rfl ?_
    refine z_icmp_ge 102 C dX11_tryWord_71 rfl (fun hc => ?_) (fun hc => ?_)
    · replace h := z_it hc h
      exact z_vret C rfl (z_ret2 h) dX11_tryWord_102
    · replace h := z_if hc h
      refine z_aload_n C dX11_tryWord_74 rfl 0 rfl ?_
      refine z_getr C zf_X11_121 zo_M_49 dX11_tryWord_75 ?_
      refine z_iload C dX11_tryWord_78 2 rfl ?_
      refine z_aload_n C dX11_tryWord_80 rfl 0 rfl ?_
      refine z_getr C zf_X11_7 zo_M_2 dX11_tryWord_81 ?_
      refine z_bipush C dX11_tryWord_84 zcb_8 ?_
      refine z_aload_n C dX11_tryWord_86 rfl 0 rfl ?_
      refine z_geti C zf_X11_135 zo_M_1 dX11_tryWord_87 ?_
      refine z_imul C dX11_tryWord_90 ?_
      refine z_iload C dX11_tryWord_91 2 rfl ?_
      refine z_iadd C dX11_tryWord_93 ?_
      obtain ⟨hi94, h⟩ := z_g_some h
      refine z_iald C za_M_1 (z_in_vp hi94) dX11_tryWord_94 ?_
      obtain ⟨hi95, h⟩ := z_g_some h
      obtain ⟨g95, eg95, h⟩ := z_s_some h
      refine z_iast C za_M_36 (z_in_vp hi95) dX11_tryWord_95 ?_
      refine z_gw eg95 ?_
      refine z_iinc C dX11_tryWord_96 (by decide) 2 rfl (z_incl zci_1) [(4, .int (v4 + 1)), (0, .ref (ad 0)), (1, .int v1)] rfl ?_
      refine z_goto 68 C dX11_tryWord_99 rfl ?_
      refine z_loc [1, 2, 0] rfl ?_
      exact ih v1 (v4 + 1) g95 h
set_option maxRecDepth 100000 in
set_option maxHeartbeats 4000000 in
theorem wX11_tryWord_J55 {F : z_F} {ad : Nat → Nat} {gE : z_S} (C : z_X F layM nM ad cX11_tryWord RX11 5 none 3 74 none gE) (v1 : Int32) (v3 : Int32) (g : z_S) (h : fX11_tryWord_J55 v1 v3 g = some ((), gE)) : z_W F layM nM ad 55 [(0, .ref (ad 0)), (1, .int v1), (3, .int v3)] [] g := by
  unfold fX11_tryWord_J55 at h
  refine z_aload_n C dX11_tryWord_55 rfl 0 rfl ?_
  refine z_iload_n C dX11_tryWord_56 rfl 2 rfl ?_
  obtain ⟨g57, eg57, h⟩ := z_s_some h
  refine z_puti C zp_X11_338 zo_M_51 rfl rfl dX11_tryWord_57 ?_
  refine z_gw eg57 ?_
  refine z_aload_n C dX11_tryWord_60 rfl 0 rfl ?_
  refine z_iload_n C dX11_tryWord_61 rfl 1 rfl ?_
  obtain ⟨g62, eg62, h⟩ := z_s_some h
  refine z_puti C zp_X11_332 zo_M_50 rfl rfl dX11_tryWord_62 ?_
  refine z_gw eg62 ?_
  refine z_iconst C dX11_tryWord_65 zci_0 ?_
  refine z_istore C dX11_tryWord_66 (by decide) [(4, .int 0), (0, .ref (ad 0)), (1, .int v1), (3, .int v3)] rfl ?_
  refine z_loc [1, 2, 0] rfl ?_
  refine wX11_tryWord_L68 C  zN v1 0 g62 h
set_option maxRecDepth 100000 in
set_option maxHeartbeats 4000000 in
theorem wX11_tryWord (ad : Nat → Nat) (v1 : Int32) (v2 : Int32) (g : z_S) (gE : z_S) (h : fX11_tryWord v1 v2 g = some ((), gE)) : z_M yX11_tryWord cX11_tryWord 5 none 3 74 layM nM ad [.ref (ad 0), .int v1, .int v2] g none gE := by
  refine z_enter (by decide) (Nat.le_of_ble_eq_true rfl) (fun F C => ?_)
  replace C : z_X F layM nM ad cX11_tryWord RX11 5 none 3 74 none gE := C
  show z_W F layM nM ad 0 [(0, .ref (ad 0)), (1, .int v1), (2, .int v2)] [] g
  unfold fX11_tryWord at h
  refine z_aload_n C dX11_tryWord_0 rfl 0 rfl ?_
  refine z_dup C dX11_tryWord_1 rfl ?_
  refine z_geti C zf_X11_135 zo_M_1 dX11_tryWord_2 ?_
  refine z_iconst C dX11_tryWord_5 zci_1 ?_
  refine z_iadd C dX11_tryWord_6 ?_
  obtain ⟨g7, eg7, h⟩ := z_s_some h
  refine z_puti C zp_X11_135 zo_M_1 rfl rfl dX11_tryWord_7 ?_
  refine z_gw eg7 ?_
  refine z_iload_n C dX11_tryWord_10 rfl 2 rfl ?_
  refine z_aload_n C dX11_tryWord_11 rfl 0 rfl ?_
  obtain ⟨r12, g12, hq12, h⟩ := z_b_some h
  refine z_callVi [.int v2] C zc_X11_335 zk_M rfl (by decide) (Nat.le_of_ble_eq_true rfl) dX11_tryWord_12 rfl (wX11_totals ad g7 r12 g12 hq12) ?_
  refine z_isub C dX11_tryWord_15 ?_
  refine z_istore_n C dX11_tryWord_16 rfl (by decide) [(3, .int (v2 - r12)), (0, .ref (ad 0)), (1, .int v1), (2, .int v2)] rfl ?_
  refine z_aload_n C dX11_tryWord_17 rfl 1 rfl ?_
  refine z_dup C dX11_tryWord_18 rfl ?_
  refine z_geti C zf_X11_135 zo_M_1 dX11_tryWord_19 ?_
  refine z_iconst C dX11_tryWord_22 zci_1 ?_
  refine z_isub C dX11_tryWord_23 ?_
  obtain ⟨g24, eg24, h⟩ := z_s_some h
  refine z_puti C zp_X11_135 zo_M_1 rfl rfl dX11_tryWord_24 ?_
  refine z_gw eg24 ?_
  refine z_iload_n C dX11_tryWord_27 rfl 0 rfl ?_
  refine z_aload_n C dX11_tryWord_28 rfl 1 rfl ?_
  refine z_geti C zf_X11_338 zo_M_51 dX11_tryWord_29 ?_
  refine z_icmp_gt 55 C dX11_tryWord_32 rfl (fun hc => ?_) (fun hc => ?_)
  · replace h := z_it hc h
    refine z_loc [1, 2, 0] rfl ?_
    exact wX11_tryWord_J55 C v1 (v2 - r12) g24 h
  · replace h := z_if hc h
    refine z_iload_n C dX11_tryWord_35 rfl 0 rfl ?_
    refine z_if_le 102 C dX11_tryWord_36 rfl (fun hc => ?_) (fun hc => ?_)
    · replace h := z_it hc h
      exact z_vret C rfl (z_ret2 h) dX11_tryWord_102
    · replace h := z_if hc h
      refine z_iload_n C dX11_tryWord_39 rfl 0 rfl ?_
      refine z_aload_n C dX11_tryWord_40 rfl 1 rfl ?_
      refine z_geti C zf_X11_338 zo_M_51 dX11_tryWord_41 ?_
      refine z_icmp_ne 102 C dX11_tryWord_44 rfl (fun hc => ?_) (fun hc => ?_)
      · replace h := z_it hc h
        refine z_aload_n C dX11_tryWord_47 rfl 1 rfl ?_
        refine z_iload_n C dX11_tryWord_48 rfl 2 rfl ?_
        obtain ⟨r49, g49, hq49, h⟩ := z_b_some h
        refine z_callVi [] C zc_X11_341 zk_M rfl (by decide) (Nat.le_of_ble_eq_true rfl) dX11_tryWord_49 rfl (wX11_isAheadOfBest ad v1 g24 r49 g49 hq49) ?_
        refine z_if_eq 102 C dX11_tryWord_52 rfl (fun hc => ?_) (fun hc => ?_)
        · replace h := z_it hc h
          exact z_vret C rfl (z_ret2 h) dX11_tryWord_102
        · replace h := z_if hc h
          refine z_loc [1, 2, 0] rfl ?_
          exact wX11_tryWord_J55 C v1 (v2 - r12) g49 h
      · replace h := z_if hc h
        exact z_vret C rfl (z_ret2 h) dX11_tryWord_102
set_option maxRecDepth 100000 in
set_option maxHeartbeats 4000000 in
theorem wX11_fresh_L96 {F : z_F} {ad : Nat → Nat} {r : Int32} {gE : z_S} (C : z_X F layM nM ad cX11_fresh RX11 7 (some .int) 4 98 (some (.int r)) gE) (k144 : Int32 → Int32 → Int32 → Int32 → z_S → Option (Int32 × z_S)) (hk144 : ∀ (v2 : Int32) (v3 : Int32) (v4 : Int32) (v5 : Int32) (g : z_S), k144 v2 v3 v4 v5 g = some (r, gE) → z_W F layM nM ad 144 [(0, .ref (ad 0)), (2, .int v2), (3, .int v3), (4, .int v4), (5, .int v5)] [] g) : ∀ (n : Nat) (v2 : Int32) (v3 : Int32) (v4 : Int32) (v5 : Int32) (v6 : Int32) (g : z_S), z_loop (fX11_fresh_B96 k144) n (v2, v3, v4, v5, v6) g = some (r, gE) → z_W F layM nM ad 96 [(0, .ref (ad 0)), (2, .int v2), (3, .int v3), (4, .int v4), (5, .int v5), (6, .int v6)] [] g := by
  intro n
  induction n with
  | zero =>
    intro v2 v3 v4 v5 v6 g h
    exact (z_loop_0 h).elim
  | succ n ih =>
    intro v2 v3 v4 v5 v6 g h
    replace h := z_loop_S h
    simp only [fX11_fresh_B96] at h
    refine z_iload C dX11_fresh_96 5 rfl ?_
    refine z_bipush C dX11_fresh_98 zcb_6 ?_
    refine z_icmp_ge 144 C dX11_fresh_100 rfl (fun hc => ?_) (fun hc => ?_)
    · replace h := z_it hc h
      refine z_loc [0, 1, 2, 3, 4] rfl ?_
      exact hk144 v2 v3 v4 v5 g h
    · replace h := z_if hc h
      refine z_iload C dX11_fresh_103 4 rfl ?_
      refine z_iload C dX11_fresh_105 5 rfl ?_
      refine z_iadd C dX11_fresh_107 ?_
      refine z_aload_n C dX11_fresh_108 rfl 0 rfl ?_
      refine z_getr C zf_X11_35 zo_M_12 dX11_fresh_109 ?_
      refine z_iload C dX11_fresh_112 3 rfl ?_
      obtain ⟨hi114, h⟩ := z_g_some h
      refine z_iald C za_M_9 (z_in_vp hi114) dX11_fresh_114 ?_
      refine z_icmp_gt 144 C dX11_fresh_115 rfl (fun hc => ?_) (fun hc => ?_)
      · replace h := z_it hc h
        refine z_loc [0, 1, 2, 3, 4] rfl ?_
        exact hk144 v2 v3 v4 v5 g h
      · replace h := z_if hc h
        refine z_aload_n C dX11_fresh_118 rfl 0 rfl ?_
        refine z_iload C dX11_fresh_119 3 rfl ?_
        refine z_iload C dX11_fresh_121 4 rfl ?_
        refine z_iload C dX11_fresh_123 5 rfl ?_
        obtain ⟨r125, g125, hq125, h⟩ := z_b_some h
        refine z_callVi [] C zc_X11_346 zk_M rfl (by decide) (Nat.le_of_ble_eq_true rfl) dX11_fresh_125 rfl (wX11_layWord ad v4 v5 v6 g r125 g125 hq125) ?_
        refine z_if_eq 138 C dX11_fresh_128 rfl (fun hc => ?_) (fun hc => ?_)
        · replace h := z_it hc h
          refine z_iinc C dX11_fresh_138 (by decide) 5 rfl (z_incl zci_1) [(6, .int (v6 + 1)), (0, .ref (ad 0)), (2, .int v2), (3, .int v3), (4, .int v4), (5, .int v5)] rfl ?_
          refine z_goto 96 C dX11_fresh_141 rfl ?_
          refine z_loc [1, 2, 3, 4, 5, 0] rfl ?_
          exact ih v2 v3 v4 v5 (v6 + 1) g125 h
        · replace h := z_if hc h
          refine z_aload_n C dX11_fresh_131 rfl 0 rfl ?_
          refine z_iload C dX11_fresh_132 5 rfl ?_
          refine z_iload_n C dX11_fresh_134 rfl 2 rfl ?_
          obtain ⟨r135, g135, hq135, h⟩ := z_b_some h
          refine z_callVv [] C zc_X11_349 zk_M rfl (by decide) (Nat.le_of_ble_eq_true rfl) dX11_fresh_135 rfl (wX11_tryWord ad v6 v3 g125 g135 hq135) ?_
          refine z_iinc C dX11_fresh_138 (by decide) 5 rfl (z_incl zci_1) [(6, .int (v6 + 1)), (0, .ref (ad 0)), (2, .int v2), (3, .int v3), (4, .int v4), (5, .int v5)] rfl ?_
          refine z_goto 96 C dX11_fresh_141 rfl ?_
          refine z_loc [1, 2, 3, 4, 5, 0] rfl ?_
          exact ih v2 v3 v4 v5 (v6 + 1) g135 h
set_option maxRecDepth 100000 in
set_option maxHeartbeats 4000000 in
theorem wX11_fresh_L81 {F : z_F} {ad : Nat → Nat} {r : Int32} {gE : z_S} (C : z_X F layM nM ad cX11_fresh RX11 7 (some .int) 4 98 (some (.int r)) gE) (k150 : Int32 → Int32 → Int32 → z_S → Option (Int32 × z_S)) (hk150 : ∀ (v2 : Int32) (v3 : Int32) (v4 : Int32) (g : z_S), k150 v2 v3 v4 g = some (r, gE) → z_W F layM nM ad 150 [(0, .ref (ad 0)), (2, .int v2), (3, .int v3), (4, .int v4)] [] g) : ∀ (n : Nat) (v2 : Int32) (v3 : Int32) (v4 : Int32) (v5 : Int32) (g : z_S), z_loop (fX11_fresh_B81 k150) n (v2, v3, v4, v5) g = some (r, gE) → z_W F layM nM ad 81 [(0, .ref (ad 0)), (2, .int v2), (3, .int v3), (4, .int v4), (5, .int v5)] [] g := by
  intro n
  induction n with
  | zero =>
    intro v2 v3 v4 v5 g h
    exact (z_loop_0 h).elim
  | succ n ih =>
    intro v2 v3 v4 v5 g h
    replace h := z_loop_S h
    simp only [fX11_fresh_B81] at h
    refine z_iload C dX11_fresh_81 4 rfl ?_
    refine z_aload_n C dX11_fresh_83 rfl 0 rfl ?_
    refine z_getr C zf_X11_35 zo_M_12 dX11_fresh_84 ?_
    refine z_iload C dX11_fresh_87 3 rfl ?_
    obtain ⟨hi89, h⟩ := z_g_some h
    refine z_iald C za_M_9 (z_in_vp hi89) dX11_fresh_89 ?_
    refine z_icmp_ge 150 C dX11_fresh_90 rfl (fun hc => ?_) (fun hc => ?_)
    · replace h := z_it hc h
      refine z_loc [0, 1, 2, 3] rfl ?_
      exact hk150 v2 v3 v4 g h
    · replace h := z_if hc h
      refine z_iconst C dX11_fresh_93 zci_2 ?_
      refine z_istore C dX11_fresh_94 (by decide) [(6, .int 2), (0, .ref (ad 0)), (2, .int v2), (3, .int v3), (4, .int v4), (5, .int v5)] rfl ?_
      refine z_loc [1, 2, 3, 4, 5, 0] rfl ?_
      refine wX11_fresh_L96 C _ ?_ zN v2 v3 v4 v5 2 g h
      · intro v2 v3 v4 v5 g h
        refine z_iinc C dX11_fresh_144 (by decide) 4 rfl (z_incl zci_1) [(5, .int (v5 + 1)), (0, .ref (ad 0)), (2, .int v2), (3, .int v3), (4, .int v4)] rfl ?_
        refine z_goto 81 C dX11_fresh_147 rfl ?_
        refine z_loc [1, 2, 3, 4, 0] rfl ?_
        exact ih v2 v3 v4 (v5 + 1) g h
set_option maxRecDepth 100000 in
set_option maxHeartbeats 4000000 in
theorem wX11_fresh_L69 {F : z_F} {ad : Nat → Nat} {r : Int32} {gE : z_S} (C : z_X F layM nM ad cX11_fresh RX11 7 (some .int) 4 98 (some (.int r)) gE) (k156 : Int32 → z_S → Option (Int32 × z_S)) (hk156 : ∀ (v2 : Int32) (g : z_S), k156 v2 g = some (r, gE) → z_W F layM nM ad 156 [(0, .ref (ad 0)), (2, .int v2)] [] g) : ∀ (n : Nat) (v2 : Int32) (v3 : Int32) (v4 : Int32) (g : z_S), z_loop (fX11_fresh_B69 k156) n (v2, v3, v4) g = some (r, gE) → z_W F layM nM ad 69 [(0, .ref (ad 0)), (2, .int v2), (3, .int v3), (4, .int v4)] [] g := by
  intro n
  induction n with
  | zero =>
    intro v2 v3 v4 g h
    exact (z_loop_0 h).elim
  | succ n ih =>
    intro v2 v3 v4 g h
    replace h := z_loop_S h
    simp only [fX11_fresh_B69] at h
    refine z_iload C dX11_fresh_69 3 rfl ?_
    refine z_aload_n C dX11_fresh_71 rfl 0 rfl ?_
    refine z_geti C zf_X11_138 zo_M_10 dX11_fresh_72 ?_
    refine z_icmp_ge 156 C dX11_fresh_75 rfl (fun hc => ?_) (fun hc => ?_)
    · replace h := z_it hc h
      refine z_loc [0, 1] rfl ?_
      exact hk156 v2 g h
    · replace h := z_if hc h
      refine z_iconst C dX11_fresh_78 zci_0 ?_
      refine z_istore C dX11_fresh_79 (by decide) [(5, .int 0), (0, .ref (ad 0)), (2, .int v2), (3, .int v3), (4, .int v4)] rfl ?_
      refine z_loc [1, 2, 3, 4, 0] rfl ?_
      refine wX11_fresh_L81 C _ ?_ zN v2 v3 v4 0 g h
      · intro v2 v3 v4 g h
        refine z_iinc C dX11_fresh_150 (by decide) 3 rfl (z_incl zci_1) [(4, .int (v4 + 1)), (0, .ref (ad 0)), (2, .int v2), (3, .int v3)] rfl ?_
        refine z_goto 69 C dX11_fresh_153 rfl ?_
        refine z_loc [1, 2, 3, 0] rfl ?_
        exact ih v2 v3 (v4 + 1) g h
set_option maxRecDepth 100000 in
set_option maxHeartbeats 4000000 in
theorem wX11_fresh (ad : Nat → Nat) (v1 : Int32) (v2 : Int32) (g : z_S) (r : Int32) (gE : z_S) (h : fX11_fresh v1 v2 g = some (r, gE)) : z_M yX11_fresh cX11_fresh 7 (some .int) 4 98 layM nM ad [.ref (ad 0), .int v1, .int v2] g (some (.int r)) gE := by
  refine z_enter (by decide) (Nat.le_of_ble_eq_true rfl) (fun F C => ?_)
  replace C : z_X F layM nM ad cX11_fresh RX11 7 (some .int) 4 98 (some (.int r)) gE := C
  show z_W F layM nM ad 0 [(0, .ref (ad 0)), (1, .int v1), (2, .int v2)] [] g
  unfold fX11_fresh at h
  refine z_iload_n C dX11_fresh_0 rfl 1 rfl ?_
  refine z_i2l C dX11_fresh_1 ?_
  refine z_lconst C dX11_fresh_2 zcl_0 ?_
  refine z_ldc2 C dX11_fresh_3 zl_X11_289 ?_
  obtain ⟨r6, g6, hq6, h⟩ := z_b_some h
  refine z_callSi [] C zc_X11_131 rfl (by decide) (Nat.le_of_ble_eq_true rfl) dX11_fresh_6 rfl (wX11_in ad ((v1).toInt64) 0 99 g r6 g6 hq6) ?_
  refine z_if_eq 24 C dX11_fresh_9 rfl (fun hc => ?_) (fun hc => ?_)
  · replace h := z_it hc h
    refine z_sipush C dX11_fresh_24 zcs_m1002 ?_
    exact z_iret C (z_ret1i h) (z_ret2 h) dX11_fresh_27
  · replace h := z_if hc h
    refine z_iload_n C dX11_fresh_12 rfl 2 rfl ?_
    refine z_i2l C dX11_fresh_13 ?_
    refine z_lconst C dX11_fresh_14 zcl_0 ?_
    refine z_ldc2 C dX11_fresh_15 zl_X11_344 ?_
    obtain ⟨r18, g18, hq18, h⟩ := z_b_some h
    refine z_callSi [] C zc_X11_131 rfl (by decide) (Nat.le_of_ble_eq_true rfl) dX11_fresh_18 rfl (wX11_in ad ((v2).toInt64) 0 6 g6 r18 g18 hq18) ?_
    refine z_if_ne 28 C dX11_fresh_21 rfl (fun hc => ?_) (fun hc => ?_)
    · replace h := z_it hc h
      refine z_sipush C dX11_fresh_24 zcs_m1002 ?_
      exact z_iret C (z_ret1i h) (z_ret2 h) dX11_fresh_27
    · replace h := z_if hc h
      refine z_aload_n C dX11_fresh_28 rfl 0 rfl ?_
      refine z_geti C zf_X11_135 zo_M_1 dX11_fresh_29 ?_
      refine z_bipush C dX11_fresh_32 zcb_16 ?_
      refine z_icmp_ne 41 C dX11_fresh_34 rfl (fun hc => ?_) (fun hc => ?_)
      · replace h := z_it hc h
        refine z_sipush C dX11_fresh_37 zcs_m1003 ?_
        exact z_iret C (z_ret1i h) (z_ret2 h) dX11_fresh_40
      · replace h := z_if hc h
        refine z_aload_n C dX11_fresh_41 rfl 0 rfl ?_
        obtain ⟨r42, g42, hq42, h⟩ := z_b_some h
        refine z_callVi [] C zc_X11_335 zk_M rfl (by decide) (Nat.le_of_ble_eq_true rfl) dX11_fresh_42 rfl (wX11_totals ad g18 r42 g42 hq42) ?_
        refine z_istore_n C dX11_fresh_45 rfl (by decide) [(3, .int r42), (0, .ref (ad 0)), (1, .int v1), (2, .int v2)] rfl ?_
        refine z_aload_n C dX11_fresh_46 rfl 1 rfl ?_
        refine z_iconst C dX11_fresh_47 zci_0 ?_
        obtain ⟨g48, eg48, h⟩ := z_s_some h
        refine z_puti C zp_X11_338 zo_M_51 rfl rfl dX11_fresh_48 ?_
        refine z_gw eg48 ?_
        refine z_aload_n C dX11_fresh_51 rfl 1 rfl ?_
        refine z_iconst C dX11_fresh_52 zci_0 ?_
        obtain ⟨g53, eg53, h⟩ := z_s_some h
        refine z_puti C zp_X11_332 zo_M_50 rfl rfl dX11_fresh_53 ?_
        refine z_gw eg53 ?_
        refine z_aload_n C dX11_fresh_56 rfl 1 rfl ?_
        refine z_getr C zf_X11_16 zo_M_4 dX11_fresh_57 ?_
        refine z_aload_n C dX11_fresh_60 rfl 1 rfl ?_
        refine z_geti C zf_X11_135 zo_M_1 dX11_fresh_61 ?_
        refine z_iload_n C dX11_fresh_64 rfl 2 rfl ?_
        obtain ⟨hi65, h⟩ := z_g_some h
        obtain ⟨g65, eg65, h⟩ := z_s_some h
        refine z_iast C za_M_3 (z_in_vp hi65) dX11_fresh_65 ?_
        refine z_gw eg65 ?_
        refine z_iconst C dX11_fresh_66 zci_0 ?_
        refine z_istore C dX11_fresh_67 (by decide) [(4, .int 0), (3, .int r42), (0, .ref (ad 0)), (1, .int v1), (2, .int v2)] rfl ?_
        refine z_loc [2, 4, 1, 0] rfl ?_
        refine wX11_fresh_L69 C _ ?_ zN v2 r42 0 g65 h
        · intro v2 g h
          refine z_aload_n C dX11_fresh_156 rfl 0 rfl ?_
          refine z_geti C zf_X11_338 zo_M_51 dX11_fresh_157 ?_
          refine z_if_ne 165 C dX11_fresh_160 rfl (fun hc => ?_) (fun hc => ?_)
          · replace h := z_it hc h
            refine z_iconst C dX11_fresh_163 zci_m1 ?_
            exact z_iret C (z_ret1i h) (z_ret2 h) dX11_fresh_164
          · replace h := z_if hc h
            refine z_iload_n C dX11_fresh_165 rfl 1 rfl ?_
            refine z_if_ne 176 C dX11_fresh_166 rfl (fun hc => ?_) (fun hc => ?_)
            · replace h := z_it hc h
              refine z_aload_n C dX11_fresh_169 rfl 0 rfl ?_
              refine z_geti C zf_X11_338 zo_M_51 dX11_fresh_170 ?_
              refine z_goto 210 C dX11_fresh_173 rfl ?_
              exact z_iret C (z_ret1i h) (z_ret2 h) dX11_fresh_210
            · replace h := z_if hc h
              refine z_iload_n C dX11_fresh_176 rfl 1 rfl ?_
              refine z_iconst C dX11_fresh_177 zci_1 ?_
              refine z_icmp_ne 188 C dX11_fresh_178 rfl (fun hc => ?_) (fun hc => ?_)
              · replace h := z_it hc h
                refine z_aload_n C dX11_fresh_181 rfl 0 rfl ?_
                refine z_geti C zf_X11_332 zo_M_50 dX11_fresh_182 ?_
                refine z_goto 210 C dX11_fresh_185 rfl ?_
                exact z_iret C (z_ret1i h) (z_ret2 h) dX11_fresh_210
              · replace h := z_if hc h
                refine z_iload_n C dX11_fresh_188 rfl 1 rfl ?_
                refine z_iconst C dX11_fresh_189 zci_2 ?_
                refine z_isub C dX11_fresh_190 ?_
                refine z_aload_n C dX11_fresh_191 rfl 0 rfl ?_
                refine z_geti C zf_X11_332 zo_M_50 dX11_fresh_192 ?_
                refine z_icmp_ge 209 C dX11_fresh_195 rfl (fun hc => ?_) (fun hc => ?_)
                · replace h := z_it hc h
                  refine z_iconst C dX11_fresh_209 zci_m1 ?_
                  exact z_iret C (z_ret1i h) (z_ret2 h) dX11_fresh_210
                · replace h := z_if hc h
                  refine z_aload_n C dX11_fresh_198 rfl 0 rfl ?_
                  refine z_getr C zf_X11_121 zo_M_49 dX11_fresh_199 ?_
                  refine z_iload_n C dX11_fresh_202 rfl 1 rfl ?_
                  refine z_iconst C dX11_fresh_203 zci_2 ?_
                  refine z_isub C dX11_fresh_204 ?_
                  obtain ⟨hi205, h⟩ := z_g_some h
                  refine z_iald C za_M_36 (z_in_vp hi205) dX11_fresh_205 ?_
                  refine z_goto 210 C dX11_fresh_206 rfl ?_
                  exact z_iret C (z_ret1i h) (z_ret2 h) dX11_fresh_210

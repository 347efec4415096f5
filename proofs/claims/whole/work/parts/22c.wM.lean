set_option maxRecDepth 100000 in
set_option maxHeartbeats 4000000 in
theorem wX11_findState_L2 {F : z_F} {ad : Nat → Nat} {r : Int32} {gE : z_S} (C : z_X F layM nM ad cX11_findState RX11 2 (some .int) 0 0 (some (.int r)) gE) : ∀ (n : Nat) (v1 : Int32) (g : z_S), z_loop fX11_findState_B2 n v1 g = some (r, gE) → z_W F layM nM ad 2 [(0, .ref (ad 0)), (1, .int v1)] [] g := by
  intro n
  induction n with
  | zero =>
    intro v1 g h
    exact (z_loop_0 h).elim
  | succ n ih =>
    intro v1 g h
    replace h := z_loop_S h
    simp only [fX11_findState_B2] at h
    refine z_iload_n C dX11_findState_2 rfl 1 rfl ?_
    refine z_aload_n C dX11_findState_3 rfl 0 rfl ?_
    refine z_geti C zf_X11_254 zo_M_34 dX11_findState_4 ?_
    refine z_icmp_ge 46 C dX11_findState_7 rfl (fun hc => ?_) (fun hc => ?_)
    · replace h := z_it hc h
      refine z_iconst C dX11_findState_46 zci_m1 ?_
      exact z_iret C (z_ret1i h) (z_ret2 h) dX11_findState_47
    · replace h := z_if hc h
      refine z_aload_n C dX11_findState_10 rfl 0 rfl ?_
      refine z_getr C zf_X11_76 zo_M_29 dX11_findState_11 ?_
      refine z_iload_n C dX11_findState_14 rfl 1 rfl ?_
      obtain ⟨hi15, h⟩ := z_g_some h
      refine z_lald C za_M_21 (z_in_vp hi15) dX11_findState_15 ?_
      refine z_aload_n C dX11_findState_16 rfl 0 rfl ?_
      refine z_getl C zf_X11_239 zo_M_35 dX11_findState_17 ?_
      refine z_lcmp_ne 40 C dX11_findState_20 dX11_findState_21 rfl (fun hc => ?_) (fun hc => ?_)
      · replace h := z_it hc h
        refine z_aload_n C dX11_findState_24 rfl 0 rfl ?_
        refine z_getr C zf_X11_79 zo_M_30 dX11_findState_25 ?_
        refine z_iload_n C dX11_findState_28 rfl 1 rfl ?_
        obtain ⟨hi29, h⟩ := z_g_some h
        refine z_lald C za_M_22 (z_in_vp hi29) dX11_findState_29 ?_
        refine z_aload_n C dX11_findState_30 rfl 0 rfl ?_
        refine z_getl C zf_X11_243 zo_M_36 dX11_findState_31 ?_
        refine z_lcmp_ne 40 C dX11_findState_34 dX11_findState_35 rfl (fun hc => ?_) (fun hc => ?_)
        · replace h := z_it hc h
          refine z_iload_n C dX11_findState_38 rfl 1 rfl ?_
          exact z_iret C (z_ret1i h) (z_ret2 h) dX11_findState_39
        · replace h := z_if hc h
          refine z_iinc C dX11_findState_40 (by decide) 1 rfl (z_incl zci_1) [(1, .int (v1 + 1)), (0, .ref (ad 0))] rfl ?_
          refine z_goto 2 C dX11_findState_43 rfl ?_
          refine z_loc [1, 0] rfl ?_
          exact ih (v1 + 1) g h
      · replace h := z_if hc h
        refine z_iinc C dX11_findState_40 (by decide) 1 rfl (z_incl zci_1) [(1, .int (v1 + 1)), (0, .ref (ad 0))] rfl ?_
        refine z_goto 2 C dX11_findState_43 rfl ?_
        refine z_loc [1, 0] rfl ?_
        exact ih (v1 + 1) g h
set_option maxRecDepth 100000 in
set_option maxHeartbeats 4000000 in
theorem wX11_findState (ad : Nat → Nat) (g : z_S) (r : Int32) (gE : z_S) (h : fX11_findState g = some (r, gE)) : z_M yX11_findState cX11_findState 2 (some .int) 0 0 layM nM ad [.ref (ad 0)] g (some (.int r)) gE := by
  refine z_enter (by decide) (Nat.le_of_ble_eq_true rfl) (fun F C => ?_)
  replace C : z_X F layM nM ad cX11_findState RX11 2 (some .int) 0 0 (some (.int r)) gE := C
  show z_W F layM nM ad 0 [(0, .ref (ad 0))] [] g
  unfold fX11_findState at h
  refine z_iconst C dX11_findState_0 zci_0 ?_
  refine z_istore_n C dX11_findState_1 rfl (by decide) [(1, .int 0), (0, .ref (ad 0))] rfl ?_
  refine z_loc [1, 0] rfl ?_
  refine wX11_findState_L2 C  zN 0 g h
set_option maxRecDepth 100000 in
set_option maxHeartbeats 4000000 in
theorem wX11_look_J141 {F : z_F} {ad : Nat → Nat} {r : Int32} {gE : z_S} (C : z_X F layM nM ad cX11_look RX11 5 (some .int) 2 50 (some (.int r)) gE) (rc : (Int32 × Int32 × Int32) → z_S → Option (Int32 × z_S)) (hrc : ∀ (v1 : Int32) (v2 : Int32) (v3 : Int32) (g : z_S), rc (v1, v2, v3) g = some (r, gE) → z_W F layM nM ad 61 [(0, .ref (ad 0)), (1, .int v1), (2, .int v2), (3, .int v3)] [] g) (v1 : Int32) (v2 : Int32) (v3 : Int32) (v4 : Int32) (g : z_S) (h : fX11_look_J141 rc v1 v2 v3 v4 g = some (r, gE)) : z_W F layM nM ad 141 [(0, .ref (ad 0)), (1, .int v1), (2, .int v2), (3, .int v3), (4, .int v4)] [] g := by
  unfold fX11_look_J141 at h
  refine z_iload C dX11_look_141 4 rfl ?_
  refine z_if_ne 181 C dX11_look_143 rfl (fun hc => ?_) (fun hc => ?_)
  · replace h := z_it hc h
    refine z_aload_n C dX11_look_146 rfl 0 rfl ?_
    obtain ⟨r147, g147, hq147, h⟩ := z_b_some h
    refine z_callVi [] C zc_X11_273 zk_M rfl (by decide) (Nat.le_of_ble_eq_true rfl) dX11_look_147 rfl (wX11_findState ad g r147 g147 hq147) ?_
    refine z_if_ge 181 C dX11_look_150 rfl (fun hc => ?_) (fun hc => ?_)
    · replace h := z_it hc h
      refine z_iinc C dX11_look_181 (by decide) 3 rfl (z_incl zci_1) [(3, .int (v3 + 1)), (0, .ref (ad 0)), (1, .int v1), (2, .int v2), (4, .int v4)] rfl ?_
      refine z_goto 61 C dX11_look_184 rfl ?_
      refine z_loc [1, 2, 3, 0] rfl ?_
      exact hrc v1 v2 (v3 + 1) g147 h
    · replace h := z_if hc h
      refine z_aload_n C dX11_look_153 rfl 0 rfl ?_
      refine z_geti C zf_X11_254 zo_M_34 dX11_look_154 ?_
      refine z_sipush C dX11_look_157 zcs_2000 ?_
      refine z_icmp_ne 167 C dX11_look_160 rfl (fun hc => ?_) (fun hc => ?_)
      · replace h := z_it hc h
        refine z_sipush C dX11_look_163 zcs_m1005 ?_
        exact z_iret C (z_ret1i h) (z_ret2 h) dX11_look_166
      · replace h := z_if hc h
        refine z_aload_n C dX11_look_167 rfl 0 rfl ?_
        refine z_iload_n C dX11_look_168 rfl 2 rfl ?_
        refine z_iload_n C dX11_look_169 rfl 3 rfl ?_
        refine z_aload_n C dX11_look_170 rfl 0 rfl ?_
        refine z_getr C zf_X11_88 zo_M_33 dX11_look_171 ?_
        refine z_iload_n C dX11_look_174 rfl 2 rfl ?_
        obtain ⟨hi175, h⟩ := z_g_some h
        refine z_iald C za_M_25 (z_in_vp hi175) dX11_look_175 ?_
        refine z_iconst C dX11_look_176 zci_1 ?_
        refine z_iadd C dX11_look_177 ?_
        obtain ⟨r178, g178, hq178, h⟩ := z_b_some h
        refine z_callVv [] C zc_X11_257 zk_M rfl (by decide) (Nat.le_of_ble_eq_true rfl) dX11_look_178 rfl (wX11_addState ad v2 v3 ((g147.1 25 (v2).toNatClampNeg) + 1) g147 g178 hq178) ?_
        refine z_iinc C dX11_look_181 (by decide) 3 rfl (z_incl zci_1) [(3, .int (v3 + 1)), (0, .ref (ad 0)), (1, .int v1), (2, .int v2), (4, .int v4)] rfl ?_
        refine z_goto 61 C dX11_look_184 rfl ?_
        refine z_loc [1, 2, 3, 0] rfl ?_
        exact hrc v1 v2 (v3 + 1) g178 h
  · replace h := z_if hc h
    refine z_iinc C dX11_look_181 (by decide) 3 rfl (z_incl zci_1) [(3, .int (v3 + 1)), (0, .ref (ad 0)), (1, .int v1), (2, .int v2), (4, .int v4)] rfl ?_
    refine z_goto 61 C dX11_look_184 rfl ?_
    refine z_loc [1, 2, 3, 0] rfl ?_
    exact hrc v1 v2 (v3 + 1) g h
set_option maxRecDepth 100000 in
set_option maxHeartbeats 4000000 in
theorem wX11_look_J98 {F : z_F} {ad : Nat → Nat} {r : Int32} {gE : z_S} (C : z_X F layM nM ad cX11_look RX11 5 (some .int) 2 50 (some (.int r)) gE) (rc : (Int32 × Int32 × Int32) → z_S → Option (Int32 × z_S)) (k122 : Int32 → Int32 → z_S → Option (Int32 × z_S)) (k130 : Int32 → Int32 → z_S → Option (Int32 × z_S)) (hrc : ∀ (v1 : Int32) (v2 : Int32) (v3 : Int32) (g : z_S), rc (v1, v2, v3) g = some (r, gE) → z_W F layM nM ad 61 [(0, .ref (ad 0)), (1, .int v1), (2, .int v2), (3, .int v3)] [] g) (hk122 : ∀ (v2 : Int32) (v3 : Int32) (g : z_S), k122 v2 v3 g = some (r, gE) → z_W F layM nM ad 122 [(0, .ref (ad 0)), (2, .int v2), (3, .int v3)] [] g) (hk130 : ∀ (v2 : Int32) (v3 : Int32) (g : z_S), k130 v2 v3 g = some (r, gE) → z_W F layM nM ad 130 [(0, .ref (ad 0)), (2, .int v2), (3, .int v3)] [] g) (v1 : Int32) (v2 : Int32) (v3 : Int32) (s0 : Int32) (g : z_S) (h : fX11_look_J98 rc k122 k130 v1 v2 v3 s0 g = some (r, gE)) : z_W F layM nM ad 98 [(0, .ref (ad 0)), (1, .int v1), (2, .int v2), (3, .int v3)] [.int s0] g := by
  unfold fX11_look_J98 at h
  refine z_istore C dX11_look_98 (by decide) [(4, .int s0), (0, .ref (ad 0)), (1, .int v1), (2, .int v2), (3, .int v3)] rfl ?_
  refine z_iload_n C dX11_look_100 rfl 2 rfl ?_
  refine z_if_eq 125 C dX11_look_101 rfl (fun hc => ?_) (fun hc => ?_)
  · replace h := z_it hc h
    refine z_iload C dX11_look_125 0 rfl ?_
    refine z_if_eq 141 C dX11_look_127 rfl (fun hc => ?_) (fun hc => ?_)
    · replace h := z_it hc h
      refine z_loc [1, 2, 3, 4, 0] rfl ?_
      exact wX11_look_J141 C _ hrc v1 v2 v3 s0 g h
    · replace h := z_if hc h
      refine z_loc [1, 3, 4] rfl ?_
      exact hk130 v2 v3 g h
  · replace h := z_if hc h
    refine z_aload_n C dX11_look_104 rfl 1 rfl ?_
    refine z_getl C zf_X11_239 zo_M_35 dX11_look_105 ?_
    refine z_lconst C dX11_look_108 zcl_1 ?_
    refine z_lcmp_ne 141 C dX11_look_109 dX11_look_110 rfl (fun hc => ?_) (fun hc => ?_)
    · replace h := z_it hc h
      refine z_aload_n C dX11_look_113 rfl 1 rfl ?_
      refine z_getl C zf_X11_243 zo_M_36 dX11_look_114 ?_
      refine z_lconst C dX11_look_117 zcl_0 ?_
      refine z_lcmp_ne 141 C dX11_look_118 dX11_look_119 rfl (fun hc => ?_) (fun hc => ?_)
      · replace h := z_it hc h
        refine z_loc [1, 3, 4] rfl ?_
        exact hk122 v2 v3 g h
      · replace h := z_if hc h
        refine z_loc [1, 2, 3, 4, 0] rfl ?_
        exact wX11_look_J141 C _ hrc v1 v2 v3 s0 g h
    · replace h := z_if hc h
      refine z_loc [1, 2, 3, 4, 0] rfl ?_
      exact wX11_look_J141 C _ hrc v1 v2 v3 s0 g h
set_option maxRecDepth 100000 in
set_option maxHeartbeats 4000000 in
theorem wX11_look_L61 {F : z_F} {ad : Nat → Nat} {r : Int32} {gE : z_S} (C : z_X F layM nM ad cX11_look RX11 5 (some .int) 2 50 (some (.int r)) gE) (k122 : Int32 → Int32 → z_S → Option (Int32 × z_S)) (k130 : Int32 → Int32 → z_S → Option (Int32 × z_S)) (k187 : Int32 → Int32 → z_S → Option (Int32 × z_S)) (hk122 : ∀ (v2 : Int32) (v3 : Int32) (g : z_S), k122 v2 v3 g = some (r, gE) → z_W F layM nM ad 122 [(0, .ref (ad 0)), (2, .int v2), (3, .int v3)] [] g) (hk130 : ∀ (v2 : Int32) (v3 : Int32) (g : z_S), k130 v2 v3 g = some (r, gE) → z_W F layM nM ad 130 [(0, .ref (ad 0)), (2, .int v2), (3, .int v3)] [] g) (hk187 : ∀ (v1 : Int32) (v2 : Int32) (g : z_S), k187 v1 v2 g = some (r, gE) → z_W F layM nM ad 187 [(0, .ref (ad 0)), (1, .int v1), (2, .int v2)] [] g) : ∀ (n : Nat) (v1 : Int32) (v2 : Int32) (v3 : Int32) (g : z_S), z_loop (fX11_look_B61 k122 k130 k187) n (v1, v2, v3) g = some (r, gE) → z_W F layM nM ad 61 [(0, .ref (ad 0)), (1, .int v1), (2, .int v2), (3, .int v3)] [] g := by
  intro n
  induction n with
  | zero =>
    intro v1 v2 v3 g h
    exact (z_loop_0 h).elim
  | succ n ih =>
    intro v1 v2 v3 g h
    replace h := z_loop_S h
    simp only [fX11_look_B61] at h
    refine z_iload_n C dX11_look_61 rfl 3 rfl ?_
    refine z_aload_n C dX11_look_62 rfl 0 rfl ?_
    refine z_geti C zf_X11_124 zo_M_0 dX11_look_63 ?_
    refine z_icmp_ge 187 C dX11_look_66 rfl (fun hc => ?_) (fun hc => ?_)
    · replace h := z_it hc h
      refine z_loc [0, 1, 2] rfl ?_
      exact hk187 v1 v2 g h
    · replace h := z_if hc h
      refine z_aload_n C dX11_look_69 rfl 0 rfl ?_
      refine z_iload_n C dX11_look_70 rfl 2 rfl ?_
      refine z_iload_n C dX11_look_71 rfl 3 rfl ?_
      obtain ⟨r72, g72, hq72, h⟩ := z_b_some h
      refine z_callVv [] C zc_X11_267 zk_M rfl (by decide) (Nat.le_of_ble_eq_true rfl) dX11_look_72 rfl (wX11_goOn ad v2 v3 g g72 hq72) ?_
      refine z_aload_n C dX11_look_75 rfl 0 rfl ?_
      refine z_getl C zf_X11_239 zo_M_35 dX11_look_76 ?_
      refine z_lconst C dX11_look_79 zcl_0 ?_
      refine z_lcmp_ne 97 C dX11_look_80 dX11_look_81 rfl (fun hc => ?_) (fun hc => ?_)
      · replace h := z_it hc h
        refine z_aload_n C dX11_look_84 rfl 0 rfl ?_
        refine z_getl C zf_X11_243 zo_M_36 dX11_look_85 ?_
        refine z_lconst C dX11_look_88 zcl_0 ?_
        refine z_lcmp_ne 97 C dX11_look_89 dX11_look_90 rfl (fun hc => ?_) (fun hc => ?_)
        · replace h := z_it hc h
          refine z_iconst C dX11_look_93 zci_1 ?_
          refine z_goto 98 C dX11_look_94 rfl ?_
          exact wX11_look_J98 C _ _ _ (fun v1 v2 v3 g h => ih v1 v2 v3 g h) hk122 hk130 v1 v2 v3 1 g72 h
        · replace h := z_if hc h
          refine z_iconst C dX11_look_97 zci_0 ?_
          exact wX11_look_J98 C _ _ _ (fun v1 v2 v3 g h => ih v1 v2 v3 g h) hk122 hk130 v1 v2 v3 0 g72 h
      · replace h := z_if hc h
        refine z_iconst C dX11_look_97 zci_0 ?_
        exact wX11_look_J98 C _ _ _ (fun v1 v2 v3 g h => ih v1 v2 v3 g h) hk122 hk130 v1 v2 v3 0 g72 h
set_option maxRecDepth 100000 in
set_option maxHeartbeats 4000000 in
theorem wX11_look_L40 {F : z_F} {ad : Nat → Nat} {r : Int32} {gE : z_S} (C : z_X F layM nM ad cX11_look RX11 5 (some .int) 2 50 (some (.int r)) gE) (k122 : Int32 → Int32 → z_S → Option (Int32 × z_S)) (k130 : Int32 → Int32 → z_S → Option (Int32 × z_S)) (hk122 : ∀ (v2 : Int32) (v3 : Int32) (g : z_S), k122 v2 v3 g = some (r, gE) → z_W F layM nM ad 122 [(0, .ref (ad 0)), (2, .int v2), (3, .int v3)] [] g) (hk130 : ∀ (v2 : Int32) (v3 : Int32) (g : z_S), k130 v2 v3 g = some (r, gE) → z_W F layM nM ad 130 [(0, .ref (ad 0)), (2, .int v2), (3, .int v3)] [] g) : ∀ (n : Nat) (v1 : Int32) (v2 : Int32) (g : z_S), z_loop (fX11_look_B40 k122 k130) n (v1, v2) g = some (r, gE) → z_W F layM nM ad 40 [(0, .ref (ad 0)), (1, .int v1), (2, .int v2)] [] g := by
  intro n
  induction n with
  | zero =>
    intro v1 v2 g h
    exact (z_loop_0 h).elim
  | succ n ih =>
    intro v1 v2 g h
    replace h := z_loop_S h
    simp only [fX11_look_B40] at h
    refine z_iload_n C dX11_look_40 rfl 2 rfl ?_
    refine z_aload_n C dX11_look_41 rfl 0 rfl ?_
    refine z_geti C zf_X11_254 zo_M_34 dX11_look_42 ?_
    refine z_icmp_ge 193 C dX11_look_45 rfl (fun hc => ?_) (fun hc => ?_)
    · replace h := z_it hc h
      refine z_iconst C dX11_look_193 zci_m1 ?_
      exact z_iret C (z_ret1i h) (z_ret2 h) dX11_look_194
    · replace h := z_if hc h
      refine z_aload_n C dX11_look_48 rfl 0 rfl ?_
      refine z_getr C zf_X11_88 zo_M_33 dX11_look_49 ?_
      refine z_iload_n C dX11_look_52 rfl 2 rfl ?_
      obtain ⟨hi53, h⟩ := z_g_some h
      refine z_iald C za_M_25 (z_in_vp hi53) dX11_look_53 ?_
      refine z_bipush C dX11_look_54 zcb_12 ?_
      refine z_icmp_ge 193 C dX11_look_56 rfl (fun hc => ?_) (fun hc => ?_)
      · replace h := z_it hc h
        refine z_iconst C dX11_look_193 zci_m1 ?_
        exact z_iret C (z_ret1i h) (z_ret2 h) dX11_look_194
      · replace h := z_if hc h
        refine z_iconst C dX11_look_59 zci_0 ?_
        refine z_istore_n C dX11_look_60 rfl (by decide) [(3, .int 0), (0, .ref (ad 0)), (1, .int v1), (2, .int v2)] rfl ?_
        refine z_loc [1, 2, 3, 0] rfl ?_
        refine wX11_look_L61 C _ _ _ ?_ ?_ ?_ zN v1 v2 0 g h
        · intro v2 v3 g h
          exact hk122 v2 v3 g h
        · intro v2 v3 g h
          exact hk130 v2 v3 g h
        · intro v1 v2 g h
          refine z_iinc C dX11_look_187 (by decide) 2 rfl (z_incl zci_1) [(2, .int (v2 + 1)), (0, .ref (ad 0)), (1, .int v1)] rfl ?_
          refine z_goto 40 C dX11_look_190 rfl ?_
          refine z_loc [1, 2, 0] rfl ?_
          exact ih v1 (v2 + 1) g h
set_option maxRecDepth 100000 in
set_option maxHeartbeats 4000000 in
theorem wX11_look_J130 {F : z_F} {ad : Nat → Nat} {r : Int32} {gE : z_S} (C : z_X F layM nM ad cX11_look RX11 5 (some .int) 2 50 (some (.int r)) gE) (v2 : Int32) (v3 : Int32) (g : z_S) (h : fX11_look_J130 v2 v3 g = some (r, gE)) : z_W F layM nM ad 130 [(0, .ref (ad 0)), (2, .int v2), (3, .int v3)] [] g := by
  unfold fX11_look_J130 at h
  refine z_aload_n C dX11_look_130 rfl 0 rfl ?_
  refine z_iload_n C dX11_look_131 rfl 1 rfl ?_
  refine z_iload_n C dX11_look_132 rfl 2 rfl ?_
  obtain ⟨r133, g133, hq133, h⟩ := z_b_some h
  refine z_callVv [] C zc_X11_270 zk_M rfl (by decide) (Nat.le_of_ble_eq_true rfl) dX11_look_133 rfl (wX11_layRow ad v2 v3 g g133 hq133) ?_
  refine z_aload_n C dX11_look_136 rfl 0 rfl ?_
  refine z_geti C zf_X11_260 zo_M_38 dX11_look_137 ?_
  exact z_iret C (z_ret1i h) (z_ret2 h) dX11_look_140
set_option maxRecDepth 100000 in
set_option maxHeartbeats 4000000 in
theorem wX11_look (ad : Nat → Nat) (v1 : Int32) (g : z_S) (r : Int32) (gE : z_S) (h : fX11_look v1 g = some (r, gE)) : z_M yX11_look cX11_look 5 (some .int) 2 50 layM nM ad [.ref (ad 0), .int v1] g (some (.int r)) gE := by
  refine z_enter (by decide) (Nat.le_of_ble_eq_true rfl) (fun F C => ?_)
  replace C : z_X F layM nM ad cX11_look RX11 5 (some .int) 2 50 (some (.int r)) gE := C
  show z_W F layM nM ad 0 [(0, .ref (ad 0)), (1, .int v1)] [] g
  unfold fX11_look at h
  refine z_aload_n C dX11_look_0 rfl 0 rfl ?_
  refine z_iconst C dX11_look_1 zci_1 ?_
  obtain ⟨r2, g2, hq2, h⟩ := z_b_some h
  refine z_callVv [] C zc_X11_263 zk_M rfl (by decide) (Nat.le_of_ble_eq_true rfl) dX11_look_2 rfl (wX11_beginStates ad 1 g g2 hq2) ?_
  refine z_aload_n C dX11_look_5 rfl 0 rfl ?_
  refine z_iconst C dX11_look_6 zci_0 ?_
  obtain ⟨g7, eg7, h⟩ := z_s_some h
  refine z_puti C zp_X11_260 zo_M_38 rfl rfl dX11_look_7 ?_
  refine z_gw eg7 ?_
  refine z_iload_n C dX11_look_10 rfl 1 rfl ?_
  refine z_if_eq 38 C dX11_look_11 rfl (fun hc => ?_) (fun hc => ?_)
  · replace h := z_it hc h
    refine z_iconst C dX11_look_38 zci_0 ?_
    refine z_istore_n C dX11_look_39 rfl (by decide) [(2, .int 0), (0, .ref (ad 0)), (1, .int v1)] rfl ?_
    refine z_loc [1, 2, 0] rfl ?_
    refine wX11_look_L40 C _ _ ?_ ?_ zN v1 0 g7 h
    · intro v2 v3 g h
      refine z_goto 130 C dX11_look_122 rfl ?_
      exact wX11_look_J130 C v2 v3 g h
    · intro v2 v3 g h
      exact wX11_look_J130 C v2 v3 g h
  · replace h := z_if hc h
    refine z_aload_n C dX11_look_14 rfl 0 rfl ?_
    refine z_getr C zf_X11_76 zo_M_29 dX11_look_15 ?_
    refine z_iconst C dX11_look_18 zci_0 ?_
    obtain ⟨hi19, h⟩ := z_g_some h
    refine z_lald C za_M_21 (z_in_vp hi19) dX11_look_19 ?_
    refine z_lconst C dX11_look_20 zcl_1 ?_
    refine z_lcmp_ne 38 C dX11_look_21 dX11_look_22 rfl (fun hc => ?_) (fun hc => ?_)
    · replace h := z_it hc h
      refine z_aload_n C dX11_look_25 rfl 0 rfl ?_
      refine z_getr C zf_X11_79 zo_M_30 dX11_look_26 ?_
      refine z_iconst C dX11_look_29 zci_0 ?_
      obtain ⟨hi30, h⟩ := z_g_some h
      refine z_lald C za_M_22 (z_in_vp hi30) dX11_look_30 ?_
      refine z_lconst C dX11_look_31 zcl_0 ?_
      refine z_lcmp_ne 38 C dX11_look_32 dX11_look_33 rfl (fun hc => ?_) (fun hc => ?_)
      · replace h := z_it hc h
        refine z_iconst C dX11_look_36 zci_0 ?_
        exact z_iret C (z_ret1i h) (z_ret2 h) dX11_look_37
      · replace h := z_if hc h
        refine z_iconst C dX11_look_38 zci_0 ?_
        refine z_istore_n C dX11_look_39 rfl (by decide) [(2, .int 0), (0, .ref (ad 0)), (1, .int v1)] rfl ?_
        refine z_loc [1, 2, 0] rfl ?_
        refine wX11_look_L40 C _ _ ?_ ?_ zN v1 0 g7 h
        · intro v2 v3 g h
          refine z_goto 130 C dX11_look_122 rfl ?_
          exact wX11_look_J130 C v2 v3 g h
        · intro v2 v3 g h
          exact wX11_look_J130 C v2 v3 g h
    · replace h := z_if hc h
      refine z_iconst C dX11_look_38 zci_0 ?_
      refine z_istore_n C dX11_look_39 rfl (by decide) [(2, .int 0), (0, .ref (ad 0)), (1, .int v1)] rfl ?_
      refine z_loc [1, 2, 0] rfl ?_
      refine wX11_look_L40 C _ _ ?_ ?_ zN v1 0 g7 h
      · intro v2 v3 g h
        refine z_goto 130 C dX11_look_122 rfl ?_
        exact wX11_look_J130 C v2 v3 g h
      · intro v2 v3 g h
        exact wX11_look_J130 C v2 v3 g h
set_option maxRecDepth 100000 in
set_option maxHeartbeats 4000000 in
theorem wX11_shortest (ad : Nat → Nat) (v1 : Int32) (v2 : Int32) (g : z_S) (r : Int32) (gE : z_S) (h : fX11_shortest v1 v2 g = some (r, gE)) : z_M yX11_shortest cX11_shortest 4 (some .int) 3 74 layM nM ad [.ref (ad 0), .int v1, .int v2] g (some (.int r)) gE := by
  refine z_enter (by decide) (Nat.le_of_ble_eq_true rfl) (fun F C => ?_)
  replace C : z_X F layM nM ad cX11_shortest RX11 4 (some .int) 3 74 (some (.int r)) gE := C
  show z_W F layM nM ad 0 [(0, .ref (ad 0)), (1, .int v1), (2, .int v2)] [] g
  unfold fX11_shortest at h
  refine z_aload_n C dX11_shortest_0 rfl 0 rfl ?_
  refine z_geti C zf_X11_135 zo_M_1 dX11_shortest_1 ?_
  refine z_if_ne 11 C dX11_shortest_4 rfl (fun hc => ?_) (fun hc => ?_)
  · replace h := z_it hc h
    refine z_sipush C dX11_shortest_7 zcs_m1003 ?_
    exact z_iret C (z_ret1i h) (z_ret2 h) dX11_shortest_10
  · replace h := z_if hc h
    refine z_aload_n C dX11_shortest_11 rfl 0 rfl ?_
    refine z_iload_n C dX11_shortest_12 rfl 1 rfl ?_
    obtain ⟨r13, g13, hq13, h⟩ := z_b_some h
    refine z_callVi [] C zc_X11_276 zk_M rfl (by decide) (Nat.le_of_ble_eq_true rfl) dX11_shortest_13 rfl (wX11_look ad v1 g r13 g13 hq13) ?_
    refine z_istore_n C dX11_shortest_16 rfl (by decide) [(3, .int r13), (0, .ref (ad 0)), (1, .int v1), (2, .int v2)] rfl ?_
    refine z_iload_n C dX11_shortest_17 rfl 0 rfl ?_
    refine z_if_lt 26 C dX11_shortest_18 rfl (fun hc => ?_) (fun hc => ?_)
    · replace h := z_it hc h
      refine z_iload_n C dX11_shortest_26 rfl 0 rfl ?_
      refine z_goto 53 C dX11_shortest_27 rfl ?_
      exact z_iret C (z_ret1i h) (z_ret2 h) dX11_shortest_53
    · replace h := z_if hc h
      refine z_iload_n C dX11_shortest_21 rfl 3 rfl ?_
      refine z_iconst C dX11_shortest_22 zci_m1 ?_
      refine z_icmp_ne 30 C dX11_shortest_23 rfl (fun hc => ?_) (fun hc => ?_)
      · replace h := z_it hc h
        refine z_iload_n C dX11_shortest_26 rfl 0 rfl ?_
        refine z_goto 53 C dX11_shortest_27 rfl ?_
        exact z_iret C (z_ret1i h) (z_ret2 h) dX11_shortest_53
      · replace h := z_if hc h
        refine z_iload_n C dX11_shortest_30 rfl 3 rfl ?_
        refine z_i2l C dX11_shortest_31 ?_
        refine z_lconst C dX11_shortest_32 zcl_0 ?_
        refine z_iload_n C dX11_shortest_33 rfl 0 rfl ?_
        refine z_iconst C dX11_shortest_34 zci_1 ?_
        refine z_isub C dX11_shortest_35 ?_
        refine z_i2l C dX11_shortest_36 ?_
        obtain ⟨r37, g37, hq37, h⟩ := z_b_some h
        refine z_callSi [] C zc_X11_131 rfl (by decide) (Nat.le_of_ble_eq_true rfl) dX11_shortest_37 rfl (wX11_in ad ((v2).toInt64) 0 ((r13 - 1).toInt64) g13 r37 g37 hq37) ?_
        refine z_if_eq 52 C dX11_shortest_40 rfl (fun hc => ?_) (fun hc => ?_)
        · replace h := z_it hc h
          refine z_iconst C dX11_shortest_52 zci_m1 ?_
          exact z_iret C (z_ret1i h) (z_ret2 h) dX11_shortest_53
        · replace h := z_if hc h
          refine z_aload_n C dX11_shortest_43 rfl 1 rfl ?_
          refine z_getr C zf_X11_91 zo_M_37 dX11_shortest_44 ?_
          refine z_iload_n C dX11_shortest_47 rfl 3 rfl ?_
          obtain ⟨hi48, h⟩ := z_g_some h
          refine z_iald C za_M_26 (z_in_vp hi48) dX11_shortest_48 ?_
          refine z_goto 53 C dX11_shortest_49 rfl ?_
          exact z_iret C (z_ret1i h) (z_ret2 h) dX11_shortest_53
set_option maxRecDepth 100000 in
set_option maxHeartbeats 4000000 in
theorem wX11_key (ad : Nat → Nat) (v1 : Int32) (g : z_S) (r : Int32) (gE : z_S) (h : fX11_key v1 g = some (r, gE)) : z_M yX11_key cX11_key 2 (some .int) 4 97 layM nM ad [.ref (ad 0), .int v1] g (some (.int r)) gE := by
  refine z_enter (by decide) (Nat.le_of_ble_eq_true rfl) (fun F C => ?_)
  replace C : z_X F layM nM ad cX11_key RX11 2 (some .int) 4 97 (some (.int r)) gE := C
  show z_W F layM nM ad 0 [(0, .ref (ad 0)), (1, .int v1)] [] g
  unfold fX11_key at h
  refine z_aload_n C dX11_key_0 rfl 0 rfl ?_
  refine z_iconst C dX11_key_1 zci_1 ?_
  refine z_iload_n C dX11_key_2 rfl 1 rfl ?_
  obtain ⟨r3, g3, hq3, h⟩ := z_b_some h
  refine z_callVi [] C zc_X11_279 zk_M rfl (by decide) (Nat.le_of_ble_eq_true rfl) dX11_key_3 rfl (wX11_shortest ad 1 v1 g r3 g3 hq3) ?_
  exact z_iret C (z_ret1i h) (z_ret2 h) dX11_key_6
set_option maxRecDepth 100000 in
set_option maxHeartbeats 4000000 in
theorem wX11_strange (ad : Nat → Nat) (v1 : Int32) (g : z_S) (r : Int32) (gE : z_S) (h : fX11_strange v1 g = some (r, gE)) : z_M yX11_strange cX11_strange 2 (some .int) 4 97 layM nM ad [.ref (ad 0), .int v1] g (some (.int r)) gE := by
  refine z_enter (by decide) (Nat.le_of_ble_eq_true rfl) (fun F C => ?_)
  replace C : z_X F layM nM ad cX11_strange RX11 2 (some .int) 4 97 (some (.int r)) gE := C
  show z_W F layM nM ad 0 [(0, .ref (ad 0)), (1, .int v1)] [] g
  unfold fX11_strange at h
  refine z_aload_n C dX11_strange_0 rfl 0 rfl ?_
  refine z_iconst C dX11_strange_1 zci_0 ?_
  refine z_iload_n C dX11_strange_2 rfl 1 rfl ?_
  obtain ⟨r3, g3, hq3, h⟩ := z_b_some h
  refine z_callVi [] C zc_X11_279 zk_M rfl (by decide) (Nat.le_of_ble_eq_true rfl) dX11_strange_3 rfl (wX11_shortest ad 0 v1 g r3 g3 hq3) ?_
  exact z_iret C (z_ret1i h) (z_ret2 h) dX11_strange_6
set_option maxRecDepth 100000 in
set_option maxHeartbeats 4000000 in
theorem wX11_ways_L35 {F : z_F} {ad : Nat → Nat} {r : Int64} {gE : z_S} (C : z_X F layM nM ad cX11_ways RX11 6 (some .long) 1 25 (some (.long r)) gE) (k82 : Int32 → Int32 → Int64 → z_S → Option (Int64 × z_S)) (hk82 : ∀ (v1 : Int32) (v2 : Int32) (v3 : Int64) (g : z_S), k82 v1 v2 v3 g = some (r, gE) → z_W F layM nM ad 82 [(0, .ref (ad 0)), (1, .int v1), (2, .int v2), (3, .long v3)] [] g) : ∀ (n : Nat) (v1 : Int32) (v2 : Int32) (v3 : Int64) (v5 : Int32) (g : z_S), z_loop (fX11_ways_B35 k82) n (v1, v2, v3, v5) g = some (r, gE) → z_W F layM nM ad 35 [(0, .ref (ad 0)), (1, .int v1), (2, .int v2), (3, .long v3), (5, .int v5)] [] g := by
  intro n
  induction n with
  | zero =>
    intro v1 v2 v3 v5 g h
    exact (z_loop_0 h).elim
  | succ n ih =>
    intro v1 v2 v3 v5 g h
    replace h := z_loop_S h
    simp only [fX11_ways_B35] at h
    refine z_iload C dX11_ways_35 4 rfl ?_
    refine z_aload_n C dX11_ways_37 rfl 0 rfl ?_
    refine z_geti C zf_X11_135 zo_M_1 dX11_ways_38 ?_
    refine z_icmp_ge 82 C dX11_ways_41 rfl (fun hc => ?_) (fun hc => ?_)
    · replace h := z_it hc h
      refine z_loc [0, 1, 2, 3] rfl ?_
      exact hk82 v1 v2 v3 g h
    · replace h := z_if hc h
      refine z_lload_n C dX11_ways_44 rfl 3 rfl ?_
      refine z_aload_n C dX11_ways_45 rfl 0 rfl ?_
      refine z_getr C zf_X11_13 zo_M_3 dX11_ways_46 ?_
      refine z_iload C dX11_ways_49 4 rfl ?_
      obtain ⟨hi51, h⟩ := z_g_some h
      refine z_iald C za_M_2 (z_in_vp hi51) dX11_ways_51 ?_
      refine z_iload_n C dX11_ways_52 rfl 2 rfl ?_
      refine z_icmp_gt 73 C dX11_ways_53 rfl (fun hc => ?_) (fun hc => ?_)
      · replace h := z_it hc h
        refine z_lconst C dX11_ways_73 zcl_0 ?_
        refine z_ladd C dX11_ways_74 ?_
        refine z_lstore_n C dX11_ways_75 rfl (by decide) [(3, .long (v3 + 0)), (0, .ref (ad 0)), (1, .int v1), (2, .int v2), (5, .int v5)] rfl ?_
        refine z_iinc C dX11_ways_76 (by decide) 4 rfl (z_incl zci_1) [(5, .int (v5 + 1)), (3, .long (v3 + 0)), (0, .ref (ad 0)), (1, .int v1), (2, .int v2)] rfl ?_
        refine z_goto 35 C dX11_ways_79 rfl ?_
        refine z_loc [2, 3, 4, 1, 0] rfl ?_
        exact ih v1 v2 (v3 + 0) (v5 + 1) g h
      · replace h := z_if hc h
        refine z_aload_n C dX11_ways_56 rfl 0 rfl ?_
        refine z_getr C zf_X11_94 zo_M_39 dX11_ways_57 ?_
        refine z_iload_n C dX11_ways_60 rfl 2 rfl ?_
        refine z_aload_n C dX11_ways_61 rfl 0 rfl ?_
        refine z_getr C zf_X11_13 zo_M_3 dX11_ways_62 ?_
        refine z_iload C dX11_ways_65 4 rfl ?_
        obtain ⟨hi67, h⟩ := z_g_some h
        refine z_iald C za_M_2 (z_in_vp hi67) dX11_ways_67 ?_
        refine z_isub C dX11_ways_68 ?_
        obtain ⟨hi69, h⟩ := z_g_some h
        refine z_lald C za_M_27 (z_in_vp hi69) dX11_ways_69 ?_
        refine z_goto 74 C dX11_ways_70 rfl ?_
        refine z_ladd C dX11_ways_74 ?_
        refine z_lstore_n C dX11_ways_75 rfl (by decide) [(3, .long (v3 + (g.2 27 (v2 - (g.1 2 (v5).toNatClampNeg)).toNatClampNeg))), (0, .ref (ad 0)), (1, .int v1), (2, .int v2), (5, .int v5)] rfl ?_
        refine z_iinc C dX11_ways_76 (by decide) 4 rfl (z_incl zci_1) [(5, .int (v5 + 1)), (3, .long (v3 + (g.2 27 (v2 - (g.1 2 (v5).toNatClampNeg)).toNatClampNeg))), (0, .ref (ad 0)), (1, .int v1), (2, .int v2)] rfl ?_
        refine z_goto 35 C dX11_ways_79 rfl ?_
        refine z_loc [2, 3, 4, 1, 0] rfl ?_
        exact ih v1 v2 (v3 + (g.2 27 (v2 - (g.1 2 (v5).toNatClampNeg)).toNatClampNeg)) (v5 + 1) g h
set_option maxRecDepth 100000 in
set_option maxHeartbeats 4000000 in
theorem wX11_ways_L25 {F : z_F} {ad : Nat → Nat} {r : Int64} {gE : z_S} (C : z_X F layM nM ad cX11_ways RX11 6 (some .long) 1 25 (some (.long r)) gE) (k109 : Int32 → z_S → Option (Int64 × z_S)) (hk109 : ∀ (v1 : Int32) (g : z_S), k109 v1 g = some (r, gE) → z_W F layM nM ad 109 [(0, .ref (ad 0)), (1, .int v1)] [] g) : ∀ (n : Nat) (v1 : Int32) (v2 : Int32) (g : z_S), z_loop (fX11_ways_B25 k109) n (v1, v2) g = some (r, gE) → z_W F layM nM ad 25 [(0, .ref (ad 0)), (1, .int v1), (2, .int v2)] [] g := by
  intro n
  induction n with
  | zero =>
    intro v1 v2 g h
    exact (z_loop_0 h).elim
  | succ n ih =>
    intro v1 v2 g h
    replace h := z_loop_S h
    simp only [fX11_ways_B25] at h
    refine z_iload_n C dX11_ways_25 rfl 2 rfl ?_
    refine z_iload_n C dX11_ways_26 rfl 1 rfl ?_
    refine z_icmp_gt 109 C dX11_ways_27 rfl (fun hc => ?_) (fun hc => ?_)
    · replace h := z_it hc h
      refine z_loc [0, 1] rfl ?_
      exact hk109 v1 g h
    · replace h := z_if hc h
      refine z_lconst C dX11_ways_30 zcl_0 ?_
      refine z_lstore_n C dX11_ways_31 rfl (by decide) [(3, .long 0), (0, .ref (ad 0)), (1, .int v1), (2, .int v2)] rfl ?_
      refine z_iconst C dX11_ways_32 zci_0 ?_
      refine z_istore C dX11_ways_33 (by decide) [(5, .int 0), (3, .long 0), (0, .ref (ad 0)), (1, .int v1), (2, .int v2)] rfl ?_
      refine z_loc [2, 3, 4, 1, 0] rfl ?_
      refine wX11_ways_L35 C _ ?_ zN v1 v2 0 0 g h
      · intro v1 v2 v3 g h
        refine z_aload_n C dX11_ways_82 rfl 0 rfl ?_
        refine z_getr C zf_X11_94 zo_M_39 dX11_ways_83 ?_
        refine z_iload_n C dX11_ways_86 rfl 2 rfl ?_
        refine z_lload_n C dX11_ways_87 rfl 3 rfl ?_
        refine z_ldc2 C dX11_ways_88 zl_X11_199 ?_
        refine z_lcmp_le 101 C dX11_ways_91 dX11_ways_92 rfl (fun hc => ?_) (fun hc => ?_)
        · replace h := z_it hc h
          refine z_lload_n C dX11_ways_101 rfl 3 rfl ?_
          obtain ⟨hi102, h⟩ := z_g_some h
          obtain ⟨g102, eg102, h⟩ := z_s_some h
          refine z_last C za_M_27 (z_in_vp hi102) dX11_ways_102 ?_
          refine z_gw eg102 ?_
          refine z_iinc C dX11_ways_103 (by decide) 2 rfl (z_incl zci_1) [(2, .int (v2 + 1)), (0, .ref (ad 0)), (1, .int v1), (3, .long v3)] rfl ?_
          refine z_goto 25 C dX11_ways_106 rfl ?_
          refine z_loc [1, 2, 0] rfl ?_
          exact ih v1 (v2 + 1) g102 h
        · replace h := z_if hc h
          refine z_ldc2 C dX11_ways_95 zl_X11_199 ?_
          refine z_goto 102 C dX11_ways_98 rfl ?_
          obtain ⟨hi102, h⟩ := z_g_some h
          obtain ⟨g102, eg102, h⟩ := z_s_some h
          refine z_last C za_M_27 (z_in_vp hi102) dX11_ways_102 ?_
          refine z_gw eg102 ?_
          refine z_iinc C dX11_ways_103 (by decide) 2 rfl (z_incl zci_1) [(2, .int (v2 + 1)), (0, .ref (ad 0)), (1, .int v1), (3, .long v3)] rfl ?_
          refine z_goto 25 C dX11_ways_106 rfl ?_
          refine z_loc [1, 2, 0] rfl ?_
          exact ih v1 (v2 + 1) g102 h
set_option maxRecDepth 100000 in
set_option maxHeartbeats 4000000 in
theorem wX11_ways (ad : Nat → Nat) (v1 : Int32) (g : z_S) (r : Int64) (gE : z_S) (h : fX11_ways v1 g = some (r, gE)) : z_M yX11_ways cX11_ways 6 (some .long) 1 25 layM nM ad [.ref (ad 0), .int v1] g (some (.long r)) gE := by
  refine z_enter (by decide) (Nat.le_of_ble_eq_true rfl) (fun F C => ?_)
  replace C : z_X F layM nM ad cX11_ways RX11 6 (some .long) 1 25 (some (.long r)) gE := C
  show z_W F layM nM ad 0 [(0, .ref (ad 0)), (1, .int v1)] [] g
  unfold fX11_ways at h
  refine z_iload_n C dX11_ways_0 rfl 1 rfl ?_
  refine z_i2l C dX11_ways_1 ?_
  refine z_lconst C dX11_ways_2 zcl_0 ?_
  refine z_ldc2 C dX11_ways_3 zl_X11_283 ?_
  obtain ⟨r6, g6, hq6, h⟩ := z_b_some h
  refine z_callSi [] C zc_X11_131 rfl (by decide) (Nat.le_of_ble_eq_true rfl) dX11_ways_6 rfl (wX11_in ad ((v1).toInt64) 0 40 g r6 g6 hq6) ?_
  refine z_if_ne 16 C dX11_ways_9 rfl (fun hc => ?_) (fun hc => ?_)
  · replace h := z_it hc h
    refine z_ldc2 C dX11_ways_12 zl_X11_285 ?_
    exact z_lret C (z_ret1l h) (z_ret2 h) dX11_ways_15
  · replace h := z_if hc h
    refine z_aload_n C dX11_ways_16 rfl 0 rfl ?_
    refine z_getr C zf_X11_94 zo_M_39 dX11_ways_17 ?_
    refine z_iconst C dX11_ways_20 zci_0 ?_
    refine z_lconst C dX11_ways_21 zcl_1 ?_
    obtain ⟨hi22, h⟩ := z_g_some h
    obtain ⟨g22, eg22, h⟩ := z_s_some h
    refine z_last C za_M_27 (z_in_vp hi22) dX11_ways_22 ?_
    refine z_gw eg22 ?_
    refine z_iconst C dX11_ways_23 zci_1 ?_
    refine z_istore_n C dX11_ways_24 rfl (by decide) [(2, .int 1), (0, .ref (ad 0)), (1, .int v1)] rfl ?_
    refine z_loc [1, 2, 0] rfl ?_
    refine wX11_ways_L25 C _ ?_ zN v1 1 g22 h
    · intro v1 g h
      refine z_aload_n C dX11_ways_109 rfl 0 rfl ?_
      refine z_getr C zf_X11_94 zo_M_39 dX11_ways_110 ?_
      refine z_iload_n C dX11_ways_113 rfl 1 rfl ?_
      obtain ⟨hi114, h⟩ := z_g_some h
      refine z_lald C za_M_27 (z_in_vp hi114) dX11_ways_114 ?_
      refine z_ldc2 C dX11_ways_115 zl_X11_222 ?_
      refine z_lcmp_le 128 C dX11_ways_118 dX11_ways_119 rfl (fun hc => ?_) (fun hc => ?_)
      · replace h := z_it hc h
        refine z_aload_n C dX11_ways_128 rfl 0 rfl ?_
        refine z_getr C zf_X11_94 zo_M_39 dX11_ways_129 ?_
        refine z_iload_n C dX11_ways_132 rfl 1 rfl ?_
        obtain ⟨hi133, h⟩ := z_g_some h
        refine z_lald C za_M_27 (z_in_vp hi133) dX11_ways_133 ?_
        exact z_lret C (z_ret1l h) (z_ret2 h) dX11_ways_134
      · replace h := z_if hc h
        refine z_ldc2 C dX11_ways_122 zl_X11_224 ?_
        refine z_goto 134 C dX11_ways_125 rfl ?_
        exact z_lret C (z_ret1l h) (z_ret2 h) dX11_ways_134
set_option maxRecDepth 100000 in
set_option maxHeartbeats 4000000 in
theorem wX11_rows_J44 {F : z_F} {ad : Nat → Nat} {r : Int64} {gE : z_S} (C : z_X F layM nM ad cX11_rows RX11 7 (some .long) 2 50 (some (.long r)) gE) (rc : (Int32 × Int32) → z_S → Option (Int64 × z_S)) (hrc : ∀ (v1 : Int32) (v2 : Int32) (g : z_S), rc (v1, v2) g = some (r, gE) → z_W F layM nM ad 23 [(0, .ref (ad 0)), (1, .int v1), (2, .int v2)] [] g) (v1 : Int32) (v2 : Int32) (s0 : Int32) (s1 : Int32) (g : z_S) (h : fX11_rows_J44 rc v1 v2 s0 s1 g = some (r, gE)) : z_W F layM nM ad 44 [(0, .ref (ad 0)), (1, .int v1), (2, .int v2)] [.int s0, .int s1, .ref (ad 28)] g := by
  unfold fX11_rows_J44 at h
  obtain ⟨r44, g44, hq44, h⟩ := z_b_some h
  refine z_callSi [.int s1, .ref (ad 28)] C zc_X11_195 rfl (by decide) (Nat.le_of_ble_eq_true rfl) dX11_rows_44 rfl (wX11_one ad s0 g r44 g44 hq44) ?_
  refine z_i2l C dX11_rows_47 ?_
  obtain ⟨hi48, h⟩ := z_g_some h
  obtain ⟨g48, eg48, h⟩ := z_s_some h
  refine z_last C za_M_28 (z_in_vp hi48) dX11_rows_48 ?_
  refine z_gw eg48 ?_
  refine z_iinc C dX11_rows_49 (by decide) 2 rfl (z_incl zci_1) [(2, .int (v2 + 1)), (0, .ref (ad 0)), (1, .int v1)] rfl ?_
  refine z_goto 23 C dX11_rows_52 rfl ?_
  refine z_loc [1, 2, 0] rfl ?_
  exact hrc v1 (v2 + 1) g48 h
set_option maxRecDepth 100000 in
set_option maxHeartbeats 4000000 in
theorem wX11_rows_L23 {F : z_F} {ad : Nat → Nat} {r : Int64} {gE : z_S} (C : z_X F layM nM ad cX11_rows RX11 7 (some .long) 2 50 (some (.long r)) gE) (k55 : Int32 → z_S → Option (Int64 × z_S)) (hk55 : ∀ (v1 : Int32) (g : z_S), k55 v1 g = some (r, gE) → z_W F layM nM ad 55 [(0, .ref (ad 0)), (1, .int v1)] [] g) : ∀ (n : Nat) (v1 : Int32) (v2 : Int32) (g : z_S), z_loop (fX11_rows_B23 k55) n (v1, v2) g = some (r, gE) → z_W F layM nM ad 23 [(0, .ref (ad 0)), (1, .int v1), (2, .int v2)] [] g := by
  intro n
  induction n with
  | zero =>
    intro v1 v2 g h
    exact (z_loop_0 h).elim
  | succ n ih =>
    intro v1 v2 g h
    replace h := z_loop_S h
    simp only [fX11_rows_B23] at h
    refine z_iload_n C dX11_rows_23 rfl 2 rfl ?_
    refine z_sipush C dX11_rows_24 zcs_2000 ?_
    refine z_icmp_gt 55 C dX11_rows_27 rfl (fun hc => ?_) (fun hc => ?_)
    · replace h := z_it hc h
      refine z_loc [0, 1] rfl ?_
      exact hk55 v1 g h
    · replace h := z_if hc h
      refine z_aload_n C dX11_rows_30 rfl 0 rfl ?_
      refine z_getr C zf_X11_97 zo_M_40 dX11_rows_31 ?_
      refine z_iload_n C dX11_rows_34 rfl 2 rfl ?_
      refine z_iload_n C dX11_rows_35 rfl 2 rfl ?_
      refine z_if_ne 43 C dX11_rows_36 rfl (fun hc => ?_) (fun hc => ?_)
      · replace h := z_it hc h
        refine z_iconst C dX11_rows_39 zci_1 ?_
        refine z_goto 44 C dX11_rows_40 rfl ?_
        exact wX11_rows_J44 C _ (fun v1 v2 g h => ih v1 v2 g h) v1 v2 1 v2 g h
      · replace h := z_if hc h
        refine z_iconst C dX11_rows_43 zci_0 ?_
        exact wX11_rows_J44 C _ (fun v1 v2 g h => ih v1 v2 g h) v1 v2 0 v2 g h
set_option maxRecDepth 100000 in
set_option maxHeartbeats 4000000 in
theorem wX11_rows_L70 {F : z_F} {ad : Nat → Nat} {r : Int64} {gE : z_S} (C : z_X F layM nM ad cX11_rows RX11 7 (some .long) 2 50 (some (.long r)) gE) (k92 : Int32 → Int32 → Int32 → z_S → Option (Int64 × z_S)) (hk92 : ∀ (v1 : Int32) (v2 : Int32) (v3 : Int32) (g : z_S), k92 v1 v2 v3 g = some (r, gE) → z_W F layM nM ad 92 [(0, .ref (ad 0)), (1, .int v1), (2, .int v2), (3, .int v3)] [] g) : ∀ (n : Nat) (v1 : Int32) (v2 : Int32) (v3 : Int32) (v4 : Int32) (g : z_S), z_loop (fX11_rows_B70 k92) n (v1, v2, v3, v4) g = some (r, gE) → z_W F layM nM ad 70 [(0, .ref (ad 0)), (1, .int v1), (2, .int v2), (3, .int v3), (4, .int v4)] [] g := by
  intro n
  induction n with
  | zero =>
    intro v1 v2 v3 v4 g h
    exact (z_loop_0 h).elim
  | succ n ih =>
    intro v1 v2 v3 v4 g h
    replace h := z_loop_S h
    simp only [fX11_rows_B70] at h
    refine z_iload C dX11_rows_70 4 rfl ?_
    refine z_sipush C dX11_rows_72 zcs_2000 ?_
    refine z_icmp_gt 92 C dX11_rows_75 rfl (fun hc => ?_) (fun hc => ?_)
    · replace h := z_it hc h
      refine z_loc [0, 1, 2, 3] rfl ?_
      exact hk92 v1 v2 v3 g h
    · replace h := z_if hc h
      refine z_aload_n C dX11_rows_78 rfl 0 rfl ?_
      refine z_getr C zf_X11_100 zo_M_41 dX11_rows_79 ?_
      refine z_iload C dX11_rows_82 4 rfl ?_
      refine z_lconst C dX11_rows_84 zcl_0 ?_
      obtain ⟨hi85, h⟩ := z_g_some h
      obtain ⟨g85, eg85, h⟩ := z_s_some h
      refine z_last C za_M_29 (z_in_vp hi85) dX11_rows_85 ?_
      refine z_gw eg85 ?_
      refine z_iinc C dX11_rows_86 (by decide) 4 rfl (z_incl zci_1) [(4, .int (v4 + 1)), (0, .ref (ad 0)), (1, .int v1), (2, .int v2), (3, .int v3)] rfl ?_
      refine z_goto 70 C dX11_rows_89 rfl ?_
      refine z_loc [1, 2, 3, 4, 0] rfl ?_
      exact ih v1 v2 v3 (v4 + 1) g85 h
set_option maxRecDepth 100000 in
set_option maxHeartbeats 4000000 in
theorem wX11_rows_J193 {F : z_F} {ad : Nat → Nat} {r : Int64} {gE : z_S} (C : z_X F layM nM ad cX11_rows RX11 7 (some .long) 2 50 (some (.long r)) gE) (rc : (Int32 × Int32 × Int32 × Int32 × Int32) → z_S → Option (Int64 × z_S)) (hrc : ∀ (v1 : Int32) (v2 : Int32) (v3 : Int32) (v4 : Int32) (v5 : Int32) (g : z_S), rc (v1, v2, v3, v4, v5) g = some (r, gE) → z_W F layM nM ad 104 [(0, .ref (ad 0)), (1, .int v1), (2, .int v2), (3, .int v3), (4, .int v4), (5, .int v5)] [] g) (v1 : Int32) (v2 : Int32) (v3 : Int32) (v4 : Int32) (v5 : Int32) (v6 : Int32) (g : z_S) (h : fX11_rows_J193 rc v1 v2 v3 v4 v5 v6 g = some (r, gE)) : z_W F layM nM ad 193 [(0, .ref (ad 0)), (1, .int v1), (2, .int v2), (3, .int v3), (4, .int v4), (5, .int v5), (6, .int v6)] [] g := by
  unfold fX11_rows_J193 at h
  refine z_aload_n C dX11_rows_193 rfl 0 rfl ?_
  refine z_getr C zf_X11_100 zo_M_41 dX11_rows_194 ?_
  refine z_iload C dX11_rows_197 6 rfl ?_
  refine z_aload_n C dX11_rows_199 rfl 0 rfl ?_
  refine z_getr C zf_X11_100 zo_M_41 dX11_rows_200 ?_
  refine z_iload C dX11_rows_203 6 rfl ?_
  obtain ⟨hi205, h⟩ := z_g_some h
  refine z_lald C za_M_29 (z_in_vp hi205) dX11_rows_205 ?_
  refine z_aload_n C dX11_rows_206 rfl 0 rfl ?_
  refine z_getr C zf_X11_97 zo_M_40 dX11_rows_207 ?_
  refine z_iload C dX11_rows_210 4 rfl ?_
  obtain ⟨hi212, h⟩ := z_g_some h
  refine z_lald C za_M_28 (z_in_vp hi212) dX11_rows_212 ?_
  refine z_ladd C dX11_rows_213 ?_
  obtain ⟨hi214, h⟩ := z_g_some h
  obtain ⟨g214, eg214, h⟩ := z_s_some h
  refine z_last C za_M_29 (z_in_vp hi214) dX11_rows_214 ?_
  refine z_gw eg214 ?_
  refine z_iinc C dX11_rows_215 (by decide) 5 rfl (z_incl zci_1) [(5, .int (v5 + 1)), (0, .ref (ad 0)), (1, .int v1), (2, .int v2), (3, .int v3), (4, .int v4), (6, .int v6)] rfl ?_
  refine z_goto 104 C dX11_rows_218 rfl ?_
  refine z_loc [1, 2, 3, 4, 5, 0] rfl ?_
  exact hrc v1 v2 v3 v4 (v5 + 1) g214 h
set_option maxRecDepth 100000 in
set_option maxHeartbeats 4000000 in
theorem wX11_rows_J151 {F : z_F} {ad : Nat → Nat} {r : Int64} {gE : z_S} (C : z_X F layM nM ad cX11_rows RX11 7 (some .long) 2 50 (some (.long r)) gE) (rc : (Int32 × Int32 × Int32 × Int32 × Int32) → z_S → Option (Int64 × z_S)) (hrc : ∀ (v1 : Int32) (v2 : Int32) (v3 : Int32) (v4 : Int32) (v5 : Int32) (g : z_S), rc (v1, v2, v3, v4, v5) g = some (r, gE) → z_W F layM nM ad 104 [(0, .ref (ad 0)), (1, .int v1), (2, .int v2), (3, .int v3), (4, .int v4), (5, .int v5)] [] g) (v1 : Int32) (v2 : Int32) (v3 : Int32) (v4 : Int32) (v5 : Int32) (g : z_S) (h : fX11_rows_J151 rc v1 v2 v3 v4 v5 g = some (r, gE)) : z_W F layM nM ad 151 [(0, .ref (ad 0)), (1, .int v1), (2, .int v2), (3, .int v3), (4, .int v4), (5, .int v5)] [] g := by
  unfold fX11_rows_J151 at h
  refine z_aload_n C dX11_rows_151 rfl 0 rfl ?_
  obtain ⟨r152, g152, hq152, h⟩ := z_b_some h
  refine z_callVi [] C zc_X11_273 zk_M rfl (by decide) (Nat.le_of_ble_eq_true rfl) dX11_rows_152 rfl (wX11_findState ad g r152 g152 hq152) ?_
  refine z_istore C dX11_rows_155 (by decide) [(6, .int r152), (0, .ref (ad 0)), (1, .int v1), (2, .int v2), (3, .int v3), (4, .int v4), (5, .int v5)] rfl ?_
  refine z_iload C dX11_rows_157 0 rfl ?_
  refine z_if_ge 193 C dX11_rows_159 rfl (fun hc => ?_) (fun hc => ?_)
  · replace h := z_it hc h
    refine z_loc [1, 2, 3, 4, 5, 6, 0] rfl ?_
    exact wX11_rows_J193 C _ hrc v1 v2 v3 v4 v5 r152 g152 h
  · replace h := z_if hc h
    refine z_aload_n C dX11_rows_162 rfl 1 rfl ?_
    refine z_geti C zf_X11_254 zo_M_34 dX11_rows_163 ?_
    refine z_sipush C dX11_rows_166 zcs_2000 ?_
    refine z_icmp_ne 176 C dX11_rows_169 rfl (fun hc => ?_) (fun hc => ?_)
    · replace h := z_it hc h
      refine z_ldc2 C dX11_rows_172 zl_X11_224 ?_
      exact z_lret C (z_ret1l h) (z_ret2 h) dX11_rows_175
    · replace h := z_if hc h
      refine z_aload_n C dX11_rows_176 rfl 1 rfl ?_
      refine z_geti C zf_X11_254 zo_M_34 dX11_rows_177 ?_
      refine z_istore C dX11_rows_180 (by decide) [(6, .int (g152.1 0 34)), (0, .ref (ad 0)), (1, .int v1), (2, .int v2), (3, .int v3), (4, .int v4), (5, .int v5)] rfl ?_
      refine z_aload_n C dX11_rows_182 rfl 1 rfl ?_
      refine z_iload C dX11_rows_183 5 rfl ?_
      refine z_iload C dX11_rows_185 6 rfl ?_
      refine z_iload_n C dX11_rows_187 rfl 3 rfl ?_
      refine z_iconst C dX11_rows_188 zci_1 ?_
      refine z_iadd C dX11_rows_189 ?_
      obtain ⟨r190, g190, hq190, h⟩ := z_b_some h
      refine z_callVv [] C zc_X11_257 zk_M rfl (by decide) (Nat.le_of_ble_eq_true rfl) dX11_rows_190 rfl (wX11_addState ad v4 v5 (v2 + 1) g152 g190 hq190) ?_
      refine z_loc [1, 2, 3, 4, 5, 6, 0] rfl ?_
      exact wX11_rows_J193 C _ hrc v1 v2 v3 v4 v5 (g152.1 0 34) g190 h
set_option maxRecDepth 100000 in
set_option maxHeartbeats 4000000 in
theorem wX11_rows_L104 {F : z_F} {ad : Nat → Nat} {r : Int64} {gE : z_S} (C : z_X F layM nM ad cX11_rows RX11 7 (some .long) 2 50 (some (.long r)) gE) (k221 : Int32 → Int32 → Int32 → Int32 → z_S → Option (Int64 × z_S)) (hk221 : ∀ (v1 : Int32) (v2 : Int32) (v3 : Int32) (v4 : Int32) (g : z_S), k221 v1 v2 v3 v4 g = some (r, gE) → z_W F layM nM ad 221 [(0, .ref (ad 0)), (1, .int v1), (2, .int v2), (3, .int v3), (4, .int v4)] [] g) : ∀ (n : Nat) (v1 : Int32) (v2 : Int32) (v3 : Int32) (v4 : Int32) (v5 : Int32) (g : z_S), z_loop (fX11_rows_B104 k221) n (v1, v2, v3, v4, v5) g = some (r, gE) → z_W F layM nM ad 104 [(0, .ref (ad 0)), (1, .int v1), (2, .int v2), (3, .int v3), (4, .int v4), (5, .int v5)] [] g := by
  intro n
  induction n with
  | zero =>
    intro v1 v2 v3 v4 v5 g h
    exact (z_loop_0 h).elim
  | succ n ih =>
    intro v1 v2 v3 v4 v5 g h
    replace h := z_loop_S h
    simp only [fX11_rows_B104] at h
    refine z_iload C dX11_rows_104 5 rfl ?_
    refine z_aload_n C dX11_rows_106 rfl 0 rfl ?_
    refine z_geti C zf_X11_124 zo_M_0 dX11_rows_107 ?_
    refine z_icmp_ge 221 C dX11_rows_110 rfl (fun hc => ?_) (fun hc => ?_)
    · replace h := z_it hc h
      refine z_loc [0, 1, 2, 3, 4] rfl ?_
      exact hk221 v1 v2 v3 v4 g h
    · replace h := z_if hc h
      refine z_aload_n C dX11_rows_113 rfl 0 rfl ?_
      refine z_getr C zf_X11_97 zo_M_40 dX11_rows_114 ?_
      refine z_iload C dX11_rows_117 4 rfl ?_
      obtain ⟨hi119, h⟩ := z_g_some h
      refine z_lald C za_M_28 (z_in_vp hi119) dX11_rows_119 ?_
      refine z_lconst C dX11_rows_120 zcl_0 ?_
      refine z_lcmp_le 221 C dX11_rows_121 dX11_rows_122 rfl (fun hc => ?_) (fun hc => ?_)
      · replace h := z_it hc h
        refine z_loc [0, 1, 2, 3, 4] rfl ?_
        exact hk221 v1 v2 v3 v4 g h
      · replace h := z_if hc h
        refine z_aload_n C dX11_rows_125 rfl 0 rfl ?_
        refine z_iload C dX11_rows_126 4 rfl ?_
        refine z_iload C dX11_rows_128 5 rfl ?_
        obtain ⟨r130, g130, hq130, h⟩ := z_b_some h
        refine z_callVv [] C zc_X11_267 zk_M rfl (by decide) (Nat.le_of_ble_eq_true rfl) dX11_rows_130 rfl (wX11_goOn ad v4 v5 g g130 hq130) ?_
        refine z_aload_n C dX11_rows_133 rfl 0 rfl ?_
        refine z_getl C zf_X11_239 zo_M_35 dX11_rows_134 ?_
        refine z_lconst C dX11_rows_137 zcl_0 ?_
        refine z_lcmp_ne 151 C dX11_rows_138 dX11_rows_139 rfl (fun hc => ?_) (fun hc => ?_)
        · replace h := z_it hc h
          refine z_aload_n C dX11_rows_142 rfl 0 rfl ?_
          refine z_getl C zf_X11_243 zo_M_36 dX11_rows_143 ?_
          refine z_lconst C dX11_rows_146 zcl_0 ?_
          refine z_lcmp_eq 215 C dX11_rows_147 dX11_rows_148 rfl (fun hc => ?_) (fun hc => ?_)
          · replace h := z_it hc h
            refine z_iinc C dX11_rows_215 (by decide) 5 rfl (z_incl zci_1) [(5, .int (v5 + 1)), (0, .ref (ad 0)), (1, .int v1), (2, .int v2), (3, .int v3), (4, .int v4)] rfl ?_
            refine z_goto 104 C dX11_rows_218 rfl ?_
            refine z_loc [1, 2, 3, 4, 5, 0] rfl ?_
            exact ih v1 v2 v3 v4 (v5 + 1) g130 h
          · replace h := z_if hc h
            exact wX11_rows_J151 C _ (fun v1 v2 v3 v4 v5 g h => ih v1 v2 v3 v4 v5 g h) v1 v2 v3 v4 v5 g130 h
        · replace h := z_if hc h
          exact wX11_rows_J151 C _ (fun v1 v2 v3 v4 v5 g h => ih v1 v2 v3 v4 v5 g h) v1 v2 v3 v4 v5 g130 h
set_option maxRecDepth 100000 in
set_option maxHeartbeats 4000000 in
theorem wX11_rows_L95 {F : z_F} {ad : Nat → Nat} {r : Int64} {gE : z_S} (C : z_X F layM nM ad cX11_rows RX11 7 (some .long) 2 50 (some (.long r)) gE) (k227 : Int32 → Int32 → z_S → Option (Int64 × z_S)) (hk227 : ∀ (v1 : Int32) (v2 : Int32) (g : z_S), k227 v1 v2 g = some (r, gE) → z_W F layM nM ad 227 [(0, .ref (ad 0)), (1, .int v1), (2, .int v2)] [] g) : ∀ (n : Nat) (v1 : Int32) (v2 : Int32) (v3 : Int32) (v4 : Int32) (g : z_S), z_loop (fX11_rows_B95 k227) n (v1, v2, v3, v4) g = some (r, gE) → z_W F layM nM ad 95 [(0, .ref (ad 0)), (1, .int v1), (2, .int v2), (3, .int v3), (4, .int v4)] [] g := by
  intro n
  induction n with
  | zero =>
    intro v1 v2 v3 v4 g h
    exact (z_loop_0 h).elim
  | succ n ih =>
    intro v1 v2 v3 v4 g h
    replace h := z_loop_S h
    simp only [fX11_rows_B95] at h
    refine z_iload C dX11_rows_95 4 rfl ?_
    refine z_iload_n C dX11_rows_97 rfl 3 rfl ?_
    refine z_icmp_ge 227 C dX11_rows_98 rfl (fun hc => ?_) (fun hc => ?_)
    · replace h := z_it hc h
      refine z_loc [0, 1, 2] rfl ?_
      exact hk227 v1 v2 g h
    · replace h := z_if hc h
      refine z_iconst C dX11_rows_101 zci_0 ?_
      refine z_istore C dX11_rows_102 (by decide) [(5, .int 0), (0, .ref (ad 0)), (1, .int v1), (2, .int v2), (3, .int v3), (4, .int v4)] rfl ?_
      refine z_loc [1, 2, 3, 4, 5, 0] rfl ?_
      refine wX11_rows_L104 C _ ?_ zN v1 v2 v3 v4 0 g h
      · intro v1 v2 v3 v4 g h
        refine z_iinc C dX11_rows_221 (by decide) 4 rfl (z_incl zci_1) [(4, .int (v4 + 1)), (0, .ref (ad 0)), (1, .int v1), (2, .int v2), (3, .int v3)] rfl ?_
        refine z_goto 95 C dX11_rows_224 rfl ?_
        refine z_loc [1, 2, 3, 4, 0] rfl ?_
        exact ih v1 v2 v3 (v4 + 1) g h
set_option maxRecDepth 100000 in
set_option maxHeartbeats 4000000 in
theorem wX11_rows_L230 {F : z_F} {ad : Nat → Nat} {r : Int64} {gE : z_S} (C : z_X F layM nM ad cX11_rows RX11 7 (some .long) 2 50 (some (.long r)) gE) (k258 : Int32 → Int32 → z_S → Option (Int64 × z_S)) (hk258 : ∀ (v1 : Int32) (v2 : Int32) (g : z_S), k258 v1 v2 g = some (r, gE) → z_W F layM nM ad 258 [(0, .ref (ad 0)), (1, .int v1), (2, .int v2)] [] g) : ∀ (n : Nat) (v1 : Int32) (v2 : Int32) (v4 : Int32) (g : z_S), z_loop (fX11_rows_B230 k258) n (v1, v2, v4) g = some (r, gE) → z_W F layM nM ad 230 [(0, .ref (ad 0)), (1, .int v1), (2, .int v2), (4, .int v4)] [] g := by
  intro n
  induction n with
  | zero =>
    intro v1 v2 v4 g h
    exact (z_loop_0 h).elim
  | succ n ih =>
    intro v1 v2 v4 g h
    replace h := z_loop_S h
    simp only [fX11_rows_B230] at h
    refine z_iload C dX11_rows_230 3 rfl ?_
    refine z_sipush C dX11_rows_232 zcs_2000 ?_
    refine z_icmp_gt 258 C dX11_rows_235 rfl (fun hc => ?_) (fun hc => ?_)
    · replace h := z_it hc h
      refine z_loc [0, 1, 2] rfl ?_
      exact hk258 v1 v2 g h
    · replace h := z_if hc h
      refine z_aload_n C dX11_rows_238 rfl 0 rfl ?_
      refine z_getr C zf_X11_97 zo_M_40 dX11_rows_239 ?_
      refine z_iload C dX11_rows_242 3 rfl ?_
      refine z_aload_n C dX11_rows_244 rfl 0 rfl ?_
      refine z_getr C zf_X11_100 zo_M_41 dX11_rows_245 ?_
      refine z_iload C dX11_rows_248 3 rfl ?_
      obtain ⟨hi250, h⟩ := z_g_some h
      refine z_lald C za_M_29 (z_in_vp hi250) dX11_rows_250 ?_
      obtain ⟨hi251, h⟩ := z_g_some h
      obtain ⟨g251, eg251, h⟩ := z_s_some h
      refine z_last C za_M_28 (z_in_vp hi251) dX11_rows_251 ?_
      refine z_gw eg251 ?_
      refine z_iinc C dX11_rows_252 (by decide) 3 rfl (z_incl zci_1) [(4, .int (v4 + 1)), (0, .ref (ad 0)), (1, .int v1), (2, .int v2)] rfl ?_
      refine z_goto 230 C dX11_rows_255 rfl ?_
      refine z_loc [1, 2, 3, 0] rfl ?_
      exact ih v1 v2 (v4 + 1) g251 h
set_option maxRecDepth 100000 in
set_option maxHeartbeats 4000000 in
theorem wX11_rows_L57 {F : z_F} {ad : Nat → Nat} {r : Int64} {gE : z_S} (C : z_X F layM nM ad cX11_rows RX11 7 (some .long) 2 50 (some (.long r)) gE) (k264 : z_S → Option (Int64 × z_S)) (hk264 : ∀ (g : z_S), k264 g = some (r, gE) → z_W F layM nM ad 264 [(0, .ref (ad 0))] [] g) : ∀ (n : Nat) (v1 : Int32) (v2 : Int32) (g : z_S), z_loop (fX11_rows_B57 k264) n (v1, v2) g = some (r, gE) → z_W F layM nM ad 57 [(0, .ref (ad 0)), (1, .int v1), (2, .int v2)] [] g := by
  intro n
  induction n with
  | zero =>
    intro v1 v2 g h
    exact (z_loop_0 h).elim
  | succ n ih =>
    intro v1 v2 g h
    replace h := z_loop_S h
    simp only [fX11_rows_B57] at h
    refine z_iload_n C dX11_rows_57 rfl 2 rfl ?_
    refine z_iload_n C dX11_rows_58 rfl 1 rfl ?_
    refine z_icmp_ge 264 C dX11_rows_59 rfl (fun hc => ?_) (fun hc => ?_)
    · replace h := z_it hc h
      refine z_loc [0] rfl ?_
      exact hk264 g h
    · replace h := z_if hc h
      refine z_aload_n C dX11_rows_62 rfl 0 rfl ?_
      refine z_geti C zf_X11_254 zo_M_34 dX11_rows_63 ?_
      refine z_istore_n C dX11_rows_66 rfl (by decide) [(3, .int (g.1 0 34)), (0, .ref (ad 0)), (1, .int v1), (2, .int v2)] rfl ?_
      refine z_iconst C dX11_rows_67 zci_0 ?_
      refine z_istore C dX11_rows_68 (by decide) [(4, .int 0), (3, .int (g.1 0 34)), (0, .ref (ad 0)), (1, .int v1), (2, .int v2)] rfl ?_
      refine z_loc [2, 3, 4, 1, 0] rfl ?_
      refine wX11_rows_L70 C _ ?_ zN v1 v2 (g.1 0 34) 0 g h
      · intro v1 v2 v3 g h
        refine z_iconst C dX11_rows_92 zci_0 ?_
        refine z_istore C dX11_rows_93 (by decide) [(4, .int 0), (0, .ref (ad 0)), (1, .int v1), (2, .int v2), (3, .int v3)] rfl ?_
        refine z_loc [1, 2, 3, 4, 0] rfl ?_
        refine wX11_rows_L95 C _ ?_ zN v1 v2 v3 0 g h
        · intro v1 v2 g h
          refine z_iconst C dX11_rows_227 zci_0 ?_
          refine z_istore C dX11_rows_228 (by decide) [(4, .int 0), (0, .ref (ad 0)), (1, .int v1), (2, .int v2)] rfl ?_
          refine z_loc [1, 2, 3, 0] rfl ?_
          refine wX11_rows_L230 C _ ?_ zN v1 v2 0 g h
          · intro v1 v2 g h
            refine z_iinc C dX11_rows_258 (by decide) 2 rfl (z_incl zci_1) [(2, .int (v2 + 1)), (0, .ref (ad 0)), (1, .int v1)] rfl ?_
            refine z_goto 57 C dX11_rows_261 rfl ?_
            refine z_loc [1, 2, 0] rfl ?_
            exact ih v1 (v2 + 1) g h
set_option maxRecDepth 100000 in
set_option maxHeartbeats 4000000 in
theorem wX11_rows_L269 {F : z_F} {ad : Nat → Nat} {r : Int64} {gE : z_S} (C : z_X F layM nM ad cX11_rows RX11 7 (some .long) 2 50 (some (.long r)) gE) (k312 : Int64 → z_S → Option (Int64 × z_S)) (hk312 : ∀ (v2 : Int64) (g : z_S), k312 v2 g = some (r, gE) → z_W F layM nM ad 312 [(2, .long v2)] [] g) : ∀ (n : Nat) (v2 : Int64) (v4 : Int32) (g : z_S), z_loop (fX11_rows_B269 k312) n (v2, v4) g = some (r, gE) → z_W F layM nM ad 269 [(0, .ref (ad 0)), (2, .long v2), (4, .int v4)] [] g := by
  intro n
  induction n with
  | zero =>
    intro v2 v4 g h
    exact (z_loop_0 h).elim
  | succ n ih =>
    intro v2 v4 g h
    replace h := z_loop_S h
    simp only [fX11_rows_B269] at h
    refine z_iload C dX11_rows_269 2 rfl ?_
    refine z_aload_n C dX11_rows_271 rfl 0 rfl ?_
    refine z_geti C zf_X11_254 zo_M_34 dX11_rows_272 ?_
    refine z_icmp_ge 312 C dX11_rows_275 rfl (fun hc => ?_) (fun hc => ?_)
    · replace h := z_it hc h
      refine z_loc [1] rfl ?_
      exact hk312 v2 g h
    · replace h := z_if hc h
      refine z_lload_n C dX11_rows_278 rfl 1 rfl ?_
      refine z_aload_n C dX11_rows_279 rfl 0 rfl ?_
      refine z_getr C zf_X11_76 zo_M_29 dX11_rows_280 ?_
      refine z_iload C dX11_rows_283 2 rfl ?_
      obtain ⟨hi285, h⟩ := z_g_some h
      refine z_lald C za_M_21 (z_in_vp hi285) dX11_rows_285 ?_
      refine z_lconst C dX11_rows_286 zcl_1 ?_
      refine z_land C dX11_rows_287 ?_
      refine z_lconst C dX11_rows_288 zcl_1 ?_
      refine z_lcmp_ne 303 C dX11_rows_289 dX11_rows_290 rfl (fun hc => ?_) (fun hc => ?_)
      · replace h := z_it hc h
        refine z_aload_n C dX11_rows_293 rfl 0 rfl ?_
        refine z_getr C zf_X11_97 zo_M_40 dX11_rows_294 ?_
        refine z_iload C dX11_rows_297 2 rfl ?_
        obtain ⟨hi299, h⟩ := z_g_some h
        refine z_lald C za_M_28 (z_in_vp hi299) dX11_rows_299 ?_
        refine z_goto 304 C dX11_rows_300 rfl ?_
        refine z_ladd C dX11_rows_304 ?_
        refine z_lstore_n C dX11_rows_305 rfl (by decide) [(2, .long (v2 + (g.2 28 (v4).toNatClampNeg))), (0, .ref (ad 0)), (4, .int v4)] rfl ?_
        refine z_iinc C dX11_rows_306 (by decide) 2 rfl (z_incl zci_1) [(4, .int (v4 + 1)), (2, .long (v2 + (g.2 28 (v4).toNatClampNeg))), (0, .ref (ad 0))] rfl ?_
        refine z_goto 269 C dX11_rows_309 rfl ?_
        refine z_loc [2, 1, 0] rfl ?_
        exact ih (v2 + (g.2 28 (v4).toNatClampNeg)) (v4 + 1) g h
      · replace h := z_if hc h
        refine z_lconst C dX11_rows_303 zcl_0 ?_
        refine z_ladd C dX11_rows_304 ?_
        refine z_lstore_n C dX11_rows_305 rfl (by decide) [(2, .long (v2 + 0)), (0, .ref (ad 0)), (4, .int v4)] rfl ?_
        refine z_iinc C dX11_rows_306 (by decide) 2 rfl (z_incl zci_1) [(4, .int (v4 + 1)), (2, .long (v2 + 0)), (0, .ref (ad 0))] rfl ?_
        refine z_goto 269 C dX11_rows_309 rfl ?_
        refine z_loc [2, 1, 0] rfl ?_
        exact ih (v2 + 0) (v4 + 1) g h
set_option maxRecDepth 100000 in
set_option maxHeartbeats 4000000 in
theorem wX11_rows (ad : Nat → Nat) (v1 : Int32) (g : z_S) (r : Int64) (gE : z_S) (h : fX11_rows v1 g = some (r, gE)) : z_M yX11_rows cX11_rows 7 (some .long) 2 50 layM nM ad [.ref (ad 0), .int v1] g (some (.long r)) gE := by
  refine z_enter (by decide) (Nat.le_of_ble_eq_true rfl) (fun F C => ?_)
  replace C : z_X F layM nM ad cX11_rows RX11 7 (some .long) 2 50 (some (.long r)) gE := C
  show z_W F layM nM ad 0 [(0, .ref (ad 0)), (1, .int v1)] [] g
  unfold fX11_rows at h
  refine z_iload_n C dX11_rows_0 rfl 1 rfl ?_
  refine z_i2l C dX11_rows_1 ?_
  refine z_lconst C dX11_rows_2 zcl_0 ?_
  refine z_ldc2 C dX11_rows_3 zl_X11_287 ?_
  obtain ⟨r6, g6, hq6, h⟩ := z_b_some h
  refine z_callSi [] C zc_X11_131 rfl (by decide) (Nat.le_of_ble_eq_true rfl) dX11_rows_6 rfl (wX11_in ad ((v1).toInt64) 0 20 g r6 g6 hq6) ?_
  refine z_if_ne 16 C dX11_rows_9 rfl (fun hc => ?_) (fun hc => ?_)
  · replace h := z_it hc h
    refine z_ldc2 C dX11_rows_12 zl_X11_285 ?_
    exact z_lret C (z_ret1l h) (z_ret2 h) dX11_rows_15
  · replace h := z_if hc h
    refine z_aload_n C dX11_rows_16 rfl 0 rfl ?_
    refine z_iconst C dX11_rows_17 zci_0 ?_
    obtain ⟨r18, g18, hq18, h⟩ := z_b_some h
    refine z_callVv [] C zc_X11_263 zk_M rfl (by decide) (Nat.le_of_ble_eq_true rfl) dX11_rows_18 rfl (wX11_beginStates ad 0 g6 g18 hq18) ?_
    refine z_iconst C dX11_rows_21 zci_0 ?_
    refine z_istore_n C dX11_rows_22 rfl (by decide) [(2, .int 0), (0, .ref (ad 0)), (1, .int v1)] rfl ?_
    refine z_loc [1, 2, 0] rfl ?_
    refine wX11_rows_L23 C _ ?_ zN v1 0 g18 h
    · intro v1 g h
      refine z_iconst C dX11_rows_55 zci_0 ?_
      refine z_istore_n C dX11_rows_56 rfl (by decide) [(2, .int 0), (0, .ref (ad 0)), (1, .int v1)] rfl ?_
      refine z_loc [1, 2, 0] rfl ?_
      refine wX11_rows_L57 C _ ?_ zN v1 0 g h
      · intro g h
        refine z_lconst C dX11_rows_264 zcl_0 ?_
        refine z_lstore_n C dX11_rows_265 rfl (by decide) [(2, .long 0), (0, .ref (ad 0))] rfl ?_
        refine z_iconst C dX11_rows_266 zci_0 ?_
        refine z_istore C dX11_rows_267 (by decide) [(4, .int 0), (2, .long 0), (0, .ref (ad 0))] rfl ?_
        refine z_loc [2, 1, 0] rfl ?_
        refine wX11_rows_L269 C _ ?_ zN 0 0 g h
        · intro v2 g h
          refine z_lload_n C dX11_rows_312 rfl 0 rfl ?_
          refine z_ldc2 C dX11_rows_313 zl_X11_222 ?_
          refine z_lcmp_le 326 C dX11_rows_316 dX11_rows_317 rfl (fun hc => ?_) (fun hc => ?_)
          · replace h := z_it hc h
            refine z_lload_n C dX11_rows_326 rfl 0 rfl ?_
            exact z_lret C (z_ret1l h) (z_ret2 h) dX11_rows_327
          · replace h := z_if hc h
            refine z_ldc2 C dX11_rows_320 zl_X11_224 ?_
            refine z_goto 327 C dX11_rows_323 rfl ?_
            exact z_lret C (z_ret1l h) (z_ret2 h) dX11_rows_327
set_option maxRecDepth 100000 in
set_option maxHeartbeats 4000000 in
theorem wX11_price (ad : Nat → Nat) (v1 : Int32) (v2 : Int32) (g : z_S) (r : Int32) (gE : z_S) (h : fX11_price v1 v2 g = some (r, gE)) : z_M yX11_price cX11_price 4 (some .int) 1 25 layM nM ad [.ref (ad 0), .int v1, .int v2] g (some (.int r)) gE := by
  refine z_enter (by decide) (Nat.le_of_ble_eq_true rfl) (fun F C => ?_)
  replace C : z_X F layM nM ad cX11_price RX11 4 (some .int) 1 25 (some (.int r)) gE := C
  show z_W F layM nM ad 0 [(0, .ref (ad 0)), (1, .int v1), (2, .int v2)] [] g
  unfold fX11_price at h
  refine z_iload_n C dX11_price_0 rfl 1 rfl ?_
  refine z_i2l C dX11_price_1 ?_
  refine z_lconst C dX11_price_2 zcl_0 ?_
  refine z_ldc2 C dX11_price_3 zl_X11_127 ?_
  obtain ⟨r6, g6, hq6, h⟩ := z_b_some h
  refine z_callSi [] C zc_X11_131 rfl (by decide) (Nat.le_of_ble_eq_true rfl) dX11_price_6 rfl (wX11_in ad ((v1).toInt64) 0 2 g r6 g6 hq6) ?_
  refine z_if_eq 24 C dX11_price_9 rfl (fun hc => ?_) (fun hc => ?_)
  · replace h := z_it hc h
    refine z_sipush C dX11_price_24 zcs_m1002 ?_
    exact z_iret C (z_ret1i h) (z_ret2 h) dX11_price_27
  · replace h := z_if hc h
    refine z_iload_n C dX11_price_12 rfl 2 rfl ?_
    refine z_i2l C dX11_price_13 ?_
    refine z_lconst C dX11_price_14 zcl_0 ?_
    refine z_ldc2 C dX11_price_15 zl_X11_289 ?_
    obtain ⟨r18, g18, hq18, h⟩ := z_b_some h
    refine z_callSi [] C zc_X11_131 rfl (by decide) (Nat.le_of_ble_eq_true rfl) dX11_price_18 rfl (wX11_in ad ((v2).toInt64) 0 99 g6 r18 g18 hq18) ?_
    refine z_if_ne 28 C dX11_price_21 rfl (fun hc => ?_) (fun hc => ?_)
    · replace h := z_it hc h
      refine z_sipush C dX11_price_24 zcs_m1002 ?_
      exact z_iret C (z_ret1i h) (z_ret2 h) dX11_price_27
    · replace h := z_if hc h
      refine z_aload_n C dX11_price_28 rfl 0 rfl ?_
      refine z_getr C zf_X11_26 zo_M_7 dX11_price_29 ?_
      refine z_iload_n C dX11_price_32 rfl 1 rfl ?_
      obtain ⟨hi33, h⟩ := z_g_some h
      refine z_iald C za_M_6 (z_in_vp hi33) dX11_price_33 ?_
      refine z_istore_n C dX11_price_34 rfl (by decide) [(3, .int (g18.1 6 (v1).toNatClampNeg)), (0, .ref (ad 0)), (1, .int v1), (2, .int v2)] rfl ?_
      refine z_aload_n C dX11_price_35 rfl 1 rfl ?_
      refine z_getr C zf_X11_26 zo_M_7 dX11_price_36 ?_
      refine z_iload_n C dX11_price_39 rfl 2 rfl ?_
      refine z_iload_n C dX11_price_40 rfl 3 rfl ?_
      obtain ⟨hi41, h⟩ := z_g_some h
      obtain ⟨g41, eg41, h⟩ := z_s_some h
      refine z_iast C za_M_6 (z_in_vp hi41) dX11_price_41 ?_
      refine z_gw eg41 ?_
      refine z_iload_n C dX11_price_42 rfl 0 rfl ?_
      exact z_iret C (z_ret1i h) (z_ret2 h) dX11_price_43
set_option maxRecDepth 100000 in
set_option maxHeartbeats 4000000 in
theorem wX11_least (ad : Nat → Nat) (v0 : Int64) (v2 : Int64) (g : z_S) (r : Int64) (gE : z_S) (h : fX11_least v0 v2 g = some (r, gE)) : z_M yX11_least cX11_least 4 (some .long) 0 0 layM nM ad [.long v0, .long v2] g (some (.long r)) gE := by
  refine z_enter (by decide) (Nat.le_of_ble_eq_true rfl) (fun F C => ?_)
  replace C : z_X F layM nM ad cX11_least RX11 4 (some .long) 0 0 (some (.long r)) gE := C
  show z_W F layM nM ad 0 [(0, .long v0), (2, .long v2)] [] g
  unfold fX11_least at h
  refine z_lload_n C dX11_least_0 rfl 0 rfl ?_
  refine z_lload_n C dX11_least_1 rfl 1 rfl ?_
  refine z_lcmp_ge 10 C dX11_least_2 dX11_least_3 rfl (fun hc => ?_) (fun hc => ?_)
  · replace h := z_it hc h
    refine z_lload_n C dX11_least_10 rfl 1 rfl ?_
    exact z_lret C (z_ret1l h) (z_ret2 h) dX11_least_11
  · replace h := z_if hc h
    refine z_lload_n C dX11_least_6 rfl 0 rfl ?_
    refine z_goto 11 C dX11_least_7 rfl ?_
    exact z_lret C (z_ret1l h) (z_ret2 h) dX11_least_11
set_option maxRecDepth 100000 in
set_option maxHeartbeats 4000000 in
theorem wX11_mistake (ad : Nat → Nat) (v1 : Int32) (g : z_S) (r : Int64) (gE : z_S) (h : fX11_mistake v1 g = some (r, gE)) : z_M yX11_mistake cX11_mistake 2 (some .long) 0 0 layM nM ad [.ref (ad 0), .int v1] g (some (.long r)) gE := by
  refine z_enter (by decide) (Nat.le_of_ble_eq_true rfl) (fun F C => ?_)
  replace C : z_X F layM nM ad cX11_mistake RX11 2 (some .long) 0 0 (some (.long r)) gE := C
  show z_W F layM nM ad 0 [(0, .ref (ad 0)), (1, .int v1)] [] g
  unfold fX11_mistake at h
  refine z_aload_n C dX11_mistake_0 rfl 0 rfl ?_
  refine z_getr C zf_X11_26 zo_M_7 dX11_mistake_1 ?_
  refine z_iload_n C dX11_mistake_4 rfl 1 rfl ?_
  obtain ⟨hi5, h⟩ := z_g_some h
  refine z_iald C za_M_6 (z_in_vp hi5) dX11_mistake_5 ?_
  refine z_i2l C dX11_mistake_6 ?_
  refine z_ldc2 C dX11_mistake_7 zl_X11_291 ?_
  refine z_lmul C dX11_mistake_10 ?_
  refine z_lconst C dX11_mistake_11 zcl_1 ?_
  refine z_ladd C dX11_mistake_12 ?_
  exact z_lret C (z_ret1l h) (z_ret2 h) dX11_mistake_13
set_option maxRecDepth 100000 in
set_option maxHeartbeats 4000000 in
theorem wX11_settle_L25 {F : z_F} {ad : Nat → Nat} {gE : z_S} (C : z_X F layM nM ad cX11_settle RX11 8 none 1 23 none gE) (k75 : Int32 → Int32 → Int64 → z_S → Option (Unit × z_S)) (hk75 : ∀ (v1 : Int32) (v2 : Int32) (v3 : Int64) (g : z_S), k75 v1 v2 v3 g = some ((), gE) → z_W F layM nM ad 75 [(0, .ref (ad 0)), (1, .int v1), (2, .int v2), (3, .long v3)] [] g) : ∀ (n : Nat) (v1 : Int32) (v2 : Int32) (v3 : Int64) (v5 : Int32) (g : z_S), z_loop (fX11_settle_B25 k75) n (v1, v2, v3, v5) g = some ((), gE) → z_W F layM nM ad 25 [(0, .ref (ad 0)), (1, .int v1), (2, .int v2), (3, .long v3), (5, .int v5)] [] g := by
  intro n
  induction n with
  | zero =>
    intro v1 v2 v3 v5 g h
    exact (z_loop_0 h).elim
  | succ n ih =>
    intro v1 v2 v3 v5 g h
    replace h := z_loop_S h
    simp only [fX11_settle_B25] at h
    refine z_iload C dX11_settle_25 4 rfl ?_
    refine z_iconst C dX11_settle_27 zci_4 ?_
    refine z_icmp_gt 75 C dX11_settle_28 rfl (fun hc => ?_) (fun hc => ?_)
    · replace h := z_it hc h
      refine z_loc [0, 1, 2, 3] rfl ?_
      exact hk75 v1 v2 v3 g h
    · replace h := z_if hc h
      refine z_aload_n C dX11_settle_31 rfl 0 rfl ?_
      refine z_iload C dX11_settle_32 4 rfl ?_
      refine z_iload_n C dX11_settle_34 rfl 2 rfl ?_
      obtain ⟨r35, g35, hq35, h⟩ := z_b_some h
      refine z_callVi [] C zc_X11_209 zk_M rfl (by decide) (Nat.le_of_ble_eq_true rfl) dX11_settle_35 rfl (wX11_mayFollow ad v5 v2 g r35 g35 hq35) ?_
      refine z_if_eq 67 C dX11_settle_38 rfl (fun hc => ?_) (fun hc => ?_)
      · replace h := z_it hc h
        refine z_lload_n C dX11_settle_67 rfl 3 rfl ?_
        refine z_lstore_n C dX11_settle_68 rfl (by decide) [(3, .long v3), (0, .ref (ad 0)), (1, .int v1), (2, .int v2), (5, .int v5)] rfl ?_
        refine z_iinc C dX11_settle_69 (by decide) 4 rfl (z_incl zci_1) [(5, .int (v5 + 1)), (3, .long v3), (0, .ref (ad 0)), (1, .int v1), (2, .int v2)] rfl ?_
        refine z_goto 25 C dX11_settle_72 rfl ?_
        refine z_loc [2, 3, 4, 1, 0] rfl ?_
        exact ih v1 v2 v3 (v5 + 1) g35 h
      · replace h := z_if hc h
        refine z_lload_n C dX11_settle_41 rfl 3 rfl ?_
        refine z_aload_n C dX11_settle_42 rfl 0 rfl ?_
        refine z_getr C zf_X11_103 zo_M_42 dX11_settle_43 ?_
        refine z_iload C dX11_settle_46 4 rfl ?_
        obtain ⟨hi48, h⟩ := z_g_some h
        refine z_lald C za_M_30 (z_in_vp hi48) dX11_settle_48 ?_
        refine z_aload_n C dX11_settle_49 rfl 0 rfl ?_
        refine z_getr C zf_X11_16 zo_M_4 dX11_settle_50 ?_
        refine z_iload_n C dX11_settle_53 rfl 2 rfl ?_
        obtain ⟨hi54, h⟩ := z_g_some h
        refine z_iald C za_M_3 (z_in_vp hi54) dX11_settle_54 ?_
        refine z_i2l C dX11_settle_55 ?_
        refine z_ldc2 C dX11_settle_56 zl_X11_291 ?_
        refine z_lmul C dX11_settle_59 ?_
        refine z_ladd C dX11_settle_60 ?_
        obtain ⟨r61, g61, hq61, h⟩ := z_b_some h
        refine z_callSl [] C zc_X11_295 rfl (by decide) (Nat.le_of_ble_eq_true rfl) dX11_settle_61 rfl (wX11_least ad v3 ((g35.2 30 (v5).toNatClampNeg) + (((g35.1 3 (v2).toNatClampNeg).toInt64) * 100000)) g35 r61 g61 hq61) ?_
        refine z_goto 68 C dX11_settle_64 rfl ?_
        refine z_lstore_n C dX11_settle_68 rfl (by decide) [(3, .long r61), (0, .ref (ad 0)), (1, .int v1), (2, .int v2), (5, .int v5)] rfl ?_
        refine z_iinc C dX11_settle_69 (by decide) 4 rfl (z_incl zci_1) [(5, .int (v5 + 1)), (3, .long r61), (0, .ref (ad 0)), (1, .int v1), (2, .int v2)] rfl ?_
        refine z_goto 25 C dX11_settle_72 rfl ?_
        refine z_loc [2, 3, 4, 1, 0] rfl ?_
        exact ih v1 v2 r61 (v5 + 1) g61 h
set_option maxRecDepth 100000 in
set_option maxHeartbeats 4000000 in
theorem wX11_settle_L100 {F : z_F} {ad : Nat → Nat} {gE : z_S} (C : z_X F layM nM ad cX11_settle RX11 8 none 1 23 none gE) (k218 : Int32 → Int32 → z_S → Option (Unit × z_S)) (hk218 : ∀ (v1 : Int32) (v2 : Int32) (g : z_S), k218 v1 v2 g = some ((), gE) → z_W F layM nM ad 218 [(0, .ref (ad 0)), (1, .int v1), (2, .int v2)] [] g) : ∀ (n : Nat) (v1 : Int32) (v2 : Int32) (v5 : Int32) (g : z_S), z_loop (fX11_settle_B100 k218) n (v1, v2, v5) g = some ((), gE) → z_W F layM nM ad 100 [(0, .ref (ad 0)), (1, .int v1), (2, .int v2), (5, .int v5)] [] g := by
  intro n
  induction n with
  | zero =>
    intro v1 v2 v5 g h
    exact (z_loop_0 h).elim
  | succ n ih =>
    intro v1 v2 v5 g h
    replace h := z_loop_S h
    simp only [fX11_settle_B100] at h
    refine z_iload C dX11_settle_100 3 rfl ?_
    refine z_aload_n C dX11_settle_102 rfl 0 rfl ?_
    refine z_getr C zf_X11_13 zo_M_3 dX11_settle_103 ?_
    refine z_iload_n C dX11_settle_106 rfl 2 rfl ?_
    obtain ⟨hi107, h⟩ := z_g_some h
    refine z_iald C za_M_2 (z_in_vp hi107) dX11_settle_107 ?_
    refine z_icmp_ge 218 C dX11_settle_108 rfl (fun hc => ?_) (fun hc => ?_)
    · replace h := z_it hc h
      refine z_loc [0, 1, 2] rfl ?_
      exact hk218 v1 v2 g h
    · replace h := z_if hc h
      refine z_aload_n C dX11_settle_111 rfl 0 rfl ?_
      refine z_getr C zf_X11_106 zo_M_43 dX11_settle_112 ?_
      refine z_bipush C dX11_settle_115 zcb_8 ?_
      refine z_iload_n C dX11_settle_117 rfl 2 rfl ?_
      refine z_imul C dX11_settle_118 ?_
      refine z_iload C dX11_settle_119 3 rfl ?_
      refine z_iadd C dX11_settle_121 ?_
      obtain ⟨hi122, h⟩ := z_g_some h
      refine z_lald C za_M_31 (z_in_vp hi122) dX11_settle_122 ?_
      refine z_aload_n C dX11_settle_123 rfl 0 rfl ?_
      refine z_iconst C dX11_settle_124 zci_1 ?_
      obtain ⟨r125, g125, hq125, h⟩ := z_b_some h
      refine z_callVl [.long (g.2 31 ((8 * v2) + v5).toNatClampNeg)] C zc_X11_299 zk_M rfl (by decide) (Nat.le_of_ble_eq_true rfl) dX11_settle_125 rfl (wX11_mistake ad 1 g r125 g125 hq125) ?_
      refine z_ladd C dX11_settle_128 ?_
      refine z_lstore C dX11_settle_129 (by decide) [(6, .long ((g.2 31 ((8 * v2) + v5).toNatClampNeg) + r125)), (0, .ref (ad 0)), (1, .int v1), (2, .int v2), (5, .int v5)] rfl ?_
      refine z_iload C dX11_settle_131 4 rfl ?_
      refine z_iconst C dX11_settle_133 zci_1 ?_
      refine z_iadd C dX11_settle_134 ?_
      refine z_aload_n C dX11_settle_135 rfl 1 rfl ?_
      refine z_getr C zf_X11_13 zo_M_3 dX11_settle_136 ?_
      refine z_iload_n C dX11_settle_139 rfl 3 rfl ?_
      obtain ⟨hi140, h⟩ := z_g_some h
      refine z_iald C za_M_2 (z_in_vp hi140) dX11_settle_140 ?_
      refine z_icmp_ge 180 C dX11_settle_141 rfl (fun hc => ?_) (fun hc => ?_)
      · replace h := z_it hc h
        refine z_lload C dX11_settle_180 0 rfl ?_
        refine z_aload_n C dX11_settle_182 rfl 1 rfl ?_
        refine z_getr C zf_X11_103 zo_M_42 dX11_settle_183 ?_
        refine z_aload_n C dX11_settle_186 rfl 1 rfl ?_
        refine z_getr C zf_X11_19 zo_M_5 dX11_settle_187 ?_
        refine z_iload_n C dX11_settle_190 rfl 3 rfl ?_
        obtain ⟨hi191, h⟩ := z_g_some h
        refine z_iald C za_M_4 (z_in_vp hi191) dX11_settle_191 ?_
        obtain ⟨hi192, h⟩ := z_g_some h
        refine z_lald C za_M_30 (z_in_vp hi192) dX11_settle_192 ?_
        refine z_lcmp_ge 212 C dX11_settle_193 dX11_settle_194 rfl (fun hc => ?_) (fun hc => ?_)
        · replace h := z_it hc h
          refine z_iinc C dX11_settle_212 (by decide) 4 rfl (z_incl zci_1) [(5, .int (v5 + 1)), (6, .long ((g.2 31 ((8 * v2) + v5).toNatClampNeg) + r125)), (0, .ref (ad 0)), (1, .int v1), (2, .int v2)] rfl ?_
          refine z_goto 100 C dX11_settle_215 rfl ?_
          refine z_loc [2, 3, 4, 0] rfl ?_
          exact ih v1 v2 (v5 + 1) g125 h
        · replace h := z_if hc h
          refine z_aload_n C dX11_settle_197 rfl 1 rfl ?_
          refine z_getr C zf_X11_103 zo_M_42 dX11_settle_198 ?_
          refine z_aload_n C dX11_settle_201 rfl 1 rfl ?_
          refine z_getr C zf_X11_19 zo_M_5 dX11_settle_202 ?_
          refine z_iload_n C dX11_settle_205 rfl 3 rfl ?_
          obtain ⟨hi206, h⟩ := z_g_some h
          refine z_iald C za_M_4 (z_in_vp hi206) dX11_settle_206 ?_
          refine z_lload C dX11_settle_207 0 rfl ?_
          obtain ⟨hi209, h⟩ := z_g_some h
          obtain ⟨g209, eg209, h⟩ := z_s_some h
          refine z_last C za_M_30 (z_in_vp hi209) dX11_settle_209 ?_
          refine z_gw eg209 ?_
          refine z_iconst C dX11_settle_210 zci_1 ?_
          refine z_istore_n C dX11_settle_211 rfl (by decide) [(1, .int 1), (6, .long ((g.2 31 ((8 * v2) + v5).toNatClampNeg) + r125)), (0, .ref (ad 0)), (2, .int v2), (5, .int v5)] rfl ?_
          refine z_iinc C dX11_settle_212 (by decide) 4 rfl (z_incl zci_1) [(5, .int (v5 + 1)), (1, .int 1), (6, .long ((g.2 31 ((8 * v2) + v5).toNatClampNeg) + r125)), (0, .ref (ad 0)), (2, .int v2)] rfl ?_
          refine z_goto 100 C dX11_settle_215 rfl ?_
          refine z_loc [3, 1, 4, 0] rfl ?_
          exact ih 1 v2 (v5 + 1) g209 h
      · replace h := z_if hc h
        refine z_aload_n C dX11_settle_144 rfl 1 rfl ?_
        refine z_getr C zf_X11_106 zo_M_43 dX11_settle_145 ?_
        refine z_bipush C dX11_settle_148 zcb_8 ?_
        refine z_iload_n C dX11_settle_150 rfl 3 rfl ?_
        refine z_imul C dX11_settle_151 ?_
        refine z_iload C dX11_settle_152 4 rfl ?_
        refine z_iadd C dX11_settle_154 ?_
        refine z_iconst C dX11_settle_155 zci_1 ?_
        refine z_iadd C dX11_settle_156 ?_
        refine z_aload_n C dX11_settle_157 rfl 1 rfl ?_
        refine z_getr C zf_X11_106 zo_M_43 dX11_settle_158 ?_
        refine z_bipush C dX11_settle_161 zcb_8 ?_
        refine z_iload_n C dX11_settle_163 rfl 3 rfl ?_
        refine z_imul C dX11_settle_164 ?_
        refine z_iload C dX11_settle_165 4 rfl ?_
        refine z_iadd C dX11_settle_167 ?_
        refine z_iconst C dX11_settle_168 zci_1 ?_
        refine z_iadd C dX11_settle_169 ?_
        obtain ⟨hi170, h⟩ := z_g_some h
        refine z_lald C za_M_31 (z_in_vp hi170) dX11_settle_170 ?_
        refine z_lload C dX11_settle_171 0 rfl ?_
        obtain ⟨r173, g173, hq173, h⟩ := z_b_some h
        refine z_callSl [.int (((8 * v2) + v5) + 1), .ref (ad 31)] C zc_X11_295 rfl (by decide) (Nat.le_of_ble_eq_true rfl) dX11_settle_173 rfl (wX11_least ad (g125.2 31 (((8 * v2) + v5) + 1).toNatClampNeg) ((g.2 31 ((8 * v2) + v5).toNatClampNeg) + r125) g125 r173 g173 hq173) ?_
        obtain ⟨hi176, h⟩ := z_g_some h
        obtain ⟨g176, eg176, h⟩ := z_s_some h
        refine z_last C za_M_31 (z_in_vp hi176) dX11_settle_176 ?_
        refine z_gw eg176 ?_
        refine z_goto 212 C dX11_settle_177 rfl ?_
        refine z_iinc C dX11_settle_212 (by decide) 4 rfl (z_incl zci_1) [(5, .int (v5 + 1)), (6, .long ((g.2 31 ((8 * v2) + v5).toNatClampNeg) + r125)), (0, .ref (ad 0)), (1, .int v1), (2, .int v2)] rfl ?_
        refine z_goto 100 C dX11_settle_215 rfl ?_
        refine z_loc [2, 3, 4, 0] rfl ?_
        exact ih v1 v2 (v5 + 1) g176 h
set_option maxRecDepth 100000 in
set_option maxHeartbeats 4000000 in
theorem wX11_settle_L10 {F : z_F} {ad : Nat → Nat} {gE : z_S} (C : z_X F layM nM ad cX11_settle RX11 8 none 1 23 none gE) (k224 : Int32 → z_S → Option (Unit × z_S)) (hk224 : ∀ (v1 : Int32) (g : z_S), k224 v1 g = some ((), gE) → z_W F layM nM ad 224 [(0, .ref (ad 0)), (1, .int v1)] [] g) : ∀ (n : Nat) (v1 : Int32) (v2 : Int32) (g : z_S), z_loop (fX11_settle_B10 k224) n (v1, v2) g = some ((), gE) → z_W F layM nM ad 10 [(0, .ref (ad 0)), (1, .int v1), (2, .int v2)] [] g := by
  intro n
  induction n with
  | zero =>
    intro v1 v2 g h
    exact (z_loop_0 h).elim
  | succ n ih =>
    intro v1 v2 g h
    replace h := z_loop_S h
    simp only [fX11_settle_B10] at h
    refine z_iload_n C dX11_settle_10 rfl 2 rfl ?_
    refine z_aload_n C dX11_settle_11 rfl 0 rfl ?_
    refine z_geti C zf_X11_135 zo_M_1 dX11_settle_12 ?_
    refine z_icmp_ge 224 C dX11_settle_15 rfl (fun hc => ?_) (fun hc => ?_)
    · replace h := z_it hc h
      refine z_loc [0, 1] rfl ?_
      exact hk224 v1 g h
    · replace h := z_if hc h
      refine z_ldc2 C dX11_settle_18 zl_X11_293 ?_
      refine z_lstore_n C dX11_settle_21 rfl (by decide) [(3, .long 1000000000000), (0, .ref (ad 0)), (1, .int v1), (2, .int v2)] rfl ?_
      refine z_iconst C dX11_settle_22 zci_0 ?_
      refine z_istore C dX11_settle_23 (by decide) [(5, .int 0), (3, .long 1000000000000), (0, .ref (ad 0)), (1, .int v1), (2, .int v2)] rfl ?_
      refine z_loc [2, 3, 4, 1, 0] rfl ?_
      refine wX11_settle_L25 C _ ?_ zN v1 v2 1000000000000 0 g h
      · intro v1 v2 v3 g h
        refine z_aload_n C dX11_settle_75 rfl 0 rfl ?_
        refine z_getr C zf_X11_106 zo_M_43 dX11_settle_76 ?_
        refine z_bipush C dX11_settle_79 zcb_8 ?_
        refine z_iload_n C dX11_settle_81 rfl 2 rfl ?_
        refine z_imul C dX11_settle_82 ?_
        refine z_aload_n C dX11_settle_83 rfl 0 rfl ?_
        refine z_getr C zf_X11_106 zo_M_43 dX11_settle_84 ?_
        refine z_bipush C dX11_settle_87 zcb_8 ?_
        refine z_iload_n C dX11_settle_89 rfl 2 rfl ?_
        refine z_imul C dX11_settle_90 ?_
        obtain ⟨hi91, h⟩ := z_g_some h
        refine z_lald C za_M_31 (z_in_vp hi91) dX11_settle_91 ?_
        refine z_lload_n C dX11_settle_92 rfl 3 rfl ?_
        obtain ⟨r93, g93, hq93, h⟩ := z_b_some h
        refine z_callSl [.int (8 * v2), .ref (ad 31)] C zc_X11_295 rfl (by decide) (Nat.le_of_ble_eq_true rfl) dX11_settle_93 rfl (wX11_least ad (g.2 31 (8 * v2).toNatClampNeg) v3 g r93 g93 hq93) ?_
        obtain ⟨hi96, h⟩ := z_g_some h
        obtain ⟨g96, eg96, h⟩ := z_s_some h
        refine z_last C za_M_31 (z_in_vp hi96) dX11_settle_96 ?_
        refine z_gw eg96 ?_
        refine z_iconst C dX11_settle_97 zci_0 ?_
        refine z_istore C dX11_settle_98 (by decide) [(5, .int 0), (0, .ref (ad 0)), (1, .int v1), (2, .int v2), (3, .long v3)] rfl ?_
        refine z_loc [1, 2, 3, 0] rfl ?_
        refine wX11_settle_L100 C _ ?_ zN v1 v2 0 g96 h
        · intro v1 v2 g h
          refine z_iinc C dX11_settle_218 (by decide) 2 rfl (z_incl zci_1) [(2, .int (v2 + 1)), (0, .ref (ad 0)), (1, .int v1)] rfl ?_
          refine z_goto 10 C dX11_settle_221 rfl ?_
          refine z_loc [1, 2, 0] rfl ?_
          exact ih v1 (v2 + 1) g h
set_option maxRecDepth 100000 in
set_option maxHeartbeats 4000000 in
theorem wX11_settle_L2 {F : z_F} {ad : Nat → Nat} {gE : z_S} (C : z_X F layM nM ad cX11_settle RX11 8 none 1 23 none gE) : ∀ (n : Nat) (v1 : Int32) (g : z_S), z_loop fX11_settle_B2 n v1 g = some ((), gE) → z_W F layM nM ad 2 [(0, .ref (ad 0)), (1, .int v1)] [] g := by
  intro n
  induction n with
  | zero =>
    intro v1 g h
    exact (z_loop_0 h).elim
  | succ n ih =>
    intro v1 g h
    replace h := z_loop_S h
    simp only [fX11_settle_B2] at h
    refine z_iload_n C dX11_settle_2 rfl 1 rfl ?_
    refine z_if_eq 227 C dX11_settle_3 rfl (fun hc => ?_) (fun hc => ?_)
    · replace h := z_it hc h
      exact z_vret C rfl (z_ret2 h) dX11_settle_227
    · replace h := z_if hc h
      refine z_iconst C dX11_settle_6 zci_0 ?_
      refine z_istore_n C dX11_settle_7 rfl (by decide) [(1, .int 0), (0, .ref (ad 0))] rfl ?_
      refine z_iconst C dX11_settle_8 zci_0 ?_
      refine z_istore_n C dX11_settle_9 rfl (by decide) [(2, .int 0), (1, .int 0), (0, .ref (ad 0))] rfl ?_
      refine z_loc [2, 1, 0] rfl ?_
      refine wX11_settle_L10 C _ ?_ zN 0 0 g h
      · intro v1 g h
        refine z_goto 2 C dX11_settle_224 rfl ?_
        exact ih v1 g h
set_option maxRecDepth 100000 in
set_option maxHeartbeats 4000000 in
theorem wX11_settle (ad : Nat → Nat) (g : z_S) (gE : z_S) (h : fX11_settle g = some ((), gE)) : z_M yX11_settle cX11_settle 8 none 1 23 layM nM ad [.ref (ad 0)] g none gE := by
  refine z_enter (by decide) (Nat.le_of_ble_eq_true rfl) (fun F C => ?_)
  replace C : z_X F layM nM ad cX11_settle RX11 8 none 1 23 none gE := C
  show z_W F layM nM ad 0 [(0, .ref (ad 0))] [] g
  unfold fX11_settle at h
  refine z_iconst C dX11_settle_0 zci_1 ?_
  refine z_istore_n C dX11_settle_1 rfl (by decide) [(1, .int 1), (0, .ref (ad 0))] rfl ?_
  refine z_loc [1, 0] rfl ?_
  refine wX11_settle_L2 C  zN 1 g h
set_option maxRecDepth 100000 in
set_option maxHeartbeats 4000000 in
theorem wX11_takeDrafted_L2 {F : z_F} {ad : Nat → Nat} {gE : z_S} (C : z_X F layM nM ad cX11_takeDrafted RX11 6 none 1 23 none gE) (k31 : Int32 → z_S → Option (Unit × z_S)) (hk31 : ∀ (v1 : Int32) (g : z_S), k31 v1 g = some ((), gE) → z_W F layM nM ad 31 [(0, .ref (ad 0)), (1, .int v1)] [] g) : ∀ (n : Nat) (v1 : Int32) (v2 : Int32) (g : z_S), z_loop (fX11_takeDrafted_B2 k31) n (v1, v2) g = some ((), gE) → z_W F layM nM ad 2 [(0, .ref (ad 0)), (1, .int v1), (2, .int v2)] [] g := by
  intro n
  induction n with
  | zero =>
    intro v1 v2 g h
    exact (z_loop_0 h).elim
  | succ n ih =>
    intro v1 v2 g h
    replace h := z_loop_S h
    simp only [fX11_takeDrafted_B2] at h
    refine z_iload_n C dX11_takeDrafted_2 rfl 2 rfl ?_
    refine z_iconst C dX11_takeDrafted_3 zci_4 ?_
    refine z_icmp_gt 31 C dX11_takeDrafted_4 rfl (fun hc => ?_) (fun hc => ?_)
    · replace h := z_it hc h
      refine z_loc [0, 1] rfl ?_
      exact hk31 v1 g h
    · replace h := z_if hc h
      refine z_aload_n C dX11_takeDrafted_7 rfl 0 rfl ?_
      refine z_getr C zf_X11_109 zo_M_44 dX11_takeDrafted_8 ?_
      refine z_iload_n C dX11_takeDrafted_11 rfl 2 rfl ?_
      refine z_aload_n C dX11_takeDrafted_12 rfl 0 rfl ?_
      refine z_getr C zf_X11_103 zo_M_42 dX11_takeDrafted_13 ?_
      refine z_iload_n C dX11_takeDrafted_16 rfl 2 rfl ?_
      obtain ⟨hi17, h⟩ := z_g_some h
      refine z_lald C za_M_30 (z_in_vp hi17) dX11_takeDrafted_17 ?_
      refine z_aload_n C dX11_takeDrafted_18 rfl 0 rfl ?_
      refine z_iconst C dX11_takeDrafted_19 zci_2 ?_
      obtain ⟨r20, g20, hq20, h⟩ := z_b_some h
      refine z_callVl [.long (g.2 30 (v2).toNatClampNeg), .int v2, .ref (ad 32)] C zc_X11_299 zk_M rfl (by decide) (Nat.le_of_ble_eq_true rfl) dX11_takeDrafted_20 rfl (wX11_mistake ad 2 g r20 g20 hq20) ?_
      refine z_ladd C dX11_takeDrafted_23 ?_
      obtain ⟨hi24, h⟩ := z_g_some h
      obtain ⟨g24, eg24, h⟩ := z_s_some h
      refine z_last C za_M_32 (z_in_vp hi24) dX11_takeDrafted_24 ?_
      refine z_gw eg24 ?_
      refine z_iinc C dX11_takeDrafted_25 (by decide) 2 rfl (z_incl zci_1) [(2, .int (v2 + 1)), (0, .ref (ad 0)), (1, .int v1)] rfl ?_
      refine z_goto 2 C dX11_takeDrafted_28 rfl ?_
      refine z_loc [1, 2, 0] rfl ?_
      exact ih v1 (v2 + 1) g24 h
set_option maxRecDepth 100000 in
set_option maxHeartbeats 4000000 in
theorem wX11_takeDrafted_L33 {F : z_F} {ad : Nat → Nat} {gE : z_S} (C : z_X F layM nM ad cX11_takeDrafted RX11 6 none 1 23 none gE) (k64 : Int32 → z_S → Option (Unit × z_S)) (hk64 : ∀ (v1 : Int32) (g : z_S), k64 v1 g = some ((), gE) → z_W F layM nM ad 64 [(0, .ref (ad 0)), (1, .int v1)] [] g) : ∀ (n : Nat) (v1 : Int32) (v2 : Int32) (g : z_S), z_loop (fX11_takeDrafted_B33 k64) n (v1, v2) g = some ((), gE) → z_W F layM nM ad 33 [(0, .ref (ad 0)), (1, .int v1), (2, .int v2)] [] g := by
  intro n
  induction n with
  | zero =>
    intro v1 v2 g h
    exact (z_loop_0 h).elim
  | succ n ih =>
    intro v1 v2 g h
    replace h := z_loop_S h
    simp only [fX11_takeDrafted_B33] at h
    refine z_iload_n C dX11_takeDrafted_33 rfl 2 rfl ?_
    refine z_sipush C dX11_takeDrafted_34 zcs_136 ?_
    refine z_icmp_ge 64 C dX11_takeDrafted_37 rfl (fun hc => ?_) (fun hc => ?_)
    · replace h := z_it hc h
      refine z_loc [0, 1] rfl ?_
      exact hk64 v1 g h
    · replace h := z_if hc h
      refine z_aload_n C dX11_takeDrafted_40 rfl 0 rfl ?_
      refine z_getr C zf_X11_112 zo_M_45 dX11_takeDrafted_41 ?_
      refine z_iload_n C dX11_takeDrafted_44 rfl 2 rfl ?_
      refine z_aload_n C dX11_takeDrafted_45 rfl 0 rfl ?_
      refine z_getr C zf_X11_106 zo_M_43 dX11_takeDrafted_46 ?_
      refine z_iload_n C dX11_takeDrafted_49 rfl 2 rfl ?_
      obtain ⟨hi50, h⟩ := z_g_some h
      refine z_lald C za_M_31 (z_in_vp hi50) dX11_takeDrafted_50 ?_
      refine z_aload_n C dX11_takeDrafted_51 rfl 0 rfl ?_
      refine z_iconst C dX11_takeDrafted_52 zci_2 ?_
      obtain ⟨r53, g53, hq53, h⟩ := z_b_some h
      refine z_callVl [.long (g.2 31 (v2).toNatClampNeg), .int v2, .ref (ad 33)] C zc_X11_299 zk_M rfl (by decide) (Nat.le_of_ble_eq_true rfl) dX11_takeDrafted_53 rfl (wX11_mistake ad 2 g r53 g53 hq53) ?_
      refine z_ladd C dX11_takeDrafted_56 ?_
      obtain ⟨hi57, h⟩ := z_g_some h
      obtain ⟨g57, eg57, h⟩ := z_s_some h
      refine z_last C za_M_33 (z_in_vp hi57) dX11_takeDrafted_57 ?_
      refine z_gw eg57 ?_
      refine z_iinc C dX11_takeDrafted_58 (by decide) 2 rfl (z_incl zci_1) [(2, .int (v2 + 1)), (0, .ref (ad 0)), (1, .int v1)] rfl ?_
      refine z_goto 33 C dX11_takeDrafted_61 rfl ?_
      refine z_loc [1, 2, 0] rfl ?_
      exact ih v1 (v2 + 1) g57 h
set_option maxRecDepth 100000 in
set_option maxHeartbeats 4000000 in
theorem wX11_takeDrafted_J121 {F : z_F} {ad : Nat → Nat} {gE : z_S} (C : z_X F layM nM ad cX11_takeDrafted RX11 6 none 1 23 none gE) (rc : (Int32 × Int32 × Int32) → z_S → Option (Unit × z_S)) (hrc : ∀ (v1 : Int32) (v2 : Int32) (v3 : Int32) (g : z_S), rc (v1, v2, v3) g = some ((), gE) → z_W F layM nM ad 76 [(0, .ref (ad 0)), (1, .int v1), (2, .int v2), (3, .int v3)] [] g) (v1 : Int32) (v2 : Int32) (v3 : Int32) (s0 : Int64) (s1 : Int64) (g : z_S) (h : fX11_takeDrafted_J121 rc v1 v2 v3 s0 s1 g = some ((), gE)) : z_W F layM nM ad 121 [(0, .ref (ad 0)), (1, .int v1), (2, .int v2), (3, .int v3)] [.long s0, .long s1] g := by
  unfold fX11_takeDrafted_J121 at h
  refine z_ladd C dX11_takeDrafted_121 ?_
  refine z_lstore C dX11_takeDrafted_122 (by decide) [(4, .long (s1 + s0)), (0, .ref (ad 0)), (1, .int v1), (2, .int v2), (3, .int v3)] rfl ?_
  refine z_iload_n C dX11_takeDrafted_124 rfl 4 rfl ?_
  refine z_iconst C dX11_takeDrafted_125 zci_1 ?_
  refine z_iadd C dX11_takeDrafted_126 ?_
  refine z_aload_n C dX11_takeDrafted_127 rfl 1 rfl ?_
  refine z_getr C zf_X11_13 zo_M_3 dX11_takeDrafted_128 ?_
  refine z_iload_n C dX11_takeDrafted_131 rfl 3 rfl ?_
  obtain ⟨hi132, h⟩ := z_g_some h
  refine z_iald C za_M_2 (z_in_vp hi132) dX11_takeDrafted_132 ?_
  refine z_icmp_ge 170 C dX11_takeDrafted_133 rfl (fun hc => ?_) (fun hc => ?_)
  · replace h := z_it hc h
    refine z_aload_n C dX11_takeDrafted_170 rfl 1 rfl ?_
    refine z_getr C zf_X11_109 zo_M_44 dX11_takeDrafted_171 ?_
    refine z_aload_n C dX11_takeDrafted_174 rfl 1 rfl ?_
    refine z_getr C zf_X11_19 zo_M_5 dX11_takeDrafted_175 ?_
    refine z_iload_n C dX11_takeDrafted_178 rfl 3 rfl ?_
    obtain ⟨hi179, h⟩ := z_g_some h
    refine z_iald C za_M_4 (z_in_vp hi179) dX11_takeDrafted_179 ?_
    refine z_aload_n C dX11_takeDrafted_180 rfl 1 rfl ?_
    refine z_getr C zf_X11_109 zo_M_44 dX11_takeDrafted_181 ?_
    refine z_aload_n C dX11_takeDrafted_184 rfl 1 rfl ?_
    refine z_getr C zf_X11_19 zo_M_5 dX11_takeDrafted_185 ?_
    refine z_iload_n C dX11_takeDrafted_188 rfl 3 rfl ?_
    obtain ⟨hi189, h⟩ := z_g_some h
    refine z_iald C za_M_4 (z_in_vp hi189) dX11_takeDrafted_189 ?_
    obtain ⟨hi190, h⟩ := z_g_some h
    refine z_lald C za_M_32 (z_in_vp hi190) dX11_takeDrafted_190 ?_
    refine z_lload C dX11_takeDrafted_191 0 rfl ?_
    obtain ⟨r193, g193, hq193, h⟩ := z_b_some h
    refine z_callSl [.int (g.1 4 (v2).toNatClampNeg), .ref (ad 32)] C zc_X11_295 rfl (by decide) (Nat.le_of_ble_eq_true rfl) dX11_takeDrafted_193 rfl (wX11_least ad (g.2 32 (g.1 4 (v2).toNatClampNeg).toNatClampNeg) (s1 + s0) g r193 g193 hq193) ?_
    obtain ⟨hi196, h⟩ := z_g_some h
    obtain ⟨g196, eg196, h⟩ := z_s_some h
    refine z_last C za_M_32 (z_in_vp hi196) dX11_takeDrafted_196 ?_
    refine z_gw eg196 ?_
    refine z_iinc C dX11_takeDrafted_197 (by decide) 4 rfl (z_incl zci_1) [(3, .int (v3 + 1)), (4, .long (s1 + s0)), (0, .ref (ad 0)), (1, .int v1), (2, .int v2)] rfl ?_
    refine z_goto 76 C dX11_takeDrafted_200 rfl ?_
    refine z_loc [2, 3, 4, 0] rfl ?_
    exact hrc v1 v2 (v3 + 1) g196 h
  · replace h := z_if hc h
    refine z_aload_n C dX11_takeDrafted_136 rfl 1 rfl ?_
    refine z_getr C zf_X11_112 zo_M_45 dX11_takeDrafted_137 ?_
    refine z_bipush C dX11_takeDrafted_140 zcb_8 ?_
    refine z_iload_n C dX11_takeDrafted_142 rfl 3 rfl ?_
    refine z_imul C dX11_takeDrafted_143 ?_
    refine z_iload_n C dX11_takeDrafted_144 rfl 4 rfl ?_
    refine z_iadd C dX11_takeDrafted_145 ?_
    refine z_iconst C dX11_takeDrafted_146 zci_1 ?_
    refine z_iadd C dX11_takeDrafted_147 ?_
    refine z_aload_n C dX11_takeDrafted_148 rfl 1 rfl ?_
    refine z_getr C zf_X11_112 zo_M_45 dX11_takeDrafted_149 ?_
    refine z_bipush C dX11_takeDrafted_152 zcb_8 ?_
    refine z_iload_n C dX11_takeDrafted_154 rfl 3 rfl ?_
    refine z_imul C dX11_takeDrafted_155 ?_
    refine z_iload_n C dX11_takeDrafted_156 rfl 4 rfl ?_
    refine z_iadd C dX11_takeDrafted_157 ?_
    refine z_iconst C dX11_takeDrafted_158 zci_1 ?_
    refine z_iadd C dX11_takeDrafted_159 ?_
    obtain ⟨hi160, h⟩ := z_g_some h
    refine z_lald C za_M_33 (z_in_vp hi160) dX11_takeDrafted_160 ?_
    refine z_lload C dX11_takeDrafted_161 0 rfl ?_
    obtain ⟨r163, g163, hq163, h⟩ := z_b_some h
    refine z_callSl [.int (((8 * v2) + v3) + 1), .ref (ad 33)] C zc_X11_295 rfl (by decide) (Nat.le_of_ble_eq_true rfl) dX11_takeDrafted_163 rfl (wX11_least ad (g.2 33 (((8 * v2) + v3) + 1).toNatClampNeg) (s1 + s0) g r163 g163 hq163) ?_
    obtain ⟨hi166, h⟩ := z_g_some h
    obtain ⟨g166, eg166, h⟩ := z_s_some h
    refine z_last C za_M_33 (z_in_vp hi166) dX11_takeDrafted_166 ?_
    refine z_gw eg166 ?_
    refine z_goto 197 C dX11_takeDrafted_167 rfl ?_
    refine z_iinc C dX11_takeDrafted_197 (by decide) 4 rfl (z_incl zci_1) [(3, .int (v3 + 1)), (4, .long (s1 + s0)), (0, .ref (ad 0)), (1, .int v1), (2, .int v2)] rfl ?_
    refine z_goto 76 C dX11_takeDrafted_200 rfl ?_
    refine z_loc [2, 3, 4, 0] rfl ?_
    exact hrc v1 v2 (v3 + 1) g166 h
set_option maxRecDepth 100000 in
set_option maxHeartbeats 4000000 in
theorem wX11_takeDrafted_L76 {F : z_F} {ad : Nat → Nat} {gE : z_S} (C : z_X F layM nM ad cX11_takeDrafted RX11 6 none 1 23 none gE) (k203 : Int32 → Int32 → z_S → Option (Unit × z_S)) (hk203 : ∀ (v1 : Int32) (v2 : Int32) (g : z_S), k203 v1 v2 g = some ((), gE) → z_W F layM nM ad 203 [(0, .ref (ad 0)), (1, .int v1), (2, .int v2)] [] g) : ∀ (n : Nat) (v1 : Int32) (v2 : Int32) (v3 : Int32) (g : z_S), z_loop (fX11_takeDrafted_B76 k203) n (v1, v2, v3) g = some ((), gE) → z_W F layM nM ad 76 [(0, .ref (ad 0)), (1, .int v1), (2, .int v2), (3, .int v3)] [] g := by
  intro n
  induction n with
  | zero =>
    intro v1 v2 v3 g h
    exact (z_loop_0 h).elim
  | succ n ih =>
    intro v1 v2 v3 g h
    replace h := z_loop_S h
    simp only [fX11_takeDrafted_B76] at h
    refine z_iload_n C dX11_takeDrafted_76 rfl 3 rfl ?_
    refine z_aload_n C dX11_takeDrafted_77 rfl 0 rfl ?_
    refine z_getr C zf_X11_13 zo_M_3 dX11_takeDrafted_78 ?_
    refine z_iload_n C dX11_takeDrafted_81 rfl 2 rfl ?_
    obtain ⟨hi82, h⟩ := z_g_some h
    refine z_iald C za_M_2 (z_in_vp hi82) dX11_takeDrafted_82 ?_
    refine z_icmp_ge 203 C dX11_takeDrafted_83 rfl (fun hc => ?_) (fun hc => ?_)
    · replace h := z_it hc h
      refine z_loc [0, 1, 2] rfl ?_
      exact hk203 v1 v2 g h
    · replace h := z_if hc h
      refine z_aload_n C dX11_takeDrafted_86 rfl 0 rfl ?_
      refine z_getr C zf_X11_106 zo_M_43 dX11_takeDrafted_87 ?_
      refine z_bipush C dX11_takeDrafted_90 zcb_8 ?_
      refine z_iload_n C dX11_takeDrafted_92 rfl 2 rfl ?_
      refine z_imul C dX11_takeDrafted_93 ?_
      refine z_iload_n C dX11_takeDrafted_94 rfl 3 rfl ?_
      refine z_iadd C dX11_takeDrafted_95 ?_
      obtain ⟨hi96, h⟩ := z_g_some h
      refine z_lald C za_M_31 (z_in_vp hi96) dX11_takeDrafted_96 ?_
      refine z_aload_n C dX11_takeDrafted_97 rfl 0 rfl ?_
      refine z_getr C zf_X11_7 zo_M_2 dX11_takeDrafted_98 ?_
      refine z_bipush C dX11_takeDrafted_101 zcb_8 ?_
      refine z_iload_n C dX11_takeDrafted_103 rfl 2 rfl ?_
      refine z_imul C dX11_takeDrafted_104 ?_
      refine z_iload_n C dX11_takeDrafted_105 rfl 3 rfl ?_
      refine z_iadd C dX11_takeDrafted_106 ?_
      obtain ⟨hi107, h⟩ := z_g_some h
      refine z_iald C za_M_1 (z_in_vp hi107) dX11_takeDrafted_107 ?_
      refine z_iload_n C dX11_takeDrafted_108 rfl 1 rfl ?_
      refine z_icmp_ne 116 C dX11_takeDrafted_109 rfl (fun hc => ?_) (fun hc => ?_)
      · replace h := z_it hc h
        refine z_lconst C dX11_takeDrafted_112 zcl_0 ?_
        refine z_goto 121 C dX11_takeDrafted_113 rfl ?_
        exact wX11_takeDrafted_J121 C _ (fun v1 v2 v3 g h => ih v1 v2 v3 g h) v1 v2 v3 0 (g.2 31 ((8 * v2) + v3).toNatClampNeg) g h
      · replace h := z_if hc h
        refine z_aload_n C dX11_takeDrafted_116 rfl 0 rfl ?_
        refine z_iconst C dX11_takeDrafted_117 zci_0 ?_
        obtain ⟨r118, g118, hq118, h⟩ := z_b_some h
        refine z_callVl [.long (g.2 31 ((8 * v2) + v3).toNatClampNeg)] C zc_X11_299 zk_M rfl (by decide) (Nat.le_of_ble_eq_true rfl) dX11_takeDrafted_118 rfl (wX11_mistake ad 0 g r118 g118 hq118) ?_
        exact wX11_takeDrafted_J121 C _ (fun v1 v2 v3 g h => ih v1 v2 v3 g h) v1 v2 v3 r118 (g.2 31 ((8 * v2) + v3).toNatClampNeg) g118 h
set_option maxRecDepth 100000 in
set_option maxHeartbeats 4000000 in
theorem wX11_takeDrafted_L66 {F : z_F} {ad : Nat → Nat} {gE : z_S} (C : z_X F layM nM ad cX11_takeDrafted RX11 6 none 1 23 none gE) (k209 : z_S → Option (Unit × z_S)) (hk209 : ∀ (g : z_S), k209 g = some ((), gE) → z_W F layM nM ad 209 [(0, .ref (ad 0))] [] g) : ∀ (n : Nat) (v1 : Int32) (v2 : Int32) (g : z_S), z_loop (fX11_takeDrafted_B66 k209) n (v1, v2) g = some ((), gE) → z_W F layM nM ad 66 [(0, .ref (ad 0)), (1, .int v1), (2, .int v2)] [] g := by
  intro n
  induction n with
  | zero =>
    intro v1 v2 g h
    exact (z_loop_0 h).elim
  | succ n ih =>
    intro v1 v2 g h
    replace h := z_loop_S h
    simp only [fX11_takeDrafted_B66] at h
    refine z_iload_n C dX11_takeDrafted_66 rfl 2 rfl ?_
    refine z_aload_n C dX11_takeDrafted_67 rfl 0 rfl ?_
    refine z_geti C zf_X11_135 zo_M_1 dX11_takeDrafted_68 ?_
    refine z_icmp_ge 209 C dX11_takeDrafted_71 rfl (fun hc => ?_) (fun hc => ?_)
    · replace h := z_it hc h
      refine z_loc [0] rfl ?_
      exact hk209 g h
    · replace h := z_if hc h
      refine z_iconst C dX11_takeDrafted_74 zci_0 ?_
      refine z_istore_n C dX11_takeDrafted_75 rfl (by decide) [(3, .int 0), (0, .ref (ad 0)), (1, .int v1), (2, .int v2)] rfl ?_
      refine z_loc [1, 2, 3, 0] rfl ?_
      refine wX11_takeDrafted_L76 C _ ?_ zN v1 v2 0 g h
      · intro v1 v2 g h
        refine z_iinc C dX11_takeDrafted_203 (by decide) 2 rfl (z_incl zci_1) [(2, .int (v2 + 1)), (0, .ref (ad 0)), (1, .int v1)] rfl ?_
        refine z_goto 66 C dX11_takeDrafted_206 rfl ?_
        refine z_loc [1, 2, 0] rfl ?_
        exact ih v1 (v2 + 1) g h
set_option maxRecDepth 100000 in
set_option maxHeartbeats 4000000 in
theorem wX11_takeDrafted_L211 {F : z_F} {ad : Nat → Nat} {gE : z_S} (C : z_X F layM nM ad cX11_takeDrafted RX11 6 none 1 23 none gE) (k234 : z_S → Option (Unit × z_S)) (hk234 : ∀ (g : z_S), k234 g = some ((), gE) → z_W F layM nM ad 234 [(0, .ref (ad 0))] [] g) : ∀ (n : Nat) (v2 : Int32) (g : z_S), z_loop (fX11_takeDrafted_B211 k234) n v2 g = some ((), gE) → z_W F layM nM ad 211 [(0, .ref (ad 0)), (2, .int v2)] [] g := by
  intro n
  induction n with
  | zero =>
    intro v2 g h
    exact (z_loop_0 h).elim
  | succ n ih =>
    intro v2 g h
    replace h := z_loop_S h
    simp only [fX11_takeDrafted_B211] at h
    refine z_iload_n C dX11_takeDrafted_211 rfl 1 rfl ?_
    refine z_iconst C dX11_takeDrafted_212 zci_4 ?_
    refine z_icmp_gt 234 C dX11_takeDrafted_213 rfl (fun hc => ?_) (fun hc => ?_)
    · replace h := z_it hc h
      refine z_loc [0] rfl ?_
      exact hk234 g h
    · replace h := z_if hc h
      refine z_aload_n C dX11_takeDrafted_216 rfl 0 rfl ?_
      refine z_getr C zf_X11_103 zo_M_42 dX11_takeDrafted_217 ?_
      refine z_iload_n C dX11_takeDrafted_220 rfl 1 rfl ?_
      refine z_aload_n C dX11_takeDrafted_221 rfl 0 rfl ?_
      refine z_getr C zf_X11_109 zo_M_44 dX11_takeDrafted_222 ?_
      refine z_iload_n C dX11_takeDrafted_225 rfl 1 rfl ?_
      obtain ⟨hi226, h⟩ := z_g_some h
      refine z_lald C za_M_32 (z_in_vp hi226) dX11_takeDrafted_226 ?_
      obtain ⟨hi227, h⟩ := z_g_some h
      obtain ⟨g227, eg227, h⟩ := z_s_some h
      refine z_last C za_M_30 (z_in_vp hi227) dX11_takeDrafted_227 ?_
      refine z_gw eg227 ?_
      refine z_iinc C dX11_takeDrafted_228 (by decide) 1 rfl (z_incl zci_1) [(2, .int (v2 + 1)), (0, .ref (ad 0))] rfl ?_
      refine z_goto 211 C dX11_takeDrafted_231 rfl ?_
      refine z_loc [1, 0] rfl ?_
      exact ih (v2 + 1) g227 h
set_option maxRecDepth 100000 in
set_option maxHeartbeats 4000000 in
theorem wX11_takeDrafted_L236 {F : z_F} {ad : Nat → Nat} {gE : z_S} (C : z_X F layM nM ad cX11_takeDrafted RX11 6 none 1 23 none gE) : ∀ (n : Nat) (v2 : Int32) (g : z_S), z_loop fX11_takeDrafted_B236 n v2 g = some ((), gE) → z_W F layM nM ad 236 [(0, .ref (ad 0)), (2, .int v2)] [] g := by
  intro n
  induction n with
  | zero =>
    intro v2 g h
    exact (z_loop_0 h).elim
  | succ n ih =>
    intro v2 g h
    replace h := z_loop_S h
    simp only [fX11_takeDrafted_B236] at h
    refine z_iload_n C dX11_takeDrafted_236 rfl 1 rfl ?_
    refine z_sipush C dX11_takeDrafted_237 zcs_136 ?_
    refine z_icmp_ge 261 C dX11_takeDrafted_240 rfl (fun hc => ?_) (fun hc => ?_)
    · replace h := z_it hc h
      exact z_vret C rfl (z_ret2 h) dX11_takeDrafted_261
    · replace h := z_if hc h
      refine z_aload_n C dX11_takeDrafted_243 rfl 0 rfl ?_
      refine z_getr C zf_X11_106 zo_M_43 dX11_takeDrafted_244 ?_
      refine z_iload_n C dX11_takeDrafted_247 rfl 1 rfl ?_
      refine z_aload_n C dX11_takeDrafted_248 rfl 0 rfl ?_
      refine z_getr C zf_X11_112 zo_M_45 dX11_takeDrafted_249 ?_
      refine z_iload_n C dX11_takeDrafted_252 rfl 1 rfl ?_
      obtain ⟨hi253, h⟩ := z_g_some h
      refine z_lald C za_M_33 (z_in_vp hi253) dX11_takeDrafted_253 ?_
      obtain ⟨hi254, h⟩ := z_g_some h
      obtain ⟨g254, eg254, h⟩ := z_s_some h
      refine z_last C za_M_31 (z_in_vp hi254) dX11_takeDrafted_254 ?_
      refine z_gw eg254 ?_
      refine z_iinc C dX11_takeDrafted_255 (by decide) 1 rfl (z_incl zci_1) [(2, .int (v2 + 1)), (0, .ref (ad 0))] rfl ?_
      refine z_goto 236 C dX11_takeDrafted_258 rfl ?_
      refine z_loc [1, 0] rfl ?_
      exact ih (v2 + 1) g254 h
set_option maxRecDepth 100000 in
set_option maxHeartbeats 4000000 in
theorem wX11_takeDrafted (ad : Nat → Nat) (v1 : Int32) (g : z_S) (gE : z_S) (h : fX11_takeDrafted v1 g = some ((), gE)) : z_M yX11_takeDrafted cX11_takeDrafted 6 none 1 23 layM nM ad [.ref (ad 0), .int v1] g none gE := by
  refine z_enter (by decide) (Nat.le_of_ble_eq_true rfl) (fun F C => ?_)
  replace C : z_X F layM nM ad cX11_takeDrafted RX11 6 none 1 23 none gE := C
  show z_W F layM nM ad 0 [(0, .ref (ad 0)), (1, .int v1)] [] g
  unfold fX11_takeDrafted at h
  refine z_iconst C dX11_takeDrafted_0 zci_0 ?_
  refine z_istore_n C dX11_takeDrafted_1 rfl (by decide) [(2, .int 0), (0, .ref (ad 0)), (1, .int v1)] rfl ?_
  refine z_loc [1, 2, 0] rfl ?_
  refine wX11_takeDrafted_L2 C _ ?_ zN v1 0 g h
  · intro v1 g h
    refine z_iconst C dX11_takeDrafted_31 zci_0 ?_
    refine z_istore_n C dX11_takeDrafted_32 rfl (by decide) [(2, .int 0), (0, .ref (ad 0)), (1, .int v1)] rfl ?_
    refine z_loc [1, 2, 0] rfl ?_
    refine wX11_takeDrafted_L33 C _ ?_ zN v1 0 g h
    · intro v1 g h
      refine z_iconst C dX11_takeDrafted_64 zci_0 ?_
      refine z_istore_n C dX11_takeDrafted_65 rfl (by decide) [(2, .int 0), (0, .ref (ad 0)), (1, .int v1)] rfl ?_
      refine z_loc [1, 2, 0] rfl ?_
      refine wX11_takeDrafted_L66 C _ ?_ zN v1 0 g h
      · intro g h
        refine z_iconst C dX11_takeDrafted_209 zci_0 ?_
        refine z_istore_n C dX11_takeDrafted_210 rfl (by decide) [(2, .int 0), (0, .ref (ad 0))] rfl ?_
        refine z_loc [1, 0] rfl ?_
        refine wX11_takeDrafted_L211 C _ ?_ zN 0 g h
        · intro g h
          refine z_iconst C dX11_takeDrafted_234 zci_0 ?_
          refine z_istore_n C dX11_takeDrafted_235 rfl (by decide) [(2, .int 0), (0, .ref (ad 0))] rfl ?_
          refine z_loc [1, 0] rfl ?_
          refine wX11_takeDrafted_L236 C  zN 0 g h
set_option maxRecDepth 100000 in
set_option maxHeartbeats 4000000 in
theorem wX11_patched_L16 {F : z_F} {ad : Nat → Nat} {r : Int32} {gE : z_S} (C : z_X F layM nM ad cX11_patched RX11 5 (some .int) 2 50 (some (.int r)) gE) (k45 : Int32 → z_S → Option (Int32 × z_S)) (hk45 : ∀ (v1 : Int32) (g : z_S), k45 v1 g = some (r, gE) → z_W F layM nM ad 45 [(0, .ref (ad 0)), (1, .int v1)] [] g) : ∀ (n : Nat) (v1 : Int32) (v2 : Int32) (g : z_S), z_loop (fX11_patched_B16 k45) n (v1, v2) g = some (r, gE) → z_W F layM nM ad 16 [(0, .ref (ad 0)), (1, .int v1), (2, .int v2)] [] g := by
  intro n
  induction n with
  | zero =>
    intro v1 v2 g h
    exact (z_loop_0 h).elim
  | succ n ih =>
    intro v1 v2 g h
    replace h := z_loop_S h
    simp only [fX11_patched_B16] at h
    refine z_iload_n C dX11_patched_16 rfl 2 rfl ?_
    refine z_iconst C dX11_patched_17 zci_4 ?_
    refine z_icmp_gt 45 C dX11_patched_18 rfl (fun hc => ?_) (fun hc => ?_)
    · replace h := z_it hc h
      refine z_loc [0, 1] rfl ?_
      exact hk45 v1 g h
    · replace h := z_if hc h
      refine z_aload_n C dX11_patched_21 rfl 0 rfl ?_
      refine z_getr C zf_X11_103 zo_M_42 dX11_patched_22 ?_
      refine z_iload_n C dX11_patched_25 rfl 2 rfl ?_
      refine z_iload_n C dX11_patched_26 rfl 2 rfl ?_
      refine z_iconst C dX11_patched_27 zci_4 ?_
      refine z_icmp_ne 35 C dX11_patched_28 rfl (fun hc => ?_) (fun hc => ?_)
      · replace h := z_it hc h
        refine z_lconst C dX11_patched_31 zcl_0 ?_
        refine z_goto 38 C dX11_patched_32 rfl ?_
        obtain ⟨hi38, h⟩ := z_g_some h
        obtain ⟨g38, eg38, h⟩ := z_s_some h
        refine z_last C za_M_30 (z_in_vp hi38) dX11_patched_38 ?_
        refine z_gw eg38 ?_
        refine z_iinc C dX11_patched_39 (by decide) 2 rfl (z_incl zci_1) [(2, .int (v2 + 1)), (0, .ref (ad 0)), (1, .int v1)] rfl ?_
        refine z_goto 16 C dX11_patched_42 rfl ?_
        refine z_loc [1, 2, 0] rfl ?_
        exact ih v1 (v2 + 1) g38 h
      · replace h := z_if hc h
        refine z_ldc2 C dX11_patched_35 zl_X11_293 ?_
        obtain ⟨hi38, h⟩ := z_g_some h
        obtain ⟨g38, eg38, h⟩ := z_s_some h
        refine z_last C za_M_30 (z_in_vp hi38) dX11_patched_38 ?_
        refine z_gw eg38 ?_
        refine z_iinc C dX11_patched_39 (by decide) 2 rfl (z_incl zci_1) [(2, .int (v2 + 1)), (0, .ref (ad 0)), (1, .int v1)] rfl ?_
        refine z_goto 16 C dX11_patched_42 rfl ?_
        refine z_loc [1, 2, 0] rfl ?_
        exact ih v1 (v2 + 1) g38 h
set_option maxRecDepth 100000 in
set_option maxHeartbeats 4000000 in
theorem wX11_patched_L47 {F : z_F} {ad : Nat → Nat} {r : Int32} {gE : z_S} (C : z_X F layM nM ad cX11_patched RX11 5 (some .int) 2 50 (some (.int r)) gE) (k69 : Int32 → z_S → Option (Int32 × z_S)) (hk69 : ∀ (v1 : Int32) (g : z_S), k69 v1 g = some (r, gE) → z_W F layM nM ad 69 [(0, .ref (ad 0)), (1, .int v1)] [] g) : ∀ (n : Nat) (v1 : Int32) (v2 : Int32) (g : z_S), z_loop (fX11_patched_B47 k69) n (v1, v2) g = some (r, gE) → z_W F layM nM ad 47 [(0, .ref (ad 0)), (1, .int v1), (2, .int v2)] [] g := by
  intro n
  induction n with
  | zero =>
    intro v1 v2 g h
    exact (z_loop_0 h).elim
  | succ n ih =>
    intro v1 v2 g h
    replace h := z_loop_S h
    simp only [fX11_patched_B47] at h
    refine z_iload_n C dX11_patched_47 rfl 2 rfl ?_
    refine z_sipush C dX11_patched_48 zcs_136 ?_
    refine z_icmp_ge 69 C dX11_patched_51 rfl (fun hc => ?_) (fun hc => ?_)
    · replace h := z_it hc h
      refine z_loc [0, 1] rfl ?_
      exact hk69 v1 g h
    · replace h := z_if hc h
      refine z_aload_n C dX11_patched_54 rfl 0 rfl ?_
      refine z_getr C zf_X11_106 zo_M_43 dX11_patched_55 ?_
      refine z_iload_n C dX11_patched_58 rfl 2 rfl ?_
      refine z_ldc2 C dX11_patched_59 zl_X11_293 ?_
      obtain ⟨hi62, h⟩ := z_g_some h
      obtain ⟨g62, eg62, h⟩ := z_s_some h
      refine z_last C za_M_31 (z_in_vp hi62) dX11_patched_62 ?_
      refine z_gw eg62 ?_
      refine z_iinc C dX11_patched_63 (by decide) 2 rfl (z_incl zci_1) [(2, .int (v2 + 1)), (0, .ref (ad 0)), (1, .int v1)] rfl ?_
      refine z_goto 47 C dX11_patched_66 rfl ?_
      refine z_loc [1, 2, 0] rfl ?_
      exact ih v1 (v2 + 1) g62 h
set_option maxRecDepth 100000 in
set_option maxHeartbeats 4000000 in
theorem wX11_patched_L75 {F : z_F} {ad : Nat → Nat} {r : Int32} {gE : z_S} (C : z_X F layM nM ad cX11_patched RX11 5 (some .int) 2 50 (some (.int r)) gE) (k103 : Int32 → z_S → Option (Int32 × z_S)) (hk103 : ∀ (v1 : Int32) (g : z_S), k103 v1 g = some (r, gE) → z_W F layM nM ad 103 [(0, .ref (ad 0)), (1, .int v1)] [] g) : ∀ (n : Nat) (v1 : Int32) (v2 : Int32) (g : z_S), z_loop (fX11_patched_B75 k103) n (v1, v2) g = some (r, gE) → z_W F layM nM ad 75 [(0, .ref (ad 0)), (1, .int v1), (2, .int v2)] [] g := by
  intro n
  induction n with
  | zero =>
    intro v1 v2 g h
    exact (z_loop_0 h).elim
  | succ n ih =>
    intro v1 v2 g h
    replace h := z_loop_S h
    simp only [fX11_patched_B75] at h
    refine z_iload_n C dX11_patched_75 rfl 2 rfl ?_
    refine z_aload_n C dX11_patched_76 rfl 0 rfl ?_
    refine z_geti C zf_X11_141 zo_M_9 dX11_patched_77 ?_
    refine z_icmp_ge 103 C dX11_patched_80 rfl (fun hc => ?_) (fun hc => ?_)
    · replace h := z_it hc h
      refine z_loc [0, 1] rfl ?_
      exact hk103 v1 g h
    · replace h := z_if hc h
      refine z_aload_n C dX11_patched_83 rfl 0 rfl ?_
      refine z_aload_n C dX11_patched_84 rfl 0 rfl ?_
      refine z_getr C zf_X11_29 zo_M_8 dX11_patched_85 ?_
      refine z_iload_n C dX11_patched_88 rfl 2 rfl ?_
      obtain ⟨hi89, h⟩ := z_g_some h
      refine z_iald C za_M_7 (z_in_vp hi89) dX11_patched_89 ?_
      obtain ⟨r90, g90, hq90, h⟩ := z_b_some h
      refine z_callVv [] C zc_X11_306 zk_M rfl (by decide) (Nat.le_of_ble_eq_true rfl) dX11_patched_90 rfl (wX11_takeDrafted ad (g.1 7 (v2).toNatClampNeg) g g90 hq90) ?_
      refine z_aload_n C dX11_patched_93 rfl 0 rfl ?_
      obtain ⟨r94, g94, hq94, h⟩ := z_b_some h
      refine z_callVv [] C zc_X11_303 zk_M rfl (by decide) (Nat.le_of_ble_eq_true rfl) dX11_patched_94 rfl (wX11_settle ad g90 g94 hq94) ?_
      refine z_iinc C dX11_patched_97 (by decide) 2 rfl (z_incl zci_1) [(2, .int (v2 + 1)), (0, .ref (ad 0)), (1, .int v1)] rfl ?_
      refine z_goto 75 C dX11_patched_100 rfl ?_
      refine z_loc [1, 2, 0] rfl ?_
      exact ih v1 (v2 + 1) g94 h
set_option maxRecDepth 100000 in
set_option maxHeartbeats 4000000 in
theorem wX11_patched_L110 {F : z_F} {ad : Nat → Nat} {r : Int32} {gE : z_S} (C : z_X F layM nM ad cX11_patched RX11 5 (some .int) 2 50 (some (.int r)) gE) (k134 : Int32 → Int64 → z_S → Option (Int32 × z_S)) (hk134 : ∀ (v1 : Int32) (v2 : Int64) (g : z_S), k134 v1 v2 g = some (r, gE) → z_W F layM nM ad 134 [(1, .int v1), (2, .long v2)] [] g) : ∀ (n : Nat) (v1 : Int32) (v2 : Int64) (v4 : Int32) (g : z_S), z_loop (fX11_patched_B110 k134) n (v1, v2, v4) g = some (r, gE) → z_W F layM nM ad 110 [(0, .ref (ad 0)), (1, .int v1), (2, .long v2), (4, .int v4)] [] g := by
  intro n
  induction n with
  | zero =>
    intro v1 v2 v4 g h
    exact (z_loop_0 h).elim
  | succ n ih =>
    intro v1 v2 v4 g h
    replace h := z_loop_S h
    simp only [fX11_patched_B110] at h
    refine z_iload C dX11_patched_110 3 rfl ?_
    refine z_iconst C dX11_patched_112 zci_4 ?_
    refine z_icmp_gt 134 C dX11_patched_113 rfl (fun hc => ?_) (fun hc => ?_)
    · replace h := z_it hc h
      refine z_loc [1, 2] rfl ?_
      exact hk134 v1 v2 g h
    · replace h := z_if hc h
      refine z_lload_n C dX11_patched_116 rfl 2 rfl ?_
      refine z_aload_n C dX11_patched_117 rfl 0 rfl ?_
      refine z_getr C zf_X11_103 zo_M_42 dX11_patched_118 ?_
      refine z_iload C dX11_patched_121 3 rfl ?_
      obtain ⟨hi123, h⟩ := z_g_some h
      refine z_lald C za_M_30 (z_in_vp hi123) dX11_patched_123 ?_
      obtain ⟨r124, g124, hq124, h⟩ := z_b_some h
      refine z_callSl [] C zc_X11_295 rfl (by decide) (Nat.le_of_ble_eq_true rfl) dX11_patched_124 rfl (wX11_least ad v2 (g.2 30 (v4).toNatClampNeg) g r124 g124 hq124) ?_
      refine z_lstore_n C dX11_patched_127 rfl (by decide) [(2, .long r124), (0, .ref (ad 0)), (1, .int v1), (4, .int v4)] rfl ?_
      refine z_iinc C dX11_patched_128 (by decide) 3 rfl (z_incl zci_1) [(4, .int (v4 + 1)), (2, .long r124), (0, .ref (ad 0)), (1, .int v1)] rfl ?_
      refine z_goto 110 C dX11_patched_131 rfl ?_
      refine z_loc [2, 3, 1, 0] rfl ?_
      exact ih v1 r124 (v4 + 1) g124 h
set_option maxRecDepth 100000 in
set_option maxHeartbeats 4000000 in
theorem wX11_patched (ad : Nat → Nat) (v1 : Int32) (g : z_S) (r : Int32) (gE : z_S) (h : fX11_patched v1 g = some (r, gE)) : z_M yX11_patched cX11_patched 5 (some .int) 2 50 layM nM ad [.ref (ad 0), .int v1] g (some (.int r)) gE := by
  refine z_enter (by decide) (Nat.le_of_ble_eq_true rfl) (fun F C => ?_)
  replace C : z_X F layM nM ad cX11_patched RX11 5 (some .int) 2 50 (some (.int r)) gE := C
  show z_W F layM nM ad 0 [(0, .ref (ad 0)), (1, .int v1)] [] g
  unfold fX11_patched at h
  refine z_iload_n C dX11_patched_0 rfl 1 rfl ?_
  refine z_i2l C dX11_patched_1 ?_
  refine z_lconst C dX11_patched_2 zcl_0 ?_
  refine z_lconst C dX11_patched_3 zcl_1 ?_
  obtain ⟨r4, g4, hq4, h⟩ := z_b_some h
  refine z_callSi [] C zc_X11_131 rfl (by decide) (Nat.le_of_ble_eq_true rfl) dX11_patched_4 rfl (wX11_in ad ((v1).toInt64) 0 1 g r4 g4 hq4) ?_
  refine z_if_ne 14 C dX11_patched_7 rfl (fun hc => ?_) (fun hc => ?_)
  · replace h := z_it hc h
    refine z_sipush C dX11_patched_10 zcs_m1002 ?_
    exact z_iret C (z_ret1i h) (z_ret2 h) dX11_patched_13
  · replace h := z_if hc h
    refine z_iconst C dX11_patched_14 zci_0 ?_
    refine z_istore_n C dX11_patched_15 rfl (by decide) [(2, .int 0), (0, .ref (ad 0)), (1, .int v1)] rfl ?_
    refine z_loc [1, 2, 0] rfl ?_
    refine wX11_patched_L16 C _ ?_ zN v1 0 g4 h
    · intro v1 g h
      refine z_iconst C dX11_patched_45 zci_0 ?_
      refine z_istore_n C dX11_patched_46 rfl (by decide) [(2, .int 0), (0, .ref (ad 0)), (1, .int v1)] rfl ?_
      refine z_loc [1, 2, 0] rfl ?_
      refine wX11_patched_L47 C _ ?_ zN v1 0 g h
      · intro v1 g h
        refine z_aload_n C dX11_patched_69 rfl 0 rfl ?_
        obtain ⟨r70, g70, hq70, h⟩ := z_b_some h
        refine z_callVv [] C zc_X11_303 zk_M rfl (by decide) (Nat.le_of_ble_eq_true rfl) dX11_patched_70 rfl (wX11_settle ad g g70 hq70) ?_
        refine z_iconst C dX11_patched_73 zci_0 ?_
        refine z_istore_n C dX11_patched_74 rfl (by decide) [(2, .int 0), (0, .ref (ad 0)), (1, .int v1)] rfl ?_
        refine z_loc [1, 2, 0] rfl ?_
        refine wX11_patched_L75 C _ ?_ zN v1 0 g70 h
        · intro v1 g h
          refine z_ldc2 C dX11_patched_103 zl_X11_293 ?_
          refine z_lstore_n C dX11_patched_106 rfl (by decide) [(2, .long 1000000000000), (0, .ref (ad 0)), (1, .int v1)] rfl ?_
          refine z_iconst C dX11_patched_107 zci_0 ?_
          refine z_istore C dX11_patched_108 (by decide) [(4, .int 0), (2, .long 1000000000000), (0, .ref (ad 0)), (1, .int v1)] rfl ?_
          refine z_loc [2, 3, 1, 0] rfl ?_
          refine wX11_patched_L110 C _ ?_ zN v1 1000000000000 0 g h
          · intro v1 v2 g h
            refine z_iload_n C dX11_patched_134 rfl 0 rfl ?_
            refine z_if_ne 146 C dX11_patched_135 rfl (fun hc => ?_) (fun hc => ?_)
            · replace h := z_it hc h
              refine z_lload_n C dX11_patched_138 rfl 1 rfl ?_
              refine z_ldc2 C dX11_patched_139 zl_X11_291 ?_
              refine z_ldiv C dX11_patched_142 (by decide) ?_
              refine z_goto 151 C dX11_patched_143 rfl ?_
              refine z_l2i C dX11_patched_151 ?_
              exact z_iret C (z_ret1i h) (z_ret2 h) dX11_patched_152
            · replace h := z_if hc h
              refine z_lload_n C dX11_patched_146 rfl 1 rfl ?_
              refine z_ldc2 C dX11_patched_147 zl_X11_291 ?_
              refine z_lrem C dX11_patched_150 (by decide) ?_
              refine z_l2i C dX11_patched_151 ?_
              exact z_iret C (z_ret1i h) (z_ret2 h) dX11_patched_152
set_option maxRecDepth 100000 in
set_option maxHeartbeats 4000000 in
theorem wX11_line_L33 {F : z_F} {ad : Nat → Nat} {r : Int32} {gE : z_S} (C : z_X F layM nM ad cX11_line RX11 2 (some .int) 1 25 (some (.int r)) gE) (k67 : z_S → Option (Int32 × z_S)) (hk67 : ∀ (g : z_S), k67 g = some (r, gE) → z_W F layM nM ad 67 [(0, .ref (ad 0))] [] g) : ∀ (n : Nat) (v1 : Int32) (g : z_S), z_loop (fX11_line_B33 k67) n v1 g = some (r, gE) → z_W F layM nM ad 33 [(0, .ref (ad 0)), (1, .int v1)] [] g := by
  intro n
  induction n with
  | zero =>
    intro v1 g h
    exact (z_loop_0 h).elim
  | succ n ih =>
    intro v1 g h
    replace h := z_loop_S h
    simp only [fX11_line_B33] at h
    refine z_iload_n C dX11_line_33 rfl 1 rfl ?_
    refine z_aload_n C dX11_line_34 rfl 0 rfl ?_
    refine z_geti C zf_X11_141 zo_M_9 dX11_line_35 ?_
    refine z_icmp_ge 67 C dX11_line_38 rfl (fun hc => ?_) (fun hc => ?_)
    · replace h := z_it hc h
      refine z_loc [0] rfl ?_
      exact hk67 g h
    · replace h := z_if hc h
      refine z_aload_n C dX11_line_41 rfl 0 rfl ?_
      refine z_getr C zf_X11_32 zo_M_11 dX11_line_42 ?_
      refine z_bipush C dX11_line_45 zcb_24 ?_
      refine z_aload_n C dX11_line_47 rfl 0 rfl ?_
      refine z_geti C zf_X11_138 zo_M_10 dX11_line_48 ?_
      refine z_imul C dX11_line_51 ?_
      refine z_iload_n C dX11_line_52 rfl 1 rfl ?_
      refine z_iadd C dX11_line_53 ?_
      refine z_aload_n C dX11_line_54 rfl 0 rfl ?_
      refine z_getr C zf_X11_29 zo_M_8 dX11_line_55 ?_
      refine z_iload_n C dX11_line_58 rfl 1 rfl ?_
      obtain ⟨hi59, h⟩ := z_g_some h
      refine z_iald C za_M_7 (z_in_vp hi59) dX11_line_59 ?_
      obtain ⟨hi60, h⟩ := z_g_some h
      obtain ⟨g60, eg60, h⟩ := z_s_some h
      refine z_iast C za_M_8 (z_in_vp hi60) dX11_line_60 ?_
      refine z_gw eg60 ?_
      refine z_iinc C dX11_line_61 (by decide) 1 rfl (z_incl zci_1) [(1, .int (v1 + 1)), (0, .ref (ad 0))] rfl ?_
      refine z_goto 33 C dX11_line_64 rfl ?_
      refine z_loc [1, 0] rfl ?_
      exact ih (v1 + 1) g60 h
set_option maxRecDepth 100000 in
set_option maxHeartbeats 4000000 in
theorem wX11_line (ad : Nat → Nat) (g : z_S) (r : Int32) (gE : z_S) (h : fX11_line g = some (r, gE)) : z_M yX11_line cX11_line 2 (some .int) 1 25 layM nM ad [.ref (ad 0)] g (some (.int r)) gE := by
  refine z_enter (by decide) (Nat.le_of_ble_eq_true rfl) (fun F C => ?_)
  replace C : z_X F layM nM ad cX11_line RX11 2 (some .int) 1 25 (some (.int r)) gE := C
  show z_W F layM nM ad 0 [(0, .ref (ad 0))] [] g
  unfold fX11_line at h
  refine z_aload_n C dX11_line_0 rfl 0 rfl ?_
  refine z_geti C zf_X11_141 zo_M_9 dX11_line_1 ?_
  refine z_i2l C dX11_line_4 ?_
  refine z_lconst C dX11_line_5 zcl_1 ?_
  refine z_ldc2 C dX11_line_6 zl_X11_310 ?_
  obtain ⟨r9, g9, hq9, h⟩ := z_b_some h
  refine z_callSi [] C zc_X11_131 rfl (by decide) (Nat.le_of_ble_eq_true rfl) dX11_line_9 rfl (wX11_in ad ((g.1 0 9).toInt64) 1 24 g r9 g9 hq9) ?_
  refine z_if_ne 19 C dX11_line_12 rfl (fun hc => ?_) (fun hc => ?_)
  · replace h := z_it hc h
    refine z_sipush C dX11_line_15 zcs_m1002 ?_
    exact z_iret C (z_ret1i h) (z_ret2 h) dX11_line_18
  · replace h := z_if hc h
    refine z_aload_n C dX11_line_19 rfl 0 rfl ?_
    refine z_geti C zf_X11_138 zo_M_10 dX11_line_20 ?_
    refine z_iconst C dX11_line_23 zci_4 ?_
    refine z_icmp_ne 31 C dX11_line_24 rfl (fun hc => ?_) (fun hc => ?_)
    · replace h := z_it hc h
      refine z_sipush C dX11_line_27 zcs_m1004 ?_
      exact z_iret C (z_ret1i h) (z_ret2 h) dX11_line_30
    · replace h := z_if hc h
      refine z_iconst C dX11_line_31 zci_0 ?_
      refine z_istore_n C dX11_line_32 rfl (by decide) [(1, .int 0), (0, .ref (ad 0))] rfl ?_
      refine z_loc [1, 0] rfl ?_
      refine wX11_line_L33 C _ ?_ zN 0 g9 h
      · intro g h
        refine z_aload_n C dX11_line_67 rfl 0 rfl ?_
        refine z_getr C zf_X11_35 zo_M_12 dX11_line_68 ?_
        refine z_aload_n C dX11_line_71 rfl 0 rfl ?_
        refine z_geti C zf_X11_138 zo_M_10 dX11_line_72 ?_
        refine z_aload_n C dX11_line_75 rfl 0 rfl ?_
        refine z_geti C zf_X11_141 zo_M_9 dX11_line_76 ?_
        obtain ⟨hi79, h⟩ := z_g_some h
        obtain ⟨g79, eg79, h⟩ := z_s_some h
        refine z_iast C za_M_9 (z_in_vp hi79) dX11_line_79 ?_
        refine z_gw eg79 ?_
        refine z_aload_n C dX11_line_80 rfl 0 rfl ?_
        refine z_dup C dX11_line_81 rfl ?_
        refine z_geti C zf_X11_138 zo_M_10 dX11_line_82 ?_
        refine z_iconst C dX11_line_85 zci_1 ?_
        refine z_iadd C dX11_line_86 ?_
        obtain ⟨g87, eg87, h⟩ := z_s_some h
        refine z_puti C zp_X11_138 zo_M_10 rfl rfl dX11_line_87 ?_
        refine z_gw eg87 ?_
        refine z_aload_n C dX11_line_90 rfl 0 rfl ?_
        refine z_iconst C dX11_line_91 zci_0 ?_
        obtain ⟨g92, eg92, h⟩ := z_s_some h
        refine z_puti C zp_X11_141 zo_M_9 rfl rfl dX11_line_92 ?_
        refine z_gw eg92 ?_
        refine z_aload_n C dX11_line_95 rfl 0 rfl ?_
        refine z_geti C zf_X11_138 zo_M_10 dX11_line_96 ?_
        exact z_iret C (z_ret1i h) (z_ret2 h) dX11_line_99
set_option maxRecDepth 100000 in
set_option maxHeartbeats 4000000 in
theorem wX11_drop (ad : Nat → Nat) (g : z_S) (r : Int32) (gE : z_S) (h : fX11_drop g = some (r, gE)) : z_M yX11_drop cX11_drop 2 (some .int) 0 0 layM nM ad [.ref (ad 0)] g (some (.int r)) gE := by
  refine z_enter (by decide) (Nat.le_of_ble_eq_true rfl) (fun F C => ?_)
  replace C : z_X F layM nM ad cX11_drop RX11 2 (some .int) 0 0 (some (.int r)) gE := C
  show z_W F layM nM ad 0 [(0, .ref (ad 0))] [] g
  unfold fX11_drop at h
  refine z_aload_n C dX11_drop_0 rfl 0 rfl ?_
  refine z_geti C zf_X11_138 zo_M_10 dX11_drop_1 ?_
  refine z_istore_n C dX11_drop_4 rfl (by decide) [(1, .int (g.1 0 10)), (0, .ref (ad 0))] rfl ?_
  refine z_aload_n C dX11_drop_5 rfl 1 rfl ?_
  refine z_iconst C dX11_drop_6 zci_0 ?_
  obtain ⟨g7, eg7, h⟩ := z_s_some h
  refine z_puti C zp_X11_138 zo_M_10 rfl rfl dX11_drop_7 ?_
  refine z_gw eg7 ?_
  refine z_iload_n C dX11_drop_10 rfl 0 rfl ?_
  exact z_iret C (z_ret1i h) (z_ret2 h) dX11_drop_11
set_option maxRecDepth 100000 in
set_option maxHeartbeats 4000000 in
theorem wX11_standsIn_L27 {F : z_F} {ad : Nat → Nat} {r : Int32} {gE : z_S} (C : z_X F layM nM ad cX11_standsIn RX11 6 (some .boolean) 0 0 (some (.int r)) gE) : ∀ (n : Nat) (v1 : Int32) (v2 : Int32) (v3 : Int32) (v4 : Int32) (v5 : Int32) (g : z_S), z_loop fX11_standsIn_B27 n (v1, v2, v3, v4, v5) g = some (r, gE) → z_W F layM nM ad 27 [(0, .ref (ad 0)), (1, .int v1), (2, .int v2), (3, .int v3), (4, .int v4), (5, .int v5)] [] g := by
  intro n
  induction n with
  | zero =>
    intro v1 v2 v3 v4 v5 g h
    exact (z_loop_0 h).elim
  | succ n ih =>
    intro v1 v2 v3 v4 v5 g h
    replace h := z_loop_S h
    simp only [fX11_standsIn_B27] at h
    refine z_iload C dX11_standsIn_27 5 rfl ?_
    refine z_aload_n C dX11_standsIn_29 rfl 0 rfl ?_
    refine z_getr C zf_X11_13 zo_M_3 dX11_standsIn_30 ?_
    refine z_iload_n C dX11_standsIn_33 rfl 2 rfl ?_
    obtain ⟨hi34, h⟩ := z_g_some h
    refine z_iald C za_M_2 (z_in_vp hi34) dX11_standsIn_34 ?_
    refine z_icmp_ge 85 C dX11_standsIn_35 rfl (fun hc => ?_) (fun hc => ?_)
    · replace h := z_it hc h
      refine z_iload C dX11_standsIn_85 4 rfl ?_
      obtain ⟨hz, h⟩ := z_g_some h
      exact z_zret C (eq_of_beq hz) (z_ret1i h) (z_ret2 h) dX11_standsIn_87
    · replace h := z_if hc h
      refine z_iload C dX11_standsIn_38 4 rfl ?_
      refine z_if_eq 85 C dX11_standsIn_40 rfl (fun hc => ?_) (fun hc => ?_)
      · replace h := z_it hc h
        refine z_iload C dX11_standsIn_85 4 rfl ?_
        obtain ⟨hz, h⟩ := z_g_some h
        exact z_zret C (eq_of_beq hz) (z_ret1i h) (z_ret2 h) dX11_standsIn_87
      · replace h := z_if hc h
        refine z_aload_n C dX11_standsIn_43 rfl 0 rfl ?_
        refine z_getr C zf_X11_32 zo_M_11 dX11_standsIn_44 ?_
        refine z_bipush C dX11_standsIn_47 zcb_24 ?_
        refine z_iload_n C dX11_standsIn_49 rfl 1 rfl ?_
        refine z_imul C dX11_standsIn_50 ?_
        refine z_iload_n C dX11_standsIn_51 rfl 3 rfl ?_
        refine z_iadd C dX11_standsIn_52 ?_
        refine z_iload C dX11_standsIn_53 5 rfl ?_
        refine z_iadd C dX11_standsIn_55 ?_
        obtain ⟨hi56, h⟩ := z_g_some h
        refine z_iald C za_M_8 (z_in_vp hi56) dX11_standsIn_56 ?_
        refine z_aload_n C dX11_standsIn_57 rfl 0 rfl ?_
        refine z_getr C zf_X11_7 zo_M_2 dX11_standsIn_58 ?_
        refine z_bipush C dX11_standsIn_61 zcb_8 ?_
        refine z_iload_n C dX11_standsIn_63 rfl 2 rfl ?_
        refine z_imul C dX11_standsIn_64 ?_
        refine z_iload C dX11_standsIn_65 5 rfl ?_
        refine z_iadd C dX11_standsIn_67 ?_
        obtain ⟨hi68, h⟩ := z_g_some h
        refine z_iald C za_M_1 (z_in_vp hi68) dX11_standsIn_68 ?_
        refine z_icmp_ne 76 C dX11_standsIn_69 rfl (fun hc => ?_) (fun hc => ?_)
        · replace h := z_it hc h
          refine z_iconst C dX11_standsIn_72 zci_1 ?_
          refine z_goto 77 C dX11_standsIn_73 rfl ?_
          refine z_istore C dX11_standsIn_77 (by decide) [(4, .int 1), (0, .ref (ad 0)), (1, .int v1), (2, .int v2), (3, .int v3), (5, .int v5)] rfl ?_
          refine z_iinc C dX11_standsIn_79 (by decide) 5 rfl (z_incl zci_1) [(5, .int (v5 + 1)), (4, .int 1), (0, .ref (ad 0)), (1, .int v1), (2, .int v2), (3, .int v3)] rfl ?_
          refine z_goto 27 C dX11_standsIn_82 rfl ?_
          refine z_loc [2, 3, 4, 5, 1, 0] rfl ?_
          exact ih v1 v2 v3 1 (v5 + 1) g h
        · replace h := z_if hc h
          refine z_iconst C dX11_standsIn_76 zci_0 ?_
          refine z_istore C dX11_standsIn_77 (by decide) [(4, .int 0), (0, .ref (ad 0)), (1, .int v1), (2, .int v2), (3, .int v3), (5, .int v5)] rfl ?_
          refine z_iinc C dX11_standsIn_79 (by decide) 5 rfl (z_incl zci_1) [(5, .int (v5 + 1)), (4, .int 0), (0, .ref (ad 0)), (1, .int v1), (2, .int v2), (3, .int v3)] rfl ?_
          refine z_goto 27 C dX11_standsIn_82 rfl ?_
          refine z_loc [2, 3, 4, 5, 1, 0] rfl ?_
          exact ih v1 v2 v3 0 (v5 + 1) g h
set_option maxRecDepth 100000 in
set_option maxHeartbeats 4000000 in
theorem wX11_standsIn (ad : Nat → Nat) (v1 : Int32) (v2 : Int32) (v3 : Int32) (g : z_S) (r : Int32) (gE : z_S) (h : fX11_standsIn v1 v2 v3 g = some (r, gE)) : z_M yX11_standsIn cX11_standsIn 6 (some .boolean) 0 0 layM nM ad [.ref (ad 0), .int v1, .int v2, .int v3] g (some (.int r)) gE := by
  refine z_enter (by decide) (Nat.le_of_ble_eq_true rfl) (fun F C => ?_)
  replace C : z_X F layM nM ad cX11_standsIn RX11 6 (some .boolean) 0 0 (some (.int r)) gE := C
  show z_W F layM nM ad 0 [(0, .ref (ad 0)), (1, .int v1), (2, .int v2), (3, .int v3)] [] g
  unfold fX11_standsIn at h
  refine z_iload_n C dX11_standsIn_0 rfl 3 rfl ?_
  refine z_aload_n C dX11_standsIn_1 rfl 0 rfl ?_
  refine z_getr C zf_X11_13 zo_M_3 dX11_standsIn_2 ?_
  refine z_iload_n C dX11_standsIn_5 rfl 2 rfl ?_
  obtain ⟨hi6, h⟩ := z_g_some h
  refine z_iald C za_M_2 (z_in_vp hi6) dX11_standsIn_6 ?_
  refine z_iadd C dX11_standsIn_7 ?_
  refine z_aload_n C dX11_standsIn_8 rfl 0 rfl ?_
  refine z_getr C zf_X11_35 zo_M_12 dX11_standsIn_9 ?_
  refine z_iload_n C dX11_standsIn_12 rfl 1 rfl ?_
  obtain ⟨hi13, h⟩ := z_g_some h
  refine z_iald C za_M_9 (z_in_vp hi13) dX11_standsIn_13 ?_
  refine z_icmp_gt 21 C dX11_standsIn_14 rfl (fun hc => ?_) (fun hc => ?_)
  · replace h := z_it hc h
    refine z_iconst C dX11_standsIn_21 zci_0 ?_
    refine z_istore C dX11_standsIn_22 (by decide) [(4, .int 0), (0, .ref (ad 0)), (1, .int v1), (2, .int v2), (3, .int v3)] rfl ?_
    refine z_iconst C dX11_standsIn_24 zci_0 ?_
    refine z_istore C dX11_standsIn_25 (by decide) [(5, .int 0), (4, .int 0), (0, .ref (ad 0)), (1, .int v1), (2, .int v2), (3, .int v3)] rfl ?_
    refine z_loc [2, 3, 4, 5, 1, 0] rfl ?_
    refine wX11_standsIn_L27 C  zN v1 v2 v3 0 0 g h
  · replace h := z_if hc h
    refine z_iconst C dX11_standsIn_17 zci_1 ?_
    refine z_goto 22 C dX11_standsIn_18 rfl ?_
    refine z_istore C dX11_standsIn_22 (by decide) [(4, .int 1), (0, .ref (ad 0)), (1, .int v1), (2, .int v2), (3, .int v3)] rfl ?_
    refine z_iconst C dX11_standsIn_24 zci_0 ?_
    refine z_istore C dX11_standsIn_25 (by decide) [(5, .int 0), (4, .int 1), (0, .ref (ad 0)), (1, .int v1), (2, .int v2), (3, .int v3)] rfl ?_
    refine z_loc [2, 3, 4, 5, 1, 0] rfl ?_
    refine wX11_standsIn_L27 C  zN v1 v2 v3 1 0 g h
set_option maxRecDepth 100000 in
set_option maxHeartbeats 4000000 in
theorem wX11_findSums_L56 {F : z_F} {ad : Nat → Nat} {r : Int32} {gE : z_S} (C : z_X F layM nM ad cX11_findSums RX11 8 (some .int) 1 25 (some (.int r)) gE) (k148 : Int32 → Int32 → Int32 → Int32 → Int32 → z_S → Option (Int32 × z_S)) (hk148 : ∀ (v1 : Int32) (v2 : Int32) (v3 : Int32) (v4 : Int32) (v5 : Int32) (g : z_S), k148 v1 v2 v3 v4 v5 g = some (r, gE) → z_W F layM nM ad 148 [(0, .ref (ad 0)), (1, .int v1), (2, .int v2), (3, .int v3), (4, .int v4), (5, .int v5)] [] g) : ∀ (n : Nat) (v1 : Int32) (v2 : Int32) (v3 : Int32) (v4 : Int32) (v5 : Int32) (v6 : Int32) (g : z_S), z_loop (fX11_findSums_B56 k148) n (v1, v2, v3, v4, v5, v6) g = some (r, gE) → z_W F layM nM ad 56 [(0, .ref (ad 0)), (1, .int v1), (2, .int v2), (3, .int v3), (4, .int v4), (5, .int v5), (6, .int v6)] [] g := by
  intro n
  induction n with
  | zero =>
    intro v1 v2 v3 v4 v5 v6 g h
    exact (z_loop_0 h).elim
  | succ n ih =>
    intro v1 v2 v3 v4 v5 v6 g h
    replace h := z_loop_S h
    simp only [fX11_findSums_B56] at h
    refine z_iload C dX11_findSums_56 6 rfl ?_
    refine z_aload_n C dX11_findSums_58 rfl 0 rfl ?_
    refine z_geti C zf_X11_135 zo_M_1 dX11_findSums_59 ?_
    refine z_icmp_ge 148 C dX11_findSums_62 rfl (fun hc => ?_) (fun hc => ?_)
    · replace h := z_it hc h
      refine z_loc [0, 1, 2, 3, 4, 5] rfl ?_
      exact hk148 v1 v2 v3 v4 v5 g h
    · replace h := z_if hc h
      refine z_iload_n C dX11_findSums_65 rfl 3 rfl ?_
      refine z_iload_n C dX11_findSums_66 rfl 2 rfl ?_
      refine z_icmp_ge 148 C dX11_findSums_67 rfl (fun hc => ?_) (fun hc => ?_)
      · replace h := z_it hc h
        refine z_loc [0, 1, 2, 3, 4, 5] rfl ?_
        exact hk148 v1 v2 v3 v4 v5 g h
      · replace h := z_if hc h
        refine z_aload_n C dX11_findSums_70 rfl 0 rfl ?_
        refine z_iload C dX11_findSums_71 4 rfl ?_
        refine z_iload C dX11_findSums_73 6 rfl ?_
        obtain ⟨r75, g75, hq75, h⟩ := z_b_some h
        refine z_callVi [] C zc_X11_209 zk_M rfl (by decide) (Nat.le_of_ble_eq_true rfl) dX11_findSums_75 rfl (wX11_mayFollow ad v4 v6 g r75 g75 hq75) ?_
        refine z_if_eq 142 C dX11_findSums_78 rfl (fun hc => ?_) (fun hc => ?_)
        · replace h := z_it hc h
          refine z_iinc C dX11_findSums_142 (by decide) 6 rfl (z_incl zci_1) [(6, .int (v6 + 1)), (0, .ref (ad 0)), (1, .int v1), (2, .int v2), (3, .int v3), (4, .int v4), (5, .int v5)] rfl ?_
          refine z_goto 56 C dX11_findSums_145 rfl ?_
          refine z_loc [1, 2, 3, 4, 5, 6, 0] rfl ?_
          exact ih v1 v2 v3 v4 v5 (v6 + 1) g75 h
        · replace h := z_if hc h
          refine z_aload_n C dX11_findSums_81 rfl 0 rfl ?_
          refine z_iload_n C dX11_findSums_82 rfl 1 rfl ?_
          refine z_iload C dX11_findSums_83 6 rfl ?_
          refine z_iload_n C dX11_findSums_85 rfl 3 rfl ?_
          obtain ⟨r86, g86, hq86, h⟩ := z_b_some h
          refine z_callVi [] C zc_X11_312 zk_M rfl (by decide) (Nat.le_of_ble_eq_true rfl) dX11_findSums_86 rfl (wX11_standsIn ad v1 v6 v3 g75 r86 g86 hq86) ?_
          refine z_if_eq 142 C dX11_findSums_89 rfl (fun hc => ?_) (fun hc => ?_)
          · replace h := z_it hc h
            refine z_iinc C dX11_findSums_142 (by decide) 6 rfl (z_incl zci_1) [(6, .int (v6 + 1)), (0, .ref (ad 0)), (1, .int v1), (2, .int v2), (3, .int v3), (4, .int v4), (5, .int v5)] rfl ?_
            refine z_goto 56 C dX11_findSums_145 rfl ?_
            refine z_loc [1, 2, 3, 4, 5, 6, 0] rfl ?_
            exact ih v1 v2 v3 v4 v5 (v6 + 1) g86 h
          · replace h := z_if hc h
            refine z_aload_n C dX11_findSums_92 rfl 0 rfl ?_
            refine z_getr C zf_X11_16 zo_M_4 dX11_findSums_93 ?_
            refine z_iload C dX11_findSums_96 6 rfl ?_
            obtain ⟨hi98, h⟩ := z_g_some h
            refine z_iald C za_M_3 (z_in_vp hi98) dX11_findSums_98 ?_
            refine z_aload_n C dX11_findSums_99 rfl 0 rfl ?_
            refine z_getr C zf_X11_115 zo_M_46 dX11_findSums_100 ?_
            refine z_iload_n C dX11_findSums_103 rfl 3 rfl ?_
            refine z_aload_n C dX11_findSums_104 rfl 0 rfl ?_
            refine z_getr C zf_X11_13 zo_M_3 dX11_findSums_105 ?_
            refine z_iload C dX11_findSums_108 6 rfl ?_
            obtain ⟨hi110, h⟩ := z_g_some h
            refine z_iald C za_M_2 (z_in_vp hi110) dX11_findSums_110 ?_
            refine z_iadd C dX11_findSums_111 ?_
            refine z_aload_n C dX11_findSums_112 rfl 0 rfl ?_
            refine z_getr C zf_X11_19 zo_M_5 dX11_findSums_113 ?_
            refine z_iload C dX11_findSums_116 6 rfl ?_
            obtain ⟨hi118, h⟩ := z_g_some h
            refine z_iald C za_M_4 (z_in_vp hi118) dX11_findSums_118 ?_
            obtain ⟨r119, g119, hq119, h⟩ := z_b_some h
            refine z_callSi [.ref (ad 34), .int (g86.1 3 (v6).toNatClampNeg)] C zc_X11_201 rfl (by decide) (Nat.le_of_ble_eq_true rfl) dX11_findSums_119 rfl (wX11_cell ad (v3 + (g86.1 2 (v6).toNatClampNeg)) (g86.1 4 (v6).toNatClampNeg) g86 r119 g119 hq119) ?_
            obtain ⟨hi122, h⟩ := z_g_some h
            refine z_iald C za_M_34 (z_in_vp hi122) dX11_findSums_122 ?_
            refine z_iadd C dX11_findSums_123 ?_
            refine z_istore C dX11_findSums_124 (by decide) [(7, .int ((g86.1 3 (v6).toNatClampNeg) + (g119.1 34 (r119).toNatClampNeg))), (0, .ref (ad 0)), (1, .int v1), (2, .int v2), (3, .int v3), (4, .int v4), (5, .int v5), (6, .int v6)] rfl ?_
            refine z_iload C dX11_findSums_126 0 rfl ?_
            refine z_iload C dX11_findSums_128 6 rfl ?_
            refine z_icmp_ge 138 C dX11_findSums_130 rfl (fun hc => ?_) (fun hc => ?_)
            · replace h := z_it hc h
              refine z_iload C dX11_findSums_138 6 rfl ?_
              refine z_istore C dX11_findSums_140 (by decide) [(5, .int v5), (7, .int ((g86.1 3 (v6).toNatClampNeg) + (g119.1 34 (r119).toNatClampNeg))), (0, .ref (ad 0)), (1, .int v1), (2, .int v2), (3, .int v3), (4, .int v4), (6, .int v6)] rfl ?_
              refine z_iinc C dX11_findSums_142 (by decide) 7 rfl (z_incl zci_1) [(6, .int (v6 + 1)), (5, .int v5), (7, .int ((g86.1 3 (v6).toNatClampNeg) + (g119.1 34 (r119).toNatClampNeg))), (0, .ref (ad 0)), (1, .int v1), (2, .int v2), (3, .int v3), (4, .int v4)] rfl ?_
              refine z_goto 56 C dX11_findSums_145 rfl ?_
              refine z_loc [3, 4, 5, 6, 7, 1, 0] rfl ?_
              exact ih v1 v2 v3 v4 v5 (v6 + 1) g119 h
            · replace h := z_if hc h
              refine z_iload C dX11_findSums_133 0 rfl ?_
              refine z_goto 140 C dX11_findSums_135 rfl ?_
              refine z_istore C dX11_findSums_140 (by decide) [(5, .int ((g86.1 3 (v6).toNatClampNeg) + (g119.1 34 (r119).toNatClampNeg))), (7, .int ((g86.1 3 (v6).toNatClampNeg) + (g119.1 34 (r119).toNatClampNeg))), (0, .ref (ad 0)), (1, .int v1), (2, .int v2), (3, .int v3), (4, .int v4), (6, .int v6)] rfl ?_
              refine z_iinc C dX11_findSums_142 (by decide) 7 rfl (z_incl zci_1) [(6, .int (v6 + 1)), (5, .int ((g86.1 3 (v6).toNatClampNeg) + (g119.1 34 (r119).toNatClampNeg))), (7, .int ((g86.1 3 (v6).toNatClampNeg) + (g119.1 34 (r119).toNatClampNeg))), (0, .ref (ad 0)), (1, .int v1), (2, .int v2), (3, .int v3), (4, .int v4)] rfl ?_
              refine z_goto 56 C dX11_findSums_145 rfl ?_
              refine z_loc [3, 4, 5, 6, 7, 1, 0] rfl ?_
              exact ih v1 v2 v3 v4 ((g86.1 3 (v6).toNatClampNeg) + (g119.1 34 (r119).toNatClampNeg)) (v6 + 1) g119 h
set_option maxRecDepth 100000 in
set_option maxHeartbeats 4000000 in
theorem wX11_findSums_L16 {F : z_F} {ad : Nat → Nat} {r : Int32} {gE : z_S} (C : z_X F layM nM ad cX11_findSums RX11 8 (some .int) 1 25 (some (.int r)) gE) (k167 : Int32 → Int32 → Int32 → z_S → Option (Int32 × z_S)) (hk167 : ∀ (v1 : Int32) (v2 : Int32) (v3 : Int32) (g : z_S), k167 v1 v2 v3 g = some (r, gE) → z_W F layM nM ad 167 [(0, .ref (ad 0)), (1, .int v1), (2, .int v2), (3, .int v3)] [] g) : ∀ (n : Nat) (v1 : Int32) (v2 : Int32) (v3 : Int32) (v4 : Int32) (g : z_S), z_loop (fX11_findSums_B16 k167) n (v1, v2, v3, v4) g = some (r, gE) → z_W F layM nM ad 16 [(0, .ref (ad 0)), (1, .int v1), (2, .int v2), (3, .int v3), (4, .int v4)] [] g := by
  intro n
  induction n with
  | zero =>
    intro v1 v2 v3 v4 g h
    exact (z_loop_0 h).elim
  | succ n ih =>
    intro v1 v2 v3 v4 g h
    replace h := z_loop_S h
    simp only [fX11_findSums_B16] at h
    refine z_iload C dX11_findSums_16 4 rfl ?_
    refine z_iconst C dX11_findSums_18 zci_4 ?_
    refine z_icmp_gt 167 C dX11_findSums_19 rfl (fun hc => ?_) (fun hc => ?_)
    · replace h := z_it hc h
      refine z_loc [0, 1, 2, 3] rfl ?_
      exact hk167 v1 v2 v3 g h
    · replace h := z_if hc h
      refine z_iload_n C dX11_findSums_22 rfl 3 rfl ?_
      refine z_iload_n C dX11_findSums_23 rfl 2 rfl ?_
      refine z_icmp_ne 31 C dX11_findSums_24 rfl (fun hc => ?_) (fun hc => ?_)
      · replace h := z_it hc h
        refine z_iconst C dX11_findSums_27 zci_0 ?_
        refine z_goto 51 C dX11_findSums_28 rfl ?_
        refine z_istore C dX11_findSums_51 (by decide) [(5, .int 0), (0, .ref (ad 0)), (1, .int v1), (2, .int v2), (3, .int v3), (4, .int v4)] rfl ?_
        refine z_iconst C dX11_findSums_53 zci_0 ?_
        refine z_istore C dX11_findSums_54 (by decide) [(6, .int 0), (5, .int 0), (0, .ref (ad 0)), (1, .int v1), (2, .int v2), (3, .int v3), (4, .int v4)] rfl ?_
        refine z_loc [2, 3, 4, 5, 6, 1, 0] rfl ?_
        refine wX11_findSums_L56 C _ ?_ zN v1 v2 v3 v4 0 0 g h
        · intro v1 v2 v3 v4 v5 g h
          refine z_aload_n C dX11_findSums_148 rfl 0 rfl ?_
          refine z_getr C zf_X11_115 zo_M_46 dX11_findSums_149 ?_
          refine z_iload_n C dX11_findSums_152 rfl 3 rfl ?_
          refine z_iload C dX11_findSums_153 4 rfl ?_
          obtain ⟨r155, g155, hq155, h⟩ := z_b_some h
          refine z_callSi [.ref (ad 34)] C zc_X11_201 rfl (by decide) (Nat.le_of_ble_eq_true rfl) dX11_findSums_155 rfl (wX11_cell ad v3 v4 g r155 g155 hq155) ?_
          refine z_iload C dX11_findSums_158 5 rfl ?_
          obtain ⟨hi160, h⟩ := z_g_some h
          obtain ⟨g160, eg160, h⟩ := z_s_some h
          refine z_iast C za_M_34 (z_in_vp hi160) dX11_findSums_160 ?_
          refine z_gw eg160 ?_
          refine z_iinc C dX11_findSums_161 (by decide) 4 rfl (z_incl zci_1) [(4, .int (v4 + 1)), (0, .ref (ad 0)), (1, .int v1), (2, .int v2), (3, .int v3), (5, .int v5)] rfl ?_
          refine z_goto 16 C dX11_findSums_164 rfl ?_
          refine z_loc [1, 2, 3, 4, 0] rfl ?_
          exact ih v1 v2 v3 (v4 + 1) g160 h
      · replace h := z_if hc h
        refine z_aload_n C dX11_findSums_31 rfl 0 rfl ?_
        refine z_getr C zf_X11_26 zo_M_7 dX11_findSums_32 ?_
        refine z_iconst C dX11_findSums_35 zci_2 ?_
        obtain ⟨hi36, h⟩ := z_g_some h
        refine z_iald C za_M_6 (z_in_vp hi36) dX11_findSums_36 ?_
        refine z_aload_n C dX11_findSums_37 rfl 0 rfl ?_
        refine z_getr C zf_X11_115 zo_M_46 dX11_findSums_38 ?_
        refine z_iload_n C dX11_findSums_41 rfl 3 rfl ?_
        refine z_iconst C dX11_findSums_42 zci_1 ?_
        refine z_iadd C dX11_findSums_43 ?_
        refine z_iload C dX11_findSums_44 4 rfl ?_
        obtain ⟨r46, g46, hq46, h⟩ := z_b_some h
        refine z_callSi [.ref (ad 34), .int (g.1 6 (2 : Int32).toNatClampNeg)] C zc_X11_201 rfl (by decide) (Nat.le_of_ble_eq_true rfl) dX11_findSums_46 rfl (wX11_cell ad (v3 + 1) v4 g r46 g46 hq46) ?_
        obtain ⟨hi49, h⟩ := z_g_some h
        refine z_iald C za_M_34 (z_in_vp hi49) dX11_findSums_49 ?_
        refine z_iadd C dX11_findSums_50 ?_
        refine z_istore C dX11_findSums_51 (by decide) [(5, .int ((g.1 6 (2 : Int32).toNatClampNeg) + (g46.1 34 (r46).toNatClampNeg))), (0, .ref (ad 0)), (1, .int v1), (2, .int v2), (3, .int v3), (4, .int v4)] rfl ?_
        refine z_iconst C dX11_findSums_53 zci_0 ?_
        refine z_istore C dX11_findSums_54 (by decide) [(6, .int 0), (5, .int ((g.1 6 (2 : Int32).toNatClampNeg) + (g46.1 34 (r46).toNatClampNeg))), (0, .ref (ad 0)), (1, .int v1), (2, .int v2), (3, .int v3), (4, .int v4)] rfl ?_
        refine z_loc [2, 3, 4, 5, 6, 1, 0] rfl ?_
        refine wX11_findSums_L56 C _ ?_ zN v1 v2 v3 v4 ((g.1 6 (2 : Int32).toNatClampNeg) + (g46.1 34 (r46).toNatClampNeg)) 0 g46 h
        · intro v1 v2 v3 v4 v5 g h
          refine z_aload_n C dX11_findSums_148 rfl 0 rfl ?_
          refine z_getr C zf_X11_115 zo_M_46 dX11_findSums_149 ?_
          refine z_iload_n C dX11_findSums_152 rfl 3 rfl ?_
          refine z_iload C dX11_findSums_153 4 rfl ?_
          obtain ⟨r155, g155, hq155, h⟩ := z_b_some h
          refine z_callSi [.ref (ad 34)] C zc_X11_201 rfl (by decide) (Nat.le_of_ble_eq_true rfl) dX11_findSums_155 rfl (wX11_cell ad v3 v4 g r155 g155 hq155) ?_
          refine z_iload C dX11_findSums_158 5 rfl ?_
          obtain ⟨hi160, h⟩ := z_g_some h
          obtain ⟨g160, eg160, h⟩ := z_s_some h
          refine z_iast C za_M_34 (z_in_vp hi160) dX11_findSums_160 ?_
          refine z_gw eg160 ?_
          refine z_iinc C dX11_findSums_161 (by decide) 4 rfl (z_incl zci_1) [(4, .int (v4 + 1)), (0, .ref (ad 0)), (1, .int v1), (2, .int v2), (3, .int v3), (5, .int v5)] rfl ?_
          refine z_goto 16 C dX11_findSums_164 rfl ?_
          refine z_loc [1, 2, 3, 4, 0] rfl ?_
          exact ih v1 v2 v3 (v4 + 1) g160 h
set_option maxRecDepth 100000 in
set_option maxHeartbeats 4000000 in
theorem wX11_findSums_L9 {F : z_F} {ad : Nat → Nat} {r : Int32} {gE : z_S} (C : z_X F layM nM ad cX11_findSums RX11 8 (some .int) 1 25 (some (.int r)) gE) (k173 : z_S → Option (Int32 × z_S)) (hk173 : ∀ (g : z_S), k173 g = some (r, gE) → z_W F layM nM ad 173 [(0, .ref (ad 0))] [] g) : ∀ (n : Nat) (v1 : Int32) (v2 : Int32) (v3 : Int32) (g : z_S), z_loop (fX11_findSums_B9 k173) n (v1, v2, v3) g = some (r, gE) → z_W F layM nM ad 9 [(0, .ref (ad 0)), (1, .int v1), (2, .int v2), (3, .int v3)] [] g := by
  intro n
  induction n with
  | zero =>
    intro v1 v2 v3 g h
    exact (z_loop_0 h).elim
  | succ n ih =>
    intro v1 v2 v3 g h
    replace h := z_loop_S h
    simp only [fX11_findSums_B9] at h
    refine z_iload_n C dX11_findSums_9 rfl 3 rfl ?_
    refine z_if_lt 173 C dX11_findSums_10 rfl (fun hc => ?_) (fun hc => ?_)
    · replace h := z_it hc h
      refine z_loc [0] rfl ?_
      exact hk173 g h
    · replace h := z_if hc h
      refine z_iconst C dX11_findSums_13 zci_0 ?_
      refine z_istore C dX11_findSums_14 (by decide) [(4, .int 0), (0, .ref (ad 0)), (1, .int v1), (2, .int v2), (3, .int v3)] rfl ?_
      refine z_loc [1, 2, 3, 4, 0] rfl ?_
      refine wX11_findSums_L16 C _ ?_ zN v1 v2 v3 0 g h
      · intro v1 v2 v3 g h
        refine z_iinc C dX11_findSums_167 (by decide) 3 rfl (z_incl zci_m1) [(3, .int (v3 + (-1))), (0, .ref (ad 0)), (1, .int v1), (2, .int v2)] rfl ?_
        refine z_goto 9 C dX11_findSums_170 rfl ?_
        refine z_loc [1, 2, 3, 0] rfl ?_
        exact ih v1 v2 (v3 + (-1)) g h
set_option maxRecDepth 100000 in
set_option maxHeartbeats 4000000 in
theorem wX11_findSums (ad : Nat → Nat) (v1 : Int32) (g : z_S) (r : Int32) (gE : z_S) (h : fX11_findSums v1 g = some (r, gE)) : z_M yX11_findSums cX11_findSums 8 (some .int) 1 25 layM nM ad [.ref (ad 0), .int v1] g (some (.int r)) gE := by
  refine z_enter (by decide) (Nat.le_of_ble_eq_true rfl) (fun F C => ?_)
  replace C : z_X F layM nM ad cX11_findSums RX11 8 (some .int) 1 25 (some (.int r)) gE := C
  show z_W F layM nM ad 0 [(0, .ref (ad 0)), (1, .int v1)] [] g
  unfold fX11_findSums at h
  refine z_aload_n C dX11_findSums_0 rfl 0 rfl ?_
  refine z_getr C zf_X11_35 zo_M_12 dX11_findSums_1 ?_
  refine z_iload_n C dX11_findSums_4 rfl 1 rfl ?_
  obtain ⟨hi5, h⟩ := z_g_some h
  refine z_iald C za_M_9 (z_in_vp hi5) dX11_findSums_5 ?_
  refine z_istore_n C dX11_findSums_6 rfl (by decide) [(2, .int (g.1 9 (v1).toNatClampNeg)), (0, .ref (ad 0)), (1, .int v1)] rfl ?_
  refine z_iload_n C dX11_findSums_7 rfl 0 rfl ?_
  refine z_istore_n C dX11_findSums_8 rfl (by decide) [(3, .int (g.1 9 (v1).toNatClampNeg)), (2, .int (g.1 9 (v1).toNatClampNeg)), (0, .ref (ad 0)), (1, .int v1)] rfl ?_
  refine z_loc [2, 3, 1, 0] rfl ?_
  refine wX11_findSums_L9 C _ ?_ zN v1 (g.1 9 (v1).toNatClampNeg) (g.1 9 (v1).toNatClampNeg) g h
  · intro g h
    refine z_aload_n C dX11_findSums_173 rfl 0 rfl ?_
    refine z_getr C zf_X11_115 zo_M_46 dX11_findSums_174 ?_
    refine z_iconst C dX11_findSums_177 zci_0 ?_
    refine z_iconst C dX11_findSums_178 zci_4 ?_
    obtain ⟨r179, g179, hq179, h⟩ := z_b_some h
    refine z_callSi [.ref (ad 34)] C zc_X11_201 rfl (by decide) (Nat.le_of_ble_eq_true rfl) dX11_findSums_179 rfl (wX11_cell ad 0 4 g r179 g179 hq179) ?_
    obtain ⟨hi182, h⟩ := z_g_some h
    refine z_iald C za_M_34 (z_in_vp hi182) dX11_findSums_182 ?_
    exact z_iret C (z_ret1i h) (z_ret2 h) dX11_findSums_183

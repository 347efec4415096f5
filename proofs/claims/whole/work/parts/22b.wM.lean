set_option maxRecDepth 100000 in
set_option maxHeartbeats 4000000 in
theorem wX11_findReadings_L43 {F : z_F} {ad : Nat → Nat} {gE : z_S} (C : z_X F layM nM ad cX11_findReadings RX11 5 none 2 42 none gE) (k112 : Int32 → Int32 → z_S → Option (Unit × z_S)) (hk112 : ∀ (v1 : Int32) (v2 : Int32) (g : z_S), k112 v1 v2 g = some ((), gE) → z_W F layM nM ad 112 [(0, .ref (ad 0)), (1, .int v1), (2, .int v2)] [] g) : ∀ (n : Nat) (v1 : Int32) (v2 : Int32) (v3 : Int32) (v4 : Int32) (g : z_S), z_loop (fX11_findReadings_B43 k112) n (v1, v2, v3, v4) g = some ((), gE) → z_W F layM nM ad 43 [(0, .ref (ad 0)), (1, .int v1), (2, .int v2), (3, .int v3), (4, .int v4)] [] g := by
  intro n
  induction n with
  | zero =>
    intro v1 v2 v3 v4 g h
    exact (z_loop_0 h).elim
  | succ n ih =>
    intro v1 v2 v3 v4 g h
    replace h := z_loop_S h
    simp only [fX11_findReadings_B43] at h
    refine z_iload C dX11_findReadings_43 4 rfl ?_
    refine z_aload_n C dX11_findReadings_45 rfl 0 rfl ?_
    refine z_geti C zf_X11_135 zo_M_1 dX11_findReadings_46 ?_
    refine z_icmp_ge 112 C dX11_findReadings_49 rfl (fun hc => ?_) (fun hc => ?_)
    · replace h := z_it hc h
      refine z_loc [0, 1, 2] rfl ?_
      exact hk112 v1 v2 g h
    · replace h := z_if hc h
      refine z_iload_n C dX11_findReadings_52 rfl 1 rfl ?_
      refine z_aload_n C dX11_findReadings_53 rfl 0 rfl ?_
      refine z_geti C zf_X11_141 zo_M_9 dX11_findReadings_54 ?_
      refine z_icmp_ge 112 C dX11_findReadings_57 rfl (fun hc => ?_) (fun hc => ?_)
      · replace h := z_it hc h
        refine z_loc [0, 1, 2] rfl ?_
        exact hk112 v1 v2 g h
      · replace h := z_if hc h
        refine z_aload_n C dX11_findReadings_60 rfl 0 rfl ?_
        refine z_iload_n C dX11_findReadings_61 rfl 2 rfl ?_
        refine z_iload C dX11_findReadings_62 4 rfl ?_
        obtain ⟨r64, g64, hq64, h⟩ := z_b_some h
        refine z_callVi [] C zc_X11_209 zk_M rfl (by decide) (Nat.le_of_ble_eq_true rfl) dX11_findReadings_64 rfl (wX11_mayFollow ad v2 v4 g r64 g64 hq64) ?_
        refine z_if_eq 106 C dX11_findReadings_67 rfl (fun hc => ?_) (fun hc => ?_)
        · replace h := z_it hc h
          refine z_iinc C dX11_findReadings_106 (by decide) 4 rfl (z_incl zci_1) [(4, .int (v4 + 1)), (0, .ref (ad 0)), (1, .int v1), (2, .int v2), (3, .int v3)] rfl ?_
          refine z_goto 43 C dX11_findReadings_109 rfl ?_
          refine z_loc [1, 2, 3, 4, 0] rfl ?_
          exact ih v1 v2 v3 (v4 + 1) g64 h
        · replace h := z_if hc h
          refine z_aload_n C dX11_findReadings_70 rfl 0 rfl ?_
          refine z_iload C dX11_findReadings_71 4 rfl ?_
          refine z_iload_n C dX11_findReadings_73 rfl 1 rfl ?_
          obtain ⟨r74, g74, hq74, h⟩ := z_b_some h
          refine z_callVi [] C zc_X11_212 zk_M rfl (by decide) (Nat.le_of_ble_eq_true rfl) dX11_findReadings_74 rfl (wX11_stands ad v4 v1 g64 r74 g74 hq74) ?_
          refine z_if_eq 106 C dX11_findReadings_77 rfl (fun hc => ?_) (fun hc => ?_)
          · replace h := z_it hc h
            refine z_iinc C dX11_findReadings_106 (by decide) 4 rfl (z_incl zci_1) [(4, .int (v4 + 1)), (0, .ref (ad 0)), (1, .int v1), (2, .int v2), (3, .int v3)] rfl ?_
            refine z_goto 43 C dX11_findReadings_109 rfl ?_
            refine z_loc [1, 2, 3, 4, 0] rfl ?_
            exact ih v1 v2 v3 (v4 + 1) g74 h
          · replace h := z_if hc h
            refine z_aload_n C dX11_findReadings_80 rfl 0 rfl ?_
            refine z_iload_n C dX11_findReadings_81 rfl 3 rfl ?_
            refine z_iload C dX11_findReadings_82 4 rfl ?_
            refine z_iload_n C dX11_findReadings_84 rfl 1 rfl ?_
            refine z_aload_n C dX11_findReadings_85 rfl 0 rfl ?_
            refine z_getr C zf_X11_13 zo_M_3 dX11_findReadings_86 ?_
            refine z_iload C dX11_findReadings_89 4 rfl ?_
            obtain ⟨hi91, h⟩ := z_g_some h
            refine z_iald C za_M_2 (z_in_vp hi91) dX11_findReadings_91 ?_
            refine z_iadd C dX11_findReadings_92 ?_
            refine z_aload_n C dX11_findReadings_93 rfl 0 rfl ?_
            refine z_getr C zf_X11_19 zo_M_5 dX11_findReadings_94 ?_
            refine z_iload C dX11_findReadings_97 4 rfl ?_
            obtain ⟨hi99, h⟩ := z_g_some h
            refine z_iald C za_M_4 (z_in_vp hi99) dX11_findReadings_99 ?_
            obtain ⟨r100, g100, hq100, h⟩ := z_b_some h
            refine z_callSi [.int v4, .int v3, .ref (ad 0)] C zc_X11_201 rfl (by decide) (Nat.le_of_ble_eq_true rfl) dX11_findReadings_100 rfl (wX11_cell ad (v1 + (g74.1 2 (v4).toNatClampNeg)) (g74.1 4 (v4).toNatClampNeg) g74 r100 g100 hq100) ?_
            obtain ⟨r103, g103, hq103, h⟩ := z_b_some h
            refine z_callVv [] C zc_X11_215 zk_M rfl (by decide) (Nat.le_of_ble_eq_true rfl) dX11_findReadings_103 rfl (wX11_addWord ad v3 v4 r100 g100 g103 hq103) ?_
            refine z_iinc C dX11_findReadings_106 (by decide) 4 rfl (z_incl zci_1) [(4, .int (v4 + 1)), (0, .ref (ad 0)), (1, .int v1), (2, .int v2), (3, .int v3)] rfl ?_
            refine z_goto 43 C dX11_findReadings_109 rfl ?_
            refine z_loc [1, 2, 3, 4, 0] rfl ?_
            exact ih v1 v2 v3 (v4 + 1) g103 h
set_option maxRecDepth 100000 in
set_option maxHeartbeats 4000000 in
theorem wX11_findReadings_J37 {F : z_F} {ad : Nat → Nat} {gE : z_S} (C : z_X F layM nM ad cX11_findReadings RX11 5 none 2 42 none gE) (rc : (Int32 × Int32) → z_S → Option (Unit × z_S)) (hrc : ∀ (v1 : Int32) (v2 : Int32) (g : z_S), rc (v1, v2) g = some ((), gE) → z_W F layM nM ad 11 [(0, .ref (ad 0)), (1, .int v1), (2, .int v2)] [] g) (v1 : Int32) (v2 : Int32) (v3 : Int32) (s0 : Int32) (s1 : Int32) (g : z_S) (h : fX11_findReadings_J37 rc v1 v2 v3 s0 s1 g = some ((), gE)) : z_W F layM nM ad 37 [(0, .ref (ad 0)), (1, .int v1), (2, .int v2), (3, .int v3)] [.int s0, .int s1, .ref (ad 0)] g := by
  unfold fX11_findReadings_J37 at h
  obtain ⟨r37, g37, hq37, h⟩ := z_b_some h
  refine z_callVv [] C zc_X11_205 zk_M rfl (by decide) (Nat.le_of_ble_eq_true rfl) dX11_findReadings_37 rfl (wX11_beginCell ad s1 s0 g g37 hq37) ?_
  refine z_iconst C dX11_findReadings_40 zci_0 ?_
  refine z_istore C dX11_findReadings_41 (by decide) [(4, .int 0), (0, .ref (ad 0)), (1, .int v1), (2, .int v2), (3, .int v3)] rfl ?_
  refine z_loc [1, 2, 3, 4, 0] rfl ?_
  refine wX11_findReadings_L43 C _ ?_ zN v1 v2 v3 0 g37 h
  · intro v1 v2 g h
    refine z_iinc C dX11_findReadings_112 (by decide) 2 rfl (z_incl zci_1) [(2, .int (v2 + 1)), (0, .ref (ad 0)), (1, .int v1)] rfl ?_
    refine z_goto 11 C dX11_findReadings_115 rfl ?_
    refine z_loc [1, 2, 0] rfl ?_
    exact hrc v1 (v2 + 1) g h
set_option maxRecDepth 100000 in
set_option maxHeartbeats 4000000 in
theorem wX11_findReadings_L11 {F : z_F} {ad : Nat → Nat} {gE : z_S} (C : z_X F layM nM ad cX11_findReadings RX11 5 none 2 42 none gE) (k118 : Int32 → z_S → Option (Unit × z_S)) (hk118 : ∀ (v1 : Int32) (g : z_S), k118 v1 g = some ((), gE) → z_W F layM nM ad 118 [(0, .ref (ad 0)), (1, .int v1)] [] g) : ∀ (n : Nat) (v1 : Int32) (v2 : Int32) (g : z_S), z_loop (fX11_findReadings_B11 k118) n (v1, v2) g = some ((), gE) → z_W F layM nM ad 11 [(0, .ref (ad 0)), (1, .int v1), (2, .int v2)] [] g := by
  intro n
  induction n with
  | zero =>
    intro v1 v2 g h
    exact (z_loop_0 h).elim
  | succ n ih =>
    intro v1 v2 g h
    replace h := z_loop_S h
    simp only [fX11_findReadings_B11] at h
    refine z_iload_n C dX11_findReadings_11 rfl 2 rfl ?_
    refine z_iconst C dX11_findReadings_12 zci_4 ?_
    refine z_icmp_gt 118 C dX11_findReadings_13 rfl (fun hc => ?_) (fun hc => ?_)
    · replace h := z_it hc h
      refine z_loc [0, 1] rfl ?_
      exact hk118 v1 g h
    · replace h := z_if hc h
      refine z_iload_n C dX11_findReadings_16 rfl 1 rfl ?_
      refine z_iload_n C dX11_findReadings_17 rfl 2 rfl ?_
      obtain ⟨r18, g18, hq18, h⟩ := z_b_some h
      refine z_callSi [] C zc_X11_201 rfl (by decide) (Nat.le_of_ble_eq_true rfl) dX11_findReadings_18 rfl (wX11_cell ad v1 v2 g r18 g18 hq18) ?_
      refine z_istore_n C dX11_findReadings_21 rfl (by decide) [(3, .int r18), (0, .ref (ad 0)), (1, .int v1), (2, .int v2)] rfl ?_
      refine z_aload_n C dX11_findReadings_22 rfl 1 rfl ?_
      refine z_iload_n C dX11_findReadings_23 rfl 0 rfl ?_
      refine z_iload_n C dX11_findReadings_24 rfl 2 rfl ?_
      refine z_aload_n C dX11_findReadings_25 rfl 1 rfl ?_
      refine z_geti C zf_X11_141 zo_M_9 dX11_findReadings_26 ?_
      refine z_icmp_ne 36 C dX11_findReadings_29 rfl (fun hc => ?_) (fun hc => ?_)
      · replace h := z_it hc h
        refine z_iconst C dX11_findReadings_32 zci_1 ?_
        refine z_goto 37 C dX11_findReadings_33 rfl ?_
        refine z_loc [1, 2, 3, 0] rfl ?_
        exact wX11_findReadings_J37 C _ (fun v1 v2 g h => ih v1 v2 g h) v1 v2 r18 1 r18 g18 h
      · replace h := z_if hc h
        refine z_iconst C dX11_findReadings_36 zci_0 ?_
        refine z_loc [1, 2, 3, 0] rfl ?_
        exact wX11_findReadings_J37 C _ (fun v1 v2 g h => ih v1 v2 g h) v1 v2 r18 0 r18 g18 h
set_option maxRecDepth 100000 in
set_option maxHeartbeats 4000000 in
theorem wX11_findReadings_L5 {F : z_F} {ad : Nat → Nat} {gE : z_S} (C : z_X F layM nM ad cX11_findReadings RX11 5 none 2 42 none gE) : ∀ (n : Nat) (v1 : Int32) (g : z_S), z_loop fX11_findReadings_B5 n v1 g = some ((), gE) → z_W F layM nM ad 5 [(0, .ref (ad 0)), (1, .int v1)] [] g := by
  intro n
  induction n with
  | zero =>
    intro v1 g h
    exact (z_loop_0 h).elim
  | succ n ih =>
    intro v1 g h
    replace h := z_loop_S h
    simp only [fX11_findReadings_B5] at h
    refine z_iload_n C dX11_findReadings_5 rfl 1 rfl ?_
    refine z_if_lt 124 C dX11_findReadings_6 rfl (fun hc => ?_) (fun hc => ?_)
    · replace h := z_it hc h
      exact z_vret C rfl (z_ret2 h) dX11_findReadings_124
    · replace h := z_if hc h
      refine z_iconst C dX11_findReadings_9 zci_0 ?_
      refine z_istore_n C dX11_findReadings_10 rfl (by decide) [(2, .int 0), (0, .ref (ad 0)), (1, .int v1)] rfl ?_
      refine z_loc [1, 2, 0] rfl ?_
      refine wX11_findReadings_L11 C _ ?_ zN v1 0 g h
      · intro v1 g h
        refine z_iinc C dX11_findReadings_118 (by decide) 1 rfl (z_incl zci_m1) [(1, .int (v1 + (-1))), (0, .ref (ad 0))] rfl ?_
        refine z_goto 5 C dX11_findReadings_121 rfl ?_
        refine z_loc [1, 0] rfl ?_
        exact ih (v1 + (-1)) g h
set_option maxRecDepth 100000 in
set_option maxHeartbeats 4000000 in
theorem wX11_findReadings (ad : Nat → Nat) (g : z_S) (gE : z_S) (h : fX11_findReadings g = some ((), gE)) : z_M yX11_findReadings cX11_findReadings 5 none 2 42 layM nM ad [.ref (ad 0)] g none gE := by
  refine z_enter (by decide) (Nat.le_of_ble_eq_true rfl) (fun F C => ?_)
  replace C : z_X F layM nM ad cX11_findReadings RX11 5 none 2 42 none gE := C
  show z_W F layM nM ad 0 [(0, .ref (ad 0))] [] g
  unfold fX11_findReadings at h
  refine z_aload_n C dX11_findReadings_0 rfl 0 rfl ?_
  refine z_geti C zf_X11_141 zo_M_9 dX11_findReadings_1 ?_
  refine z_istore_n C dX11_findReadings_4 rfl (by decide) [(1, .int (g.1 0 9)), (0, .ref (ad 0))] rfl ?_
  refine z_loc [1, 0] rfl ?_
  refine wX11_findReadings_L5 C  zN (g.1 0 9) g h
set_option maxRecDepth 100000 in
set_option maxHeartbeats 4000000 in
theorem wX11_readings (ad : Nat → Nat) (g : z_S) (r : Int64) (gE : z_S) (h : fX11_readings g = some (r, gE)) : z_M yX11_readings cX11_readings 1 (some .long) 3 66 layM nM ad [.ref (ad 0)] g (some (.long r)) gE := by
  refine z_enter (by decide) (Nat.le_of_ble_eq_true rfl) (fun F C => ?_)
  replace C : z_X F layM nM ad cX11_readings RX11 1 (some .long) 3 66 (some (.long r)) gE := C
  show z_W F layM nM ad 0 [(0, .ref (ad 0))] [] g
  unfold fX11_readings at h
  refine z_aload_n C dX11_readings_0 rfl 0 rfl ?_
  obtain ⟨r1, g1, hq1, h⟩ := z_b_some h
  refine z_callVv [] C zc_X11_219 zk_M rfl (by decide) (Nat.le_of_ble_eq_true rfl) dX11_readings_1 rfl (wX11_findReadings ad g g1 hq1) ?_
  refine z_aload_n C dX11_readings_4 rfl 0 rfl ?_
  refine z_getr C zf_X11_57 zo_M_23 dX11_readings_5 ?_
  refine z_iconst C dX11_readings_8 zci_0 ?_
  refine z_iconst C dX11_readings_9 zci_4 ?_
  obtain ⟨r10, g10, hq10, h⟩ := z_b_some h
  refine z_callSi [.ref (ad 15)] C zc_X11_201 rfl (by decide) (Nat.le_of_ble_eq_true rfl) dX11_readings_10 rfl (wX11_cell ad 0 4 g1 r10 g10 hq10) ?_
  obtain ⟨hi13, h⟩ := z_g_some h
  refine z_lald C za_M_15 (z_in_vp hi13) dX11_readings_13 ?_
  refine z_ldc2 C dX11_readings_14 zl_X11_222 ?_
  refine z_lcmp_le 27 C dX11_readings_17 dX11_readings_18 rfl (fun hc => ?_) (fun hc => ?_)
  · replace h := z_it hc h
    refine z_aload_n C dX11_readings_27 rfl 0 rfl ?_
    refine z_getr C zf_X11_57 zo_M_23 dX11_readings_28 ?_
    refine z_iconst C dX11_readings_31 zci_0 ?_
    refine z_iconst C dX11_readings_32 zci_4 ?_
    obtain ⟨r33, g33, hq33, h⟩ := z_b_some h
    refine z_callSi [.ref (ad 15)] C zc_X11_201 rfl (by decide) (Nat.le_of_ble_eq_true rfl) dX11_readings_33 rfl (wX11_cell ad 0 4 g10 r33 g33 hq33) ?_
    obtain ⟨hi36, h⟩ := z_g_some h
    refine z_lald C za_M_15 (z_in_vp hi36) dX11_readings_36 ?_
    exact z_lret C (z_ret1l h) (z_ret2 h) dX11_readings_37
  · replace h := z_if hc h
    refine z_ldc2 C dX11_readings_21 zl_X11_224 ?_
    refine z_goto 37 C dX11_readings_24 rfl ?_
    exact z_lret C (z_ret1l h) (z_ret2 h) dX11_readings_37
set_option maxRecDepth 100000 in
set_option maxHeartbeats 4000000 in
theorem wX11_reading_L67 {F : z_F} {ad : Nat → Nat} {r : Int32} {gE : z_S} (C : z_X F layM nM ad cX11_reading RX11 13 (some .int) 3 66 (some (.int r)) gE) (k158 : Int32 → Int64 → Int32 → Int32 → Int32 → z_S → Option (Int32 × z_S)) (hk158 : ∀ (v3 : Int32) (v4 : Int64) (v6 : Int32) (v8 : Int32) (v9 : Int32) (g : z_S), k158 v3 v4 v6 v8 v9 g = some (r, gE) → z_W F layM nM ad 158 [(0, .ref (ad 0)), (3, .int v3), (4, .long v4), (6, .int v6), (8, .int v8), (9, .int v9)] [] g) : ∀ (n : Nat) (v3 : Int32) (v4 : Int64) (v6 : Int32) (v7 : Int32) (v8 : Int32) (v9 : Int32) (v10 : Int32) (g : z_S), z_loop (fX11_reading_B67 k158) n (v3, v4, v6, v7, v8, v9, v10) g = some (r, gE) → z_W F layM nM ad 67 [(0, .ref (ad 0)), (3, .int v3), (4, .long v4), (6, .int v6), (7, .int v7), (8, .int v8), (9, .int v9), (10, .int v10)] [] g := by
  intro n
  induction n with
  | zero =>
    intro v3 v4 v6 v7 v8 v9 v10 g h
    exact (z_loop_0 h).elim
  | succ n ih =>
    intro v3 v4 v6 v7 v8 v9 v10 g h
    replace h := z_loop_S h
    simp only [fX11_reading_B67] at h
    refine z_iload C dX11_reading_67 7 rfl ?_
    refine z_aload_n C dX11_reading_69 rfl 0 rfl ?_
    refine z_geti C zf_X11_135 zo_M_1 dX11_reading_70 ?_
    refine z_icmp_ge 158 C dX11_reading_73 rfl (fun hc => ?_) (fun hc => ?_)
    · replace h := z_it hc h
      refine z_loc [0, 1, 2, 3, 5, 6] rfl ?_
      exact hk158 v3 v4 v6 v8 v9 g h
    · replace h := z_if hc h
      refine z_iload C dX11_reading_76 6 rfl ?_
      refine z_if_ge 158 C dX11_reading_78 rfl (fun hc => ?_) (fun hc => ?_)
      · replace h := z_it hc h
        refine z_loc [0, 1, 2, 3, 5, 6] rfl ?_
        exact hk158 v3 v4 v6 v8 v9 g h
      · replace h := z_if hc h
        refine z_aload_n C dX11_reading_81 rfl 0 rfl ?_
        refine z_iload C dX11_reading_82 4 rfl ?_
        refine z_iload C dX11_reading_84 7 rfl ?_
        obtain ⟨r86, g86, hq86, h⟩ := z_b_some h
        refine z_callVi [] C zc_X11_209 zk_M rfl (by decide) (Nat.le_of_ble_eq_true rfl) dX11_reading_86 rfl (wX11_mayFollow ad v7 v10 g r86 g86 hq86) ?_
        refine z_if_eq 152 C dX11_reading_89 rfl (fun hc => ?_) (fun hc => ?_)
        · replace h := z_it hc h
          refine z_iinc C dX11_reading_152 (by decide) 7 rfl (z_incl zci_1) [(10, .int (v10 + 1)), (0, .ref (ad 0)), (3, .int v3), (4, .long v4), (6, .int v6), (7, .int v7), (8, .int v8), (9, .int v9)] rfl ?_
          refine z_goto 67 C dX11_reading_155 rfl ?_
          refine z_loc [1, 2, 3, 4, 5, 6, 7, 0] rfl ?_
          exact ih v3 v4 v6 v7 v8 v9 (v10 + 1) g86 h
        · replace h := z_if hc h
          refine z_aload_n C dX11_reading_92 rfl 0 rfl ?_
          refine z_iload C dX11_reading_93 7 rfl ?_
          refine z_iload C dX11_reading_95 3 rfl ?_
          obtain ⟨r97, g97, hq97, h⟩ := z_b_some h
          refine z_callVi [] C zc_X11_212 zk_M rfl (by decide) (Nat.le_of_ble_eq_true rfl) dX11_reading_97 rfl (wX11_stands ad v10 v6 g86 r97 g97 hq97) ?_
          refine z_if_eq 152 C dX11_reading_100 rfl (fun hc => ?_) (fun hc => ?_)
          · replace h := z_it hc h
            refine z_iinc C dX11_reading_152 (by decide) 7 rfl (z_incl zci_1) [(10, .int (v10 + 1)), (0, .ref (ad 0)), (3, .int v3), (4, .long v4), (6, .int v6), (7, .int v7), (8, .int v8), (9, .int v9)] rfl ?_
            refine z_goto 67 C dX11_reading_155 rfl ?_
            refine z_loc [1, 2, 3, 4, 5, 6, 7, 0] rfl ?_
            exact ih v3 v4 v6 v7 v8 v9 (v10 + 1) g97 h
          · replace h := z_if hc h
            refine z_aload_n C dX11_reading_103 rfl 0 rfl ?_
            refine z_getr C zf_X11_57 zo_M_23 dX11_reading_104 ?_
            refine z_iload C dX11_reading_107 3 rfl ?_
            refine z_aload_n C dX11_reading_109 rfl 0 rfl ?_
            refine z_getr C zf_X11_13 zo_M_3 dX11_reading_110 ?_
            refine z_iload C dX11_reading_113 7 rfl ?_
            obtain ⟨hi115, h⟩ := z_g_some h
            refine z_iald C za_M_2 (z_in_vp hi115) dX11_reading_115 ?_
            refine z_iadd C dX11_reading_116 ?_
            refine z_aload_n C dX11_reading_117 rfl 0 rfl ?_
            refine z_getr C zf_X11_19 zo_M_5 dX11_reading_118 ?_
            refine z_iload C dX11_reading_121 7 rfl ?_
            obtain ⟨hi123, h⟩ := z_g_some h
            refine z_iald C za_M_4 (z_in_vp hi123) dX11_reading_123 ?_
            obtain ⟨r124, g124, hq124, h⟩ := z_b_some h
            refine z_callSi [.ref (ad 15)] C zc_X11_201 rfl (by decide) (Nat.le_of_ble_eq_true rfl) dX11_reading_124 rfl (wX11_cell ad (v6 + (g97.1 2 (v10).toNatClampNeg)) (g97.1 4 (v10).toNatClampNeg) g97 r124 g124 hq124) ?_
            obtain ⟨hi127, h⟩ := z_g_some h
            refine z_lald C za_M_15 (z_in_vp hi127) dX11_reading_127 ?_
            refine z_lstore C dX11_reading_128 (by decide) [(11, .long (g124.2 15 (r124).toNatClampNeg)), (0, .ref (ad 0)), (3, .int v3), (4, .long v4), (6, .int v6), (7, .int v7), (8, .int v8), (9, .int v9), (10, .int v10)] rfl ?_
            refine z_lload C dX11_reading_130 3 rfl ?_
            refine z_lload C dX11_reading_132 0 rfl ?_
            refine z_lcmp_ge 145 C dX11_reading_134 dX11_reading_135 rfl (fun hc => ?_) (fun hc => ?_)
            · replace h := z_it hc h
              refine z_lload C dX11_reading_145 3 rfl ?_
              refine z_lload C dX11_reading_147 0 rfl ?_
              refine z_lsub C dX11_reading_149 ?_
              refine z_lstore C dX11_reading_150 (by decide) [(4, .long (v4 - (g124.2 15 (r124).toNatClampNeg))), (11, .long (g124.2 15 (r124).toNatClampNeg)), (0, .ref (ad 0)), (3, .int v3), (6, .int v6), (7, .int v7), (8, .int v8), (9, .int v9), (10, .int v10)] rfl ?_
              refine z_iinc C dX11_reading_152 (by decide) 8 rfl (z_incl zci_1) [(10, .int (v10 + 1)), (4, .long (v4 - (g124.2 15 (r124).toNatClampNeg))), (11, .long (g124.2 15 (r124).toNatClampNeg)), (0, .ref (ad 0)), (3, .int v3), (6, .int v6), (7, .int v7), (8, .int v8), (9, .int v9)] rfl ?_
              refine z_goto 67 C dX11_reading_155 rfl ?_
              refine z_loc [3, 4, 1, 5, 6, 7, 8, 0] rfl ?_
              exact ih v3 (v4 - (g124.2 15 (r124).toNatClampNeg)) v6 v7 v8 v9 (v10 + 1) g124 h
            · replace h := z_if hc h
              refine z_iload C dX11_reading_138 8 rfl ?_
              refine z_istore C dX11_reading_140 (by decide) [(9, .int v10), (11, .long (g124.2 15 (r124).toNatClampNeg)), (0, .ref (ad 0)), (3, .int v3), (4, .long v4), (6, .int v6), (7, .int v7), (8, .int v8), (10, .int v10)] rfl ?_
              refine z_goto 152 C dX11_reading_142 rfl ?_
              refine z_iinc C dX11_reading_152 (by decide) 8 rfl (z_incl zci_1) [(10, .int (v10 + 1)), (9, .int v10), (11, .long (g124.2 15 (r124).toNatClampNeg)), (0, .ref (ad 0)), (3, .int v3), (4, .long v4), (6, .int v6), (7, .int v7), (8, .int v8)] rfl ?_
              refine z_goto 67 C dX11_reading_155 rfl ?_
              refine z_loc [3, 4, 5, 6, 7, 8, 1, 0] rfl ?_
              exact ih v3 v4 v6 v7 v8 v10 (v10 + 1) g124 h
set_option maxRecDepth 100000 in
set_option maxHeartbeats 4000000 in
theorem wX11_reading_L52 {F : z_F} {ad : Nat → Nat} {r : Int32} {gE : z_S} (C : z_X F layM nM ad cX11_reading RX11 13 (some .int) 3 66 (some (.int r)) gE) : ∀ (n : Nat) (v3 : Int32) (v4 : Int64) (v6 : Int32) (v7 : Int32) (v8 : Int32) (g : z_S), z_loop fX11_reading_B52 n (v3, v4, v6, v7, v8) g = some (r, gE) → z_W F layM nM ad 52 [(0, .ref (ad 0)), (3, .int v3), (4, .long v4), (6, .int v6), (7, .int v7), (8, .int v8)] [] g := by
  intro n
  induction n with
  | zero =>
    intro v3 v4 v6 v7 v8 g h
    exact (z_loop_0 h).elim
  | succ n ih =>
    intro v3 v4 v6 v7 v8 g h
    replace h := z_loop_S h
    simp only [fX11_reading_B52] at h
    refine z_iload C dX11_reading_52 3 rfl ?_
    refine z_aload_n C dX11_reading_54 rfl 0 rfl ?_
    refine z_geti C zf_X11_141 zo_M_9 dX11_reading_55 ?_
    refine z_icmp_ge 194 C dX11_reading_58 rfl (fun hc => ?_) (fun hc => ?_)
    · replace h := z_it hc h
      refine z_iconst C dX11_reading_194 zci_m1 ?_
      exact z_iret C (z_ret1i h) (z_ret2 h) dX11_reading_195
    · replace h := z_if hc h
      refine z_iconst C dX11_reading_61 zci_m1 ?_
      refine z_istore C dX11_reading_62 (by decide) [(9, .int (-1)), (0, .ref (ad 0)), (3, .int v3), (4, .long v4), (6, .int v6), (7, .int v7), (8, .int v8)] rfl ?_
      refine z_iconst C dX11_reading_64 zci_0 ?_
      refine z_istore C dX11_reading_65 (by decide) [(10, .int 0), (9, .int (-1)), (0, .ref (ad 0)), (3, .int v3), (4, .long v4), (6, .int v6), (7, .int v7), (8, .int v8)] rfl ?_
      refine z_loc [2, 3, 4, 5, 6, 7, 1, 0] rfl ?_
      refine wX11_reading_L67 C _ ?_ zN v3 v4 v6 v7 v8 (-1) 0 g h
      · intro v3 v4 v6 v8 v9 g h
        refine z_iload C dX11_reading_158 4 rfl ?_
        refine z_iload_n C dX11_reading_160 rfl 1 rfl ?_
        refine z_icmp_ne 167 C dX11_reading_161 rfl (fun hc => ?_) (fun hc => ?_)
        · replace h := z_it hc h
          refine z_iload C dX11_reading_164 5 rfl ?_
          exact z_iret C (z_ret1i h) (z_ret2 h) dX11_reading_166
        · replace h := z_if hc h
          refine z_iload C dX11_reading_167 3 rfl ?_
          refine z_aload_n C dX11_reading_169 rfl 0 rfl ?_
          refine z_getr C zf_X11_13 zo_M_3 dX11_reading_170 ?_
          refine z_iload C dX11_reading_173 5 rfl ?_
          obtain ⟨hi175, h⟩ := z_g_some h
          refine z_iald C za_M_2 (z_in_vp hi175) dX11_reading_175 ?_
          refine z_iadd C dX11_reading_176 ?_
          refine z_istore C dX11_reading_177 (by decide) [(6, .int (v6 + (g.1 2 (v9).toNatClampNeg))), (0, .ref (ad 0)), (3, .int v3), (4, .long v4), (8, .int v8), (9, .int v9)] rfl ?_
          refine z_aload_n C dX11_reading_179 rfl 1 rfl ?_
          refine z_getr C zf_X11_19 zo_M_5 dX11_reading_180 ?_
          refine z_iload C dX11_reading_183 5 rfl ?_
          obtain ⟨hi185, h⟩ := z_g_some h
          refine z_iald C za_M_4 (z_in_vp hi185) dX11_reading_185 ?_
          refine z_istore C dX11_reading_186 (by decide) [(7, .int (g.1 4 (v9).toNatClampNeg)), (6, .int (v6 + (g.1 2 (v9).toNatClampNeg))), (0, .ref (ad 0)), (3, .int v3), (4, .long v4), (8, .int v8), (9, .int v9)] rfl ?_
          refine z_iinc C dX11_reading_188 (by decide) 5 rfl (z_incl zci_1) [(8, .int (v8 + 1)), (7, .int (g.1 4 (v9).toNatClampNeg)), (6, .int (v6 + (g.1 2 (v9).toNatClampNeg))), (0, .ref (ad 0)), (3, .int v3), (4, .long v4), (9, .int v9)] rfl ?_
          refine z_goto 52 C dX11_reading_191 rfl ?_
          refine z_loc [3, 4, 5, 2, 1, 0] rfl ?_
          exact ih v3 v4 (v6 + (g.1 2 (v9).toNatClampNeg)) (g.1 4 (v9).toNatClampNeg) (v8 + 1) g h
set_option maxRecDepth 100000 in
set_option maxHeartbeats 4000000 in
theorem wX11_reading (ad : Nat → Nat) (v1 : Int64) (v3 : Int32) (g : z_S) (r : Int32) (gE : z_S) (h : fX11_reading v1 v3 g = some (r, gE)) : z_M yX11_reading cX11_reading 13 (some .int) 3 66 layM nM ad [.ref (ad 0), .long v1, .int v3] g (some (.int r)) gE := by
  refine z_enter (by decide) (Nat.le_of_ble_eq_true rfl) (fun F C => ?_)
  replace C : z_X F layM nM ad cX11_reading RX11 13 (some .int) 3 66 (some (.int r)) gE := C
  show z_W F layM nM ad 0 [(0, .ref (ad 0)), (1, .long v1), (3, .int v3)] [] g
  unfold fX11_reading at h
  refine z_lload_n C dX11_reading_0 rfl 1 rfl ?_
  refine z_lconst C dX11_reading_1 zcl_0 ?_
  refine z_ldc2 C dX11_reading_2 zl_X11_222 ?_
  obtain ⟨r5, g5, hq5, h⟩ := z_b_some h
  refine z_callSi [] C zc_X11_131 rfl (by decide) (Nat.le_of_ble_eq_true rfl) dX11_reading_5 rfl (wX11_in ad v1 0 1000000000000000 g r5 g5 hq5) ?_
  refine z_if_ne 15 C dX11_reading_8 rfl (fun hc => ?_) (fun hc => ?_)
  · replace h := z_it hc h
    refine z_sipush C dX11_reading_11 zcs_m1002 ?_
    exact z_iret C (z_ret1i h) (z_ret2 h) dX11_reading_14
  · replace h := z_if hc h
    refine z_aload_n C dX11_reading_15 rfl 0 rfl ?_
    obtain ⟨r16, g16, hq16, h⟩ := z_b_some h
    refine z_callVv [] C zc_X11_219 zk_M rfl (by decide) (Nat.le_of_ble_eq_true rfl) dX11_reading_16 rfl (wX11_findReadings ad g5 g16 hq16) ?_
    refine z_aload_n C dX11_reading_19 rfl 0 rfl ?_
    refine z_getr C zf_X11_57 zo_M_23 dX11_reading_20 ?_
    refine z_iconst C dX11_reading_23 zci_0 ?_
    refine z_iconst C dX11_reading_24 zci_4 ?_
    obtain ⟨r25, g25, hq25, h⟩ := z_b_some h
    refine z_callSi [.ref (ad 15)] C zc_X11_201 rfl (by decide) (Nat.le_of_ble_eq_true rfl) dX11_reading_25 rfl (wX11_cell ad 0 4 g16 r25 g25 hq25) ?_
    obtain ⟨hi28, h⟩ := z_g_some h
    refine z_lald C za_M_15 (z_in_vp hi28) dX11_reading_28 ?_
    refine z_lload_n C dX11_reading_29 rfl 1 rfl ?_
    refine z_lcmp_le 38 C dX11_reading_30 dX11_reading_31 rfl (fun hc => ?_) (fun hc => ?_)
    · replace h := z_it hc h
      refine z_iconst C dX11_reading_38 zci_m1 ?_
      exact z_iret C (z_ret1i h) (z_ret2 h) dX11_reading_39
    · replace h := z_if hc h
      refine z_iload_n C dX11_reading_34 rfl 2 rfl ?_
      refine z_if_ge 40 C dX11_reading_35 rfl (fun hc => ?_) (fun hc => ?_)
      · replace h := z_it hc h
        refine z_lload_n C dX11_reading_40 rfl 1 rfl ?_
        refine z_lstore C dX11_reading_41 (by decide) [(4, .long v1), (0, .ref (ad 0)), (1, .long v1), (3, .int v3)] rfl ?_
        refine z_iconst C dX11_reading_43 zci_0 ?_
        refine z_istore C dX11_reading_44 (by decide) [(6, .int 0), (4, .long v1), (0, .ref (ad 0)), (1, .long v1), (3, .int v3)] rfl ?_
        refine z_iconst C dX11_reading_46 zci_4 ?_
        refine z_istore C dX11_reading_47 (by decide) [(7, .int 4), (6, .int 0), (4, .long v1), (0, .ref (ad 0)), (1, .long v1), (3, .int v3)] rfl ?_
        refine z_iconst C dX11_reading_49 zci_0 ?_
        refine z_istore C dX11_reading_50 (by decide) [(8, .int 0), (7, .int 4), (6, .int 0), (4, .long v1), (0, .ref (ad 0)), (1, .long v1), (3, .int v3)] rfl ?_
        refine z_loc [4, 6, 3, 2, 1, 0] rfl ?_
        refine wX11_reading_L52 C  zN v3 v1 0 4 0 g25 h
      · replace h := z_if hc h
        refine z_iconst C dX11_reading_38 zci_m1 ?_
        exact z_iret C (z_ret1i h) (z_ret2 h) dX11_reading_39
set_option maxRecDepth 100000 in
set_option maxHeartbeats 4000000 in
theorem wX11_best (ad : Nat → Nat) (v1 : Int32) (g : z_S) (r : Int32) (gE : z_S) (h : fX11_best v1 g = some (r, gE)) : z_M yX11_best cX11_best 3 (some .int) 3 66 layM nM ad [.ref (ad 0), .int v1] g (some (.int r)) gE := by
  refine z_enter (by decide) (Nat.le_of_ble_eq_true rfl) (fun F C => ?_)
  replace C : z_X F layM nM ad cX11_best RX11 3 (some .int) 3 66 (some (.int r)) gE := C
  show z_W F layM nM ad 0 [(0, .ref (ad 0)), (1, .int v1)] [] g
  unfold fX11_best at h
  refine z_iload_n C dX11_best_0 rfl 1 rfl ?_
  refine z_i2l C dX11_best_1 ?_
  refine z_lconst C dX11_best_2 zcl_0 ?_
  refine z_ldc2 C dX11_best_3 zl_X11_193 ?_
  obtain ⟨r6, g6, hq6, h⟩ := z_b_some h
  refine z_callSi [] C zc_X11_131 rfl (by decide) (Nat.le_of_ble_eq_true rfl) dX11_best_6 rfl (wX11_in ad ((v1).toInt64) 0 3 g r6 g6 hq6) ?_
  refine z_if_ne 16 C dX11_best_9 rfl (fun hc => ?_) (fun hc => ?_)
  · replace h := z_it hc h
    refine z_sipush C dX11_best_12 zcs_m1002 ?_
    exact z_iret C (z_ret1i h) (z_ret2 h) dX11_best_15
  · replace h := z_if hc h
    refine z_aload_n C dX11_best_16 rfl 0 rfl ?_
    obtain ⟨r17, g17, hq17, h⟩ := z_b_some h
    refine z_callVv [] C zc_X11_219 zk_M rfl (by decide) (Nat.le_of_ble_eq_true rfl) dX11_best_17 rfl (wX11_findReadings ad g6 g17 hq17) ?_
    refine z_iconst C dX11_best_20 zci_0 ?_
    refine z_iconst C dX11_best_21 zci_4 ?_
    obtain ⟨r22, g22, hq22, h⟩ := z_b_some h
    refine z_callSi [] C zc_X11_201 rfl (by decide) (Nat.le_of_ble_eq_true rfl) dX11_best_22 rfl (wX11_cell ad 0 4 g17 r22 g22 hq22) ?_
    refine z_istore_n C dX11_best_25 rfl (by decide) [(2, .int r22), (0, .ref (ad 0)), (1, .int v1)] rfl ?_
    refine z_iload_n C dX11_best_26 rfl 2 rfl ?_
    by_cases hc27_0 : v1 = 0
    · replace h := z_it hc27_0 h
      refine z_tabIn (off := 25) 0 52 C dX11_best_27 hc27_0 (by decide) (by decide) (by decide) rfl ?_
      refine z_aload_n C dX11_best_52 rfl 1 rfl ?_
      refine z_getr C zf_X11_61 zo_M_24 dX11_best_53 ?_
      refine z_iload_n C dX11_best_56 rfl 0 rfl ?_
      obtain ⟨hi57, h⟩ := z_g_some h
      refine z_iald C za_M_16 (z_in_vp hi57) dX11_best_57 ?_
      exact z_iret C (z_ret1i h) (z_ret2 h) dX11_best_58
    replace h := z_if hc27_0 h
    by_cases hc27_1 : v1 = 1
    · replace h := z_it hc27_1 h
      refine z_tabIn (off := 32) 1 59 C dX11_best_27 hc27_1 (by decide) (by decide) (by decide) rfl ?_
      refine z_aload_n C dX11_best_59 rfl 1 rfl ?_
      refine z_getr C zf_X11_64 zo_M_25 dX11_best_60 ?_
      refine z_iload_n C dX11_best_63 rfl 0 rfl ?_
      obtain ⟨hi64, h⟩ := z_g_some h
      refine z_lald C za_M_17 (z_in_vp hi64) dX11_best_64 ?_
      refine z_ldc2 C dX11_best_65 zl_X11_226 ?_
      refine z_lcmp_le 78 C dX11_best_68 dX11_best_69 rfl (fun hc => ?_) (fun hc => ?_)
      · replace h := z_it hc h
        refine z_aload_n C dX11_best_78 rfl 1 rfl ?_
        refine z_getr C zf_X11_64 zo_M_25 dX11_best_79 ?_
        refine z_iload_n C dX11_best_82 rfl 0 rfl ?_
        obtain ⟨hi83, h⟩ := z_g_some h
        refine z_lald C za_M_17 (z_in_vp hi83) dX11_best_83 ?_
        refine z_l2i C dX11_best_84 ?_
        exact z_iret C (z_ret1i h) (z_ret2 h) dX11_best_85
      · replace h := z_if hc h
        refine z_sipush C dX11_best_72 zcs_m1005 ?_
        refine z_goto 85 C dX11_best_75 rfl ?_
        exact z_iret C (z_ret1i h) (z_ret2 h) dX11_best_85
    replace h := z_if hc27_1 h
    by_cases hc27_2 : v1 = 2
    · replace h := z_it hc27_2 h
      refine z_tabIn (off := 59) 2 86 C dX11_best_27 hc27_2 (by decide) (by decide) (by decide) rfl ?_
      refine z_aload_n C dX11_best_86 rfl 1 rfl ?_
      refine z_getr C zf_X11_67 zo_M_26 dX11_best_87 ?_
      refine z_iload_n C dX11_best_90 rfl 0 rfl ?_
      obtain ⟨hi91, h⟩ := z_g_some h
      refine z_iald C za_M_18 (z_in_vp hi91) dX11_best_91 ?_
      exact z_iret C (z_ret1i h) (z_ret2 h) dX11_best_92
    replace h := z_if hc27_2 h
    refine z_tabOut 93 C dX11_best_27 (z_tabne [0, 1, 2] (by decide) (by decide) (List.forall_mem_cons.mpr ⟨hc27_0, List.forall_mem_cons.mpr ⟨hc27_1, List.forall_mem_cons.mpr ⟨hc27_2, List.forall_mem_nil _⟩⟩⟩)) rfl ?_
    refine z_aload_n C dX11_best_93 rfl 1 rfl ?_
    refine z_getr C zf_X11_70 zo_M_27 dX11_best_94 ?_
    refine z_iload_n C dX11_best_97 rfl 0 rfl ?_
    obtain ⟨hi98, h⟩ := z_g_some h
    refine z_iald C za_M_19 (z_in_vp hi98) dX11_best_98 ?_
    exact z_iret C (z_ret1i h) (z_ret2 h) dX11_best_99
set_option maxRecDepth 100000 in
set_option maxHeartbeats 4000000 in
theorem wX11_cheapest_J146 {F : z_F} {ad : Nat → Nat} {r : Int32} {gE : z_S} (C : z_X F layM nM ad cX11_cheapest RX11 9 (some .int) 3 66 (some (.int r)) gE) (rc : (Int32 × Int32 × Int32 × Int32 × Int32 × Int32) → z_S → Option (Int32 × z_S)) (hrc : ∀ (v1 : Int32) (v2 : Int32) (v3 : Int32) (v4 : Int32) (v5 : Int32) (v6 : Int32) (g : z_S), rc (v1, v2, v3, v4, v5, v6) g = some (r, gE) → z_W F layM nM ad 46 [(0, .ref (ad 0)), (1, .int v1), (2, .int v2), (3, .int v3), (4, .int v4), (5, .int v5), (6, .int v6)] [] g) (v1 : Int32) (v2 : Int32) (v3 : Int32) (v4 : Int32) (v6 : Int32) (s0 : Int32) (g : z_S) (h : fX11_cheapest_J146 rc v1 v2 v3 v4 v6 s0 g = some (r, gE)) : z_W F layM nM ad 146 [(0, .ref (ad 0)), (1, .int v1), (2, .int v2), (3, .int v3), (4, .int v4), (6, .int v6)] [.int s0] g := by
  unfold fX11_cheapest_J146 at h
  refine z_istore C dX11_cheapest_146 (by decide) [(8, .int s0), (0, .ref (ad 0)), (1, .int v1), (2, .int v2), (3, .int v3), (4, .int v4), (6, .int v6)] rfl ?_
  refine z_iload C dX11_cheapest_148 0 rfl ?_
  refine z_if_eq 158 C dX11_cheapest_150 rfl (fun hc => ?_) (fun hc => ?_)
  · replace h := z_it hc h
    refine z_iconst C dX11_cheapest_158 zci_m1 ?_
    refine z_istore C dX11_cheapest_159 (by decide) [(5, .int (-1)), (8, .int s0), (0, .ref (ad 0)), (1, .int v1), (2, .int v2), (3, .int v3), (4, .int v4), (6, .int v6)] rfl ?_
    refine z_iinc C dX11_cheapest_161 (by decide) 7 rfl (z_incl zci_1) [(6, .int (v6 + 1)), (5, .int (-1)), (8, .int s0), (0, .ref (ad 0)), (1, .int v1), (2, .int v2), (3, .int v3), (4, .int v4)] rfl ?_
    refine z_goto 46 C dX11_cheapest_164 rfl ?_
    refine z_loc [3, 4, 5, 6, 7, 1, 0] rfl ?_
    exact hrc v1 v2 v3 v4 (-1) (v6 + 1) g h
  · replace h := z_if hc h
    refine z_iload C dX11_cheapest_153 6 rfl ?_
    refine z_goto 159 C dX11_cheapest_155 rfl ?_
    refine z_istore C dX11_cheapest_159 (by decide) [(5, .int v6), (8, .int s0), (0, .ref (ad 0)), (1, .int v1), (2, .int v2), (3, .int v3), (4, .int v4), (6, .int v6)] rfl ?_
    refine z_iinc C dX11_cheapest_161 (by decide) 7 rfl (z_incl zci_1) [(6, .int (v6 + 1)), (5, .int v6), (8, .int s0), (0, .ref (ad 0)), (1, .int v1), (2, .int v2), (3, .int v3), (4, .int v4)] rfl ?_
    refine z_goto 46 C dX11_cheapest_164 rfl ?_
    refine z_loc [3, 4, 5, 6, 7, 1, 0] rfl ?_
    exact hrc v1 v2 v3 v4 v6 (v6 + 1) g h
set_option maxRecDepth 100000 in
set_option maxHeartbeats 4000000 in
theorem wX11_cheapest_L46 {F : z_F} {ad : Nat → Nat} {r : Int32} {gE : z_S} (C : z_X F layM nM ad cX11_cheapest RX11 9 (some .int) 3 66 (some (.int r)) gE) (k167 : Int32 → Int32 → Int32 → Int32 → z_S → Option (Int32 × z_S)) (hk167 : ∀ (v1 : Int32) (v2 : Int32) (v4 : Int32) (v5 : Int32) (g : z_S), k167 v1 v2 v4 v5 g = some (r, gE) → z_W F layM nM ad 167 [(0, .ref (ad 0)), (1, .int v1), (2, .int v2), (4, .int v4), (5, .int v5)] [] g) : ∀ (n : Nat) (v1 : Int32) (v2 : Int32) (v3 : Int32) (v4 : Int32) (v5 : Int32) (v6 : Int32) (g : z_S), z_loop (fX11_cheapest_B46 k167) n (v1, v2, v3, v4, v5, v6) g = some (r, gE) → z_W F layM nM ad 46 [(0, .ref (ad 0)), (1, .int v1), (2, .int v2), (3, .int v3), (4, .int v4), (5, .int v5), (6, .int v6)] [] g := by
  intro n
  induction n with
  | zero =>
    intro v1 v2 v3 v4 v5 v6 g h
    exact (z_loop_0 h).elim
  | succ n ih =>
    intro v1 v2 v3 v4 v5 v6 g h
    replace h := z_loop_S h
    simp only [fX11_cheapest_B46] at h
    refine z_iload C dX11_cheapest_46 6 rfl ?_
    refine z_aload_n C dX11_cheapest_48 rfl 0 rfl ?_
    refine z_geti C zf_X11_135 zo_M_1 dX11_cheapest_49 ?_
    refine z_icmp_ge 167 C dX11_cheapest_52 rfl (fun hc => ?_) (fun hc => ?_)
    · replace h := z_it hc h
      refine z_loc [0, 1, 2, 4, 5] rfl ?_
      exact hk167 v1 v2 v4 v5 g h
    · replace h := z_if hc h
      refine z_iload C dX11_cheapest_55 5 rfl ?_
      refine z_if_ge 167 C dX11_cheapest_57 rfl (fun hc => ?_) (fun hc => ?_)
      · replace h := z_it hc h
        refine z_loc [0, 1, 2, 4, 5] rfl ?_
        exact hk167 v1 v2 v4 v5 g h
      · replace h := z_if hc h
        refine z_iload_n C dX11_cheapest_60 rfl 2 rfl ?_
        refine z_aload_n C dX11_cheapest_61 rfl 0 rfl ?_
        refine z_getr C zf_X11_13 zo_M_3 dX11_cheapest_62 ?_
        refine z_iload C dX11_cheapest_65 6 rfl ?_
        obtain ⟨hi67, h⟩ := z_g_some h
        refine z_iald C za_M_2 (z_in_vp hi67) dX11_cheapest_67 ?_
        refine z_iadd C dX11_cheapest_68 ?_
        refine z_aload_n C dX11_cheapest_69 rfl 0 rfl ?_
        refine z_getr C zf_X11_19 zo_M_5 dX11_cheapest_70 ?_
        refine z_iload C dX11_cheapest_73 6 rfl ?_
        obtain ⟨hi75, h⟩ := z_g_some h
        refine z_iald C za_M_4 (z_in_vp hi75) dX11_cheapest_75 ?_
        obtain ⟨r76, g76, hq76, h⟩ := z_b_some h
        refine z_callSi [] C zc_X11_201 rfl (by decide) (Nat.le_of_ble_eq_true rfl) dX11_cheapest_76 rfl (wX11_cell ad (v2 + (g.1 2 (v6).toNatClampNeg)) (g.1 4 (v6).toNatClampNeg) g r76 g76 hq76) ?_
        refine z_istore C dX11_cheapest_79 (by decide) [(7, .int r76), (0, .ref (ad 0)), (1, .int v1), (2, .int v2), (3, .int v3), (4, .int v4), (5, .int v5), (6, .int v6)] rfl ?_
        refine z_aload_n C dX11_cheapest_81 rfl 1 rfl ?_
        refine z_iload_n C dX11_cheapest_82 rfl 4 rfl ?_
        refine z_iload C dX11_cheapest_83 7 rfl ?_
        obtain ⟨r85, g85, hq85, h⟩ := z_b_some h
        refine z_callVi [] C zc_X11_209 zk_M rfl (by decide) (Nat.le_of_ble_eq_true rfl) dX11_cheapest_85 rfl (wX11_mayFollow ad v3 v6 g76 r85 g85 hq85) ?_
        refine z_if_eq 145 C dX11_cheapest_88 rfl (fun hc => ?_) (fun hc => ?_)
        · replace h := z_it hc h
          refine z_iconst C dX11_cheapest_145 zci_0 ?_
          refine z_loc [1, 2, 3, 4, 5, 7] rfl ?_
          exact wX11_cheapest_J146 C _ (fun v1 v2 v3 v4 v5 v6 g h => ih v1 v2 v3 v4 v5 v6 g h) v1 v2 v3 v4 v6 0 g85 h
        · replace h := z_if hc h
          refine z_aload_n C dX11_cheapest_91 rfl 1 rfl ?_
          refine z_iload C dX11_cheapest_92 7 rfl ?_
          refine z_iload_n C dX11_cheapest_94 rfl 3 rfl ?_
          obtain ⟨r95, g95, hq95, h⟩ := z_b_some h
          refine z_callVi [] C zc_X11_212 zk_M rfl (by decide) (Nat.le_of_ble_eq_true rfl) dX11_cheapest_95 rfl (wX11_stands ad v6 v2 g85 r95 g95 hq95) ?_
          refine z_if_eq 145 C dX11_cheapest_98 rfl (fun hc => ?_) (fun hc => ?_)
          · replace h := z_it hc h
            refine z_iconst C dX11_cheapest_145 zci_0 ?_
            refine z_loc [1, 2, 3, 4, 5, 7] rfl ?_
            exact wX11_cheapest_J146 C _ (fun v1 v2 v3 v4 v5 v6 g h => ih v1 v2 v3 v4 v5 v6 g h) v1 v2 v3 v4 v6 0 g95 h
          · replace h := z_if hc h
            refine z_aload_n C dX11_cheapest_101 rfl 1 rfl ?_
            refine z_getr C zf_X11_57 zo_M_23 dX11_cheapest_102 ?_
            refine z_iload C dX11_cheapest_105 0 rfl ?_
            obtain ⟨hi107, h⟩ := z_g_some h
            refine z_lald C za_M_15 (z_in_vp hi107) dX11_cheapest_107 ?_
            refine z_lconst C dX11_cheapest_108 zcl_0 ?_
            refine z_lcmp_le 145 C dX11_cheapest_109 dX11_cheapest_110 rfl (fun hc => ?_) (fun hc => ?_)
            · replace h := z_it hc h
              refine z_iconst C dX11_cheapest_145 zci_0 ?_
              refine z_loc [1, 2, 3, 4, 5, 7] rfl ?_
              exact wX11_cheapest_J146 C _ (fun v1 v2 v3 v4 v5 v6 g h => ih v1 v2 v3 v4 v5 v6 g h) v1 v2 v3 v4 v6 0 g95 h
            · replace h := z_if hc h
              refine z_aload_n C dX11_cheapest_113 rfl 1 rfl ?_
              refine z_getr C zf_X11_16 zo_M_4 dX11_cheapest_114 ?_
              refine z_iload C dX11_cheapest_117 7 rfl ?_
              obtain ⟨hi119, h⟩ := z_g_some h
              refine z_iald C za_M_3 (z_in_vp hi119) dX11_cheapest_119 ?_
              refine z_aload_n C dX11_cheapest_120 rfl 1 rfl ?_
              refine z_getr C zf_X11_61 zo_M_24 dX11_cheapest_121 ?_
              refine z_iload C dX11_cheapest_124 0 rfl ?_
              obtain ⟨hi126, h⟩ := z_g_some h
              refine z_iald C za_M_16 (z_in_vp hi126) dX11_cheapest_126 ?_
              refine z_iadd C dX11_cheapest_127 ?_
              refine z_aload_n C dX11_cheapest_128 rfl 1 rfl ?_
              refine z_getr C zf_X11_61 zo_M_24 dX11_cheapest_129 ?_
              refine z_iload_n C dX11_cheapest_132 rfl 3 rfl ?_
              refine z_iload_n C dX11_cheapest_133 rfl 4 rfl ?_
              obtain ⟨r134, g134, hq134, h⟩ := z_b_some h
              refine z_callSi [.ref (ad 16), .int ((g95.1 3 (v6).toNatClampNeg) + (g95.1 16 (r76).toNatClampNeg))] C zc_X11_201 rfl (by decide) (Nat.le_of_ble_eq_true rfl) dX11_cheapest_134 rfl (wX11_cell ad v2 v3 g95 r134 g134 hq134) ?_
              obtain ⟨hi137, h⟩ := z_g_some h
              refine z_iald C za_M_16 (z_in_vp hi137) dX11_cheapest_137 ?_
              refine z_icmp_ne 145 C dX11_cheapest_138 rfl (fun hc => ?_) (fun hc => ?_)
              · replace h := z_it hc h
                refine z_iconst C dX11_cheapest_141 zci_1 ?_
                refine z_goto 146 C dX11_cheapest_142 rfl ?_
                refine z_loc [1, 2, 3, 4, 5, 7] rfl ?_
                exact wX11_cheapest_J146 C _ (fun v1 v2 v3 v4 v5 v6 g h => ih v1 v2 v3 v4 v5 v6 g h) v1 v2 v3 v4 v6 1 g134 h
              · replace h := z_if hc h
                refine z_iconst C dX11_cheapest_145 zci_0 ?_
                refine z_loc [1, 2, 3, 4, 5, 7] rfl ?_
                exact wX11_cheapest_J146 C _ (fun v1 v2 v3 v4 v5 v6 g h => ih v1 v2 v3 v4 v5 v6 g h) v1 v2 v3 v4 v6 0 g134 h
set_option maxRecDepth 100000 in
set_option maxHeartbeats 4000000 in
theorem wX11_cheapest_L32 {F : z_F} {ad : Nat → Nat} {r : Int32} {gE : z_S} (C : z_X F layM nM ad cX11_cheapest RX11 9 (some .int) 3 66 (some (.int r)) gE) : ∀ (n : Nat) (v1 : Int32) (v2 : Int32) (v3 : Int32) (v4 : Int32) (g : z_S), z_loop fX11_cheapest_B32 n (v1, v2, v3, v4) g = some (r, gE) → z_W F layM nM ad 32 [(0, .ref (ad 0)), (1, .int v1), (2, .int v2), (3, .int v3), (4, .int v4)] [] g := by
  intro n
  induction n with
  | zero =>
    intro v1 v2 v3 v4 g h
    exact (z_loop_0 h).elim
  | succ n ih =>
    intro v1 v2 v3 v4 g h
    replace h := z_loop_S h
    simp only [fX11_cheapest_B32] at h
    refine z_iload_n C dX11_cheapest_32 rfl 2 rfl ?_
    refine z_aload_n C dX11_cheapest_33 rfl 0 rfl ?_
    refine z_geti C zf_X11_141 zo_M_9 dX11_cheapest_34 ?_
    refine z_icmp_ge 200 C dX11_cheapest_37 rfl (fun hc => ?_) (fun hc => ?_)
    · replace h := z_it hc h
      refine z_iconst C dX11_cheapest_200 zci_m1 ?_
      exact z_iret C (z_ret1i h) (z_ret2 h) dX11_cheapest_201
    · replace h := z_if hc h
      refine z_iconst C dX11_cheapest_40 zci_m1 ?_
      refine z_istore C dX11_cheapest_41 (by decide) [(5, .int (-1)), (0, .ref (ad 0)), (1, .int v1), (2, .int v2), (3, .int v3), (4, .int v4)] rfl ?_
      refine z_iconst C dX11_cheapest_43 zci_0 ?_
      refine z_istore C dX11_cheapest_44 (by decide) [(6, .int 0), (5, .int (-1)), (0, .ref (ad 0)), (1, .int v1), (2, .int v2), (3, .int v3), (4, .int v4)] rfl ?_
      refine z_loc [2, 3, 4, 5, 6, 1, 0] rfl ?_
      refine wX11_cheapest_L46 C _ ?_ zN v1 v2 v3 v4 (-1) 0 g h
      · intro v1 v2 v4 v5 g h
        refine z_iload C dX11_cheapest_167 3 rfl ?_
        refine z_iload_n C dX11_cheapest_169 rfl 1 rfl ?_
        refine z_icmp_ne 176 C dX11_cheapest_170 rfl (fun hc => ?_) (fun hc => ?_)
        · replace h := z_it hc h
          refine z_iload C dX11_cheapest_173 4 rfl ?_
          exact z_iret C (z_ret1i h) (z_ret2 h) dX11_cheapest_175
        · replace h := z_if hc h
          refine z_iload_n C dX11_cheapest_176 rfl 2 rfl ?_
          refine z_aload_n C dX11_cheapest_177 rfl 0 rfl ?_
          refine z_getr C zf_X11_13 zo_M_3 dX11_cheapest_178 ?_
          refine z_iload C dX11_cheapest_181 4 rfl ?_
          obtain ⟨hi183, h⟩ := z_g_some h
          refine z_iald C za_M_2 (z_in_vp hi183) dX11_cheapest_183 ?_
          refine z_iadd C dX11_cheapest_184 ?_
          refine z_istore_n C dX11_cheapest_185 rfl (by decide) [(2, .int (v2 + (g.1 2 (v5).toNatClampNeg))), (0, .ref (ad 0)), (1, .int v1), (4, .int v4), (5, .int v5)] rfl ?_
          refine z_aload_n C dX11_cheapest_186 rfl 1 rfl ?_
          refine z_getr C zf_X11_19 zo_M_5 dX11_cheapest_187 ?_
          refine z_iload C dX11_cheapest_190 4 rfl ?_
          obtain ⟨hi192, h⟩ := z_g_some h
          refine z_iald C za_M_4 (z_in_vp hi192) dX11_cheapest_192 ?_
          refine z_istore_n C dX11_cheapest_193 rfl (by decide) [(3, .int (g.1 4 (v5).toNatClampNeg)), (2, .int (v2 + (g.1 2 (v5).toNatClampNeg))), (0, .ref (ad 0)), (1, .int v1), (4, .int v4), (5, .int v5)] rfl ?_
          refine z_iinc C dX11_cheapest_194 (by decide) 4 rfl (z_incl zci_1) [(4, .int (v4 + 1)), (3, .int (g.1 4 (v5).toNatClampNeg)), (2, .int (v2 + (g.1 2 (v5).toNatClampNeg))), (0, .ref (ad 0)), (1, .int v1), (5, .int v5)] rfl ?_
          refine z_goto 32 C dX11_cheapest_197 rfl ?_
          refine z_loc [3, 4, 2, 1, 0] rfl ?_
          exact ih v1 (v2 + (g.1 2 (v5).toNatClampNeg)) (g.1 4 (v5).toNatClampNeg) (v4 + 1) g h
set_option maxRecDepth 100000 in
set_option maxHeartbeats 4000000 in
theorem wX11_cheapest (ad : Nat → Nat) (v1 : Int32) (g : z_S) (r : Int32) (gE : z_S) (h : fX11_cheapest v1 g = some (r, gE)) : z_M yX11_cheapest cX11_cheapest 9 (some .int) 3 66 layM nM ad [.ref (ad 0), .int v1] g (some (.int r)) gE := by
  refine z_enter (by decide) (Nat.le_of_ble_eq_true rfl) (fun F C => ?_)
  replace C : z_X F layM nM ad cX11_cheapest RX11 9 (some .int) 3 66 (some (.int r)) gE := C
  show z_W F layM nM ad 0 [(0, .ref (ad 0)), (1, .int v1)] [] g
  unfold fX11_cheapest at h
  refine z_aload_n C dX11_cheapest_0 rfl 0 rfl ?_
  obtain ⟨r1, g1, hq1, h⟩ := z_b_some h
  refine z_callVv [] C zc_X11_219 zk_M rfl (by decide) (Nat.le_of_ble_eq_true rfl) dX11_cheapest_1 rfl (wX11_findReadings ad g g1 hq1) ?_
  refine z_iload_n C dX11_cheapest_4 rfl 1 rfl ?_
  refine z_if_lt 23 C dX11_cheapest_5 rfl (fun hc => ?_) (fun hc => ?_)
  · replace h := z_it hc h
    refine z_iconst C dX11_cheapest_23 zci_m1 ?_
    exact z_iret C (z_ret1i h) (z_ret2 h) dX11_cheapest_24
  · replace h := z_if hc h
    refine z_aload_n C dX11_cheapest_8 rfl 0 rfl ?_
    refine z_getr C zf_X11_57 zo_M_23 dX11_cheapest_9 ?_
    refine z_iconst C dX11_cheapest_12 zci_0 ?_
    refine z_iconst C dX11_cheapest_13 zci_4 ?_
    obtain ⟨r14, g14, hq14, h⟩ := z_b_some h
    refine z_callSi [.ref (ad 15)] C zc_X11_201 rfl (by decide) (Nat.le_of_ble_eq_true rfl) dX11_cheapest_14 rfl (wX11_cell ad 0 4 g1 r14 g14 hq14) ?_
    obtain ⟨hi17, h⟩ := z_g_some h
    refine z_lald C za_M_15 (z_in_vp hi17) dX11_cheapest_17 ?_
    refine z_lconst C dX11_cheapest_18 zcl_0 ?_
    refine z_lcmp_ne 25 C dX11_cheapest_19 dX11_cheapest_20 rfl (fun hc => ?_) (fun hc => ?_)
    · replace h := z_it hc h
      refine z_iconst C dX11_cheapest_23 zci_m1 ?_
      exact z_iret C (z_ret1i h) (z_ret2 h) dX11_cheapest_24
    · replace h := z_if hc h
      refine z_iconst C dX11_cheapest_25 zci_0 ?_
      refine z_istore_n C dX11_cheapest_26 rfl (by decide) [(2, .int 0), (0, .ref (ad 0)), (1, .int v1)] rfl ?_
      refine z_iconst C dX11_cheapest_27 zci_4 ?_
      refine z_istore_n C dX11_cheapest_28 rfl (by decide) [(3, .int 4), (2, .int 0), (0, .ref (ad 0)), (1, .int v1)] rfl ?_
      refine z_iconst C dX11_cheapest_29 zci_0 ?_
      refine z_istore C dX11_cheapest_30 (by decide) [(4, .int 0), (3, .int 4), (2, .int 0), (0, .ref (ad 0)), (1, .int v1)] rfl ?_
      refine z_loc [3, 4, 2, 1, 0] rfl ?_
      refine wX11_cheapest_L32 C  zN v1 0 4 0 g14 h
set_option maxRecDepth 100000 in
set_option maxHeartbeats 4000000 in
theorem wX11_end_L24 {F : z_F} {ad : Nat → Nat} {r : Int32} {gE : z_S} (C : z_X F layM nM ad cX11_end RX11 6 (some .int) 3 66 (some (.int r)) gE) (k57 : Int32 → z_S → Option (Int32 × z_S)) (hk57 : ∀ (v1 : Int32) (g : z_S), k57 v1 g = some (r, gE) → z_W F layM nM ad 57 [(0, .ref (ad 0)), (1, .int v1)] [] g) : ∀ (n : Nat) (v1 : Int32) (v2 : Int32) (g : z_S), z_loop (fX11_end_B24 k57) n (v1, v2) g = some (r, gE) → z_W F layM nM ad 24 [(0, .ref (ad 0)), (1, .int v1), (2, .int v2)] [] g := by
  intro n
  induction n with
  | zero =>
    intro v1 v2 g h
    exact (z_loop_0 h).elim
  | succ n ih =>
    intro v1 v2 g h
    replace h := z_loop_S h
    simp only [fX11_end_B24] at h
    refine z_iload_n C dX11_end_24 rfl 2 rfl ?_
    refine z_sipush C dX11_end_25 zcs_245 ?_
    refine z_icmp_ge 57 C dX11_end_28 rfl (fun hc => ?_) (fun hc => ?_)
    · replace h := z_it hc h
      refine z_loc [0, 1] rfl ?_
      exact hk57 v1 g h
    · replace h := z_if hc h
      refine z_aload_n C dX11_end_31 rfl 0 rfl ?_
      refine z_getr C zf_X11_73 zo_M_28 dX11_end_32 ?_
      refine z_iload_n C dX11_end_35 rfl 2 rfl ?_
      refine z_iload_n C dX11_end_36 rfl 2 rfl ?_
      refine z_iconst C dX11_end_37 zci_0 ?_
      refine z_iconst C dX11_end_38 zci_4 ?_
      obtain ⟨r39, g39, hq39, h⟩ := z_b_some h
      refine z_callSi [.int v2, .int v2, .ref (ad 20)] C zc_X11_201 rfl (by decide) (Nat.le_of_ble_eq_true rfl) dX11_end_39 rfl (wX11_cell ad 0 4 g r39 g39 hq39) ?_
      refine z_icmp_ne 49 C dX11_end_42 rfl (fun hc => ?_) (fun hc => ?_)
      · replace h := z_it hc h
        refine z_iconst C dX11_end_45 zci_1 ?_
        refine z_goto 50 C dX11_end_46 rfl ?_
        obtain ⟨hi50, h⟩ := z_g_some h
        obtain ⟨g50, eg50, h⟩ := z_s_some h
        refine z_zast C za_M_20 (z_in_vp hi50) dX11_end_50 ?_
        refine z_gw eg50 ?_
        refine z_iinc C dX11_end_51 (by decide) 2 rfl (z_incl zci_1) [(2, .int (v2 + 1)), (0, .ref (ad 0)), (1, .int v1)] rfl ?_
        refine z_goto 24 C dX11_end_54 rfl ?_
        refine z_loc [1, 2, 0] rfl ?_
        exact ih v1 (v2 + 1) g50 h
      · replace h := z_if hc h
        refine z_iconst C dX11_end_49 zci_0 ?_
        obtain ⟨hi50, h⟩ := z_g_some h
        obtain ⟨g50, eg50, h⟩ := z_s_some h
        refine z_zast C za_M_20 (z_in_vp hi50) dX11_end_50 ?_
        refine z_gw eg50 ?_
        refine z_iinc C dX11_end_51 (by decide) 2 rfl (z_incl zci_1) [(2, .int (v2 + 1)), (0, .ref (ad 0)), (1, .int v1)] rfl ?_
        refine z_goto 24 C dX11_end_54 rfl ?_
        refine z_loc [1, 2, 0] rfl ?_
        exact ih v1 (v2 + 1) g50 h
set_option maxRecDepth 100000 in
set_option maxHeartbeats 4000000 in
theorem wX11_end_L81 {F : z_F} {ad : Nat → Nat} {r : Int32} {gE : z_S} (C : z_X F layM nM ad cX11_end RX11 6 (some .int) 3 66 (some (.int r)) gE) (k213 : Int32 → Int32 → Int32 → Int32 → z_S → Option (Int32 × z_S)) (hk213 : ∀ (v1 : Int32) (v2 : Int32) (v3 : Int32) (v4 : Int32) (g : z_S), k213 v1 v2 v3 v4 g = some (r, gE) → z_W F layM nM ad 213 [(0, .ref (ad 0)), (1, .int v1), (2, .int v2), (3, .int v3), (4, .int v4)] [] g) : ∀ (n : Nat) (v1 : Int32) (v2 : Int32) (v3 : Int32) (v4 : Int32) (v5 : Int32) (g : z_S), z_loop (fX11_end_B81 k213) n (v1, v2, v3, v4, v5) g = some (r, gE) → z_W F layM nM ad 81 [(0, .ref (ad 0)), (1, .int v1), (2, .int v2), (3, .int v3), (4, .int v4), (5, .int v5)] [] g := by
  intro n
  induction n with
  | zero =>
    intro v1 v2 v3 v4 v5 g h
    exact (z_loop_0 h).elim
  | succ n ih =>
    intro v1 v2 v3 v4 v5 g h
    replace h := z_loop_S h
    simp only [fX11_end_B81] at h
    refine z_iload C dX11_end_81 5 rfl ?_
    refine z_aload_n C dX11_end_83 rfl 0 rfl ?_
    refine z_geti C zf_X11_135 zo_M_1 dX11_end_84 ?_
    refine z_icmp_ge 213 C dX11_end_87 rfl (fun hc => ?_) (fun hc => ?_)
    · replace h := z_it hc h
      refine z_loc [0, 1, 2, 3, 4] rfl ?_
      exact hk213 v1 v2 v3 v4 g h
    · replace h := z_if hc h
      refine z_aload_n C dX11_end_90 rfl 0 rfl ?_
      refine z_getr C zf_X11_73 zo_M_28 dX11_end_91 ?_
      refine z_iload_n C dX11_end_94 rfl 3 rfl ?_
      refine z_iload C dX11_end_95 4 rfl ?_
      obtain ⟨r97, g97, hq97, h⟩ := z_b_some h
      refine z_callSi [.ref (ad 20)] C zc_X11_201 rfl (by decide) (Nat.le_of_ble_eq_true rfl) dX11_end_97 rfl (wX11_cell ad v3 v4 g r97 g97 hq97) ?_
      obtain ⟨hi100, h⟩ := z_g_some h
      refine z_zald C za_M_20 (z_in_vp hi100) dX11_end_100 ?_
      refine z_if_eq 213 C dX11_end_101 rfl (fun hc => ?_) (fun hc => ?_)
      · replace h := z_it hc h
        refine z_loc [0, 1, 2, 3, 4] rfl ?_
        exact hk213 v1 v2 v3 v4 g97 h
      · replace h := z_if hc h
        refine z_aload_n C dX11_end_104 rfl 0 rfl ?_
        refine z_iload C dX11_end_105 4 rfl ?_
        refine z_iload C dX11_end_107 5 rfl ?_
        obtain ⟨r109, g109, hq109, h⟩ := z_b_some h
        refine z_callVi [] C zc_X11_209 zk_M rfl (by decide) (Nat.le_of_ble_eq_true rfl) dX11_end_109 rfl (wX11_mayFollow ad v4 v5 g97 r109 g109 hq109) ?_
        refine z_if_eq 207 C dX11_end_112 rfl (fun hc => ?_) (fun hc => ?_)
        · replace h := z_it hc h
          refine z_iinc C dX11_end_207 (by decide) 5 rfl (z_incl zci_1) [(5, .int (v5 + 1)), (0, .ref (ad 0)), (1, .int v1), (2, .int v2), (3, .int v3), (4, .int v4)] rfl ?_
          refine z_goto 81 C dX11_end_210 rfl ?_
          refine z_loc [1, 2, 3, 4, 5, 0] rfl ?_
          exact ih v1 v2 v3 v4 (v5 + 1) g109 h
        · replace h := z_if hc h
          refine z_aload_n C dX11_end_115 rfl 0 rfl ?_
          refine z_iload C dX11_end_116 5 rfl ?_
          refine z_iload_n C dX11_end_118 rfl 3 rfl ?_
          obtain ⟨r119, g119, hq119, h⟩ := z_b_some h
          refine z_callVi [] C zc_X11_212 zk_M rfl (by decide) (Nat.le_of_ble_eq_true rfl) dX11_end_119 rfl (wX11_stands ad v5 v3 g109 r119 g119 hq119) ?_
          refine z_if_eq 207 C dX11_end_122 rfl (fun hc => ?_) (fun hc => ?_)
          · replace h := z_it hc h
            refine z_iinc C dX11_end_207 (by decide) 5 rfl (z_incl zci_1) [(5, .int (v5 + 1)), (0, .ref (ad 0)), (1, .int v1), (2, .int v2), (3, .int v3), (4, .int v4)] rfl ?_
            refine z_goto 81 C dX11_end_210 rfl ?_
            refine z_loc [1, 2, 3, 4, 5, 0] rfl ?_
            exact ih v1 v2 v3 v4 (v5 + 1) g119 h
          · replace h := z_if hc h
            refine z_aload_n C dX11_end_125 rfl 0 rfl ?_
            refine z_getr C zf_X11_57 zo_M_23 dX11_end_126 ?_
            refine z_iload_n C dX11_end_129 rfl 3 rfl ?_
            refine z_aload_n C dX11_end_130 rfl 0 rfl ?_
            refine z_getr C zf_X11_13 zo_M_3 dX11_end_131 ?_
            refine z_iload C dX11_end_134 5 rfl ?_
            obtain ⟨hi136, h⟩ := z_g_some h
            refine z_iald C za_M_2 (z_in_vp hi136) dX11_end_136 ?_
            refine z_iadd C dX11_end_137 ?_
            refine z_aload_n C dX11_end_138 rfl 0 rfl ?_
            refine z_getr C zf_X11_19 zo_M_5 dX11_end_139 ?_
            refine z_iload C dX11_end_142 5 rfl ?_
            obtain ⟨hi144, h⟩ := z_g_some h
            refine z_iald C za_M_4 (z_in_vp hi144) dX11_end_144 ?_
            obtain ⟨r145, g145, hq145, h⟩ := z_b_some h
            refine z_callSi [.ref (ad 15)] C zc_X11_201 rfl (by decide) (Nat.le_of_ble_eq_true rfl) dX11_end_145 rfl (wX11_cell ad (v3 + (g119.1 2 (v5).toNatClampNeg)) (g119.1 4 (v5).toNatClampNeg) g119 r145 g145 hq145) ?_
            obtain ⟨hi148, h⟩ := z_g_some h
            refine z_lald C za_M_15 (z_in_vp hi148) dX11_end_148 ?_
            refine z_lconst C dX11_end_149 zcl_0 ?_
            refine z_lcmp_le 207 C dX11_end_150 dX11_end_151 rfl (fun hc => ?_) (fun hc => ?_)
            · replace h := z_it hc h
              refine z_iinc C dX11_end_207 (by decide) 5 rfl (z_incl zci_1) [(5, .int (v5 + 1)), (0, .ref (ad 0)), (1, .int v1), (2, .int v2), (3, .int v3), (4, .int v4)] rfl ?_
              refine z_goto 81 C dX11_end_210 rfl ?_
              refine z_loc [1, 2, 3, 4, 5, 0] rfl ?_
              exact ih v1 v2 v3 v4 (v5 + 1) g145 h
            · replace h := z_if hc h
              refine z_aload_n C dX11_end_154 rfl 0 rfl ?_
              refine z_getr C zf_X11_73 zo_M_28 dX11_end_155 ?_
              refine z_iload_n C dX11_end_158 rfl 3 rfl ?_
              refine z_aload_n C dX11_end_159 rfl 0 rfl ?_
              refine z_getr C zf_X11_13 zo_M_3 dX11_end_160 ?_
              refine z_iload C dX11_end_163 5 rfl ?_
              obtain ⟨hi165, h⟩ := z_g_some h
              refine z_iald C za_M_2 (z_in_vp hi165) dX11_end_165 ?_
              refine z_iadd C dX11_end_166 ?_
              refine z_aload_n C dX11_end_167 rfl 0 rfl ?_
              refine z_getr C zf_X11_19 zo_M_5 dX11_end_168 ?_
              refine z_iload C dX11_end_171 5 rfl ?_
              obtain ⟨hi173, h⟩ := z_g_some h
              refine z_iald C za_M_4 (z_in_vp hi173) dX11_end_173 ?_
              obtain ⟨r174, g174, hq174, h⟩ := z_b_some h
              refine z_callSi [.ref (ad 20)] C zc_X11_201 rfl (by decide) (Nat.le_of_ble_eq_true rfl) dX11_end_174 rfl (wX11_cell ad (v3 + (g145.1 2 (v5).toNatClampNeg)) (g145.1 4 (v5).toNatClampNeg) g145 r174 g174 hq174) ?_
              refine z_iconst C dX11_end_177 zci_1 ?_
              obtain ⟨hi178, h⟩ := z_g_some h
              obtain ⟨g178, eg178, h⟩ := z_s_some h
              refine z_zast C za_M_20 (z_in_vp hi178) dX11_end_178 ?_
              refine z_gw eg178 ?_
              refine z_iload_n C dX11_end_179 rfl 2 rfl ?_
              refine z_if_ne 201 C dX11_end_180 rfl (fun hc => ?_) (fun hc => ?_)
              · replace h := z_it hc h
                refine z_iload_n C dX11_end_183 rfl 3 rfl ?_
                refine z_iload_n C dX11_end_184 rfl 1 rfl ?_
                refine z_icmp_ge 205 C dX11_end_185 rfl (fun hc => ?_) (fun hc => ?_)
                · replace h := z_it hc h
                  refine z_iconst C dX11_end_205 zci_0 ?_
                  refine z_istore_n C dX11_end_206 rfl (by decide) [(2, .int 0), (0, .ref (ad 0)), (1, .int v1), (3, .int v3), (4, .int v4), (5, .int v5)] rfl ?_
                  refine z_iinc C dX11_end_207 (by decide) 5 rfl (z_incl zci_1) [(5, .int (v5 + 1)), (2, .int 0), (0, .ref (ad 0)), (1, .int v1), (3, .int v3), (4, .int v4)] rfl ?_
                  refine z_goto 81 C dX11_end_210 rfl ?_
                  refine z_loc [2, 3, 1, 4, 5, 0] rfl ?_
                  exact ih v1 0 v3 v4 (v5 + 1) g178 h
                · replace h := z_if hc h
                  refine z_iload_n C dX11_end_188 rfl 1 rfl ?_
                  refine z_iload_n C dX11_end_189 rfl 3 rfl ?_
                  refine z_aload_n C dX11_end_190 rfl 0 rfl ?_
                  refine z_getr C zf_X11_13 zo_M_3 dX11_end_191 ?_
                  refine z_iload C dX11_end_194 5 rfl ?_
                  obtain ⟨hi196, h⟩ := z_g_some h
                  refine z_iald C za_M_2 (z_in_vp hi196) dX11_end_196 ?_
                  refine z_iadd C dX11_end_197 ?_
                  refine z_icmp_ge 205 C dX11_end_198 rfl (fun hc => ?_) (fun hc => ?_)
                  · replace h := z_it hc h
                    refine z_iconst C dX11_end_205 zci_0 ?_
                    refine z_istore_n C dX11_end_206 rfl (by decide) [(2, .int 0), (0, .ref (ad 0)), (1, .int v1), (3, .int v3), (4, .int v4), (5, .int v5)] rfl ?_
                    refine z_iinc C dX11_end_207 (by decide) 5 rfl (z_incl zci_1) [(5, .int (v5 + 1)), (2, .int 0), (0, .ref (ad 0)), (1, .int v1), (3, .int v3), (4, .int v4)] rfl ?_
                    refine z_goto 81 C dX11_end_210 rfl ?_
                    refine z_loc [2, 3, 1, 4, 5, 0] rfl ?_
                    exact ih v1 0 v3 v4 (v5 + 1) g178 h
                  · replace h := z_if hc h
                    refine z_iconst C dX11_end_201 zci_1 ?_
                    refine z_goto 206 C dX11_end_202 rfl ?_
                    refine z_istore_n C dX11_end_206 rfl (by decide) [(2, .int 1), (0, .ref (ad 0)), (1, .int v1), (3, .int v3), (4, .int v4), (5, .int v5)] rfl ?_
                    refine z_iinc C dX11_end_207 (by decide) 5 rfl (z_incl zci_1) [(5, .int (v5 + 1)), (2, .int 1), (0, .ref (ad 0)), (1, .int v1), (3, .int v3), (4, .int v4)] rfl ?_
                    refine z_goto 81 C dX11_end_210 rfl ?_
                    refine z_loc [2, 3, 1, 4, 5, 0] rfl ?_
                    exact ih v1 1 v3 v4 (v5 + 1) g178 h
              · replace h := z_if hc h
                refine z_iconst C dX11_end_201 zci_1 ?_
                refine z_goto 206 C dX11_end_202 rfl ?_
                refine z_istore_n C dX11_end_206 rfl (by decide) [(2, .int 1), (0, .ref (ad 0)), (1, .int v1), (3, .int v3), (4, .int v4), (5, .int v5)] rfl ?_
                refine z_iinc C dX11_end_207 (by decide) 5 rfl (z_incl zci_1) [(5, .int (v5 + 1)), (2, .int 1), (0, .ref (ad 0)), (1, .int v1), (3, .int v3), (4, .int v4)] rfl ?_
                refine z_goto 81 C dX11_end_210 rfl ?_
                refine z_loc [2, 3, 1, 4, 5, 0] rfl ?_
                exact ih v1 1 v3 v4 (v5 + 1) g178 h
set_option maxRecDepth 100000 in
set_option maxHeartbeats 4000000 in
theorem wX11_end_L72 {F : z_F} {ad : Nat → Nat} {r : Int32} {gE : z_S} (C : z_X F layM nM ad cX11_end RX11 6 (some .int) 3 66 (some (.int r)) gE) (k219 : Int32 → Int32 → Int32 → z_S → Option (Int32 × z_S)) (hk219 : ∀ (v1 : Int32) (v2 : Int32) (v3 : Int32) (g : z_S), k219 v1 v2 v3 g = some (r, gE) → z_W F layM nM ad 219 [(0, .ref (ad 0)), (1, .int v1), (2, .int v2), (3, .int v3)] [] g) : ∀ (n : Nat) (v1 : Int32) (v2 : Int32) (v3 : Int32) (v4 : Int32) (g : z_S), z_loop (fX11_end_B72 k219) n (v1, v2, v3, v4) g = some (r, gE) → z_W F layM nM ad 72 [(0, .ref (ad 0)), (1, .int v1), (2, .int v2), (3, .int v3), (4, .int v4)] [] g := by
  intro n
  induction n with
  | zero =>
    intro v1 v2 v3 v4 g h
    exact (z_loop_0 h).elim
  | succ n ih =>
    intro v1 v2 v3 v4 g h
    replace h := z_loop_S h
    simp only [fX11_end_B72] at h
    refine z_iload C dX11_end_72 4 rfl ?_
    refine z_iconst C dX11_end_74 zci_4 ?_
    refine z_icmp_gt 219 C dX11_end_75 rfl (fun hc => ?_) (fun hc => ?_)
    · replace h := z_it hc h
      refine z_loc [0, 1, 2, 3] rfl ?_
      exact hk219 v1 v2 v3 g h
    · replace h := z_if hc h
      refine z_iconst C dX11_end_78 zci_0 ?_
      refine z_istore C dX11_end_79 (by decide) [(5, .int 0), (0, .ref (ad 0)), (1, .int v1), (2, .int v2), (3, .int v3), (4, .int v4)] rfl ?_
      refine z_loc [1, 2, 3, 4, 5, 0] rfl ?_
      refine wX11_end_L81 C _ ?_ zN v1 v2 v3 v4 0 g h
      · intro v1 v2 v3 v4 g h
        refine z_iinc C dX11_end_213 (by decide) 4 rfl (z_incl zci_1) [(4, .int (v4 + 1)), (0, .ref (ad 0)), (1, .int v1), (2, .int v2), (3, .int v3)] rfl ?_
        refine z_goto 72 C dX11_end_216 rfl ?_
        refine z_loc [1, 2, 3, 4, 0] rfl ?_
        exact ih v1 v2 v3 (v4 + 1) g h
set_option maxRecDepth 100000 in
set_option maxHeartbeats 4000000 in
theorem wX11_end_L61 {F : z_F} {ad : Nat → Nat} {r : Int32} {gE : z_S} (C : z_X F layM nM ad cX11_end RX11 6 (some .int) 3 66 (some (.int r)) gE) (k225 : Int32 → Int32 → z_S → Option (Int32 × z_S)) (hk225 : ∀ (v1 : Int32) (v2 : Int32) (g : z_S), k225 v1 v2 g = some (r, gE) → z_W F layM nM ad 225 [(0, .ref (ad 0)), (1, .int v1), (2, .int v2)] [] g) : ∀ (n : Nat) (v1 : Int32) (v2 : Int32) (v3 : Int32) (g : z_S), z_loop (fX11_end_B61 k225) n (v1, v2, v3) g = some (r, gE) → z_W F layM nM ad 61 [(0, .ref (ad 0)), (1, .int v1), (2, .int v2), (3, .int v3)] [] g := by
  intro n
  induction n with
  | zero =>
    intro v1 v2 v3 g h
    exact (z_loop_0 h).elim
  | succ n ih =>
    intro v1 v2 v3 g h
    replace h := z_loop_S h
    simp only [fX11_end_B61] at h
    refine z_iload_n C dX11_end_61 rfl 3 rfl ?_
    refine z_aload_n C dX11_end_62 rfl 0 rfl ?_
    refine z_geti C zf_X11_141 zo_M_9 dX11_end_63 ?_
    refine z_icmp_ge 225 C dX11_end_66 rfl (fun hc => ?_) (fun hc => ?_)
    · replace h := z_it hc h
      refine z_loc [0, 1, 2] rfl ?_
      exact hk225 v1 v2 g h
    · replace h := z_if hc h
      refine z_iconst C dX11_end_69 zci_0 ?_
      refine z_istore C dX11_end_70 (by decide) [(4, .int 0), (0, .ref (ad 0)), (1, .int v1), (2, .int v2), (3, .int v3)] rfl ?_
      refine z_loc [1, 2, 3, 4, 0] rfl ?_
      refine wX11_end_L72 C _ ?_ zN v1 v2 v3 0 g h
      · intro v1 v2 v3 g h
        refine z_iinc C dX11_end_219 (by decide) 3 rfl (z_incl zci_1) [(3, .int (v3 + 1)), (0, .ref (ad 0)), (1, .int v1), (2, .int v2)] rfl ?_
        refine z_goto 61 C dX11_end_222 rfl ?_
        refine z_loc [1, 2, 3, 0] rfl ?_
        exact ih v1 v2 (v3 + 1) g h
set_option maxRecDepth 100000 in
set_option maxHeartbeats 4000000 in
theorem wX11_end_L230 {F : z_F} {ad : Nat → Nat} {r : Int32} {gE : z_S} (C : z_X F layM nM ad cX11_end RX11 6 (some .int) 3 66 (some (.int r)) gE) (k282 : Int32 → Int32 → z_S → Option (Int32 × z_S)) (hk282 : ∀ (v2 : Int32) (v3 : Int32) (g : z_S), k282 v2 v3 g = some (r, gE) → z_W F layM nM ad 282 [(2, .int v2), (3, .int v3)] [] g) : ∀ (n : Nat) (v1 : Int32) (v2 : Int32) (v3 : Int32) (v4 : Int32) (g : z_S), z_loop (fX11_end_B230 k282) n (v1, v2, v3, v4) g = some (r, gE) → z_W F layM nM ad 230 [(0, .ref (ad 0)), (1, .int v1), (2, .int v2), (3, .int v3), (4, .int v4)] [] g := by
  intro n
  induction n with
  | zero =>
    intro v1 v2 v3 v4 g h
    exact (z_loop_0 h).elim
  | succ n ih =>
    intro v1 v2 v3 v4 g h
    replace h := z_loop_S h
    simp only [fX11_end_B230] at h
    refine z_iload C dX11_end_230 4 rfl ?_
    refine z_iconst C dX11_end_232 zci_4 ?_
    refine z_icmp_gt 282 C dX11_end_233 rfl (fun hc => ?_) (fun hc => ?_)
    · replace h := z_it hc h
      refine z_loc [2, 3] rfl ?_
      exact hk282 v2 v3 g h
    · replace h := z_if hc h
      refine z_iload_n C dX11_end_236 rfl 3 rfl ?_
      refine z_if_ne 270 C dX11_end_237 rfl (fun hc => ?_) (fun hc => ?_)
      · replace h := z_it hc h
        refine z_aload_n C dX11_end_240 rfl 0 rfl ?_
        refine z_getr C zf_X11_73 zo_M_28 dX11_end_241 ?_
        refine z_iload_n C dX11_end_244 rfl 1 rfl ?_
        refine z_iload C dX11_end_245 4 rfl ?_
        obtain ⟨r247, g247, hq247, h⟩ := z_b_some h
        refine z_callSi [.ref (ad 20)] C zc_X11_201 rfl (by decide) (Nat.le_of_ble_eq_true rfl) dX11_end_247 rfl (wX11_cell ad v1 v4 g r247 g247 hq247) ?_
        obtain ⟨hi250, h⟩ := z_g_some h
        refine z_zald C za_M_20 (z_in_vp hi250) dX11_end_250 ?_
        refine z_if_eq 274 C dX11_end_251 rfl (fun hc => ?_) (fun hc => ?_)
        · replace h := z_it hc h
          refine z_iconst C dX11_end_274 zci_0 ?_
          refine z_istore_n C dX11_end_275 rfl (by decide) [(3, .int 0), (0, .ref (ad 0)), (1, .int v1), (2, .int v2), (4, .int v4)] rfl ?_
          refine z_iinc C dX11_end_276 (by decide) 4 rfl (z_incl zci_1) [(4, .int (v4 + 1)), (3, .int 0), (0, .ref (ad 0)), (1, .int v1), (2, .int v2)] rfl ?_
          refine z_goto 230 C dX11_end_279 rfl ?_
          refine z_loc [2, 3, 4, 1, 0] rfl ?_
          exact ih v1 v2 0 (v4 + 1) g247 h
        · replace h := z_if hc h
          refine z_aload_n C dX11_end_254 rfl 0 rfl ?_
          refine z_getr C zf_X11_57 zo_M_23 dX11_end_255 ?_
          refine z_iload_n C dX11_end_258 rfl 1 rfl ?_
          refine z_iload C dX11_end_259 4 rfl ?_
          obtain ⟨r261, g261, hq261, h⟩ := z_b_some h
          refine z_callSi [.ref (ad 15)] C zc_X11_201 rfl (by decide) (Nat.le_of_ble_eq_true rfl) dX11_end_261 rfl (wX11_cell ad v1 v4 g247 r261 g261 hq261) ?_
          obtain ⟨hi264, h⟩ := z_g_some h
          refine z_lald C za_M_15 (z_in_vp hi264) dX11_end_264 ?_
          refine z_lconst C dX11_end_265 zcl_0 ?_
          refine z_lcmp_le 274 C dX11_end_266 dX11_end_267 rfl (fun hc => ?_) (fun hc => ?_)
          · replace h := z_it hc h
            refine z_iconst C dX11_end_274 zci_0 ?_
            refine z_istore_n C dX11_end_275 rfl (by decide) [(3, .int 0), (0, .ref (ad 0)), (1, .int v1), (2, .int v2), (4, .int v4)] rfl ?_
            refine z_iinc C dX11_end_276 (by decide) 4 rfl (z_incl zci_1) [(4, .int (v4 + 1)), (3, .int 0), (0, .ref (ad 0)), (1, .int v1), (2, .int v2)] rfl ?_
            refine z_goto 230 C dX11_end_279 rfl ?_
            refine z_loc [2, 3, 4, 1, 0] rfl ?_
            exact ih v1 v2 0 (v4 + 1) g261 h
          · replace h := z_if hc h
            refine z_iconst C dX11_end_270 zci_1 ?_
            refine z_goto 275 C dX11_end_271 rfl ?_
            refine z_istore_n C dX11_end_275 rfl (by decide) [(3, .int 1), (0, .ref (ad 0)), (1, .int v1), (2, .int v2), (4, .int v4)] rfl ?_
            refine z_iinc C dX11_end_276 (by decide) 4 rfl (z_incl zci_1) [(4, .int (v4 + 1)), (3, .int 1), (0, .ref (ad 0)), (1, .int v1), (2, .int v2)] rfl ?_
            refine z_goto 230 C dX11_end_279 rfl ?_
            refine z_loc [2, 3, 4, 1, 0] rfl ?_
            exact ih v1 v2 1 (v4 + 1) g261 h
      · replace h := z_if hc h
        refine z_iconst C dX11_end_270 zci_1 ?_
        refine z_goto 275 C dX11_end_271 rfl ?_
        refine z_istore_n C dX11_end_275 rfl (by decide) [(3, .int 1), (0, .ref (ad 0)), (1, .int v1), (2, .int v2), (4, .int v4)] rfl ?_
        refine z_iinc C dX11_end_276 (by decide) 4 rfl (z_incl zci_1) [(4, .int (v4 + 1)), (3, .int 1), (0, .ref (ad 0)), (1, .int v1), (2, .int v2)] rfl ?_
        refine z_goto 230 C dX11_end_279 rfl ?_
        refine z_loc [2, 3, 4, 1, 0] rfl ?_
        exact ih v1 v2 1 (v4 + 1) g h
set_option maxRecDepth 100000 in
set_option maxHeartbeats 4000000 in
theorem wX11_end (ad : Nat → Nat) (v1 : Int32) (g : z_S) (r : Int32) (gE : z_S) (h : fX11_end v1 g = some (r, gE)) : z_M yX11_end cX11_end 6 (some .int) 3 66 layM nM ad [.ref (ad 0), .int v1] g (some (.int r)) gE := by
  refine z_enter (by decide) (Nat.le_of_ble_eq_true rfl) (fun F C => ?_)
  replace C : z_X F layM nM ad cX11_end RX11 6 (some .int) 3 66 (some (.int r)) gE := C
  show z_W F layM nM ad 0 [(0, .ref (ad 0)), (1, .int v1)] [] g
  unfold fX11_end at h
  refine z_iload_n C dX11_end_0 rfl 1 rfl ?_
  refine z_i2l C dX11_end_1 ?_
  refine z_lconst C dX11_end_2 zcl_0 ?_
  refine z_aload_n C dX11_end_3 rfl 0 rfl ?_
  refine z_geti C zf_X11_141 zo_M_9 dX11_end_4 ?_
  refine z_i2l C dX11_end_7 ?_
  obtain ⟨r8, g8, hq8, h⟩ := z_b_some h
  refine z_callSi [] C zc_X11_131 rfl (by decide) (Nat.le_of_ble_eq_true rfl) dX11_end_8 rfl (wX11_in ad ((v1).toInt64) 0 ((g.1 0 9).toInt64) g r8 g8 hq8) ?_
  refine z_if_ne 18 C dX11_end_11 rfl (fun hc => ?_) (fun hc => ?_)
  · replace h := z_it hc h
    refine z_sipush C dX11_end_14 zcs_m1002 ?_
    exact z_iret C (z_ret1i h) (z_ret2 h) dX11_end_17
  · replace h := z_if hc h
    refine z_aload_n C dX11_end_18 rfl 0 rfl ?_
    obtain ⟨r19, g19, hq19, h⟩ := z_b_some h
    refine z_callVv [] C zc_X11_219 zk_M rfl (by decide) (Nat.le_of_ble_eq_true rfl) dX11_end_19 rfl (wX11_findReadings ad g8 g19 hq19) ?_
    refine z_iconst C dX11_end_22 zci_0 ?_
    refine z_istore_n C dX11_end_23 rfl (by decide) [(2, .int 0), (0, .ref (ad 0)), (1, .int v1)] rfl ?_
    refine z_loc [1, 2, 0] rfl ?_
    refine wX11_end_L24 C _ ?_ zN v1 0 g19 h
    · intro v1 g h
      refine z_iconst C dX11_end_57 zci_0 ?_
      refine z_istore_n C dX11_end_58 rfl (by decide) [(2, .int 0), (0, .ref (ad 0)), (1, .int v1)] rfl ?_
      refine z_iconst C dX11_end_59 zci_0 ?_
      refine z_istore_n C dX11_end_60 rfl (by decide) [(3, .int 0), (2, .int 0), (0, .ref (ad 0)), (1, .int v1)] rfl ?_
      refine z_loc [2, 3, 1, 0] rfl ?_
      refine wX11_end_L61 C _ ?_ zN v1 0 0 g h
      · intro v1 v2 g h
        refine z_iconst C dX11_end_225 zci_0 ?_
        refine z_istore_n C dX11_end_226 rfl (by decide) [(3, .int 0), (0, .ref (ad 0)), (1, .int v1), (2, .int v2)] rfl ?_
        refine z_iconst C dX11_end_227 zci_0 ?_
        refine z_istore C dX11_end_228 (by decide) [(4, .int 0), (3, .int 0), (0, .ref (ad 0)), (1, .int v1), (2, .int v2)] rfl ?_
        refine z_loc [2, 3, 4, 1, 0] rfl ?_
        refine wX11_end_L230 C _ ?_ zN v1 v2 0 0 g h
        · intro v2 v3 g h
          refine z_iload_n C dX11_end_282 rfl 1 rfl ?_
          refine z_if_ne 290 C dX11_end_283 rfl (fun hc => ?_) (fun hc => ?_)
          · replace h := z_it hc h
            refine z_iconst C dX11_end_286 zci_0 ?_
            refine z_goto 299 C dX11_end_287 rfl ?_
            exact z_iret C (z_ret1i h) (z_ret2 h) dX11_end_299
          · replace h := z_if hc h
            refine z_iload_n C dX11_end_290 rfl 0 rfl ?_
            refine z_if_eq 298 C dX11_end_291 rfl (fun hc => ?_) (fun hc => ?_)
            · replace h := z_it hc h
              refine z_iconst C dX11_end_298 zci_2 ?_
              exact z_iret C (z_ret1i h) (z_ret2 h) dX11_end_299
            · replace h := z_if hc h
              refine z_iconst C dX11_end_294 zci_1 ?_
              refine z_goto 299 C dX11_end_295 rfl ?_
              exact z_iret C (z_ret1i h) (z_ret2 h) dX11_end_299
set_option maxRecDepth 100000 in
set_option maxHeartbeats 4000000 in
theorem wX11_letterOf (ad : Nat → Nat) (v1 : Int32) (v2 : Int32) (v3 : Int32) (g : z_S) (r : Int32) (gE : z_S) (h : fX11_letterOf v1 v2 v3 g = some (r, gE)) : z_M yX11_letterOf cX11_letterOf 4 (some .int) 0 0 layM nM ad [.ref (ad 0), .int v1, .int v2, .int v3] g (some (.int r)) gE := by
  refine z_enter (by decide) (Nat.le_of_ble_eq_true rfl) (fun F C => ?_)
  replace C : z_X F layM nM ad cX11_letterOf RX11 4 (some .int) 0 0 (some (.int r)) gE := C
  show z_W F layM nM ad 0 [(0, .ref (ad 0)), (1, .int v1), (2, .int v2), (3, .int v3)] [] g
  unfold fX11_letterOf at h
  refine z_iload_n C dX11_letterOf_0 rfl 3 rfl ?_
  refine z_aload_n C dX11_letterOf_1 rfl 0 rfl ?_
  refine z_getr C zf_X11_13 zo_M_3 dX11_letterOf_2 ?_
  refine z_iload_n C dX11_letterOf_5 rfl 1 rfl ?_
  obtain ⟨hi6, h⟩ := z_g_some h
  refine z_iald C za_M_2 (z_in_vp hi6) dX11_letterOf_6 ?_
  refine z_icmp_ge 24 C dX11_letterOf_7 rfl (fun hc => ?_) (fun hc => ?_)
  · replace h := z_it hc h
    refine z_aload_n C dX11_letterOf_24 rfl 0 rfl ?_
    refine z_getr C zf_X11_7 zo_M_2 dX11_letterOf_25 ?_
    refine z_bipush C dX11_letterOf_28 zcb_8 ?_
    refine z_iload_n C dX11_letterOf_30 rfl 2 rfl ?_
    refine z_imul C dX11_letterOf_31 ?_
    refine z_iload_n C dX11_letterOf_32 rfl 3 rfl ?_
    refine z_iadd C dX11_letterOf_33 ?_
    refine z_aload_n C dX11_letterOf_34 rfl 0 rfl ?_
    refine z_getr C zf_X11_13 zo_M_3 dX11_letterOf_35 ?_
    refine z_iload_n C dX11_letterOf_38 rfl 1 rfl ?_
    obtain ⟨hi39, h⟩ := z_g_some h
    refine z_iald C za_M_2 (z_in_vp hi39) dX11_letterOf_39 ?_
    refine z_isub C dX11_letterOf_40 ?_
    obtain ⟨hi41, h⟩ := z_g_some h
    refine z_iald C za_M_1 (z_in_vp hi41) dX11_letterOf_41 ?_
    exact z_iret C (z_ret1i h) (z_ret2 h) dX11_letterOf_42
  · replace h := z_if hc h
    refine z_aload_n C dX11_letterOf_10 rfl 0 rfl ?_
    refine z_getr C zf_X11_7 zo_M_2 dX11_letterOf_11 ?_
    refine z_bipush C dX11_letterOf_14 zcb_8 ?_
    refine z_iload_n C dX11_letterOf_16 rfl 1 rfl ?_
    refine z_imul C dX11_letterOf_17 ?_
    refine z_iload_n C dX11_letterOf_18 rfl 3 rfl ?_
    refine z_iadd C dX11_letterOf_19 ?_
    obtain ⟨hi20, h⟩ := z_g_some h
    refine z_iald C za_M_1 (z_in_vp hi20) dX11_letterOf_20 ?_
    refine z_goto 42 C dX11_letterOf_21 rfl ?_
    exact z_iret C (z_ret1i h) (z_ret2 h) dX11_letterOf_42
set_option maxRecDepth 100000 in
set_option maxHeartbeats 4000000 in
theorem wX11_comesIn_L35 {F : z_F} {ad : Nat → Nat} {r : Int32} {gE : z_S} (C : z_X F layM nM ad cX11_comesIn RX11 7 (some .boolean) 1 23 (some (.int r)) gE) : ∀ (n : Nat) (v1 : Int32) (v2 : Int32) (v3 : Int32) (v4 : Int32) (v5 : Int32) (v6 : Int32) (g : z_S), z_loop fX11_comesIn_B35 n (v1, v2, v3, v4, v5, v6) g = some (r, gE) → z_W F layM nM ad 35 [(0, .ref (ad 0)), (1, .int v1), (2, .int v2), (3, .int v3), (4, .int v4), (5, .int v5), (6, .int v6)] [] g := by
  intro n
  induction n with
  | zero =>
    intro v1 v2 v3 v4 v5 v6 g h
    exact (z_loop_0 h).elim
  | succ n ih =>
    intro v1 v2 v3 v4 v5 v6 g h
    replace h := z_loop_S h
    simp only [fX11_comesIn_B35] at h
    refine z_iload C dX11_comesIn_35 6 rfl ?_
    refine z_aload_n C dX11_comesIn_37 rfl 0 rfl ?_
    refine z_getr C zf_X11_13 zo_M_3 dX11_comesIn_38 ?_
    refine z_iload_n C dX11_comesIn_41 rfl 1 rfl ?_
    obtain ⟨hi42, h⟩ := z_g_some h
    refine z_iald C za_M_2 (z_in_vp hi42) dX11_comesIn_42 ?_
    refine z_icmp_ge 90 C dX11_comesIn_43 rfl (fun hc => ?_) (fun hc => ?_)
    · replace h := z_it hc h
      refine z_iload C dX11_comesIn_90 5 rfl ?_
      obtain ⟨hz, h⟩ := z_g_some h
      exact z_zret C (eq_of_beq hz) (z_ret1i h) (z_ret2 h) dX11_comesIn_92
    · replace h := z_if hc h
      refine z_iload C dX11_comesIn_46 5 rfl ?_
      refine z_if_eq 90 C dX11_comesIn_48 rfl (fun hc => ?_) (fun hc => ?_)
      · replace h := z_it hc h
        refine z_iload C dX11_comesIn_90 5 rfl ?_
        obtain ⟨hz, h⟩ := z_g_some h
        exact z_zret C (eq_of_beq hz) (z_ret1i h) (z_ret2 h) dX11_comesIn_92
      · replace h := z_if hc h
        refine z_aload_n C dX11_comesIn_51 rfl 0 rfl ?_
        refine z_getr C zf_X11_7 zo_M_2 dX11_comesIn_52 ?_
        refine z_bipush C dX11_comesIn_55 zcb_8 ?_
        refine z_iload_n C dX11_comesIn_57 rfl 1 rfl ?_
        refine z_imul C dX11_comesIn_58 ?_
        refine z_iload C dX11_comesIn_59 6 rfl ?_
        refine z_iadd C dX11_comesIn_61 ?_
        obtain ⟨hi62, h⟩ := z_g_some h
        refine z_iald C za_M_1 (z_in_vp hi62) dX11_comesIn_62 ?_
        refine z_aload_n C dX11_comesIn_63 rfl 0 rfl ?_
        refine z_iload_n C dX11_comesIn_64 rfl 2 rfl ?_
        refine z_iload_n C dX11_comesIn_65 rfl 3 rfl ?_
        refine z_iload C dX11_comesIn_66 4 rfl ?_
        refine z_iload C dX11_comesIn_68 6 rfl ?_
        refine z_iadd C dX11_comesIn_70 ?_
        obtain ⟨r71, g71, hq71, h⟩ := z_b_some h
        refine z_callVi [.int (g.1 1 ((8 * v1) + v6).toNatClampNeg)] C zc_X11_228 zk_M rfl (by decide) (Nat.le_of_ble_eq_true rfl) dX11_comesIn_71 rfl (wX11_letterOf ad v2 v3 (v4 + v6) g r71 g71 hq71) ?_
        refine z_icmp_ne 81 C dX11_comesIn_74 rfl (fun hc => ?_) (fun hc => ?_)
        · replace h := z_it hc h
          refine z_iconst C dX11_comesIn_77 zci_1 ?_
          refine z_goto 82 C dX11_comesIn_78 rfl ?_
          refine z_istore C dX11_comesIn_82 (by decide) [(5, .int 1), (0, .ref (ad 0)), (1, .int v1), (2, .int v2), (3, .int v3), (4, .int v4), (6, .int v6)] rfl ?_
          refine z_iinc C dX11_comesIn_84 (by decide) 6 rfl (z_incl zci_1) [(6, .int (v6 + 1)), (5, .int 1), (0, .ref (ad 0)), (1, .int v1), (2, .int v2), (3, .int v3), (4, .int v4)] rfl ?_
          refine z_goto 35 C dX11_comesIn_87 rfl ?_
          refine z_loc [2, 3, 4, 5, 6, 1, 0] rfl ?_
          exact ih v1 v2 v3 v4 1 (v6 + 1) g71 h
        · replace h := z_if hc h
          refine z_iconst C dX11_comesIn_81 zci_0 ?_
          refine z_istore C dX11_comesIn_82 (by decide) [(5, .int 0), (0, .ref (ad 0)), (1, .int v1), (2, .int v2), (3, .int v3), (4, .int v4), (6, .int v6)] rfl ?_
          refine z_iinc C dX11_comesIn_84 (by decide) 6 rfl (z_incl zci_1) [(6, .int (v6 + 1)), (5, .int 0), (0, .ref (ad 0)), (1, .int v1), (2, .int v2), (3, .int v3), (4, .int v4)] rfl ?_
          refine z_goto 35 C dX11_comesIn_87 rfl ?_
          refine z_loc [2, 3, 4, 5, 6, 1, 0] rfl ?_
          exact ih v1 v2 v3 v4 0 (v6 + 1) g71 h
set_option maxRecDepth 100000 in
set_option maxHeartbeats 4000000 in
theorem wX11_comesIn (ad : Nat → Nat) (v1 : Int32) (v2 : Int32) (v3 : Int32) (v4 : Int32) (g : z_S) (r : Int32) (gE : z_S) (h : fX11_comesIn v1 v2 v3 v4 g = some (r, gE)) : z_M yX11_comesIn cX11_comesIn 7 (some .boolean) 1 23 layM nM ad [.ref (ad 0), .int v1, .int v2, .int v3, .int v4] g (some (.int r)) gE := by
  refine z_enter (by decide) (Nat.le_of_ble_eq_true rfl) (fun F C => ?_)
  replace C : z_X F layM nM ad cX11_comesIn RX11 7 (some .boolean) 1 23 (some (.int r)) gE := C
  show z_W F layM nM ad 0 [(0, .ref (ad 0)), (1, .int v1), (2, .int v2), (3, .int v3), (4, .int v4)] [] g
  unfold fX11_comesIn at h
  refine z_iload C dX11_comesIn_0 4 rfl ?_
  refine z_aload_n C dX11_comesIn_2 rfl 0 rfl ?_
  refine z_getr C zf_X11_13 zo_M_3 dX11_comesIn_3 ?_
  refine z_iload_n C dX11_comesIn_6 rfl 1 rfl ?_
  obtain ⟨hi7, h⟩ := z_g_some h
  refine z_iald C za_M_2 (z_in_vp hi7) dX11_comesIn_7 ?_
  refine z_iadd C dX11_comesIn_8 ?_
  refine z_aload_n C dX11_comesIn_9 rfl 0 rfl ?_
  refine z_getr C zf_X11_13 zo_M_3 dX11_comesIn_10 ?_
  refine z_iload_n C dX11_comesIn_13 rfl 2 rfl ?_
  obtain ⟨hi14, h⟩ := z_g_some h
  refine z_iald C za_M_2 (z_in_vp hi14) dX11_comesIn_14 ?_
  refine z_aload_n C dX11_comesIn_15 rfl 0 rfl ?_
  refine z_getr C zf_X11_13 zo_M_3 dX11_comesIn_16 ?_
  refine z_iload_n C dX11_comesIn_19 rfl 3 rfl ?_
  obtain ⟨hi20, h⟩ := z_g_some h
  refine z_iald C za_M_2 (z_in_vp hi20) dX11_comesIn_20 ?_
  refine z_iadd C dX11_comesIn_21 ?_
  refine z_icmp_gt 29 C dX11_comesIn_22 rfl (fun hc => ?_) (fun hc => ?_)
  · replace h := z_it hc h
    refine z_iconst C dX11_comesIn_29 zci_0 ?_
    refine z_istore C dX11_comesIn_30 (by decide) [(5, .int 0), (0, .ref (ad 0)), (1, .int v1), (2, .int v2), (3, .int v3), (4, .int v4)] rfl ?_
    refine z_iconst C dX11_comesIn_32 zci_0 ?_
    refine z_istore C dX11_comesIn_33 (by decide) [(6, .int 0), (5, .int 0), (0, .ref (ad 0)), (1, .int v1), (2, .int v2), (3, .int v3), (4, .int v4)] rfl ?_
    refine z_loc [2, 3, 4, 5, 6, 1, 0] rfl ?_
    refine wX11_comesIn_L35 C  zN v1 v2 v3 v4 0 0 g h
  · replace h := z_if hc h
    refine z_iconst C dX11_comesIn_25 zci_1 ?_
    refine z_goto 30 C dX11_comesIn_26 rfl ?_
    refine z_istore C dX11_comesIn_30 (by decide) [(5, .int 1), (0, .ref (ad 0)), (1, .int v1), (2, .int v2), (3, .int v3), (4, .int v4)] rfl ?_
    refine z_iconst C dX11_comesIn_32 zci_0 ?_
    refine z_istore C dX11_comesIn_33 (by decide) [(6, .int 0), (5, .int 1), (0, .ref (ad 0)), (1, .int v1), (2, .int v2), (3, .int v3), (4, .int v4)] rfl ?_
    refine z_loc [2, 3, 4, 5, 6, 1, 0] rfl ?_
    refine wX11_comesIn_L35 C  zN v1 v2 v3 v4 1 0 g h
set_option maxRecDepth 100000 in
set_option maxHeartbeats 4000000 in
theorem wX11_hides_J72 {F : z_F} {ad : Nat → Nat} {r : Int32} {gE : z_S} (C : z_X F layM nM ad cX11_hides RX11 6 (some .boolean) 2 49 (some (.int r)) gE) (rc : (Int32 × Int32 × Int32 × Int32) → z_S → Option (Int32 × z_S)) (hrc : ∀ (v1 : Int32) (v2 : Int32) (v3 : Int32) (v4 : Int32) (g : z_S), rc (v1, v2, v3, v4) g = some (r, gE) → z_W F layM nM ad 23 [(0, .ref (ad 0)), (1, .int v1), (2, .int v2), (3, .int v3), (4, .int v4)] [] g) (v1 : Int32) (v2 : Int32) (v3 : Int32) (v4 : Int32) (s0 : Int32) (g : z_S) (h : fX11_hides_J72 rc v1 v2 v3 v4 s0 g = some (r, gE)) : z_W F layM nM ad 72 [(0, .ref (ad 0)), (1, .int v1), (2, .int v2), (3, .int v3), (4, .int v4)] [.int s0] g := by
  unfold fX11_hides_J72 at h
  refine z_istore C dX11_hides_72 (by decide) [(5, .int s0), (0, .ref (ad 0)), (1, .int v1), (2, .int v2), (3, .int v3), (4, .int v4)] rfl ?_
  refine z_iload C dX11_hides_74 0 rfl ?_
  refine z_if_ne 93 C dX11_hides_76 rfl (fun hc => ?_) (fun hc => ?_)
  · replace h := z_it hc h
    refine z_aload_n C dX11_hides_79 rfl 1 rfl ?_
    refine z_iload_n C dX11_hides_80 rfl 2 rfl ?_
    refine z_iload_n C dX11_hides_81 rfl 3 rfl ?_
    refine z_iload_n C dX11_hides_82 rfl 4 rfl ?_
    refine z_iload C dX11_hides_83 5 rfl ?_
    obtain ⟨r85, g85, hq85, h⟩ := z_b_some h
    refine z_callVi [] C zc_X11_232 zk_M rfl (by decide) (Nat.le_of_ble_eq_true rfl) dX11_hides_85 rfl (wX11_comesIn ad v1 v2 v3 v4 g r85 g85 hq85) ?_
    refine z_if_eq 93 C dX11_hides_88 rfl (fun hc => ?_) (fun hc => ?_)
    · replace h := z_it hc h
      refine z_iinc C dX11_hides_93 (by decide) 5 rfl (z_incl zci_1) [(4, .int (v4 + 1)), (5, .int s0), (0, .ref (ad 0)), (1, .int v1), (2, .int v2), (3, .int v3)] rfl ?_
      refine z_goto 23 C dX11_hides_96 rfl ?_
      refine z_loc [2, 3, 4, 5, 0] rfl ?_
      exact hrc v1 v2 v3 (v4 + 1) g85 h
    · replace h := z_if hc h
      refine z_iconst C dX11_hides_91 zci_1 ?_
      exact z_zret C (by decide) (z_ret1i h) (z_ret2 h) dX11_hides_92
  · replace h := z_if hc h
    refine z_iinc C dX11_hides_93 (by decide) 5 rfl (z_incl zci_1) [(4, .int (v4 + 1)), (5, .int s0), (0, .ref (ad 0)), (1, .int v1), (2, .int v2), (3, .int v3)] rfl ?_
    refine z_goto 23 C dX11_hides_96 rfl ?_
    refine z_loc [2, 3, 4, 5, 0] rfl ?_
    exact hrc v1 v2 v3 (v4 + 1) g h
set_option maxRecDepth 100000 in
set_option maxHeartbeats 4000000 in
theorem wX11_hides_J51 {F : z_F} {ad : Nat → Nat} {r : Int32} {gE : z_S} (C : z_X F layM nM ad cX11_hides RX11 6 (some .boolean) 2 49 (some (.int r)) gE) (rc : (Int32 × Int32 × Int32 × Int32) → z_S → Option (Int32 × z_S)) (hrc : ∀ (v1 : Int32) (v2 : Int32) (v3 : Int32) (v4 : Int32) (g : z_S), rc (v1, v2, v3, v4) g = some (r, gE) → z_W F layM nM ad 23 [(0, .ref (ad 0)), (1, .int v1), (2, .int v2), (3, .int v3), (4, .int v4)] [] g) (v1 : Int32) (v2 : Int32) (v3 : Int32) (v4 : Int32) (g : z_S) (h : fX11_hides_J51 rc v1 v2 v3 v4 g = some (r, gE)) : z_W F layM nM ad 51 [(0, .ref (ad 0)), (1, .int v1), (2, .int v2), (3, .int v3), (4, .int v4)] [] g := by
  unfold fX11_hides_J51 at h
  refine z_iload C dX11_hides_51 4 rfl ?_
  refine z_aload_n C dX11_hides_53 rfl 0 rfl ?_
  refine z_getr C zf_X11_13 zo_M_3 dX11_hides_54 ?_
  refine z_iload_n C dX11_hides_57 rfl 2 rfl ?_
  obtain ⟨hi58, h⟩ := z_g_some h
  refine z_iald C za_M_2 (z_in_vp hi58) dX11_hides_58 ?_
  refine z_icmp_ne 71 C dX11_hides_59 rfl (fun hc => ?_) (fun hc => ?_)
  · replace h := z_it hc h
    refine z_iload_n C dX11_hides_62 rfl 1 rfl ?_
    refine z_iload_n C dX11_hides_63 rfl 3 rfl ?_
    refine z_icmp_ne 71 C dX11_hides_64 rfl (fun hc => ?_) (fun hc => ?_)
    · replace h := z_it hc h
      refine z_iconst C dX11_hides_67 zci_1 ?_
      refine z_goto 72 C dX11_hides_68 rfl ?_
      exact wX11_hides_J72 C _ hrc v1 v2 v3 v4 1 g h
    · replace h := z_if hc h
      refine z_iconst C dX11_hides_71 zci_0 ?_
      exact wX11_hides_J72 C _ hrc v1 v2 v3 v4 0 g h
  · replace h := z_if hc h
    refine z_iconst C dX11_hides_71 zci_0 ?_
    exact wX11_hides_J72 C _ hrc v1 v2 v3 v4 0 g h
set_option maxRecDepth 100000 in
set_option maxHeartbeats 4000000 in
theorem wX11_hides_L23 {F : z_F} {ad : Nat → Nat} {r : Int32} {gE : z_S} (C : z_X F layM nM ad cX11_hides RX11 6 (some .boolean) 2 49 (some (.int r)) gE) (k99 : Int32 → Int32 → Int32 → z_S → Option (Int32 × z_S)) (hk99 : ∀ (v1 : Int32) (v2 : Int32) (v3 : Int32) (g : z_S), k99 v1 v2 v3 g = some (r, gE) → z_W F layM nM ad 99 [(0, .ref (ad 0)), (1, .int v1), (2, .int v2), (3, .int v3)] [] g) : ∀ (n : Nat) (v1 : Int32) (v2 : Int32) (v3 : Int32) (v4 : Int32) (g : z_S), z_loop (fX11_hides_B23 k99) n (v1, v2, v3, v4) g = some (r, gE) → z_W F layM nM ad 23 [(0, .ref (ad 0)), (1, .int v1), (2, .int v2), (3, .int v3), (4, .int v4)] [] g := by
  intro n
  induction n with
  | zero =>
    intro v1 v2 v3 v4 g h
    exact (z_loop_0 h).elim
  | succ n ih =>
    intro v1 v2 v3 v4 g h
    replace h := z_loop_S h
    simp only [fX11_hides_B23] at h
    refine z_iload C dX11_hides_23 4 rfl ?_
    refine z_aload_n C dX11_hides_25 rfl 0 rfl ?_
    refine z_getr C zf_X11_13 zo_M_3 dX11_hides_26 ?_
    refine z_iload_n C dX11_hides_29 rfl 2 rfl ?_
    obtain ⟨hi30, h⟩ := z_g_some h
    refine z_iald C za_M_2 (z_in_vp hi30) dX11_hides_30 ?_
    refine z_aload_n C dX11_hides_31 rfl 0 rfl ?_
    refine z_getr C zf_X11_13 zo_M_3 dX11_hides_32 ?_
    refine z_iload_n C dX11_hides_35 rfl 3 rfl ?_
    obtain ⟨hi36, h⟩ := z_g_some h
    refine z_iald C za_M_2 (z_in_vp hi36) dX11_hides_36 ?_
    refine z_iadd C dX11_hides_37 ?_
    refine z_icmp_ge 99 C dX11_hides_38 rfl (fun hc => ?_) (fun hc => ?_)
    · replace h := z_it hc h
      refine z_loc [0, 1, 2, 3] rfl ?_
      exact hk99 v1 v2 v3 g h
    · replace h := z_if hc h
      refine z_iload C dX11_hides_41 4 rfl ?_
      refine z_if_ne 51 C dX11_hides_43 rfl (fun hc => ?_) (fun hc => ?_)
      · replace h := z_it hc h
        refine z_iload_n C dX11_hides_46 rfl 1 rfl ?_
        refine z_iload_n C dX11_hides_47 rfl 2 rfl ?_
        refine z_icmp_eq 67 C dX11_hides_48 rfl (fun hc => ?_) (fun hc => ?_)
        · replace h := z_it hc h
          refine z_iconst C dX11_hides_67 zci_1 ?_
          refine z_goto 72 C dX11_hides_68 rfl ?_
          exact wX11_hides_J72 C _ (fun v1 v2 v3 v4 g h => ih v1 v2 v3 v4 g h) v1 v2 v3 v4 1 g h
        · replace h := z_if hc h
          exact wX11_hides_J51 C _ (fun v1 v2 v3 v4 g h => ih v1 v2 v3 v4 g h) v1 v2 v3 v4 g h
      · replace h := z_if hc h
        exact wX11_hides_J51 C _ (fun v1 v2 v3 v4 g h => ih v1 v2 v3 v4 g h) v1 v2 v3 v4 g h
set_option maxRecDepth 100000 in
set_option maxHeartbeats 4000000 in
theorem wX11_hides_L12 {F : z_F} {ad : Nat → Nat} {r : Int32} {gE : z_S} (C : z_X F layM nM ad cX11_hides RX11 6 (some .boolean) 2 49 (some (.int r)) gE) (k105 : Int32 → Int32 → z_S → Option (Int32 × z_S)) (hk105 : ∀ (v1 : Int32) (v2 : Int32) (g : z_S), k105 v1 v2 g = some (r, gE) → z_W F layM nM ad 105 [(0, .ref (ad 0)), (1, .int v1), (2, .int v2)] [] g) : ∀ (n : Nat) (v1 : Int32) (v2 : Int32) (v3 : Int32) (g : z_S), z_loop (fX11_hides_B12 k105) n (v1, v2, v3) g = some (r, gE) → z_W F layM nM ad 12 [(0, .ref (ad 0)), (1, .int v1), (2, .int v2), (3, .int v3)] [] g := by
  intro n
  induction n with
  | zero =>
    intro v1 v2 v3 g h
    exact (z_loop_0 h).elim
  | succ n ih =>
    intro v1 v2 v3 g h
    replace h := z_loop_S h
    simp only [fX11_hides_B12] at h
    refine z_iload_n C dX11_hides_12 rfl 3 rfl ?_
    refine z_aload_n C dX11_hides_13 rfl 0 rfl ?_
    refine z_geti C zf_X11_135 zo_M_1 dX11_hides_14 ?_
    refine z_icmp_ge 105 C dX11_hides_17 rfl (fun hc => ?_) (fun hc => ?_)
    · replace h := z_it hc h
      refine z_loc [0, 1, 2] rfl ?_
      exact hk105 v1 v2 g h
    · replace h := z_if hc h
      refine z_iconst C dX11_hides_20 zci_0 ?_
      refine z_istore C dX11_hides_21 (by decide) [(4, .int 0), (0, .ref (ad 0)), (1, .int v1), (2, .int v2), (3, .int v3)] rfl ?_
      refine z_loc [1, 2, 3, 4, 0] rfl ?_
      refine wX11_hides_L23 C _ ?_ zN v1 v2 v3 0 g h
      · intro v1 v2 v3 g h
        refine z_iinc C dX11_hides_99 (by decide) 3 rfl (z_incl zci_1) [(3, .int (v3 + 1)), (0, .ref (ad 0)), (1, .int v1), (2, .int v2)] rfl ?_
        refine z_goto 12 C dX11_hides_102 rfl ?_
        refine z_loc [1, 2, 3, 0] rfl ?_
        exact ih v1 v2 (v3 + 1) g h
set_option maxRecDepth 100000 in
set_option maxHeartbeats 4000000 in
theorem wX11_hides_L2 {F : z_F} {ad : Nat → Nat} {r : Int32} {gE : z_S} (C : z_X F layM nM ad cX11_hides RX11 6 (some .boolean) 2 49 (some (.int r)) gE) : ∀ (n : Nat) (v1 : Int32) (v2 : Int32) (g : z_S), z_loop fX11_hides_B2 n (v1, v2) g = some (r, gE) → z_W F layM nM ad 2 [(0, .ref (ad 0)), (1, .int v1), (2, .int v2)] [] g := by
  intro n
  induction n with
  | zero =>
    intro v1 v2 g h
    exact (z_loop_0 h).elim
  | succ n ih =>
    intro v1 v2 g h
    replace h := z_loop_S h
    simp only [fX11_hides_B2] at h
    refine z_iload_n C dX11_hides_2 rfl 2 rfl ?_
    refine z_aload_n C dX11_hides_3 rfl 0 rfl ?_
    refine z_geti C zf_X11_135 zo_M_1 dX11_hides_4 ?_
    refine z_icmp_ge 111 C dX11_hides_7 rfl (fun hc => ?_) (fun hc => ?_)
    · replace h := z_it hc h
      refine z_iconst C dX11_hides_111 zci_0 ?_
      exact z_zret C (by decide) (z_ret1i h) (z_ret2 h) dX11_hides_112
    · replace h := z_if hc h
      refine z_iconst C dX11_hides_10 zci_0 ?_
      refine z_istore_n C dX11_hides_11 rfl (by decide) [(3, .int 0), (0, .ref (ad 0)), (1, .int v1), (2, .int v2)] rfl ?_
      refine z_loc [1, 2, 3, 0] rfl ?_
      refine wX11_hides_L12 C _ ?_ zN v1 v2 0 g h
      · intro v1 v2 g h
        refine z_iinc C dX11_hides_105 (by decide) 2 rfl (z_incl zci_1) [(2, .int (v2 + 1)), (0, .ref (ad 0)), (1, .int v1)] rfl ?_
        refine z_goto 2 C dX11_hides_108 rfl ?_
        refine z_loc [1, 2, 0] rfl ?_
        exact ih v1 (v2 + 1) g h
set_option maxRecDepth 100000 in
set_option maxHeartbeats 4000000 in
theorem wX11_hides (ad : Nat → Nat) (v1 : Int32) (g : z_S) (r : Int32) (gE : z_S) (h : fX11_hides v1 g = some (r, gE)) : z_M yX11_hides cX11_hides 6 (some .boolean) 2 49 layM nM ad [.ref (ad 0), .int v1] g (some (.int r)) gE := by
  refine z_enter (by decide) (Nat.le_of_ble_eq_true rfl) (fun F C => ?_)
  replace C : z_X F layM nM ad cX11_hides RX11 6 (some .boolean) 2 49 (some (.int r)) gE := C
  show z_W F layM nM ad 0 [(0, .ref (ad 0)), (1, .int v1)] [] g
  unfold fX11_hides at h
  refine z_iconst C dX11_hides_0 zci_0 ?_
  refine z_istore_n C dX11_hides_1 rfl (by decide) [(2, .int 0), (0, .ref (ad 0)), (1, .int v1)] rfl ?_
  refine z_loc [1, 2, 0] rfl ?_
  refine wX11_hides_L2 C  zN v1 0 g h
set_option maxRecDepth 100000 in
set_option maxHeartbeats 4000000 in
theorem wX11_within_J164 {F : z_F} {ad : Nat → Nat} {r : Int32} {gE : z_S} (C : z_X F layM nM ad cX11_within RX11 7 (some .int) 3 74 (some (.int r)) gE) (rc : (Int32 × Int32 × Int32 × Int32 × Int32 × Int32) → z_S → Option (Int32 × z_S)) (hrc : ∀ (v1 : Int32) (v2 : Int32) (v3 : Int32) (v4 : Int32) (v5 : Int32) (v6 : Int32) (g : z_S), rc (v1, v2, v3, v4, v5, v6) g = some (r, gE) → z_W F layM nM ad 101 [(0, .ref (ad 0)), (1, .int v1), (2, .int v2), (3, .int v3), (4, .int v4), (5, .int v5), (6, .int v6)] [] g) (v1 : Int32) (v2 : Int32) (v3 : Int32) (v4 : Int32) (v6 : Int32) (s0 : Int32) (s1 : Int32) (s3 : Int32) (g : z_S) (h : fX11_within_J164 rc v1 v2 v3 v4 v6 s0 s1 s3 g = some (r, gE)) : z_W F layM nM ad 164 [(0, .ref (ad 0)), (1, .int v1), (2, .int v2), (3, .int v3), (4, .int v4), (6, .int v6)] [.int s0, .int s1, .ref (ad 1), .int s3] g := by
  unfold fX11_within_J164 at h
  refine z_iadd C dX11_within_164 ?_
  obtain ⟨hi165, h⟩ := z_g_some h
  refine z_iald C za_M_1 (z_in_vp hi165) dX11_within_165 ?_
  refine z_icmp_ne 173 C dX11_within_166 rfl (fun hc => ?_) (fun hc => ?_)
  · replace h := z_it hc h
    refine z_iconst C dX11_within_169 zci_1 ?_
    refine z_goto 174 C dX11_within_170 rfl ?_
    refine z_istore C dX11_within_174 (by decide) [(5, .int 1), (0, .ref (ad 0)), (1, .int v1), (2, .int v2), (3, .int v3), (4, .int v4), (6, .int v6)] rfl ?_
    refine z_iinc C dX11_within_176 (by decide) 6 rfl (z_incl zci_1) [(6, .int (v6 + 1)), (5, .int 1), (0, .ref (ad 0)), (1, .int v1), (2, .int v2), (3, .int v3), (4, .int v4)] rfl ?_
    refine z_goto 101 C dX11_within_179 rfl ?_
    refine z_loc [2, 3, 4, 5, 6, 1, 0] rfl ?_
    exact hrc v1 v2 v3 v4 1 (v6 + 1) g h
  · replace h := z_if hc h
    refine z_iconst C dX11_within_173 zci_0 ?_
    refine z_istore C dX11_within_174 (by decide) [(5, .int 0), (0, .ref (ad 0)), (1, .int v1), (2, .int v2), (3, .int v3), (4, .int v4), (6, .int v6)] rfl ?_
    refine z_iinc C dX11_within_176 (by decide) 6 rfl (z_incl zci_1) [(6, .int (v6 + 1)), (5, .int 0), (0, .ref (ad 0)), (1, .int v1), (2, .int v2), (3, .int v3), (4, .int v4)] rfl ?_
    refine z_goto 101 C dX11_within_179 rfl ?_
    refine z_loc [2, 3, 4, 5, 6, 1, 0] rfl ?_
    exact hrc v1 v2 v3 v4 0 (v6 + 1) g h
set_option maxRecDepth 100000 in
set_option maxHeartbeats 4000000 in
theorem wX11_within_L101 {F : z_F} {ad : Nat → Nat} {r : Int32} {gE : z_S} (C : z_X F layM nM ad cX11_within RX11 7 (some .int) 3 74 (some (.int r)) gE) (k182 : Int32 → Int32 → Int32 → Int32 → Int32 → z_S → Option (Int32 × z_S)) (hk182 : ∀ (v1 : Int32) (v2 : Int32) (v3 : Int32) (v4 : Int32) (v5 : Int32) (g : z_S), k182 v1 v2 v3 v4 v5 g = some (r, gE) → z_W F layM nM ad 182 [(0, .ref (ad 0)), (1, .int v1), (2, .int v2), (3, .int v3), (4, .int v4), (5, .int v5)] [] g) : ∀ (n : Nat) (v1 : Int32) (v2 : Int32) (v3 : Int32) (v4 : Int32) (v5 : Int32) (v6 : Int32) (g : z_S), z_loop (fX11_within_B101 k182) n (v1, v2, v3, v4, v5, v6) g = some (r, gE) → z_W F layM nM ad 101 [(0, .ref (ad 0)), (1, .int v1), (2, .int v2), (3, .int v3), (4, .int v4), (5, .int v5), (6, .int v6)] [] g := by
  intro n
  induction n with
  | zero =>
    intro v1 v2 v3 v4 v5 v6 g h
    exact (z_loop_0 h).elim
  | succ n ih =>
    intro v1 v2 v3 v4 v5 v6 g h
    replace h := z_loop_S h
    simp only [fX11_within_B101] at h
    refine z_iload C dX11_within_101 6 rfl ?_
    refine z_aload_n C dX11_within_103 rfl 0 rfl ?_
    refine z_getr C zf_X11_13 zo_M_3 dX11_within_104 ?_
    refine z_iload_n C dX11_within_107 rfl 3 rfl ?_
    obtain ⟨hi108, h⟩ := z_g_some h
    refine z_iald C za_M_2 (z_in_vp hi108) dX11_within_108 ?_
    refine z_icmp_ge 182 C dX11_within_109 rfl (fun hc => ?_) (fun hc => ?_)
    · replace h := z_it hc h
      refine z_loc [0, 1, 2, 3, 4, 5] rfl ?_
      exact hk182 v1 v2 v3 v4 v5 g h
    · replace h := z_if hc h
      refine z_iload C dX11_within_112 5 rfl ?_
      refine z_if_eq 182 C dX11_within_114 rfl (fun hc => ?_) (fun hc => ?_)
      · replace h := z_it hc h
        refine z_loc [0, 1, 2, 3, 4, 5] rfl ?_
        exact hk182 v1 v2 v3 v4 v5 g h
      · replace h := z_if hc h
        refine z_aload_n C dX11_within_117 rfl 0 rfl ?_
        refine z_getr C zf_X11_7 zo_M_2 dX11_within_118 ?_
        refine z_bipush C dX11_within_121 zcb_8 ?_
        refine z_iload_n C dX11_within_123 rfl 3 rfl ?_
        refine z_imul C dX11_within_124 ?_
        refine z_iload C dX11_within_125 6 rfl ?_
        refine z_iadd C dX11_within_127 ?_
        obtain ⟨hi128, h⟩ := z_g_some h
        refine z_iald C za_M_1 (z_in_vp hi128) dX11_within_128 ?_
        refine z_aload_n C dX11_within_129 rfl 0 rfl ?_
        refine z_getr C zf_X11_7 zo_M_2 dX11_within_130 ?_
        refine z_bipush C dX11_within_133 zcb_8 ?_
        refine z_iload C dX11_within_135 4 rfl ?_
        refine z_imul C dX11_within_137 ?_
        refine z_iload_n C dX11_within_138 rfl 1 rfl ?_
        refine z_if_ne 147 C dX11_within_139 rfl (fun hc => ?_) (fun hc => ?_)
        · replace h := z_it hc h
          refine z_iload C dX11_within_142 6 rfl ?_
          refine z_goto 164 C dX11_within_144 rfl ?_
          refine z_loc [0, 1, 2, 3, 4, 6] rfl ?_
          exact wX11_within_J164 C _ (fun v1 v2 v3 v4 v5 v6 g h => ih v1 v2 v3 v4 v5 v6 g h) v1 v2 v3 v4 v6 v6 (8 * v4) (g.1 1 ((8 * v3) + v6).toNatClampNeg) g h
        · replace h := z_if hc h
          refine z_aload_n C dX11_within_147 rfl 0 rfl ?_
          refine z_getr C zf_X11_13 zo_M_3 dX11_within_148 ?_
          refine z_iload C dX11_within_151 4 rfl ?_
          obtain ⟨hi153, h⟩ := z_g_some h
          refine z_iald C za_M_2 (z_in_vp hi153) dX11_within_153 ?_
          refine z_aload_n C dX11_within_154 rfl 0 rfl ?_
          refine z_getr C zf_X11_13 zo_M_3 dX11_within_155 ?_
          refine z_iload_n C dX11_within_158 rfl 3 rfl ?_
          obtain ⟨hi159, h⟩ := z_g_some h
          refine z_iald C za_M_2 (z_in_vp hi159) dX11_within_159 ?_
          refine z_isub C dX11_within_160 ?_
          refine z_iload C dX11_within_161 6 rfl ?_
          refine z_iadd C dX11_within_163 ?_
          refine z_loc [0, 1, 2, 3, 4, 6] rfl ?_
          exact wX11_within_J164 C _ (fun v1 v2 v3 v4 v5 v6 g h => ih v1 v2 v3 v4 v5 v6 g h) v1 v2 v3 v4 v6 (((g.1 2 (v4).toNatClampNeg) - (g.1 2 (v3).toNatClampNeg)) + v6) (8 * v4) (g.1 1 ((8 * v3) + v6).toNatClampNeg) g h
set_option maxRecDepth 100000 in
set_option maxHeartbeats 4000000 in
theorem wX11_within_L55 {F : z_F} {ad : Nat → Nat} {r : Int32} {gE : z_S} (C : z_X F layM nM ad cX11_within RX11 7 (some .int) 3 74 (some (.int r)) gE) (k196 : Int32 → Int32 → Int32 → z_S → Option (Int32 × z_S)) (hk196 : ∀ (v1 : Int32) (v2 : Int32) (v3 : Int32) (g : z_S), k196 v1 v2 v3 g = some (r, gE) → z_W F layM nM ad 196 [(0, .ref (ad 0)), (1, .int v1), (2, .int v2), (3, .int v3)] [] g) : ∀ (n : Nat) (v1 : Int32) (v2 : Int32) (v3 : Int32) (v4 : Int32) (g : z_S), z_loop (fX11_within_B55 k196) n (v1, v2, v3, v4) g = some (r, gE) → z_W F layM nM ad 55 [(0, .ref (ad 0)), (1, .int v1), (2, .int v2), (3, .int v3), (4, .int v4)] [] g := by
  intro n
  induction n with
  | zero =>
    intro v1 v2 v3 v4 g h
    exact (z_loop_0 h).elim
  | succ n ih =>
    intro v1 v2 v3 v4 g h
    replace h := z_loop_S h
    simp only [fX11_within_B55] at h
    refine z_iload C dX11_within_55 4 rfl ?_
    refine z_aload_n C dX11_within_57 rfl 0 rfl ?_
    refine z_geti C zf_X11_135 zo_M_1 dX11_within_58 ?_
    refine z_icmp_ge 196 C dX11_within_61 rfl (fun hc => ?_) (fun hc => ?_)
    · replace h := z_it hc h
      refine z_loc [0, 1, 2, 3] rfl ?_
      exact hk196 v1 v2 v3 g h
    · replace h := z_if hc h
      refine z_iload_n C dX11_within_64 rfl 1 rfl ?_
      refine z_iconst C dX11_within_65 zci_2 ?_
      refine z_icmp_ge 196 C dX11_within_66 rfl (fun hc => ?_) (fun hc => ?_)
      · replace h := z_it hc h
        refine z_loc [0, 1, 2, 3] rfl ?_
        exact hk196 v1 v2 v3 g h
      · replace h := z_if hc h
        refine z_iload_n C dX11_within_69 rfl 3 rfl ?_
        refine z_iload C dX11_within_70 4 rfl ?_
        refine z_icmp_eq 95 C dX11_within_72 rfl (fun hc => ?_) (fun hc => ?_)
        · replace h := z_it hc h
          refine z_iconst C dX11_within_95 zci_0 ?_
          refine z_istore C dX11_within_96 (by decide) [(5, .int 0), (0, .ref (ad 0)), (1, .int v1), (2, .int v2), (3, .int v3), (4, .int v4)] rfl ?_
          refine z_iconst C dX11_within_98 zci_0 ?_
          refine z_istore C dX11_within_99 (by decide) [(6, .int 0), (5, .int 0), (0, .ref (ad 0)), (1, .int v1), (2, .int v2), (3, .int v3), (4, .int v4)] rfl ?_
          refine z_loc [2, 3, 4, 5, 6, 1, 0] rfl ?_
          refine wX11_within_L101 C _ ?_ zN v1 v2 v3 v4 0 0 g h
          · intro v1 v2 v3 v4 v5 g h
            refine z_iload_n C dX11_within_182 rfl 2 rfl ?_
            refine z_iload C dX11_within_183 5 rfl ?_
            obtain ⟨r185, g185, hq185, h⟩ := z_b_some h
            refine z_callSi [.int v2] C zc_X11_195 rfl (by decide) (Nat.le_of_ble_eq_true rfl) dX11_within_185 rfl (wX11_one ad v5 g r185 g185 hq185) ?_
            refine z_iadd C dX11_within_188 ?_
            refine z_istore_n C dX11_within_189 rfl (by decide) [(2, .int (v2 + r185)), (0, .ref (ad 0)), (1, .int v1), (3, .int v3), (4, .int v4), (5, .int v5)] rfl ?_
            refine z_iinc C dX11_within_190 (by decide) 4 rfl (z_incl zci_1) [(4, .int (v4 + 1)), (2, .int (v2 + r185)), (0, .ref (ad 0)), (1, .int v1), (3, .int v3), (5, .int v5)] rfl ?_
            refine z_goto 55 C dX11_within_193 rfl ?_
            refine z_loc [2, 3, 1, 4, 0] rfl ?_
            exact ih v1 (v2 + r185) v3 (v4 + 1) g185 h
        · replace h := z_if hc h
          refine z_aload_n C dX11_within_75 rfl 0 rfl ?_
          refine z_getr C zf_X11_13 zo_M_3 dX11_within_76 ?_
          refine z_iload_n C dX11_within_79 rfl 3 rfl ?_
          obtain ⟨hi80, h⟩ := z_g_some h
          refine z_iald C za_M_2 (z_in_vp hi80) dX11_within_80 ?_
          refine z_aload_n C dX11_within_81 rfl 0 rfl ?_
          refine z_getr C zf_X11_13 zo_M_3 dX11_within_82 ?_
          refine z_iload C dX11_within_85 4 rfl ?_
          obtain ⟨hi87, h⟩ := z_g_some h
          refine z_iald C za_M_2 (z_in_vp hi87) dX11_within_87 ?_
          refine z_icmp_gt 95 C dX11_within_88 rfl (fun hc => ?_) (fun hc => ?_)
          · replace h := z_it hc h
            refine z_iconst C dX11_within_95 zci_0 ?_
            refine z_istore C dX11_within_96 (by decide) [(5, .int 0), (0, .ref (ad 0)), (1, .int v1), (2, .int v2), (3, .int v3), (4, .int v4)] rfl ?_
            refine z_iconst C dX11_within_98 zci_0 ?_
            refine z_istore C dX11_within_99 (by decide) [(6, .int 0), (5, .int 0), (0, .ref (ad 0)), (1, .int v1), (2, .int v2), (3, .int v3), (4, .int v4)] rfl ?_
            refine z_loc [2, 3, 4, 5, 6, 1, 0] rfl ?_
            refine wX11_within_L101 C _ ?_ zN v1 v2 v3 v4 0 0 g h
            · intro v1 v2 v3 v4 v5 g h
              refine z_iload_n C dX11_within_182 rfl 2 rfl ?_
              refine z_iload C dX11_within_183 5 rfl ?_
              obtain ⟨r185, g185, hq185, h⟩ := z_b_some h
              refine z_callSi [.int v2] C zc_X11_195 rfl (by decide) (Nat.le_of_ble_eq_true rfl) dX11_within_185 rfl (wX11_one ad v5 g r185 g185 hq185) ?_
              refine z_iadd C dX11_within_188 ?_
              refine z_istore_n C dX11_within_189 rfl (by decide) [(2, .int (v2 + r185)), (0, .ref (ad 0)), (1, .int v1), (3, .int v3), (4, .int v4), (5, .int v5)] rfl ?_
              refine z_iinc C dX11_within_190 (by decide) 4 rfl (z_incl zci_1) [(4, .int (v4 + 1)), (2, .int (v2 + r185)), (0, .ref (ad 0)), (1, .int v1), (3, .int v3), (5, .int v5)] rfl ?_
              refine z_goto 55 C dX11_within_193 rfl ?_
              refine z_loc [2, 3, 1, 4, 0] rfl ?_
              exact ih v1 (v2 + r185) v3 (v4 + 1) g185 h
          · replace h := z_if hc h
            refine z_iconst C dX11_within_91 zci_1 ?_
            refine z_goto 96 C dX11_within_92 rfl ?_
            refine z_istore C dX11_within_96 (by decide) [(5, .int 1), (0, .ref (ad 0)), (1, .int v1), (2, .int v2), (3, .int v3), (4, .int v4)] rfl ?_
            refine z_iconst C dX11_within_98 zci_0 ?_
            refine z_istore C dX11_within_99 (by decide) [(6, .int 0), (5, .int 1), (0, .ref (ad 0)), (1, .int v1), (2, .int v2), (3, .int v3), (4, .int v4)] rfl ?_
            refine z_loc [2, 3, 4, 5, 6, 1, 0] rfl ?_
            refine wX11_within_L101 C _ ?_ zN v1 v2 v3 v4 1 0 g h
            · intro v1 v2 v3 v4 v5 g h
              refine z_iload_n C dX11_within_182 rfl 2 rfl ?_
              refine z_iload C dX11_within_183 5 rfl ?_
              obtain ⟨r185, g185, hq185, h⟩ := z_b_some h
              refine z_callSi [.int v2] C zc_X11_195 rfl (by decide) (Nat.le_of_ble_eq_true rfl) dX11_within_185 rfl (wX11_one ad v5 g r185 g185 hq185) ?_
              refine z_iadd C dX11_within_188 ?_
              refine z_istore_n C dX11_within_189 rfl (by decide) [(2, .int (v2 + r185)), (0, .ref (ad 0)), (1, .int v1), (3, .int v3), (4, .int v4), (5, .int v5)] rfl ?_
              refine z_iinc C dX11_within_190 (by decide) 4 rfl (z_incl zci_1) [(4, .int (v4 + 1)), (2, .int (v2 + r185)), (0, .ref (ad 0)), (1, .int v1), (3, .int v3), (5, .int v5)] rfl ?_
              refine z_goto 55 C dX11_within_193 rfl ?_
              refine z_loc [2, 3, 1, 4, 0] rfl ?_
              exact ih v1 (v2 + r185) v3 (v4 + 1) g185 h
set_option maxRecDepth 100000 in
set_option maxHeartbeats 4000000 in
theorem wX11_within_J47 {F : z_F} {ad : Nat → Nat} {r : Int32} {gE : z_S} (C : z_X F layM nM ad cX11_within RX11 7 (some .int) 3 74 (some (.int r)) gE) (rc : (Int32 × Int32 × Int32) → z_S → Option (Int32 × z_S)) (hrc : ∀ (v1 : Int32) (v2 : Int32) (v3 : Int32) (g : z_S), rc (v1, v2, v3) g = some (r, gE) → z_W F layM nM ad 20 [(0, .ref (ad 0)), (1, .int v1), (2, .int v2), (3, .int v3)] [] g) (v1 : Int32) (v3 : Int32) (s0 : Int32) (s1 : Int32) (g : z_S) (h : fX11_within_J47 rc v1 v3 s0 s1 g = some (r, gE)) : z_W F layM nM ad 47 [(0, .ref (ad 0)), (1, .int v1), (3, .int v3)] [.int s0, .int s1] g := by
  unfold fX11_within_J47 at h
  obtain ⟨r47, g47, hq47, h⟩ := z_b_some h
  refine z_callSi [.int s1] C zc_X11_195 rfl (by decide) (Nat.le_of_ble_eq_true rfl) dX11_within_47 rfl (wX11_one ad s0 g r47 g47 hq47) ?_
  refine z_iadd C dX11_within_50 ?_
  refine z_istore_n C dX11_within_51 rfl (by decide) [(2, .int (s1 + r47)), (0, .ref (ad 0)), (1, .int v1), (3, .int v3)] rfl ?_
  refine z_iconst C dX11_within_52 zci_0 ?_
  refine z_istore C dX11_within_53 (by decide) [(4, .int 0), (2, .int (s1 + r47)), (0, .ref (ad 0)), (1, .int v1), (3, .int v3)] rfl ?_
  refine z_loc [2, 3, 1, 4, 0] rfl ?_
  refine wX11_within_L55 C _ ?_ zN v1 (s1 + r47) v3 0 g47 h
  · intro v1 v2 v3 g h
    refine z_iinc C dX11_within_196 (by decide) 3 rfl (z_incl zci_1) [(3, .int (v3 + 1)), (0, .ref (ad 0)), (1, .int v1), (2, .int v2)] rfl ?_
    refine z_goto 20 C dX11_within_199 rfl ?_
    refine z_loc [1, 2, 3, 0] rfl ?_
    exact hrc v1 v2 (v3 + 1) g h
set_option maxRecDepth 100000 in
set_option maxHeartbeats 4000000 in
theorem wX11_within_L20 {F : z_F} {ad : Nat → Nat} {r : Int32} {gE : z_S} (C : z_X F layM nM ad cX11_within RX11 7 (some .int) 3 74 (some (.int r)) gE) : ∀ (n : Nat) (v1 : Int32) (v2 : Int32) (v3 : Int32) (g : z_S), z_loop fX11_within_B20 n (v1, v2, v3) g = some (r, gE) → z_W F layM nM ad 20 [(0, .ref (ad 0)), (1, .int v1), (2, .int v2), (3, .int v3)] [] g := by
  intro n
  induction n with
  | zero =>
    intro v1 v2 v3 g h
    exact (z_loop_0 h).elim
  | succ n ih =>
    intro v1 v2 v3 g h
    replace h := z_loop_S h
    simp only [fX11_within_B20] at h
    refine z_iload_n C dX11_within_20 rfl 3 rfl ?_
    refine z_aload_n C dX11_within_21 rfl 0 rfl ?_
    refine z_geti C zf_X11_135 zo_M_1 dX11_within_22 ?_
    refine z_icmp_ge 202 C dX11_within_25 rfl (fun hc => ?_) (fun hc => ?_)
    · replace h := z_it hc h
      refine z_iload_n C dX11_within_202 rfl 2 rfl ?_
      exact z_iret C (z_ret1i h) (z_ret2 h) dX11_within_203
    · replace h := z_if hc h
      refine z_iload_n C dX11_within_28 rfl 2 rfl ?_
      refine z_iload_n C dX11_within_29 rfl 1 rfl ?_
      refine z_iconst C dX11_within_30 zci_2 ?_
      refine z_icmp_ne 46 C dX11_within_31 rfl (fun hc => ?_) (fun hc => ?_)
      · replace h := z_it hc h
        refine z_aload_n C dX11_within_34 rfl 0 rfl ?_
        refine z_iload_n C dX11_within_35 rfl 3 rfl ?_
        obtain ⟨r36, g36, hq36, h⟩ := z_b_some h
        refine z_callVi [.int v2] C zc_X11_236 zk_M rfl (by decide) (Nat.le_of_ble_eq_true rfl) dX11_within_36 rfl (wX11_hides ad v3 g r36 g36 hq36) ?_
        refine z_if_eq 46 C dX11_within_39 rfl (fun hc => ?_) (fun hc => ?_)
        · replace h := z_it hc h
          refine z_iconst C dX11_within_46 zci_0 ?_
          refine z_loc [0, 1, 3] rfl ?_
          exact wX11_within_J47 C _ (fun v1 v2 v3 g h => ih v1 v2 v3 g h) v1 v3 0 v2 g36 h
        · replace h := z_if hc h
          refine z_iconst C dX11_within_42 zci_1 ?_
          refine z_goto 47 C dX11_within_43 rfl ?_
          refine z_loc [0, 1, 3] rfl ?_
          exact wX11_within_J47 C _ (fun v1 v2 v3 g h => ih v1 v2 v3 g h) v1 v3 1 v2 g36 h
      · replace h := z_if hc h
        refine z_iconst C dX11_within_46 zci_0 ?_
        refine z_loc [0, 1, 3] rfl ?_
        exact wX11_within_J47 C _ (fun v1 v2 v3 g h => ih v1 v2 v3 g h) v1 v3 0 v2 g h
set_option maxRecDepth 100000 in
set_option maxHeartbeats 4000000 in
theorem wX11_within (ad : Nat → Nat) (v1 : Int32) (g : z_S) (r : Int32) (gE : z_S) (h : fX11_within v1 g = some (r, gE)) : z_M yX11_within cX11_within 7 (some .int) 3 74 layM nM ad [.ref (ad 0), .int v1] g (some (.int r)) gE := by
  refine z_enter (by decide) (Nat.le_of_ble_eq_true rfl) (fun F C => ?_)
  replace C : z_X F layM nM ad cX11_within RX11 7 (some .int) 3 74 (some (.int r)) gE := C
  show z_W F layM nM ad 0 [(0, .ref (ad 0)), (1, .int v1)] [] g
  unfold fX11_within at h
  refine z_iload_n C dX11_within_0 rfl 1 rfl ?_
  refine z_i2l C dX11_within_1 ?_
  refine z_lconst C dX11_within_2 zcl_0 ?_
  refine z_ldc2 C dX11_within_3 zl_X11_127 ?_
  obtain ⟨r6, g6, hq6, h⟩ := z_b_some h
  refine z_callSi [] C zc_X11_131 rfl (by decide) (Nat.le_of_ble_eq_true rfl) dX11_within_6 rfl (wX11_in ad ((v1).toInt64) 0 2 g r6 g6 hq6) ?_
  refine z_if_ne 16 C dX11_within_9 rfl (fun hc => ?_) (fun hc => ?_)
  · replace h := z_it hc h
    refine z_sipush C dX11_within_12 zcs_m1002 ?_
    exact z_iret C (z_ret1i h) (z_ret2 h) dX11_within_15
  · replace h := z_if hc h
    refine z_iconst C dX11_within_16 zci_0 ?_
    refine z_istore_n C dX11_within_17 rfl (by decide) [(2, .int 0), (0, .ref (ad 0)), (1, .int v1)] rfl ?_
    refine z_iconst C dX11_within_18 zci_0 ?_
    refine z_istore_n C dX11_within_19 rfl (by decide) [(3, .int 0), (2, .int 0), (0, .ref (ad 0)), (1, .int v1)] rfl ?_
    refine z_loc [2, 3, 1, 0] rfl ?_
    refine wX11_within_L20 C  zN v1 0 0 g6 h
set_option maxRecDepth 100000 in
set_option maxHeartbeats 4000000 in
theorem wX11_mark (ad : Nat → Nat) (v1 : Int32) (v2 : Int32) (g : z_S) (gE : z_S) (h : fX11_mark v1 v2 g = some ((), gE)) : z_M yX11_mark cX11_mark 3 none 0 0 layM nM ad [.ref (ad 0), .int v1, .int v2] g none gE := by
  refine z_enter (by decide) (Nat.le_of_ble_eq_true rfl) (fun F C => ?_)
  replace C : z_X F layM nM ad cX11_mark RX11 3 none 0 0 none gE := C
  show z_W F layM nM ad 0 [(0, .ref (ad 0)), (1, .int v1), (2, .int v2)] [] g
  unfold fX11_mark at h
  refine z_iload_n C dX11_mark_0 rfl 2 rfl ?_
  refine z_aload_n C dX11_mark_1 rfl 0 rfl ?_
  refine z_getr C zf_X11_13 zo_M_3 dX11_mark_2 ?_
  refine z_iload_n C dX11_mark_5 rfl 1 rfl ?_
  obtain ⟨hi6, h⟩ := z_g_some h
  refine z_iald C za_M_2 (z_in_vp hi6) dX11_mark_6 ?_
  refine z_icmp_ne 23 C dX11_mark_7 rfl (fun hc => ?_) (fun hc => ?_)
  · replace h := z_it hc h
    refine z_aload_n C dX11_mark_10 rfl 0 rfl ?_
    refine z_dup C dX11_mark_11 rfl ?_
    refine z_getl C zf_X11_239 zo_M_35 dX11_mark_12 ?_
    refine z_lconst C dX11_mark_15 zcl_1 ?_
    refine z_lor C dX11_mark_16 ?_
    obtain ⟨g17, eg17, h⟩ := z_s_some h
    refine z_putl C zp_X11_239 zo_M_35 dX11_mark_17 ?_
    refine z_gw eg17 ?_
    refine z_goto 69 C dX11_mark_20 rfl ?_
    exact z_vret C rfl (z_ret2 h) dX11_mark_69
  · replace h := z_if hc h
    refine z_iload_n C dX11_mark_23 rfl 1 rfl ?_
    refine z_bipush C dX11_mark_24 zcb_8 ?_
    refine z_icmp_ge 49 C dX11_mark_26 rfl (fun hc => ?_) (fun hc => ?_)
    · replace h := z_it hc h
      refine z_aload_n C dX11_mark_49 rfl 0 rfl ?_
      refine z_dup C dX11_mark_50 rfl ?_
      refine z_getl C zf_X11_243 zo_M_36 dX11_mark_51 ?_
      refine z_lconst C dX11_mark_54 zcl_1 ?_
      refine z_bipush C dX11_mark_55 zcb_8 ?_
      refine z_iload_n C dX11_mark_57 rfl 1 rfl ?_
      refine z_bipush C dX11_mark_58 zcb_8 ?_
      refine z_isub C dX11_mark_60 ?_
      refine z_imul C dX11_mark_61 ?_
      refine z_iload_n C dX11_mark_62 rfl 2 rfl ?_
      refine z_iadd C dX11_mark_63 ?_
      refine z_lshl C dX11_mark_64 ?_
      refine z_lor C dX11_mark_65 ?_
      obtain ⟨g66, eg66, h⟩ := z_s_some h
      refine z_putl C zp_X11_243 zo_M_36 dX11_mark_66 ?_
      refine z_gw eg66 ?_
      exact z_vret C rfl (z_ret2 h) dX11_mark_69
    · replace h := z_if hc h
      refine z_aload_n C dX11_mark_29 rfl 0 rfl ?_
      refine z_dup C dX11_mark_30 rfl ?_
      refine z_getl C zf_X11_239 zo_M_35 dX11_mark_31 ?_
      refine z_lconst C dX11_mark_34 zcl_1 ?_
      refine z_bipush C dX11_mark_35 zcb_8 ?_
      refine z_iload_n C dX11_mark_37 rfl 1 rfl ?_
      refine z_imul C dX11_mark_38 ?_
      refine z_iload_n C dX11_mark_39 rfl 2 rfl ?_
      refine z_iadd C dX11_mark_40 ?_
      refine z_lshl C dX11_mark_41 ?_
      refine z_lor C dX11_mark_42 ?_
      obtain ⟨g43, eg43, h⟩ := z_s_some h
      refine z_putl C zp_X11_239 zo_M_35 dX11_mark_43 ?_
      refine z_gw eg43 ?_
      refine z_goto 69 C dX11_mark_46 rfl ?_
      exact z_vret C rfl (z_ret2 h) dX11_mark_69
set_option maxRecDepth 100000 in
set_option maxHeartbeats 4000000 in
theorem wX11_addState (ad : Nat → Nat) (v1 : Int32) (v2 : Int32) (v3 : Int32) (g : z_S) (gE : z_S) (h : fX11_addState v1 v2 v3 g = some ((), gE)) : z_M yX11_addState cX11_addState 4 none 0 0 layM nM ad [.ref (ad 0), .int v1, .int v2, .int v3] g none gE := by
  refine z_enter (by decide) (Nat.le_of_ble_eq_true rfl) (fun F C => ?_)
  replace C : z_X F layM nM ad cX11_addState RX11 4 none 0 0 none gE := C
  show z_W F layM nM ad 0 [(0, .ref (ad 0)), (1, .int v1), (2, .int v2), (3, .int v3)] [] g
  unfold fX11_addState at h
  refine z_aload_n C dX11_addState_0 rfl 0 rfl ?_
  refine z_getr C zf_X11_76 zo_M_29 dX11_addState_1 ?_
  refine z_aload_n C dX11_addState_4 rfl 0 rfl ?_
  refine z_geti C zf_X11_254 zo_M_34 dX11_addState_5 ?_
  refine z_aload_n C dX11_addState_8 rfl 0 rfl ?_
  refine z_getl C zf_X11_239 zo_M_35 dX11_addState_9 ?_
  obtain ⟨hi12, h⟩ := z_g_some h
  obtain ⟨g12, eg12, h⟩ := z_s_some h
  refine z_last C za_M_21 (z_in_vp hi12) dX11_addState_12 ?_
  refine z_gw eg12 ?_
  refine z_aload_n C dX11_addState_13 rfl 0 rfl ?_
  refine z_getr C zf_X11_79 zo_M_30 dX11_addState_14 ?_
  refine z_aload_n C dX11_addState_17 rfl 0 rfl ?_
  refine z_geti C zf_X11_254 zo_M_34 dX11_addState_18 ?_
  refine z_aload_n C dX11_addState_21 rfl 0 rfl ?_
  refine z_getl C zf_X11_243 zo_M_36 dX11_addState_22 ?_
  obtain ⟨hi25, h⟩ := z_g_some h
  obtain ⟨g25, eg25, h⟩ := z_s_some h
  refine z_last C za_M_22 (z_in_vp hi25) dX11_addState_25 ?_
  refine z_gw eg25 ?_
  refine z_aload_n C dX11_addState_26 rfl 0 rfl ?_
  refine z_getr C zf_X11_82 zo_M_31 dX11_addState_27 ?_
  refine z_aload_n C dX11_addState_30 rfl 0 rfl ?_
  refine z_geti C zf_X11_254 zo_M_34 dX11_addState_31 ?_
  refine z_iload_n C dX11_addState_34 rfl 1 rfl ?_
  obtain ⟨hi35, h⟩ := z_g_some h
  obtain ⟨g35, eg35, h⟩ := z_s_some h
  refine z_iast C za_M_23 (z_in_vp hi35) dX11_addState_35 ?_
  refine z_gw eg35 ?_
  refine z_aload_n C dX11_addState_36 rfl 0 rfl ?_
  refine z_getr C zf_X11_85 zo_M_32 dX11_addState_37 ?_
  refine z_aload_n C dX11_addState_40 rfl 0 rfl ?_
  refine z_geti C zf_X11_254 zo_M_34 dX11_addState_41 ?_
  refine z_iload_n C dX11_addState_44 rfl 2 rfl ?_
  obtain ⟨hi45, h⟩ := z_g_some h
  obtain ⟨g45, eg45, h⟩ := z_s_some h
  refine z_iast C za_M_24 (z_in_vp hi45) dX11_addState_45 ?_
  refine z_gw eg45 ?_
  refine z_aload_n C dX11_addState_46 rfl 0 rfl ?_
  refine z_getr C zf_X11_88 zo_M_33 dX11_addState_47 ?_
  refine z_aload_n C dX11_addState_50 rfl 0 rfl ?_
  refine z_geti C zf_X11_254 zo_M_34 dX11_addState_51 ?_
  refine z_iload_n C dX11_addState_54 rfl 3 rfl ?_
  obtain ⟨hi55, h⟩ := z_g_some h
  obtain ⟨g55, eg55, h⟩ := z_s_some h
  refine z_iast C za_M_25 (z_in_vp hi55) dX11_addState_55 ?_
  refine z_gw eg55 ?_
  refine z_aload_n C dX11_addState_56 rfl 0 rfl ?_
  refine z_dup C dX11_addState_57 rfl ?_
  refine z_geti C zf_X11_254 zo_M_34 dX11_addState_58 ?_
  refine z_iconst C dX11_addState_61 zci_1 ?_
  refine z_iadd C dX11_addState_62 ?_
  obtain ⟨g63, eg63, h⟩ := z_s_some h
  refine z_puti C zp_X11_254 zo_M_34 rfl rfl dX11_addState_63 ?_
  refine z_gw eg63 ?_
  exact z_vret C rfl (z_ret2 h) dX11_addState_66
set_option maxRecDepth 100000 in
set_option maxHeartbeats 4000000 in
theorem wX11_beginStates_L31 {F : z_F} {ad : Nat → Nat} {gE : z_S} (C : z_X F layM nM ad cX11_beginStates RX11 4 none 1 23 none gE) (k53 : Int32 → Int32 → z_S → Option (Unit × z_S)) (hk53 : ∀ (v1 : Int32) (v2 : Int32) (g : z_S), k53 v1 v2 g = some ((), gE) → z_W F layM nM ad 53 [(0, .ref (ad 0)), (1, .int v1), (2, .int v2)] [] g) : ∀ (n : Nat) (v1 : Int32) (v2 : Int32) (v3 : Int32) (g : z_S), z_loop (fX11_beginStates_B31 k53) n (v1, v2, v3) g = some ((), gE) → z_W F layM nM ad 31 [(0, .ref (ad 0)), (1, .int v1), (2, .int v2), (3, .int v3)] [] g := by
  intro n
  induction n with
  | zero =>
    intro v1 v2 v3 g h
    exact (z_loop_0 h).elim
  | succ n ih =>
    intro v1 v2 v3 g h
    replace h := z_loop_S h
    simp only [fX11_beginStates_B31] at h
    refine z_iload_n C dX11_beginStates_31 rfl 3 rfl ?_
    refine z_aload_n C dX11_beginStates_32 rfl 0 rfl ?_
    refine z_getr C zf_X11_13 zo_M_3 dX11_beginStates_33 ?_
    refine z_iload_n C dX11_beginStates_36 rfl 2 rfl ?_
    obtain ⟨hi37, h⟩ := z_g_some h
    refine z_iald C za_M_2 (z_in_vp hi37) dX11_beginStates_37 ?_
    refine z_icmp_ge 53 C dX11_beginStates_38 rfl (fun hc => ?_) (fun hc => ?_)
    · replace h := z_it hc h
      refine z_loc [0, 1, 2] rfl ?_
      exact hk53 v1 v2 g h
    · replace h := z_if hc h
      refine z_aload_n C dX11_beginStates_41 rfl 0 rfl ?_
      refine z_iload_n C dX11_beginStates_42 rfl 2 rfl ?_
      refine z_iload_n C dX11_beginStates_43 rfl 3 rfl ?_
      obtain ⟨r44, g44, hq44, h⟩ := z_b_some h
      refine z_callVv [] C zc_X11_246 zk_M rfl (by decide) (Nat.le_of_ble_eq_true rfl) dX11_beginStates_44 rfl (wX11_mark ad v2 v3 g g44 hq44) ?_
      refine z_iinc C dX11_beginStates_47 (by decide) 3 rfl (z_incl zci_1) [(3, .int (v3 + 1)), (0, .ref (ad 0)), (1, .int v1), (2, .int v2)] rfl ?_
      refine z_goto 31 C dX11_beginStates_50 rfl ?_
      refine z_loc [1, 2, 3, 0] rfl ?_
      exact ih v1 v2 (v3 + 1) g44 h
set_option maxRecDepth 100000 in
set_option maxHeartbeats 4000000 in
theorem wX11_beginStates_L17 {F : z_F} {ad : Nat → Nat} {gE : z_S} (C : z_X F layM nM ad cX11_beginStates RX11 4 none 1 23 none gE) (k59 : z_S → Option (Unit × z_S)) (hk59 : ∀ (g : z_S), k59 g = some ((), gE) → z_W F layM nM ad 59 [(0, .ref (ad 0))] [] g) : ∀ (n : Nat) (v1 : Int32) (v2 : Int32) (g : z_S), z_loop (fX11_beginStates_B17 k59) n (v1, v2) g = some ((), gE) → z_W F layM nM ad 17 [(0, .ref (ad 0)), (1, .int v1), (2, .int v2)] [] g := by
  intro n
  induction n with
  | zero =>
    intro v1 v2 g h
    exact (z_loop_0 h).elim
  | succ n ih =>
    intro v1 v2 g h
    replace h := z_loop_S h
    simp only [fX11_beginStates_B17] at h
    refine z_iload_n C dX11_beginStates_17 rfl 2 rfl ?_
    refine z_aload_n C dX11_beginStates_18 rfl 0 rfl ?_
    refine z_geti C zf_X11_135 zo_M_1 dX11_beginStates_19 ?_
    refine z_icmp_ge 59 C dX11_beginStates_22 rfl (fun hc => ?_) (fun hc => ?_)
    · replace h := z_it hc h
      refine z_loc [0] rfl ?_
      exact hk59 g h
    · replace h := z_if hc h
      refine z_iload_n C dX11_beginStates_25 rfl 1 rfl ?_
      refine z_if_eq 59 C dX11_beginStates_26 rfl (fun hc => ?_) (fun hc => ?_)
      · replace h := z_it hc h
        refine z_loc [0] rfl ?_
        exact hk59 g h
      · replace h := z_if hc h
        refine z_iconst C dX11_beginStates_29 zci_1 ?_
        refine z_istore_n C dX11_beginStates_30 rfl (by decide) [(3, .int 1), (0, .ref (ad 0)), (1, .int v1), (2, .int v2)] rfl ?_
        refine z_loc [1, 2, 3, 0] rfl ?_
        refine wX11_beginStates_L31 C _ ?_ zN v1 v2 1 g h
        · intro v1 v2 g h
          refine z_iinc C dX11_beginStates_53 (by decide) 2 rfl (z_incl zci_1) [(2, .int (v2 + 1)), (0, .ref (ad 0)), (1, .int v1)] rfl ?_
          refine z_goto 17 C dX11_beginStates_56 rfl ?_
          refine z_loc [1, 2, 0] rfl ?_
          exact ih v1 (v2 + 1) g h
set_option maxRecDepth 100000 in
set_option maxHeartbeats 4000000 in
theorem wX11_beginStates (ad : Nat → Nat) (v1 : Int32) (g : z_S) (gE : z_S) (h : fX11_beginStates v1 g = some ((), gE)) : z_M yX11_beginStates cX11_beginStates 4 none 1 23 layM nM ad [.ref (ad 0), .int v1] g none gE := by
  refine z_enter (by decide) (Nat.le_of_ble_eq_true rfl) (fun F C => ?_)
  replace C : z_X F layM nM ad cX11_beginStates RX11 4 none 1 23 none gE := C
  show z_W F layM nM ad 0 [(0, .ref (ad 0)), (1, .int v1)] [] g
  unfold fX11_beginStates at h
  refine z_aload_n C dX11_beginStates_0 rfl 0 rfl ?_
  refine z_iconst C dX11_beginStates_1 zci_0 ?_
  obtain ⟨g2, eg2, h⟩ := z_s_some h
  refine z_puti C zp_X11_254 zo_M_34 rfl rfl dX11_beginStates_2 ?_
  refine z_gw eg2 ?_
  refine z_aload_n C dX11_beginStates_5 rfl 0 rfl ?_
  refine z_lconst C dX11_beginStates_6 zcl_1 ?_
  obtain ⟨g7, eg7, h⟩ := z_s_some h
  refine z_putl C zp_X11_239 zo_M_35 dX11_beginStates_7 ?_
  refine z_gw eg7 ?_
  refine z_aload_n C dX11_beginStates_10 rfl 0 rfl ?_
  refine z_lconst C dX11_beginStates_11 zcl_0 ?_
  obtain ⟨g12, eg12, h⟩ := z_s_some h
  refine z_putl C zp_X11_243 zo_M_36 dX11_beginStates_12 ?_
  refine z_gw eg12 ?_
  refine z_iconst C dX11_beginStates_15 zci_0 ?_
  refine z_istore_n C dX11_beginStates_16 rfl (by decide) [(2, .int 0), (0, .ref (ad 0)), (1, .int v1)] rfl ?_
  refine z_loc [1, 2, 0] rfl ?_
  refine wX11_beginStates_L17 C _ ?_ zN v1 0 g12 h
  · intro g h
    refine z_aload_n C dX11_beginStates_59 rfl 0 rfl ?_
    refine z_iconst C dX11_beginStates_60 zci_m1 ?_
    refine z_iconst C dX11_beginStates_61 zci_m1 ?_
    refine z_iconst C dX11_beginStates_62 zci_0 ?_
    obtain ⟨r63, g63, hq63, h⟩ := z_b_some h
    refine z_callVv [] C zc_X11_257 zk_M rfl (by decide) (Nat.le_of_ble_eq_true rfl) dX11_beginStates_63 rfl (wX11_addState ad (-1) (-1) 0 g g63 hq63) ?_
    exact z_vret C rfl (z_ret2 h) dX11_beginStates_66
set_option maxRecDepth 100000 in
set_option maxHeartbeats 4000000 in
theorem wX11_isMarked_J21 {F : z_F} {ad : Nat → Nat} {r : Int32} {gE : z_S} (C : z_X F layM nM ad cX11_isMarked RX11 6 (some .boolean) 0 0 (some (.int r)) gE) (v2 : Int32) (v3 : Int32) (s0 : Int64) (g : z_S) (h : fX11_isMarked_J21 v2 v3 s0 g = some (r, gE)) : z_W F layM nM ad 21 [(2, .int v2), (3, .int v3)] [.long s0] g := by
  unfold fX11_isMarked_J21 at h
  refine z_lstore C dX11_isMarked_21 (by decide) [(4, .long s0), (2, .int v2), (3, .int v3)] rfl ?_
  refine z_lload C dX11_isMarked_23 0 rfl ?_
  refine z_bipush C dX11_isMarked_25 zcb_8 ?_
  refine z_iload_n C dX11_isMarked_27 rfl 1 rfl ?_
  refine z_bipush C dX11_isMarked_28 zcb_7 ?_
  refine z_iand C dX11_isMarked_30 ?_
  refine z_imul C dX11_isMarked_31 ?_
  refine z_iload_n C dX11_isMarked_32 rfl 2 rfl ?_
  refine z_iadd C dX11_isMarked_33 ?_
  refine z_lshr C dX11_isMarked_34 ?_
  refine z_lconst C dX11_isMarked_35 zcl_1 ?_
  refine z_land C dX11_isMarked_36 ?_
  refine z_lconst C dX11_isMarked_37 zcl_1 ?_
  refine z_lcmp_ne 46 C dX11_isMarked_38 dX11_isMarked_39 rfl (fun hc => ?_) (fun hc => ?_)
  · replace h := z_it hc h
    refine z_iconst C dX11_isMarked_42 zci_1 ?_
    refine z_goto 47 C dX11_isMarked_43 rfl ?_
    exact z_zret C (by decide) (z_ret1i h) (z_ret2 h) dX11_isMarked_47
  · replace h := z_if hc h
    refine z_iconst C dX11_isMarked_46 zci_0 ?_
    exact z_zret C (by decide) (z_ret1i h) (z_ret2 h) dX11_isMarked_47
set_option maxRecDepth 100000 in
set_option maxHeartbeats 4000000 in
theorem wX11_isMarked (ad : Nat → Nat) (v1 : Int32) (v2 : Int32) (v3 : Int32) (g : z_S) (r : Int32) (gE : z_S) (h : fX11_isMarked v1 v2 v3 g = some (r, gE)) : z_M yX11_isMarked cX11_isMarked 6 (some .boolean) 0 0 layM nM ad [.ref (ad 0), .int v1, .int v2, .int v3] g (some (.int r)) gE := by
  refine z_enter (by decide) (Nat.le_of_ble_eq_true rfl) (fun F C => ?_)
  replace C : z_X F layM nM ad cX11_isMarked RX11 6 (some .boolean) 0 0 (some (.int r)) gE := C
  show z_W F layM nM ad 0 [(0, .ref (ad 0)), (1, .int v1), (2, .int v2), (3, .int v3)] [] g
  unfold fX11_isMarked at h
  refine z_iload_n C dX11_isMarked_0 rfl 2 rfl ?_
  refine z_bipush C dX11_isMarked_1 zcb_8 ?_
  refine z_icmp_ge 15 C dX11_isMarked_3 rfl (fun hc => ?_) (fun hc => ?_)
  · replace h := z_it hc h
    refine z_aload_n C dX11_isMarked_15 rfl 0 rfl ?_
    refine z_getr C zf_X11_79 zo_M_30 dX11_isMarked_16 ?_
    refine z_iload_n C dX11_isMarked_19 rfl 1 rfl ?_
    obtain ⟨hi20, h⟩ := z_g_some h
    refine z_lald C za_M_22 (z_in_vp hi20) dX11_isMarked_20 ?_
    refine z_loc [2, 3] rfl ?_
    exact wX11_isMarked_J21 C v2 v3 (g.2 22 (v1).toNatClampNeg) g h
  · replace h := z_if hc h
    refine z_aload_n C dX11_isMarked_6 rfl 0 rfl ?_
    refine z_getr C zf_X11_76 zo_M_29 dX11_isMarked_7 ?_
    refine z_iload_n C dX11_isMarked_10 rfl 1 rfl ?_
    obtain ⟨hi11, h⟩ := z_g_some h
    refine z_lald C za_M_21 (z_in_vp hi11) dX11_isMarked_11 ?_
    refine z_goto 21 C dX11_isMarked_12 rfl ?_
    refine z_loc [2, 3] rfl ?_
    exact wX11_isMarked_J21 C v2 v3 (g.2 21 (v1).toNatClampNeg) g h
set_option maxRecDepth 100000 in
set_option maxHeartbeats 4000000 in
theorem wX11_goOn_L69 {F : z_F} {ad : Nat → Nat} {gE : z_S} (C : z_X F layM nM ad cX11_goOn RX11 6 none 1 25 none gE) (k126 : Int32 → Int32 → Int32 → Int32 → z_S → Option (Unit × z_S)) (hk126 : ∀ (v1 : Int32) (v2 : Int32) (v3 : Int32) (v4 : Int32) (g : z_S), k126 v1 v2 v3 v4 g = some ((), gE) → z_W F layM nM ad 126 [(0, .ref (ad 0)), (1, .int v1), (2, .int v2), (3, .int v3), (4, .int v4)] [] g) : ∀ (n : Nat) (v1 : Int32) (v2 : Int32) (v3 : Int32) (v4 : Int32) (v5 : Int32) (g : z_S), z_loop (fX11_goOn_B69 k126) n (v1, v2, v3, v4, v5) g = some ((), gE) → z_W F layM nM ad 69 [(0, .ref (ad 0)), (1, .int v1), (2, .int v2), (3, .int v3), (4, .int v4), (5, .int v5)] [] g := by
  intro n
  induction n with
  | zero =>
    intro v1 v2 v3 v4 v5 g h
    exact (z_loop_0 h).elim
  | succ n ih =>
    intro v1 v2 v3 v4 v5 g h
    replace h := z_loop_S h
    simp only [fX11_goOn_B69] at h
    refine z_iload C dX11_goOn_69 5 rfl ?_
    refine z_aload_n C dX11_goOn_71 rfl 0 rfl ?_
    refine z_getr C zf_X11_13 zo_M_3 dX11_goOn_72 ?_
    refine z_iload C dX11_goOn_75 4 rfl ?_
    obtain ⟨hi77, h⟩ := z_g_some h
    refine z_iald C za_M_2 (z_in_vp hi77) dX11_goOn_77 ?_
    refine z_icmp_ge 126 C dX11_goOn_78 rfl (fun hc => ?_) (fun hc => ?_)
    · replace h := z_it hc h
      refine z_loc [0, 1, 2, 3, 4] rfl ?_
      exact hk126 v1 v2 v3 v4 g h
    · replace h := z_if hc h
      refine z_aload_n C dX11_goOn_81 rfl 0 rfl ?_
      refine z_iload_n C dX11_goOn_82 rfl 1 rfl ?_
      refine z_iload C dX11_goOn_83 4 rfl ?_
      refine z_iload C dX11_goOn_85 5 rfl ?_
      obtain ⟨r87, g87, hq87, h⟩ := z_b_some h
      refine z_callVi [] C zc_X11_250 zk_M rfl (by decide) (Nat.le_of_ble_eq_true rfl) dX11_goOn_87 rfl (wX11_isMarked ad v1 v4 v5 g r87 g87 hq87) ?_
      refine z_if_eq 120 C dX11_goOn_90 rfl (fun hc => ?_) (fun hc => ?_)
      · replace h := z_it hc h
        refine z_iinc C dX11_goOn_120 (by decide) 5 rfl (z_incl zci_1) [(5, .int (v5 + 1)), (0, .ref (ad 0)), (1, .int v1), (2, .int v2), (3, .int v3), (4, .int v4)] rfl ?_
        refine z_goto 69 C dX11_goOn_123 rfl ?_
        refine z_loc [1, 2, 3, 4, 5, 0] rfl ?_
        exact ih v1 v2 v3 v4 (v5 + 1) g87 h
      · replace h := z_if hc h
        refine z_aload_n C dX11_goOn_93 rfl 0 rfl ?_
        refine z_getr C zf_X11_7 zo_M_2 dX11_goOn_94 ?_
        refine z_bipush C dX11_goOn_97 zcb_8 ?_
        refine z_iload C dX11_goOn_99 4 rfl ?_
        refine z_imul C dX11_goOn_101 ?_
        refine z_iload C dX11_goOn_102 5 rfl ?_
        refine z_iadd C dX11_goOn_104 ?_
        obtain ⟨hi105, h⟩ := z_g_some h
        refine z_iald C za_M_1 (z_in_vp hi105) dX11_goOn_105 ?_
        refine z_iload_n C dX11_goOn_106 rfl 2 rfl ?_
        refine z_icmp_ne 120 C dX11_goOn_107 rfl (fun hc => ?_) (fun hc => ?_)
        · replace h := z_it hc h
          refine z_aload_n C dX11_goOn_110 rfl 0 rfl ?_
          refine z_iload C dX11_goOn_111 4 rfl ?_
          refine z_iload C dX11_goOn_113 5 rfl ?_
          refine z_iconst C dX11_goOn_115 zci_1 ?_
          refine z_iadd C dX11_goOn_116 ?_
          obtain ⟨r117, g117, hq117, h⟩ := z_b_some h
          refine z_callVv [] C zc_X11_246 zk_M rfl (by decide) (Nat.le_of_ble_eq_true rfl) dX11_goOn_117 rfl (wX11_mark ad v4 (v5 + 1) g87 g117 hq117) ?_
          refine z_iinc C dX11_goOn_120 (by decide) 5 rfl (z_incl zci_1) [(5, .int (v5 + 1)), (0, .ref (ad 0)), (1, .int v1), (2, .int v2), (3, .int v3), (4, .int v4)] rfl ?_
          refine z_goto 69 C dX11_goOn_123 rfl ?_
          refine z_loc [1, 2, 3, 4, 5, 0] rfl ?_
          exact ih v1 v2 v3 v4 (v5 + 1) g117 h
        · replace h := z_if hc h
          refine z_iinc C dX11_goOn_120 (by decide) 5 rfl (z_incl zci_1) [(5, .int (v5 + 1)), (0, .ref (ad 0)), (1, .int v1), (2, .int v2), (3, .int v3), (4, .int v4)] rfl ?_
          refine z_goto 69 C dX11_goOn_123 rfl ?_
          refine z_loc [1, 2, 3, 4, 5, 0] rfl ?_
          exact ih v1 v2 v3 v4 (v5 + 1) g87 h
set_option maxRecDepth 100000 in
set_option maxHeartbeats 4000000 in
theorem wX11_goOn_L32 {F : z_F} {ad : Nat → Nat} {gE : z_S} (C : z_X F layM nM ad cX11_goOn RX11 6 none 1 25 none gE) : ∀ (n : Nat) (v1 : Int32) (v2 : Int32) (v3 : Int32) (v4 : Int32) (g : z_S), z_loop fX11_goOn_B32 n (v1, v2, v3, v4) g = some ((), gE) → z_W F layM nM ad 32 [(0, .ref (ad 0)), (1, .int v1), (2, .int v2), (3, .int v3), (4, .int v4)] [] g := by
  intro n
  induction n with
  | zero =>
    intro v1 v2 v3 v4 g h
    exact (z_loop_0 h).elim
  | succ n ih =>
    intro v1 v2 v3 v4 g h
    replace h := z_loop_S h
    simp only [fX11_goOn_B32] at h
    refine z_iload C dX11_goOn_32 4 rfl ?_
    refine z_aload_n C dX11_goOn_34 rfl 0 rfl ?_
    refine z_geti C zf_X11_135 zo_M_1 dX11_goOn_35 ?_
    refine z_icmp_ge 132 C dX11_goOn_38 rfl (fun hc => ?_) (fun hc => ?_)
    · replace h := z_it hc h
      exact z_vret C rfl (z_ret2 h) dX11_goOn_132
    · replace h := z_if hc h
      refine z_iload_n C dX11_goOn_41 rfl 3 rfl ?_
      refine z_if_eq 66 C dX11_goOn_42 rfl (fun hc => ?_) (fun hc => ?_)
      · replace h := z_it hc h
        refine z_iconst C dX11_goOn_66 zci_1 ?_
        refine z_istore C dX11_goOn_67 (by decide) [(5, .int 1), (0, .ref (ad 0)), (1, .int v1), (2, .int v2), (3, .int v3), (4, .int v4)] rfl ?_
        refine z_loc [1, 2, 3, 4, 5, 0] rfl ?_
        refine wX11_goOn_L69 C _ ?_ zN v1 v2 v3 v4 1 g h
        · intro v1 v2 v3 v4 g h
          refine z_iinc C dX11_goOn_126 (by decide) 4 rfl (z_incl zci_1) [(4, .int (v4 + 1)), (0, .ref (ad 0)), (1, .int v1), (2, .int v2), (3, .int v3)] rfl ?_
          refine z_goto 32 C dX11_goOn_129 rfl ?_
          refine z_loc [1, 2, 3, 4, 0] rfl ?_
          exact ih v1 v2 v3 (v4 + 1) g h
      · replace h := z_if hc h
        refine z_aload_n C dX11_goOn_45 rfl 0 rfl ?_
        refine z_getr C zf_X11_7 zo_M_2 dX11_goOn_46 ?_
        refine z_bipush C dX11_goOn_49 zcb_8 ?_
        refine z_iload C dX11_goOn_51 4 rfl ?_
        refine z_imul C dX11_goOn_53 ?_
        obtain ⟨hi54, h⟩ := z_g_some h
        refine z_iald C za_M_1 (z_in_vp hi54) dX11_goOn_54 ?_
        refine z_iload_n C dX11_goOn_55 rfl 2 rfl ?_
        refine z_icmp_ne 66 C dX11_goOn_56 rfl (fun hc => ?_) (fun hc => ?_)
        · replace h := z_it hc h
          refine z_aload_n C dX11_goOn_59 rfl 0 rfl ?_
          refine z_iload C dX11_goOn_60 4 rfl ?_
          refine z_iconst C dX11_goOn_62 zci_1 ?_
          obtain ⟨r63, g63, hq63, h⟩ := z_b_some h
          refine z_callVv [] C zc_X11_246 zk_M rfl (by decide) (Nat.le_of_ble_eq_true rfl) dX11_goOn_63 rfl (wX11_mark ad v4 1 g g63 hq63) ?_
          refine z_iconst C dX11_goOn_66 zci_1 ?_
          refine z_istore C dX11_goOn_67 (by decide) [(5, .int 1), (0, .ref (ad 0)), (1, .int v1), (2, .int v2), (3, .int v3), (4, .int v4)] rfl ?_
          refine z_loc [1, 2, 3, 4, 5, 0] rfl ?_
          refine wX11_goOn_L69 C _ ?_ zN v1 v2 v3 v4 1 g63 h
          · intro v1 v2 v3 v4 g h
            refine z_iinc C dX11_goOn_126 (by decide) 4 rfl (z_incl zci_1) [(4, .int (v4 + 1)), (0, .ref (ad 0)), (1, .int v1), (2, .int v2), (3, .int v3)] rfl ?_
            refine z_goto 32 C dX11_goOn_129 rfl ?_
            refine z_loc [1, 2, 3, 4, 0] rfl ?_
            exact ih v1 v2 v3 (v4 + 1) g h
        · replace h := z_if hc h
          refine z_iconst C dX11_goOn_66 zci_1 ?_
          refine z_istore C dX11_goOn_67 (by decide) [(5, .int 1), (0, .ref (ad 0)), (1, .int v1), (2, .int v2), (3, .int v3), (4, .int v4)] rfl ?_
          refine z_loc [1, 2, 3, 4, 5, 0] rfl ?_
          refine wX11_goOn_L69 C _ ?_ zN v1 v2 v3 v4 1 g h
          · intro v1 v2 v3 v4 g h
            refine z_iinc C dX11_goOn_126 (by decide) 4 rfl (z_incl zci_1) [(4, .int (v4 + 1)), (0, .ref (ad 0)), (1, .int v1), (2, .int v2), (3, .int v3)] rfl ?_
            refine z_goto 32 C dX11_goOn_129 rfl ?_
            refine z_loc [1, 2, 3, 4, 0] rfl ?_
            exact ih v1 v2 v3 (v4 + 1) g h
set_option maxRecDepth 100000 in
set_option maxHeartbeats 4000000 in
theorem wX11_goOn (ad : Nat → Nat) (v1 : Int32) (v2 : Int32) (g : z_S) (gE : z_S) (h : fX11_goOn v1 v2 g = some ((), gE)) : z_M yX11_goOn cX11_goOn 6 none 1 25 layM nM ad [.ref (ad 0), .int v1, .int v2] g none gE := by
  refine z_enter (by decide) (Nat.le_of_ble_eq_true rfl) (fun F C => ?_)
  replace C : z_X F layM nM ad cX11_goOn RX11 6 none 1 25 none gE := C
  show z_W F layM nM ad 0 [(0, .ref (ad 0)), (1, .int v1), (2, .int v2)] [] g
  unfold fX11_goOn at h
  refine z_aload_n C dX11_goOn_0 rfl 0 rfl ?_
  refine z_lconst C dX11_goOn_1 zcl_0 ?_
  obtain ⟨g2, eg2, h⟩ := z_s_some h
  refine z_putl C zp_X11_239 zo_M_35 dX11_goOn_2 ?_
  refine z_gw eg2 ?_
  refine z_aload_n C dX11_goOn_5 rfl 0 rfl ?_
  refine z_lconst C dX11_goOn_6 zcl_0 ?_
  obtain ⟨g7, eg7, h⟩ := z_s_some h
  refine z_putl C zp_X11_243 zo_M_36 dX11_goOn_7 ?_
  refine z_gw eg7 ?_
  refine z_aload_n C dX11_goOn_10 rfl 0 rfl ?_
  refine z_getr C zf_X11_76 zo_M_29 dX11_goOn_11 ?_
  refine z_iload_n C dX11_goOn_14 rfl 1 rfl ?_
  obtain ⟨hi15, h⟩ := z_g_some h
  refine z_lald C za_M_21 (z_in_vp hi15) dX11_goOn_15 ?_
  refine z_lconst C dX11_goOn_16 zcl_1 ?_
  refine z_land C dX11_goOn_17 ?_
  refine z_lconst C dX11_goOn_18 zcl_1 ?_
  refine z_lcmp_ne 27 C dX11_goOn_19 dX11_goOn_20 rfl (fun hc => ?_) (fun hc => ?_)
  · replace h := z_it hc h
    refine z_iconst C dX11_goOn_23 zci_1 ?_
    refine z_goto 28 C dX11_goOn_24 rfl ?_
    refine z_istore_n C dX11_goOn_28 rfl (by decide) [(3, .int 1), (0, .ref (ad 0)), (1, .int v1), (2, .int v2)] rfl ?_
    refine z_iconst C dX11_goOn_29 zci_0 ?_
    refine z_istore C dX11_goOn_30 (by decide) [(4, .int 0), (3, .int 1), (0, .ref (ad 0)), (1, .int v1), (2, .int v2)] rfl ?_
    refine z_loc [2, 3, 4, 1, 0] rfl ?_
    refine wX11_goOn_L32 C  zN v1 v2 1 0 g7 h
  · replace h := z_if hc h
    refine z_iconst C dX11_goOn_27 zci_0 ?_
    refine z_istore_n C dX11_goOn_28 rfl (by decide) [(3, .int 0), (0, .ref (ad 0)), (1, .int v1), (2, .int v2)] rfl ?_
    refine z_iconst C dX11_goOn_29 zci_0 ?_
    refine z_istore C dX11_goOn_30 (by decide) [(4, .int 0), (3, .int 0), (0, .ref (ad 0)), (1, .int v1), (2, .int v2)] rfl ?_
    refine z_loc [2, 3, 4, 1, 0] rfl ?_
    refine wX11_goOn_L32 C  zN v1 v2 0 0 g7 h
set_option maxRecDepth 100000 in
set_option maxHeartbeats 4000000 in
theorem wX11_layRow_L34 {F : z_F} {ad : Nat → Nat} {gE : z_S} (C : z_X F layM nM ad cX11_layRow RX11 5 none 0 0 none gE) : ∀ (n : Nat) (v3 : Int32) (v4 : Int32) (g : z_S), z_loop fX11_layRow_B34 n (v3, v4) g = some ((), gE) → z_W F layM nM ad 34 [(0, .ref (ad 0)), (3, .int v3), (4, .int v4)] [] g := by
  intro n
  induction n with
  | zero =>
    intro v3 v4 g h
    exact (z_loop_0 h).elim
  | succ n ih =>
    intro v3 v4 g h
    replace h := z_loop_S h
    simp only [fX11_layRow_B34] at h
    refine z_iload C dX11_layRow_34 2 rfl ?_
    refine z_if_lt 65 C dX11_layRow_36 rfl (fun hc => ?_) (fun hc => ?_)
    · replace h := z_it hc h
      exact z_vret C rfl (z_ret2 h) dX11_layRow_65
    · replace h := z_if hc h
      refine z_aload_n C dX11_layRow_39 rfl 0 rfl ?_
      refine z_getr C zf_X11_91 zo_M_37 dX11_layRow_40 ?_
      refine z_iload C dX11_layRow_43 2 rfl ?_
      refine z_aload_n C dX11_layRow_45 rfl 0 rfl ?_
      refine z_getr C zf_X11_85 zo_M_32 dX11_layRow_46 ?_
      refine z_iload_n C dX11_layRow_49 rfl 1 rfl ?_
      obtain ⟨hi50, h⟩ := z_g_some h
      refine z_iald C za_M_24 (z_in_vp hi50) dX11_layRow_50 ?_
      obtain ⟨hi51, h⟩ := z_g_some h
      obtain ⟨g51, eg51, h⟩ := z_s_some h
      refine z_iast C za_M_26 (z_in_vp hi51) dX11_layRow_51 ?_
      refine z_gw eg51 ?_
      refine z_aload_n C dX11_layRow_52 rfl 0 rfl ?_
      refine z_getr C zf_X11_82 zo_M_31 dX11_layRow_53 ?_
      refine z_iload_n C dX11_layRow_56 rfl 1 rfl ?_
      obtain ⟨hi57, h⟩ := z_g_some h
      refine z_iald C za_M_23 (z_in_vp hi57) dX11_layRow_57 ?_
      refine z_istore_n C dX11_layRow_58 rfl (by decide) [(3, .int (g51.1 23 (v3).toNatClampNeg)), (0, .ref (ad 0)), (4, .int v4)] rfl ?_
      refine z_iinc C dX11_layRow_59 (by decide) 2 rfl (z_incl zci_m1) [(4, .int (v4 + (-1))), (3, .int (g51.1 23 (v3).toNatClampNeg)), (0, .ref (ad 0))] rfl ?_
      refine z_goto 34 C dX11_layRow_62 rfl ?_
      refine z_loc [2, 1, 0] rfl ?_
      exact ih (g51.1 23 (v3).toNatClampNeg) (v4 + (-1)) g51 h
set_option maxRecDepth 100000 in
set_option maxHeartbeats 4000000 in
theorem wX11_layRow (ad : Nat → Nat) (v1 : Int32) (v2 : Int32) (g : z_S) (gE : z_S) (h : fX11_layRow v1 v2 g = some ((), gE)) : z_M yX11_layRow cX11_layRow 5 none 0 0 layM nM ad [.ref (ad 0), .int v1, .int v2] g none gE := by
  refine z_enter (by decide) (Nat.le_of_ble_eq_true rfl) (fun F C => ?_)
  replace C : z_X F layM nM ad cX11_layRow RX11 5 none 0 0 none gE := C
  show z_W F layM nM ad 0 [(0, .ref (ad 0)), (1, .int v1), (2, .int v2)] [] g
  unfold fX11_layRow at h
  refine z_aload_n C dX11_layRow_0 rfl 0 rfl ?_
  refine z_aload_n C dX11_layRow_1 rfl 0 rfl ?_
  refine z_getr C zf_X11_88 zo_M_33 dX11_layRow_2 ?_
  refine z_iload_n C dX11_layRow_5 rfl 1 rfl ?_
  obtain ⟨hi6, h⟩ := z_g_some h
  refine z_iald C za_M_25 (z_in_vp hi6) dX11_layRow_6 ?_
  refine z_iconst C dX11_layRow_7 zci_1 ?_
  refine z_iadd C dX11_layRow_8 ?_
  obtain ⟨g9, eg9, h⟩ := z_s_some h
  refine z_puti C zp_X11_260 zo_M_38 rfl rfl dX11_layRow_9 ?_
  refine z_gw eg9 ?_
  refine z_aload_n C dX11_layRow_12 rfl 0 rfl ?_
  refine z_getr C zf_X11_91 zo_M_37 dX11_layRow_13 ?_
  refine z_aload_n C dX11_layRow_16 rfl 0 rfl ?_
  refine z_geti C zf_X11_260 zo_M_38 dX11_layRow_17 ?_
  refine z_iconst C dX11_layRow_20 zci_1 ?_
  refine z_isub C dX11_layRow_21 ?_
  refine z_iload_n C dX11_layRow_22 rfl 2 rfl ?_
  obtain ⟨hi23, h⟩ := z_g_some h
  obtain ⟨g23, eg23, h⟩ := z_s_some h
  refine z_iast C za_M_26 (z_in_vp hi23) dX11_layRow_23 ?_
  refine z_gw eg23 ?_
  refine z_iload_n C dX11_layRow_24 rfl 1 rfl ?_
  refine z_istore_n C dX11_layRow_25 rfl (by decide) [(3, .int v1), (0, .ref (ad 0)), (1, .int v1), (2, .int v2)] rfl ?_
  refine z_aload_n C dX11_layRow_26 rfl 1 rfl ?_
  refine z_geti C zf_X11_260 zo_M_38 dX11_layRow_27 ?_
  refine z_iconst C dX11_layRow_30 zci_2 ?_
  refine z_isub C dX11_layRow_31 ?_
  refine z_istore C dX11_layRow_32 (by decide) [(4, .int ((g23.1 0 38) - 2)), (3, .int v1), (0, .ref (ad 0)), (1, .int v1), (2, .int v2)] rfl ?_
  refine z_loc [2, 1, 0] rfl ?_
  refine wX11_layRow_L34 C  zN v1 ((g23.1 0 38) - 2) g23 h

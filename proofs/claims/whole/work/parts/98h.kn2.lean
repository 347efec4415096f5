/-! key, strange, rows before the states of knowing are made -/
set_option maxRecDepth 100000 in
set_option maxHeartbeats 4000000 in
theorem nX10_partOfShortest_43_J29 {F : z_F} {ad : Nat → Nat} {r : Int32} {gE : z_S} (C : z_X F (layX false) (nX false) ad cX10_partOfShortest RX10 3 (some .int) 4 94 (some (.int r)) gE) (v2 : Int32) (g : z_S) (h : fX10_partOfShortest_43_J29 v2 g = some (r, gE)) : z_W F (layX false) (nX false) ad 29 [(1, .ref (ad 43)), (2, .int v2)] [] g := by
  unfold fX10_partOfShortest_43_J29 at h
  refine z_aload_n C dX10_partOfShortest_29 rfl 0 rfl ?_
  refine z_geti C zf_X10_253 (zo_X_43_2 false) dX10_partOfShortest_30 ?_
  refine z_sipush C dX10_partOfShortest_33 zcs_m1005 ?_
  refine z_icmp_ne 43 C dX10_partOfShortest_36 rfl (fun hc => ?_) (fun hc => ?_)
  · replace h := z_it hc h
    refine z_sipush C dX10_partOfShortest_39 zcs_m1005 ?_
    exact z_iret C (z_ret1i h) (z_ret2 h) dX10_partOfShortest_42
  · replace h := z_if hc h
    refine z_iload_n C dX10_partOfShortest_43 rfl 1 rfl ?_
    refine z_iconst C dX10_partOfShortest_44 zci_m1 ?_
    refine z_icmp_ne 53 C dX10_partOfShortest_45 rfl (fun hc => ?_) (fun hc => ?_)
    · replace h := z_it hc h
      refine z_aload_n C dX10_partOfShortest_48 rfl 0 rfl ?_
      refine z_geti C zf_X10_253 (zo_X_43_2 false) dX10_partOfShortest_49 ?_
      exact z_iret C (z_ret1i h) (z_ret2 h) dX10_partOfShortest_52
    · replace h := z_if hc h
      refine z_iload_n C dX10_partOfShortest_53 rfl 1 rfl ?_
      refine z_if_lt 74 C dX10_partOfShortest_54 rfl (fun hc => ?_) (fun hc => ?_)
      · replace h := z_it hc h
        refine z_iconst C dX10_partOfShortest_74 zci_m1 ?_
        exact z_iret C (z_ret1i h) (z_ret2 h) dX10_partOfShortest_75
      · replace h := z_if hc h
        refine z_iload_n C dX10_partOfShortest_57 rfl 1 rfl ?_
        refine z_aload_n C dX10_partOfShortest_58 rfl 0 rfl ?_
        refine z_geti C zf_X10_253 (zo_X_43_2 false) dX10_partOfShortest_59 ?_
        refine z_icmp_ge 74 C dX10_partOfShortest_62 rfl (fun hc => ?_) (fun hc => ?_)
        · replace h := z_it hc h
          refine z_iconst C dX10_partOfShortest_74 zci_m1 ?_
          exact z_iret C (z_ret1i h) (z_ret2 h) dX10_partOfShortest_75
        · replace h := z_if hc h
          refine z_aload_n C dX10_partOfShortest_65 rfl 0 rfl ?_
          refine z_getr C zf_X10_256 (zo_X_43_3 false) dX10_partOfShortest_66 ?_
          refine z_iload_n C dX10_partOfShortest_69 rfl 1 rfl ?_
          obtain ⟨hi70, h⟩ := z_g_some h
          refine z_iald C (za_X_44 false) (z_in_vp hi70) dX10_partOfShortest_70 ?_
          refine z_goto 75 C dX10_partOfShortest_71 rfl ?_
          exact z_iret C (z_ret1i h) (z_ret2 h) dX10_partOfShortest_75
set_option maxRecDepth 100000 in
set_option maxHeartbeats 4000000 in
theorem nX10_partOfShortest_43 (ad : Nat → Nat) (v2 : Int32) (g : z_S) (r : Int32) (gE : z_S) (hno : g.1 4 0 = 0 ∨ ¬ g.1 43 1 = 0) (h : fX10_partOfShortest_43 v2 g = some (r, gE)) : z_M yX10_partOfShortest cX10_partOfShortest 3 (some .int) 4 94 (layX false) (nX false) ad [.ref (ad 0), .ref (ad 43), .int v2] g (some (.int r)) gE := by
  refine z_enter (by decide) (Nat.le_of_ble_eq_true rfl) (fun F C => ?_)
  replace C : z_X F (layX false) (nX false) ad cX10_partOfShortest RX10 3 (some .int) 4 94 (some (.int r)) gE := C
  show z_W F (layX false) (nX false) ad 0 [(0, .ref (ad 0)), (1, .ref (ad 43)), (2, .int v2)] [] g
  unfold fX10_partOfShortest_43 at h
  refine z_aload_n C dX10_partOfShortest_0 rfl 0 rfl ?_
  refine z_getr C zf_X10_19 (zo_X_0_1 false) dX10_partOfShortest_1 ?_
  refine z_geti C zf_X10_89 (zo_X_4_0 false) dX10_partOfShortest_4 ?_
  refine z_if_ne 14 C dX10_partOfShortest_7 rfl (fun hc => ?_) (fun hc => ?_)
  · replace h := z_it hc h
    refine z_sipush C dX10_partOfShortest_10 zcs_m1003 ?_
    exact z_iret C (z_ret1i h) (z_ret2 h) dX10_partOfShortest_13
  · have hc1 := hc
    replace h := z_if hc h
    refine z_aload_n C dX10_partOfShortest_14 rfl 1 rfl ?_
    refine z_geti C zf_X10_237 (zo_X_43_1 false) dX10_partOfShortest_15 ?_
    refine z_if_ne 29 C dX10_partOfShortest_18 rfl (fun hc => ?_) (fun hc => ?_)
    · exact absurd hc (hno.resolve_left hc1)
    · replace h := z_if hc h
      refine z_loc [1, 2] rfl ?_
      exact nX10_partOfShortest_43_J29 C v2 g h
set_option maxRecDepth 100000 in
set_option maxHeartbeats 4000000 in
theorem nX10_key (ad : Nat → Nat) (v1 : Int32) (g : z_S) (r : Int32) (gE : z_S) (hno : g.1 4 0 = 0 ∨ ¬ g.1 43 1 = 0) (h : fX10_key v1 g = some (r, gE)) : z_M yX10_key cX10_key 2 (some .int) 5 116 (layX false) (nX false) ad [.ref (ad 0), .int v1] g (some (.int r)) gE := by
  refine z_enter (by decide) (Nat.le_of_ble_eq_true rfl) (fun F C => ?_)
  replace C : z_X F (layX false) (nX false) ad cX10_key RX10 2 (some .int) 5 116 (some (.int r)) gE := C
  show z_W F (layX false) (nX false) ad 0 [(0, .ref (ad 0)), (1, .int v1)] [] g
  unfold fX10_key at h
  refine z_aload_n C dX10_key_0 rfl 0 rfl ?_
  refine z_aload_n C dX10_key_1 rfl 0 rfl ?_
  refine z_getr C zf_X10_78 (zo_X_0_9 false) dX10_key_2 ?_
  refine z_iload_n C dX10_key_5 rfl 1 rfl ?_
  obtain ⟨r6, g6, hq6, h⟩ := z_b_some h
  refine z_callVi [] C zc_X10_172 (zk_X_0 false) rfl (by decide) (Nat.le_of_ble_eq_true rfl) dX10_key_6 rfl (nX10_partOfShortest_43 ad v1 g r6 g6 hno hq6) ?_
  exact z_iret C (z_ret1i h) (z_ret2 h) dX10_key_9
set_option maxRecDepth 100000 in
set_option maxHeartbeats 4000000 in
theorem tX10_43_J29 {F : z_F} {R0 : Room} {cy : Nat → ClassId} {kC kS mc ms : Nat} {B : Option Value → va_W → Prop} {ad : Nat → Nat} {r : Int32} {gE : z_S} (C : y_X F cX10_partOfShortest RX10 3 (some .int) R0 cy) (E : y_E F mc ms B) (q1 : kC ≤ mc) (q2 : kS ≤ ms) (hB : B (some (.int r)) (z_w (layX true) (nX true) ad cy gE)) (v2 : Int32) (g : z_S) (h : fX10_partOfShortest_43_J29 v2 g = some (r, gE)) : y_W F kC kS 29 [(1, .ref (ad 43)), (2, .int v2)] [] (z_w (layX true) (nX true) ad cy g) := by
  unfold fX10_partOfShortest_43_J29 at h
  refine y_aload_n C dX10_partOfShortest_29 rfl 0 rfl ?_
  refine y_getiz C zf_X10_253 (zo_X_43_2 true) dX10_partOfShortest_30 ?_
  refine y_sipush C dX10_partOfShortest_33 zcs_m1005 ?_
  refine y_icmp_ne 43 C dX10_partOfShortest_36 rfl (fun hc => ?_) (fun hc => ?_)
  · replace h := z_it hc h
    refine y_sipush C dX10_partOfShortest_39 zcs_m1005 ?_
    exact y_iret C E q1 q2 (y_rB h hB) dX10_partOfShortest_42
  · replace h := z_if hc h
    refine y_iload_n C dX10_partOfShortest_43 rfl 1 rfl ?_
    refine y_iconst C dX10_partOfShortest_44 zci_m1 ?_
    refine y_icmp_ne 53 C dX10_partOfShortest_45 rfl (fun hc => ?_) (fun hc => ?_)
    · replace h := z_it hc h
      refine y_aload_n C dX10_partOfShortest_48 rfl 0 rfl ?_
      refine y_getiz C zf_X10_253 (zo_X_43_2 true) dX10_partOfShortest_49 ?_
      exact y_iret C E q1 q2 (y_rB h hB) dX10_partOfShortest_52
    · replace h := z_if hc h
      refine y_iload_n C dX10_partOfShortest_53 rfl 1 rfl ?_
      refine y_if_lt 74 C dX10_partOfShortest_54 rfl (fun hc => ?_) (fun hc => ?_)
      · replace h := z_it hc h
        refine y_iconst C dX10_partOfShortest_74 zci_m1 ?_
        exact y_iret C E q1 q2 (y_rB h hB) dX10_partOfShortest_75
      · replace h := z_if hc h
        refine y_iload_n C dX10_partOfShortest_57 rfl 1 rfl ?_
        refine y_aload_n C dX10_partOfShortest_58 rfl 0 rfl ?_
        refine y_getiz C zf_X10_253 (zo_X_43_2 true) dX10_partOfShortest_59 ?_
        refine y_icmp_ge 74 C dX10_partOfShortest_62 rfl (fun hc => ?_) (fun hc => ?_)
        · replace h := z_it hc h
          refine y_iconst C dX10_partOfShortest_74 zci_m1 ?_
          exact y_iret C E q1 q2 (y_rB h hB) dX10_partOfShortest_75
        · replace h := z_if hc h
          refine y_aload_n C dX10_partOfShortest_65 rfl 0 rfl ?_
          refine y_getrz C zf_X10_256 (zo_X_43_3 true) dX10_partOfShortest_66 ?_
          refine y_iload_n C dX10_partOfShortest_69 rfl 1 rfl ?_
          obtain ⟨hi70, h⟩ := z_g_some h
          refine y_ialdz C (za_X_44 true) (z_in_vp hi70) dX10_partOfShortest_70 ?_
          refine y_goto 75 C dX10_partOfShortest_71 rfl ?_
          exact y_iret C E q1 q2 (y_rB h hB) dX10_partOfShortest_75
set_option maxRecDepth 100000 in
set_option maxHeartbeats 4000000 in
theorem pY_43 (ad : Nat → Nat) (v2 : Int32) (g : z_S) (r : Int32) (gE : z_S) (hz : gz g = g) (hc1 : ¬ g.1 4 0 = 0) (hc2 : g.1 43 1 = 0) (h : fX10_partOfShortest_43 v2 g = some (r, gE)) : y_M yX10_partOfShortest cX10_partOfShortest 3 (some .int) 4 94 14 15062 [.ref (ad 0), .ref (ad 43), .int v2] (fun cy => z_w (layX false) (nX false) ad cy g) (fun cy rv w => ∃ ad' : Nat → Nat, (∀ o, o < 47 → ad' o = ad o) ∧ rv = some (.int r) ∧ w = z_w (layX true) (nX true) ad' cy gE) := by
  refine y_enter rfl (Nat.le_of_ble_eq_true rfl) ?_
  intro F cy C hi0 E
  show y_W F 0 0 0 [(0, .ref (ad 0)), (1, .ref (ad 43)), (2, .int v2)] [] (z_w (layX false) (nX false) ad cy g)
  unfold fX10_partOfShortest_43 at h
  rw [if_neg hc1, if_pos hc2] at h
  refine y_aload_n C dX10_partOfShortest_0 rfl 0 rfl ?_
  refine y_getrz C zf_X10_19 (zo_X_0_1 false) dX10_partOfShortest_1 ?_
  refine y_getiz C zf_X10_89 (zo_X_4_0 false) dX10_partOfShortest_4 ?_
  refine y_if_ne 14 C dX10_partOfShortest_7 rfl (fun hc => absurd hc hc1) (fun _ => ?_)
  refine y_aload_n C dX10_partOfShortest_14 rfl 1 rfl ?_
  refine y_getiz C zf_X10_237 (zo_X_43_1 false) dX10_partOfShortest_15 ?_
  refine y_if_ne 29 C dX10_partOfShortest_18 rfl (fun _ => ?_) (fun hc => absurd hc2 hc)
  refine y_aload_n C dX10_partOfShortest_21 rfl 0 rfl ?_
  obtain ⟨r22, g22, hq22, h⟩ := z_b_some h
  unfold fX10_states at hq22
  cases hq22
  refine y_callV (ix := 0) (wr := []) (w0 := fun cy => z_w (layX false) (nX false) ad cy g) (As := []) (a := ad 0) (ci := 10) (fs := z_fs ad g 0 [(2, 1), (2, 4), (2, 9), (2, 11), (2, 13), (2, 19), (2, 23), (2, 26), (2, 42), (2, 43), (2, 45), (3, 0)]) [] C zc_X10_182 rfl rfl rfl ⟨by decide, by decide⟩ (Nat.le_of_ble_eq_true rfl) ⟨(Nat.le_of_ble_eq_true rfl), (Nat.le_of_ble_eq_true rfl)⟩ dX10_partOfShortest_22 rfl (List.append_nil _).symm (sY ad g hz) ?_
  rintro rv w ⟨ad', had, rfl, rfl⟩
  show y_W F 14 15062 25 [(0, .ref (ad 0)), (1, .ref (ad 43)), (2, .int v2)] [.ref (ad' 47)] (z_w (layX true) (nX true) ad' cy g)
  rw [← had 43 (by decide)]
  refine y_aload_n C dX10_partOfShortest_25 rfl 1 rfl ?_
  obtain ⟨r26, g26, hq26, h⟩ := z_b_some h
  refine y_callZ (wr := []) (ad := ad') (o := 47) (As := [.ref (ad' 43)]) [] C zc_X10_249 zk_K_47 rfl ⟨by decide, by decide⟩ (Nat.le_of_ble_eq_true rfl) ⟨(Nat.le_of_ble_eq_true rfl), (Nat.le_of_ble_eq_true rfl)⟩ dX10_partOfShortest_26 rfl (List.append_nil _).symm (wX1_search_43 ad' g g26 hq26) ?_
  refine y_loc [1, 2] rfl ?_
  exact tX10_43_J29 C E (Nat.le_of_ble_eq_true rfl) (Nat.le_of_ble_eq_true rfl) ⟨ad', had, rfl, rfl⟩ v2 g26 h
set_option maxRecDepth 100000 in
set_option maxHeartbeats 4000000 in
theorem kY_43 (ad : Nat → Nat) (v1 : Int32) (g : z_S) (r : Int32) (gE : z_S) (hz : gz g = g) (hc1 : ¬ g.1 4 0 = 0) (hc2 : g.1 43 1 = 0) (h : fX10_key v1 g = some (r, gE)) : y_M yX10_key cX10_key 2 (some .int) 5 116 14 15062 [.ref (ad 0), .int v1] (fun cy => z_w (layX false) (nX false) ad cy g) (fun cy rv w => ∃ ad' : Nat → Nat, (∀ o, o < 47 → ad' o = ad o) ∧ rv = some (.int r) ∧ w = z_w (layX true) (nX true) ad' cy gE) := by
  refine y_enter rfl (Nat.le_of_ble_eq_true rfl) ?_
  intro F cy C hi0 E
  show y_W F 0 0 0 [(0, .ref (ad 0)), (1, .int v1)] [] (z_w (layX false) (nX false) ad cy g)
  unfold fX10_key at h
  refine y_aload_n C dX10_key_0 rfl 0 rfl ?_
  refine y_aload_n C dX10_key_1 rfl 0 rfl ?_
  refine y_getrz C zf_X10_78 (zo_X_0_9 false) dX10_key_2 ?_
  refine y_iload_n C dX10_key_5 rfl 1 rfl ?_
  obtain ⟨r6, g6, hq6, h⟩ := z_b_some h
  cases h
  refine y_callV (ix := 0) (wr := []) (w0 := fun cy => z_w (layX false) (nX false) ad cy g) (As := [.ref (ad 43), .int v1]) (a := ad 0) (ci := 10) (fs := z_fs ad g 0 [(2, 1), (2, 4), (2, 9), (2, 11), (2, 13), (2, 19), (2, 23), (2, 26), (2, 42), (2, 43), (2, 45), (3, 0)]) [] C zc_X10_172 rfl rfl rfl ⟨by decide, by decide⟩ (Nat.le_of_ble_eq_true rfl) ⟨(Nat.le_of_ble_eq_true rfl), (Nat.le_of_ble_eq_true rfl)⟩ dX10_key_6 rfl (List.append_nil _).symm (pY_43 ad v1 g r gE hz hc1 hc2 hq6) ?_
  rintro rv w ⟨ad', had, rfl, rfl⟩
  exact y_iret C E (Nat.le_of_ble_eq_true rfl) (Nat.le_of_ble_eq_true rfl) ⟨ad', had, rfl, rfl⟩ dX10_key_9
set_option maxRecDepth 100000 in
set_option maxHeartbeats 4000000 in
theorem nX10_partOfShortest_45_J29 {F : z_F} {ad : Nat → Nat} {r : Int32} {gE : z_S} (C : z_X F (layX false) (nX false) ad cX10_partOfShortest RX10 3 (some .int) 4 94 (some (.int r)) gE) (v2 : Int32) (g : z_S) (h : fX10_partOfShortest_45_J29 v2 g = some (r, gE)) : z_W F (layX false) (nX false) ad 29 [(1, .ref (ad 45)), (2, .int v2)] [] g := by
  unfold fX10_partOfShortest_45_J29 at h
  refine z_aload_n C dX10_partOfShortest_29 rfl 0 rfl ?_
  refine z_geti C zf_X10_253 (zo_X_45_2 false) dX10_partOfShortest_30 ?_
  refine z_sipush C dX10_partOfShortest_33 zcs_m1005 ?_
  refine z_icmp_ne 43 C dX10_partOfShortest_36 rfl (fun hc => ?_) (fun hc => ?_)
  · replace h := z_it hc h
    refine z_sipush C dX10_partOfShortest_39 zcs_m1005 ?_
    exact z_iret C (z_ret1i h) (z_ret2 h) dX10_partOfShortest_42
  · replace h := z_if hc h
    refine z_iload_n C dX10_partOfShortest_43 rfl 1 rfl ?_
    refine z_iconst C dX10_partOfShortest_44 zci_m1 ?_
    refine z_icmp_ne 53 C dX10_partOfShortest_45 rfl (fun hc => ?_) (fun hc => ?_)
    · replace h := z_it hc h
      refine z_aload_n C dX10_partOfShortest_48 rfl 0 rfl ?_
      refine z_geti C zf_X10_253 (zo_X_45_2 false) dX10_partOfShortest_49 ?_
      exact z_iret C (z_ret1i h) (z_ret2 h) dX10_partOfShortest_52
    · replace h := z_if hc h
      refine z_iload_n C dX10_partOfShortest_53 rfl 1 rfl ?_
      refine z_if_lt 74 C dX10_partOfShortest_54 rfl (fun hc => ?_) (fun hc => ?_)
      · replace h := z_it hc h
        refine z_iconst C dX10_partOfShortest_74 zci_m1 ?_
        exact z_iret C (z_ret1i h) (z_ret2 h) dX10_partOfShortest_75
      · replace h := z_if hc h
        refine z_iload_n C dX10_partOfShortest_57 rfl 1 rfl ?_
        refine z_aload_n C dX10_partOfShortest_58 rfl 0 rfl ?_
        refine z_geti C zf_X10_253 (zo_X_45_2 false) dX10_partOfShortest_59 ?_
        refine z_icmp_ge 74 C dX10_partOfShortest_62 rfl (fun hc => ?_) (fun hc => ?_)
        · replace h := z_it hc h
          refine z_iconst C dX10_partOfShortest_74 zci_m1 ?_
          exact z_iret C (z_ret1i h) (z_ret2 h) dX10_partOfShortest_75
        · replace h := z_if hc h
          refine z_aload_n C dX10_partOfShortest_65 rfl 0 rfl ?_
          refine z_getr C zf_X10_256 (zo_X_45_3 false) dX10_partOfShortest_66 ?_
          refine z_iload_n C dX10_partOfShortest_69 rfl 1 rfl ?_
          obtain ⟨hi70, h⟩ := z_g_some h
          refine z_iald C (za_X_46 false) (z_in_vp hi70) dX10_partOfShortest_70 ?_
          refine z_goto 75 C dX10_partOfShortest_71 rfl ?_
          exact z_iret C (z_ret1i h) (z_ret2 h) dX10_partOfShortest_75
set_option maxRecDepth 100000 in
set_option maxHeartbeats 4000000 in
theorem nX10_partOfShortest_45 (ad : Nat → Nat) (v2 : Int32) (g : z_S) (r : Int32) (gE : z_S) (hno : g.1 4 0 = 0 ∨ ¬ g.1 45 1 = 0) (h : fX10_partOfShortest_45 v2 g = some (r, gE)) : z_M yX10_partOfShortest cX10_partOfShortest 3 (some .int) 4 94 (layX false) (nX false) ad [.ref (ad 0), .ref (ad 45), .int v2] g (some (.int r)) gE := by
  refine z_enter (by decide) (Nat.le_of_ble_eq_true rfl) (fun F C => ?_)
  replace C : z_X F (layX false) (nX false) ad cX10_partOfShortest RX10 3 (some .int) 4 94 (some (.int r)) gE := C
  show z_W F (layX false) (nX false) ad 0 [(0, .ref (ad 0)), (1, .ref (ad 45)), (2, .int v2)] [] g
  unfold fX10_partOfShortest_45 at h
  refine z_aload_n C dX10_partOfShortest_0 rfl 0 rfl ?_
  refine z_getr C zf_X10_19 (zo_X_0_1 false) dX10_partOfShortest_1 ?_
  refine z_geti C zf_X10_89 (zo_X_4_0 false) dX10_partOfShortest_4 ?_
  refine z_if_ne 14 C dX10_partOfShortest_7 rfl (fun hc => ?_) (fun hc => ?_)
  · replace h := z_it hc h
    refine z_sipush C dX10_partOfShortest_10 zcs_m1003 ?_
    exact z_iret C (z_ret1i h) (z_ret2 h) dX10_partOfShortest_13
  · have hc1 := hc
    replace h := z_if hc h
    refine z_aload_n C dX10_partOfShortest_14 rfl 1 rfl ?_
    refine z_geti C zf_X10_237 (zo_X_45_1 false) dX10_partOfShortest_15 ?_
    refine z_if_ne 29 C dX10_partOfShortest_18 rfl (fun hc => ?_) (fun hc => ?_)
    · exact absurd hc (hno.resolve_left hc1)
    · replace h := z_if hc h
      refine z_loc [1, 2] rfl ?_
      exact nX10_partOfShortest_45_J29 C v2 g h
set_option maxRecDepth 100000 in
set_option maxHeartbeats 4000000 in
theorem nX10_strange (ad : Nat → Nat) (v1 : Int32) (g : z_S) (r : Int32) (gE : z_S) (hno : g.1 4 0 = 0 ∨ ¬ g.1 45 1 = 0) (h : fX10_strange v1 g = some (r, gE)) : z_M yX10_strange cX10_strange 2 (some .int) 5 116 (layX false) (nX false) ad [.ref (ad 0), .int v1] g (some (.int r)) gE := by
  refine z_enter (by decide) (Nat.le_of_ble_eq_true rfl) (fun F C => ?_)
  replace C : z_X F (layX false) (nX false) ad cX10_strange RX10 2 (some .int) 5 116 (some (.int r)) gE := C
  show z_W F (layX false) (nX false) ad 0 [(0, .ref (ad 0)), (1, .int v1)] [] g
  unfold fX10_strange at h
  refine z_aload_n C dX10_strange_0 rfl 0 rfl ?_
  refine z_aload_n C dX10_strange_1 rfl 0 rfl ?_
  refine z_getr C zf_X10_82 (zo_X_0_10 false) dX10_strange_2 ?_
  refine z_iload_n C dX10_strange_5 rfl 1 rfl ?_
  obtain ⟨r6, g6, hq6, h⟩ := z_b_some h
  refine z_callVi [] C zc_X10_172 (zk_X_0 false) rfl (by decide) (Nat.le_of_ble_eq_true rfl) dX10_strange_6 rfl (nX10_partOfShortest_45 ad v1 g r6 g6 hno hq6) ?_
  exact z_iret C (z_ret1i h) (z_ret2 h) dX10_strange_9
set_option maxRecDepth 100000 in
set_option maxHeartbeats 4000000 in
theorem tX10_45_J29 {F : z_F} {R0 : Room} {cy : Nat → ClassId} {kC kS mc ms : Nat} {B : Option Value → va_W → Prop} {ad : Nat → Nat} {r : Int32} {gE : z_S} (C : y_X F cX10_partOfShortest RX10 3 (some .int) R0 cy) (E : y_E F mc ms B) (q1 : kC ≤ mc) (q2 : kS ≤ ms) (hB : B (some (.int r)) (z_w (layX true) (nX true) ad cy gE)) (v2 : Int32) (g : z_S) (h : fX10_partOfShortest_45_J29 v2 g = some (r, gE)) : y_W F kC kS 29 [(1, .ref (ad 45)), (2, .int v2)] [] (z_w (layX true) (nX true) ad cy g) := by
  unfold fX10_partOfShortest_45_J29 at h
  refine y_aload_n C dX10_partOfShortest_29 rfl 0 rfl ?_
  refine y_getiz C zf_X10_253 (zo_X_45_2 true) dX10_partOfShortest_30 ?_
  refine y_sipush C dX10_partOfShortest_33 zcs_m1005 ?_
  refine y_icmp_ne 43 C dX10_partOfShortest_36 rfl (fun hc => ?_) (fun hc => ?_)
  · replace h := z_it hc h
    refine y_sipush C dX10_partOfShortest_39 zcs_m1005 ?_
    exact y_iret C E q1 q2 (y_rB h hB) dX10_partOfShortest_42
  · replace h := z_if hc h
    refine y_iload_n C dX10_partOfShortest_43 rfl 1 rfl ?_
    refine y_iconst C dX10_partOfShortest_44 zci_m1 ?_
    refine y_icmp_ne 53 C dX10_partOfShortest_45 rfl (fun hc => ?_) (fun hc => ?_)
    · replace h := z_it hc h
      refine y_aload_n C dX10_partOfShortest_48 rfl 0 rfl ?_
      refine y_getiz C zf_X10_253 (zo_X_45_2 true) dX10_partOfShortest_49 ?_
      exact y_iret C E q1 q2 (y_rB h hB) dX10_partOfShortest_52
    · replace h := z_if hc h
      refine y_iload_n C dX10_partOfShortest_53 rfl 1 rfl ?_
      refine y_if_lt 74 C dX10_partOfShortest_54 rfl (fun hc => ?_) (fun hc => ?_)
      · replace h := z_it hc h
        refine y_iconst C dX10_partOfShortest_74 zci_m1 ?_
        exact y_iret C E q1 q2 (y_rB h hB) dX10_partOfShortest_75
      · replace h := z_if hc h
        refine y_iload_n C dX10_partOfShortest_57 rfl 1 rfl ?_
        refine y_aload_n C dX10_partOfShortest_58 rfl 0 rfl ?_
        refine y_getiz C zf_X10_253 (zo_X_45_2 true) dX10_partOfShortest_59 ?_
        refine y_icmp_ge 74 C dX10_partOfShortest_62 rfl (fun hc => ?_) (fun hc => ?_)
        · replace h := z_it hc h
          refine y_iconst C dX10_partOfShortest_74 zci_m1 ?_
          exact y_iret C E q1 q2 (y_rB h hB) dX10_partOfShortest_75
        · replace h := z_if hc h
          refine y_aload_n C dX10_partOfShortest_65 rfl 0 rfl ?_
          refine y_getrz C zf_X10_256 (zo_X_45_3 true) dX10_partOfShortest_66 ?_
          refine y_iload_n C dX10_partOfShortest_69 rfl 1 rfl ?_
          obtain ⟨hi70, h⟩ := z_g_some h
          refine y_ialdz C (za_X_46 true) (z_in_vp hi70) dX10_partOfShortest_70 ?_
          refine y_goto 75 C dX10_partOfShortest_71 rfl ?_
          exact y_iret C E q1 q2 (y_rB h hB) dX10_partOfShortest_75
set_option maxRecDepth 100000 in
set_option maxHeartbeats 4000000 in
theorem pY_45 (ad : Nat → Nat) (v2 : Int32) (g : z_S) (r : Int32) (gE : z_S) (hz : gz g = g) (hc1 : ¬ g.1 4 0 = 0) (hc2 : g.1 45 1 = 0) (h : fX10_partOfShortest_45 v2 g = some (r, gE)) : y_M yX10_partOfShortest cX10_partOfShortest 3 (some .int) 4 94 14 15062 [.ref (ad 0), .ref (ad 45), .int v2] (fun cy => z_w (layX false) (nX false) ad cy g) (fun cy rv w => ∃ ad' : Nat → Nat, (∀ o, o < 47 → ad' o = ad o) ∧ rv = some (.int r) ∧ w = z_w (layX true) (nX true) ad' cy gE) := by
  refine y_enter rfl (Nat.le_of_ble_eq_true rfl) ?_
  intro F cy C hi0 E
  show y_W F 0 0 0 [(0, .ref (ad 0)), (1, .ref (ad 45)), (2, .int v2)] [] (z_w (layX false) (nX false) ad cy g)
  unfold fX10_partOfShortest_45 at h
  rw [if_neg hc1, if_pos hc2] at h
  refine y_aload_n C dX10_partOfShortest_0 rfl 0 rfl ?_
  refine y_getrz C zf_X10_19 (zo_X_0_1 false) dX10_partOfShortest_1 ?_
  refine y_getiz C zf_X10_89 (zo_X_4_0 false) dX10_partOfShortest_4 ?_
  refine y_if_ne 14 C dX10_partOfShortest_7 rfl (fun hc => absurd hc hc1) (fun _ => ?_)
  refine y_aload_n C dX10_partOfShortest_14 rfl 1 rfl ?_
  refine y_getiz C zf_X10_237 (zo_X_45_1 false) dX10_partOfShortest_15 ?_
  refine y_if_ne 29 C dX10_partOfShortest_18 rfl (fun _ => ?_) (fun hc => absurd hc2 hc)
  refine y_aload_n C dX10_partOfShortest_21 rfl 0 rfl ?_
  obtain ⟨r22, g22, hq22, h⟩ := z_b_some h
  unfold fX10_states at hq22
  cases hq22
  refine y_callV (ix := 0) (wr := []) (w0 := fun cy => z_w (layX false) (nX false) ad cy g) (As := []) (a := ad 0) (ci := 10) (fs := z_fs ad g 0 [(2, 1), (2, 4), (2, 9), (2, 11), (2, 13), (2, 19), (2, 23), (2, 26), (2, 42), (2, 43), (2, 45), (3, 0)]) [] C zc_X10_182 rfl rfl rfl ⟨by decide, by decide⟩ (Nat.le_of_ble_eq_true rfl) ⟨(Nat.le_of_ble_eq_true rfl), (Nat.le_of_ble_eq_true rfl)⟩ dX10_partOfShortest_22 rfl (List.append_nil _).symm (sY ad g hz) ?_
  rintro rv w ⟨ad', had, rfl, rfl⟩
  show y_W F 14 15062 25 [(0, .ref (ad 0)), (1, .ref (ad 45)), (2, .int v2)] [.ref (ad' 47)] (z_w (layX true) (nX true) ad' cy g)
  rw [← had 45 (by decide)]
  refine y_aload_n C dX10_partOfShortest_25 rfl 1 rfl ?_
  obtain ⟨r26, g26, hq26, h⟩ := z_b_some h
  refine y_callZ (wr := []) (ad := ad') (o := 47) (As := [.ref (ad' 45)]) [] C zc_X10_249 zk_K_47 rfl ⟨by decide, by decide⟩ (Nat.le_of_ble_eq_true rfl) ⟨(Nat.le_of_ble_eq_true rfl), (Nat.le_of_ble_eq_true rfl)⟩ dX10_partOfShortest_26 rfl (List.append_nil _).symm (wX1_search_45 ad' g g26 hq26) ?_
  refine y_loc [1, 2] rfl ?_
  exact tX10_45_J29 C E (Nat.le_of_ble_eq_true rfl) (Nat.le_of_ble_eq_true rfl) ⟨ad', had, rfl, rfl⟩ v2 g26 h
set_option maxRecDepth 100000 in
set_option maxHeartbeats 4000000 in
theorem kY_45 (ad : Nat → Nat) (v1 : Int32) (g : z_S) (r : Int32) (gE : z_S) (hz : gz g = g) (hc1 : ¬ g.1 4 0 = 0) (hc2 : g.1 45 1 = 0) (h : fX10_strange v1 g = some (r, gE)) : y_M yX10_strange cX10_strange 2 (some .int) 5 116 14 15062 [.ref (ad 0), .int v1] (fun cy => z_w (layX false) (nX false) ad cy g) (fun cy rv w => ∃ ad' : Nat → Nat, (∀ o, o < 47 → ad' o = ad o) ∧ rv = some (.int r) ∧ w = z_w (layX true) (nX true) ad' cy gE) := by
  refine y_enter rfl (Nat.le_of_ble_eq_true rfl) ?_
  intro F cy C hi0 E
  show y_W F 0 0 0 [(0, .ref (ad 0)), (1, .int v1)] [] (z_w (layX false) (nX false) ad cy g)
  unfold fX10_strange at h
  refine y_aload_n C dX10_strange_0 rfl 0 rfl ?_
  refine y_aload_n C dX10_strange_1 rfl 0 rfl ?_
  refine y_getrz C zf_X10_82 (zo_X_0_10 false) dX10_strange_2 ?_
  refine y_iload_n C dX10_strange_5 rfl 1 rfl ?_
  obtain ⟨r6, g6, hq6, h⟩ := z_b_some h
  cases h
  refine y_callV (ix := 0) (wr := []) (w0 := fun cy => z_w (layX false) (nX false) ad cy g) (As := [.ref (ad 45), .int v1]) (a := ad 0) (ci := 10) (fs := z_fs ad g 0 [(2, 1), (2, 4), (2, 9), (2, 11), (2, 13), (2, 19), (2, 23), (2, 26), (2, 42), (2, 43), (2, 45), (3, 0)]) [] C zc_X10_172 rfl rfl rfl ⟨by decide, by decide⟩ (Nat.le_of_ble_eq_true rfl) ⟨(Nat.le_of_ble_eq_true rfl), (Nat.le_of_ble_eq_true rfl)⟩ dX10_strange_6 rfl (List.append_nil _).symm (pY_45 ad v1 g r gE hz hc1 hc2 hq6) ?_
  rintro rv w ⟨ad', had, rfl, rfl⟩
  exact y_iret C E (Nat.le_of_ble_eq_true rfl) (Nat.le_of_ble_eq_true rfl) ⟨ad', had, rfl, rfl⟩ dX10_strange_9
set_option maxRecDepth 100000 in
set_option maxHeartbeats 4000000 in
theorem nX10_rows (ad : Nat → Nat) (v1 : Int32) (g : z_S) (r : Int64) (gE : z_S) (hno : v1 < 0 ∨ ¬ v1 ≤ 20 ∨ g.1 4 0 = 0) (h : fX10_rows v1 g = some (r, gE)) : z_M yX10_rows cX10_rows 4 (some .long) 4 92 (layX false) (nX false) ad [.ref (ad 0), .int v1] g (some (.long r)) gE := by
  refine z_enter (by decide) (Nat.le_of_ble_eq_true rfl) (fun F C => ?_)
  replace C : z_X F (layX false) (nX false) ad cX10_rows RX10 4 (some .long) 4 92 (some (.long r)) gE := C
  show z_W F (layX false) (nX false) ad 0 [(0, .ref (ad 0)), (1, .int v1)] [] g
  unfold fX10_rows at h
  refine z_iload_n C dX10_rows_0 rfl 1 rfl ?_
  refine z_if_lt 10 C dX10_rows_1 rfl (fun hc => ?_) (fun hc => ?_)
  · replace h := z_it hc h
    refine z_ldc2 C dX10_rows_10 zl_X10_176 ?_
    exact z_lret C (z_ret1l h) (z_ret2 h) dX10_rows_13
  · have hc1 := hc
    replace h := z_if hc h
    refine z_iload_n C dX10_rows_4 rfl 1 rfl ?_
    refine z_bipush C dX10_rows_5 zcb_20 ?_
    refine z_icmp_le 14 C dX10_rows_7 rfl (fun hc => ?_) (fun hc => ?_)
    · have hc2 := hc
      replace h := z_it hc h
      refine z_aload_n C dX10_rows_14 rfl 0 rfl ?_
      refine z_getr C zf_X10_19 (zo_X_0_1 false) dX10_rows_15 ?_
      refine z_geti C zf_X10_89 (zo_X_4_0 false) dX10_rows_18 ?_
      refine z_if_ne 34 C dX10_rows_21 rfl (fun hc => ?_) (fun hc => ?_)
      · replace h := z_it hc h
        refine z_iload_n C dX10_rows_24 rfl 1 rfl ?_
        refine z_if_ne 32 C dX10_rows_25 rfl (fun hc => ?_) (fun hc => ?_)
        · replace h := z_it hc h
          refine z_lconst C dX10_rows_28 zcl_1 ?_
          refine z_goto 33 C dX10_rows_29 rfl ?_
          exact z_lret C (z_ret1l h) (z_ret2 h) dX10_rows_33
        · replace h := z_if hc h
          refine z_lconst C dX10_rows_32 zcl_0 ?_
          exact z_lret C (z_ret1l h) (z_ret2 h) dX10_rows_33
      · rcases hno with q | q | q
        · exact absurd q hc1
        · exact absurd hc2 q
        · exact absurd q hc
    · replace h := z_if hc h
      refine z_ldc2 C dX10_rows_10 zl_X10_176 ?_
      exact z_lret C (z_ret1l h) (z_ret2 h) dX10_rows_13
set_option maxRecDepth 100000 in
set_option maxHeartbeats 4000000 in
theorem rY (ad : Nat → Nat) (v1 : Int32) (g : z_S) (r : Int64) (gE : z_S) (hz : gz g = g) (h1 : ¬ v1 < 0) (h2 : v1 ≤ 20) (hc1 : ¬ g.1 4 0 = 0) (h : fX10_rows v1 g = some (r, gE)) : y_M yX10_rows cX10_rows 4 (some .long) 4 92 14 15062 [.ref (ad 0), .int v1] (fun cy => z_w (layX false) (nX false) ad cy g) (fun cy rv w => ∃ ad' : Nat → Nat, (∀ o, o < 47 → ad' o = ad o) ∧ rv = some (.long r) ∧ w = z_w (layX true) (nX true) ad' cy gE) := by
  refine y_enter rfl (Nat.le_of_ble_eq_true rfl) ?_
  intro F cy C hi0 E
  show y_W F 0 0 0 [(0, .ref (ad 0)), (1, .int v1)] [] (z_w (layX false) (nX false) ad cy g)
  unfold fX10_rows at h
  rw [if_neg h1, if_pos h2, if_neg hc1] at h
  refine y_iload_n C dX10_rows_0 rfl 1 rfl ?_
  refine y_if_lt 10 C dX10_rows_1 rfl (fun hc => absurd hc h1) (fun _ => ?_)
  refine y_iload_n C dX10_rows_4 rfl 1 rfl ?_
  refine y_bipush C dX10_rows_5 zcb_20 ?_
  refine y_icmp_le 14 C dX10_rows_7 rfl (fun _ => ?_) (fun hc => absurd h2 hc)
  refine y_aload_n C dX10_rows_14 rfl 0 rfl ?_
  refine y_getrz C zf_X10_19 (zo_X_0_1 false) dX10_rows_15 ?_
  refine y_getiz C zf_X10_89 (zo_X_4_0 false) dX10_rows_18 ?_
  refine y_if_ne 34 C dX10_rows_21 rfl (fun hc => absurd hc hc1) (fun _ => ?_)
  refine y_aload_n C dX10_rows_34 rfl 0 rfl ?_
  obtain ⟨r35, g35, hq35, h⟩ := z_b_some h
  unfold fX10_states at hq35
  cases hq35
  refine y_callV (ix := 0) (wr := []) (w0 := fun cy => z_w (layX false) (nX false) ad cy g) (As := []) (a := ad 0) (ci := 10) (fs := z_fs ad g 0 [(2, 1), (2, 4), (2, 9), (2, 11), (2, 13), (2, 19), (2, 23), (2, 26), (2, 42), (2, 43), (2, 45), (3, 0)]) [] C zc_X10_182 rfl rfl rfl ⟨by decide, by decide⟩ (Nat.le_of_ble_eq_true rfl) ⟨(Nat.le_of_ble_eq_true rfl), (Nat.le_of_ble_eq_true rfl)⟩ dX10_rows_35 rfl (List.append_nil _).symm (sY ad g hz) ?_
  rintro rv w ⟨ad', had, rfl, rfl⟩
  show y_W F 14 15062 38 [(0, .ref (ad 0)), (1, .int v1)] [.ref (ad' 47)] (z_w (layX true) (nX true) ad' cy g)
  refine y_iload_n C dX10_rows_38 rfl 1 rfl ?_
  obtain ⟨r39, g39, hq39, h⟩ := z_b_some h
  refine y_callZ (wr := []) (ad := ad') (o := 47) (As := [.int v1]) [] C zc_X10_186 zk_K_47 rfl ⟨by decide, by decide⟩ (Nat.le_of_ble_eq_true rfl) ⟨(Nat.le_of_ble_eq_true rfl), (Nat.le_of_ble_eq_true rfl)⟩ dX10_rows_39 rfl (List.append_nil _).symm (wX1_countRows ad' v1 g r39 g39 hq39) ?_
  refine y_lstore_n C dX10_rows_42 rfl (by decide) [(2, .long r39), (0, .ref (ad 0)), (1, .int v1)] rfl ?_
  refine y_lload_n C dX10_rows_43 rfl 0 rfl ?_
  refine y_ldc2 C dX10_rows_44 zl_X10_148 ?_
  refine y_lcmp_le 57 C dX10_rows_47 dX10_rows_48 rfl (fun hc => ?_) (fun hc => ?_)
  · replace h := z_it hc h
    refine y_lload_n C dX10_rows_57 rfl 0 rfl ?_
    cases h
    exact y_lret C E (Nat.le_of_ble_eq_true rfl) (Nat.le_of_ble_eq_true rfl) ⟨ad', had, rfl, rfl⟩ dX10_rows_58
  · replace h := z_if hc h
    refine y_ldc2 C dX10_rows_51 zl_X10_150 ?_
    refine y_goto 58 C dX10_rows_54 rfl ?_
    cases h
    exact y_lret C E (Nat.le_of_ble_eq_true rfl) (Nat.le_of_ble_eq_true rfl) ⟨ad', had, rfl, rfl⟩ dX10_rows_58

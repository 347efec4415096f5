/-! the makers of the class, printed by wip/gen/mk_makers.py -/
set_option maxHeartbeats 4000000 in
set_option maxRecDepth 100000 in
theorem mX9_init (h0 : Nat) : y_M yX9_init cX9_init 1 none 1 12 4 176 [.ref h0] (fun _ => [(h0, .inr (9, [.int 0, .null, .null, .null, .null]))]) (fun cy rv w => rv = none ∧ ∃ q0 q1 q2 q3 : Nat, w = [(h0, .inr (9, [.int 0, .ref q0, .ref q1, .ref q2, .ref q3])), (q0, .inl (cy 0, 128, .inl (fun _ => 0))), (q1, .inl (cy 0, 16, .inl (fun _ => 0))), (q2, .inl (cy 0, 16, .inl (fun _ => 0))), (q3, .inl (cy 0, 16, .inl (fun _ => 0)))]) := by
  refine y_enter rfl (Nat.le_of_ble_eq_true rfl) ?_
  intro F cy C hi0 E
  have hi := hi0 rfl
  show y_W F 0 0 0 [(0, .ref h0)] [] [(h0, .inr (9, [.int 0, .null, .null, .null, .null]))]
  refine y_aload_n C dX9_init_0 rfl 0 rfl ?_
  refine y_obj C yo_X9 yo_i yo_c (by decide) (Nat.le_of_ble_eq_true rfl) dX9_init_1 ?_
  refine y_aload_n C dX9_init_4 rfl 0 rfl ?_
  refine y_sipush (v := 128) C dX9_init_5 (by decide) ?_
  refine y_newi (M := 128) C ya_int (by decide) (by decide) (by decide) (Nat.le_of_ble_eq_true rfl) (Nat.le_of_ble_eq_true rfl) dX9_init_8 (fun q0 => ?_)
  show y_W F 1 128 10 [(0, .ref h0)] [.ref q0, .ref h0] [(h0, .inr (9, [.int 0, .null, .null, .null, .null])), (q0, .inl (cy 0, 128, .inl (fun _ => 0)))]
  refine y_putF C hi yf_X9_9 (o := 0) rfl (Nat.le_of_ble_eq_true rfl) rfl rfl dX9_init_10 ?_
  show y_W F 1 128 13 [(0, .ref h0)] [] [(h0, .inr (9, [.int 0, .ref q0, .null, .null, .null])), (q0, .inl (cy 0, 128, .inl (fun _ => 0)))]
  refine y_aload_n C dX9_init_13 rfl 0 rfl ?_
  refine y_bipush (v := 16) C dX9_init_14 (by decide) ?_
  refine y_newi (M := 16) C ya_int (by decide) (by decide) (by decide) (Nat.le_of_ble_eq_true rfl) (Nat.le_of_ble_eq_true rfl) dX9_init_16 (fun q1 => ?_)
  show y_W F 2 144 18 [(0, .ref h0)] [.ref q1, .ref h0] [(h0, .inr (9, [.int 0, .ref q0, .null, .null, .null])), (q0, .inl (cy 0, 128, .inl (fun _ => 0))), (q1, .inl (cy 0, 16, .inl (fun _ => 0)))]
  refine y_putF C hi yf_X9_15 (o := 0) rfl (Nat.le_of_ble_eq_true rfl) rfl rfl dX9_init_18 ?_
  show y_W F 2 144 21 [(0, .ref h0)] [] [(h0, .inr (9, [.int 0, .ref q0, .ref q1, .null, .null])), (q0, .inl (cy 0, 128, .inl (fun _ => 0))), (q1, .inl (cy 0, 16, .inl (fun _ => 0)))]
  refine y_aload_n C dX9_init_21 rfl 0 rfl ?_
  refine y_bipush (v := 16) C dX9_init_22 (by decide) ?_
  refine y_newi (M := 16) C ya_int (by decide) (by decide) (by decide) (Nat.le_of_ble_eq_true rfl) (Nat.le_of_ble_eq_true rfl) dX9_init_24 (fun q2 => ?_)
  show y_W F 3 160 26 [(0, .ref h0)] [.ref q2, .ref h0] [(h0, .inr (9, [.int 0, .ref q0, .ref q1, .null, .null])), (q0, .inl (cy 0, 128, .inl (fun _ => 0))), (q1, .inl (cy 0, 16, .inl (fun _ => 0))), (q2, .inl (cy 0, 16, .inl (fun _ => 0)))]
  refine y_putF C hi yf_X9_18 (o := 0) rfl (Nat.le_of_ble_eq_true rfl) rfl rfl dX9_init_26 ?_
  show y_W F 3 160 29 [(0, .ref h0)] [] [(h0, .inr (9, [.int 0, .ref q0, .ref q1, .ref q2, .null])), (q0, .inl (cy 0, 128, .inl (fun _ => 0))), (q1, .inl (cy 0, 16, .inl (fun _ => 0))), (q2, .inl (cy 0, 16, .inl (fun _ => 0)))]
  refine y_aload_n C dX9_init_29 rfl 0 rfl ?_
  refine y_bipush (v := 16) C dX9_init_30 (by decide) ?_
  refine y_newi (M := 16) C ya_int (by decide) (by decide) (by decide) (Nat.le_of_ble_eq_true rfl) (Nat.le_of_ble_eq_true rfl) dX9_init_32 (fun q3 => ?_)
  show y_W F 4 176 34 [(0, .ref h0)] [.ref q3, .ref h0] [(h0, .inr (9, [.int 0, .ref q0, .ref q1, .ref q2, .null])), (q0, .inl (cy 0, 128, .inl (fun _ => 0))), (q1, .inl (cy 0, 16, .inl (fun _ => 0))), (q2, .inl (cy 0, 16, .inl (fun _ => 0))), (q3, .inl (cy 0, 16, .inl (fun _ => 0)))]
  refine y_putF C hi yf_X9_21 (o := 0) rfl (Nat.le_of_ble_eq_true rfl) rfl rfl dX9_init_34 ?_
  show y_W F 4 176 37 [(0, .ref h0)] [] [(h0, .inr (9, [.int 0, .ref q0, .ref q1, .ref q2, .ref q3])), (q0, .inl (cy 0, 128, .inl (fun _ => 0))), (q1, .inl (cy 0, 16, .inl (fun _ => 0))), (q2, .inl (cy 0, 16, .inl (fun _ => 0))), (q3, .inl (cy 0, 16, .inl (fun _ => 0)))]
  exact y_vret C E (by decide) (by decide) ⟨rfl, q0, q1, q2, q3, rfl⟩ dX9_init_37
set_option maxHeartbeats 4000000 in
set_option maxRecDepth 100000 in
theorem mX7_init (h0 : Nat) : y_M yX7_init cX7_init 1 none 1 12 2 19 [.ref h0] (fun _ => [(h0, .inr (7, [.int 0, .null, .null]))]) (fun cy rv w => rv = none ∧ ∃ q0 q1 : Nat, w = [(h0, .inr (7, [.int 2, .ref q0, .ref q1])), (q0, .inl (cy 2, 16, .inl (fun _ => 0))), (q1, .inl (cy 0, 3, .inl (upd (upd (upd (fun _ => 0) 0 3) 1 4) 2 5)))]) := by
  refine y_enter rfl (Nat.le_of_ble_eq_true rfl) ?_
  intro F cy C hi0 E
  have hi := hi0 rfl
  show y_W F 0 0 0 [(0, .ref h0)] [] [(h0, .inr (7, [.int 0, .null, .null]))]
  refine y_aload_n C dX7_init_0 rfl 0 rfl ?_
  refine y_obj C yo_X7 yo_i yo_c (by decide) (Nat.le_of_ble_eq_true rfl) dX7_init_1 ?_
  refine y_aload_n C dX7_init_4 rfl 0 rfl ?_
  refine y_iconst (v := 2) C dX7_init_5 (by decide) ?_
  refine y_put C yp_X7_9 (o := 0) rfl (Nat.le_of_ble_eq_true rfl) rfl rfl dX7_init_6 ?_
  show y_W F 0 0 9 [(0, .ref h0)] [] [(h0, .inr (7, [.int 2, .null, .null]))]
  refine y_aload_n C dX7_init_9 rfl 0 rfl ?_
  refine y_bipush (v := 16) C dX7_init_10 (by decide) ?_
  refine y_newz (M := 16) C ya_boolean (by decide) (by decide) (by decide) (Nat.le_of_ble_eq_true rfl) (Nat.le_of_ble_eq_true rfl) dX7_init_12 (fun q0 => ?_)
  show y_W F 1 16 14 [(0, .ref h0)] [.ref q0, .ref h0] [(h0, .inr (7, [.int 2, .null, .null])), (q0, .inl (cy 2, 16, .inl (fun _ => 0)))]
  refine y_putF C hi yf_X7_15 (o := 0) rfl (Nat.le_of_ble_eq_true rfl) rfl rfl dX7_init_14 ?_
  show y_W F 1 16 17 [(0, .ref h0)] [] [(h0, .inr (7, [.int 2, .ref q0, .null])), (q0, .inl (cy 2, 16, .inl (fun _ => 0)))]
  refine y_aload_n C dX7_init_17 rfl 0 rfl ?_
  refine y_iconst (v := 3) C dX7_init_18 (by decide) ?_
  refine y_newi (M := 3) C ya_int (by decide) (by decide) (by decide) (Nat.le_of_ble_eq_true rfl) (Nat.le_of_ble_eq_true rfl) dX7_init_19 (fun q1 => ?_)
  show y_W F 2 19 21 [(0, .ref h0)] [.ref q1, .ref h0] [(h0, .inr (7, [.int 2, .ref q0, .null])), (q0, .inl (cy 2, 16, .inl (fun _ => 0))), (q1, .inl (cy 0, 3, .inl (fun _ => 0)))]
  refine y_putF C hi yf_X7_19 (o := 0) rfl (Nat.le_of_ble_eq_true rfl) rfl rfl dX7_init_21 ?_
  show y_W F 2 19 24 [(0, .ref h0)] [] [(h0, .inr (7, [.int 2, .ref q0, .ref q1])), (q0, .inl (cy 2, 16, .inl (fun _ => 0))), (q1, .inl (cy 0, 3, .inl (fun _ => 0)))]
  refine y_aload_n C dX7_init_24 rfl 0 rfl ?_
  refine y_get (v := .ref q1) C yg_X7_19 (o := 0) rfl rfl dX7_init_25 ?_
  refine y_iconst (v := 0) C dX7_init_28 (by decide) ?_
  refine y_iconst (v := 3) C dX7_init_29 (by decide) ?_
  refine y_iastK (k := 0) (v := 3) C (o := 2) rfl (by unfold vp_in; decide) (by decide) (by decide) dX7_init_30 ?_
  show y_W F 2 19 31 [(0, .ref h0)] [] [(h0, .inr (7, [.int 2, .ref q0, .ref q1])), (q0, .inl (cy 2, 16, .inl (fun _ => 0))), (q1, .inl (cy 0, 3, .inl (upd (fun _ => 0) 0 3)))]
  refine y_aload_n C dX7_init_31 rfl 0 rfl ?_
  refine y_get (v := .ref q1) C yg_X7_19 (o := 0) rfl rfl dX7_init_32 ?_
  refine y_iconst (v := 1) C dX7_init_35 (by decide) ?_
  refine y_iconst (v := 4) C dX7_init_36 (by decide) ?_
  refine y_iastK (k := 1) (v := 4) C (o := 2) rfl (by unfold vp_in; decide) (by decide) (by decide) dX7_init_37 ?_
  show y_W F 2 19 38 [(0, .ref h0)] [] [(h0, .inr (7, [.int 2, .ref q0, .ref q1])), (q0, .inl (cy 2, 16, .inl (fun _ => 0))), (q1, .inl (cy 0, 3, .inl (upd (upd (fun _ => 0) 0 3) 1 4)))]
  refine y_aload_n C dX7_init_38 rfl 0 rfl ?_
  refine y_get (v := .ref q1) C yg_X7_19 (o := 0) rfl rfl dX7_init_39 ?_
  refine y_iconst (v := 2) C dX7_init_42 (by decide) ?_
  refine y_iconst (v := 5) C dX7_init_43 (by decide) ?_
  refine y_iastK (k := 2) (v := 5) C (o := 2) rfl (by unfold vp_in; decide) (by decide) (by decide) dX7_init_44 ?_
  show y_W F 2 19 45 [(0, .ref h0)] [] [(h0, .inr (7, [.int 2, .ref q0, .ref q1])), (q0, .inl (cy 2, 16, .inl (fun _ => 0))), (q1, .inl (cy 0, 3, .inl (upd (upd (upd (fun _ => 0) 0 3) 1 4) 2 5)))]
  exact y_vret C E (by decide) (by decide) ⟨rfl, q0, q1, rfl⟩ dX7_init_45
set_option maxHeartbeats 4000000 in
set_option maxRecDepth 100000 in
theorem mX4_init (h0 : Nat) : y_M yX4_init cX4_init 1 none 1 12 0 0 [.ref h0] (fun _ => [(h0, .inr (4, [.long 0, .long 0]))]) (fun cy rv w => rv = none ∧ w = [(h0, .inr (4, [.long 0, .long 0]))]) := by
  refine y_enter rfl (Nat.le_of_ble_eq_true rfl) ?_
  intro F cy C hi0 E
  have hi := hi0 rfl
  show y_W F 0 0 0 [(0, .ref h0)] [] [(h0, .inr (4, [.long 0, .long 0]))]
  refine y_aload_n C dX4_init_0 rfl 0 rfl ?_
  refine y_obj C yo_X4 yo_i yo_c (by decide) (Nat.le_of_ble_eq_true rfl) dX4_init_1 ?_
  exact y_vret C E (by decide) (by decide) ⟨rfl, rfl⟩ dX4_init_4
set_option maxHeartbeats 4000000 in
set_option maxRecDepth 100000 in
theorem mX6_init_200 (h0 : Nat) : y_M yX6_init cX6_init 2 none 1 14 1 200 [.ref h0, .int 200] (fun _ => [(h0, .inr (6, [.null, .int 0]))]) (fun cy rv w => rv = none ∧ ∃ q0 : Nat, w = [(h0, .inr (6, [.ref q0, .int 0])), (q0, .inl (cy 0, 200, .inl (fun _ => 0)))]) := by
  refine y_enter rfl (Nat.le_of_ble_eq_true rfl) ?_
  intro F cy C hi0 E
  have hi := hi0 rfl
  show y_W F 0 0 0 [(0, .ref h0), (1, .int 200)] [] [(h0, .inr (6, [.null, .int 0]))]
  refine y_aload_n C dX6_init_0 rfl 0 rfl ?_
  refine y_obj C yo_X6 yo_i yo_c (by decide) (Nat.le_of_ble_eq_true rfl) dX6_init_1 ?_
  refine y_aload_n C dX6_init_4 rfl 0 rfl ?_
  refine y_iload_n C dX6_init_5 rfl 1 rfl ?_
  refine y_iconst (v := 0) C dX6_init_6 (by decide) ?_
  refine y_mmax C ym_1 ym_2 ym_3 ym_4 (by decide) (Nat.le_of_ble_eq_true rfl) (Nat.le_of_ble_eq_true rfl) (Nat.le_of_ble_eq_true rfl) dX6_init_7 ?_
  refine y_top (v := 200) (by decide) ?_
  refine y_newi (M := 200) C ya_int (by decide) (by decide) (by decide) (Nat.le_of_ble_eq_true rfl) (Nat.le_of_ble_eq_true rfl) dX6_init_10 (fun q0 => ?_)
  show y_W F 1 200 12 [(0, .ref h0), (1, .int 200)] [.ref q0, .ref h0] [(h0, .inr (6, [.null, .int 0])), (q0, .inl (cy 0, 200, .inl (fun _ => 0)))]
  refine y_putF C hi yf_X6_13 (o := 0) rfl (Nat.le_of_ble_eq_true rfl) rfl rfl dX6_init_12 ?_
  show y_W F 1 200 15 [(0, .ref h0), (1, .int 200)] [] [(h0, .inr (6, [.ref q0, .int 0])), (q0, .inl (cy 0, 200, .inl (fun _ => 0)))]
  exact y_vret C E (by decide) (by decide) ⟨rfl, q0, rfl⟩ dX6_init_15
set_option maxHeartbeats 4000000 in
set_option maxRecDepth 100000 in
theorem mX6_init_48 (h0 : Nat) : y_M yX6_init cX6_init 2 none 1 14 1 48 [.ref h0, .int 48] (fun _ => [(h0, .inr (6, [.null, .int 0]))]) (fun cy rv w => rv = none ∧ ∃ q0 : Nat, w = [(h0, .inr (6, [.ref q0, .int 0])), (q0, .inl (cy 0, 48, .inl (fun _ => 0)))]) := by
  refine y_enter rfl (Nat.le_of_ble_eq_true rfl) ?_
  intro F cy C hi0 E
  have hi := hi0 rfl
  show y_W F 0 0 0 [(0, .ref h0), (1, .int 48)] [] [(h0, .inr (6, [.null, .int 0]))]
  refine y_aload_n C dX6_init_0 rfl 0 rfl ?_
  refine y_obj C yo_X6 yo_i yo_c (by decide) (Nat.le_of_ble_eq_true rfl) dX6_init_1 ?_
  refine y_aload_n C dX6_init_4 rfl 0 rfl ?_
  refine y_iload_n C dX6_init_5 rfl 1 rfl ?_
  refine y_iconst (v := 0) C dX6_init_6 (by decide) ?_
  refine y_mmax C ym_1 ym_2 ym_3 ym_4 (by decide) (Nat.le_of_ble_eq_true rfl) (Nat.le_of_ble_eq_true rfl) (Nat.le_of_ble_eq_true rfl) dX6_init_7 ?_
  refine y_top (v := 48) (by decide) ?_
  refine y_newi (M := 48) C ya_int (by decide) (by decide) (by decide) (Nat.le_of_ble_eq_true rfl) (Nat.le_of_ble_eq_true rfl) dX6_init_10 (fun q0 => ?_)
  show y_W F 1 48 12 [(0, .ref h0), (1, .int 48)] [.ref q0, .ref h0] [(h0, .inr (6, [.null, .int 0])), (q0, .inl (cy 0, 48, .inl (fun _ => 0)))]
  refine y_putF C hi yf_X6_13 (o := 0) rfl (Nat.le_of_ble_eq_true rfl) rfl rfl dX6_init_12 ?_
  show y_W F 1 48 15 [(0, .ref h0), (1, .int 48)] [] [(h0, .inr (6, [.ref q0, .int 0])), (q0, .inl (cy 0, 48, .inl (fun _ => 0)))]
  exact y_vret C E (by decide) (by decide) ⟨rfl, q0, rfl⟩ dX6_init_15
set_option maxHeartbeats 4000000 in
set_option maxRecDepth 100000 in
theorem mX6_init_24 (h0 : Nat) : y_M yX6_init cX6_init 2 none 1 14 1 24 [.ref h0, .int 24] (fun _ => [(h0, .inr (6, [.null, .int 0]))]) (fun cy rv w => rv = none ∧ ∃ q0 : Nat, w = [(h0, .inr (6, [.ref q0, .int 0])), (q0, .inl (cy 0, 24, .inl (fun _ => 0)))]) := by
  refine y_enter rfl (Nat.le_of_ble_eq_true rfl) ?_
  intro F cy C hi0 E
  have hi := hi0 rfl
  show y_W F 0 0 0 [(0, .ref h0), (1, .int 24)] [] [(h0, .inr (6, [.null, .int 0]))]
  refine y_aload_n C dX6_init_0 rfl 0 rfl ?_
  refine y_obj C yo_X6 yo_i yo_c (by decide) (Nat.le_of_ble_eq_true rfl) dX6_init_1 ?_
  refine y_aload_n C dX6_init_4 rfl 0 rfl ?_
  refine y_iload_n C dX6_init_5 rfl 1 rfl ?_
  refine y_iconst (v := 0) C dX6_init_6 (by decide) ?_
  refine y_mmax C ym_1 ym_2 ym_3 ym_4 (by decide) (Nat.le_of_ble_eq_true rfl) (Nat.le_of_ble_eq_true rfl) (Nat.le_of_ble_eq_true rfl) dX6_init_7 ?_
  refine y_top (v := 24) (by decide) ?_
  refine y_newi (M := 24) C ya_int (by decide) (by decide) (by decide) (Nat.le_of_ble_eq_true rfl) (Nat.le_of_ble_eq_true rfl) dX6_init_10 (fun q0 => ?_)
  show y_W F 1 24 12 [(0, .ref h0), (1, .int 24)] [.ref q0, .ref h0] [(h0, .inr (6, [.null, .int 0])), (q0, .inl (cy 0, 24, .inl (fun _ => 0)))]
  refine y_putF C hi yf_X6_13 (o := 0) rfl (Nat.le_of_ble_eq_true rfl) rfl rfl dX6_init_12 ?_
  show y_W F 1 24 15 [(0, .ref h0), (1, .int 24)] [] [(h0, .inr (6, [.ref q0, .int 0])), (q0, .inl (cy 0, 24, .inl (fun _ => 0)))]
  exact y_vret C E (by decide) (by decide) ⟨rfl, q0, rfl⟩ dX6_init_15
set_option maxHeartbeats 4000000 in
set_option maxRecDepth 100000 in
theorem mX8_init_1 (h0 : Nat) : y_M yX8_init cX8_init 2 none 1 12 1 12 [.ref h0, .int 1] (fun _ => [(h0, .inr (8, [.int 0, .int 0, .int 0, .null]))]) (fun cy rv w => rv = none ∧ ∃ q0 : Nat, w = [(h0, .inr (8, [.int 1, .int 0, .int (-1), .ref q0])), (q0, .inl (cy 0, 12, .inl (fun _ => 0)))]) := by
  refine y_enter rfl (Nat.le_of_ble_eq_true rfl) ?_
  intro F cy C hi0 E
  have hi := hi0 rfl
  show y_W F 0 0 0 [(0, .ref h0), (1, .int 1)] [] [(h0, .inr (8, [.int 0, .int 0, .int 0, .null]))]
  refine y_aload_n C dX8_init_0 rfl 0 rfl ?_
  refine y_obj C yo_X8 yo_i yo_c (by decide) (Nat.le_of_ble_eq_true rfl) dX8_init_1 ?_
  refine y_aload_n C dX8_init_4 rfl 0 rfl ?_
  refine y_iconst (v := (-1)) C dX8_init_5 (by decide) ?_
  refine y_put C yp_X8_9 (o := 0) rfl (Nat.le_of_ble_eq_true rfl) rfl rfl dX8_init_6 ?_
  show y_W F 0 0 9 [(0, .ref h0), (1, .int 1)] [] [(h0, .inr (8, [.int 0, .int 0, .int (-1), .null]))]
  refine y_aload_n C dX8_init_9 rfl 0 rfl ?_
  refine y_bipush (v := 12) C dX8_init_10 (by decide) ?_
  refine y_newi (M := 12) C ya_int (by decide) (by decide) (by decide) (Nat.le_of_ble_eq_true rfl) (Nat.le_of_ble_eq_true rfl) dX8_init_12 (fun q0 => ?_)
  show y_W F 1 12 14 [(0, .ref h0), (1, .int 1)] [.ref q0, .ref h0] [(h0, .inr (8, [.int 0, .int 0, .int (-1), .null])), (q0, .inl (cy 0, 12, .inl (fun _ => 0)))]
  refine y_putF C hi yf_X8_15 (o := 0) rfl (Nat.le_of_ble_eq_true rfl) rfl rfl dX8_init_14 ?_
  show y_W F 1 12 17 [(0, .ref h0), (1, .int 1)] [] [(h0, .inr (8, [.int 0, .int 0, .int (-1), .ref q0])), (q0, .inl (cy 0, 12, .inl (fun _ => 0)))]
  refine y_aload_n C dX8_init_17 rfl 0 rfl ?_
  refine y_iload_n C dX8_init_18 rfl 1 rfl ?_
  refine y_putF C hi yf_X8_19 (o := 0) rfl (Nat.le_of_ble_eq_true rfl) rfl rfl dX8_init_19 ?_
  show y_W F 1 12 22 [(0, .ref h0), (1, .int 1)] [] [(h0, .inr (8, [.int 1, .int 0, .int (-1), .ref q0])), (q0, .inl (cy 0, 12, .inl (fun _ => 0)))]
  exact y_vret C E (by decide) (by decide) ⟨rfl, q0, rfl⟩ dX8_init_22
set_option maxHeartbeats 4000000 in
set_option maxRecDepth 100000 in
theorem mX8_init_0 (h0 : Nat) : y_M yX8_init cX8_init 2 none 1 12 1 12 [.ref h0, .int 0] (fun _ => [(h0, .inr (8, [.int 0, .int 0, .int 0, .null]))]) (fun cy rv w => rv = none ∧ ∃ q0 : Nat, w = [(h0, .inr (8, [.int 0, .int 0, .int (-1), .ref q0])), (q0, .inl (cy 0, 12, .inl (fun _ => 0)))]) := by
  refine y_enter rfl (Nat.le_of_ble_eq_true rfl) ?_
  intro F cy C hi0 E
  have hi := hi0 rfl
  show y_W F 0 0 0 [(0, .ref h0), (1, .int 0)] [] [(h0, .inr (8, [.int 0, .int 0, .int 0, .null]))]
  refine y_aload_n C dX8_init_0 rfl 0 rfl ?_
  refine y_obj C yo_X8 yo_i yo_c (by decide) (Nat.le_of_ble_eq_true rfl) dX8_init_1 ?_
  refine y_aload_n C dX8_init_4 rfl 0 rfl ?_
  refine y_iconst (v := (-1)) C dX8_init_5 (by decide) ?_
  refine y_put C yp_X8_9 (o := 0) rfl (Nat.le_of_ble_eq_true rfl) rfl rfl dX8_init_6 ?_
  show y_W F 0 0 9 [(0, .ref h0), (1, .int 0)] [] [(h0, .inr (8, [.int 0, .int 0, .int (-1), .null]))]
  refine y_aload_n C dX8_init_9 rfl 0 rfl ?_
  refine y_bipush (v := 12) C dX8_init_10 (by decide) ?_
  refine y_newi (M := 12) C ya_int (by decide) (by decide) (by decide) (Nat.le_of_ble_eq_true rfl) (Nat.le_of_ble_eq_true rfl) dX8_init_12 (fun q0 => ?_)
  show y_W F 1 12 14 [(0, .ref h0), (1, .int 0)] [.ref q0, .ref h0] [(h0, .inr (8, [.int 0, .int 0, .int (-1), .null])), (q0, .inl (cy 0, 12, .inl (fun _ => 0)))]
  refine y_putF C hi yf_X8_15 (o := 0) rfl (Nat.le_of_ble_eq_true rfl) rfl rfl dX8_init_14 ?_
  show y_W F 1 12 17 [(0, .ref h0), (1, .int 0)] [] [(h0, .inr (8, [.int 0, .int 0, .int (-1), .ref q0])), (q0, .inl (cy 0, 12, .inl (fun _ => 0)))]
  refine y_aload_n C dX8_init_17 rfl 0 rfl ?_
  refine y_iload_n C dX8_init_18 rfl 1 rfl ?_
  refine y_putF C hi yf_X8_19 (o := 0) rfl (Nat.le_of_ble_eq_true rfl) rfl rfl dX8_init_19 ?_
  show y_W F 1 12 22 [(0, .ref h0), (1, .int 0)] [] [(h0, .inr (8, [.int 0, .int 0, .int (-1), .ref q0])), (q0, .inl (cy 0, 12, .inl (fun _ => 0)))]
  exact y_vret C E (by decide) (by decide) ⟨rfl, q0, rfl⟩ dX8_init_22
set_option maxHeartbeats 4000000 in
set_option maxRecDepth 100000 in
theorem mX0_init (h0 a1 a2 : Nat) : y_M yX0_init cX0_init 3 none 2 32 5 181 [.ref h0, .ref a1, .ref a2] (fun _ => [(h0, .inr (0, [.null, .int 0, .null, .null, .int 0, .int 0]))]) (fun cy rv w => rv = none ∧ ∃ q0 q1 q2 q3 q4 : Nat, w = [(h0, .inr (0, [.ref q0, .int (-1), .ref a1, .ref a2, .int 0, .int 0])), (q0, .inr (9, [.int 0, .ref q1, .ref q2, .ref q3, .ref q4])), (q1, .inl (cy 0, 128, .inl (fun _ => 0))), (q2, .inl (cy 0, 16, .inl (fun _ => 0))), (q3, .inl (cy 0, 16, .inl (fun _ => 0))), (q4, .inl (cy 0, 16, .inl (fun _ => 0)))]) := by
  refine y_enter rfl (Nat.le_of_ble_eq_true rfl) ?_
  intro F cy C hi0 E
  have hi := hi0 rfl
  show y_W F 0 0 0 [(0, .ref h0), (1, .ref a1), (2, .ref a2)] [] [(h0, .inr (0, [.null, .int 0, .null, .null, .int 0, .int 0]))]
  refine y_aload_n C dX0_init_0 rfl 0 rfl ?_
  refine y_obj C yo_X0 yo_i yo_c (by decide) (Nat.le_of_ble_eq_true rfl) dX0_init_1 ?_
  refine y_aload_n C dX0_init_4 rfl 0 rfl ?_
  refine y_new C yn_X0_9 (Nat.le_of_ble_eq_true rfl) (Nat.le_of_ble_eq_true rfl) dX0_init_5 (fun q0 => ?_)
  show y_W F 1 5 8 [(0, .ref h0), (1, .ref a1), (2, .ref a2)] [.ref q0, .ref h0] [(q0, .inr (9, [.int 0, .null, .null, .null, .null])), (h0, .inr (0, [.null, .int 0, .null, .null, .int 0, .int 0]))]
  refine y_dup C dX0_init_8 rfl ?_
  refine y_callIN (a := q0) (w0 := fun _ => [(q0, .inr (9, [.int 0, .null, .null, .null, .null]))]) (As := []) [.ref q0, .ref h0] C yc_X0_11 rfl ⟨by decide, by decide⟩ (Nat.le_of_ble_eq_true rfl) ⟨(Nat.le_of_ble_eq_true rfl), (Nat.le_of_ble_eq_true rfl)⟩ dX0_init_9 rfl rfl (mX9_init q0) ?_
  rintro rv w ⟨rfl, q1, q2, q3, q4, rfl⟩
  show y_W F 5 181 12 [(0, .ref h0), (1, .ref a1), (2, .ref a2)] [.ref q0, .ref h0] [(h0, .inr (0, [.null, .int 0, .null, .null, .int 0, .int 0])), (q0, .inr (9, [.int 0, .ref q1, .ref q2, .ref q3, .ref q4])), (q1, .inl (cy 0, 128, .inl (fun _ => 0))), (q2, .inl (cy 0, 16, .inl (fun _ => 0))), (q3, .inl (cy 0, 16, .inl (fun _ => 0))), (q4, .inl (cy 0, 16, .inl (fun _ => 0)))]
  refine y_putF C hi yf_X0_12 (o := 0) rfl (Nat.le_of_ble_eq_true rfl) rfl rfl dX0_init_12 ?_
  show y_W F 5 181 15 [(0, .ref h0), (1, .ref a1), (2, .ref a2)] [] [(h0, .inr (0, [.ref q0, .int 0, .null, .null, .int 0, .int 0])), (q0, .inr (9, [.int 0, .ref q1, .ref q2, .ref q3, .ref q4])), (q1, .inl (cy 0, 128, .inl (fun _ => 0))), (q2, .inl (cy 0, 16, .inl (fun _ => 0))), (q3, .inl (cy 0, 16, .inl (fun _ => 0))), (q4, .inl (cy 0, 16, .inl (fun _ => 0)))]
  refine y_aload_n C dX0_init_15 rfl 0 rfl ?_
  refine y_iconst (v := (-1)) C dX0_init_16 (by decide) ?_
  refine y_put C yp_X0_18 (o := 0) rfl (Nat.le_of_ble_eq_true rfl) rfl rfl dX0_init_17 ?_
  show y_W F 5 181 20 [(0, .ref h0), (1, .ref a1), (2, .ref a2)] [] [(h0, .inr (0, [.ref q0, .int (-1), .null, .null, .int 0, .int 0])), (q0, .inr (9, [.int 0, .ref q1, .ref q2, .ref q3, .ref q4])), (q1, .inl (cy 0, 128, .inl (fun _ => 0))), (q2, .inl (cy 0, 16, .inl (fun _ => 0))), (q3, .inl (cy 0, 16, .inl (fun _ => 0))), (q4, .inl (cy 0, 16, .inl (fun _ => 0)))]
  refine y_aload_n C dX0_init_20 rfl 0 rfl ?_
  refine y_aload_n C dX0_init_21 rfl 1 rfl ?_
  refine y_putF C hi yf_X0_22 (o := 0) rfl (Nat.le_of_ble_eq_true rfl) rfl rfl dX0_init_22 ?_
  show y_W F 5 181 25 [(0, .ref h0), (1, .ref a1), (2, .ref a2)] [] [(h0, .inr (0, [.ref q0, .int (-1), .ref a1, .null, .int 0, .int 0])), (q0, .inr (9, [.int 0, .ref q1, .ref q2, .ref q3, .ref q4])), (q1, .inl (cy 0, 128, .inl (fun _ => 0))), (q2, .inl (cy 0, 16, .inl (fun _ => 0))), (q3, .inl (cy 0, 16, .inl (fun _ => 0))), (q4, .inl (cy 0, 16, .inl (fun _ => 0)))]
  refine y_aload_n C dX0_init_25 rfl 0 rfl ?_
  refine y_aload_n C dX0_init_26 rfl 2 rfl ?_
  refine y_putF C hi yf_X0_26 (o := 0) rfl (Nat.le_of_ble_eq_true rfl) rfl rfl dX0_init_27 ?_
  show y_W F 5 181 30 [(0, .ref h0), (1, .ref a1), (2, .ref a2)] [] [(h0, .inr (0, [.ref q0, .int (-1), .ref a1, .ref a2, .int 0, .int 0])), (q0, .inr (9, [.int 0, .ref q1, .ref q2, .ref q3, .ref q4])), (q1, .inl (cy 0, 128, .inl (fun _ => 0))), (q2, .inl (cy 0, 16, .inl (fun _ => 0))), (q3, .inl (cy 0, 16, .inl (fun _ => 0))), (q4, .inl (cy 0, 16, .inl (fun _ => 0)))]
  exact y_vret C E (by decide) (by decide) ⟨rfl, q0, q1, q2, q3, q4, rfl⟩ dX0_init_30
set_option maxHeartbeats 4000000 in
set_option maxRecDepth 100000 in
theorem mX5_init (h0 a1 a2 a3 : Nat) : y_M yX5_init cX5_init 4 none 1 12 3 539 [.ref h0, .ref a1, .ref a2, .ref a3] (fun _ => [(h0, .inr (5, [.null, .null, .null, .null, .null, .null, .int 0, .int 0, .long 0]))]) (fun cy rv w => rv = none ∧ ∃ q0 q1 q2 : Nat, w = [(h0, .inr (5, [.ref a1, .ref a2, .ref a3, .ref q0, .ref q1, .ref q2, .int 0, .int 0, .long 0])), (q0, .inl (cy 0, 49, .inl (fun _ => 0))), (q1, .inl (cy 0, 245, .inl (fun _ => 0))), (q2, .inl (cy 1, 245, .inr (.inl (fun _ => 0))))]) := by
  refine y_enter rfl (Nat.le_of_ble_eq_true rfl) ?_
  intro F cy C hi0 E
  have hi := hi0 rfl
  show y_W F 0 0 0 [(0, .ref h0), (1, .ref a1), (2, .ref a2), (3, .ref a3)] [] [(h0, .inr (5, [.null, .null, .null, .null, .null, .null, .int 0, .int 0, .long 0]))]
  refine y_aload_n C dX5_init_0 rfl 0 rfl ?_
  refine y_obj C yo_X5 yo_i yo_c (by decide) (Nat.le_of_ble_eq_true rfl) dX5_init_1 ?_
  refine y_aload_n C dX5_init_4 rfl 0 rfl ?_
  refine y_bipush (v := 49) C dX5_init_5 (by decide) ?_
  refine y_newi (M := 49) C ya_int (by decide) (by decide) (by decide) (Nat.le_of_ble_eq_true rfl) (Nat.le_of_ble_eq_true rfl) dX5_init_7 (fun q0 => ?_)
  show y_W F 1 49 9 [(0, .ref h0), (1, .ref a1), (2, .ref a2), (3, .ref a3)] [.ref q0, .ref h0] [(h0, .inr (5, [.null, .null, .null, .null, .null, .null, .int 0, .int 0, .long 0])), (q0, .inl (cy 0, 49, .inl (fun _ => 0)))]
  refine y_putF C hi yf_X5_9 (o := 0) rfl (Nat.le_of_ble_eq_true rfl) rfl rfl dX5_init_9 ?_
  show y_W F 1 49 12 [(0, .ref h0), (1, .ref a1), (2, .ref a2), (3, .ref a3)] [] [(h0, .inr (5, [.null, .null, .null, .ref q0, .null, .null, .int 0, .int 0, .long 0])), (q0, .inl (cy 0, 49, .inl (fun _ => 0)))]
  refine y_aload_n C dX5_init_12 rfl 0 rfl ?_
  refine y_sipush (v := 245) C dX5_init_13 (by decide) ?_
  refine y_newi (M := 245) C ya_int (by decide) (by decide) (by decide) (Nat.le_of_ble_eq_true rfl) (Nat.le_of_ble_eq_true rfl) dX5_init_16 (fun q1 => ?_)
  show y_W F 2 294 18 [(0, .ref h0), (1, .ref a1), (2, .ref a2), (3, .ref a3)] [.ref q1, .ref h0] [(h0, .inr (5, [.null, .null, .null, .ref q0, .null, .null, .int 0, .int 0, .long 0])), (q0, .inl (cy 0, 49, .inl (fun _ => 0))), (q1, .inl (cy 0, 245, .inl (fun _ => 0)))]
  refine y_putF C hi yf_X5_15 (o := 0) rfl (Nat.le_of_ble_eq_true rfl) rfl rfl dX5_init_18 ?_
  show y_W F 2 294 21 [(0, .ref h0), (1, .ref a1), (2, .ref a2), (3, .ref a3)] [] [(h0, .inr (5, [.null, .null, .null, .ref q0, .ref q1, .null, .int 0, .int 0, .long 0])), (q0, .inl (cy 0, 49, .inl (fun _ => 0))), (q1, .inl (cy 0, 245, .inl (fun _ => 0)))]
  refine y_aload_n C dX5_init_21 rfl 0 rfl ?_
  refine y_sipush (v := 245) C dX5_init_22 (by decide) ?_
  refine y_newl (M := 245) C ya_long (by decide) (by decide) (by decide) (Nat.le_of_ble_eq_true rfl) (Nat.le_of_ble_eq_true rfl) dX5_init_25 (fun q2 => ?_)
  show y_W F 3 539 27 [(0, .ref h0), (1, .ref a1), (2, .ref a2), (3, .ref a3)] [.ref q2, .ref h0] [(h0, .inr (5, [.null, .null, .null, .ref q0, .ref q1, .null, .int 0, .int 0, .long 0])), (q0, .inl (cy 0, 49, .inl (fun _ => 0))), (q1, .inl (cy 0, 245, .inl (fun _ => 0))), (q2, .inl (cy 1, 245, .inr (.inl (fun _ => 0))))]
  refine y_putF C hi yf_X5_18 (o := 0) rfl (Nat.le_of_ble_eq_true rfl) rfl rfl dX5_init_27 ?_
  show y_W F 3 539 30 [(0, .ref h0), (1, .ref a1), (2, .ref a2), (3, .ref a3)] [] [(h0, .inr (5, [.null, .null, .null, .ref q0, .ref q1, .ref q2, .int 0, .int 0, .long 0])), (q0, .inl (cy 0, 49, .inl (fun _ => 0))), (q1, .inl (cy 0, 245, .inl (fun _ => 0))), (q2, .inl (cy 1, 245, .inr (.inl (fun _ => 0))))]
  refine y_aload_n C dX5_init_30 rfl 0 rfl ?_
  refine y_aload_n C dX5_init_31 rfl 1 rfl ?_
  refine y_putF C hi yf_X5_22 (o := 0) rfl (Nat.le_of_ble_eq_true rfl) rfl rfl dX5_init_32 ?_
  show y_W F 3 539 35 [(0, .ref h0), (1, .ref a1), (2, .ref a2), (3, .ref a3)] [] [(h0, .inr (5, [.ref a1, .null, .null, .ref q0, .ref q1, .ref q2, .int 0, .int 0, .long 0])), (q0, .inl (cy 0, 49, .inl (fun _ => 0))), (q1, .inl (cy 0, 245, .inl (fun _ => 0))), (q2, .inl (cy 1, 245, .inr (.inl (fun _ => 0))))]
  refine y_aload_n C dX5_init_35 rfl 0 rfl ?_
  refine y_aload_n C dX5_init_36 rfl 2 rfl ?_
  refine y_putF C hi yf_X5_26 (o := 0) rfl (Nat.le_of_ble_eq_true rfl) rfl rfl dX5_init_37 ?_
  show y_W F 3 539 40 [(0, .ref h0), (1, .ref a1), (2, .ref a2), (3, .ref a3)] [] [(h0, .inr (5, [.ref a1, .ref a2, .null, .ref q0, .ref q1, .ref q2, .int 0, .int 0, .long 0])), (q0, .inl (cy 0, 49, .inl (fun _ => 0))), (q1, .inl (cy 0, 245, .inl (fun _ => 0))), (q2, .inl (cy 1, 245, .inr (.inl (fun _ => 0))))]
  refine y_aload_n C dX5_init_40 rfl 0 rfl ?_
  refine y_aload_n C dX5_init_41 rfl 3 rfl ?_
  refine y_putF C hi yf_X5_30 (o := 0) rfl (Nat.le_of_ble_eq_true rfl) rfl rfl dX5_init_42 ?_
  show y_W F 3 539 45 [(0, .ref h0), (1, .ref a1), (2, .ref a2), (3, .ref a3)] [] [(h0, .inr (5, [.ref a1, .ref a2, .ref a3, .ref q0, .ref q1, .ref q2, .int 0, .int 0, .long 0])), (q0, .inl (cy 0, 49, .inl (fun _ => 0))), (q1, .inl (cy 0, 245, .inl (fun _ => 0))), (q2, .inl (cy 1, 245, .inr (.inl (fun _ => 0))))]
  exact y_vret C E (by decide) (by decide) ⟨rfl, q0, q1, q2, rfl⟩ dX5_init_45
set_option maxHeartbeats 4000000 in
set_option maxRecDepth 100000 in
theorem mX3_init (h0 a1 a2 a3 : Nat) : y_M yX3_init cX3_init 4 none 1 12 2 149 [.ref h0, .ref a1, .ref a2, .ref a3] (fun _ => [(h0, .inr (3, [.null, .null, .null, .null, .null]))]) (fun cy rv w => rv = none ∧ ∃ q0 q1 : Nat, w = [(h0, .inr (3, [.ref a1, .ref a2, .ref a3, .ref q0, .ref q1])), (q0, .inl (cy 1, 144, .inr (.inl (fun _ => 0)))), (q1, .inl (cy 1, 5, .inr (.inl (fun _ => 0))))]) := by
  refine y_enter rfl (Nat.le_of_ble_eq_true rfl) ?_
  intro F cy C hi0 E
  have hi := hi0 rfl
  show y_W F 0 0 0 [(0, .ref h0), (1, .ref a1), (2, .ref a2), (3, .ref a3)] [] [(h0, .inr (3, [.null, .null, .null, .null, .null]))]
  refine y_aload_n C dX3_init_0 rfl 0 rfl ?_
  refine y_obj C yo_X3 yo_i yo_c (by decide) (Nat.le_of_ble_eq_true rfl) dX3_init_1 ?_
  refine y_aload_n C dX3_init_4 rfl 0 rfl ?_
  refine y_sipush (v := 144) C dX3_init_5 (by decide) ?_
  refine y_newl (M := 144) C ya_long (by decide) (by decide) (by decide) (Nat.le_of_ble_eq_true rfl) (Nat.le_of_ble_eq_true rfl) dX3_init_8 (fun q0 => ?_)
  show y_W F 1 144 10 [(0, .ref h0), (1, .ref a1), (2, .ref a2), (3, .ref a3)] [.ref q0, .ref h0] [(h0, .inr (3, [.null, .null, .null, .null, .null])), (q0, .inl (cy 1, 144, .inr (.inl (fun _ => 0))))]
  refine y_putF C hi yf_X3_11 (o := 0) rfl (Nat.le_of_ble_eq_true rfl) rfl rfl dX3_init_10 ?_
  show y_W F 1 144 13 [(0, .ref h0), (1, .ref a1), (2, .ref a2), (3, .ref a3)] [] [(h0, .inr (3, [.null, .null, .null, .ref q0, .null])), (q0, .inl (cy 1, 144, .inr (.inl (fun _ => 0))))]
  refine y_aload_n C dX3_init_13 rfl 0 rfl ?_
  refine y_iconst (v := 5) C dX3_init_14 (by decide) ?_
  refine y_newl (M := 5) C ya_long (by decide) (by decide) (by decide) (Nat.le_of_ble_eq_true rfl) (Nat.le_of_ble_eq_true rfl) dX3_init_15 (fun q1 => ?_)
  show y_W F 2 149 17 [(0, .ref h0), (1, .ref a1), (2, .ref a2), (3, .ref a3)] [.ref q1, .ref h0] [(h0, .inr (3, [.null, .null, .null, .ref q0, .null])), (q0, .inl (cy 1, 144, .inr (.inl (fun _ => 0)))), (q1, .inl (cy 1, 5, .inr (.inl (fun _ => 0))))]
  refine y_putF C hi yf_X3_15 (o := 0) rfl (Nat.le_of_ble_eq_true rfl) rfl rfl dX3_init_17 ?_
  show y_W F 2 149 20 [(0, .ref h0), (1, .ref a1), (2, .ref a2), (3, .ref a3)] [] [(h0, .inr (3, [.null, .null, .null, .ref q0, .ref q1])), (q0, .inl (cy 1, 144, .inr (.inl (fun _ => 0)))), (q1, .inl (cy 1, 5, .inr (.inl (fun _ => 0))))]
  refine y_aload_n C dX3_init_20 rfl 0 rfl ?_
  refine y_aload_n C dX3_init_21 rfl 1 rfl ?_
  refine y_putF C hi yf_X3_18 (o := 0) rfl (Nat.le_of_ble_eq_true rfl) rfl rfl dX3_init_22 ?_
  show y_W F 2 149 25 [(0, .ref h0), (1, .ref a1), (2, .ref a2), (3, .ref a3)] [] [(h0, .inr (3, [.ref a1, .null, .null, .ref q0, .ref q1])), (q0, .inl (cy 1, 144, .inr (.inl (fun _ => 0)))), (q1, .inl (cy 1, 5, .inr (.inl (fun _ => 0))))]
  refine y_aload_n C dX3_init_25 rfl 0 rfl ?_
  refine y_aload_n C dX3_init_26 rfl 2 rfl ?_
  refine y_putF C hi yf_X3_22 (o := 0) rfl (Nat.le_of_ble_eq_true rfl) rfl rfl dX3_init_27 ?_
  show y_W F 2 149 30 [(0, .ref h0), (1, .ref a1), (2, .ref a2), (3, .ref a3)] [] [(h0, .inr (3, [.ref a1, .ref a2, .null, .ref q0, .ref q1])), (q0, .inl (cy 1, 144, .inr (.inl (fun _ => 0)))), (q1, .inl (cy 1, 5, .inr (.inl (fun _ => 0))))]
  refine y_aload_n C dX3_init_30 rfl 0 rfl ?_
  refine y_aload_n C dX3_init_31 rfl 3 rfl ?_
  refine y_putF C hi yf_X3_26 (o := 0) rfl (Nat.le_of_ble_eq_true rfl) rfl rfl dX3_init_32 ?_
  show y_W F 2 149 35 [(0, .ref h0), (1, .ref a1), (2, .ref a2), (3, .ref a3)] [] [(h0, .inr (3, [.ref a1, .ref a2, .ref a3, .ref q0, .ref q1])), (q0, .inl (cy 1, 144, .inr (.inl (fun _ => 0)))), (q1, .inl (cy 1, 5, .inr (.inl (fun _ => 0))))]
  exact y_vret C E (by decide) (by decide) ⟨rfl, q0, q1, rfl⟩ dX3_init_35
set_option maxHeartbeats 4000000 in
set_option maxRecDepth 100000 in
theorem mX2_init (h0 a1 a2 : Nat) : y_M yX2_init cX2_init 4 none 2 35 15 449 [.ref h0, .ref a1, .ref a2] (fun _ => [(h0, .inr (2, [.int 0, .null, .int 0, .int 0, .int 0, .int 0, .null, .null, .null, .null, .null, .null, .null, .null, .int 0, .int 0]))]) (fun cy rv w => rv = none ∧ ∃ q0 q1 q2 q3 q4 q5 q6 q7 q8 q9 q10 q11 q12 q13 q14 : Nat, w = [(h0, .inr (2, [.int 0, .ref q0, .int 0, .int (-1), .int 0, .int 0, .ref a1, .ref a2, .ref q1, .ref q2, .ref q3, .ref q4, .ref q5, .ref q6, .int 0, .int 0])), (q0, .inl (cy 0, 16, .inl (fun _ => 0))), (q1, .inl (cy 3, 4, .inr (.inr (.inr (.inr (va_up (va_up (va_up (va_up (fun _ => none) 0 (some q7)) 1 (some q9)) 2 (some q11)) 3 (some q13))))))), (q2, .inl (cy 0, 96, .inl (fun _ => 0))), (q3, .inl (cy 0, 96, .inl (fun _ => 0))), (q4, .inl (cy 0, 125, .inl (fun _ => 0))), (q5, .inl (cy 0, 4, .inl (fun _ => 0))), (q6, .inl (cy 0, 4, .inl (fun _ => 0))), (q7, .inr (6, [.ref q8, .int 0])), (q8, .inl (cy 0, 24, .inl (fun _ => 0))), (q9, .inr (6, [.ref q10, .int 0])), (q10, .inl (cy 0, 24, .inl (fun _ => 0))), (q11, .inr (6, [.ref q12, .int 0])), (q12, .inl (cy 0, 24, .inl (fun _ => 0))), (q13, .inr (6, [.ref q14, .int 0])), (q14, .inl (cy 0, 24, .inl (fun _ => 0)))]) := by
  refine y_enter rfl (Nat.le_of_ble_eq_true rfl) ?_
  intro F cy C hi0 E
  have hi := hi0 rfl
  show y_W F 0 0 0 [(0, .ref h0), (1, .ref a1), (2, .ref a2)] [] [(h0, .inr (2, [.int 0, .null, .int 0, .int 0, .int 0, .int 0, .null, .null, .null, .null, .null, .null, .null, .null, .int 0, .int 0]))]
  refine y_aload_n C dX2_init_0 rfl 0 rfl ?_
  refine y_obj C yo_X2 yo_i yo_c (by decide) (Nat.le_of_ble_eq_true rfl) dX2_init_1 ?_
  refine y_aload_n C dX2_init_4 rfl 0 rfl ?_
  refine y_bipush (v := 16) C dX2_init_5 (by decide) ?_
  refine y_newi (M := 16) C ya_int (by decide) (by decide) (by decide) (Nat.le_of_ble_eq_true rfl) (Nat.le_of_ble_eq_true rfl) dX2_init_7 (fun q0 => ?_)
  show y_W F 1 16 9 [(0, .ref h0), (1, .ref a1), (2, .ref a2)] [.ref q0, .ref h0] [(h0, .inr (2, [.int 0, .null, .int 0, .int 0, .int 0, .int 0, .null, .null, .null, .null, .null, .null, .null, .null, .int 0, .int 0])), (q0, .inl (cy 0, 16, .inl (fun _ => 0)))]
  refine y_putF C hi yf_X2_9 (o := 0) rfl (Nat.le_of_ble_eq_true rfl) rfl rfl dX2_init_9 ?_
  show y_W F 1 16 12 [(0, .ref h0), (1, .ref a1), (2, .ref a2)] [] [(h0, .inr (2, [.int 0, .ref q0, .int 0, .int 0, .int 0, .int 0, .null, .null, .null, .null, .null, .null, .null, .null, .int 0, .int 0])), (q0, .inl (cy 0, 16, .inl (fun _ => 0)))]
  refine y_aload_n C dX2_init_12 rfl 0 rfl ?_
  refine y_iconst (v := (-1)) C dX2_init_13 (by decide) ?_
  refine y_put C yp_X2_15 (o := 0) rfl (Nat.le_of_ble_eq_true rfl) rfl rfl dX2_init_14 ?_
  show y_W F 1 16 17 [(0, .ref h0), (1, .ref a1), (2, .ref a2)] [] [(h0, .inr (2, [.int 0, .ref q0, .int 0, .int (-1), .int 0, .int 0, .null, .null, .null, .null, .null, .null, .null, .null, .int 0, .int 0])), (q0, .inl (cy 0, 16, .inl (fun _ => 0)))]
  refine y_aload_n C dX2_init_17 rfl 0 rfl ?_
  refine y_iconst (v := 4) C dX2_init_18 (by decide) ?_
  refine y_newq (M := 4) C yq_X2_19 (by decide) (by decide) (by decide) (Nat.le_of_ble_eq_true rfl) (Nat.le_of_ble_eq_true rfl) dX2_init_19 (fun q1 => ?_)
  show y_W F 2 20 22 [(0, .ref h0), (1, .ref a1), (2, .ref a2)] [.ref q1, .ref h0] [(h0, .inr (2, [.int 0, .ref q0, .int 0, .int (-1), .int 0, .int 0, .null, .null, .null, .null, .null, .null, .null, .null, .int 0, .int 0])), (q0, .inl (cy 0, 16, .inl (fun _ => 0))), (q1, .inl (cy 3, 4, .inr (.inr (.inr (.inr (fun _ => none))))))]
  refine y_putF C hi yf_X2_21 (o := 0) rfl (Nat.le_of_ble_eq_true rfl) rfl rfl dX2_init_22 ?_
  show y_W F 2 20 25 [(0, .ref h0), (1, .ref a1), (2, .ref a2)] [] [(h0, .inr (2, [.int 0, .ref q0, .int 0, .int (-1), .int 0, .int 0, .null, .null, .ref q1, .null, .null, .null, .null, .null, .int 0, .int 0])), (q0, .inl (cy 0, 16, .inl (fun _ => 0))), (q1, .inl (cy 3, 4, .inr (.inr (.inr (.inr (fun _ => none))))))]
  refine y_aload_n C dX2_init_25 rfl 0 rfl ?_
  refine y_bipush (v := 96) C dX2_init_26 (by decide) ?_
  refine y_newi (M := 96) C ya_int (by decide) (by decide) (by decide) (Nat.le_of_ble_eq_true rfl) (Nat.le_of_ble_eq_true rfl) dX2_init_28 (fun q2 => ?_)
  show y_W F 3 116 30 [(0, .ref h0), (1, .ref a1), (2, .ref a2)] [.ref q2, .ref h0] [(h0, .inr (2, [.int 0, .ref q0, .int 0, .int (-1), .int 0, .int 0, .null, .null, .ref q1, .null, .null, .null, .null, .null, .int 0, .int 0])), (q0, .inl (cy 0, 16, .inl (fun _ => 0))), (q1, .inl (cy 3, 4, .inr (.inr (.inr (.inr (fun _ => none)))))), (q2, .inl (cy 0, 96, .inl (fun _ => 0)))]
  refine y_putF C hi yf_X2_25 (o := 0) rfl (Nat.le_of_ble_eq_true rfl) rfl rfl dX2_init_30 ?_
  show y_W F 3 116 33 [(0, .ref h0), (1, .ref a1), (2, .ref a2)] [] [(h0, .inr (2, [.int 0, .ref q0, .int 0, .int (-1), .int 0, .int 0, .null, .null, .ref q1, .ref q2, .null, .null, .null, .null, .int 0, .int 0])), (q0, .inl (cy 0, 16, .inl (fun _ => 0))), (q1, .inl (cy 3, 4, .inr (.inr (.inr (.inr (fun _ => none)))))), (q2, .inl (cy 0, 96, .inl (fun _ => 0)))]
  refine y_aload_n C dX2_init_33 rfl 0 rfl ?_
  refine y_bipush (v := 96) C dX2_init_34 (by decide) ?_
  refine y_newi (M := 96) C ya_int (by decide) (by decide) (by decide) (Nat.le_of_ble_eq_true rfl) (Nat.le_of_ble_eq_true rfl) dX2_init_36 (fun q3 => ?_)
  show y_W F 4 212 38 [(0, .ref h0), (1, .ref a1), (2, .ref a2)] [.ref q3, .ref h0] [(h0, .inr (2, [.int 0, .ref q0, .int 0, .int (-1), .int 0, .int 0, .null, .null, .ref q1, .ref q2, .null, .null, .null, .null, .int 0, .int 0])), (q0, .inl (cy 0, 16, .inl (fun _ => 0))), (q1, .inl (cy 3, 4, .inr (.inr (.inr (.inr (fun _ => none)))))), (q2, .inl (cy 0, 96, .inl (fun _ => 0))), (q3, .inl (cy 0, 96, .inl (fun _ => 0)))]
  refine y_putF C hi yf_X2_28 (o := 0) rfl (Nat.le_of_ble_eq_true rfl) rfl rfl dX2_init_38 ?_
  show y_W F 4 212 41 [(0, .ref h0), (1, .ref a1), (2, .ref a2)] [] [(h0, .inr (2, [.int 0, .ref q0, .int 0, .int (-1), .int 0, .int 0, .null, .null, .ref q1, .ref q2, .ref q3, .null, .null, .null, .int 0, .int 0])), (q0, .inl (cy 0, 16, .inl (fun _ => 0))), (q1, .inl (cy 3, 4, .inr (.inr (.inr (.inr (fun _ => none)))))), (q2, .inl (cy 0, 96, .inl (fun _ => 0))), (q3, .inl (cy 0, 96, .inl (fun _ => 0)))]
  refine y_aload_n C dX2_init_41 rfl 0 rfl ?_
  refine y_bipush (v := 125) C dX2_init_42 (by decide) ?_
  refine y_newi (M := 125) C ya_int (by decide) (by decide) (by decide) (Nat.le_of_ble_eq_true rfl) (Nat.le_of_ble_eq_true rfl) dX2_init_44 (fun q4 => ?_)
  show y_W F 5 337 46 [(0, .ref h0), (1, .ref a1), (2, .ref a2)] [.ref q4, .ref h0] [(h0, .inr (2, [.int 0, .ref q0, .int 0, .int (-1), .int 0, .int 0, .null, .null, .ref q1, .ref q2, .ref q3, .null, .null, .null, .int 0, .int 0])), (q0, .inl (cy 0, 16, .inl (fun _ => 0))), (q1, .inl (cy 3, 4, .inr (.inr (.inr (.inr (fun _ => none)))))), (q2, .inl (cy 0, 96, .inl (fun _ => 0))), (q3, .inl (cy 0, 96, .inl (fun _ => 0))), (q4, .inl (cy 0, 125, .inl (fun _ => 0)))]
  refine y_putF C hi yf_X2_31 (o := 0) rfl (Nat.le_of_ble_eq_true rfl) rfl rfl dX2_init_46 ?_
  show y_W F 5 337 49 [(0, .ref h0), (1, .ref a1), (2, .ref a2)] [] [(h0, .inr (2, [.int 0, .ref q0, .int 0, .int (-1), .int 0, .int 0, .null, .null, .ref q1, .ref q2, .ref q3, .ref q4, .null, .null, .int 0, .int 0])), (q0, .inl (cy 0, 16, .inl (fun _ => 0))), (q1, .inl (cy 3, 4, .inr (.inr (.inr (.inr (fun _ => none)))))), (q2, .inl (cy 0, 96, .inl (fun _ => 0))), (q3, .inl (cy 0, 96, .inl (fun _ => 0))), (q4, .inl (cy 0, 125, .inl (fun _ => 0)))]
  refine y_aload_n C dX2_init_49 rfl 0 rfl ?_
  refine y_iconst (v := 4) C dX2_init_50 (by decide) ?_
  refine y_newi (M := 4) C ya_int (by decide) (by decide) (by decide) (Nat.le_of_ble_eq_true rfl) (Nat.le_of_ble_eq_true rfl) dX2_init_51 (fun q5 => ?_)
  show y_W F 6 341 53 [(0, .ref h0), (1, .ref a1), (2, .ref a2)] [.ref q5, .ref h0] [(h0, .inr (2, [.int 0, .ref q0, .int 0, .int (-1), .int 0, .int 0, .null, .null, .ref q1, .ref q2, .ref q3, .ref q4, .null, .null, .int 0, .int 0])), (q0, .inl (cy 0, 16, .inl (fun _ => 0))), (q1, .inl (cy 3, 4, .inr (.inr (.inr (.inr (fun _ => none)))))), (q2, .inl (cy 0, 96, .inl (fun _ => 0))), (q3, .inl (cy 0, 96, .inl (fun _ => 0))), (q4, .inl (cy 0, 125, .inl (fun _ => 0))), (q5, .inl (cy 0, 4, .inl (fun _ => 0)))]
  refine y_putF C hi yf_X2_34 (o := 0) rfl (Nat.le_of_ble_eq_true rfl) rfl rfl dX2_init_53 ?_
  show y_W F 6 341 56 [(0, .ref h0), (1, .ref a1), (2, .ref a2)] [] [(h0, .inr (2, [.int 0, .ref q0, .int 0, .int (-1), .int 0, .int 0, .null, .null, .ref q1, .ref q2, .ref q3, .ref q4, .ref q5, .null, .int 0, .int 0])), (q0, .inl (cy 0, 16, .inl (fun _ => 0))), (q1, .inl (cy 3, 4, .inr (.inr (.inr (.inr (fun _ => none)))))), (q2, .inl (cy 0, 96, .inl (fun _ => 0))), (q3, .inl (cy 0, 96, .inl (fun _ => 0))), (q4, .inl (cy 0, 125, .inl (fun _ => 0))), (q5, .inl (cy 0, 4, .inl (fun _ => 0)))]
  refine y_aload_n C dX2_init_56 rfl 0 rfl ?_
  refine y_iconst (v := 4) C dX2_init_57 (by decide) ?_
  refine y_newi (M := 4) C ya_int (by decide) (by decide) (by decide) (Nat.le_of_ble_eq_true rfl) (Nat.le_of_ble_eq_true rfl) dX2_init_58 (fun q6 => ?_)
  show y_W F 7 345 60 [(0, .ref h0), (1, .ref a1), (2, .ref a2)] [.ref q6, .ref h0] [(h0, .inr (2, [.int 0, .ref q0, .int 0, .int (-1), .int 0, .int 0, .null, .null, .ref q1, .ref q2, .ref q3, .ref q4, .ref q5, .null, .int 0, .int 0])), (q0, .inl (cy 0, 16, .inl (fun _ => 0))), (q1, .inl (cy 3, 4, .inr (.inr (.inr (.inr (fun _ => none)))))), (q2, .inl (cy 0, 96, .inl (fun _ => 0))), (q3, .inl (cy 0, 96, .inl (fun _ => 0))), (q4, .inl (cy 0, 125, .inl (fun _ => 0))), (q5, .inl (cy 0, 4, .inl (fun _ => 0))), (q6, .inl (cy 0, 4, .inl (fun _ => 0)))]
  refine y_putF C hi yf_X2_37 (o := 0) rfl (Nat.le_of_ble_eq_true rfl) rfl rfl dX2_init_60 ?_
  show y_W F 7 345 63 [(0, .ref h0), (1, .ref a1), (2, .ref a2)] [] [(h0, .inr (2, [.int 0, .ref q0, .int 0, .int (-1), .int 0, .int 0, .null, .null, .ref q1, .ref q2, .ref q3, .ref q4, .ref q5, .ref q6, .int 0, .int 0])), (q0, .inl (cy 0, 16, .inl (fun _ => 0))), (q1, .inl (cy 3, 4, .inr (.inr (.inr (.inr (fun _ => none)))))), (q2, .inl (cy 0, 96, .inl (fun _ => 0))), (q3, .inl (cy 0, 96, .inl (fun _ => 0))), (q4, .inl (cy 0, 125, .inl (fun _ => 0))), (q5, .inl (cy 0, 4, .inl (fun _ => 0))), (q6, .inl (cy 0, 4, .inl (fun _ => 0)))]
  refine y_aload_n C dX2_init_63 rfl 0 rfl ?_
  refine y_aload_n C dX2_init_64 rfl 1 rfl ?_
  refine y_putF C hi yf_X2_40 (o := 0) rfl (Nat.le_of_ble_eq_true rfl) rfl rfl dX2_init_65 ?_
  show y_W F 7 345 68 [(0, .ref h0), (1, .ref a1), (2, .ref a2)] [] [(h0, .inr (2, [.int 0, .ref q0, .int 0, .int (-1), .int 0, .int 0, .ref a1, .null, .ref q1, .ref q2, .ref q3, .ref q4, .ref q5, .ref q6, .int 0, .int 0])), (q0, .inl (cy 0, 16, .inl (fun _ => 0))), (q1, .inl (cy 3, 4, .inr (.inr (.inr (.inr (fun _ => none)))))), (q2, .inl (cy 0, 96, .inl (fun _ => 0))), (q3, .inl (cy 0, 96, .inl (fun _ => 0))), (q4, .inl (cy 0, 125, .inl (fun _ => 0))), (q5, .inl (cy 0, 4, .inl (fun _ => 0))), (q6, .inl (cy 0, 4, .inl (fun _ => 0)))]
  refine y_aload_n C dX2_init_68 rfl 0 rfl ?_
  refine y_aload_n C dX2_init_69 rfl 2 rfl ?_
  refine y_putF C hi yf_X2_44 (o := 0) rfl (Nat.le_of_ble_eq_true rfl) rfl rfl dX2_init_70 ?_
  show y_W F 7 345 73 [(0, .ref h0), (1, .ref a1), (2, .ref a2)] [] [(h0, .inr (2, [.int 0, .ref q0, .int 0, .int (-1), .int 0, .int 0, .ref a1, .ref a2, .ref q1, .ref q2, .ref q3, .ref q4, .ref q5, .ref q6, .int 0, .int 0])), (q0, .inl (cy 0, 16, .inl (fun _ => 0))), (q1, .inl (cy 3, 4, .inr (.inr (.inr (.inr (fun _ => none)))))), (q2, .inl (cy 0, 96, .inl (fun _ => 0))), (q3, .inl (cy 0, 96, .inl (fun _ => 0))), (q4, .inl (cy 0, 125, .inl (fun _ => 0))), (q5, .inl (cy 0, 4, .inl (fun _ => 0))), (q6, .inl (cy 0, 4, .inl (fun _ => 0)))]
  refine y_iconst (v := 0) C dX2_init_73 (by decide) ?_
  refine y_istore_n C dX2_init_74 rfl (by decide) [(3, .int 0), (0, .ref h0), (1, .ref a1), (2, .ref a2)] rfl ?_
  refine y_iload_n C dX2_init_75 rfl 0 rfl ?_
  refine y_iconst (v := 4) C dX2_init_76 (by decide) ?_
  refine y_icmp_ge 101 C dX2_init_77 (by decide) (fun h => absurd h (by decide)) (fun _ => ?_)
  refine y_aload_n C dX2_init_80 rfl 1 rfl ?_
  refine y_get (v := .ref q1) C yg_X2_21 (o := 0) rfl rfl dX2_init_81 ?_
  refine y_iload_n C dX2_init_84 rfl 0 rfl ?_
  refine y_new C yn_X2_19 (Nat.le_of_ble_eq_true rfl) (Nat.le_of_ble_eq_true rfl) dX2_init_85 (fun q7 => ?_)
  show y_W F 8 347 88 [(3, .int 0), (0, .ref h0), (1, .ref a1), (2, .ref a2)] [.ref q7, .int 0, .ref q1] [(q7, .inr (6, [.null, .int 0])), (h0, .inr (2, [.int 0, .ref q0, .int 0, .int (-1), .int 0, .int 0, .ref a1, .ref a2, .ref q1, .ref q2, .ref q3, .ref q4, .ref q5, .ref q6, .int 0, .int 0])), (q0, .inl (cy 0, 16, .inl (fun _ => 0))), (q1, .inl (cy 3, 4, .inr (.inr (.inr (.inr (fun _ => none)))))), (q2, .inl (cy 0, 96, .inl (fun _ => 0))), (q3, .inl (cy 0, 96, .inl (fun _ => 0))), (q4, .inl (cy 0, 125, .inl (fun _ => 0))), (q5, .inl (cy 0, 4, .inl (fun _ => 0))), (q6, .inl (cy 0, 4, .inl (fun _ => 0)))]
  refine y_dup C dX2_init_88 rfl ?_
  refine y_bipush (v := 24) C dX2_init_89 (by decide) ?_
  refine y_callI (a := q7) (w0 := fun _ => [(q7, .inr (6, [.null, .int 0]))]) (As := [.int 24]) [.ref q7, .int 0, .ref q1] C yc_X2_48 rfl ⟨by decide, by decide⟩ (Nat.le_of_ble_eq_true rfl) ⟨(Nat.le_of_ble_eq_true rfl), (Nat.le_of_ble_eq_true rfl)⟩ dX2_init_91 rfl rfl (mX6_init_24 q7) ?_
  rintro rv w ⟨rfl, q8, rfl⟩
  show y_W F 9 371 94 [(3, .int 0), (0, .ref h0), (1, .ref a1), (2, .ref a2)] [.ref q7, .int 0, .ref q1] [(h0, .inr (2, [.int 0, .ref q0, .int 0, .int (-1), .int 0, .int 0, .ref a1, .ref a2, .ref q1, .ref q2, .ref q3, .ref q4, .ref q5, .ref q6, .int 0, .int 0])), (q0, .inl (cy 0, 16, .inl (fun _ => 0))), (q1, .inl (cy 3, 4, .inr (.inr (.inr (.inr (fun _ => none)))))), (q2, .inl (cy 0, 96, .inl (fun _ => 0))), (q3, .inl (cy 0, 96, .inl (fun _ => 0))), (q4, .inl (cy 0, 125, .inl (fun _ => 0))), (q5, .inl (cy 0, 4, .inl (fun _ => 0))), (q6, .inl (cy 0, 4, .inl (fun _ => 0))), (q7, .inr (6, [.ref q8, .int 0])), (q8, .inl (cy 0, 24, .inl (fun _ => 0)))]
  refine y_aastK (k := 0) C (o := 2) (ok := 8) rfl rfl (by unfold vp_in; decide) (by decide) dX2_init_94 ?_
  show y_W F 9 371 95 [(3, .int 0), (0, .ref h0), (1, .ref a1), (2, .ref a2)] [] [(h0, .inr (2, [.int 0, .ref q0, .int 0, .int (-1), .int 0, .int 0, .ref a1, .ref a2, .ref q1, .ref q2, .ref q3, .ref q4, .ref q5, .ref q6, .int 0, .int 0])), (q0, .inl (cy 0, 16, .inl (fun _ => 0))), (q1, .inl (cy 3, 4, .inr (.inr (.inr (.inr (va_up (fun _ => none) 0 (some q7))))))), (q2, .inl (cy 0, 96, .inl (fun _ => 0))), (q3, .inl (cy 0, 96, .inl (fun _ => 0))), (q4, .inl (cy 0, 125, .inl (fun _ => 0))), (q5, .inl (cy 0, 4, .inl (fun _ => 0))), (q6, .inl (cy 0, 4, .inl (fun _ => 0))), (q7, .inr (6, [.ref q8, .int 0])), (q8, .inl (cy 0, 24, .inl (fun _ => 0)))]
  refine y_iinc (v := 1) C dX2_init_95 (by decide) 0 rfl (by decide) [(3, .int 1), (0, .ref h0), (1, .ref a1), (2, .ref a2)] rfl ?_
  refine y_goto 75 C dX2_init_98 (by decide) ?_
  refine y_iload_n C dX2_init_75 rfl 0 rfl ?_
  refine y_iconst (v := 4) C dX2_init_76 (by decide) ?_
  refine y_icmp_ge 101 C dX2_init_77 (by decide) (fun h => absurd h (by decide)) (fun _ => ?_)
  refine y_aload_n C dX2_init_80 rfl 1 rfl ?_
  refine y_get (v := .ref q1) C yg_X2_21 (o := 0) rfl rfl dX2_init_81 ?_
  refine y_iload_n C dX2_init_84 rfl 0 rfl ?_
  refine y_new C yn_X2_19 (Nat.le_of_ble_eq_true rfl) (Nat.le_of_ble_eq_true rfl) dX2_init_85 (fun q9 => ?_)
  show y_W F 10 373 88 [(3, .int 1), (0, .ref h0), (1, .ref a1), (2, .ref a2)] [.ref q9, .int 1, .ref q1] [(q9, .inr (6, [.null, .int 0])), (h0, .inr (2, [.int 0, .ref q0, .int 0, .int (-1), .int 0, .int 0, .ref a1, .ref a2, .ref q1, .ref q2, .ref q3, .ref q4, .ref q5, .ref q6, .int 0, .int 0])), (q0, .inl (cy 0, 16, .inl (fun _ => 0))), (q1, .inl (cy 3, 4, .inr (.inr (.inr (.inr (va_up (fun _ => none) 0 (some q7))))))), (q2, .inl (cy 0, 96, .inl (fun _ => 0))), (q3, .inl (cy 0, 96, .inl (fun _ => 0))), (q4, .inl (cy 0, 125, .inl (fun _ => 0))), (q5, .inl (cy 0, 4, .inl (fun _ => 0))), (q6, .inl (cy 0, 4, .inl (fun _ => 0))), (q7, .inr (6, [.ref q8, .int 0])), (q8, .inl (cy 0, 24, .inl (fun _ => 0)))]
  refine y_dup C dX2_init_88 rfl ?_
  refine y_bipush (v := 24) C dX2_init_89 (by decide) ?_
  refine y_callI (a := q9) (w0 := fun _ => [(q9, .inr (6, [.null, .int 0]))]) (As := [.int 24]) [.ref q9, .int 1, .ref q1] C yc_X2_48 rfl ⟨by decide, by decide⟩ (Nat.le_of_ble_eq_true rfl) ⟨(Nat.le_of_ble_eq_true rfl), (Nat.le_of_ble_eq_true rfl)⟩ dX2_init_91 rfl rfl (mX6_init_24 q9) ?_
  rintro rv w ⟨rfl, q10, rfl⟩
  show y_W F 11 397 94 [(3, .int 1), (0, .ref h0), (1, .ref a1), (2, .ref a2)] [.ref q9, .int 1, .ref q1] [(h0, .inr (2, [.int 0, .ref q0, .int 0, .int (-1), .int 0, .int 0, .ref a1, .ref a2, .ref q1, .ref q2, .ref q3, .ref q4, .ref q5, .ref q6, .int 0, .int 0])), (q0, .inl (cy 0, 16, .inl (fun _ => 0))), (q1, .inl (cy 3, 4, .inr (.inr (.inr (.inr (va_up (fun _ => none) 0 (some q7))))))), (q2, .inl (cy 0, 96, .inl (fun _ => 0))), (q3, .inl (cy 0, 96, .inl (fun _ => 0))), (q4, .inl (cy 0, 125, .inl (fun _ => 0))), (q5, .inl (cy 0, 4, .inl (fun _ => 0))), (q6, .inl (cy 0, 4, .inl (fun _ => 0))), (q7, .inr (6, [.ref q8, .int 0])), (q8, .inl (cy 0, 24, .inl (fun _ => 0))), (q9, .inr (6, [.ref q10, .int 0])), (q10, .inl (cy 0, 24, .inl (fun _ => 0)))]
  refine y_aastK (k := 1) C (o := 2) (ok := 10) rfl rfl (by unfold vp_in; decide) (by decide) dX2_init_94 ?_
  show y_W F 11 397 95 [(3, .int 1), (0, .ref h0), (1, .ref a1), (2, .ref a2)] [] [(h0, .inr (2, [.int 0, .ref q0, .int 0, .int (-1), .int 0, .int 0, .ref a1, .ref a2, .ref q1, .ref q2, .ref q3, .ref q4, .ref q5, .ref q6, .int 0, .int 0])), (q0, .inl (cy 0, 16, .inl (fun _ => 0))), (q1, .inl (cy 3, 4, .inr (.inr (.inr (.inr (va_up (va_up (fun _ => none) 0 (some q7)) 1 (some q9))))))), (q2, .inl (cy 0, 96, .inl (fun _ => 0))), (q3, .inl (cy 0, 96, .inl (fun _ => 0))), (q4, .inl (cy 0, 125, .inl (fun _ => 0))), (q5, .inl (cy 0, 4, .inl (fun _ => 0))), (q6, .inl (cy 0, 4, .inl (fun _ => 0))), (q7, .inr (6, [.ref q8, .int 0])), (q8, .inl (cy 0, 24, .inl (fun _ => 0))), (q9, .inr (6, [.ref q10, .int 0])), (q10, .inl (cy 0, 24, .inl (fun _ => 0)))]
  refine y_iinc (v := 2) C dX2_init_95 (by decide) 0 rfl (by decide) [(3, .int 2), (0, .ref h0), (1, .ref a1), (2, .ref a2)] rfl ?_
  refine y_goto 75 C dX2_init_98 (by decide) ?_
  refine y_iload_n C dX2_init_75 rfl 0 rfl ?_
  refine y_iconst (v := 4) C dX2_init_76 (by decide) ?_
  refine y_icmp_ge 101 C dX2_init_77 (by decide) (fun h => absurd h (by decide)) (fun _ => ?_)
  refine y_aload_n C dX2_init_80 rfl 1 rfl ?_
  refine y_get (v := .ref q1) C yg_X2_21 (o := 0) rfl rfl dX2_init_81 ?_
  refine y_iload_n C dX2_init_84 rfl 0 rfl ?_
  refine y_new C yn_X2_19 (Nat.le_of_ble_eq_true rfl) (Nat.le_of_ble_eq_true rfl) dX2_init_85 (fun q11 => ?_)
  show y_W F 12 399 88 [(3, .int 2), (0, .ref h0), (1, .ref a1), (2, .ref a2)] [.ref q11, .int 2, .ref q1] [(q11, .inr (6, [.null, .int 0])), (h0, .inr (2, [.int 0, .ref q0, .int 0, .int (-1), .int 0, .int 0, .ref a1, .ref a2, .ref q1, .ref q2, .ref q3, .ref q4, .ref q5, .ref q6, .int 0, .int 0])), (q0, .inl (cy 0, 16, .inl (fun _ => 0))), (q1, .inl (cy 3, 4, .inr (.inr (.inr (.inr (va_up (va_up (fun _ => none) 0 (some q7)) 1 (some q9))))))), (q2, .inl (cy 0, 96, .inl (fun _ => 0))), (q3, .inl (cy 0, 96, .inl (fun _ => 0))), (q4, .inl (cy 0, 125, .inl (fun _ => 0))), (q5, .inl (cy 0, 4, .inl (fun _ => 0))), (q6, .inl (cy 0, 4, .inl (fun _ => 0))), (q7, .inr (6, [.ref q8, .int 0])), (q8, .inl (cy 0, 24, .inl (fun _ => 0))), (q9, .inr (6, [.ref q10, .int 0])), (q10, .inl (cy 0, 24, .inl (fun _ => 0)))]
  refine y_dup C dX2_init_88 rfl ?_
  refine y_bipush (v := 24) C dX2_init_89 (by decide) ?_
  refine y_callI (a := q11) (w0 := fun _ => [(q11, .inr (6, [.null, .int 0]))]) (As := [.int 24]) [.ref q11, .int 2, .ref q1] C yc_X2_48 rfl ⟨by decide, by decide⟩ (Nat.le_of_ble_eq_true rfl) ⟨(Nat.le_of_ble_eq_true rfl), (Nat.le_of_ble_eq_true rfl)⟩ dX2_init_91 rfl rfl (mX6_init_24 q11) ?_
  rintro rv w ⟨rfl, q12, rfl⟩
  show y_W F 13 423 94 [(3, .int 2), (0, .ref h0), (1, .ref a1), (2, .ref a2)] [.ref q11, .int 2, .ref q1] [(h0, .inr (2, [.int 0, .ref q0, .int 0, .int (-1), .int 0, .int 0, .ref a1, .ref a2, .ref q1, .ref q2, .ref q3, .ref q4, .ref q5, .ref q6, .int 0, .int 0])), (q0, .inl (cy 0, 16, .inl (fun _ => 0))), (q1, .inl (cy 3, 4, .inr (.inr (.inr (.inr (va_up (va_up (fun _ => none) 0 (some q7)) 1 (some q9))))))), (q2, .inl (cy 0, 96, .inl (fun _ => 0))), (q3, .inl (cy 0, 96, .inl (fun _ => 0))), (q4, .inl (cy 0, 125, .inl (fun _ => 0))), (q5, .inl (cy 0, 4, .inl (fun _ => 0))), (q6, .inl (cy 0, 4, .inl (fun _ => 0))), (q7, .inr (6, [.ref q8, .int 0])), (q8, .inl (cy 0, 24, .inl (fun _ => 0))), (q9, .inr (6, [.ref q10, .int 0])), (q10, .inl (cy 0, 24, .inl (fun _ => 0))), (q11, .inr (6, [.ref q12, .int 0])), (q12, .inl (cy 0, 24, .inl (fun _ => 0)))]
  refine y_aastK (k := 2) C (o := 2) (ok := 12) rfl rfl (by unfold vp_in; decide) (by decide) dX2_init_94 ?_
  show y_W F 13 423 95 [(3, .int 2), (0, .ref h0), (1, .ref a1), (2, .ref a2)] [] [(h0, .inr (2, [.int 0, .ref q0, .int 0, .int (-1), .int 0, .int 0, .ref a1, .ref a2, .ref q1, .ref q2, .ref q3, .ref q4, .ref q5, .ref q6, .int 0, .int 0])), (q0, .inl (cy 0, 16, .inl (fun _ => 0))), (q1, .inl (cy 3, 4, .inr (.inr (.inr (.inr (va_up (va_up (va_up (fun _ => none) 0 (some q7)) 1 (some q9)) 2 (some q11))))))), (q2, .inl (cy 0, 96, .inl (fun _ => 0))), (q3, .inl (cy 0, 96, .inl (fun _ => 0))), (q4, .inl (cy 0, 125, .inl (fun _ => 0))), (q5, .inl (cy 0, 4, .inl (fun _ => 0))), (q6, .inl (cy 0, 4, .inl (fun _ => 0))), (q7, .inr (6, [.ref q8, .int 0])), (q8, .inl (cy 0, 24, .inl (fun _ => 0))), (q9, .inr (6, [.ref q10, .int 0])), (q10, .inl (cy 0, 24, .inl (fun _ => 0))), (q11, .inr (6, [.ref q12, .int 0])), (q12, .inl (cy 0, 24, .inl (fun _ => 0)))]
  refine y_iinc (v := 3) C dX2_init_95 (by decide) 0 rfl (by decide) [(3, .int 3), (0, .ref h0), (1, .ref a1), (2, .ref a2)] rfl ?_
  refine y_goto 75 C dX2_init_98 (by decide) ?_
  refine y_iload_n C dX2_init_75 rfl 0 rfl ?_
  refine y_iconst (v := 4) C dX2_init_76 (by decide) ?_
  refine y_icmp_ge 101 C dX2_init_77 (by decide) (fun h => absurd h (by decide)) (fun _ => ?_)
  refine y_aload_n C dX2_init_80 rfl 1 rfl ?_
  refine y_get (v := .ref q1) C yg_X2_21 (o := 0) rfl rfl dX2_init_81 ?_
  refine y_iload_n C dX2_init_84 rfl 0 rfl ?_
  refine y_new C yn_X2_19 (Nat.le_of_ble_eq_true rfl) (Nat.le_of_ble_eq_true rfl) dX2_init_85 (fun q13 => ?_)
  show y_W F 14 425 88 [(3, .int 3), (0, .ref h0), (1, .ref a1), (2, .ref a2)] [.ref q13, .int 3, .ref q1] [(q13, .inr (6, [.null, .int 0])), (h0, .inr (2, [.int 0, .ref q0, .int 0, .int (-1), .int 0, .int 0, .ref a1, .ref a2, .ref q1, .ref q2, .ref q3, .ref q4, .ref q5, .ref q6, .int 0, .int 0])), (q0, .inl (cy 0, 16, .inl (fun _ => 0))), (q1, .inl (cy 3, 4, .inr (.inr (.inr (.inr (va_up (va_up (va_up (fun _ => none) 0 (some q7)) 1 (some q9)) 2 (some q11))))))), (q2, .inl (cy 0, 96, .inl (fun _ => 0))), (q3, .inl (cy 0, 96, .inl (fun _ => 0))), (q4, .inl (cy 0, 125, .inl (fun _ => 0))), (q5, .inl (cy 0, 4, .inl (fun _ => 0))), (q6, .inl (cy 0, 4, .inl (fun _ => 0))), (q7, .inr (6, [.ref q8, .int 0])), (q8, .inl (cy 0, 24, .inl (fun _ => 0))), (q9, .inr (6, [.ref q10, .int 0])), (q10, .inl (cy 0, 24, .inl (fun _ => 0))), (q11, .inr (6, [.ref q12, .int 0])), (q12, .inl (cy 0, 24, .inl (fun _ => 0)))]
  refine y_dup C dX2_init_88 rfl ?_
  refine y_bipush (v := 24) C dX2_init_89 (by decide) ?_
  refine y_callI (a := q13) (w0 := fun _ => [(q13, .inr (6, [.null, .int 0]))]) (As := [.int 24]) [.ref q13, .int 3, .ref q1] C yc_X2_48 rfl ⟨by decide, by decide⟩ (Nat.le_of_ble_eq_true rfl) ⟨(Nat.le_of_ble_eq_true rfl), (Nat.le_of_ble_eq_true rfl)⟩ dX2_init_91 rfl rfl (mX6_init_24 q13) ?_
  rintro rv w ⟨rfl, q14, rfl⟩
  show y_W F 15 449 94 [(3, .int 3), (0, .ref h0), (1, .ref a1), (2, .ref a2)] [.ref q13, .int 3, .ref q1] [(h0, .inr (2, [.int 0, .ref q0, .int 0, .int (-1), .int 0, .int 0, .ref a1, .ref a2, .ref q1, .ref q2, .ref q3, .ref q4, .ref q5, .ref q6, .int 0, .int 0])), (q0, .inl (cy 0, 16, .inl (fun _ => 0))), (q1, .inl (cy 3, 4, .inr (.inr (.inr (.inr (va_up (va_up (va_up (fun _ => none) 0 (some q7)) 1 (some q9)) 2 (some q11))))))), (q2, .inl (cy 0, 96, .inl (fun _ => 0))), (q3, .inl (cy 0, 96, .inl (fun _ => 0))), (q4, .inl (cy 0, 125, .inl (fun _ => 0))), (q5, .inl (cy 0, 4, .inl (fun _ => 0))), (q6, .inl (cy 0, 4, .inl (fun _ => 0))), (q7, .inr (6, [.ref q8, .int 0])), (q8, .inl (cy 0, 24, .inl (fun _ => 0))), (q9, .inr (6, [.ref q10, .int 0])), (q10, .inl (cy 0, 24, .inl (fun _ => 0))), (q11, .inr (6, [.ref q12, .int 0])), (q12, .inl (cy 0, 24, .inl (fun _ => 0))), (q13, .inr (6, [.ref q14, .int 0])), (q14, .inl (cy 0, 24, .inl (fun _ => 0)))]
  refine y_aastK (k := 3) C (o := 2) (ok := 14) rfl rfl (by unfold vp_in; decide) (by decide) dX2_init_94 ?_
  show y_W F 15 449 95 [(3, .int 3), (0, .ref h0), (1, .ref a1), (2, .ref a2)] [] [(h0, .inr (2, [.int 0, .ref q0, .int 0, .int (-1), .int 0, .int 0, .ref a1, .ref a2, .ref q1, .ref q2, .ref q3, .ref q4, .ref q5, .ref q6, .int 0, .int 0])), (q0, .inl (cy 0, 16, .inl (fun _ => 0))), (q1, .inl (cy 3, 4, .inr (.inr (.inr (.inr (va_up (va_up (va_up (va_up (fun _ => none) 0 (some q7)) 1 (some q9)) 2 (some q11)) 3 (some q13))))))), (q2, .inl (cy 0, 96, .inl (fun _ => 0))), (q3, .inl (cy 0, 96, .inl (fun _ => 0))), (q4, .inl (cy 0, 125, .inl (fun _ => 0))), (q5, .inl (cy 0, 4, .inl (fun _ => 0))), (q6, .inl (cy 0, 4, .inl (fun _ => 0))), (q7, .inr (6, [.ref q8, .int 0])), (q8, .inl (cy 0, 24, .inl (fun _ => 0))), (q9, .inr (6, [.ref q10, .int 0])), (q10, .inl (cy 0, 24, .inl (fun _ => 0))), (q11, .inr (6, [.ref q12, .int 0])), (q12, .inl (cy 0, 24, .inl (fun _ => 0))), (q13, .inr (6, [.ref q14, .int 0])), (q14, .inl (cy 0, 24, .inl (fun _ => 0)))]
  refine y_iinc (v := 4) C dX2_init_95 (by decide) 0 rfl (by decide) [(3, .int 4), (0, .ref h0), (1, .ref a1), (2, .ref a2)] rfl ?_
  refine y_goto 75 C dX2_init_98 (by decide) ?_
  refine y_iload_n C dX2_init_75 rfl 0 rfl ?_
  refine y_iconst (v := 4) C dX2_init_76 (by decide) ?_
  refine y_icmp_ge 101 C dX2_init_77 (by decide) (fun _ => ?_) (fun h => absurd h (by decide))
  exact y_vret C E (by decide) (by decide) ⟨rfl, q0, q1, q2, q3, q4, q5, q6, q7, q8, q9, q10, q11, q12, q13, q14, rfl⟩ dX2_init_101
set_option maxHeartbeats 4000000 in
set_option maxRecDepth 100000 in
theorem mX1_init (h0 a1 a2 : Nat) : y_M yX1_init cX1_init 3 none 2 32 13 15046 [.ref h0, .ref a1, .ref a2] (fun _ => [(h0, .inr (1, [.null, .null, .int 0, .null, .null, .null, .null, .null, .null, .null, .null, .null, .null, .null, .null, .null]))]) (fun cy rv w => rv = none ∧ ∃ q0 q1 q2 q3 q4 q5 q6 q7 q8 q9 q10 q11 q12 : Nat, w = [(h0, .inr (1, [.ref a1, .ref a2, .int 0, .ref q0, .ref q1, .ref q2, .ref q3, .ref q4, .ref q5, .ref q6, .ref q7, .ref q8, .ref q9, .ref q10, .ref q11, .ref q12])), (q0, .inl (cy 1, 2000, .inr (.inl (fun _ => 0)))), (q1, .inl (cy 1, 2000, .inr (.inl (fun _ => 0)))), (q2, .inl (cy 0, 1024, .inl (fun _ => 0))), (q3, .inl (cy 0, 2000, .inl (fun _ => 0))), (q4, .inl (cy 0, 2000, .inl (fun _ => 0))), (q5, .inl (cy 0, 2000, .inl (fun _ => 0))), (q6, .inl (cy 1, 2000, .inr (.inl (fun _ => 0)))), (q7, .inl (cy 1, 2000, .inr (.inl (fun _ => 0)))), (q8, .inl (cy 1, 8, .inr (.inl (fun _ => 0)))), (q9, .inl (cy 1, 8, .inr (.inl (fun _ => 0)))), (q10, .inr (4, [.long 0, .long 0])), (q11, .inr (4, [.long 0, .long 0])), (q12, .inr (4, [.long 0, .long 0]))]) := by
  refine y_enter rfl (Nat.le_of_ble_eq_true rfl) ?_
  intro F cy C hi0 E
  have hi := hi0 rfl
  show y_W F 0 0 0 [(0, .ref h0), (1, .ref a1), (2, .ref a2)] [] [(h0, .inr (1, [.null, .null, .int 0, .null, .null, .null, .null, .null, .null, .null, .null, .null, .null, .null, .null, .null]))]
  refine y_aload_n C dX1_init_0 rfl 0 rfl ?_
  refine y_obj C yo_X1 yo_i yo_c (by decide) (Nat.le_of_ble_eq_true rfl) dX1_init_1 ?_
  refine y_aload_n C dX1_init_4 rfl 0 rfl ?_
  refine y_sipush (v := 2000) C dX1_init_5 (by decide) ?_
  refine y_newl (M := 2000) C ya_long (by decide) (by decide) (by decide) (Nat.le_of_ble_eq_true rfl) (Nat.le_of_ble_eq_true rfl) dX1_init_8 (fun q0 => ?_)
  show y_W F 1 2000 10 [(0, .ref h0), (1, .ref a1), (2, .ref a2)] [.ref q0, .ref h0] [(h0, .inr (1, [.null, .null, .int 0, .null, .null, .null, .null, .null, .null, .null, .null, .null, .null, .null, .null, .null])), (q0, .inl (cy 1, 2000, .inr (.inl (fun _ => 0))))]
  refine y_putF C hi yf_X1_9 (o := 0) rfl (Nat.le_of_ble_eq_true rfl) rfl rfl dX1_init_10 ?_
  show y_W F 1 2000 13 [(0, .ref h0), (1, .ref a1), (2, .ref a2)] [] [(h0, .inr (1, [.null, .null, .int 0, .ref q0, .null, .null, .null, .null, .null, .null, .null, .null, .null, .null, .null, .null])), (q0, .inl (cy 1, 2000, .inr (.inl (fun _ => 0))))]
  refine y_aload_n C dX1_init_13 rfl 0 rfl ?_
  refine y_sipush (v := 2000) C dX1_init_14 (by decide) ?_
  refine y_newl (M := 2000) C ya_long (by decide) (by decide) (by decide) (Nat.le_of_ble_eq_true rfl) (Nat.le_of_ble_eq_true rfl) dX1_init_17 (fun q1 => ?_)
  show y_W F 2 4000 19 [(0, .ref h0), (1, .ref a1), (2, .ref a2)] [.ref q1, .ref h0] [(h0, .inr (1, [.null, .null, .int 0, .ref q0, .null, .null, .null, .null, .null, .null, .null, .null, .null, .null, .null, .null])), (q0, .inl (cy 1, 2000, .inr (.inl (fun _ => 0)))), (q1, .inl (cy 1, 2000, .inr (.inl (fun _ => 0))))]
  refine y_putF C hi yf_X1_15 (o := 0) rfl (Nat.le_of_ble_eq_true rfl) rfl rfl dX1_init_19 ?_
  show y_W F 2 4000 22 [(0, .ref h0), (1, .ref a1), (2, .ref a2)] [] [(h0, .inr (1, [.null, .null, .int 0, .ref q0, .ref q1, .null, .null, .null, .null, .null, .null, .null, .null, .null, .null, .null])), (q0, .inl (cy 1, 2000, .inr (.inl (fun _ => 0)))), (q1, .inl (cy 1, 2000, .inr (.inl (fun _ => 0))))]
  refine y_aload_n C dX1_init_22 rfl 0 rfl ?_
  refine y_sipush (v := 1024) C dX1_init_23 (by decide) ?_
  refine y_newi (M := 1024) C ya_int (by decide) (by decide) (by decide) (Nat.le_of_ble_eq_true rfl) (Nat.le_of_ble_eq_true rfl) dX1_init_26 (fun q2 => ?_)
  show y_W F 3 5024 28 [(0, .ref h0), (1, .ref a1), (2, .ref a2)] [.ref q2, .ref h0] [(h0, .inr (1, [.null, .null, .int 0, .ref q0, .ref q1, .null, .null, .null, .null, .null, .null, .null, .null, .null, .null, .null])), (q0, .inl (cy 1, 2000, .inr (.inl (fun _ => 0)))), (q1, .inl (cy 1, 2000, .inr (.inl (fun _ => 0)))), (q2, .inl (cy 0, 1024, .inl (fun _ => 0)))]
  refine y_putF C hi yf_X1_18 (o := 0) rfl (Nat.le_of_ble_eq_true rfl) rfl rfl dX1_init_28 ?_
  show y_W F 3 5024 31 [(0, .ref h0), (1, .ref a1), (2, .ref a2)] [] [(h0, .inr (1, [.null, .null, .int 0, .ref q0, .ref q1, .ref q2, .null, .null, .null, .null, .null, .null, .null, .null, .null, .null])), (q0, .inl (cy 1, 2000, .inr (.inl (fun _ => 0)))), (q1, .inl (cy 1, 2000, .inr (.inl (fun _ => 0)))), (q2, .inl (cy 0, 1024, .inl (fun _ => 0)))]
  refine y_aload_n C dX1_init_31 rfl 0 rfl ?_
  refine y_sipush (v := 2000) C dX1_init_32 (by decide) ?_
  refine y_newi (M := 2000) C ya_int (by decide) (by decide) (by decide) (Nat.le_of_ble_eq_true rfl) (Nat.le_of_ble_eq_true rfl) dX1_init_35 (fun q3 => ?_)
  show y_W F 4 7024 37 [(0, .ref h0), (1, .ref a1), (2, .ref a2)] [.ref q3, .ref h0] [(h0, .inr (1, [.null, .null, .int 0, .ref q0, .ref q1, .ref q2, .null, .null, .null, .null, .null, .null, .null, .null, .null, .null])), (q0, .inl (cy 1, 2000, .inr (.inl (fun _ => 0)))), (q1, .inl (cy 1, 2000, .inr (.inl (fun _ => 0)))), (q2, .inl (cy 0, 1024, .inl (fun _ => 0))), (q3, .inl (cy 0, 2000, .inl (fun _ => 0)))]
  refine y_putF C hi yf_X1_22 (o := 0) rfl (Nat.le_of_ble_eq_true rfl) rfl rfl dX1_init_37 ?_
  show y_W F 4 7024 40 [(0, .ref h0), (1, .ref a1), (2, .ref a2)] [] [(h0, .inr (1, [.null, .null, .int 0, .ref q0, .ref q1, .ref q2, .ref q3, .null, .null, .null, .null, .null, .null, .null, .null, .null])), (q0, .inl (cy 1, 2000, .inr (.inl (fun _ => 0)))), (q1, .inl (cy 1, 2000, .inr (.inl (fun _ => 0)))), (q2, .inl (cy 0, 1024, .inl (fun _ => 0))), (q3, .inl (cy 0, 2000, .inl (fun _ => 0)))]
  refine y_aload_n C dX1_init_40 rfl 0 rfl ?_
  refine y_sipush (v := 2000) C dX1_init_41 (by decide) ?_
  refine y_newi (M := 2000) C ya_int (by decide) (by decide) (by decide) (Nat.le_of_ble_eq_true rfl) (Nat.le_of_ble_eq_true rfl) dX1_init_44 (fun q4 => ?_)
  show y_W F 5 9024 46 [(0, .ref h0), (1, .ref a1), (2, .ref a2)] [.ref q4, .ref h0] [(h0, .inr (1, [.null, .null, .int 0, .ref q0, .ref q1, .ref q2, .ref q3, .null, .null, .null, .null, .null, .null, .null, .null, .null])), (q0, .inl (cy 1, 2000, .inr (.inl (fun _ => 0)))), (q1, .inl (cy 1, 2000, .inr (.inl (fun _ => 0)))), (q2, .inl (cy 0, 1024, .inl (fun _ => 0))), (q3, .inl (cy 0, 2000, .inl (fun _ => 0))), (q4, .inl (cy 0, 2000, .inl (fun _ => 0)))]
  refine y_putF C hi yf_X1_25 (o := 0) rfl (Nat.le_of_ble_eq_true rfl) rfl rfl dX1_init_46 ?_
  show y_W F 5 9024 49 [(0, .ref h0), (1, .ref a1), (2, .ref a2)] [] [(h0, .inr (1, [.null, .null, .int 0, .ref q0, .ref q1, .ref q2, .ref q3, .ref q4, .null, .null, .null, .null, .null, .null, .null, .null])), (q0, .inl (cy 1, 2000, .inr (.inl (fun _ => 0)))), (q1, .inl (cy 1, 2000, .inr (.inl (fun _ => 0)))), (q2, .inl (cy 0, 1024, .inl (fun _ => 0))), (q3, .inl (cy 0, 2000, .inl (fun _ => 0))), (q4, .inl (cy 0, 2000, .inl (fun _ => 0)))]
  refine y_aload_n C dX1_init_49 rfl 0 rfl ?_
  refine y_sipush (v := 2000) C dX1_init_50 (by decide) ?_
  refine y_newi (M := 2000) C ya_int (by decide) (by decide) (by decide) (Nat.le_of_ble_eq_true rfl) (Nat.le_of_ble_eq_true rfl) dX1_init_53 (fun q5 => ?_)
  show y_W F 6 11024 55 [(0, .ref h0), (1, .ref a1), (2, .ref a2)] [.ref q5, .ref h0] [(h0, .inr (1, [.null, .null, .int 0, .ref q0, .ref q1, .ref q2, .ref q3, .ref q4, .null, .null, .null, .null, .null, .null, .null, .null])), (q0, .inl (cy 1, 2000, .inr (.inl (fun _ => 0)))), (q1, .inl (cy 1, 2000, .inr (.inl (fun _ => 0)))), (q2, .inl (cy 0, 1024, .inl (fun _ => 0))), (q3, .inl (cy 0, 2000, .inl (fun _ => 0))), (q4, .inl (cy 0, 2000, .inl (fun _ => 0))), (q5, .inl (cy 0, 2000, .inl (fun _ => 0)))]
  refine y_putF C hi yf_X1_28 (o := 0) rfl (Nat.le_of_ble_eq_true rfl) rfl rfl dX1_init_55 ?_
  show y_W F 6 11024 58 [(0, .ref h0), (1, .ref a1), (2, .ref a2)] [] [(h0, .inr (1, [.null, .null, .int 0, .ref q0, .ref q1, .ref q2, .ref q3, .ref q4, .ref q5, .null, .null, .null, .null, .null, .null, .null])), (q0, .inl (cy 1, 2000, .inr (.inl (fun _ => 0)))), (q1, .inl (cy 1, 2000, .inr (.inl (fun _ => 0)))), (q2, .inl (cy 0, 1024, .inl (fun _ => 0))), (q3, .inl (cy 0, 2000, .inl (fun _ => 0))), (q4, .inl (cy 0, 2000, .inl (fun _ => 0))), (q5, .inl (cy 0, 2000, .inl (fun _ => 0)))]
  refine y_aload_n C dX1_init_58 rfl 0 rfl ?_
  refine y_sipush (v := 2000) C dX1_init_59 (by decide) ?_
  refine y_newl (M := 2000) C ya_long (by decide) (by decide) (by decide) (Nat.le_of_ble_eq_true rfl) (Nat.le_of_ble_eq_true rfl) dX1_init_62 (fun q6 => ?_)
  show y_W F 7 13024 64 [(0, .ref h0), (1, .ref a1), (2, .ref a2)] [.ref q6, .ref h0] [(h0, .inr (1, [.null, .null, .int 0, .ref q0, .ref q1, .ref q2, .ref q3, .ref q4, .ref q5, .null, .null, .null, .null, .null, .null, .null])), (q0, .inl (cy 1, 2000, .inr (.inl (fun _ => 0)))), (q1, .inl (cy 1, 2000, .inr (.inl (fun _ => 0)))), (q2, .inl (cy 0, 1024, .inl (fun _ => 0))), (q3, .inl (cy 0, 2000, .inl (fun _ => 0))), (q4, .inl (cy 0, 2000, .inl (fun _ => 0))), (q5, .inl (cy 0, 2000, .inl (fun _ => 0))), (q6, .inl (cy 1, 2000, .inr (.inl (fun _ => 0))))]
  refine y_putF C hi yf_X1_31 (o := 0) rfl (Nat.le_of_ble_eq_true rfl) rfl rfl dX1_init_64 ?_
  show y_W F 7 13024 67 [(0, .ref h0), (1, .ref a1), (2, .ref a2)] [] [(h0, .inr (1, [.null, .null, .int 0, .ref q0, .ref q1, .ref q2, .ref q3, .ref q4, .ref q5, .ref q6, .null, .null, .null, .null, .null, .null])), (q0, .inl (cy 1, 2000, .inr (.inl (fun _ => 0)))), (q1, .inl (cy 1, 2000, .inr (.inl (fun _ => 0)))), (q2, .inl (cy 0, 1024, .inl (fun _ => 0))), (q3, .inl (cy 0, 2000, .inl (fun _ => 0))), (q4, .inl (cy 0, 2000, .inl (fun _ => 0))), (q5, .inl (cy 0, 2000, .inl (fun _ => 0))), (q6, .inl (cy 1, 2000, .inr (.inl (fun _ => 0))))]
  refine y_aload_n C dX1_init_67 rfl 0 rfl ?_
  refine y_sipush (v := 2000) C dX1_init_68 (by decide) ?_
  refine y_newl (M := 2000) C ya_long (by decide) (by decide) (by decide) (Nat.le_of_ble_eq_true rfl) (Nat.le_of_ble_eq_true rfl) dX1_init_71 (fun q7 => ?_)
  show y_W F 8 15024 73 [(0, .ref h0), (1, .ref a1), (2, .ref a2)] [.ref q7, .ref h0] [(h0, .inr (1, [.null, .null, .int 0, .ref q0, .ref q1, .ref q2, .ref q3, .ref q4, .ref q5, .ref q6, .null, .null, .null, .null, .null, .null])), (q0, .inl (cy 1, 2000, .inr (.inl (fun _ => 0)))), (q1, .inl (cy 1, 2000, .inr (.inl (fun _ => 0)))), (q2, .inl (cy 0, 1024, .inl (fun _ => 0))), (q3, .inl (cy 0, 2000, .inl (fun _ => 0))), (q4, .inl (cy 0, 2000, .inl (fun _ => 0))), (q5, .inl (cy 0, 2000, .inl (fun _ => 0))), (q6, .inl (cy 1, 2000, .inr (.inl (fun _ => 0)))), (q7, .inl (cy 1, 2000, .inr (.inl (fun _ => 0))))]
  refine y_putF C hi yf_X1_34 (o := 0) rfl (Nat.le_of_ble_eq_true rfl) rfl rfl dX1_init_73 ?_
  show y_W F 8 15024 76 [(0, .ref h0), (1, .ref a1), (2, .ref a2)] [] [(h0, .inr (1, [.null, .null, .int 0, .ref q0, .ref q1, .ref q2, .ref q3, .ref q4, .ref q5, .ref q6, .ref q7, .null, .null, .null, .null, .null])), (q0, .inl (cy 1, 2000, .inr (.inl (fun _ => 0)))), (q1, .inl (cy 1, 2000, .inr (.inl (fun _ => 0)))), (q2, .inl (cy 0, 1024, .inl (fun _ => 0))), (q3, .inl (cy 0, 2000, .inl (fun _ => 0))), (q4, .inl (cy 0, 2000, .inl (fun _ => 0))), (q5, .inl (cy 0, 2000, .inl (fun _ => 0))), (q6, .inl (cy 1, 2000, .inr (.inl (fun _ => 0)))), (q7, .inl (cy 1, 2000, .inr (.inl (fun _ => 0))))]
  refine y_aload_n C dX1_init_76 rfl 0 rfl ?_
  refine y_bipush (v := 8) C dX1_init_77 (by decide) ?_
  refine y_newl (M := 8) C ya_long (by decide) (by decide) (by decide) (Nat.le_of_ble_eq_true rfl) (Nat.le_of_ble_eq_true rfl) dX1_init_79 (fun q8 => ?_)
  show y_W F 9 15032 81 [(0, .ref h0), (1, .ref a1), (2, .ref a2)] [.ref q8, .ref h0] [(h0, .inr (1, [.null, .null, .int 0, .ref q0, .ref q1, .ref q2, .ref q3, .ref q4, .ref q5, .ref q6, .ref q7, .null, .null, .null, .null, .null])), (q0, .inl (cy 1, 2000, .inr (.inl (fun _ => 0)))), (q1, .inl (cy 1, 2000, .inr (.inl (fun _ => 0)))), (q2, .inl (cy 0, 1024, .inl (fun _ => 0))), (q3, .inl (cy 0, 2000, .inl (fun _ => 0))), (q4, .inl (cy 0, 2000, .inl (fun _ => 0))), (q5, .inl (cy 0, 2000, .inl (fun _ => 0))), (q6, .inl (cy 1, 2000, .inr (.inl (fun _ => 0)))), (q7, .inl (cy 1, 2000, .inr (.inl (fun _ => 0)))), (q8, .inl (cy 1, 8, .inr (.inl (fun _ => 0))))]
  refine y_putF C hi yf_X1_37 (o := 0) rfl (Nat.le_of_ble_eq_true rfl) rfl rfl dX1_init_81 ?_
  show y_W F 9 15032 84 [(0, .ref h0), (1, .ref a1), (2, .ref a2)] [] [(h0, .inr (1, [.null, .null, .int 0, .ref q0, .ref q1, .ref q2, .ref q3, .ref q4, .ref q5, .ref q6, .ref q7, .ref q8, .null, .null, .null, .null])), (q0, .inl (cy 1, 2000, .inr (.inl (fun _ => 0)))), (q1, .inl (cy 1, 2000, .inr (.inl (fun _ => 0)))), (q2, .inl (cy 0, 1024, .inl (fun _ => 0))), (q3, .inl (cy 0, 2000, .inl (fun _ => 0))), (q4, .inl (cy 0, 2000, .inl (fun _ => 0))), (q5, .inl (cy 0, 2000, .inl (fun _ => 0))), (q6, .inl (cy 1, 2000, .inr (.inl (fun _ => 0)))), (q7, .inl (cy 1, 2000, .inr (.inl (fun _ => 0)))), (q8, .inl (cy 1, 8, .inr (.inl (fun _ => 0))))]
  refine y_aload_n C dX1_init_84 rfl 0 rfl ?_
  refine y_bipush (v := 8) C dX1_init_85 (by decide) ?_
  refine y_newl (M := 8) C ya_long (by decide) (by decide) (by decide) (Nat.le_of_ble_eq_true rfl) (Nat.le_of_ble_eq_true rfl) dX1_init_87 (fun q9 => ?_)
  show y_W F 10 15040 89 [(0, .ref h0), (1, .ref a1), (2, .ref a2)] [.ref q9, .ref h0] [(h0, .inr (1, [.null, .null, .int 0, .ref q0, .ref q1, .ref q2, .ref q3, .ref q4, .ref q5, .ref q6, .ref q7, .ref q8, .null, .null, .null, .null])), (q0, .inl (cy 1, 2000, .inr (.inl (fun _ => 0)))), (q1, .inl (cy 1, 2000, .inr (.inl (fun _ => 0)))), (q2, .inl (cy 0, 1024, .inl (fun _ => 0))), (q3, .inl (cy 0, 2000, .inl (fun _ => 0))), (q4, .inl (cy 0, 2000, .inl (fun _ => 0))), (q5, .inl (cy 0, 2000, .inl (fun _ => 0))), (q6, .inl (cy 1, 2000, .inr (.inl (fun _ => 0)))), (q7, .inl (cy 1, 2000, .inr (.inl (fun _ => 0)))), (q8, .inl (cy 1, 8, .inr (.inl (fun _ => 0)))), (q9, .inl (cy 1, 8, .inr (.inl (fun _ => 0))))]
  refine y_putF C hi yf_X1_40 (o := 0) rfl (Nat.le_of_ble_eq_true rfl) rfl rfl dX1_init_89 ?_
  show y_W F 10 15040 92 [(0, .ref h0), (1, .ref a1), (2, .ref a2)] [] [(h0, .inr (1, [.null, .null, .int 0, .ref q0, .ref q1, .ref q2, .ref q3, .ref q4, .ref q5, .ref q6, .ref q7, .ref q8, .ref q9, .null, .null, .null])), (q0, .inl (cy 1, 2000, .inr (.inl (fun _ => 0)))), (q1, .inl (cy 1, 2000, .inr (.inl (fun _ => 0)))), (q2, .inl (cy 0, 1024, .inl (fun _ => 0))), (q3, .inl (cy 0, 2000, .inl (fun _ => 0))), (q4, .inl (cy 0, 2000, .inl (fun _ => 0))), (q5, .inl (cy 0, 2000, .inl (fun _ => 0))), (q6, .inl (cy 1, 2000, .inr (.inl (fun _ => 0)))), (q7, .inl (cy 1, 2000, .inr (.inl (fun _ => 0)))), (q8, .inl (cy 1, 8, .inr (.inl (fun _ => 0)))), (q9, .inl (cy 1, 8, .inr (.inl (fun _ => 0))))]
  refine y_aload_n C dX1_init_92 rfl 0 rfl ?_
  refine y_new C yn_X1_43 (Nat.le_of_ble_eq_true rfl) (Nat.le_of_ble_eq_true rfl) dX1_init_93 (fun q10 => ?_)
  show y_W F 11 15042 96 [(0, .ref h0), (1, .ref a1), (2, .ref a2)] [.ref q10, .ref h0] [(q10, .inr (4, [.long 0, .long 0])), (h0, .inr (1, [.null, .null, .int 0, .ref q0, .ref q1, .ref q2, .ref q3, .ref q4, .ref q5, .ref q6, .ref q7, .ref q8, .ref q9, .null, .null, .null])), (q0, .inl (cy 1, 2000, .inr (.inl (fun _ => 0)))), (q1, .inl (cy 1, 2000, .inr (.inl (fun _ => 0)))), (q2, .inl (cy 0, 1024, .inl (fun _ => 0))), (q3, .inl (cy 0, 2000, .inl (fun _ => 0))), (q4, .inl (cy 0, 2000, .inl (fun _ => 0))), (q5, .inl (cy 0, 2000, .inl (fun _ => 0))), (q6, .inl (cy 1, 2000, .inr (.inl (fun _ => 0)))), (q7, .inl (cy 1, 2000, .inr (.inl (fun _ => 0)))), (q8, .inl (cy 1, 8, .inr (.inl (fun _ => 0)))), (q9, .inl (cy 1, 8, .inr (.inl (fun _ => 0))))]
  refine y_dup C dX1_init_96 rfl ?_
  refine y_callIN (a := q10) (w0 := fun _ => [(q10, .inr (4, [.long 0, .long 0]))]) (As := []) [.ref q10, .ref h0] C yc_X1_45 rfl ⟨by decide, by decide⟩ (Nat.le_of_ble_eq_true rfl) ⟨(Nat.le_of_ble_eq_true rfl), (Nat.le_of_ble_eq_true rfl)⟩ dX1_init_97 rfl rfl (mX4_init q10) ?_
  rintro rv w ⟨rfl, rfl⟩
  show y_W F 11 15042 100 [(0, .ref h0), (1, .ref a1), (2, .ref a2)] [.ref q10, .ref h0] [(h0, .inr (1, [.null, .null, .int 0, .ref q0, .ref q1, .ref q2, .ref q3, .ref q4, .ref q5, .ref q6, .ref q7, .ref q8, .ref q9, .null, .null, .null])), (q0, .inl (cy 1, 2000, .inr (.inl (fun _ => 0)))), (q1, .inl (cy 1, 2000, .inr (.inl (fun _ => 0)))), (q2, .inl (cy 0, 1024, .inl (fun _ => 0))), (q3, .inl (cy 0, 2000, .inl (fun _ => 0))), (q4, .inl (cy 0, 2000, .inl (fun _ => 0))), (q5, .inl (cy 0, 2000, .inl (fun _ => 0))), (q6, .inl (cy 1, 2000, .inr (.inl (fun _ => 0)))), (q7, .inl (cy 1, 2000, .inr (.inl (fun _ => 0)))), (q8, .inl (cy 1, 8, .inr (.inl (fun _ => 0)))), (q9, .inl (cy 1, 8, .inr (.inl (fun _ => 0)))), (q10, .inr (4, [.long 0, .long 0]))]
  refine y_putF C hi yf_X1_46 (o := 0) rfl (Nat.le_of_ble_eq_true rfl) rfl rfl dX1_init_100 ?_
  show y_W F 11 15042 103 [(0, .ref h0), (1, .ref a1), (2, .ref a2)] [] [(h0, .inr (1, [.null, .null, .int 0, .ref q0, .ref q1, .ref q2, .ref q3, .ref q4, .ref q5, .ref q6, .ref q7, .ref q8, .ref q9, .ref q10, .null, .null])), (q0, .inl (cy 1, 2000, .inr (.inl (fun _ => 0)))), (q1, .inl (cy 1, 2000, .inr (.inl (fun _ => 0)))), (q2, .inl (cy 0, 1024, .inl (fun _ => 0))), (q3, .inl (cy 0, 2000, .inl (fun _ => 0))), (q4, .inl (cy 0, 2000, .inl (fun _ => 0))), (q5, .inl (cy 0, 2000, .inl (fun _ => 0))), (q6, .inl (cy 1, 2000, .inr (.inl (fun _ => 0)))), (q7, .inl (cy 1, 2000, .inr (.inl (fun _ => 0)))), (q8, .inl (cy 1, 8, .inr (.inl (fun _ => 0)))), (q9, .inl (cy 1, 8, .inr (.inl (fun _ => 0)))), (q10, .inr (4, [.long 0, .long 0]))]
  refine y_aload_n C dX1_init_103 rfl 0 rfl ?_
  refine y_new C yn_X1_43 (Nat.le_of_ble_eq_true rfl) (Nat.le_of_ble_eq_true rfl) dX1_init_104 (fun q11 => ?_)
  show y_W F 12 15044 107 [(0, .ref h0), (1, .ref a1), (2, .ref a2)] [.ref q11, .ref h0] [(q11, .inr (4, [.long 0, .long 0])), (h0, .inr (1, [.null, .null, .int 0, .ref q0, .ref q1, .ref q2, .ref q3, .ref q4, .ref q5, .ref q6, .ref q7, .ref q8, .ref q9, .ref q10, .null, .null])), (q0, .inl (cy 1, 2000, .inr (.inl (fun _ => 0)))), (q1, .inl (cy 1, 2000, .inr (.inl (fun _ => 0)))), (q2, .inl (cy 0, 1024, .inl (fun _ => 0))), (q3, .inl (cy 0, 2000, .inl (fun _ => 0))), (q4, .inl (cy 0, 2000, .inl (fun _ => 0))), (q5, .inl (cy 0, 2000, .inl (fun _ => 0))), (q6, .inl (cy 1, 2000, .inr (.inl (fun _ => 0)))), (q7, .inl (cy 1, 2000, .inr (.inl (fun _ => 0)))), (q8, .inl (cy 1, 8, .inr (.inl (fun _ => 0)))), (q9, .inl (cy 1, 8, .inr (.inl (fun _ => 0)))), (q10, .inr (4, [.long 0, .long 0]))]
  refine y_dup C dX1_init_107 rfl ?_
  refine y_callIN (a := q11) (w0 := fun _ => [(q11, .inr (4, [.long 0, .long 0]))]) (As := []) [.ref q11, .ref h0] C yc_X1_45 rfl ⟨by decide, by decide⟩ (Nat.le_of_ble_eq_true rfl) ⟨(Nat.le_of_ble_eq_true rfl), (Nat.le_of_ble_eq_true rfl)⟩ dX1_init_108 rfl rfl (mX4_init q11) ?_
  rintro rv w ⟨rfl, rfl⟩
  show y_W F 12 15044 111 [(0, .ref h0), (1, .ref a1), (2, .ref a2)] [.ref q11, .ref h0] [(h0, .inr (1, [.null, .null, .int 0, .ref q0, .ref q1, .ref q2, .ref q3, .ref q4, .ref q5, .ref q6, .ref q7, .ref q8, .ref q9, .ref q10, .null, .null])), (q0, .inl (cy 1, 2000, .inr (.inl (fun _ => 0)))), (q1, .inl (cy 1, 2000, .inr (.inl (fun _ => 0)))), (q2, .inl (cy 0, 1024, .inl (fun _ => 0))), (q3, .inl (cy 0, 2000, .inl (fun _ => 0))), (q4, .inl (cy 0, 2000, .inl (fun _ => 0))), (q5, .inl (cy 0, 2000, .inl (fun _ => 0))), (q6, .inl (cy 1, 2000, .inr (.inl (fun _ => 0)))), (q7, .inl (cy 1, 2000, .inr (.inl (fun _ => 0)))), (q8, .inl (cy 1, 8, .inr (.inl (fun _ => 0)))), (q9, .inl (cy 1, 8, .inr (.inl (fun _ => 0)))), (q10, .inr (4, [.long 0, .long 0])), (q11, .inr (4, [.long 0, .long 0]))]
  refine y_putF C hi yf_X1_50 (o := 0) rfl (Nat.le_of_ble_eq_true rfl) rfl rfl dX1_init_111 ?_
  show y_W F 12 15044 114 [(0, .ref h0), (1, .ref a1), (2, .ref a2)] [] [(h0, .inr (1, [.null, .null, .int 0, .ref q0, .ref q1, .ref q2, .ref q3, .ref q4, .ref q5, .ref q6, .ref q7, .ref q8, .ref q9, .ref q10, .ref q11, .null])), (q0, .inl (cy 1, 2000, .inr (.inl (fun _ => 0)))), (q1, .inl (cy 1, 2000, .inr (.inl (fun _ => 0)))), (q2, .inl (cy 0, 1024, .inl (fun _ => 0))), (q3, .inl (cy 0, 2000, .inl (fun _ => 0))), (q4, .inl (cy 0, 2000, .inl (fun _ => 0))), (q5, .inl (cy 0, 2000, .inl (fun _ => 0))), (q6, .inl (cy 1, 2000, .inr (.inl (fun _ => 0)))), (q7, .inl (cy 1, 2000, .inr (.inl (fun _ => 0)))), (q8, .inl (cy 1, 8, .inr (.inl (fun _ => 0)))), (q9, .inl (cy 1, 8, .inr (.inl (fun _ => 0)))), (q10, .inr (4, [.long 0, .long 0])), (q11, .inr (4, [.long 0, .long 0]))]
  refine y_aload_n C dX1_init_114 rfl 0 rfl ?_
  refine y_new C yn_X1_43 (Nat.le_of_ble_eq_true rfl) (Nat.le_of_ble_eq_true rfl) dX1_init_115 (fun q12 => ?_)
  show y_W F 13 15046 118 [(0, .ref h0), (1, .ref a1), (2, .ref a2)] [.ref q12, .ref h0] [(q12, .inr (4, [.long 0, .long 0])), (h0, .inr (1, [.null, .null, .int 0, .ref q0, .ref q1, .ref q2, .ref q3, .ref q4, .ref q5, .ref q6, .ref q7, .ref q8, .ref q9, .ref q10, .ref q11, .null])), (q0, .inl (cy 1, 2000, .inr (.inl (fun _ => 0)))), (q1, .inl (cy 1, 2000, .inr (.inl (fun _ => 0)))), (q2, .inl (cy 0, 1024, .inl (fun _ => 0))), (q3, .inl (cy 0, 2000, .inl (fun _ => 0))), (q4, .inl (cy 0, 2000, .inl (fun _ => 0))), (q5, .inl (cy 0, 2000, .inl (fun _ => 0))), (q6, .inl (cy 1, 2000, .inr (.inl (fun _ => 0)))), (q7, .inl (cy 1, 2000, .inr (.inl (fun _ => 0)))), (q8, .inl (cy 1, 8, .inr (.inl (fun _ => 0)))), (q9, .inl (cy 1, 8, .inr (.inl (fun _ => 0)))), (q10, .inr (4, [.long 0, .long 0])), (q11, .inr (4, [.long 0, .long 0]))]
  refine y_dup C dX1_init_118 rfl ?_
  refine y_callIN (a := q12) (w0 := fun _ => [(q12, .inr (4, [.long 0, .long 0]))]) (As := []) [.ref q12, .ref h0] C yc_X1_45 rfl ⟨by decide, by decide⟩ (Nat.le_of_ble_eq_true rfl) ⟨(Nat.le_of_ble_eq_true rfl), (Nat.le_of_ble_eq_true rfl)⟩ dX1_init_119 rfl rfl (mX4_init q12) ?_
  rintro rv w ⟨rfl, rfl⟩
  show y_W F 13 15046 122 [(0, .ref h0), (1, .ref a1), (2, .ref a2)] [.ref q12, .ref h0] [(h0, .inr (1, [.null, .null, .int 0, .ref q0, .ref q1, .ref q2, .ref q3, .ref q4, .ref q5, .ref q6, .ref q7, .ref q8, .ref q9, .ref q10, .ref q11, .null])), (q0, .inl (cy 1, 2000, .inr (.inl (fun _ => 0)))), (q1, .inl (cy 1, 2000, .inr (.inl (fun _ => 0)))), (q2, .inl (cy 0, 1024, .inl (fun _ => 0))), (q3, .inl (cy 0, 2000, .inl (fun _ => 0))), (q4, .inl (cy 0, 2000, .inl (fun _ => 0))), (q5, .inl (cy 0, 2000, .inl (fun _ => 0))), (q6, .inl (cy 1, 2000, .inr (.inl (fun _ => 0)))), (q7, .inl (cy 1, 2000, .inr (.inl (fun _ => 0)))), (q8, .inl (cy 1, 8, .inr (.inl (fun _ => 0)))), (q9, .inl (cy 1, 8, .inr (.inl (fun _ => 0)))), (q10, .inr (4, [.long 0, .long 0])), (q11, .inr (4, [.long 0, .long 0])), (q12, .inr (4, [.long 0, .long 0]))]
  refine y_putF C hi yf_X1_53 (o := 0) rfl (Nat.le_of_ble_eq_true rfl) rfl rfl dX1_init_122 ?_
  show y_W F 13 15046 125 [(0, .ref h0), (1, .ref a1), (2, .ref a2)] [] [(h0, .inr (1, [.null, .null, .int 0, .ref q0, .ref q1, .ref q2, .ref q3, .ref q4, .ref q5, .ref q6, .ref q7, .ref q8, .ref q9, .ref q10, .ref q11, .ref q12])), (q0, .inl (cy 1, 2000, .inr (.inl (fun _ => 0)))), (q1, .inl (cy 1, 2000, .inr (.inl (fun _ => 0)))), (q2, .inl (cy 0, 1024, .inl (fun _ => 0))), (q3, .inl (cy 0, 2000, .inl (fun _ => 0))), (q4, .inl (cy 0, 2000, .inl (fun _ => 0))), (q5, .inl (cy 0, 2000, .inl (fun _ => 0))), (q6, .inl (cy 1, 2000, .inr (.inl (fun _ => 0)))), (q7, .inl (cy 1, 2000, .inr (.inl (fun _ => 0)))), (q8, .inl (cy 1, 8, .inr (.inl (fun _ => 0)))), (q9, .inl (cy 1, 8, .inr (.inl (fun _ => 0)))), (q10, .inr (4, [.long 0, .long 0])), (q11, .inr (4, [.long 0, .long 0])), (q12, .inr (4, [.long 0, .long 0]))]
  refine y_aload_n C dX1_init_125 rfl 0 rfl ?_
  refine y_aload_n C dX1_init_126 rfl 1 rfl ?_
  refine y_putF C hi yf_X1_56 (o := 0) rfl (Nat.le_of_ble_eq_true rfl) rfl rfl dX1_init_127 ?_
  show y_W F 13 15046 130 [(0, .ref h0), (1, .ref a1), (2, .ref a2)] [] [(h0, .inr (1, [.ref a1, .null, .int 0, .ref q0, .ref q1, .ref q2, .ref q3, .ref q4, .ref q5, .ref q6, .ref q7, .ref q8, .ref q9, .ref q10, .ref q11, .ref q12])), (q0, .inl (cy 1, 2000, .inr (.inl (fun _ => 0)))), (q1, .inl (cy 1, 2000, .inr (.inl (fun _ => 0)))), (q2, .inl (cy 0, 1024, .inl (fun _ => 0))), (q3, .inl (cy 0, 2000, .inl (fun _ => 0))), (q4, .inl (cy 0, 2000, .inl (fun _ => 0))), (q5, .inl (cy 0, 2000, .inl (fun _ => 0))), (q6, .inl (cy 1, 2000, .inr (.inl (fun _ => 0)))), (q7, .inl (cy 1, 2000, .inr (.inl (fun _ => 0)))), (q8, .inl (cy 1, 8, .inr (.inl (fun _ => 0)))), (q9, .inl (cy 1, 8, .inr (.inl (fun _ => 0)))), (q10, .inr (4, [.long 0, .long 0])), (q11, .inr (4, [.long 0, .long 0])), (q12, .inr (4, [.long 0, .long 0]))]
  refine y_aload_n C dX1_init_130 rfl 0 rfl ?_
  refine y_aload_n C dX1_init_131 rfl 2 rfl ?_
  refine y_putF C hi yf_X1_60 (o := 0) rfl (Nat.le_of_ble_eq_true rfl) rfl rfl dX1_init_132 ?_
  show y_W F 13 15046 135 [(0, .ref h0), (1, .ref a1), (2, .ref a2)] [] [(h0, .inr (1, [.ref a1, .ref a2, .int 0, .ref q0, .ref q1, .ref q2, .ref q3, .ref q4, .ref q5, .ref q6, .ref q7, .ref q8, .ref q9, .ref q10, .ref q11, .ref q12])), (q0, .inl (cy 1, 2000, .inr (.inl (fun _ => 0)))), (q1, .inl (cy 1, 2000, .inr (.inl (fun _ => 0)))), (q2, .inl (cy 0, 1024, .inl (fun _ => 0))), (q3, .inl (cy 0, 2000, .inl (fun _ => 0))), (q4, .inl (cy 0, 2000, .inl (fun _ => 0))), (q5, .inl (cy 0, 2000, .inl (fun _ => 0))), (q6, .inl (cy 1, 2000, .inr (.inl (fun _ => 0)))), (q7, .inl (cy 1, 2000, .inr (.inl (fun _ => 0)))), (q8, .inl (cy 1, 8, .inr (.inl (fun _ => 0)))), (q9, .inl (cy 1, 8, .inr (.inl (fun _ => 0)))), (q10, .inr (4, [.long 0, .long 0])), (q11, .inr (4, [.long 0, .long 0])), (q12, .inr (4, [.long 0, .long 0]))]
  exact y_vret C E (by decide) (by decide) ⟨rfl, q0, q1, q2, q3, q4, q5, q6, q7, q8, q9, q10, q11, q12, rfl⟩ dX1_init_135

/-! before the states of knowing are made -/
def gz (g : z_S) : z_S := (fun o => if o < 47 then g.1 o else fun _ => 0, fun o => if o < 47 then g.2 o else fun _ => 0)
theorem gz1 {g : z_S} {o : Nat} (h : o < 47) : (gz g).1 o = g.1 o := if_pos h
theorem gz2 {g : z_S} {o : Nat} (h : o < 47) : (gz g).2 o = g.2 o := if_pos h
theorem gz_gz (g : z_S) : gz (gz g) = gz g := by
  refine Prod.ext ?_ ?_
  · funext o
    by_cases h : o < 47
    · show (if o < 47 then (gz g).1 o else fun _ => 0) = (gz g).1 o
      rw [if_pos h]
    · show (if o < 47 then (gz g).1 o else fun _ => 0) = (if o < 47 then g.1 o else fun _ => 0)
      rw [if_neg h, if_neg h]
  · funext o
    by_cases h : o < 47
    · show (if o < 47 then (gz g).2 o else fun _ => 0) = (gz g).2 o
      rw [if_pos h]
    · show (if o < 47 then (gz g).2 o else fun _ => 0) = (if o < 47 then g.2 o else fun _ => 0)
      rw [if_neg h, if_neg h]
theorem gz_w (ad : Nat → Nat) (cy : Nat → ClassId) (g : z_S) : z_w (layX false) (nX false) ad cy (gz g) = z_w (layX false) (nX false) ad cy g := by
  apply List.ext_getElem?
  intro i
  by_cases h : i < nX false
  · rw [z_w_get h, z_w_get h, z_e_congr (gz1 h) (gz2 h)]
  · simp [z_w, h]
theorem gz_X {A : aS} {g : z_S} (hA : I_ok A) (hX : R_X A g) : R_X A (gz g) := by
  obtain ⟨x1, xB, xC, xD, xE, xF, xG, xH⟩ := hX
  have h3 := hA.1.2.2.2.2.1
  refine ⟨x1, xB, xC, xD, xE, ?_, xG, xH⟩
  intro l hl
  rw [gz1 (o := 34 + 2 * l) (by omega), gz1 (o := 35 + 2 * l) (by omega)]
  exact xF l hl
theorem gz_C {A : aS} {g : z_S} (hC : CI A g) : CI A (gz g) := hC
section YZ
variable {F : z_F} {cc : ByteArray} {own : String} {nl : Nat} {ret : Option FieldType} {R0 : Room} {cy : Nat → ClassId} {kC kS : Nat} {pc : Nat} {lv lv' : List (Nat × Value)} {st : List Value} {g : z_S} {L : Nat → z_C} {N : Nat} {ad : Nat → Nat}
theorem y_getz {index o ci k : Nat} {kd : Nat × Nat} (C : y_X F cc own nl ret R0 cy) (f : z_FL own index ci k) (ly : z_fk L N o ci k kd) (hd : decode cc pc = .ok (.getfield index, 3)) (K : y_W F kC kS (pc + 3) lv (z_v ad g o k kd :: st) (z_w L N ad cy g)) : y_W F kC kS pc lv (.ref (ad o) :: st) (z_w L N ad cy g) := by
  obtain ⟨hoN, ks, hL, hks⟩ := ly
  exact y_get C f (o := o) (fs := z_fs ad g o ks) (by rw [z_w_get hoN, hL]; rfl) (z_fs_get hks) hd K
theorem y_getiz {index o ci k r : Nat} (C : y_X F cc own nl ret R0 cy) (f : z_FL own index ci k) (ly : z_fk L N o ci k (0, r)) (hd : decode cc pc = .ok (.getfield index, 3)) (K : y_W F kC kS (pc + 3) lv (.int (g.1 o k) :: st) (z_w L N ad cy g)) : y_W F kC kS pc lv (.ref (ad o) :: st) (z_w L N ad cy g) := y_getz C f ly hd K
theorem y_getrz {index o ci k r : Nat} (C : y_X F cc own nl ret R0 cy) (f : z_FL own index ci k) (ly : z_fk L N o ci k (2, r)) (hd : decode cc pc = .ok (.getfield index, 3)) (K : y_W F kC kS (pc + 3) lv (.ref (ad r) :: st) (z_w L N ad cy g)) : y_W F kC kS pc lv (.ref (ad o) :: st) (z_w L N ad cy g) := y_getz C f ly hd K
theorem y_getnz {index o ci k r : Nat} (C : y_X F cc own nl ret R0 cy) (f : z_FL own index ci k) (ly : z_fk L N o ci k (3, r)) (hd : decode cc pc = .ok (.getfield index, 3)) (K : y_W F kC kS (pc + 3) lv (.null :: st) (z_w L N ad cy g)) : y_W F kC kS pc lv (.ref (ad o) :: st) (z_w L N ad cy g) := y_getz C f ly hd K
theorem y_ialdz {o n : Nat} {i : Int32} (C : y_X F cc own nl ret R0 cy) (ly : z_ak L N o 0 n) (hin : vp_in i n) (hd : decode cc pc = .ok (.iaload, 1)) (K : y_W F kC kS (pc + 1) lv (.int (g.1 o i.toNatClampNeg) :: st) (z_w L N ad cy g)) : y_W F kC kS pc lv (.int i :: .ref (ad o) :: st) (z_w L N ad cy g) := by
  obtain ⟨hoN, rs, hL⟩ := ly
  exact y_iald C (o := o) (by rw [z_w_get hoN, hL]; rfl) hin hd K
end YZ
theorem y_rB {cy : Nat → ClassId} {L : Nat → z_C} {N : Nat} {ad : Nat → Nat} {B : Option Value → va_W → Prop} {x r : Int32} {g gE : z_S} (h : some (x, g) = some (r, gE)) (hB : B (some (.int r)) (z_w L N ad cy gE)) : B (some (.int x)) (z_w L N ad cy g) := by
  cases h
  exact hB
theorem y_rBl {cy : Nat → ClassId} {L : Nat → z_C} {N : Nat} {ad : Nat → Nat} {B : Option Value → va_W → Prop} {x r : Int64} {g gE : z_S} (h : some (x, g) = some (r, gE)) (hB : B (some (.long r)) (z_w L N ad cy gE)) : B (some (.long x)) (z_w L N ad cy g) := by
  cases h
  exact hB
set_option maxRecDepth 100000 in
set_option maxHeartbeats 4000000 in
theorem kn_w (ad : Nat → Nat) (cy : Nat → ClassId) (g : z_S) (q k0 k1 k2 k3 k4 k5 k6 k7 k8 k9 k10 k11 k12 : Nat) : (z_w (layX false) (nX false) ad cy g ++ ([(q, .inr (1, [.ref (ad 4), .ref (ad 1), .int 0, .ref k0, .ref k1, .ref k2, .ref k3, .ref k4, .ref k5, .ref k6, .ref k7, .ref k8, .ref k9, .ref k10, .ref k11, .ref k12])), (k0, .inl (cy 1, 2000, .inr (.inl (fun _ => 0)))), (k1, .inl (cy 1, 2000, .inr (.inl (fun _ => 0)))), (k2, .inl (cy 0, 1024, .inl (fun _ => 0))), (k3, .inl (cy 0, 2000, .inl (fun _ => 0))), (k4, .inl (cy 0, 2000, .inl (fun _ => 0))), (k5, .inl (cy 0, 2000, .inl (fun _ => 0))), (k6, .inl (cy 1, 2000, .inr (.inl (fun _ => 0)))), (k7, .inl (cy 1, 2000, .inr (.inl (fun _ => 0)))), (k8, .inl (cy 1, 8, .inr (.inl (fun _ => 0)))), (k9, .inl (cy 1, 8, .inr (.inl (fun _ => 0)))), (k10, .inr (4, [.long 0, .long 0])), (k11, .inr (4, [.long 0, .long 0])), (k12, .inr (4, [.long 0, .long 0]))] : va_W)).set 0 (ad 0, .inr (10, (z_fs ad g 0 [(2, 1), (2, 4), (2, 9), (2, 11), (2, 13), (2, 19), (2, 23), (2, 26), (2, 42), (2, 43), (2, 45), (3, 0)]).set 11 (.ref q))) = z_w (layX true) (nX true) (fun o => if o < 47 then ad o else match o with | 47 => q | 48 => k0 | 49 => k1 | 50 => k2 | 51 => k3 | 52 => k4 | 53 => k5 | 54 => k6 | 55 => k7 | 56 => k8 | 57 => k9 | 58 => k10 | 59 => k11 | 60 => k12 | _ => 0) cy (gz g) := by
  have e : z_w (layX true) (nX true) (fun o => if o < 47 then ad o else match o with | 47 => q | 48 => k0 | 49 => k1 | 50 => k2 | 51 => k3 | 52 => k4 | 53 => k5 | 54 => k6 | 55 => k7 | 56 => k8 | 57 => k9 | 58 => k10 | 59 => k11 | 60 => k12 | _ => 0) cy (gz g) = (List.range 28).map (fun o => ((fun o => if o < 47 then ad o else match o with | 47 => q | 48 => k0 | 49 => k1 | 50 => k2 | 51 => k3 | 52 => k4 | 53 => k5 | 54 => k6 | 55 => k7 | 56 => k8 | 57 => k9 | 58 => k10 | 59 => k11 | 60 => k12 | _ => 0) o, z_e (fun o => if o < 47 then ad o else match o with | 47 => q | 48 => k0 | 49 => k1 | 50 => k2 | 51 => k3 | 52 => k4 | 53 => k5 | 54 => k6 | 55 => k7 | 56 => k8 | 57 => k9 | 58 => k10 | 59 => k11 | 60 => k12 | _ => 0) cy (gz g) o (layX true o))) ++ (ad 28, .inl (cy 3, 4, .inr (.inr (.inr (.inr (fun i => (([34, 36, 38, 40] : List Nat)[i]?).map (fun o => if o < 47 then ad o else match o with | 47 => q | 48 => k0 | 49 => k1 | 50 => k2 | 51 => k3 | 52 => k4 | 53 => k5 | 54 => k6 | 55 => k7 | 56 => k8 | 57 => k9 | 58 => k10 | 59 => k11 | 60 => k12 | _ => 0))))))) :: (List.range 32).map (fun o => ((fun o => if o < 47 then ad o else match o with | 47 => q | 48 => k0 | 49 => k1 | 50 => k2 | 51 => k3 | 52 => k4 | 53 => k5 | 54 => k6 | 55 => k7 | 56 => k8 | 57 => k9 | 58 => k10 | 59 => k11 | 60 => k12 | _ => 0) (o + 29), z_e (fun o => if o < 47 then ad o else match o with | 47 => q | 48 => k0 | 49 => k1 | 50 => k2 | 51 => k3 | 52 => k4 | 53 => k5 | 54 => k6 | 55 => k7 | 56 => k8 | 57 => k9 | 58 => k10 | 59 => k11 | 60 => k12 | _ => 0) cy (gz g) (o + 29) (layX true (o + 29)))) := rfl
  have h : (fun i : Nat => (([34, 36, 38, 40] : List Nat)[i]?).map (fun o => if o < 47 then ad o else match o with | 47 => q | 48 => k0 | 49 => k1 | 50 => k2 | 51 => k3 | 52 => k4 | 53 => k5 | 54 => k6 | 55 => k7 | 56 => k8 | 57 => k9 | 58 => k10 | 59 => k11 | 60 => k12 | _ => 0)) = fun i : Nat => (([34, 36, 38, 40] : List Nat)[i]?).map ad := by
    funext i
    match i with
    | 0 => rfl
    | 1 => rfl
    | 2 => rfl
    | 3 => rfl
    | i + 4 => rfl
  rw [e, h]
  rfl
set_option maxRecDepth 100000 in
set_option maxHeartbeats 4000000 in
theorem sY (ad : Nat → Nat) (g : z_S) (hz : gz g = g) : y_M yX10_states cX10_states 1 (some (.object "RunTogether$Knowing")) 3 54 14 15062 [.ref (ad 0)] (fun cy => z_w (layX false) (nX false) ad cy g) (fun cy rv w => ∃ ad' : Nat → Nat, (∀ o, o < 47 → ad' o = ad o) ∧ rv = some (.ref (ad' 47)) ∧ w = z_w (layX true) (nX true) ad' cy g) := by
  refine y_enter rfl (Nat.le_of_ble_eq_true rfl) ?_
  intro F cy C hi0 E
  show y_W F 0 0 0 [(0, .ref (ad 0))] [] (z_w (layX false) (nX false) ad cy g)
  refine y_aload_n C dX10_states_0 rfl 0 rfl ?_
  refine y_getnz C zf_X10_244 (ci := 10) (k := 11) (r := 0) ⟨by decide, _, rfl, rfl⟩ dX10_states_1 ?_
  refine y_ifnnN C dX10_states_4 ?_
  refine y_aload_n C dX10_states_7 rfl 0 rfl ?_
  refine y_new C yn_X10_187 (Nat.le_of_ble_eq_true rfl) (Nat.le_of_ble_eq_true rfl) dX10_states_8 (fun q => ?_)
  refine y_dup C dX10_states_11 rfl ?_
  refine y_aload_n C dX10_states_12 rfl 0 rfl ?_
  refine y_get (v := .ref (ad 4)) (fs := z_fs ad g 0 [(2, 1), (2, 4), (2, 9), (2, 11), (2, 13), (2, 19), (2, 23), (2, 26), (2, 42), (2, 43), (2, 45), (3, 0)]) C zf_X10_19 (o := 1) rfl rfl dX10_states_13 ?_
  refine y_aload_n C dX10_states_16 rfl 0 rfl ?_
  refine y_get (v := .ref (ad 1)) (fs := z_fs ad g 0 [(2, 1), (2, 4), (2, 9), (2, 11), (2, 13), (2, 19), (2, 23), (2, 26), (2, 42), (2, 43), (2, 45), (3, 0)]) C zf_X10_10 (o := 1) rfl rfl dX10_states_17 ?_
  refine y_callI (a := q) (w0 := fun _ => [(q, .inr (1, [.null, .null, .int 0, .null, .null, .null, .null, .null, .null, .null, .null, .null, .null, .null, .null, .null]))]) (wr := z_w (layX false) (nX false) ad cy g) (As := [.ref (ad 4), .ref (ad 1)]) [.ref q, .ref (ad 0)] C yc_X10_248 rfl ⟨by decide, by decide⟩ (Nat.le_of_ble_eq_true rfl) ⟨(Nat.le_of_ble_eq_true rfl), (Nat.le_of_ble_eq_true rfl)⟩ dX10_states_20 rfl rfl (mX1_init q (ad 4) (ad 1)) ?_
  rintro rv w ⟨rfl, k0, k1, k2, k3, k4, k5, k6, k7, k8, k9, k10, k11, k12, rfl⟩
  show y_W F 14 15062 23 [(0, .ref (ad 0))] [.ref q, .ref (ad 0)] (z_w (layX false) (nX false) ad cy g ++ ([(q, .inr (1, [.ref (ad 4), .ref (ad 1), .int 0, .ref k0, .ref k1, .ref k2, .ref k3, .ref k4, .ref k5, .ref k6, .ref k7, .ref k8, .ref k9, .ref k10, .ref k11, .ref k12])), (k0, .inl (cy 1, 2000, .inr (.inl (fun _ => 0)))), (k1, .inl (cy 1, 2000, .inr (.inl (fun _ => 0)))), (k2, .inl (cy 0, 1024, .inl (fun _ => 0))), (k3, .inl (cy 0, 2000, .inl (fun _ => 0))), (k4, .inl (cy 0, 2000, .inl (fun _ => 0))), (k5, .inl (cy 0, 2000, .inl (fun _ => 0))), (k6, .inl (cy 1, 2000, .inr (.inl (fun _ => 0)))), (k7, .inl (cy 1, 2000, .inr (.inl (fun _ => 0)))), (k8, .inl (cy 1, 8, .inr (.inl (fun _ => 0)))), (k9, .inl (cy 1, 8, .inr (.inl (fun _ => 0)))), (k10, .inr (4, [.long 0, .long 0])), (k11, .inr (4, [.long 0, .long 0])), (k12, .inr (4, [.long 0, .long 0]))] : va_W))
  refine y_put (fs := z_fs ad g 0 [(2, 1), (2, 4), (2, 9), (2, 11), (2, 13), (2, 19), (2, 23), (2, 26), (2, 42), (2, 43), (2, 45), (3, 0)]) C yp_X10_244 (o := 0) rfl (Nat.le_of_ble_eq_true rfl) rfl rfl dX10_states_23 ?_
  refine y_ws (kn_w ad cy g q k0 k1 k2 k3 k4 k5 k6 k7 k8 k9 k10 k11 k12) ?_
  rw [hz]
  refine y_aload_n C dX10_states_26 rfl 0 rfl ?_
  refine y_getrz (ad := (fun o => if o < 47 then ad o else match o with | 47 => q | 48 => k0 | 49 => k1 | 50 => k2 | 51 => k3 | 52 => k4 | 53 => k5 | 54 => k6 | 55 => k7 | 56 => k8 | 57 => k9 | 58 => k10 | 59 => k11 | 60 => k12 | _ => 0)) (o := 0) C zf_X10_244 zo_K_0_11 dX10_states_27 ?_
  exact y_aret C E (Nat.le_of_ble_eq_true rfl) (Nat.le_of_ble_eq_true rfl) ⟨(fun o => if o < 47 then ad o else match o with | 47 => q | 48 => k0 | 49 => k1 | 50 => k2 | 51 => k3 | 52 => k4 | 53 => k5 | 54 => k6 | 55 => k7 | 56 => k8 | 57 => k9 | 58 => k10 | 59 => k11 | 60 => k12 | _ => 0), fun o ho => if_pos ho, rfl, rfl⟩ dX10_states_30

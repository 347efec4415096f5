/-! the words of the makers, printed by wip/gen/mk_makers.py -/
section YM
variable {F : z_F} {cc : ByteArray} {own : String} {nl : Nat} {ret : Option FieldType} {R0 : Room} {cy : Nat → ClassId} {kC kS : Nat} {pc : Nat} {lv lv' : List (Nat × Value)} {st : List Value} {g : va_W}
theorem y_top {x v : Int32} (h : x = v) (K : y_W F kC kS pc lv (.int v :: st) g) : y_W F kC kS pc lv (.int x :: st) g := h ▸ K
theorem y_iastK {o a n k : Nat} {f : Nat → Int32} {i x v : Int32} (C : y_X F cc own nl ret R0 cy) (he : g[o]? = some (a, .inl (cy 0, n, .inl f))) (hin : vp_in i n) (hk : i.toNatClampNeg = k) (hv : x = v) (hd : decode cc pc = .ok (.iastore, 1)) (K : y_W F kC kS (pc + 1) lv st (g.set o (a, .inl (cy 0, n, .inl (upd f k v))))) : y_W F kC kS pc lv (.int x :: .int i :: .ref a :: st) g := by
  subst hk
  subst hv
  exact y_iast C he hin hd K
theorem y_zastK {o a n k : Nat} {f : Nat → Int32} {i x v : Int32} (C : y_X F cc own nl ret R0 cy) (he : g[o]? = some (a, .inl (cy 2, n, .inl f))) (hin : vp_in i n) (hk : i.toNatClampNeg = k) (hv : vp_nar .boolean x = v) (hd : decode cc pc = .ok (.bastore, 1)) (K : y_W F kC kS (pc + 1) lv st (g.set o (a, .inl (cy 2, n, .inl (upd f k v))))) : y_W F kC kS pc lv (.int x :: .int i :: .ref a :: st) g := by
  subst hk
  subst hv
  exact y_zast C he hin hd K
theorem y_aastK {o ok a v n k : Nat} {vs : List Value} {f : Nat → Option Nat} {i : Int32} (C : y_X F cc own nl ret R0 cy) (he : g[o]? = some (a, .inl (cy 3, n, .inr (.inr (.inr (.inr f)))))) (hv : g[ok]? = some (v, .inr (6, vs))) (hin : vp_in i n) (hk : i.toNatClampNeg = k) (hd : decode cc pc = .ok (.aastore, 1)) (K : y_W F kC kS (pc + 1) lv st (g.set o (a, .inl (cy 3, n, .inr (.inr (.inr (.inr (va_up f k (some v))))))))) : y_W F kC kS pc lv (.ref v :: .int i :: .ref a :: st) g := by
  subst hk
  exact y_aast C he hv hin hd K
end YM
set_option maxRecDepth 20000 in
theorem yo_i : Cond.instanceMethod Lib.objectInit ∈ z_T := (z_T_in (List.mem_of_getElem? (i := 100) (by decide +kernel)) rfl : Cond.instanceMethod Lib.objectInit ∈ z_T)
set_option maxRecDepth 20000 in
theorem yo_c : Cond.code Lib.objectInit ⟨#[0xb1]⟩ 1 none ∈ z_T := (z_T_in (List.mem_of_getElem? (i := 101) (by decide +kernel)) rfl : Cond.code Lib.objectInit ⟨#[0xb1]⟩ 1 none ∈ z_T)
set_option maxRecDepth 20000 in
theorem ya_int : Cond.arrayClass .int ∈ z_T := (z_T_in (List.mem_of_getElem? (i := 126) (by decide +kernel)) rfl : Cond.arrayClass .int ∈ z_T)
set_option maxRecDepth 20000 in
theorem ya_long : Cond.arrayClass .long ∈ z_T := (z_T_in (List.mem_of_getElem? (i := 262) (by decide +kernel)) rfl : Cond.arrayClass .long ∈ z_T)
set_option maxRecDepth 20000 in
theorem ya_boolean : Cond.arrayClass .boolean ∈ z_T := (z_T_in (List.mem_of_getElem? (i := 125) (by decide +kernel)) rfl : Cond.arrayClass .boolean ∈ z_T)
set_option maxRecDepth 20000 in
theorem yo_X9 : Cond.methodLink RX9 3 Lib.objectInit ∈ z_T := (z_T_in (List.mem_of_getElem? (i := 132) (by decide +kernel)) rfl : Cond.methodLink RX9 3 Lib.objectInit ∈ z_T)
set_option maxRecDepth 20000 in
theorem yf_X9_9 : y_FF RX9 9 9 1 (.array .int) := ⟨RX9, TX9, 5, tyX9, rfl, zin_X9, by decide, (z_T_in (List.mem_of_getElem? (i := 140) (by decide +kernel)) rfl : Cond.fieldLink RX9 9 "RunTogether$Words" "signs" "[I" ∈ z_T), tyX9_ok, nmX9, rfl, rfl, by decide +kernel⟩
set_option maxRecDepth 20000 in
theorem yf_X9_15 : y_FF RX9 15 9 2 (.array .int) := ⟨RX9, TX9, 5, tyX9, rfl, zin_X9, by decide, (z_T_in (List.mem_of_getElem? (i := 143) (by decide +kernel)) rfl : Cond.fieldLink RX9 15 "RunTogether$Words" "lengths" "[I" ∈ z_T), tyX9_ok, nmX9, rfl, rfl, by decide +kernel⟩
set_option maxRecDepth 20000 in
theorem yf_X9_18 : y_FF RX9 18 9 3 (.array .int) := ⟨RX9, TX9, 5, tyX9, rfl, zin_X9, by decide, (z_T_in (List.mem_of_getElem? (i := 150) (by decide +kernel)) rfl : Cond.fieldLink RX9 18 "RunTogether$Words" "costs" "[I" ∈ z_T), tyX9_ok, nmX9, rfl, rfl, by decide +kernel⟩
set_option maxRecDepth 20000 in
theorem yf_X9_21 : y_FF RX9 21 9 4 (.array .int) := ⟨RX9, TX9, 5, tyX9, rfl, zin_X9, by decide, (z_T_in (List.mem_of_getElem? (i := 156) (by decide +kernel)) rfl : Cond.fieldLink RX9 21 "RunTogether$Words" "kinds" "[I" ∈ z_T), tyX9_ok, nmX9, rfl, rfl, by decide +kernel⟩
set_option maxRecDepth 20000 in
theorem yo_X7 : Cond.methodLink RX7 3 Lib.objectInit ∈ z_T := (z_T_in (List.mem_of_getElem? (i := 107) (by decide +kernel)) rfl : Cond.methodLink RX7 3 Lib.objectInit ∈ z_T)
set_option maxRecDepth 20000 in
theorem yp_X7_9 : z_FP RX7 9 7 0 .int := ⟨RX7, TX7, 3, tyX7, rfl, zin_X7, by decide, (z_T_in (List.mem_of_getElem? (i := 108) (by decide +kernel)) rfl : Cond.fieldLink RX7 9 "RunTogether$Rules" "letters" "I" ∈ z_T), tyX7_ok, nmX7, rfl, by decide +kernel⟩
set_option maxRecDepth 20000 in
theorem yf_X7_15 : y_FF RX7 15 7 1 (.array .boolean) := ⟨RX7, TX7, 3, tyX7, rfl, zin_X7, by decide, (z_T_in (List.mem_of_getElem? (i := 112) (by decide +kernel)) rfl : Cond.fieldLink RX7 15 "RunTogether$Rules" "barred" "[Z" ∈ z_T), tyX7_ok, nmX7, rfl, rfl, by decide +kernel⟩
set_option maxRecDepth 20000 in
theorem yf_X7_19 : y_FF RX7 19 7 2 (.array .int) := ⟨RX7, TX7, 3, tyX7, rfl, zin_X7, by decide, (z_T_in (List.mem_of_getElem? (i := 114) (by decide +kernel)) rfl : Cond.fieldLink RX7 19 "RunTogether$Rules" "prices" "[I" ∈ z_T), tyX7_ok, nmX7, rfl, rfl, by decide +kernel⟩
set_option maxRecDepth 20000 in
theorem yg_X7_19 : z_FL RX7 19 7 2 := ⟨RX7, TX7, 3, rfl, zin_X7, by decide, (z_T_in (List.mem_of_getElem? (i := 114) (by decide +kernel)) rfl : Cond.fieldLink RX7 19 "RunTogether$Rules" "prices" "[I" ∈ z_T)⟩
set_option maxRecDepth 20000 in
theorem yo_X4 : Cond.methodLink RX4 3 Lib.objectInit ∈ z_T := (z_T_in (List.mem_of_getElem? (i := 657) (by decide +kernel)) rfl : Cond.methodLink RX4 3 Lib.objectInit ∈ z_T)
set_option maxRecDepth 20000 in
theorem yo_X6 : Cond.methodLink RX6 1 Lib.objectInit ∈ z_T := (z_T_in (List.mem_of_getElem? (i := 178) (by decide +kernel)) rfl : Cond.methodLink RX6 1 Lib.objectInit ∈ z_T)
set_option maxRecDepth 20000 in
theorem ym_1 : Cond.methodLink RX6 7 Lib.Math.max.name ∈ z_T := (z_T_in (List.mem_of_getElem? (i := 179) (by decide +kernel)) rfl : Cond.methodLink RX6 7 Lib.Math.max.name ∈ z_T)
set_option maxRecDepth 20000 in
theorem ym_2 : Cond.static Lib.Math.max.name ∈ z_T := (z_T_in (List.mem_of_getElem? (i := 180) (by decide +kernel)) rfl : Cond.static Lib.Math.max.name ∈ z_T)
set_option maxRecDepth 20000 in
theorem ym_3 : Cond.initialized "java/lang/Math" ∈ z_T := (z_T_in (List.mem_of_getElem? (i := 85) (by decide +kernel)) rfl : Cond.initialized "java/lang/Math" ∈ z_T)
set_option maxRecDepth 20000 in
theorem ym_4 : Cond.code Lib.Math.max.name Lib.Math.max.code 2 (some .int) ∈ z_T := (z_T_in (List.mem_of_getElem? (i := 181) (by decide +kernel)) rfl : Cond.code Lib.Math.max.name Lib.Math.max.code 2 (some .int) ∈ z_T)
set_option maxRecDepth 20000 in
theorem yf_X6_13 : y_FF RX6 13 6 0 (.array .int) := ⟨RX6, TX6, 2, tyX6, rfl, zin_X6, by decide, (z_T_in (List.mem_of_getElem? (i := 182) (by decide +kernel)) rfl : Cond.fieldLink RX6 13 "RunTogether$Row" "cells" "[I" ∈ z_T), tyX6_ok, nmX6, rfl, rfl, by decide +kernel⟩
set_option maxRecDepth 20000 in
theorem yo_X8 : Cond.methodLink RX8 3 Lib.objectInit ∈ z_T := (z_T_in (List.mem_of_getElem? (i := 354) (by decide +kernel)) rfl : Cond.methodLink RX8 3 Lib.objectInit ∈ z_T)
set_option maxRecDepth 20000 in
theorem yp_X8_9 : z_FP RX8 9 8 2 .int := ⟨RX8, TX8, 4, tyX8, rfl, zin_X8, by decide, (z_T_in (List.mem_of_getElem? (i := 359) (by decide +kernel)) rfl : Cond.fieldLink RX8 9 "RunTogether$Shortest" "length" "I" ∈ z_T), tyX8_ok, nmX8, rfl, by decide +kernel⟩
set_option maxRecDepth 20000 in
theorem yf_X8_15 : y_FF RX8 15 8 3 (.array .int) := ⟨RX8, TX8, 4, tyX8, rfl, zin_X8, by decide, (z_T_in (List.mem_of_getElem? (i := 362) (by decide +kernel)) rfl : Cond.fieldLink RX8 15 "RunTogether$Shortest" "signs" "[I" ∈ z_T), tyX8_ok, nmX8, rfl, rfl, by decide +kernel⟩
set_option maxRecDepth 20000 in
theorem yf_X8_19 : y_FF RX8 19 8 0 .boolean := ⟨RX8, TX8, 4, tyX8, rfl, zin_X8, by decide, (z_T_in (List.mem_of_getElem? (i := 355) (by decide +kernel)) rfl : Cond.fieldLink RX8 19 "RunTogether$Shortest" "isKey" "Z" ∈ z_T), tyX8_ok, nmX8, rfl, rfl, by decide +kernel⟩
set_option maxRecDepth 20000 in
theorem yo_X0 : Cond.methodLink RX0 3 Lib.objectInit ∈ z_T := (z_T_in (List.mem_of_getElem? (i := 204) (by decide +kernel)) rfl : Cond.methodLink RX0 3 Lib.objectInit ∈ z_T)
set_option maxRecDepth 20000 in
theorem yn_X0_9 : y_CN RX0 9 9 [.int 0, .null, .null, .null, .null] 5 := ⟨RX9, TX9, tyX9, rfl, zin_X9, tyX9_ok, (z_T_in (List.mem_of_getElem? (i := 205) (by decide +kernel)) rfl : Cond.classLink RX0 9 RX9 ∈ z_T), (z_T_in (List.mem_of_getElem? (i := 128) (by decide +kernel)) rfl : Cond.instantiable RX9 5 ∈ z_T), (z_T_in (List.mem_of_getElem? (i := 83) (by decide +kernel)) rfl : Cond.initialized RX9 ∈ z_T), fun j hj => by
  match j, hj with
  | 0, _ => rfl
  | 1, _ => rfl
  | 2, _ => rfl
  | 3, _ => rfl
  | 4, _ => rfl
  | j + 5, hj => exact absurd hj (by omega)⟩
set_option maxRecDepth 20000 in
theorem yc_X0_11 : y_CIN RX0 11 yX9_init cX9_init 1 0 := ⟨(z_T_in (List.mem_of_getElem? (i := 131) (by decide +kernel)) rfl : Cond.code yX9_init cX9_init 1 none ∈ z_T), (fun s h => h.2.2.1), (z_T_in (List.mem_of_getElem? (i := 130) (by decide +kernel)) rfl : Cond.instanceMethod yX9_init ∈ z_T), rfl, (z_T_in (List.mem_of_getElem? (i := 83) (by decide +kernel)) rfl : Cond.initialized RX9 ∈ z_T), by decide +kernel⟩
set_option maxRecDepth 20000 in
theorem yf_X0_12 : y_FF RX0 12 0 0 (.object "RunTogether$Words") := ⟨RX0, TX0, 6, tyX0, rfl, zin_X0, by decide, (z_T_in (List.mem_of_getElem? (i := 207) (by decide +kernel)) rfl : Cond.fieldLink RX0 12 "RunTogether$Clauses" "told" "LRunTogether$Words;" ∈ z_T), tyX0_ok, nmX0, rfl, rfl, by decide +kernel⟩
set_option maxRecDepth 20000 in
theorem yp_X0_18 : z_FP RX0 18 0 1 .int := ⟨RX0, TX0, 6, tyX0, rfl, zin_X0, by decide, (z_T_in (List.mem_of_getElem? (i := 209) (by decide +kernel)) rfl : Cond.fieldLink RX0 18 "RunTogether$Clauses" "faultAt" "I" ∈ z_T), tyX0_ok, nmX0, rfl, by decide +kernel⟩
set_option maxRecDepth 20000 in
theorem yf_X0_22 : y_FF RX0 22 0 2 (.object "RunTogether$Row") := ⟨RX0, TX0, 6, tyX0, rfl, zin_X0, by decide, (z_T_in (List.mem_of_getElem? (i := 211) (by decide +kernel)) rfl : Cond.fieldLink RX0 22 "RunTogether$Clauses" "text" "LRunTogether$Row;" ∈ z_T), tyX0_ok, nmX0, rfl, rfl, by decide +kernel⟩
set_option maxRecDepth 20000 in
theorem yf_X0_26 : y_FF RX0 26 0 3 (.object "RunTogether$Rules") := ⟨RX0, TX0, 6, tyX0, rfl, zin_X0, by decide, (z_T_in (List.mem_of_getElem? (i := 212) (by decide +kernel)) rfl : Cond.fieldLink RX0 26 "RunTogether$Clauses" "rules" "LRunTogether$Rules;" ∈ z_T), tyX0_ok, nmX0, rfl, rfl, by decide +kernel⟩
set_option maxRecDepth 20000 in
theorem yo_X5 : Cond.methodLink RX5 3 Lib.objectInit ∈ z_T := (z_T_in (List.mem_of_getElem? (i := 233) (by decide +kernel)) rfl : Cond.methodLink RX5 3 Lib.objectInit ∈ z_T)
set_option maxRecDepth 20000 in
theorem yf_X5_9 : y_FF RX5 9 5 3 (.array .int) := ⟨RX5, TX5, 9, tyX5, rfl, zin_X5, by decide, (z_T_in (List.mem_of_getElem? (i := 237) (by decide +kernel)) rfl : Cond.fieldLink RX5 9 "RunTogether$Readings" "standing" "[I" ∈ z_T), tyX5_ok, nmX5, rfl, rfl, by decide +kernel⟩
set_option maxRecDepth 20000 in
theorem yf_X5_15 : y_FF RX5 15 5 4 (.array .int) := ⟨RX5, TX5, 9, tyX5, rfl, zin_X5, by decide, (z_T_in (List.mem_of_getElem? (i := 238) (by decide +kernel)) rfl : Cond.fieldLink RX5 15 "RunTogether$Readings" "least" "[I" ∈ z_T), tyX5_ok, nmX5, rfl, rfl, by decide +kernel⟩
set_option maxRecDepth 20000 in
theorem yf_X5_18 : y_FF RX5 18 5 5 (.array .long) := ⟨RX5, TX5, 9, tyX5, rfl, zin_X5, by decide, (z_T_in (List.mem_of_getElem? (i := 239) (by decide +kernel)) rfl : Cond.fieldLink RX5 18 "RunTogether$Readings" "many" "[J" ∈ z_T), tyX5_ok, nmX5, rfl, rfl, by decide +kernel⟩
set_option maxRecDepth 20000 in
theorem yf_X5_22 : y_FF RX5 22 5 0 (.object "RunTogether$Row") := ⟨RX5, TX5, 9, tyX5, rfl, zin_X5, by decide, (z_T_in (List.mem_of_getElem? (i := 234) (by decide +kernel)) rfl : Cond.fieldLink RX5 22 "RunTogether$Readings" "draft" "LRunTogether$Row;" ∈ z_T), tyX5_ok, nmX5, rfl, rfl, by decide +kernel⟩
set_option maxRecDepth 20000 in
theorem yf_X5_26 : y_FF RX5 26 5 1 (.object "RunTogether$Words") := ⟨RX5, TX5, 9, tyX5, rfl, zin_X5, by decide, (z_T_in (List.mem_of_getElem? (i := 235) (by decide +kernel)) rfl : Cond.fieldLink RX5 26 "RunTogether$Readings" "words" "LRunTogether$Words;" ∈ z_T), tyX5_ok, nmX5, rfl, rfl, by decide +kernel⟩
set_option maxRecDepth 20000 in
theorem yf_X5_30 : y_FF RX5 30 5 2 (.object "RunTogether$Rules") := ⟨RX5, TX5, 9, tyX5, rfl, zin_X5, by decide, (z_T_in (List.mem_of_getElem? (i := 236) (by decide +kernel)) rfl : Cond.fieldLink RX5 30 "RunTogether$Readings" "rules" "LRunTogether$Rules;" ∈ z_T), tyX5_ok, nmX5, rfl, rfl, by decide +kernel⟩
set_option maxRecDepth 20000 in
theorem yo_X3 : Cond.methodLink RX3 3 Lib.objectInit ∈ z_T := (z_T_in (List.mem_of_getElem? (i := 268) (by decide +kernel)) rfl : Cond.methodLink RX3 3 Lib.objectInit ∈ z_T)
set_option maxRecDepth 20000 in
theorem yf_X3_11 : y_FF RX3 11 3 3 (.array .long) := ⟨RX3, TX3, 5, tyX3, rfl, zin_X3, by decide, (z_T_in (List.mem_of_getElem? (i := 272) (by decide +kernel)) rfl : Cond.fieldLink RX3 11 "RunTogether$Patching" "inside" "[J" ∈ z_T), tyX3_ok, nmX3, rfl, rfl, by decide +kernel⟩
set_option maxRecDepth 20000 in
theorem yf_X3_15 : y_FF RX3 15 3 4 (.array .long) := ⟨RX3, TX3, 5, tyX3, rfl, zin_X3, by decide, (z_T_in (List.mem_of_getElem? (i := 273) (by decide +kernel)) rfl : Cond.fieldLink RX3 15 "RunTogether$Patching" "outside" "[J" ∈ z_T), tyX3_ok, nmX3, rfl, rfl, by decide +kernel⟩
set_option maxRecDepth 20000 in
theorem yf_X3_18 : y_FF RX3 18 3 0 (.object "RunTogether$Row") := ⟨RX3, TX3, 5, tyX3, rfl, zin_X3, by decide, (z_T_in (List.mem_of_getElem? (i := 269) (by decide +kernel)) rfl : Cond.fieldLink RX3 18 "RunTogether$Patching" "draft" "LRunTogether$Row;" ∈ z_T), tyX3_ok, nmX3, rfl, rfl, by decide +kernel⟩
set_option maxRecDepth 20000 in
theorem yf_X3_22 : y_FF RX3 22 3 1 (.object "RunTogether$Words") := ⟨RX3, TX3, 5, tyX3, rfl, zin_X3, by decide, (z_T_in (List.mem_of_getElem? (i := 270) (by decide +kernel)) rfl : Cond.fieldLink RX3 22 "RunTogether$Patching" "words" "LRunTogether$Words;" ∈ z_T), tyX3_ok, nmX3, rfl, rfl, by decide +kernel⟩
set_option maxRecDepth 20000 in
theorem yf_X3_26 : y_FF RX3 26 3 2 (.object "RunTogether$Rules") := ⟨RX3, TX3, 5, tyX3, rfl, zin_X3, by decide, (z_T_in (List.mem_of_getElem? (i := 271) (by decide +kernel)) rfl : Cond.fieldLink RX3 26 "RunTogether$Patching" "rules" "LRunTogether$Rules;" ∈ z_T), tyX3_ok, nmX3, rfl, rfl, by decide +kernel⟩
set_option maxRecDepth 20000 in
theorem yo_X2 : Cond.methodLink RX2 3 Lib.objectInit ∈ z_T := (z_T_in (List.mem_of_getElem? (i := 290) (by decide +kernel)) rfl : Cond.methodLink RX2 3 Lib.objectInit ∈ z_T)
set_option maxRecDepth 20000 in
theorem yf_X2_9 : y_FF RX2 9 2 1 (.array .int) := ⟨RX2, TX2, 16, tyX2, rfl, zin_X2, by decide, (z_T_in (List.mem_of_getElem? (i := 296) (by decide +kernel)) rfl : Cond.fieldLink RX2 9 "RunTogether$Lines" "used" "[I" ∈ z_T), tyX2_ok, nmX2, rfl, rfl, by decide +kernel⟩
set_option maxRecDepth 20000 in
theorem yp_X2_15 : z_FP RX2 15 2 3 .int := ⟨RX2, TX2, 16, tyX2, rfl, zin_X2, by decide, (z_T_in (List.mem_of_getElem? (i := 300) (by decide +kernel)) rfl : Cond.fieldLink RX2 15 "RunTogether$Lines" "soughtCost" "I" ∈ z_T), tyX2_ok, nmX2, rfl, by decide +kernel⟩
set_option maxRecDepth 20000 in
theorem yq_X2_19 : Cond.classLink RX2 19 "RunTogether$Row" ∈ z_T := (z_T_in (List.mem_of_getElem? (i := 291) (by decide +kernel)) rfl : Cond.classLink RX2 19 "RunTogether$Row" ∈ z_T)
set_option maxRecDepth 20000 in
theorem yf_X2_21 : y_FF RX2 21 2 8 (.array (.object "RunTogether$Row")) := ⟨RX2, TX2, 16, tyX2, rfl, zin_X2, by decide, (z_T_in (List.mem_of_getElem? (i := 308) (by decide +kernel)) rfl : Cond.fieldLink RX2 21 "RunTogether$Lines" "held" "[LRunTogether$Row;" ∈ z_T), tyX2_ok, nmX2, rfl, rfl, by decide +kernel⟩
set_option maxRecDepth 20000 in
theorem yf_X2_25 : y_FF RX2 25 2 9 (.array .int) := ⟨RX2, TX2, 16, tyX2, rfl, zin_X2, by decide, (z_T_in (List.mem_of_getElem? (i := 309) (by decide +kernel)) rfl : Cond.fieldLink RX2 25 "RunTogether$Lines" "standing" "[I" ∈ z_T), tyX2_ok, nmX2, rfl, rfl, by decide +kernel⟩
set_option maxRecDepth 20000 in
theorem yf_X2_28 : y_FF RX2 28 2 10 (.array .int) := ⟨RX2, TX2, 16, tyX2, rfl, zin_X2, by decide, (z_T_in (List.mem_of_getElem? (i := 310) (by decide +kernel)) rfl : Cond.fieldLink RX2 28 "RunTogether$Lines" "codes" "[I" ∈ z_T), tyX2_ok, nmX2, rfl, rfl, by decide +kernel⟩
set_option maxRecDepth 20000 in
theorem yf_X2_31 : y_FF RX2 31 2 11 (.array .int) := ⟨RX2, TX2, 16, tyX2, rfl, zin_X2, by decide, (z_T_in (List.mem_of_getElem? (i := 311) (by decide +kernel)) rfl : Cond.fieldLink RX2 31 "RunTogether$Lines" "least" "[I" ∈ z_T), tyX2_ok, nmX2, rfl, rfl, by decide +kernel⟩
set_option maxRecDepth 20000 in
theorem yf_X2_34 : y_FF RX2 34 2 12 (.array .int) := ⟨RX2, TX2, 16, tyX2, rfl, zin_X2, by decide, (z_T_in (List.mem_of_getElem? (i := 312) (by decide +kernel)) rfl : Cond.fieldLink RX2 34 "RunTogether$Lines" "byKind" "[I" ∈ z_T), tyX2_ok, nmX2, rfl, rfl, by decide +kernel⟩
set_option maxRecDepth 20000 in
theorem yf_X2_37 : y_FF RX2 37 2 13 (.array .int) := ⟨RX2, TX2, 16, tyX2, rfl, zin_X2, by decide, (z_T_in (List.mem_of_getElem? (i := 313) (by decide +kernel)) rfl : Cond.fieldLink RX2 37 "RunTogether$Lines" "leastOfLine" "[I" ∈ z_T), tyX2_ok, nmX2, rfl, rfl, by decide +kernel⟩
set_option maxRecDepth 20000 in
theorem yf_X2_40 : y_FF RX2 40 2 6 (.object "RunTogether$Words") := ⟨RX2, TX2, 16, tyX2, rfl, zin_X2, by decide, (z_T_in (List.mem_of_getElem? (i := 306) (by decide +kernel)) rfl : Cond.fieldLink RX2 40 "RunTogether$Lines" "words" "LRunTogether$Words;" ∈ z_T), tyX2_ok, nmX2, rfl, rfl, by decide +kernel⟩
set_option maxRecDepth 20000 in
theorem yf_X2_44 : y_FF RX2 44 2 7 (.object "RunTogether$Rules") := ⟨RX2, TX2, 16, tyX2, rfl, zin_X2, by decide, (z_T_in (List.mem_of_getElem? (i := 307) (by decide +kernel)) rfl : Cond.fieldLink RX2 44 "RunTogether$Lines" "rules" "LRunTogether$Rules;" ∈ z_T), tyX2_ok, nmX2, rfl, rfl, by decide +kernel⟩
set_option maxRecDepth 20000 in
theorem yg_X2_21 : z_FL RX2 21 2 8 := ⟨RX2, TX2, 16, rfl, zin_X2, by decide, (z_T_in (List.mem_of_getElem? (i := 308) (by decide +kernel)) rfl : Cond.fieldLink RX2 21 "RunTogether$Lines" "held" "[LRunTogether$Row;" ∈ z_T)⟩
set_option maxRecDepth 20000 in
theorem yn_X2_19 : y_CN RX2 19 6 [.null, .int 0] 2 := ⟨RX6, TX6, tyX6, rfl, zin_X6, tyX6_ok, (z_T_in (List.mem_of_getElem? (i := 291) (by decide +kernel)) rfl : Cond.classLink RX2 19 RX6 ∈ z_T), (z_T_in (List.mem_of_getElem? (i := 174) (by decide +kernel)) rfl : Cond.instantiable RX6 2 ∈ z_T), (z_T_in (List.mem_of_getElem? (i := 84) (by decide +kernel)) rfl : Cond.initialized RX6 ∈ z_T), fun j hj => by
  match j, hj with
  | 0, _ => rfl
  | 1, _ => rfl
  | j + 2, hj => exact absurd hj (by omega)⟩
set_option maxRecDepth 20000 in
theorem yc_X2_48 : y_CI RX2 48 yX6_init cX6_init 2 1 := ⟨(z_T_in (List.mem_of_getElem? (i := 177) (by decide +kernel)) rfl : Cond.code yX6_init cX6_init 2 none ∈ z_T), (z_T_in (List.mem_of_getElem? (i := 293) (by decide +kernel)) rfl : Cond.methodLink RX2 48 yX6_init ∈ z_T), (z_T_in (List.mem_of_getElem? (i := 176) (by decide +kernel)) rfl : Cond.instanceMethod yX6_init ∈ z_T), rfl, (z_T_in (List.mem_of_getElem? (i := 84) (by decide +kernel)) rfl : Cond.initialized RX6 ∈ z_T), by decide +kernel⟩
set_option maxRecDepth 20000 in
theorem yo_X1 : Cond.methodLink RX1 3 Lib.objectInit ∈ z_T := (z_T_in (List.mem_of_getElem? (i := 651) (by decide +kernel)) rfl : Cond.methodLink RX1 3 Lib.objectInit ∈ z_T)
set_option maxRecDepth 20000 in
theorem yf_X1_9 : y_FF RX1 9 1 3 (.array .long) := ⟨RX1, TX1, 16, tyX1, rfl, zin_X1, by decide, (z_T_in (List.mem_of_getElem? (i := 670) (by decide +kernel)) rfl : Cond.fieldLink RX1 9 "RunTogether$Knowing" "lows" "[J" ∈ z_T), tyX1_ok, nmX1, rfl, rfl, by decide +kernel⟩
set_option maxRecDepth 20000 in
theorem yf_X1_15 : y_FF RX1 15 1 4 (.array .long) := ⟨RX1, TX1, 16, tyX1, rfl, zin_X1, by decide, (z_T_in (List.mem_of_getElem? (i := 671) (by decide +kernel)) rfl : Cond.fieldLink RX1 15 "RunTogether$Knowing" "highs" "[J" ∈ z_T), tyX1_ok, nmX1, rfl, rfl, by decide +kernel⟩
set_option maxRecDepth 20000 in
theorem yf_X1_18 : y_FF RX1 18 1 5 (.array .int) := ⟨RX1, TX1, 16, tyX1, rfl, zin_X1, by decide, (z_T_in (List.mem_of_getElem? (i := 672) (by decide +kernel)) rfl : Cond.fieldLink RX1 18 "RunTogether$Knowing" "heads" "[I" ∈ z_T), tyX1_ok, nmX1, rfl, rfl, by decide +kernel⟩
set_option maxRecDepth 20000 in
theorem yf_X1_22 : y_FF RX1 22 1 6 (.array .int) := ⟨RX1, TX1, 16, tyX1, rfl, zin_X1, by decide, (z_T_in (List.mem_of_getElem? (i := 673) (by decide +kernel)) rfl : Cond.fieldLink RX1 22 "RunTogether$Knowing" "chained" "[I" ∈ z_T), tyX1_ok, nmX1, rfl, rfl, by decide +kernel⟩
set_option maxRecDepth 20000 in
theorem yf_X1_25 : y_FF RX1 25 1 7 (.array .int) := ⟨RX1, TX1, 16, tyX1, rfl, zin_X1, by decide, (z_T_in (List.mem_of_getElem? (i := 674) (by decide +kernel)) rfl : Cond.fieldLink RX1 25 "RunTogether$Knowing" "parents" "[I" ∈ z_T), tyX1_ok, nmX1, rfl, rfl, by decide +kernel⟩
set_option maxRecDepth 20000 in
theorem yf_X1_28 : y_FF RX1 28 1 8 (.array .int) := ⟨RX1, TX1, 16, tyX1, rfl, zin_X1, by decide, (z_T_in (List.mem_of_getElem? (i := 675) (by decide +kernel)) rfl : Cond.fieldLink RX1 28 "RunTogether$Knowing" "steps" "[I" ∈ z_T), tyX1_ok, nmX1, rfl, rfl, by decide +kernel⟩
set_option maxRecDepth 20000 in
theorem yf_X1_31 : y_FF RX1 31 1 9 (.array .long) := ⟨RX1, TX1, 16, tyX1, rfl, zin_X1, by decide, (z_T_in (List.mem_of_getElem? (i := 676) (by decide +kernel)) rfl : Cond.fieldLink RX1 31 "RunTogether$Knowing" "counts" "[J" ∈ z_T), tyX1_ok, nmX1, rfl, rfl, by decide +kernel⟩
set_option maxRecDepth 20000 in
theorem yf_X1_34 : y_FF RX1 34 1 10 (.array .long) := ⟨RX1, TX1, 16, tyX1, rfl, zin_X1, by decide, (z_T_in (List.mem_of_getElem? (i := 677) (by decide +kernel)) rfl : Cond.fieldLink RX1 34 "RunTogether$Knowing" "nextCounts" "[J" ∈ z_T), tyX1_ok, nmX1, rfl, rfl, by decide +kernel⟩
set_option maxRecDepth 20000 in
theorem yf_X1_37 : y_FF RX1 37 1 11 (.array .long) := ⟨RX1, TX1, 16, tyX1, rfl, zin_X1, by decide, (z_T_in (List.mem_of_getElem? (i := 678) (by decide +kernel)) rfl : Cond.fieldLink RX1 37 "RunTogether$Knowing" "readsLow" "[J" ∈ z_T), tyX1_ok, nmX1, rfl, rfl, by decide +kernel⟩
set_option maxRecDepth 20000 in
theorem yf_X1_40 : y_FF RX1 40 1 12 (.array .long) := ⟨RX1, TX1, 16, tyX1, rfl, zin_X1, by decide, (z_T_in (List.mem_of_getElem? (i := 679) (by decide +kernel)) rfl : Cond.fieldLink RX1 40 "RunTogether$Knowing" "readsHigh" "[J" ∈ z_T), tyX1_ok, nmX1, rfl, rfl, by decide +kernel⟩
set_option maxRecDepth 20000 in
theorem yn_X1_43 : y_CN RX1 43 4 [.long 0, .long 0] 2 := ⟨RX4, TX4, tyX4, rfl, zin_X4, tyX4_ok, (z_T_in (List.mem_of_getElem? (i := 652) (by decide +kernel)) rfl : Cond.classLink RX1 43 RX4 ∈ z_T), (z_T_in (List.mem_of_getElem? (i := 653) (by decide +kernel)) rfl : Cond.instantiable RX4 2 ∈ z_T), (z_T_in (List.mem_of_getElem? (i := 93) (by decide +kernel)) rfl : Cond.initialized RX4 ∈ z_T), fun j hj => by
  match j, hj with
  | 0, _ => rfl
  | 1, _ => rfl
  | j + 2, hj => exact absurd hj (by omega)⟩
set_option maxRecDepth 20000 in
theorem yc_X1_45 : y_CIN RX1 45 yX4_init cX4_init 1 0 := ⟨(z_T_in (List.mem_of_getElem? (i := 656) (by decide +kernel)) rfl : Cond.code yX4_init cX4_init 1 none ∈ z_T), (fun s h => h.2.2.2.1), (z_T_in (List.mem_of_getElem? (i := 655) (by decide +kernel)) rfl : Cond.instanceMethod yX4_init ∈ z_T), rfl, (z_T_in (List.mem_of_getElem? (i := 93) (by decide +kernel)) rfl : Cond.initialized RX4 ∈ z_T), by decide +kernel⟩
set_option maxRecDepth 20000 in
theorem yf_X1_46 : y_FF RX1 46 1 13 (.object "RunTogether$Places") := ⟨RX1, TX1, 16, tyX1, rfl, zin_X1, by decide, (z_T_in (List.mem_of_getElem? (i := 680) (by decide +kernel)) rfl : Cond.fieldLink RX1 46 "RunTogether$Knowing" "firsts" "LRunTogether$Places;" ∈ z_T), tyX1_ok, nmX1, rfl, rfl, by decide +kernel⟩
set_option maxRecDepth 20000 in
theorem yf_X1_50 : y_FF RX1 50 1 14 (.object "RunTogether$Places") := ⟨RX1, TX1, 16, tyX1, rfl, zin_X1, by decide, (z_T_in (List.mem_of_getElem? (i := 681) (by decide +kernel)) rfl : Cond.fieldLink RX1 50 "RunTogether$Knowing" "lasts" "LRunTogether$Places;" ∈ z_T), tyX1_ok, nmX1, rfl, rfl, by decide +kernel⟩
set_option maxRecDepth 20000 in
theorem yf_X1_53 : y_FF RX1 53 1 15 (.object "RunTogether$Places") := ⟨RX1, TX1, 16, tyX1, rfl, zin_X1, by decide, (z_T_in (List.mem_of_getElem? (i := 682) (by decide +kernel)) rfl : Cond.fieldLink RX1 53 "RunTogether$Knowing" "next" "LRunTogether$Places;" ∈ z_T), tyX1_ok, nmX1, rfl, rfl, by decide +kernel⟩
set_option maxRecDepth 20000 in
theorem yf_X1_56 : y_FF RX1 56 1 0 (.object "RunTogether$Words") := ⟨RX1, TX1, 16, tyX1, rfl, zin_X1, by decide, (z_T_in (List.mem_of_getElem? (i := 667) (by decide +kernel)) rfl : Cond.fieldLink RX1 56 "RunTogether$Knowing" "words" "LRunTogether$Words;" ∈ z_T), tyX1_ok, nmX1, rfl, rfl, by decide +kernel⟩
set_option maxRecDepth 20000 in
theorem yf_X1_60 : y_FF RX1 60 1 1 (.object "RunTogether$Rules") := ⟨RX1, TX1, 16, tyX1, rfl, zin_X1, by decide, (z_T_in (List.mem_of_getElem? (i := 668) (by decide +kernel)) rfl : Cond.fieldLink RX1 60 "RunTogether$Knowing" "rules" "LRunTogether$Rules;" ∈ z_T), tyX1_ok, nmX1, rfl, rfl, by decide +kernel⟩
set_option maxRecDepth 20000 in
theorem yo_X10 : Cond.methodLink RX10 1 Lib.objectInit ∈ z_T := (z_T_in (List.mem_of_getElem? (i := 99) (by decide +kernel)) rfl : Cond.methodLink RX10 1 Lib.objectInit ∈ z_T)
set_option maxRecDepth 20000 in
theorem yn_X10_7 : y_CN RX10 7 7 [.int 0, .null, .null] 3 := ⟨RX7, TX7, tyX7, rfl, zin_X7, tyX7_ok, (z_T_in (List.mem_of_getElem? (i := 102) (by decide +kernel)) rfl : Cond.classLink RX10 7 RX7 ∈ z_T), (z_T_in (List.mem_of_getElem? (i := 103) (by decide +kernel)) rfl : Cond.instantiable RX7 3 ∈ z_T), (z_T_in (List.mem_of_getElem? (i := 82) (by decide +kernel)) rfl : Cond.initialized RX7 ∈ z_T), fun j hj => by
  match j, hj with
  | 0, _ => rfl
  | 1, _ => rfl
  | 2, _ => rfl
  | j + 3, hj => exact absurd hj (by omega)⟩
set_option maxRecDepth 20000 in
theorem yc_X10_9 : y_CI RX10 9 yX7_init cX7_init 1 0 := ⟨(z_T_in (List.mem_of_getElem? (i := 106) (by decide +kernel)) rfl : Cond.code yX7_init cX7_init 1 none ∈ z_T), (z_T_in (List.mem_of_getElem? (i := 104) (by decide +kernel)) rfl : Cond.methodLink RX10 9 yX7_init ∈ z_T), (z_T_in (List.mem_of_getElem? (i := 105) (by decide +kernel)) rfl : Cond.instanceMethod yX7_init ∈ z_T), rfl, (z_T_in (List.mem_of_getElem? (i := 82) (by decide +kernel)) rfl : Cond.initialized RX7 ∈ z_T), by decide +kernel⟩
set_option maxRecDepth 20000 in
theorem yf_X10_10 : y_FF RX10 10 10 0 (.object "RunTogether$Rules") := ⟨RX10, TX10, 12, tyX10, rfl, zin_X10, by decide, (z_T_in (List.mem_of_getElem? (i := 374) (by decide +kernel)) rfl : Cond.fieldLink RX10 10 "RunTogether" "rules" "LRunTogether$Rules;" ∈ z_T), tyX10_ok, nmX10, rfl, rfl, by decide +kernel⟩
set_option maxRecDepth 20000 in
theorem yn_X10_16 : y_CN RX10 16 9 [.int 0, .null, .null, .null, .null] 5 := ⟨RX9, TX9, tyX9, rfl, zin_X9, tyX9_ok, (z_T_in (List.mem_of_getElem? (i := 127) (by decide +kernel)) rfl : Cond.classLink RX10 16 RX9 ∈ z_T), (z_T_in (List.mem_of_getElem? (i := 128) (by decide +kernel)) rfl : Cond.instantiable RX9 5 ∈ z_T), (z_T_in (List.mem_of_getElem? (i := 83) (by decide +kernel)) rfl : Cond.initialized RX9 ∈ z_T), fun j hj => by
  match j, hj with
  | 0, _ => rfl
  | 1, _ => rfl
  | 2, _ => rfl
  | 3, _ => rfl
  | 4, _ => rfl
  | j + 5, hj => exact absurd hj (by omega)⟩
set_option maxRecDepth 20000 in
theorem yc_X10_18 : y_CIN RX10 18 yX9_init cX9_init 1 0 := ⟨(z_T_in (List.mem_of_getElem? (i := 131) (by decide +kernel)) rfl : Cond.code yX9_init cX9_init 1 none ∈ z_T), (fun s h => h.2.1), (z_T_in (List.mem_of_getElem? (i := 130) (by decide +kernel)) rfl : Cond.instanceMethod yX9_init ∈ z_T), rfl, (z_T_in (List.mem_of_getElem? (i := 83) (by decide +kernel)) rfl : Cond.initialized RX9 ∈ z_T), by decide +kernel⟩
set_option maxRecDepth 20000 in
theorem yf_X10_19 : y_FF RX10 19 10 1 (.object "RunTogether$Words") := ⟨RX10, TX10, 12, tyX10, rfl, zin_X10, by decide, (z_T_in (List.mem_of_getElem? (i := 375) (by decide +kernel)) rfl : Cond.fieldLink RX10 19 "RunTogether" "words" "LRunTogether$Words;" ∈ z_T), tyX10_ok, nmX10, rfl, rfl, by decide +kernel⟩
set_option maxRecDepth 20000 in
theorem yn_X10_23 : y_CN RX10 23 6 [.null, .int 0] 2 := ⟨RX6, TX6, tyX6, rfl, zin_X6, tyX6_ok, (z_T_in (List.mem_of_getElem? (i := 173) (by decide +kernel)) rfl : Cond.classLink RX10 23 RX6 ∈ z_T), (z_T_in (List.mem_of_getElem? (i := 174) (by decide +kernel)) rfl : Cond.instantiable RX6 2 ∈ z_T), (z_T_in (List.mem_of_getElem? (i := 84) (by decide +kernel)) rfl : Cond.initialized RX6 ∈ z_T), fun j hj => by
  match j, hj with
  | 0, _ => rfl
  | 1, _ => rfl
  | j + 2, hj => exact absurd hj (by omega)⟩
set_option maxRecDepth 20000 in
theorem yc_X10_25 : y_CI RX10 25 yX6_init cX6_init 2 1 := ⟨(z_T_in (List.mem_of_getElem? (i := 177) (by decide +kernel)) rfl : Cond.code yX6_init cX6_init 2 none ∈ z_T), (z_T_in (List.mem_of_getElem? (i := 175) (by decide +kernel)) rfl : Cond.methodLink RX10 25 yX6_init ∈ z_T), (z_T_in (List.mem_of_getElem? (i := 176) (by decide +kernel)) rfl : Cond.instanceMethod yX6_init ∈ z_T), rfl, (z_T_in (List.mem_of_getElem? (i := 84) (by decide +kernel)) rfl : Cond.initialized RX6 ∈ z_T), by decide +kernel⟩
set_option maxRecDepth 20000 in
theorem yf_X10_28 : y_FF RX10 28 10 2 (.object "RunTogether$Row") := ⟨RX10, TX10, 12, tyX10, rfl, zin_X10, by decide, (z_T_in (List.mem_of_getElem? (i := 376) (by decide +kernel)) rfl : Cond.fieldLink RX10 28 "RunTogether" "text" "LRunTogether$Row;" ∈ z_T), tyX10_ok, nmX10, rfl, rfl, by decide +kernel⟩
set_option maxRecDepth 20000 in
theorem yf_X10_32 : y_FF RX10 32 10 3 (.object "RunTogether$Row") := ⟨RX10, TX10, 12, tyX10, rfl, zin_X10, by decide, (z_T_in (List.mem_of_getElem? (i := 377) (by decide +kernel)) rfl : Cond.fieldLink RX10 32 "RunTogether" "draft" "LRunTogether$Row;" ∈ z_T), tyX10_ok, nmX10, rfl, rfl, by decide +kernel⟩
set_option maxRecDepth 20000 in
theorem yn_X10_35 : y_CN RX10 35 0 [.null, .int 0, .null, .null, .int 0, .int 0] 6 := ⟨RX0, TX0, tyX0, rfl, zin_X0, tyX0_ok, (z_T_in (List.mem_of_getElem? (i := 199) (by decide +kernel)) rfl : Cond.classLink RX10 35 RX0 ∈ z_T), (z_T_in (List.mem_of_getElem? (i := 200) (by decide +kernel)) rfl : Cond.instantiable RX0 6 ∈ z_T), (z_T_in (List.mem_of_getElem? (i := 86) (by decide +kernel)) rfl : Cond.initialized RX0 ∈ z_T), fun j hj => by
  match j, hj with
  | 0, _ => rfl
  | 1, _ => rfl
  | 2, _ => rfl
  | 3, _ => rfl
  | 4, _ => rfl
  | 5, _ => rfl
  | j + 6, hj => exact absurd hj (by omega)⟩
set_option maxRecDepth 20000 in
theorem yg_X10_28 : z_FL RX10 28 10 2 := ⟨RX10, TX10, 12, rfl, zin_X10, by decide, (z_T_in (List.mem_of_getElem? (i := 376) (by decide +kernel)) rfl : Cond.fieldLink RX10 28 "RunTogether" "text" "LRunTogether$Row;" ∈ z_T)⟩
set_option maxRecDepth 20000 in
theorem yg_X10_10 : z_FL RX10 10 10 0 := ⟨RX10, TX10, 12, rfl, zin_X10, by decide, (z_T_in (List.mem_of_getElem? (i := 374) (by decide +kernel)) rfl : Cond.fieldLink RX10 10 "RunTogether" "rules" "LRunTogether$Rules;" ∈ z_T)⟩
set_option maxRecDepth 20000 in
theorem yc_X10_37 : y_CI RX10 37 yX0_init cX0_init 3 2 := ⟨(z_T_in (List.mem_of_getElem? (i := 203) (by decide +kernel)) rfl : Cond.code yX0_init cX0_init 3 none ∈ z_T), (z_T_in (List.mem_of_getElem? (i := 201) (by decide +kernel)) rfl : Cond.methodLink RX10 37 yX0_init ∈ z_T), (z_T_in (List.mem_of_getElem? (i := 202) (by decide +kernel)) rfl : Cond.instanceMethod yX0_init ∈ z_T), rfl, (z_T_in (List.mem_of_getElem? (i := 86) (by decide +kernel)) rfl : Cond.initialized RX0 ∈ z_T), by decide +kernel⟩
set_option maxRecDepth 20000 in
theorem yf_X10_40 : y_FF RX10 40 10 4 (.object "RunTogether$Clauses") := ⟨RX10, TX10, 12, tyX10, rfl, zin_X10, by decide, (z_T_in (List.mem_of_getElem? (i := 378) (by decide +kernel)) rfl : Cond.fieldLink RX10 40 "RunTogether" "clauses" "LRunTogether$Clauses;" ∈ z_T), tyX10_ok, nmX10, rfl, rfl, by decide +kernel⟩
set_option maxRecDepth 20000 in
theorem yn_X10_44 : y_CN RX10 44 5 [.null, .null, .null, .null, .null, .null, .int 0, .int 0, .long 0] 9 := ⟨RX5, TX5, tyX5, rfl, zin_X5, tyX5_ok, (z_T_in (List.mem_of_getElem? (i := 228) (by decide +kernel)) rfl : Cond.classLink RX10 44 RX5 ∈ z_T), (z_T_in (List.mem_of_getElem? (i := 229) (by decide +kernel)) rfl : Cond.instantiable RX5 9 ∈ z_T), (z_T_in (List.mem_of_getElem? (i := 87) (by decide +kernel)) rfl : Cond.initialized RX5 ∈ z_T), fun j hj => by
  match j, hj with
  | 0, _ => rfl
  | 1, _ => rfl
  | 2, _ => rfl
  | 3, _ => rfl
  | 4, _ => rfl
  | 5, _ => rfl
  | 6, _ => rfl
  | 7, _ => rfl
  | 8, _ => rfl
  | j + 9, hj => exact absurd hj (by omega)⟩
set_option maxRecDepth 20000 in
theorem yg_X10_32 : z_FL RX10 32 10 3 := ⟨RX10, TX10, 12, rfl, zin_X10, by decide, (z_T_in (List.mem_of_getElem? (i := 377) (by decide +kernel)) rfl : Cond.fieldLink RX10 32 "RunTogether" "draft" "LRunTogether$Row;" ∈ z_T)⟩
set_option maxRecDepth 20000 in
theorem yg_X10_19 : z_FL RX10 19 10 1 := ⟨RX10, TX10, 12, rfl, zin_X10, by decide, (z_T_in (List.mem_of_getElem? (i := 375) (by decide +kernel)) rfl : Cond.fieldLink RX10 19 "RunTogether" "words" "LRunTogether$Words;" ∈ z_T)⟩
set_option maxRecDepth 20000 in
theorem yc_X10_46 : y_CI RX10 46 yX5_init cX5_init 4 3 := ⟨(z_T_in (List.mem_of_getElem? (i := 232) (by decide +kernel)) rfl : Cond.code yX5_init cX5_init 4 none ∈ z_T), (z_T_in (List.mem_of_getElem? (i := 230) (by decide +kernel)) rfl : Cond.methodLink RX10 46 yX5_init ∈ z_T), (z_T_in (List.mem_of_getElem? (i := 231) (by decide +kernel)) rfl : Cond.instanceMethod yX5_init ∈ z_T), rfl, (z_T_in (List.mem_of_getElem? (i := 87) (by decide +kernel)) rfl : Cond.initialized RX5 ∈ z_T), by decide +kernel⟩
set_option maxRecDepth 20000 in
theorem yf_X10_49 : y_FF RX10 49 10 5 (.object "RunTogether$Readings") := ⟨RX10, TX10, 12, tyX10, rfl, zin_X10, by decide, (z_T_in (List.mem_of_getElem? (i := 379) (by decide +kernel)) rfl : Cond.fieldLink RX10 49 "RunTogether" "drafted" "LRunTogether$Readings;" ∈ z_T), tyX10_ok, nmX10, rfl, rfl, by decide +kernel⟩
set_option maxRecDepth 20000 in
theorem yn_X10_53 : y_CN RX10 53 3 [.null, .null, .null, .null, .null] 5 := ⟨RX3, TX3, tyX3, rfl, zin_X3, tyX3_ok, (z_T_in (List.mem_of_getElem? (i := 263) (by decide +kernel)) rfl : Cond.classLink RX10 53 RX3 ∈ z_T), (z_T_in (List.mem_of_getElem? (i := 264) (by decide +kernel)) rfl : Cond.instantiable RX3 5 ∈ z_T), (z_T_in (List.mem_of_getElem? (i := 88) (by decide +kernel)) rfl : Cond.initialized RX3 ∈ z_T), fun j hj => by
  match j, hj with
  | 0, _ => rfl
  | 1, _ => rfl
  | 2, _ => rfl
  | 3, _ => rfl
  | 4, _ => rfl
  | j + 5, hj => exact absurd hj (by omega)⟩
set_option maxRecDepth 20000 in
theorem yc_X10_55 : y_CI RX10 55 yX3_init cX3_init 4 3 := ⟨(z_T_in (List.mem_of_getElem? (i := 267) (by decide +kernel)) rfl : Cond.code yX3_init cX3_init 4 none ∈ z_T), (z_T_in (List.mem_of_getElem? (i := 265) (by decide +kernel)) rfl : Cond.methodLink RX10 55 yX3_init ∈ z_T), (z_T_in (List.mem_of_getElem? (i := 266) (by decide +kernel)) rfl : Cond.instanceMethod yX3_init ∈ z_T), rfl, (z_T_in (List.mem_of_getElem? (i := 88) (by decide +kernel)) rfl : Cond.initialized RX3 ∈ z_T), by decide +kernel⟩
set_option maxRecDepth 20000 in
theorem yf_X10_56 : y_FF RX10 56 10 6 (.object "RunTogether$Patching") := ⟨RX10, TX10, 12, tyX10, rfl, zin_X10, by decide, (z_T_in (List.mem_of_getElem? (i := 380) (by decide +kernel)) rfl : Cond.fieldLink RX10 56 "RunTogether" "patching" "LRunTogether$Patching;" ∈ z_T), tyX10_ok, nmX10, rfl, rfl, by decide +kernel⟩
set_option maxRecDepth 20000 in
theorem yn_X10_60 : y_CN RX10 60 2 [.int 0, .null, .int 0, .int 0, .int 0, .int 0, .null, .null, .null, .null, .null, .null, .null, .null, .int 0, .int 0] 16 := ⟨RX2, TX2, tyX2, rfl, zin_X2, tyX2_ok, (z_T_in (List.mem_of_getElem? (i := 285) (by decide +kernel)) rfl : Cond.classLink RX10 60 RX2 ∈ z_T), (z_T_in (List.mem_of_getElem? (i := 286) (by decide +kernel)) rfl : Cond.instantiable RX2 16 ∈ z_T), (z_T_in (List.mem_of_getElem? (i := 89) (by decide +kernel)) rfl : Cond.initialized RX2 ∈ z_T), fun j hj => by
  match j, hj with
  | 0, _ => rfl
  | 1, _ => rfl
  | 2, _ => rfl
  | 3, _ => rfl
  | 4, _ => rfl
  | 5, _ => rfl
  | 6, _ => rfl
  | 7, _ => rfl
  | 8, _ => rfl
  | 9, _ => rfl
  | 10, _ => rfl
  | 11, _ => rfl
  | 12, _ => rfl
  | 13, _ => rfl
  | 14, _ => rfl
  | 15, _ => rfl
  | j + 16, hj => exact absurd hj (by omega)⟩
set_option maxRecDepth 20000 in
theorem yc_X10_62 : y_CI RX10 62 yX2_init cX2_init 4 2 := ⟨(z_T_in (List.mem_of_getElem? (i := 289) (by decide +kernel)) rfl : Cond.code yX2_init cX2_init 4 none ∈ z_T), (z_T_in (List.mem_of_getElem? (i := 287) (by decide +kernel)) rfl : Cond.methodLink RX10 62 yX2_init ∈ z_T), (z_T_in (List.mem_of_getElem? (i := 288) (by decide +kernel)) rfl : Cond.instanceMethod yX2_init ∈ z_T), rfl, (z_T_in (List.mem_of_getElem? (i := 89) (by decide +kernel)) rfl : Cond.initialized RX2 ∈ z_T), by decide +kernel⟩
set_option maxRecDepth 20000 in
theorem yf_X10_65 : y_FF RX10 65 10 7 (.object "RunTogether$Lines") := ⟨RX10, TX10, 12, tyX10, rfl, zin_X10, by decide, (z_T_in (List.mem_of_getElem? (i := 381) (by decide +kernel)) rfl : Cond.fieldLink RX10 65 "RunTogether" "lines" "LRunTogether$Lines;" ∈ z_T), tyX10_ok, nmX10, rfl, rfl, by decide +kernel⟩
set_option maxRecDepth 20000 in
theorem yf_X10_69 : y_FF RX10 69 10 8 (.array .long) := ⟨RX10, TX10, 12, tyX10, rfl, zin_X10, by decide, (z_T_in (List.mem_of_getElem? (i := 382) (by decide +kernel)) rfl : Cond.fieldLink RX10 69 "RunTogether" "waysOf" "[J" ∈ z_T), tyX10_ok, nmX10, rfl, rfl, by decide +kernel⟩
set_option maxRecDepth 20000 in
theorem yn_X10_73 : y_CN RX10 73 8 [.int 0, .int 0, .int 0, .null] 4 := ⟨RX8, TX8, tyX8, rfl, zin_X8, tyX8_ok, (z_T_in (List.mem_of_getElem? (i := 349) (by decide +kernel)) rfl : Cond.classLink RX10 73 RX8 ∈ z_T), (z_T_in (List.mem_of_getElem? (i := 350) (by decide +kernel)) rfl : Cond.instantiable RX8 4 ∈ z_T), (z_T_in (List.mem_of_getElem? (i := 90) (by decide +kernel)) rfl : Cond.initialized RX8 ∈ z_T), fun j hj => by
  match j, hj with
  | 0, _ => rfl
  | 1, _ => rfl
  | 2, _ => rfl
  | 3, _ => rfl
  | j + 4, hj => exact absurd hj (by omega)⟩
set_option maxRecDepth 20000 in
theorem yc_X10_75 : y_CI RX10 75 yX8_init cX8_init 2 1 := ⟨(z_T_in (List.mem_of_getElem? (i := 353) (by decide +kernel)) rfl : Cond.code yX8_init cX8_init 2 none ∈ z_T), (z_T_in (List.mem_of_getElem? (i := 351) (by decide +kernel)) rfl : Cond.methodLink RX10 75 yX8_init ∈ z_T), (z_T_in (List.mem_of_getElem? (i := 352) (by decide +kernel)) rfl : Cond.instanceMethod yX8_init ∈ z_T), rfl, (z_T_in (List.mem_of_getElem? (i := 90) (by decide +kernel)) rfl : Cond.initialized RX8 ∈ z_T), by decide +kernel⟩
set_option maxRecDepth 20000 in
theorem yf_X10_78 : y_FF RX10 78 10 9 (.object "RunTogether$Shortest") := ⟨RX10, TX10, 12, tyX10, rfl, zin_X10, by decide, (z_T_in (List.mem_of_getElem? (i := 383) (by decide +kernel)) rfl : Cond.fieldLink RX10 78 "RunTogether" "shortestKey" "LRunTogether$Shortest;" ∈ z_T), tyX10_ok, nmX10, rfl, rfl, by decide +kernel⟩
set_option maxRecDepth 20000 in
theorem yf_X10_82 : y_FF RX10 82 10 10 (.object "RunTogether$Shortest") := ⟨RX10, TX10, 12, tyX10, rfl, zin_X10, by decide, (z_T_in (List.mem_of_getElem? (i := 384) (by decide +kernel)) rfl : Cond.fieldLink RX10 82 "RunTogether" "shortestStrange" "LRunTogether$Shortest;" ∈ z_T), tyX10_ok, nmX10, rfl, rfl, by decide +kernel⟩
set_option maxRecDepth 20000 in
theorem yo_X11 : Cond.methodLink RX11 1 Lib.objectInit ∈ z_T := (z_T_in (List.mem_of_getElem? (i := 952) (by decide +kernel)) rfl : Cond.methodLink RX11 1 Lib.objectInit ∈ z_T)
set_option maxRecDepth 20000 in
theorem yf_X11_7 : y_FF RX11 7 11 2 (.array .int) := ⟨RX11, TX11, 52, tyX11, rfl, zin_X11, by decide, (z_T_in (List.mem_of_getElem? (i := 955) (by decide +kernel)) rfl : Cond.fieldLink RX11 7 "RunTogetherModel" "word" "[I" ∈ z_T), tyX11_ok, nmX11, rfl, rfl, by decide +kernel⟩
set_option maxRecDepth 20000 in
theorem yf_X11_13 : y_FF RX11 13 11 3 (.array .int) := ⟨RX11, TX11, 52, tyX11, rfl, zin_X11, by decide, (z_T_in (List.mem_of_getElem? (i := 956) (by decide +kernel)) rfl : Cond.fieldLink RX11 13 "RunTogetherModel" "size" "[I" ∈ z_T), tyX11_ok, nmX11, rfl, rfl, by decide +kernel⟩
set_option maxRecDepth 20000 in
theorem yf_X11_16 : y_FF RX11 16 11 4 (.array .int) := ⟨RX11, TX11, 52, tyX11, rfl, zin_X11, by decide, (z_T_in (List.mem_of_getElem? (i := 957) (by decide +kernel)) rfl : Cond.fieldLink RX11 16 "RunTogetherModel" "cost" "[I" ∈ z_T), tyX11_ok, nmX11, rfl, rfl, by decide +kernel⟩
set_option maxRecDepth 20000 in
theorem yf_X11_19 : y_FF RX11 19 11 5 (.array .int) := ⟨RX11, TX11, 52, tyX11, rfl, zin_X11, by decide, (z_T_in (List.mem_of_getElem? (i := 958) (by decide +kernel)) rfl : Cond.fieldLink RX11 19 "RunTogetherModel" "kind" "[I" ∈ z_T), tyX11_ok, nmX11, rfl, rfl, by decide +kernel⟩
set_option maxRecDepth 20000 in
theorem yf_X11_22 : y_FF RX11 22 11 6 (.array .boolean) := ⟨RX11, TX11, 52, tyX11, rfl, zin_X11, by decide, (z_T_in (List.mem_of_getElem? (i := 959) (by decide +kernel)) rfl : Cond.fieldLink RX11 22 "RunTogetherModel" "follows" "[Z" ∈ z_T), tyX11_ok, nmX11, rfl, rfl, by decide +kernel⟩
set_option maxRecDepth 20000 in
theorem yf_X11_26 : y_FF RX11 26 11 7 (.array .int) := ⟨RX11, TX11, 52, tyX11, rfl, zin_X11, by decide, (z_T_in (List.mem_of_getElem? (i := 960) (by decide +kernel)) rfl : Cond.fieldLink RX11 26 "RunTogetherModel" "price" "[I" ∈ z_T), tyX11_ok, nmX11, rfl, rfl, by decide +kernel⟩
set_option maxRecDepth 20000 in
theorem yf_X11_29 : y_FF RX11 29 11 8 (.array .int) := ⟨RX11, TX11, 52, tyX11, rfl, zin_X11, by decide, (z_T_in (List.mem_of_getElem? (i := 961) (by decide +kernel)) rfl : Cond.fieldLink RX11 29 "RunTogetherModel" "draft" "[I" ∈ z_T), tyX11_ok, nmX11, rfl, rfl, by decide +kernel⟩
set_option maxRecDepth 20000 in
theorem yf_X11_32 : y_FF RX11 32 11 11 (.array .int) := ⟨RX11, TX11, 52, tyX11, rfl, zin_X11, by decide, (z_T_in (List.mem_of_getElem? (i := 964) (by decide +kernel)) rfl : Cond.fieldLink RX11 32 "RunTogetherModel" "line" "[I" ∈ z_T), tyX11_ok, nmX11, rfl, rfl, by decide +kernel⟩
set_option maxRecDepth 20000 in
theorem yf_X11_35 : y_FF RX11 35 11 12 (.array .int) := ⟨RX11, TX11, 52, tyX11, rfl, zin_X11, by decide, (z_T_in (List.mem_of_getElem? (i := 965) (by decide +kernel)) rfl : Cond.fieldLink RX11 35 "RunTogetherModel" "lineSize" "[I" ∈ z_T), tyX11_ok, nmX11, rfl, rfl, by decide +kernel⟩
set_option maxRecDepth 20000 in
theorem yf_X11_38 : y_FF RX11 38 11 13 (.array .int) := ⟨RX11, TX11, 52, tyX11, rfl, zin_X11, by decide, (z_T_in (List.mem_of_getElem? (i := 966) (by decide +kernel)) rfl : Cond.fieldLink RX11 38 "RunTogetherModel" "text" "[I" ∈ z_T), tyX11_ok, nmX11, rfl, rfl, by decide +kernel⟩
set_option maxRecDepth 20000 in
theorem yp_X11_41 : z_FP RX11 41 11 17 .int := ⟨RX11, TX11, 52, tyX11, rfl, zin_X11, by decide, (z_T_in (List.mem_of_getElem? (i := 970) (by decide +kernel)) rfl : Cond.fieldLink RX11 41 "RunTogetherModel" "place" "I" ∈ z_T), tyX11_ok, nmX11, rfl, by decide +kernel⟩
set_option maxRecDepth 20000 in
theorem yf_X11_45 : y_FF RX11 45 11 18 (.array .int) := ⟨RX11, TX11, 52, tyX11, rfl, zin_X11, by decide, (z_T_in (List.mem_of_getElem? (i := 971) (by decide +kernel)) rfl : Cond.fieldLink RX11 45 "RunTogetherModel" "newWord" "[I" ∈ z_T), tyX11_ok, nmX11, rfl, rfl, by decide +kernel⟩
set_option maxRecDepth 20000 in
theorem yf_X11_48 : y_FF RX11 48 11 19 (.array .int) := ⟨RX11, TX11, 52, tyX11, rfl, zin_X11, by decide, (z_T_in (List.mem_of_getElem? (i := 972) (by decide +kernel)) rfl : Cond.fieldLink RX11 48 "RunTogetherModel" "newSize" "[I" ∈ z_T), tyX11_ok, nmX11, rfl, rfl, by decide +kernel⟩
set_option maxRecDepth 20000 in
theorem yf_X11_51 : y_FF RX11 51 11 20 (.array .int) := ⟨RX11, TX11, 52, tyX11, rfl, zin_X11, by decide, (z_T_in (List.mem_of_getElem? (i := 973) (by decide +kernel)) rfl : Cond.fieldLink RX11 51 "RunTogetherModel" "newCost" "[I" ∈ z_T), tyX11_ok, nmX11, rfl, rfl, by decide +kernel⟩
set_option maxRecDepth 20000 in
theorem yf_X11_54 : y_FF RX11 54 11 21 (.array .int) := ⟨RX11, TX11, 52, tyX11, rfl, zin_X11, by decide, (z_T_in (List.mem_of_getElem? (i := 974) (by decide +kernel)) rfl : Cond.fieldLink RX11 54 "RunTogetherModel" "newKind" "[I" ∈ z_T), tyX11_ok, nmX11, rfl, rfl, by decide +kernel⟩
set_option maxRecDepth 20000 in
theorem yf_X11_57 : y_FF RX11 57 11 23 (.array .long) := ⟨RX11, TX11, 52, tyX11, rfl, zin_X11, by decide, (z_T_in (List.mem_of_getElem? (i := 976) (by decide +kernel)) rfl : Cond.fieldLink RX11 57 "RunTogetherModel" "many" "[J" ∈ z_T), tyX11_ok, nmX11, rfl, rfl, by decide +kernel⟩
set_option maxRecDepth 20000 in
theorem yf_X11_61 : y_FF RX11 61 11 24 (.array .int) := ⟨RX11, TX11, 52, tyX11, rfl, zin_X11, by decide, (z_T_in (List.mem_of_getElem? (i := 977) (by decide +kernel)) rfl : Cond.fieldLink RX11 61 "RunTogetherModel" "cheap" "[I" ∈ z_T), tyX11_ok, nmX11, rfl, rfl, by decide +kernel⟩
set_option maxRecDepth 20000 in
theorem yf_X11_64 : y_FF RX11 64 11 25 (.array .long) := ⟨RX11, TX11, 52, tyX11, rfl, zin_X11, by decide, (z_T_in (List.mem_of_getElem? (i := 978) (by decide +kernel)) rfl : Cond.fieldLink RX11 64 "RunTogetherModel" "cheapMany" "[J" ∈ z_T), tyX11_ok, nmX11, rfl, rfl, by decide +kernel⟩
set_option maxRecDepth 20000 in
theorem yf_X11_67 : y_FF RX11 67 11 26 (.array .int) := ⟨RX11, TX11, 52, tyX11, rfl, zin_X11, by decide, (z_T_in (List.mem_of_getElem? (i := 979) (by decide +kernel)) rfl : Cond.fieldLink RX11 67 "RunTogetherModel" "few" "[I" ∈ z_T), tyX11_ok, nmX11, rfl, rfl, by decide +kernel⟩
set_option maxRecDepth 20000 in
theorem yf_X11_70 : y_FF RX11 70 11 27 (.array .int) := ⟨RX11, TX11, 52, tyX11, rfl, zin_X11, by decide, (z_T_in (List.mem_of_getElem? (i := 980) (by decide +kernel)) rfl : Cond.fieldLink RX11 70 "RunTogetherModel" "lots" "[I" ∈ z_T), tyX11_ok, nmX11, rfl, rfl, by decide +kernel⟩
set_option maxRecDepth 20000 in
theorem yf_X11_73 : y_FF RX11 73 11 28 (.array .boolean) := ⟨RX11, TX11, 52, tyX11, rfl, zin_X11, by decide, (z_T_in (List.mem_of_getElem? (i := 981) (by decide +kernel)) rfl : Cond.fieldLink RX11 73 "RunTogetherModel" "isMet" "[Z" ∈ z_T), tyX11_ok, nmX11, rfl, rfl, by decide +kernel⟩
set_option maxRecDepth 20000 in
theorem yf_X11_76 : y_FF RX11 76 11 29 (.array .long) := ⟨RX11, TX11, 52, tyX11, rfl, zin_X11, by decide, (z_T_in (List.mem_of_getElem? (i := 982) (by decide +kernel)) rfl : Cond.fieldLink RX11 76 "RunTogetherModel" "stateA" "[J" ∈ z_T), tyX11_ok, nmX11, rfl, rfl, by decide +kernel⟩
set_option maxRecDepth 20000 in
theorem yf_X11_79 : y_FF RX11 79 11 30 (.array .long) := ⟨RX11, TX11, 52, tyX11, rfl, zin_X11, by decide, (z_T_in (List.mem_of_getElem? (i := 983) (by decide +kernel)) rfl : Cond.fieldLink RX11 79 "RunTogetherModel" "stateB" "[J" ∈ z_T), tyX11_ok, nmX11, rfl, rfl, by decide +kernel⟩
set_option maxRecDepth 20000 in
theorem yf_X11_82 : y_FF RX11 82 11 31 (.array .int) := ⟨RX11, TX11, 52, tyX11, rfl, zin_X11, by decide, (z_T_in (List.mem_of_getElem? (i := 984) (by decide +kernel)) rfl : Cond.fieldLink RX11 82 "RunTogetherModel" "cameFrom" "[I" ∈ z_T), tyX11_ok, nmX11, rfl, rfl, by decide +kernel⟩
set_option maxRecDepth 20000 in
theorem yf_X11_85 : y_FF RX11 85 11 32 (.array .int) := ⟨RX11, TX11, 52, tyX11, rfl, zin_X11, by decide, (z_T_in (List.mem_of_getElem? (i := 985) (by decide +kernel)) rfl : Cond.fieldLink RX11 85 "RunTogetherModel" "cameBy" "[I" ∈ z_T), tyX11_ok, nmX11, rfl, rfl, by decide +kernel⟩
set_option maxRecDepth 20000 in
theorem yf_X11_88 : y_FF RX11 88 11 33 (.array .int) := ⟨RX11, TX11, 52, tyX11, rfl, zin_X11, by decide, (z_T_in (List.mem_of_getElem? (i := 986) (by decide +kernel)) rfl : Cond.fieldLink RX11 88 "RunTogetherModel" "depth" "[I" ∈ z_T), tyX11_ok, nmX11, rfl, rfl, by decide +kernel⟩
set_option maxRecDepth 20000 in
theorem yf_X11_91 : y_FF RX11 91 11 37 (.array .int) := ⟨RX11, TX11, 52, tyX11, rfl, zin_X11, by decide, (z_T_in (List.mem_of_getElem? (i := 990) (by decide +kernel)) rfl : Cond.fieldLink RX11 91 "RunTogetherModel" "found" "[I" ∈ z_T), tyX11_ok, nmX11, rfl, rfl, by decide +kernel⟩
set_option maxRecDepth 20000 in
theorem yf_X11_94 : y_FF RX11 94 11 39 (.array .long) := ⟨RX11, TX11, 52, tyX11, rfl, zin_X11, by decide, (z_T_in (List.mem_of_getElem? (i := 992) (by decide +kernel)) rfl : Cond.fieldLink RX11 94 "RunTogetherModel" "sums" "[J" ∈ z_T), tyX11_ok, nmX11, rfl, rfl, by decide +kernel⟩
set_option maxRecDepth 20000 in
theorem yf_X11_97 : y_FF RX11 97 11 40 (.array .long) := ⟨RX11, TX11, 52, tyX11, rfl, zin_X11, by decide, (z_T_in (List.mem_of_getElem? (i := 993) (by decide +kernel)) rfl : Cond.fieldLink RX11 97 "RunTogetherModel" "now" "[J" ∈ z_T), tyX11_ok, nmX11, rfl, rfl, by decide +kernel⟩
set_option maxRecDepth 20000 in
theorem yf_X11_100 : y_FF RX11 100 11 41 (.array .long) := ⟨RX11, TX11, 52, tyX11, rfl, zin_X11, by decide, (z_T_in (List.mem_of_getElem? (i := 994) (by decide +kernel)) rfl : Cond.fieldLink RX11 100 "RunTogetherModel" "next" "[J" ∈ z_T), tyX11_ok, nmX11, rfl, rfl, by decide +kernel⟩
set_option maxRecDepth 20000 in
theorem yf_X11_103 : y_FF RX11 103 11 42 (.array .long) := ⟨RX11, TX11, 52, tyX11, rfl, zin_X11, by decide, (z_T_in (List.mem_of_getElem? (i := 995) (by decide +kernel)) rfl : Cond.fieldLink RX11 103 "RunTogetherModel" "between" "[J" ∈ z_T), tyX11_ok, nmX11, rfl, rfl, by decide +kernel⟩
set_option maxRecDepth 20000 in
theorem yf_X11_106 : y_FF RX11 106 11 43 (.array .long) := ⟨RX11, TX11, 52, tyX11, rfl, zin_X11, by decide, (z_T_in (List.mem_of_getElem? (i := 996) (by decide +kernel)) rfl : Cond.fieldLink RX11 106 "RunTogetherModel" "inside" "[J" ∈ z_T), tyX11_ok, nmX11, rfl, rfl, by decide +kernel⟩
set_option maxRecDepth 20000 in
theorem yf_X11_109 : y_FF RX11 109 11 44 (.array .long) := ⟨RX11, TX11, 52, tyX11, rfl, zin_X11, by decide, (z_T_in (List.mem_of_getElem? (i := 997) (by decide +kernel)) rfl : Cond.fieldLink RX11 109 "RunTogetherModel" "betweenNext" "[J" ∈ z_T), tyX11_ok, nmX11, rfl, rfl, by decide +kernel⟩
set_option maxRecDepth 20000 in
theorem yf_X11_112 : y_FF RX11 112 11 45 (.array .long) := ⟨RX11, TX11, 52, tyX11, rfl, zin_X11, by decide, (z_T_in (List.mem_of_getElem? (i := 998) (by decide +kernel)) rfl : Cond.fieldLink RX11 112 "RunTogetherModel" "insideNext" "[J" ∈ z_T), tyX11_ok, nmX11, rfl, rfl, by decide +kernel⟩
set_option maxRecDepth 20000 in
theorem yf_X11_115 : y_FF RX11 115 11 46 (.array .int) := ⟨RX11, TX11, 52, tyX11, rfl, zin_X11, by decide, (z_T_in (List.mem_of_getElem? (i := 999) (by decide +kernel)) rfl : Cond.fieldLink RX11 115 "RunTogetherModel" "sum" "[I" ∈ z_T), tyX11_ok, nmX11, rfl, rfl, by decide +kernel⟩
set_option maxRecDepth 20000 in
theorem yf_X11_118 : y_FF RX11 118 11 47 (.array .int) := ⟨RX11, TX11, 52, tyX11, rfl, zin_X11, by decide, (z_T_in (List.mem_of_getElem? (i := 1000) (by decide +kernel)) rfl : Cond.fieldLink RX11 118 "RunTogetherModel" "used" "[I" ∈ z_T), tyX11_ok, nmX11, rfl, rfl, by decide +kernel⟩
set_option maxRecDepth 20000 in
theorem yf_X11_121 : y_FF RX11 121 11 49 (.array .int) := ⟨RX11, TX11, 52, tyX11, rfl, zin_X11, by decide, (z_T_in (List.mem_of_getElem? (i := 1002) (by decide +kernel)) rfl : Cond.fieldLink RX11 121 "RunTogetherModel" "bestRow" "[I" ∈ z_T), tyX11_ok, nmX11, rfl, rfl, by decide +kernel⟩
set_option maxRecDepth 20000 in
theorem yp_X11_124 : z_FP RX11 124 11 0 .int := ⟨RX11, TX11, 52, tyX11, rfl, zin_X11, by decide, (z_T_in (List.mem_of_getElem? (i := 953) (by decide +kernel)) rfl : Cond.fieldLink RX11 124 "RunTogetherModel" "k" "I" ∈ z_T), tyX11_ok, nmX11, rfl, by decide +kernel⟩
set_option maxRecDepth 20000 in
theorem yg_X11_22 : z_FL RX11 22 11 6 := ⟨RX11, TX11, 52, rfl, zin_X11, by decide, (z_T_in (List.mem_of_getElem? (i := 959) (by decide +kernel)) rfl : Cond.fieldLink RX11 22 "RunTogetherModel" "follows" "[Z" ∈ z_T)⟩
set_option maxRecDepth 20000 in
theorem yg_X11_26 : z_FL RX11 26 11 7 := ⟨RX11, TX11, 52, rfl, zin_X11, by decide, (z_T_in (List.mem_of_getElem? (i := 960) (by decide +kernel)) rfl : Cond.fieldLink RX11 26 "RunTogetherModel" "price" "[I" ∈ z_T)⟩
set_option maxRecDepth 20000 in
theorem yn_X10_187 : y_CN RX10 187 1 [.null, .null, .int 0, .null, .null, .null, .null, .null, .null, .null, .null, .null, .null, .null, .null, .null] 16 := ⟨RX1, TX1, tyX1, rfl, zin_X1, tyX1_ok, (z_T_in (List.mem_of_getElem? (i := 646) (by decide +kernel)) rfl : Cond.classLink RX10 187 RX1 ∈ z_T), (z_T_in (List.mem_of_getElem? (i := 647) (by decide +kernel)) rfl : Cond.instantiable RX1 16 ∈ z_T), (z_T_in (List.mem_of_getElem? (i := 92) (by decide +kernel)) rfl : Cond.initialized RX1 ∈ z_T), fun j hj => by
  match j, hj with
  | 0, _ => rfl
  | 1, _ => rfl
  | 2, _ => rfl
  | 3, _ => rfl
  | 4, _ => rfl
  | 5, _ => rfl
  | 6, _ => rfl
  | 7, _ => rfl
  | 8, _ => rfl
  | 9, _ => rfl
  | 10, _ => rfl
  | 11, _ => rfl
  | 12, _ => rfl
  | 13, _ => rfl
  | 14, _ => rfl
  | 15, _ => rfl
  | j + 16, hj => exact absurd hj (by omega)⟩
set_option maxRecDepth 20000 in
theorem yc_X10_248 : y_CI RX10 248 yX1_init cX1_init 3 2 := ⟨(z_T_in (List.mem_of_getElem? (i := 650) (by decide +kernel)) rfl : Cond.code yX1_init cX1_init 3 none ∈ z_T), (z_T_in (List.mem_of_getElem? (i := 648) (by decide +kernel)) rfl : Cond.methodLink RX10 248 yX1_init ∈ z_T), (z_T_in (List.mem_of_getElem? (i := 649) (by decide +kernel)) rfl : Cond.instanceMethod yX1_init ∈ z_T), rfl, (z_T_in (List.mem_of_getElem? (i := 92) (by decide +kernel)) rfl : Cond.initialized RX1 ∈ z_T), by decide +kernel⟩
set_option maxRecDepth 20000 in
theorem yp_X10_244 : z_FP RX10 244 10 11 (.object "RunTogether$Knowing") := ⟨RX10, TX10, 12, tyX10, rfl, zin_X10, by decide, (z_T_in (List.mem_of_getElem? (i := 385) (by decide +kernel)) rfl : Cond.fieldLink RX10 244 "RunTogether" "knowing" "LRunTogether$Knowing;" ∈ z_T), tyX10_ok, nmX10, rfl, by decide +kernel⟩
set_option maxRecDepth 20000 in
theorem yn_L_7 : y_CN RL 7 10 [.null, .null, .null, .null, .null, .null, .null, .null, .null, .null, .null, .null] 12 := ⟨RX10, TX10, tyX10, rfl, zin_X10, tyX10_ok, (z_T_in (List.mem_of_getElem? (i := 94) (by decide +kernel)) rfl : Cond.classLink RL 7 RX10 ∈ z_T), (z_T_in (List.mem_of_getElem? (i := 95) (by decide +kernel)) rfl : Cond.instantiable RX10 12 ∈ z_T), (z_T_in (List.mem_of_getElem? (i := 81) (by decide +kernel)) rfl : Cond.initialized RX10 ∈ z_T), fun j hj => by
  match j, hj with
  | 0, _ => rfl
  | 1, _ => rfl
  | 2, _ => rfl
  | 3, _ => rfl
  | 4, _ => rfl
  | 5, _ => rfl
  | 6, _ => rfl
  | 7, _ => rfl
  | 8, _ => rfl
  | 9, _ => rfl
  | 10, _ => rfl
  | 11, _ => rfl
  | j + 12, hj => exact absurd hj (by omega)⟩
set_option maxRecDepth 20000 in
theorem yn_L_10 : y_CN RL 10 11 [.int 0, .int 0, .null, .null, .null, .null, .null, .null, .null, .int 0, .int 0, .null, .null, .null, .int 0, .int 0, .int 0, .int 0, .null, .null, .null, .null, .int 0, .null, .null, .null, .null, .null, .null, .null, .null, .null, .null, .null, .int 0, .long 0, .long 0, .null, .int 0, .null, .null, .null, .null, .null, .null, .null, .null, .null, .int 0, .null, .int 0, .int 0] 52 := ⟨RX11, TX11, tyX11, rfl, zin_X11, tyX11_ok, (z_T_in (List.mem_of_getElem? (i := 947) (by decide +kernel)) rfl : Cond.classLink RL 10 RX11 ∈ z_T), (z_T_in (List.mem_of_getElem? (i := 948) (by decide +kernel)) rfl : Cond.instantiable RX11 52 ∈ z_T), (z_T_in (List.mem_of_getElem? (i := 91) (by decide +kernel)) rfl : Cond.initialized RX11 ∈ z_T), fun j hj => by
  match j, hj with
  | 0, _ => rfl
  | 1, _ => rfl
  | 2, _ => rfl
  | 3, _ => rfl
  | 4, _ => rfl
  | 5, _ => rfl
  | 6, _ => rfl
  | 7, _ => rfl
  | 8, _ => rfl
  | 9, _ => rfl
  | 10, _ => rfl
  | 11, _ => rfl
  | 12, _ => rfl
  | 13, _ => rfl
  | 14, _ => rfl
  | 15, _ => rfl
  | 16, _ => rfl
  | 17, _ => rfl
  | 18, _ => rfl
  | 19, _ => rfl
  | 20, _ => rfl
  | 21, _ => rfl
  | 22, _ => rfl
  | 23, _ => rfl
  | 24, _ => rfl
  | 25, _ => rfl
  | 26, _ => rfl
  | 27, _ => rfl
  | 28, _ => rfl
  | 29, _ => rfl
  | 30, _ => rfl
  | 31, _ => rfl
  | 32, _ => rfl
  | 33, _ => rfl
  | 34, _ => rfl
  | 35, _ => rfl
  | 36, _ => rfl
  | 37, _ => rfl
  | 38, _ => rfl
  | 39, _ => rfl
  | 40, _ => rfl
  | 41, _ => rfl
  | 42, _ => rfl
  | 43, _ => rfl
  | 44, _ => rfl
  | 45, _ => rfl
  | 46, _ => rfl
  | 47, _ => rfl
  | 48, _ => rfl
  | 49, _ => rfl
  | 50, _ => rfl
  | 51, _ => rfl
  | j + 52, hj => exact absurd hj (by omega)⟩
set_option maxRecDepth 20000 in
theorem yc_L_9 : y_CI RL 9 yX10_init cX10_init 1 0 := ⟨(z_T_in (List.mem_of_getElem? (i := 98) (by decide +kernel)) rfl : Cond.code yX10_init cX10_init 1 none ∈ z_T), (z_T_in (List.mem_of_getElem? (i := 96) (by decide +kernel)) rfl : Cond.methodLink RL 9 yX10_init ∈ z_T), (z_T_in (List.mem_of_getElem? (i := 97) (by decide +kernel)) rfl : Cond.instanceMethod yX10_init ∈ z_T), rfl, (z_T_in (List.mem_of_getElem? (i := 81) (by decide +kernel)) rfl : Cond.initialized RX10 ∈ z_T), by decide +kernel⟩
set_option maxRecDepth 20000 in
theorem yc_L_12 : y_CI RL 12 yX11_init cX11_init 2 0 := ⟨(z_T_in (List.mem_of_getElem? (i := 951) (by decide +kernel)) rfl : Cond.code yX11_init cX11_init 2 none ∈ z_T), (z_T_in (List.mem_of_getElem? (i := 949) (by decide +kernel)) rfl : Cond.methodLink RL 12 yX11_init ∈ z_T), (z_T_in (List.mem_of_getElem? (i := 950) (by decide +kernel)) rfl : Cond.instanceMethod yX11_init ∈ z_T), rfl, (z_T_in (List.mem_of_getElem? (i := 91) (by decide +kernel)) rfl : Cond.initialized RX11 ∈ z_T), by decide +kernel⟩
set_option maxRecDepth 20000 in
theorem zc_L_13 : z_CV RL 13 yX10_letters cX10_letters 2 (some .int) 1 := ⟨(z_T_in (List.mem_of_getElem? (i := 414) (by decide +kernel)) rfl : Cond.code yX10_letters cX10_letters 2 (some .int) ∈ z_T), (z_T_in (List.mem_of_getElem? (i := 411) (by decide +kernel)) rfl : Cond.methodLink RL 13 yX10_letters ∈ z_T), (z_T_in (List.mem_of_getElem? (i := 412) (by decide +kernel)) rfl : Cond.instanceMethod yX10_letters ∈ z_T), (z_T_in (List.mem_of_getElem? (i := 413) (by decide +kernel)) rfl : Cond.selects yX10_letters.cls yX10_letters yX10_letters ∈ z_T), (z_T_in (List.mem_of_getElem? (i := 81) (by decide +kernel)) rfl : Cond.initialized yX10_letters.cls ∈ z_T), by decide +kernel⟩
set_option maxRecDepth 20000 in
theorem zc_L_17 : z_CV RL 17 yX11_letters cX11_letters 2 (some .int) 1 := ⟨(z_T_in (List.mem_of_getElem? (i := 1113) (by decide +kernel)) rfl : Cond.code yX11_letters cX11_letters 2 (some .int) ∈ z_T), (z_T_in (List.mem_of_getElem? (i := 1110) (by decide +kernel)) rfl : Cond.methodLink RL 17 yX11_letters ∈ z_T), (z_T_in (List.mem_of_getElem? (i := 1111) (by decide +kernel)) rfl : Cond.instanceMethod yX11_letters ∈ z_T), (z_T_in (List.mem_of_getElem? (i := 1112) (by decide +kernel)) rfl : Cond.selects yX11_letters.cls yX11_letters yX11_letters ∈ z_T), (z_T_in (List.mem_of_getElem? (i := 91) (by decide +kernel)) rfl : Cond.initialized yX11_letters.cls ∈ z_T), by decide +kernel⟩
set_option maxRecDepth 20000 in
theorem zc_L_20 : z_CV RL 20 yX10_feed cX10_feed 5 (some .int) 2 := ⟨(z_T_in (List.mem_of_getElem? (i := 422) (by decide +kernel)) rfl : Cond.code yX10_feed cX10_feed 5 (some .int) ∈ z_T), (z_T_in (List.mem_of_getElem? (i := 419) (by decide +kernel)) rfl : Cond.methodLink RL 20 yX10_feed ∈ z_T), (z_T_in (List.mem_of_getElem? (i := 420) (by decide +kernel)) rfl : Cond.instanceMethod yX10_feed ∈ z_T), (z_T_in (List.mem_of_getElem? (i := 421) (by decide +kernel)) rfl : Cond.selects yX10_feed.cls yX10_feed yX10_feed ∈ z_T), (z_T_in (List.mem_of_getElem? (i := 81) (by decide +kernel)) rfl : Cond.initialized yX10_feed.cls ∈ z_T), by decide +kernel⟩
set_option maxRecDepth 20000 in
theorem zc_L_24 : z_CV RL 24 yX11_feed cX11_feed 5 (some .int) 2 := ⟨(z_T_in (List.mem_of_getElem? (i := 1122) (by decide +kernel)) rfl : Cond.code yX11_feed cX11_feed 5 (some .int) ∈ z_T), (z_T_in (List.mem_of_getElem? (i := 1119) (by decide +kernel)) rfl : Cond.methodLink RL 24 yX11_feed ∈ z_T), (z_T_in (List.mem_of_getElem? (i := 1120) (by decide +kernel)) rfl : Cond.instanceMethod yX11_feed ∈ z_T), (z_T_in (List.mem_of_getElem? (i := 1121) (by decide +kernel)) rfl : Cond.selects yX11_feed.cls yX11_feed yX11_feed ∈ z_T), (z_T_in (List.mem_of_getElem? (i := 91) (by decide +kernel)) rfl : Cond.initialized yX11_feed.cls ∈ z_T), by decide +kernel⟩
set_option maxRecDepth 20000 in
theorem zc_L_25 : z_CV RL 25 yX10_read cX10_read 2 (some .int) 0 := ⟨(z_T_in (List.mem_of_getElem? (i := 430) (by decide +kernel)) rfl : Cond.code yX10_read cX10_read 2 (some .int) ∈ z_T), (z_T_in (List.mem_of_getElem? (i := 427) (by decide +kernel)) rfl : Cond.methodLink RL 25 yX10_read ∈ z_T), (z_T_in (List.mem_of_getElem? (i := 428) (by decide +kernel)) rfl : Cond.instanceMethod yX10_read ∈ z_T), (z_T_in (List.mem_of_getElem? (i := 429) (by decide +kernel)) rfl : Cond.selects yX10_read.cls yX10_read yX10_read ∈ z_T), (z_T_in (List.mem_of_getElem? (i := 81) (by decide +kernel)) rfl : Cond.initialized yX10_read.cls ∈ z_T), by decide +kernel⟩
set_option maxRecDepth 20000 in
theorem zc_L_29 : z_CV RL 29 yX11_read cX11_read 3 (some .int) 0 := ⟨(z_T_in (List.mem_of_getElem? (i := 1127) (by decide +kernel)) rfl : Cond.code yX11_read cX11_read 3 (some .int) ∈ z_T), (z_T_in (List.mem_of_getElem? (i := 1124) (by decide +kernel)) rfl : Cond.methodLink RL 29 yX11_read ∈ z_T), (z_T_in (List.mem_of_getElem? (i := 1125) (by decide +kernel)) rfl : Cond.instanceMethod yX11_read ∈ z_T), (z_T_in (List.mem_of_getElem? (i := 1126) (by decide +kernel)) rfl : Cond.selects yX11_read.cls yX11_read yX11_read ∈ z_T), (z_T_in (List.mem_of_getElem? (i := 91) (by decide +kernel)) rfl : Cond.initialized yX11_read.cls ∈ z_T), by decide +kernel⟩
set_option maxRecDepth 20000 in
theorem zc_L_30 : z_CV RL 30 yX10_fault cX10_fault 1 (some .int) 0 := ⟨(z_T_in (List.mem_of_getElem? (i := 499) (by decide +kernel)) rfl : Cond.code yX10_fault cX10_fault 1 (some .int) ∈ z_T), (z_T_in (List.mem_of_getElem? (i := 496) (by decide +kernel)) rfl : Cond.methodLink RL 30 yX10_fault ∈ z_T), (z_T_in (List.mem_of_getElem? (i := 497) (by decide +kernel)) rfl : Cond.instanceMethod yX10_fault ∈ z_T), (z_T_in (List.mem_of_getElem? (i := 498) (by decide +kernel)) rfl : Cond.selects yX10_fault.cls yX10_fault yX10_fault ∈ z_T), (z_T_in (List.mem_of_getElem? (i := 81) (by decide +kernel)) rfl : Cond.initialized yX10_fault.cls ∈ z_T), by decide +kernel⟩
set_option maxRecDepth 20000 in
theorem zc_L_33 : z_CV RL 33 yX11_fault cX11_fault 1 (some .int) 0 := ⟨(z_T_in (List.mem_of_getElem? (i := 1159) (by decide +kernel)) rfl : Cond.code yX11_fault cX11_fault 1 (some .int) ∈ z_T), (z_T_in (List.mem_of_getElem? (i := 1156) (by decide +kernel)) rfl : Cond.methodLink RL 33 yX11_fault ∈ z_T), (z_T_in (List.mem_of_getElem? (i := 1157) (by decide +kernel)) rfl : Cond.instanceMethod yX11_fault ∈ z_T), (z_T_in (List.mem_of_getElem? (i := 1158) (by decide +kernel)) rfl : Cond.selects yX11_fault.cls yX11_fault yX11_fault ∈ z_T), (z_T_in (List.mem_of_getElem? (i := 91) (by decide +kernel)) rfl : Cond.initialized yX11_fault.cls ∈ z_T), by decide +kernel⟩
set_option maxRecDepth 20000 in
theorem zc_L_34 : z_CV RL 34 yX10_word cX10_word 3 (some .int) 2 := ⟨(z_T_in (List.mem_of_getElem? (i := 503) (by decide +kernel)) rfl : Cond.code yX10_word cX10_word 3 (some .int) ∈ z_T), (z_T_in (List.mem_of_getElem? (i := 500) (by decide +kernel)) rfl : Cond.methodLink RL 34 yX10_word ∈ z_T), (z_T_in (List.mem_of_getElem? (i := 501) (by decide +kernel)) rfl : Cond.instanceMethod yX10_word ∈ z_T), (z_T_in (List.mem_of_getElem? (i := 502) (by decide +kernel)) rfl : Cond.selects yX10_word.cls yX10_word yX10_word ∈ z_T), (z_T_in (List.mem_of_getElem? (i := 81) (by decide +kernel)) rfl : Cond.initialized yX10_word.cls ∈ z_T), by decide +kernel⟩
set_option maxRecDepth 20000 in
theorem zc_L_38 : z_CV RL 38 yX11_word cX11_word 3 (some .int) 2 := ⟨(z_T_in (List.mem_of_getElem? (i := 1163) (by decide +kernel)) rfl : Cond.code yX11_word cX11_word 3 (some .int) ∈ z_T), (z_T_in (List.mem_of_getElem? (i := 1160) (by decide +kernel)) rfl : Cond.methodLink RL 38 yX11_word ∈ z_T), (z_T_in (List.mem_of_getElem? (i := 1161) (by decide +kernel)) rfl : Cond.instanceMethod yX11_word ∈ z_T), (z_T_in (List.mem_of_getElem? (i := 1162) (by decide +kernel)) rfl : Cond.selects yX11_word.cls yX11_word yX11_word ∈ z_T), (z_T_in (List.mem_of_getElem? (i := 91) (by decide +kernel)) rfl : Cond.initialized yX11_word.cls ∈ z_T), by decide +kernel⟩
set_option maxRecDepth 20000 in
theorem zc_L_39 : z_CV RL 39 yX10_follows cX10_follows 5 (some .int) 3 := ⟨(z_T_in (List.mem_of_getElem? (i := 512) (by decide +kernel)) rfl : Cond.code yX10_follows cX10_follows 5 (some .int) ∈ z_T), (z_T_in (List.mem_of_getElem? (i := 509) (by decide +kernel)) rfl : Cond.methodLink RL 39 yX10_follows ∈ z_T), (z_T_in (List.mem_of_getElem? (i := 510) (by decide +kernel)) rfl : Cond.instanceMethod yX10_follows ∈ z_T), (z_T_in (List.mem_of_getElem? (i := 511) (by decide +kernel)) rfl : Cond.selects yX10_follows.cls yX10_follows yX10_follows ∈ z_T), (z_T_in (List.mem_of_getElem? (i := 81) (by decide +kernel)) rfl : Cond.initialized yX10_follows.cls ∈ z_T), by decide +kernel⟩
set_option maxRecDepth 20000 in
theorem zc_L_43 : z_CV RL 43 yX11_follows cX11_follows 5 (some .int) 3 := ⟨(z_T_in (List.mem_of_getElem? (i := 1172) (by decide +kernel)) rfl : Cond.code yX11_follows cX11_follows 5 (some .int) ∈ z_T), (z_T_in (List.mem_of_getElem? (i := 1169) (by decide +kernel)) rfl : Cond.methodLink RL 43 yX11_follows ∈ z_T), (z_T_in (List.mem_of_getElem? (i := 1170) (by decide +kernel)) rfl : Cond.instanceMethod yX11_follows ∈ z_T), (z_T_in (List.mem_of_getElem? (i := 1171) (by decide +kernel)) rfl : Cond.selects yX11_follows.cls yX11_follows yX11_follows ∈ z_T), (z_T_in (List.mem_of_getElem? (i := 91) (by decide +kernel)) rfl : Cond.initialized yX11_follows.cls ∈ z_T), by decide +kernel⟩
set_option maxRecDepth 20000 in
theorem zc_L_44 : z_CV RL 44 yX10_count cX10_count 2 (some .int) 1 := ⟨(z_T_in (List.mem_of_getElem? (i := 520) (by decide +kernel)) rfl : Cond.code yX10_count cX10_count 2 (some .int) ∈ z_T), (z_T_in (List.mem_of_getElem? (i := 517) (by decide +kernel)) rfl : Cond.methodLink RL 44 yX10_count ∈ z_T), (z_T_in (List.mem_of_getElem? (i := 518) (by decide +kernel)) rfl : Cond.instanceMethod yX10_count ∈ z_T), (z_T_in (List.mem_of_getElem? (i := 519) (by decide +kernel)) rfl : Cond.selects yX10_count.cls yX10_count yX10_count ∈ z_T), (z_T_in (List.mem_of_getElem? (i := 81) (by decide +kernel)) rfl : Cond.initialized yX10_count.cls ∈ z_T), by decide +kernel⟩
set_option maxRecDepth 20000 in
theorem zc_L_47 : z_CV RL 47 yX11_count cX11_count 2 (some .int) 1 := ⟨(z_T_in (List.mem_of_getElem? (i := 1180) (by decide +kernel)) rfl : Cond.code yX11_count cX11_count 2 (some .int) ∈ z_T), (z_T_in (List.mem_of_getElem? (i := 1177) (by decide +kernel)) rfl : Cond.methodLink RL 47 yX11_count ∈ z_T), (z_T_in (List.mem_of_getElem? (i := 1178) (by decide +kernel)) rfl : Cond.instanceMethod yX11_count ∈ z_T), (z_T_in (List.mem_of_getElem? (i := 1179) (by decide +kernel)) rfl : Cond.selects yX11_count.cls yX11_count yX11_count ∈ z_T), (z_T_in (List.mem_of_getElem? (i := 91) (by decide +kernel)) rfl : Cond.initialized yX11_count.cls ∈ z_T), by decide +kernel⟩
set_option maxRecDepth 20000 in
theorem zc_L_48 : z_CV RL 48 yX10_letter cX10_letter 2 (some .int) 1 := ⟨(z_T_in (List.mem_of_getElem? (i := 524) (by decide +kernel)) rfl : Cond.code yX10_letter cX10_letter 2 (some .int) ∈ z_T), (z_T_in (List.mem_of_getElem? (i := 521) (by decide +kernel)) rfl : Cond.methodLink RL 48 yX10_letter ∈ z_T), (z_T_in (List.mem_of_getElem? (i := 522) (by decide +kernel)) rfl : Cond.instanceMethod yX10_letter ∈ z_T), (z_T_in (List.mem_of_getElem? (i := 523) (by decide +kernel)) rfl : Cond.selects yX10_letter.cls yX10_letter yX10_letter ∈ z_T), (z_T_in (List.mem_of_getElem? (i := 81) (by decide +kernel)) rfl : Cond.initialized yX10_letter.cls ∈ z_T), by decide +kernel⟩
set_option maxRecDepth 20000 in
theorem zc_L_51 : z_CV RL 51 yX11_letter cX11_letter 2 (some .int) 1 := ⟨(z_T_in (List.mem_of_getElem? (i := 1184) (by decide +kernel)) rfl : Cond.code yX11_letter cX11_letter 2 (some .int) ∈ z_T), (z_T_in (List.mem_of_getElem? (i := 1181) (by decide +kernel)) rfl : Cond.methodLink RL 51 yX11_letter ∈ z_T), (z_T_in (List.mem_of_getElem? (i := 1182) (by decide +kernel)) rfl : Cond.instanceMethod yX11_letter ∈ z_T), (z_T_in (List.mem_of_getElem? (i := 1183) (by decide +kernel)) rfl : Cond.selects yX11_letter.cls yX11_letter yX11_letter ∈ z_T), (z_T_in (List.mem_of_getElem? (i := 91) (by decide +kernel)) rfl : Cond.initialized yX11_letter.cls ∈ z_T), by decide +kernel⟩
set_option maxRecDepth 20000 in
theorem zc_L_52 : z_CV RL 52 yX10_append cX10_append 3 (some .int) 1 := ⟨(z_T_in (List.mem_of_getElem? (i := 528) (by decide +kernel)) rfl : Cond.code yX10_append cX10_append 3 (some .int) ∈ z_T), (z_T_in (List.mem_of_getElem? (i := 525) (by decide +kernel)) rfl : Cond.methodLink RL 52 yX10_append ∈ z_T), (z_T_in (List.mem_of_getElem? (i := 526) (by decide +kernel)) rfl : Cond.instanceMethod yX10_append ∈ z_T), (z_T_in (List.mem_of_getElem? (i := 527) (by decide +kernel)) rfl : Cond.selects yX10_append.cls yX10_append yX10_append ∈ z_T), (z_T_in (List.mem_of_getElem? (i := 81) (by decide +kernel)) rfl : Cond.initialized yX10_append.cls ∈ z_T), by decide +kernel⟩
set_option maxRecDepth 20000 in
theorem zc_L_55 : z_CV RL 55 yX11_append cX11_append 3 (some .int) 1 := ⟨(z_T_in (List.mem_of_getElem? (i := 1188) (by decide +kernel)) rfl : Cond.code yX11_append cX11_append 3 (some .int) ∈ z_T), (z_T_in (List.mem_of_getElem? (i := 1185) (by decide +kernel)) rfl : Cond.methodLink RL 55 yX11_append ∈ z_T), (z_T_in (List.mem_of_getElem? (i := 1186) (by decide +kernel)) rfl : Cond.instanceMethod yX11_append ∈ z_T), (z_T_in (List.mem_of_getElem? (i := 1187) (by decide +kernel)) rfl : Cond.selects yX11_append.cls yX11_append yX11_append ∈ z_T), (z_T_in (List.mem_of_getElem? (i := 91) (by decide +kernel)) rfl : Cond.initialized yX11_append.cls ∈ z_T), by decide +kernel⟩
set_option maxRecDepth 20000 in
theorem zc_L_56 : z_CV RL 56 yX10_clear cX10_clear 2 (some .int) 0 := ⟨(z_T_in (List.mem_of_getElem? (i := 532) (by decide +kernel)) rfl : Cond.code yX10_clear cX10_clear 2 (some .int) ∈ z_T), (z_T_in (List.mem_of_getElem? (i := 529) (by decide +kernel)) rfl : Cond.methodLink RL 56 yX10_clear ∈ z_T), (z_T_in (List.mem_of_getElem? (i := 530) (by decide +kernel)) rfl : Cond.instanceMethod yX10_clear ∈ z_T), (z_T_in (List.mem_of_getElem? (i := 531) (by decide +kernel)) rfl : Cond.selects yX10_clear.cls yX10_clear yX10_clear ∈ z_T), (z_T_in (List.mem_of_getElem? (i := 81) (by decide +kernel)) rfl : Cond.initialized yX10_clear.cls ∈ z_T), by decide +kernel⟩
set_option maxRecDepth 20000 in
theorem zc_L_59 : z_CV RL 59 yX11_clear cX11_clear 2 (some .int) 0 := ⟨(z_T_in (List.mem_of_getElem? (i := 1192) (by decide +kernel)) rfl : Cond.code yX11_clear cX11_clear 2 (some .int) ∈ z_T), (z_T_in (List.mem_of_getElem? (i := 1189) (by decide +kernel)) rfl : Cond.methodLink RL 59 yX11_clear ∈ z_T), (z_T_in (List.mem_of_getElem? (i := 1190) (by decide +kernel)) rfl : Cond.instanceMethod yX11_clear ∈ z_T), (z_T_in (List.mem_of_getElem? (i := 1191) (by decide +kernel)) rfl : Cond.selects yX11_clear.cls yX11_clear yX11_clear ∈ z_T), (z_T_in (List.mem_of_getElem? (i := 91) (by decide +kernel)) rfl : Cond.initialized yX11_clear.cls ∈ z_T), by decide +kernel⟩
set_option maxRecDepth 20000 in
theorem zc_L_60 : z_CV RL 60 yX10_readings cX10_readings 3 (some .long) 0 := ⟨(z_T_in (List.mem_of_getElem? (i := 536) (by decide +kernel)) rfl : Cond.code yX10_readings cX10_readings 3 (some .long) ∈ z_T), (z_T_in (List.mem_of_getElem? (i := 533) (by decide +kernel)) rfl : Cond.methodLink RL 60 yX10_readings ∈ z_T), (z_T_in (List.mem_of_getElem? (i := 534) (by decide +kernel)) rfl : Cond.instanceMethod yX10_readings ∈ z_T), (z_T_in (List.mem_of_getElem? (i := 535) (by decide +kernel)) rfl : Cond.selects yX10_readings.cls yX10_readings yX10_readings ∈ z_T), (z_T_in (List.mem_of_getElem? (i := 81) (by decide +kernel)) rfl : Cond.initialized yX10_readings.cls ∈ z_T), by decide +kernel⟩
set_option maxRecDepth 20000 in
theorem zc_L_64 : z_CV RL 64 yX11_readings cX11_readings 1 (some .long) 0 := ⟨(z_T_in (List.mem_of_getElem? (i := 1196) (by decide +kernel)) rfl : Cond.code yX11_readings cX11_readings 1 (some .long) ∈ z_T), (z_T_in (List.mem_of_getElem? (i := 1193) (by decide +kernel)) rfl : Cond.methodLink RL 64 yX11_readings ∈ z_T), (z_T_in (List.mem_of_getElem? (i := 1194) (by decide +kernel)) rfl : Cond.instanceMethod yX11_readings ∈ z_T), (z_T_in (List.mem_of_getElem? (i := 1195) (by decide +kernel)) rfl : Cond.selects yX11_readings.cls yX11_readings yX11_readings ∈ z_T), (z_T_in (List.mem_of_getElem? (i := 91) (by decide +kernel)) rfl : Cond.initialized yX11_readings.cls ∈ z_T), by decide +kernel⟩
set_option maxRecDepth 20000 in
theorem zc_L_65 : z_CV RL 65 yX10_reading cX10_reading 4 (some .int) 2 := ⟨(z_T_in (List.mem_of_getElem? (i := 583) (by decide +kernel)) rfl : Cond.code yX10_reading cX10_reading 4 (some .int) ∈ z_T), (z_T_in (List.mem_of_getElem? (i := 580) (by decide +kernel)) rfl : Cond.methodLink RL 65 yX10_reading ∈ z_T), (z_T_in (List.mem_of_getElem? (i := 581) (by decide +kernel)) rfl : Cond.instanceMethod yX10_reading ∈ z_T), (z_T_in (List.mem_of_getElem? (i := 582) (by decide +kernel)) rfl : Cond.selects yX10_reading.cls yX10_reading yX10_reading ∈ z_T), (z_T_in (List.mem_of_getElem? (i := 81) (by decide +kernel)) rfl : Cond.initialized yX10_reading.cls ∈ z_T), by decide +kernel⟩
set_option maxRecDepth 20000 in
theorem zc_L_69 : z_CV RL 69 yX11_reading cX11_reading 13 (some .int) 2 := ⟨(z_T_in (List.mem_of_getElem? (i := 1226) (by decide +kernel)) rfl : Cond.code yX11_reading cX11_reading 13 (some .int) ∈ z_T), (z_T_in (List.mem_of_getElem? (i := 1223) (by decide +kernel)) rfl : Cond.methodLink RL 69 yX11_reading ∈ z_T), (z_T_in (List.mem_of_getElem? (i := 1224) (by decide +kernel)) rfl : Cond.instanceMethod yX11_reading ∈ z_T), (z_T_in (List.mem_of_getElem? (i := 1225) (by decide +kernel)) rfl : Cond.selects yX11_reading.cls yX11_reading yX11_reading ∈ z_T), (z_T_in (List.mem_of_getElem? (i := 91) (by decide +kernel)) rfl : Cond.initialized yX11_reading.cls ∈ z_T), by decide +kernel⟩
set_option maxRecDepth 20000 in
theorem zc_L_70 : z_CV RL 70 yX10_best cX10_best 2 (some .int) 1 := ⟨(z_T_in (List.mem_of_getElem? (i := 595) (by decide +kernel)) rfl : Cond.code yX10_best cX10_best 2 (some .int) ∈ z_T), (z_T_in (List.mem_of_getElem? (i := 592) (by decide +kernel)) rfl : Cond.methodLink RL 70 yX10_best ∈ z_T), (z_T_in (List.mem_of_getElem? (i := 593) (by decide +kernel)) rfl : Cond.instanceMethod yX10_best ∈ z_T), (z_T_in (List.mem_of_getElem? (i := 594) (by decide +kernel)) rfl : Cond.selects yX10_best.cls yX10_best yX10_best ∈ z_T), (z_T_in (List.mem_of_getElem? (i := 81) (by decide +kernel)) rfl : Cond.initialized yX10_best.cls ∈ z_T), by decide +kernel⟩
set_option maxRecDepth 20000 in
theorem zc_L_73 : z_CV RL 73 yX11_best cX11_best 3 (some .int) 1 := ⟨(z_T_in (List.mem_of_getElem? (i := 1230) (by decide +kernel)) rfl : Cond.code yX11_best cX11_best 3 (some .int) ∈ z_T), (z_T_in (List.mem_of_getElem? (i := 1227) (by decide +kernel)) rfl : Cond.methodLink RL 73 yX11_best ∈ z_T), (z_T_in (List.mem_of_getElem? (i := 1228) (by decide +kernel)) rfl : Cond.instanceMethod yX11_best ∈ z_T), (z_T_in (List.mem_of_getElem? (i := 1229) (by decide +kernel)) rfl : Cond.selects yX11_best.cls yX11_best yX11_best ∈ z_T), (z_T_in (List.mem_of_getElem? (i := 91) (by decide +kernel)) rfl : Cond.initialized yX11_best.cls ∈ z_T), by decide +kernel⟩
set_option maxRecDepth 20000 in
theorem zc_L_74 : z_CV RL 74 yX10_cheapest cX10_cheapest 2 (some .int) 1 := ⟨(z_T_in (List.mem_of_getElem? (i := 608) (by decide +kernel)) rfl : Cond.code yX10_cheapest cX10_cheapest 2 (some .int) ∈ z_T), (z_T_in (List.mem_of_getElem? (i := 605) (by decide +kernel)) rfl : Cond.methodLink RL 74 yX10_cheapest ∈ z_T), (z_T_in (List.mem_of_getElem? (i := 606) (by decide +kernel)) rfl : Cond.instanceMethod yX10_cheapest ∈ z_T), (z_T_in (List.mem_of_getElem? (i := 607) (by decide +kernel)) rfl : Cond.selects yX10_cheapest.cls yX10_cheapest yX10_cheapest ∈ z_T), (z_T_in (List.mem_of_getElem? (i := 81) (by decide +kernel)) rfl : Cond.initialized yX10_cheapest.cls ∈ z_T), by decide +kernel⟩
set_option maxRecDepth 20000 in
theorem zc_L_77 : z_CV RL 77 yX11_cheapest cX11_cheapest 9 (some .int) 1 := ⟨(z_T_in (List.mem_of_getElem? (i := 1235) (by decide +kernel)) rfl : Cond.code yX11_cheapest cX11_cheapest 9 (some .int) ∈ z_T), (z_T_in (List.mem_of_getElem? (i := 1232) (by decide +kernel)) rfl : Cond.methodLink RL 77 yX11_cheapest ∈ z_T), (z_T_in (List.mem_of_getElem? (i := 1233) (by decide +kernel)) rfl : Cond.instanceMethod yX11_cheapest ∈ z_T), (z_T_in (List.mem_of_getElem? (i := 1234) (by decide +kernel)) rfl : Cond.selects yX11_cheapest.cls yX11_cheapest yX11_cheapest ∈ z_T), (z_T_in (List.mem_of_getElem? (i := 91) (by decide +kernel)) rfl : Cond.initialized yX11_cheapest.cls ∈ z_T), by decide +kernel⟩
set_option maxRecDepth 20000 in
theorem zc_L_78 : z_CV RL 78 yX10_end cX10_end 2 (some .int) 1 := ⟨(z_T_in (List.mem_of_getElem? (i := 612) (by decide +kernel)) rfl : Cond.code yX10_end cX10_end 2 (some .int) ∈ z_T), (z_T_in (List.mem_of_getElem? (i := 609) (by decide +kernel)) rfl : Cond.methodLink RL 78 yX10_end ∈ z_T), (z_T_in (List.mem_of_getElem? (i := 610) (by decide +kernel)) rfl : Cond.instanceMethod yX10_end ∈ z_T), (z_T_in (List.mem_of_getElem? (i := 611) (by decide +kernel)) rfl : Cond.selects yX10_end.cls yX10_end yX10_end ∈ z_T), (z_T_in (List.mem_of_getElem? (i := 81) (by decide +kernel)) rfl : Cond.initialized yX10_end.cls ∈ z_T), by decide +kernel⟩
set_option maxRecDepth 20000 in
theorem zc_L_81 : z_CV RL 81 yX11_end cX11_end 6 (some .int) 1 := ⟨(z_T_in (List.mem_of_getElem? (i := 1239) (by decide +kernel)) rfl : Cond.code yX11_end cX11_end 6 (some .int) ∈ z_T), (z_T_in (List.mem_of_getElem? (i := 1236) (by decide +kernel)) rfl : Cond.methodLink RL 81 yX11_end ∈ z_T), (z_T_in (List.mem_of_getElem? (i := 1237) (by decide +kernel)) rfl : Cond.instanceMethod yX11_end ∈ z_T), (z_T_in (List.mem_of_getElem? (i := 1238) (by decide +kernel)) rfl : Cond.selects yX11_end.cls yX11_end yX11_end ∈ z_T), (z_T_in (List.mem_of_getElem? (i := 91) (by decide +kernel)) rfl : Cond.initialized yX11_end.cls ∈ z_T), by decide +kernel⟩
set_option maxRecDepth 20000 in
theorem zc_L_82 : z_CV RL 82 yX10_within cX10_within 2 (some .int) 1 := ⟨(z_T_in (List.mem_of_getElem? (i := 616) (by decide +kernel)) rfl : Cond.code yX10_within cX10_within 2 (some .int) ∈ z_T), (z_T_in (List.mem_of_getElem? (i := 613) (by decide +kernel)) rfl : Cond.methodLink RL 82 yX10_within ∈ z_T), (z_T_in (List.mem_of_getElem? (i := 614) (by decide +kernel)) rfl : Cond.instanceMethod yX10_within ∈ z_T), (z_T_in (List.mem_of_getElem? (i := 615) (by decide +kernel)) rfl : Cond.selects yX10_within.cls yX10_within yX10_within ∈ z_T), (z_T_in (List.mem_of_getElem? (i := 81) (by decide +kernel)) rfl : Cond.initialized yX10_within.cls ∈ z_T), by decide +kernel⟩
set_option maxRecDepth 20000 in
theorem zc_L_85 : z_CV RL 85 yX11_within cX11_within 7 (some .int) 1 := ⟨(z_T_in (List.mem_of_getElem? (i := 1243) (by decide +kernel)) rfl : Cond.code yX11_within cX11_within 7 (some .int) ∈ z_T), (z_T_in (List.mem_of_getElem? (i := 1240) (by decide +kernel)) rfl : Cond.methodLink RL 85 yX11_within ∈ z_T), (z_T_in (List.mem_of_getElem? (i := 1241) (by decide +kernel)) rfl : Cond.instanceMethod yX11_within ∈ z_T), (z_T_in (List.mem_of_getElem? (i := 1242) (by decide +kernel)) rfl : Cond.selects yX11_within.cls yX11_within yX11_within ∈ z_T), (z_T_in (List.mem_of_getElem? (i := 91) (by decide +kernel)) rfl : Cond.initialized yX11_within.cls ∈ z_T), by decide +kernel⟩
set_option maxRecDepth 20000 in
theorem zc_L_86 : z_CV RL 86 yX10_key cX10_key 2 (some .int) 1 := ⟨(z_T_in (List.mem_of_getElem? (i := 637) (by decide +kernel)) rfl : Cond.code yX10_key cX10_key 2 (some .int) ∈ z_T), (z_T_in (List.mem_of_getElem? (i := 634) (by decide +kernel)) rfl : Cond.methodLink RL 86 yX10_key ∈ z_T), (z_T_in (List.mem_of_getElem? (i := 635) (by decide +kernel)) rfl : Cond.instanceMethod yX10_key ∈ z_T), (z_T_in (List.mem_of_getElem? (i := 636) (by decide +kernel)) rfl : Cond.selects yX10_key.cls yX10_key yX10_key ∈ z_T), (z_T_in (List.mem_of_getElem? (i := 81) (by decide +kernel)) rfl : Cond.initialized yX10_key.cls ∈ z_T), by decide +kernel⟩
set_option maxRecDepth 20000 in
theorem zc_L_89 : z_CV RL 89 yX11_key cX11_key 2 (some .int) 1 := ⟨(z_T_in (List.mem_of_getElem? (i := 1259) (by decide +kernel)) rfl : Cond.code yX11_key cX11_key 2 (some .int) ∈ z_T), (z_T_in (List.mem_of_getElem? (i := 1256) (by decide +kernel)) rfl : Cond.methodLink RL 89 yX11_key ∈ z_T), (z_T_in (List.mem_of_getElem? (i := 1257) (by decide +kernel)) rfl : Cond.instanceMethod yX11_key ∈ z_T), (z_T_in (List.mem_of_getElem? (i := 1258) (by decide +kernel)) rfl : Cond.selects yX11_key.cls yX11_key yX11_key ∈ z_T), (z_T_in (List.mem_of_getElem? (i := 91) (by decide +kernel)) rfl : Cond.initialized yX11_key.cls ∈ z_T), by decide +kernel⟩
set_option maxRecDepth 20000 in
theorem zc_L_90 : z_CV RL 90 yX10_strange cX10_strange 2 (some .int) 1 := ⟨(z_T_in (List.mem_of_getElem? (i := 787) (by decide +kernel)) rfl : Cond.code yX10_strange cX10_strange 2 (some .int) ∈ z_T), (z_T_in (List.mem_of_getElem? (i := 784) (by decide +kernel)) rfl : Cond.methodLink RL 90 yX10_strange ∈ z_T), (z_T_in (List.mem_of_getElem? (i := 785) (by decide +kernel)) rfl : Cond.instanceMethod yX10_strange ∈ z_T), (z_T_in (List.mem_of_getElem? (i := 786) (by decide +kernel)) rfl : Cond.selects yX10_strange.cls yX10_strange yX10_strange ∈ z_T), (z_T_in (List.mem_of_getElem? (i := 81) (by decide +kernel)) rfl : Cond.initialized yX10_strange.cls ∈ z_T), by decide +kernel⟩
set_option maxRecDepth 20000 in
theorem zc_L_93 : z_CV RL 93 yX11_strange cX11_strange 2 (some .int) 1 := ⟨(z_T_in (List.mem_of_getElem? (i := 1299) (by decide +kernel)) rfl : Cond.code yX11_strange cX11_strange 2 (some .int) ∈ z_T), (z_T_in (List.mem_of_getElem? (i := 1296) (by decide +kernel)) rfl : Cond.methodLink RL 93 yX11_strange ∈ z_T), (z_T_in (List.mem_of_getElem? (i := 1297) (by decide +kernel)) rfl : Cond.instanceMethod yX11_strange ∈ z_T), (z_T_in (List.mem_of_getElem? (i := 1298) (by decide +kernel)) rfl : Cond.selects yX11_strange.cls yX11_strange yX11_strange ∈ z_T), (z_T_in (List.mem_of_getElem? (i := 91) (by decide +kernel)) rfl : Cond.initialized yX11_strange.cls ∈ z_T), by decide +kernel⟩
set_option maxRecDepth 20000 in
theorem zc_L_94 : z_CV RL 94 yX10_ways cX10_ways 5 (some .long) 1 := ⟨(z_T_in (List.mem_of_getElem? (i := 791) (by decide +kernel)) rfl : Cond.code yX10_ways cX10_ways 5 (some .long) ∈ z_T), (z_T_in (List.mem_of_getElem? (i := 788) (by decide +kernel)) rfl : Cond.methodLink RL 94 yX10_ways ∈ z_T), (z_T_in (List.mem_of_getElem? (i := 789) (by decide +kernel)) rfl : Cond.instanceMethod yX10_ways ∈ z_T), (z_T_in (List.mem_of_getElem? (i := 790) (by decide +kernel)) rfl : Cond.selects yX10_ways.cls yX10_ways yX10_ways ∈ z_T), (z_T_in (List.mem_of_getElem? (i := 81) (by decide +kernel)) rfl : Cond.initialized yX10_ways.cls ∈ z_T), by decide +kernel⟩
set_option maxRecDepth 20000 in
theorem zc_L_98 : z_CV RL 98 yX11_ways cX11_ways 6 (some .long) 1 := ⟨(z_T_in (List.mem_of_getElem? (i := 1303) (by decide +kernel)) rfl : Cond.code yX11_ways cX11_ways 6 (some .long) ∈ z_T), (z_T_in (List.mem_of_getElem? (i := 1300) (by decide +kernel)) rfl : Cond.methodLink RL 98 yX11_ways ∈ z_T), (z_T_in (List.mem_of_getElem? (i := 1301) (by decide +kernel)) rfl : Cond.instanceMethod yX11_ways ∈ z_T), (z_T_in (List.mem_of_getElem? (i := 1302) (by decide +kernel)) rfl : Cond.selects yX11_ways.cls yX11_ways yX11_ways ∈ z_T), (z_T_in (List.mem_of_getElem? (i := 91) (by decide +kernel)) rfl : Cond.initialized yX11_ways.cls ∈ z_T), by decide +kernel⟩
set_option maxRecDepth 20000 in
theorem zc_L_99 : z_CV RL 99 yX10_rows cX10_rows 4 (some .long) 1 := ⟨(z_T_in (List.mem_of_getElem? (i := 797) (by decide +kernel)) rfl : Cond.code yX10_rows cX10_rows 4 (some .long) ∈ z_T), (z_T_in (List.mem_of_getElem? (i := 794) (by decide +kernel)) rfl : Cond.methodLink RL 99 yX10_rows ∈ z_T), (z_T_in (List.mem_of_getElem? (i := 795) (by decide +kernel)) rfl : Cond.instanceMethod yX10_rows ∈ z_T), (z_T_in (List.mem_of_getElem? (i := 796) (by decide +kernel)) rfl : Cond.selects yX10_rows.cls yX10_rows yX10_rows ∈ z_T), (z_T_in (List.mem_of_getElem? (i := 81) (by decide +kernel)) rfl : Cond.initialized yX10_rows.cls ∈ z_T), by decide +kernel⟩
set_option maxRecDepth 20000 in
theorem zc_L_102 : z_CV RL 102 yX11_rows cX11_rows 7 (some .long) 1 := ⟨(z_T_in (List.mem_of_getElem? (i := 1309) (by decide +kernel)) rfl : Cond.code yX11_rows cX11_rows 7 (some .long) ∈ z_T), (z_T_in (List.mem_of_getElem? (i := 1306) (by decide +kernel)) rfl : Cond.methodLink RL 102 yX11_rows ∈ z_T), (z_T_in (List.mem_of_getElem? (i := 1307) (by decide +kernel)) rfl : Cond.instanceMethod yX11_rows ∈ z_T), (z_T_in (List.mem_of_getElem? (i := 1308) (by decide +kernel)) rfl : Cond.selects yX11_rows.cls yX11_rows yX11_rows ∈ z_T), (z_T_in (List.mem_of_getElem? (i := 91) (by decide +kernel)) rfl : Cond.initialized yX11_rows.cls ∈ z_T), by decide +kernel⟩
set_option maxRecDepth 20000 in
theorem zc_L_103 : z_CV RL 103 yX10_price cX10_price 4 (some .int) 2 := ⟨(z_T_in (List.mem_of_getElem? (i := 814) (by decide +kernel)) rfl : Cond.code yX10_price cX10_price 4 (some .int) ∈ z_T), (z_T_in (List.mem_of_getElem? (i := 811) (by decide +kernel)) rfl : Cond.methodLink RL 103 yX10_price ∈ z_T), (z_T_in (List.mem_of_getElem? (i := 812) (by decide +kernel)) rfl : Cond.instanceMethod yX10_price ∈ z_T), (z_T_in (List.mem_of_getElem? (i := 813) (by decide +kernel)) rfl : Cond.selects yX10_price.cls yX10_price yX10_price ∈ z_T), (z_T_in (List.mem_of_getElem? (i := 81) (by decide +kernel)) rfl : Cond.initialized yX10_price.cls ∈ z_T), by decide +kernel⟩
set_option maxRecDepth 20000 in
theorem zc_L_106 : z_CV RL 106 yX11_price cX11_price 4 (some .int) 2 := ⟨(z_T_in (List.mem_of_getElem? (i := 1314) (by decide +kernel)) rfl : Cond.code yX11_price cX11_price 4 (some .int) ∈ z_T), (z_T_in (List.mem_of_getElem? (i := 1311) (by decide +kernel)) rfl : Cond.methodLink RL 106 yX11_price ∈ z_T), (z_T_in (List.mem_of_getElem? (i := 1312) (by decide +kernel)) rfl : Cond.instanceMethod yX11_price ∈ z_T), (z_T_in (List.mem_of_getElem? (i := 1313) (by decide +kernel)) rfl : Cond.selects yX11_price.cls yX11_price yX11_price ∈ z_T), (z_T_in (List.mem_of_getElem? (i := 91) (by decide +kernel)) rfl : Cond.initialized yX11_price.cls ∈ z_T), by decide +kernel⟩
set_option maxRecDepth 20000 in
theorem zc_L_107 : z_CV RL 107 yX10_patched cX10_patched 4 (some .int) 1 := ⟨(z_T_in (List.mem_of_getElem? (i := 818) (by decide +kernel)) rfl : Cond.code yX10_patched cX10_patched 4 (some .int) ∈ z_T), (z_T_in (List.mem_of_getElem? (i := 815) (by decide +kernel)) rfl : Cond.methodLink RL 107 yX10_patched ∈ z_T), (z_T_in (List.mem_of_getElem? (i := 816) (by decide +kernel)) rfl : Cond.instanceMethod yX10_patched ∈ z_T), (z_T_in (List.mem_of_getElem? (i := 817) (by decide +kernel)) rfl : Cond.selects yX10_patched.cls yX10_patched yX10_patched ∈ z_T), (z_T_in (List.mem_of_getElem? (i := 81) (by decide +kernel)) rfl : Cond.initialized yX10_patched.cls ∈ z_T), by decide +kernel⟩
set_option maxRecDepth 20000 in
theorem zc_L_110 : z_CV RL 110 yX11_patched cX11_patched 5 (some .int) 1 := ⟨(z_T_in (List.mem_of_getElem? (i := 1319) (by decide +kernel)) rfl : Cond.code yX11_patched cX11_patched 5 (some .int) ∈ z_T), (z_T_in (List.mem_of_getElem? (i := 1316) (by decide +kernel)) rfl : Cond.methodLink RL 110 yX11_patched ∈ z_T), (z_T_in (List.mem_of_getElem? (i := 1317) (by decide +kernel)) rfl : Cond.instanceMethod yX11_patched ∈ z_T), (z_T_in (List.mem_of_getElem? (i := 1318) (by decide +kernel)) rfl : Cond.selects yX11_patched.cls yX11_patched yX11_patched ∈ z_T), (z_T_in (List.mem_of_getElem? (i := 91) (by decide +kernel)) rfl : Cond.initialized yX11_patched.cls ∈ z_T), by decide +kernel⟩
set_option maxRecDepth 20000 in
theorem zc_L_111 : z_CV RL 111 yX10_line cX10_line 1 (some .int) 0 := ⟨(z_T_in (List.mem_of_getElem? (i := 847) (by decide +kernel)) rfl : Cond.code yX10_line cX10_line 1 (some .int) ∈ z_T), (z_T_in (List.mem_of_getElem? (i := 844) (by decide +kernel)) rfl : Cond.methodLink RL 111 yX10_line ∈ z_T), (z_T_in (List.mem_of_getElem? (i := 845) (by decide +kernel)) rfl : Cond.instanceMethod yX10_line ∈ z_T), (z_T_in (List.mem_of_getElem? (i := 846) (by decide +kernel)) rfl : Cond.selects yX10_line.cls yX10_line yX10_line ∈ z_T), (z_T_in (List.mem_of_getElem? (i := 81) (by decide +kernel)) rfl : Cond.initialized yX10_line.cls ∈ z_T), by decide +kernel⟩
set_option maxRecDepth 20000 in
theorem zc_L_114 : z_CV RL 114 yX11_line cX11_line 2 (some .int) 0 := ⟨(z_T_in (List.mem_of_getElem? (i := 1340) (by decide +kernel)) rfl : Cond.code yX11_line cX11_line 2 (some .int) ∈ z_T), (z_T_in (List.mem_of_getElem? (i := 1337) (by decide +kernel)) rfl : Cond.methodLink RL 114 yX11_line ∈ z_T), (z_T_in (List.mem_of_getElem? (i := 1338) (by decide +kernel)) rfl : Cond.instanceMethod yX11_line ∈ z_T), (z_T_in (List.mem_of_getElem? (i := 1339) (by decide +kernel)) rfl : Cond.selects yX11_line.cls yX11_line yX11_line ∈ z_T), (z_T_in (List.mem_of_getElem? (i := 91) (by decide +kernel)) rfl : Cond.initialized yX11_line.cls ∈ z_T), by decide +kernel⟩
set_option maxRecDepth 20000 in
theorem zc_L_115 : z_CV RL 115 yX10_drop cX10_drop 2 (some .int) 0 := ⟨(z_T_in (List.mem_of_getElem? (i := 856) (by decide +kernel)) rfl : Cond.code yX10_drop cX10_drop 2 (some .int) ∈ z_T), (z_T_in (List.mem_of_getElem? (i := 853) (by decide +kernel)) rfl : Cond.methodLink RL 115 yX10_drop ∈ z_T), (z_T_in (List.mem_of_getElem? (i := 854) (by decide +kernel)) rfl : Cond.instanceMethod yX10_drop ∈ z_T), (z_T_in (List.mem_of_getElem? (i := 855) (by decide +kernel)) rfl : Cond.selects yX10_drop.cls yX10_drop yX10_drop ∈ z_T), (z_T_in (List.mem_of_getElem? (i := 81) (by decide +kernel)) rfl : Cond.initialized yX10_drop.cls ∈ z_T), by decide +kernel⟩
set_option maxRecDepth 20000 in
theorem zc_L_118 : z_CV RL 118 yX11_drop cX11_drop 2 (some .int) 0 := ⟨(z_T_in (List.mem_of_getElem? (i := 1345) (by decide +kernel)) rfl : Cond.code yX11_drop cX11_drop 2 (some .int) ∈ z_T), (z_T_in (List.mem_of_getElem? (i := 1342) (by decide +kernel)) rfl : Cond.methodLink RL 118 yX11_drop ∈ z_T), (z_T_in (List.mem_of_getElem? (i := 1343) (by decide +kernel)) rfl : Cond.instanceMethod yX11_drop ∈ z_T), (z_T_in (List.mem_of_getElem? (i := 1344) (by decide +kernel)) rfl : Cond.selects yX11_drop.cls yX11_drop yX11_drop ∈ z_T), (z_T_in (List.mem_of_getElem? (i := 91) (by decide +kernel)) rfl : Cond.initialized yX11_drop.cls ∈ z_T), by decide +kernel⟩
set_option maxRecDepth 20000 in
theorem zc_L_119 : z_CV RL 119 yX10_totals cX10_totals 1 (some .int) 0 := ⟨(z_T_in (List.mem_of_getElem? (i := 860) (by decide +kernel)) rfl : Cond.code yX10_totals cX10_totals 1 (some .int) ∈ z_T), (z_T_in (List.mem_of_getElem? (i := 857) (by decide +kernel)) rfl : Cond.methodLink RL 119 yX10_totals ∈ z_T), (z_T_in (List.mem_of_getElem? (i := 858) (by decide +kernel)) rfl : Cond.instanceMethod yX10_totals ∈ z_T), (z_T_in (List.mem_of_getElem? (i := 859) (by decide +kernel)) rfl : Cond.selects yX10_totals.cls yX10_totals yX10_totals ∈ z_T), (z_T_in (List.mem_of_getElem? (i := 81) (by decide +kernel)) rfl : Cond.initialized yX10_totals.cls ∈ z_T), by decide +kernel⟩
set_option maxRecDepth 20000 in
theorem zc_L_122 : z_CV RL 122 yX11_totals cX11_totals 3 (some .int) 0 := ⟨(z_T_in (List.mem_of_getElem? (i := 1349) (by decide +kernel)) rfl : Cond.code yX11_totals cX11_totals 3 (some .int) ∈ z_T), (z_T_in (List.mem_of_getElem? (i := 1346) (by decide +kernel)) rfl : Cond.methodLink RL 122 yX11_totals ∈ z_T), (z_T_in (List.mem_of_getElem? (i := 1347) (by decide +kernel)) rfl : Cond.instanceMethod yX11_totals ∈ z_T), (z_T_in (List.mem_of_getElem? (i := 1348) (by decide +kernel)) rfl : Cond.selects yX11_totals.cls yX11_totals yX11_totals ∈ z_T), (z_T_in (List.mem_of_getElem? (i := 91) (by decide +kernel)) rfl : Cond.initialized yX11_totals.cls ∈ z_T), by decide +kernel⟩
set_option maxRecDepth 20000 in
theorem zc_L_123 : z_CV RL 123 yX10_uses cX10_uses 2 (some .int) 1 := ⟨(z_T_in (List.mem_of_getElem? (i := 888) (by decide +kernel)) rfl : Cond.code yX10_uses cX10_uses 2 (some .int) ∈ z_T), (z_T_in (List.mem_of_getElem? (i := 885) (by decide +kernel)) rfl : Cond.methodLink RL 123 yX10_uses ∈ z_T), (z_T_in (List.mem_of_getElem? (i := 886) (by decide +kernel)) rfl : Cond.instanceMethod yX10_uses ∈ z_T), (z_T_in (List.mem_of_getElem? (i := 887) (by decide +kernel)) rfl : Cond.selects yX10_uses.cls yX10_uses yX10_uses ∈ z_T), (z_T_in (List.mem_of_getElem? (i := 81) (by decide +kernel)) rfl : Cond.initialized yX10_uses.cls ∈ z_T), by decide +kernel⟩
set_option maxRecDepth 20000 in
theorem zc_L_126 : z_CV RL 126 yX11_uses cX11_uses 2 (some .int) 1 := ⟨(z_T_in (List.mem_of_getElem? (i := 1361) (by decide +kernel)) rfl : Cond.code yX11_uses cX11_uses 2 (some .int) ∈ z_T), (z_T_in (List.mem_of_getElem? (i := 1358) (by decide +kernel)) rfl : Cond.methodLink RL 126 yX11_uses ∈ z_T), (z_T_in (List.mem_of_getElem? (i := 1359) (by decide +kernel)) rfl : Cond.instanceMethod yX11_uses ∈ z_T), (z_T_in (List.mem_of_getElem? (i := 1360) (by decide +kernel)) rfl : Cond.selects yX11_uses.cls yX11_uses yX11_uses ∈ z_T), (z_T_in (List.mem_of_getElem? (i := 91) (by decide +kernel)) rfl : Cond.initialized yX11_uses.cls ∈ z_T), by decide +kernel⟩
set_option maxRecDepth 20000 in
theorem zc_L_127 : z_CV RL 127 yX10_learn cX10_learn 3 (some .int) 1 := ⟨(z_T_in (List.mem_of_getElem? (i := 904) (by decide +kernel)) rfl : Cond.code yX10_learn cX10_learn 3 (some .int) ∈ z_T), (z_T_in (List.mem_of_getElem? (i := 901) (by decide +kernel)) rfl : Cond.methodLink RL 127 yX10_learn ∈ z_T), (z_T_in (List.mem_of_getElem? (i := 902) (by decide +kernel)) rfl : Cond.instanceMethod yX10_learn ∈ z_T), (z_T_in (List.mem_of_getElem? (i := 903) (by decide +kernel)) rfl : Cond.selects yX10_learn.cls yX10_learn yX10_learn ∈ z_T), (z_T_in (List.mem_of_getElem? (i := 81) (by decide +kernel)) rfl : Cond.initialized yX10_learn.cls ∈ z_T), by decide +kernel⟩
set_option maxRecDepth 20000 in
theorem zc_L_130 : z_CV RL 130 yX11_learn cX11_learn 3 (some .int) 1 := ⟨(z_T_in (List.mem_of_getElem? (i := 1373) (by decide +kernel)) rfl : Cond.code yX11_learn cX11_learn 3 (some .int) ∈ z_T), (z_T_in (List.mem_of_getElem? (i := 1370) (by decide +kernel)) rfl : Cond.methodLink RL 130 yX11_learn ∈ z_T), (z_T_in (List.mem_of_getElem? (i := 1371) (by decide +kernel)) rfl : Cond.instanceMethod yX11_learn ∈ z_T), (z_T_in (List.mem_of_getElem? (i := 1372) (by decide +kernel)) rfl : Cond.selects yX11_learn.cls yX11_learn yX11_learn ∈ z_T), (z_T_in (List.mem_of_getElem? (i := 91) (by decide +kernel)) rfl : Cond.initialized yX11_learn.cls ∈ z_T), by decide +kernel⟩
set_option maxRecDepth 20000 in
theorem zc_L_131 : z_CV RL 131 yX10_fresh cX10_fresh 3 (some .int) 2 := ⟨(z_T_in (List.mem_of_getElem? (i := 912) (by decide +kernel)) rfl : Cond.code yX10_fresh cX10_fresh 3 (some .int) ∈ z_T), (z_T_in (List.mem_of_getElem? (i := 909) (by decide +kernel)) rfl : Cond.methodLink RL 131 yX10_fresh ∈ z_T), (z_T_in (List.mem_of_getElem? (i := 910) (by decide +kernel)) rfl : Cond.instanceMethod yX10_fresh ∈ z_T), (z_T_in (List.mem_of_getElem? (i := 911) (by decide +kernel)) rfl : Cond.selects yX10_fresh.cls yX10_fresh yX10_fresh ∈ z_T), (z_T_in (List.mem_of_getElem? (i := 81) (by decide +kernel)) rfl : Cond.initialized yX10_fresh.cls ∈ z_T), by decide +kernel⟩
set_option maxRecDepth 20000 in
theorem zc_L_134 : z_CV RL 134 yX11_fresh cX11_fresh 7 (some .int) 2 := ⟨(z_T_in (List.mem_of_getElem? (i := 1381) (by decide +kernel)) rfl : Cond.code yX11_fresh cX11_fresh 7 (some .int) ∈ z_T), (z_T_in (List.mem_of_getElem? (i := 1378) (by decide +kernel)) rfl : Cond.methodLink RL 134 yX11_fresh ∈ z_T), (z_T_in (List.mem_of_getElem? (i := 1379) (by decide +kernel)) rfl : Cond.instanceMethod yX11_fresh ∈ z_T), (z_T_in (List.mem_of_getElem? (i := 1380) (by decide +kernel)) rfl : Cond.selects yX11_fresh.cls yX11_fresh yX11_fresh ∈ z_T), (z_T_in (List.mem_of_getElem? (i := 91) (by decide +kernel)) rfl : Cond.initialized yX11_fresh.cls ∈ z_T), by decide +kernel⟩
set_option maxRecDepth 20000 in
theorem zl_L_18 : Cond.constantLong RL 18 (4294967295) ∈ z_T := (z_T_in (List.mem_of_getElem? (i := 1396) (by decide +kernel)) rfl : Cond.constantLong RL 18 (4294967295) ∈ z_T)

/-! the law's 28 calls, printed by wip/gen/mk_law.py -/
set_option maxRecDepth 100000 in
set_option maxHeartbeats 4000000 in
theorem lc_0 {F : z_F} {b L i : Nat} {xs : Nat → Int32} {cy : Nat → ClassId} {kn : Bool} {ad am : Nat → Nat} {A : aS} {gx gm : z_S} {x3 : Int32} (hL : L ≤ 2048) (C : y_X F cL_law RL 4 ret room_1 cy) (X : l_X F b L xs) (hi : i + 4 ≤ L) (hx3 : x3 = nI i) (hA : I_ok A) (hX : R_X A gx) (hM : R_M A gm) (hC : CI A gx) (K : l_K F b cy ad am x3) : y_W F (lwC kn) (lwS kn) 160 [(0, .ref b), (1, .ref (ad 0)), (2, .ref (am 0)), (3, .int x3)] [] (z_w (layX kn) (nX kn) ad cy gx ++ z_w layM nM am cy gm) := by
  obtain ⟨r, gx', gm', A', f1, f2, hA', hX', hM', hC'⟩ := (Op.of (o_letters (xs (x3 + 1).toNatClampNeg))) A gx gm hA hX hM hC
  refine y_aload_n C dL_law_160 rfl 1 rfl ?_
  refine y_aload_n C dL_law_161 rfl 0 rfl ?_
  refine y_iload_n C dL_law_162 rfl 3 rfl ?_
  refine y_iconst (v := 1) C dL_law_163 (by decide) ?_
  refine y_iadd C dL_law_164 ?_
  refine l_ld C X (l_in hL hi hx3 1 (by decide) rfl) dL_law_165 ?_
  refine y_callZ (wr := z_w layM nM am cy gm) (ad := ad) (o := 0) (As := [.int (xs (x3 + 1).toNatClampNeg)]) [] C zc_L_13 (zk_X_0 kn) rfl ⟨by decide, by decide⟩ (Nat.le_of_ble_eq_true rfl) (lw_rm kn) dL_law_166 rfl rfl (wX10_letters kn ad (xs (x3 + 1).toNatClampNeg) gx r gx' f1) ?_
  refine y_aload_n C dL_law_169 rfl 2 rfl ?_
  refine y_aload_n C dL_law_170 rfl 0 rfl ?_
  refine y_iload_n C dL_law_171 rfl 3 rfl ?_
  refine y_iconst (v := 1) C dL_law_172 (by decide) ?_
  refine y_iadd C dL_law_173 ?_
  refine l_ld C X (l_in hL hi hx3 1 (by decide) rfl) dL_law_174 ?_
  refine y_callZ (wr := z_w (layX kn) (nX kn) ad cy gx') (ad := am) (o := 0) (As := [.int (xs (x3 + 1).toNatClampNeg)]) [.int r] C zc_L_17 zk_M rfl ⟨by decide, by decide⟩ (Nat.le_of_ble_eq_true rfl) (lw_rm kn) dL_law_175 rfl rfl (wX11_letters am (xs (x3 + 1).toNatClampNeg) gm r gm' f2) ?_
  show y_W F _ _ _ _ [.int r, .int r] _
  refine y_icmp_eq 883 C dL_law_178 (by decide) (fun _ => ?_) (fun hc => absurd rfl hc)
  exact K kn ad A' gx' gm' rfl hA' hX' hM' hC'
set_option maxRecDepth 100000 in
set_option maxHeartbeats 4000000 in
theorem lc_1 {F : z_F} {b L i : Nat} {xs : Nat → Int32} {cy : Nat → ClassId} {kn : Bool} {ad am : Nat → Nat} {A : aS} {gx gm : z_S} {x3 : Int32} (hL : L ≤ 2048) (C : y_X F cL_law RL 4 ret room_1 cy) (X : l_X F b L xs) (hi : i + 4 ≤ L) (hx3 : x3 = nI i) (hA : I_ok A) (hX : R_X A gx) (hM : R_M A gm) (hC : CI A gx) (K : l_K F b cy ad am x3) : y_W F (lwC kn) (lwS kn) 183 [(0, .ref b), (1, .ref (ad 0)), (2, .ref (am 0)), (3, .int x3)] [] (z_w (layX kn) (nX kn) ad cy gx ++ z_w layM nM am cy gm) := by
  obtain ⟨r, gx', gm', A', f1, f2, hA', hX', hM', hC'⟩ := (Op.of (o_feed (xs (x3 + 1).toNatClampNeg) ((((xs (x3 + 2).toNatClampNeg).toInt64) <<< ((32 : Int32).toInt64 &&& 63)) ||| (((xs (x3 + 3).toNatClampNeg).toInt64) &&& 4294967295)))) A gx gm hA hX hM hC
  refine y_aload_n C dL_law_183 rfl 1 rfl ?_
  refine y_aload_n C dL_law_184 rfl 0 rfl ?_
  refine y_iload_n C dL_law_185 rfl 3 rfl ?_
  refine y_iconst (v := 1) C dL_law_186 (by decide) ?_
  refine y_iadd C dL_law_187 ?_
  refine l_ld C X (l_in hL hi hx3 1 (by decide) rfl) dL_law_188 ?_
  refine y_aload_n C dL_law_189 rfl 0 rfl ?_
  refine y_iload_n C dL_law_190 rfl 3 rfl ?_
  refine y_iconst (v := 2) C dL_law_191 (by decide) ?_
  refine y_iadd C dL_law_192 ?_
  refine l_ld C X (l_in hL hi hx3 2 (by decide) rfl) dL_law_193 ?_
  refine y_i2l C dL_law_194 ?_
  refine y_bipush (v := 32) C dL_law_195 (by decide) ?_
  refine y_lshl C dL_law_197 ?_
  refine y_aload_n C dL_law_198 rfl 0 rfl ?_
  refine y_iload_n C dL_law_199 rfl 3 rfl ?_
  refine y_iconst (v := 3) C dL_law_200 (by decide) ?_
  refine y_iadd C dL_law_201 ?_
  refine l_ld C X (l_in hL hi hx3 3 (by decide) rfl) dL_law_202 ?_
  refine y_i2l C dL_law_203 ?_
  refine y_ldc2 C dL_law_204 zl_L_18 ?_
  refine y_land C dL_law_207 ?_
  refine y_lor C dL_law_208 ?_
  refine y_callZ (wr := z_w layM nM am cy gm) (ad := ad) (o := 0) (As := [.int (xs (x3 + 1).toNatClampNeg), .long ((((xs (x3 + 2).toNatClampNeg).toInt64) <<< ((32 : Int32).toInt64 &&& 63)) ||| (((xs (x3 + 3).toNatClampNeg).toInt64) &&& 4294967295))]) [] C zc_L_20 (zk_X_0 kn) rfl ⟨by decide, by decide⟩ (Nat.le_of_ble_eq_true rfl) (lw_rm kn) dL_law_209 rfl rfl (wX10_feed kn ad (xs (x3 + 1).toNatClampNeg) ((((xs (x3 + 2).toNatClampNeg).toInt64) <<< ((32 : Int32).toInt64 &&& 63)) ||| (((xs (x3 + 3).toNatClampNeg).toInt64) &&& 4294967295)) gx r gx' f1) ?_
  refine y_aload_n C dL_law_212 rfl 2 rfl ?_
  refine y_aload_n C dL_law_213 rfl 0 rfl ?_
  refine y_iload_n C dL_law_214 rfl 3 rfl ?_
  refine y_iconst (v := 1) C dL_law_215 (by decide) ?_
  refine y_iadd C dL_law_216 ?_
  refine l_ld C X (l_in hL hi hx3 1 (by decide) rfl) dL_law_217 ?_
  refine y_aload_n C dL_law_218 rfl 0 rfl ?_
  refine y_iload_n C dL_law_219 rfl 3 rfl ?_
  refine y_iconst (v := 2) C dL_law_220 (by decide) ?_
  refine y_iadd C dL_law_221 ?_
  refine l_ld C X (l_in hL hi hx3 2 (by decide) rfl) dL_law_222 ?_
  refine y_i2l C dL_law_223 ?_
  refine y_bipush (v := 32) C dL_law_224 (by decide) ?_
  refine y_lshl C dL_law_226 ?_
  refine y_aload_n C dL_law_227 rfl 0 rfl ?_
  refine y_iload_n C dL_law_228 rfl 3 rfl ?_
  refine y_iconst (v := 3) C dL_law_229 (by decide) ?_
  refine y_iadd C dL_law_230 ?_
  refine l_ld C X (l_in hL hi hx3 3 (by decide) rfl) dL_law_231 ?_
  refine y_i2l C dL_law_232 ?_
  refine y_ldc2 C dL_law_233 zl_L_18 ?_
  refine y_land C dL_law_236 ?_
  refine y_lor C dL_law_237 ?_
  refine y_callZ (wr := z_w (layX kn) (nX kn) ad cy gx') (ad := am) (o := 0) (As := [.int (xs (x3 + 1).toNatClampNeg), .long ((((xs (x3 + 2).toNatClampNeg).toInt64) <<< ((32 : Int32).toInt64 &&& 63)) ||| (((xs (x3 + 3).toNatClampNeg).toInt64) &&& 4294967295))]) [.int r] C zc_L_24 zk_M rfl ⟨by decide, by decide⟩ (Nat.le_of_ble_eq_true rfl) (lw_rm kn) dL_law_238 rfl rfl (wX11_feed am (xs (x3 + 1).toNatClampNeg) ((((xs (x3 + 2).toNatClampNeg).toInt64) <<< ((32 : Int32).toInt64 &&& 63)) ||| (((xs (x3 + 3).toNatClampNeg).toInt64) &&& 4294967295)) gm r gm' f2) ?_
  show y_W F _ _ _ _ [.int r, .int r] _
  refine y_icmp_eq 883 C dL_law_241 (by decide) (fun _ => ?_) (fun hc => absurd rfl hc)
  exact K kn ad A' gx' gm' rfl hA' hX' hM' hC'
set_option maxRecDepth 100000 in
set_option maxHeartbeats 4000000 in
theorem lc_2 {F : z_F} {b L i : Nat} {xs : Nat → Int32} {cy : Nat → ClassId} {kn : Bool} {ad am : Nat → Nat} {A : aS} {gx gm : z_S} {x3 : Int32} (hL : L ≤ 2048) (C : y_X F cL_law RL 4 ret room_1 cy) (X : l_X F b L xs) (hi : i + 4 ≤ L) (hx3 : x3 = nI i) (hA : I_ok A) (hX : R_X A gx) (hM : R_M A gm) (hC : CI A gx) (K : l_K F b cy ad am x3) : y_W F (lwC kn) (lwS kn) 246 [(0, .ref b), (1, .ref (ad 0)), (2, .ref (am 0)), (3, .int x3)] [] (z_w (layX kn) (nX kn) ad cy gx ++ z_w layM nM am cy gm) := by
  obtain ⟨r, gx', gm', A', f1, f2, hA', hX', hM', hC'⟩ := (Op.of o_read) A gx gm hA hX hM hC
  refine y_aload_n C dL_law_246 rfl 1 rfl ?_
  refine y_callZ (wr := z_w layM nM am cy gm) (ad := ad) (o := 0) (As := []) [] C zc_L_25 (zk_X_0 kn) rfl ⟨by decide, by decide⟩ (Nat.le_of_ble_eq_true rfl) (lw_rm kn) dL_law_247 rfl rfl (wX10_read kn ad gx r gx' f1) ?_
  refine y_aload_n C dL_law_250 rfl 2 rfl ?_
  refine y_callZ (wr := z_w (layX kn) (nX kn) ad cy gx') (ad := am) (o := 0) (As := []) [.int r] C zc_L_29 zk_M rfl ⟨by decide, by decide⟩ (Nat.le_of_ble_eq_true rfl) (lw_rm kn) dL_law_251 rfl rfl (wX11_read am gm r gm' f2) ?_
  show y_W F _ _ _ _ [.int r, .int r] _
  refine y_icmp_eq 883 C dL_law_254 (by decide) (fun _ => ?_) (fun hc => absurd rfl hc)
  exact K kn ad A' gx' gm' rfl hA' hX' hM' hC'
set_option maxRecDepth 100000 in
set_option maxHeartbeats 4000000 in
theorem lc_3 {F : z_F} {b L i : Nat} {xs : Nat → Int32} {cy : Nat → ClassId} {kn : Bool} {ad am : Nat → Nat} {A : aS} {gx gm : z_S} {x3 : Int32} (hL : L ≤ 2048) (C : y_X F cL_law RL 4 ret room_1 cy) (X : l_X F b L xs) (hi : i + 4 ≤ L) (hx3 : x3 = nI i) (hA : I_ok A) (hX : R_X A gx) (hM : R_M A gm) (hC : CI A gx) (K : l_K F b cy ad am x3) : y_W F (lwC kn) (lwS kn) 259 [(0, .ref b), (1, .ref (ad 0)), (2, .ref (am 0)), (3, .int x3)] [] (z_w (layX kn) (nX kn) ad cy gx ++ z_w layM nM am cy gm) := by
  obtain ⟨r, gx', gm', A', f1, f2, hA', hX', hM', hC'⟩ := (Op.of o_fault) A gx gm hA hX hM hC
  refine y_aload_n C dL_law_259 rfl 1 rfl ?_
  refine y_callZ (wr := z_w layM nM am cy gm) (ad := ad) (o := 0) (As := []) [] C zc_L_30 (zk_X_0 kn) rfl ⟨by decide, by decide⟩ (Nat.le_of_ble_eq_true rfl) (lw_rm kn) dL_law_260 rfl rfl (wX10_fault kn ad gx r gx' f1) ?_
  refine y_aload_n C dL_law_263 rfl 2 rfl ?_
  refine y_callZ (wr := z_w (layX kn) (nX kn) ad cy gx') (ad := am) (o := 0) (As := []) [.int r] C zc_L_33 zk_M rfl ⟨by decide, by decide⟩ (Nat.le_of_ble_eq_true rfl) (lw_rm kn) dL_law_264 rfl rfl (wX11_fault am gm r gm' f2) ?_
  show y_W F _ _ _ _ [.int r, .int r] _
  refine y_icmp_eq 883 C dL_law_267 (by decide) (fun _ => ?_) (fun hc => absurd rfl hc)
  exact K kn ad A' gx' gm' rfl hA' hX' hM' hC'
set_option maxRecDepth 100000 in
set_option maxHeartbeats 4000000 in
theorem lc_4 {F : z_F} {b L i : Nat} {xs : Nat → Int32} {cy : Nat → ClassId} {kn : Bool} {ad am : Nat → Nat} {A : aS} {gx gm : z_S} {x3 : Int32} (hL : L ≤ 2048) (C : y_X F cL_law RL 4 ret room_1 cy) (X : l_X F b L xs) (hi : i + 4 ≤ L) (hx3 : x3 = nI i) (hA : I_ok A) (hX : R_X A gx) (hM : R_M A gm) (hC : CI A gx) (K : l_K F b cy ad am x3) : y_W F (lwC kn) (lwS kn) 272 [(0, .ref b), (1, .ref (ad 0)), (2, .ref (am 0)), (3, .int x3)] [] (z_w (layX kn) (nX kn) ad cy gx ++ z_w layM nM am cy gm) := by
  obtain ⟨r, gx', gm', A', f1, f2, hA', hX', hM', hC'⟩ := (Op.of (o_word (xs (x3 + 1).toNatClampNeg) (xs (x3 + 2).toNatClampNeg))) A gx gm hA hX hM hC
  refine y_aload_n C dL_law_272 rfl 1 rfl ?_
  refine y_aload_n C dL_law_273 rfl 0 rfl ?_
  refine y_iload_n C dL_law_274 rfl 3 rfl ?_
  refine y_iconst (v := 1) C dL_law_275 (by decide) ?_
  refine y_iadd C dL_law_276 ?_
  refine l_ld C X (l_in hL hi hx3 1 (by decide) rfl) dL_law_277 ?_
  refine y_aload_n C dL_law_278 rfl 0 rfl ?_
  refine y_iload_n C dL_law_279 rfl 3 rfl ?_
  refine y_iconst (v := 2) C dL_law_280 (by decide) ?_
  refine y_iadd C dL_law_281 ?_
  refine l_ld C X (l_in hL hi hx3 2 (by decide) rfl) dL_law_282 ?_
  refine y_callZ (wr := z_w layM nM am cy gm) (ad := ad) (o := 0) (As := [.int (xs (x3 + 1).toNatClampNeg), .int (xs (x3 + 2).toNatClampNeg)]) [] C zc_L_34 (zk_X_0 kn) rfl ⟨by decide, by decide⟩ (Nat.le_of_ble_eq_true rfl) (lw_rm kn) dL_law_283 rfl rfl (wX10_word kn ad (xs (x3 + 1).toNatClampNeg) (xs (x3 + 2).toNatClampNeg) gx r gx' f1) ?_
  refine y_aload_n C dL_law_286 rfl 2 rfl ?_
  refine y_aload_n C dL_law_287 rfl 0 rfl ?_
  refine y_iload_n C dL_law_288 rfl 3 rfl ?_
  refine y_iconst (v := 1) C dL_law_289 (by decide) ?_
  refine y_iadd C dL_law_290 ?_
  refine l_ld C X (l_in hL hi hx3 1 (by decide) rfl) dL_law_291 ?_
  refine y_aload_n C dL_law_292 rfl 0 rfl ?_
  refine y_iload_n C dL_law_293 rfl 3 rfl ?_
  refine y_iconst (v := 2) C dL_law_294 (by decide) ?_
  refine y_iadd C dL_law_295 ?_
  refine l_ld C X (l_in hL hi hx3 2 (by decide) rfl) dL_law_296 ?_
  refine y_callZ (wr := z_w (layX kn) (nX kn) ad cy gx') (ad := am) (o := 0) (As := [.int (xs (x3 + 1).toNatClampNeg), .int (xs (x3 + 2).toNatClampNeg)]) [.int r] C zc_L_38 zk_M rfl ⟨by decide, by decide⟩ (Nat.le_of_ble_eq_true rfl) (lw_rm kn) dL_law_297 rfl rfl (wX11_word am (xs (x3 + 1).toNatClampNeg) (xs (x3 + 2).toNatClampNeg) gm r gm' f2) ?_
  show y_W F _ _ _ _ [.int r, .int r] _
  refine y_icmp_eq 883 C dL_law_300 (by decide) (fun _ => ?_) (fun hc => absurd rfl hc)
  exact K kn ad A' gx' gm' rfl hA' hX' hM' hC'
set_option maxRecDepth 100000 in
set_option maxHeartbeats 4000000 in
theorem lc_5 {F : z_F} {b L i : Nat} {xs : Nat → Int32} {cy : Nat → ClassId} {kn : Bool} {ad am : Nat → Nat} {A : aS} {gx gm : z_S} {x3 : Int32} (hL : L ≤ 2048) (C : y_X F cL_law RL 4 ret room_1 cy) (X : l_X F b L xs) (hi : i + 4 ≤ L) (hx3 : x3 = nI i) (hA : I_ok A) (hX : R_X A gx) (hM : R_M A gm) (hC : CI A gx) (K : l_K F b cy ad am x3) : y_W F (lwC kn) (lwS kn) 305 [(0, .ref b), (1, .ref (ad 0)), (2, .ref (am 0)), (3, .int x3)] [] (z_w (layX kn) (nX kn) ad cy gx ++ z_w layM nM am cy gm) := by
  by_cases hz : (xs (x3 + 3).toNatClampNeg) = 0
  · obtain ⟨r, gx', gm', A', f1, f2, hA', hX', hM', hC'⟩ := (Op.of (o_follows (xs (x3 + 1).toNatClampNeg) (xs (x3 + 2).toNatClampNeg) 0 (Or.inl rfl))) A gx gm hA hX hM hC
    refine y_aload_n C dL_law_305 rfl 1 rfl ?_
    refine y_aload_n C dL_law_306 rfl 0 rfl ?_
    refine y_iload_n C dL_law_307 rfl 3 rfl ?_
    refine y_iconst (v := 1) C dL_law_308 (by decide) ?_
    refine y_iadd C dL_law_309 ?_
    refine l_ld C X (l_in hL hi hx3 1 (by decide) rfl) dL_law_310 ?_
    refine y_aload_n C dL_law_311 rfl 0 rfl ?_
    refine y_iload_n C dL_law_312 rfl 3 rfl ?_
    refine y_iconst (v := 2) C dL_law_313 (by decide) ?_
    refine y_iadd C dL_law_314 ?_
    refine l_ld C X (l_in hL hi hx3 2 (by decide) rfl) dL_law_315 ?_
    refine y_aload_n C dL_law_316 rfl 0 rfl ?_
    refine y_iload_n C dL_law_317 rfl 3 rfl ?_
    refine y_iconst (v := 3) C dL_law_318 (by decide) ?_
    refine y_iadd C dL_law_319 ?_
    refine l_ld C X (l_in hL hi hx3 3 (by decide) rfl) dL_law_320 ?_
    refine y_if_eq 328 C dL_law_321 (by decide) (fun _ => ?_) (fun hc => absurd hz hc)
    refine y_iconst (v := 0) C dL_law_328 (by decide) ?_
    refine y_callZ (wr := z_w layM nM am cy gm) (ad := ad) (o := 0) (As := [.int (xs (x3 + 1).toNatClampNeg), .int (xs (x3 + 2).toNatClampNeg), .int 0]) [] C zc_L_39 (zk_X_0 kn) rfl ⟨by decide, by decide⟩ (Nat.le_of_ble_eq_true rfl) (lw_rm kn) dL_law_329 rfl rfl (wX10_follows kn ad (xs (x3 + 1).toNatClampNeg) (xs (x3 + 2).toNatClampNeg) 0 gx r gx' f1) ?_
    refine y_aload_n C dL_law_332 rfl 2 rfl ?_
    refine y_aload_n C dL_law_333 rfl 0 rfl ?_
    refine y_iload_n C dL_law_334 rfl 3 rfl ?_
    refine y_iconst (v := 1) C dL_law_335 (by decide) ?_
    refine y_iadd C dL_law_336 ?_
    refine l_ld C X (l_in hL hi hx3 1 (by decide) rfl) dL_law_337 ?_
    refine y_aload_n C dL_law_338 rfl 0 rfl ?_
    refine y_iload_n C dL_law_339 rfl 3 rfl ?_
    refine y_iconst (v := 2) C dL_law_340 (by decide) ?_
    refine y_iadd C dL_law_341 ?_
    refine l_ld C X (l_in hL hi hx3 2 (by decide) rfl) dL_law_342 ?_
    refine y_aload_n C dL_law_343 rfl 0 rfl ?_
    refine y_iload_n C dL_law_344 rfl 3 rfl ?_
    refine y_iconst (v := 3) C dL_law_345 (by decide) ?_
    refine y_iadd C dL_law_346 ?_
    refine l_ld C X (l_in hL hi hx3 3 (by decide) rfl) dL_law_347 ?_
    refine y_if_eq 355 C dL_law_348 (by decide) (fun _ => ?_) (fun hc => absurd hz hc)
    refine y_iconst (v := 0) C dL_law_355 (by decide) ?_
    refine y_callZ (wr := z_w (layX kn) (nX kn) ad cy gx') (ad := am) (o := 0) (As := [.int (xs (x3 + 1).toNatClampNeg), .int (xs (x3 + 2).toNatClampNeg), .int 0]) [.int r] C zc_L_43 zk_M rfl ⟨by decide, by decide⟩ (Nat.le_of_ble_eq_true rfl) (lw_rm kn) dL_law_356 rfl rfl (wX11_follows am (xs (x3 + 1).toNatClampNeg) (xs (x3 + 2).toNatClampNeg) 0 gm r gm' f2) ?_
    show y_W F _ _ _ _ [.int r, .int r] _
    refine y_icmp_eq 883 C dL_law_359 (by decide) (fun _ => ?_) (fun hc => absurd rfl hc)
    exact K kn ad A' gx' gm' rfl hA' hX' hM' hC'
  · obtain ⟨r, gx', gm', A', f1, f2, hA', hX', hM', hC'⟩ := (Op.of (o_follows (xs (x3 + 1).toNatClampNeg) (xs (x3 + 2).toNatClampNeg) 1 (Or.inr rfl))) A gx gm hA hX hM hC
    refine y_aload_n C dL_law_305 rfl 1 rfl ?_
    refine y_aload_n C dL_law_306 rfl 0 rfl ?_
    refine y_iload_n C dL_law_307 rfl 3 rfl ?_
    refine y_iconst (v := 1) C dL_law_308 (by decide) ?_
    refine y_iadd C dL_law_309 ?_
    refine l_ld C X (l_in hL hi hx3 1 (by decide) rfl) dL_law_310 ?_
    refine y_aload_n C dL_law_311 rfl 0 rfl ?_
    refine y_iload_n C dL_law_312 rfl 3 rfl ?_
    refine y_iconst (v := 2) C dL_law_313 (by decide) ?_
    refine y_iadd C dL_law_314 ?_
    refine l_ld C X (l_in hL hi hx3 2 (by decide) rfl) dL_law_315 ?_
    refine y_aload_n C dL_law_316 rfl 0 rfl ?_
    refine y_iload_n C dL_law_317 rfl 3 rfl ?_
    refine y_iconst (v := 3) C dL_law_318 (by decide) ?_
    refine y_iadd C dL_law_319 ?_
    refine l_ld C X (l_in hL hi hx3 3 (by decide) rfl) dL_law_320 ?_
    refine y_if_eq 328 C dL_law_321 (by decide) (fun hc => absurd hc hz) (fun _ => ?_)
    refine y_iconst (v := 1) C dL_law_324 (by decide) ?_
    refine y_goto 329 C dL_law_325 (by decide) ?_
    refine y_callZ (wr := z_w layM nM am cy gm) (ad := ad) (o := 0) (As := [.int (xs (x3 + 1).toNatClampNeg), .int (xs (x3 + 2).toNatClampNeg), .int 1]) [] C zc_L_39 (zk_X_0 kn) rfl ⟨by decide, by decide⟩ (Nat.le_of_ble_eq_true rfl) (lw_rm kn) dL_law_329 rfl rfl (wX10_follows kn ad (xs (x3 + 1).toNatClampNeg) (xs (x3 + 2).toNatClampNeg) 1 gx r gx' f1) ?_
    refine y_aload_n C dL_law_332 rfl 2 rfl ?_
    refine y_aload_n C dL_law_333 rfl 0 rfl ?_
    refine y_iload_n C dL_law_334 rfl 3 rfl ?_
    refine y_iconst (v := 1) C dL_law_335 (by decide) ?_
    refine y_iadd C dL_law_336 ?_
    refine l_ld C X (l_in hL hi hx3 1 (by decide) rfl) dL_law_337 ?_
    refine y_aload_n C dL_law_338 rfl 0 rfl ?_
    refine y_iload_n C dL_law_339 rfl 3 rfl ?_
    refine y_iconst (v := 2) C dL_law_340 (by decide) ?_
    refine y_iadd C dL_law_341 ?_
    refine l_ld C X (l_in hL hi hx3 2 (by decide) rfl) dL_law_342 ?_
    refine y_aload_n C dL_law_343 rfl 0 rfl ?_
    refine y_iload_n C dL_law_344 rfl 3 rfl ?_
    refine y_iconst (v := 3) C dL_law_345 (by decide) ?_
    refine y_iadd C dL_law_346 ?_
    refine l_ld C X (l_in hL hi hx3 3 (by decide) rfl) dL_law_347 ?_
    refine y_if_eq 355 C dL_law_348 (by decide) (fun hc => absurd hc hz) (fun _ => ?_)
    refine y_iconst (v := 1) C dL_law_351 (by decide) ?_
    refine y_goto 356 C dL_law_352 (by decide) ?_
    refine y_callZ (wr := z_w (layX kn) (nX kn) ad cy gx') (ad := am) (o := 0) (As := [.int (xs (x3 + 1).toNatClampNeg), .int (xs (x3 + 2).toNatClampNeg), .int 1]) [.int r] C zc_L_43 zk_M rfl ⟨by decide, by decide⟩ (Nat.le_of_ble_eq_true rfl) (lw_rm kn) dL_law_356 rfl rfl (wX11_follows am (xs (x3 + 1).toNatClampNeg) (xs (x3 + 2).toNatClampNeg) 1 gm r gm' f2) ?_
    show y_W F _ _ _ _ [.int r, .int r] _
    refine y_icmp_eq 883 C dL_law_359 (by decide) (fun _ => ?_) (fun hc => absurd rfl hc)
    exact K kn ad A' gx' gm' rfl hA' hX' hM' hC'
set_option maxRecDepth 100000 in
set_option maxHeartbeats 4000000 in
theorem lc_6 {F : z_F} {b L i : Nat} {xs : Nat → Int32} {cy : Nat → ClassId} {kn : Bool} {ad am : Nat → Nat} {A : aS} {gx gm : z_S} {x3 : Int32} (hL : L ≤ 2048) (C : y_X F cL_law RL 4 ret room_1 cy) (X : l_X F b L xs) (hi : i + 4 ≤ L) (hx3 : x3 = nI i) (hA : I_ok A) (hX : R_X A gx) (hM : R_M A gm) (hC : CI A gx) (K : l_K F b cy ad am x3) : y_W F (lwC kn) (lwS kn) 364 [(0, .ref b), (1, .ref (ad 0)), (2, .ref (am 0)), (3, .int x3)] [] (z_w (layX kn) (nX kn) ad cy gx ++ z_w layM nM am cy gm) := by
  obtain ⟨r, gx', gm', A', f1, f2, hA', hX', hM', hC'⟩ := (Op.of (o_count (xs (x3 + 1).toNatClampNeg))) A gx gm hA hX hM hC
  refine y_aload_n C dL_law_364 rfl 1 rfl ?_
  refine y_aload_n C dL_law_365 rfl 0 rfl ?_
  refine y_iload_n C dL_law_366 rfl 3 rfl ?_
  refine y_iconst (v := 1) C dL_law_367 (by decide) ?_
  refine y_iadd C dL_law_368 ?_
  refine l_ld C X (l_in hL hi hx3 1 (by decide) rfl) dL_law_369 ?_
  refine y_callZ (wr := z_w layM nM am cy gm) (ad := ad) (o := 0) (As := [.int (xs (x3 + 1).toNatClampNeg)]) [] C zc_L_44 (zk_X_0 kn) rfl ⟨by decide, by decide⟩ (Nat.le_of_ble_eq_true rfl) (lw_rm kn) dL_law_370 rfl rfl (wX10_count kn ad (xs (x3 + 1).toNatClampNeg) gx r gx' f1) ?_
  refine y_aload_n C dL_law_373 rfl 2 rfl ?_
  refine y_aload_n C dL_law_374 rfl 0 rfl ?_
  refine y_iload_n C dL_law_375 rfl 3 rfl ?_
  refine y_iconst (v := 1) C dL_law_376 (by decide) ?_
  refine y_iadd C dL_law_377 ?_
  refine l_ld C X (l_in hL hi hx3 1 (by decide) rfl) dL_law_378 ?_
  refine y_callZ (wr := z_w (layX kn) (nX kn) ad cy gx') (ad := am) (o := 0) (As := [.int (xs (x3 + 1).toNatClampNeg)]) [.int r] C zc_L_47 zk_M rfl ⟨by decide, by decide⟩ (Nat.le_of_ble_eq_true rfl) (lw_rm kn) dL_law_379 rfl rfl (wX11_count am (xs (x3 + 1).toNatClampNeg) gm r gm' f2) ?_
  show y_W F _ _ _ _ [.int r, .int r] _
  refine y_icmp_eq 883 C dL_law_382 (by decide) (fun _ => ?_) (fun hc => absurd rfl hc)
  exact K kn ad A' gx' gm' rfl hA' hX' hM' hC'
set_option maxRecDepth 100000 in
set_option maxHeartbeats 4000000 in
theorem lc_7 {F : z_F} {b L i : Nat} {xs : Nat → Int32} {cy : Nat → ClassId} {kn : Bool} {ad am : Nat → Nat} {A : aS} {gx gm : z_S} {x3 : Int32} (hL : L ≤ 2048) (C : y_X F cL_law RL 4 ret room_1 cy) (X : l_X F b L xs) (hi : i + 4 ≤ L) (hx3 : x3 = nI i) (hA : I_ok A) (hX : R_X A gx) (hM : R_M A gm) (hC : CI A gx) (K : l_K F b cy ad am x3) : y_W F (lwC kn) (lwS kn) 387 [(0, .ref b), (1, .ref (ad 0)), (2, .ref (am 0)), (3, .int x3)] [] (z_w (layX kn) (nX kn) ad cy gx ++ z_w layM nM am cy gm) := by
  obtain ⟨r, gx', gm', A', f1, f2, hA', hX', hM', hC'⟩ := (Op.of (o_letter (xs (x3 + 1).toNatClampNeg))) A gx gm hA hX hM hC
  refine y_aload_n C dL_law_387 rfl 1 rfl ?_
  refine y_aload_n C dL_law_388 rfl 0 rfl ?_
  refine y_iload_n C dL_law_389 rfl 3 rfl ?_
  refine y_iconst (v := 1) C dL_law_390 (by decide) ?_
  refine y_iadd C dL_law_391 ?_
  refine l_ld C X (l_in hL hi hx3 1 (by decide) rfl) dL_law_392 ?_
  refine y_callZ (wr := z_w layM nM am cy gm) (ad := ad) (o := 0) (As := [.int (xs (x3 + 1).toNatClampNeg)]) [] C zc_L_48 (zk_X_0 kn) rfl ⟨by decide, by decide⟩ (Nat.le_of_ble_eq_true rfl) (lw_rm kn) dL_law_393 rfl rfl (wX10_letter kn ad (xs (x3 + 1).toNatClampNeg) gx r gx' f1) ?_
  refine y_aload_n C dL_law_396 rfl 2 rfl ?_
  refine y_aload_n C dL_law_397 rfl 0 rfl ?_
  refine y_iload_n C dL_law_398 rfl 3 rfl ?_
  refine y_iconst (v := 1) C dL_law_399 (by decide) ?_
  refine y_iadd C dL_law_400 ?_
  refine l_ld C X (l_in hL hi hx3 1 (by decide) rfl) dL_law_401 ?_
  refine y_callZ (wr := z_w (layX kn) (nX kn) ad cy gx') (ad := am) (o := 0) (As := [.int (xs (x3 + 1).toNatClampNeg)]) [.int r] C zc_L_51 zk_M rfl ⟨by decide, by decide⟩ (Nat.le_of_ble_eq_true rfl) (lw_rm kn) dL_law_402 rfl rfl (wX11_letter am (xs (x3 + 1).toNatClampNeg) gm r gm' f2) ?_
  show y_W F _ _ _ _ [.int r, .int r] _
  refine y_icmp_eq 883 C dL_law_405 (by decide) (fun _ => ?_) (fun hc => absurd rfl hc)
  exact K kn ad A' gx' gm' rfl hA' hX' hM' hC'
set_option maxRecDepth 100000 in
set_option maxHeartbeats 4000000 in
theorem lc_8 {F : z_F} {b L i : Nat} {xs : Nat → Int32} {cy : Nat → ClassId} {kn : Bool} {ad am : Nat → Nat} {A : aS} {gx gm : z_S} {x3 : Int32} (hL : L ≤ 2048) (C : y_X F cL_law RL 4 ret room_1 cy) (X : l_X F b L xs) (hi : i + 4 ≤ L) (hx3 : x3 = nI i) (hA : I_ok A) (hX : R_X A gx) (hM : R_M A gm) (hC : CI A gx) (K : l_K F b cy ad am x3) : y_W F (lwC kn) (lwS kn) 410 [(0, .ref b), (1, .ref (ad 0)), (2, .ref (am 0)), (3, .int x3)] [] (z_w (layX kn) (nX kn) ad cy gx ++ z_w layM nM am cy gm) := by
  obtain ⟨r, gx', gm', A', f1, f2, hA', hX', hM', hC'⟩ := (Op.of (o_append (xs (x3 + 1).toNatClampNeg))) A gx gm hA hX hM hC
  refine y_aload_n C dL_law_410 rfl 1 rfl ?_
  refine y_aload_n C dL_law_411 rfl 0 rfl ?_
  refine y_iload_n C dL_law_412 rfl 3 rfl ?_
  refine y_iconst (v := 1) C dL_law_413 (by decide) ?_
  refine y_iadd C dL_law_414 ?_
  refine l_ld C X (l_in hL hi hx3 1 (by decide) rfl) dL_law_415 ?_
  refine y_callZ (wr := z_w layM nM am cy gm) (ad := ad) (o := 0) (As := [.int (xs (x3 + 1).toNatClampNeg)]) [] C zc_L_52 (zk_X_0 kn) rfl ⟨by decide, by decide⟩ (Nat.le_of_ble_eq_true rfl) (lw_rm kn) dL_law_416 rfl rfl (wX10_append kn ad (xs (x3 + 1).toNatClampNeg) gx r gx' f1) ?_
  refine y_aload_n C dL_law_419 rfl 2 rfl ?_
  refine y_aload_n C dL_law_420 rfl 0 rfl ?_
  refine y_iload_n C dL_law_421 rfl 3 rfl ?_
  refine y_iconst (v := 1) C dL_law_422 (by decide) ?_
  refine y_iadd C dL_law_423 ?_
  refine l_ld C X (l_in hL hi hx3 1 (by decide) rfl) dL_law_424 ?_
  refine y_callZ (wr := z_w (layX kn) (nX kn) ad cy gx') (ad := am) (o := 0) (As := [.int (xs (x3 + 1).toNatClampNeg)]) [.int r] C zc_L_55 zk_M rfl ⟨by decide, by decide⟩ (Nat.le_of_ble_eq_true rfl) (lw_rm kn) dL_law_425 rfl rfl (wX11_append am (xs (x3 + 1).toNatClampNeg) gm r gm' f2) ?_
  show y_W F _ _ _ _ [.int r, .int r] _
  refine y_icmp_eq 883 C dL_law_428 (by decide) (fun _ => ?_) (fun hc => absurd rfl hc)
  exact K kn ad A' gx' gm' rfl hA' hX' hM' hC'
set_option maxRecDepth 100000 in
set_option maxHeartbeats 4000000 in
theorem lc_9 {F : z_F} {b L i : Nat} {xs : Nat → Int32} {cy : Nat → ClassId} {kn : Bool} {ad am : Nat → Nat} {A : aS} {gx gm : z_S} {x3 : Int32} (hL : L ≤ 2048) (C : y_X F cL_law RL 4 ret room_1 cy) (X : l_X F b L xs) (hi : i + 4 ≤ L) (hx3 : x3 = nI i) (hA : I_ok A) (hX : R_X A gx) (hM : R_M A gm) (hC : CI A gx) (K : l_K F b cy ad am x3) : y_W F (lwC kn) (lwS kn) 433 [(0, .ref b), (1, .ref (ad 0)), (2, .ref (am 0)), (3, .int x3)] [] (z_w (layX kn) (nX kn) ad cy gx ++ z_w layM nM am cy gm) := by
  obtain ⟨r, gx', gm', A', f1, f2, hA', hX', hM', hC'⟩ := (Op.of o_clear) A gx gm hA hX hM hC
  refine y_aload_n C dL_law_433 rfl 1 rfl ?_
  refine y_callZ (wr := z_w layM nM am cy gm) (ad := ad) (o := 0) (As := []) [] C zc_L_56 (zk_X_0 kn) rfl ⟨by decide, by decide⟩ (Nat.le_of_ble_eq_true rfl) (lw_rm kn) dL_law_434 rfl rfl (wX10_clear kn ad gx r gx' f1) ?_
  refine y_aload_n C dL_law_437 rfl 2 rfl ?_
  refine y_callZ (wr := z_w (layX kn) (nX kn) ad cy gx') (ad := am) (o := 0) (As := []) [.int r] C zc_L_59 zk_M rfl ⟨by decide, by decide⟩ (Nat.le_of_ble_eq_true rfl) (lw_rm kn) dL_law_438 rfl rfl (wX11_clear am gm r gm' f2) ?_
  show y_W F _ _ _ _ [.int r, .int r] _
  refine y_icmp_eq 883 C dL_law_441 (by decide) (fun _ => ?_) (fun hc => absurd rfl hc)
  exact K kn ad A' gx' gm' rfl hA' hX' hM' hC'
set_option maxRecDepth 100000 in
set_option maxHeartbeats 4000000 in
theorem lc_10 {F : z_F} {b L i : Nat} {xs : Nat → Int32} {cy : Nat → ClassId} {kn : Bool} {ad am : Nat → Nat} {A : aS} {gx gm : z_S} {x3 : Int32} (hL : L ≤ 2048) (C : y_X F cL_law RL 4 ret room_1 cy) (X : l_X F b L xs) (hi : i + 4 ≤ L) (hx3 : x3 = nI i) (hA : I_ok A) (hX : R_X A gx) (hM : R_M A gm) (hC : CI A gx) (K : l_K F b cy ad am x3) : y_W F (lwC kn) (lwS kn) 446 [(0, .ref b), (1, .ref (ad 0)), (2, .ref (am 0)), (3, .int x3)] [] (z_w (layX kn) (nX kn) ad cy gx ++ z_w layM nM am cy gm) := by
  obtain ⟨r, gx', gm', A', f1, f2, hA', hX', hM', hC'⟩ := (Op.of o_readings) A gx gm hA hX hM hC
  refine y_aload_n C dL_law_446 rfl 1 rfl ?_
  refine y_callZ (wr := z_w layM nM am cy gm) (ad := ad) (o := 0) (As := []) [] C zc_L_60 (zk_X_0 kn) rfl ⟨by decide, by decide⟩ (Nat.le_of_ble_eq_true rfl) (lw_rm kn) dL_law_447 rfl rfl (wX10_readings kn ad gx r gx' f1) ?_
  refine y_aload_n C dL_law_450 rfl 2 rfl ?_
  refine y_callZ (wr := z_w (layX kn) (nX kn) ad cy gx') (ad := am) (o := 0) (As := []) [.long r] C zc_L_64 zk_M rfl ⟨by decide, by decide⟩ (Nat.le_of_ble_eq_true rfl) (lw_rm kn) dL_law_451 rfl rfl (wX11_readings am gm r gm' f2) ?_
  show y_W F _ _ _ _ [.long r, .long r] _
  refine y_lcmp_eq 883 C dL_law_454 dL_law_455 (by decide) (fun _ => ?_) (fun hc => absurd rfl hc)
  exact K kn ad A' gx' gm' rfl hA' hX' hM' hC'
set_option maxRecDepth 100000 in
set_option maxHeartbeats 4000000 in
theorem lc_11 {F : z_F} {b L i : Nat} {xs : Nat → Int32} {cy : Nat → ClassId} {kn : Bool} {ad am : Nat → Nat} {A : aS} {gx gm : z_S} {x3 : Int32} (hL : L ≤ 2048) (C : y_X F cL_law RL 4 ret room_1 cy) (X : l_X F b L xs) (hi : i + 4 ≤ L) (hx3 : x3 = nI i) (hA : I_ok A) (hX : R_X A gx) (hM : R_M A gm) (hC : CI A gx) (K : l_K F b cy ad am x3) : y_W F (lwC kn) (lwS kn) 460 [(0, .ref b), (1, .ref (ad 0)), (2, .ref (am 0)), (3, .int x3)] [] (z_w (layX kn) (nX kn) ad cy gx ++ z_w layM nM am cy gm) := by
  obtain ⟨r, gx', gm', A', f1, f2, hA', hX', hM', hC'⟩ := (Op.of (o_reading ((((xs (x3 + 1).toNatClampNeg).toInt64) <<< ((32 : Int32).toInt64 &&& 63)) ||| (((xs (x3 + 2).toNatClampNeg).toInt64) &&& 4294967295)) (xs (x3 + 3).toNatClampNeg))) A gx gm hA hX hM hC
  refine y_aload_n C dL_law_460 rfl 1 rfl ?_
  refine y_aload_n C dL_law_461 rfl 0 rfl ?_
  refine y_iload_n C dL_law_462 rfl 3 rfl ?_
  refine y_iconst (v := 1) C dL_law_463 (by decide) ?_
  refine y_iadd C dL_law_464 ?_
  refine l_ld C X (l_in hL hi hx3 1 (by decide) rfl) dL_law_465 ?_
  refine y_i2l C dL_law_466 ?_
  refine y_bipush (v := 32) C dL_law_467 (by decide) ?_
  refine y_lshl C dL_law_469 ?_
  refine y_aload_n C dL_law_470 rfl 0 rfl ?_
  refine y_iload_n C dL_law_471 rfl 3 rfl ?_
  refine y_iconst (v := 2) C dL_law_472 (by decide) ?_
  refine y_iadd C dL_law_473 ?_
  refine l_ld C X (l_in hL hi hx3 2 (by decide) rfl) dL_law_474 ?_
  refine y_i2l C dL_law_475 ?_
  refine y_ldc2 C dL_law_476 zl_L_18 ?_
  refine y_land C dL_law_479 ?_
  refine y_lor C dL_law_480 ?_
  refine y_aload_n C dL_law_481 rfl 0 rfl ?_
  refine y_iload_n C dL_law_482 rfl 3 rfl ?_
  refine y_iconst (v := 3) C dL_law_483 (by decide) ?_
  refine y_iadd C dL_law_484 ?_
  refine l_ld C X (l_in hL hi hx3 3 (by decide) rfl) dL_law_485 ?_
  refine y_callZ (wr := z_w layM nM am cy gm) (ad := ad) (o := 0) (As := [.long ((((xs (x3 + 1).toNatClampNeg).toInt64) <<< ((32 : Int32).toInt64 &&& 63)) ||| (((xs (x3 + 2).toNatClampNeg).toInt64) &&& 4294967295)), .int (xs (x3 + 3).toNatClampNeg)]) [] C zc_L_65 (zk_X_0 kn) rfl ⟨by decide, by decide⟩ (Nat.le_of_ble_eq_true rfl) (lw_rm kn) dL_law_486 rfl rfl (wX10_reading kn ad ((((xs (x3 + 1).toNatClampNeg).toInt64) <<< ((32 : Int32).toInt64 &&& 63)) ||| (((xs (x3 + 2).toNatClampNeg).toInt64) &&& 4294967295)) (xs (x3 + 3).toNatClampNeg) gx r gx' f1) ?_
  refine y_aload_n C dL_law_489 rfl 2 rfl ?_
  refine y_aload_n C dL_law_490 rfl 0 rfl ?_
  refine y_iload_n C dL_law_491 rfl 3 rfl ?_
  refine y_iconst (v := 1) C dL_law_492 (by decide) ?_
  refine y_iadd C dL_law_493 ?_
  refine l_ld C X (l_in hL hi hx3 1 (by decide) rfl) dL_law_494 ?_
  refine y_i2l C dL_law_495 ?_
  refine y_bipush (v := 32) C dL_law_496 (by decide) ?_
  refine y_lshl C dL_law_498 ?_
  refine y_aload_n C dL_law_499 rfl 0 rfl ?_
  refine y_iload_n C dL_law_500 rfl 3 rfl ?_
  refine y_iconst (v := 2) C dL_law_501 (by decide) ?_
  refine y_iadd C dL_law_502 ?_
  refine l_ld C X (l_in hL hi hx3 2 (by decide) rfl) dL_law_503 ?_
  refine y_i2l C dL_law_504 ?_
  refine y_ldc2 C dL_law_505 zl_L_18 ?_
  refine y_land C dL_law_508 ?_
  refine y_lor C dL_law_509 ?_
  refine y_aload_n C dL_law_510 rfl 0 rfl ?_
  refine y_iload_n C dL_law_511 rfl 3 rfl ?_
  refine y_iconst (v := 3) C dL_law_512 (by decide) ?_
  refine y_iadd C dL_law_513 ?_
  refine l_ld C X (l_in hL hi hx3 3 (by decide) rfl) dL_law_514 ?_
  refine y_callZ (wr := z_w (layX kn) (nX kn) ad cy gx') (ad := am) (o := 0) (As := [.long ((((xs (x3 + 1).toNatClampNeg).toInt64) <<< ((32 : Int32).toInt64 &&& 63)) ||| (((xs (x3 + 2).toNatClampNeg).toInt64) &&& 4294967295)), .int (xs (x3 + 3).toNatClampNeg)]) [.int r] C zc_L_69 zk_M rfl ⟨by decide, by decide⟩ (Nat.le_of_ble_eq_true rfl) (lw_rm kn) dL_law_515 rfl rfl (wX11_reading am ((((xs (x3 + 1).toNatClampNeg).toInt64) <<< ((32 : Int32).toInt64 &&& 63)) ||| (((xs (x3 + 2).toNatClampNeg).toInt64) &&& 4294967295)) (xs (x3 + 3).toNatClampNeg) gm r gm' f2) ?_
  show y_W F _ _ _ _ [.int r, .int r] _
  refine y_icmp_eq 883 C dL_law_518 (by decide) (fun _ => ?_) (fun hc => absurd rfl hc)
  exact K kn ad A' gx' gm' rfl hA' hX' hM' hC'
set_option maxRecDepth 100000 in
set_option maxHeartbeats 4000000 in
theorem lc_12 {F : z_F} {b L i : Nat} {xs : Nat → Int32} {cy : Nat → ClassId} {kn : Bool} {ad am : Nat → Nat} {A : aS} {gx gm : z_S} {x3 : Int32} (hL : L ≤ 2048) (C : y_X F cL_law RL 4 ret room_1 cy) (X : l_X F b L xs) (hi : i + 4 ≤ L) (hx3 : x3 = nI i) (hA : I_ok A) (hX : R_X A gx) (hM : R_M A gm) (hC : CI A gx) (K : l_K F b cy ad am x3) : y_W F (lwC kn) (lwS kn) 523 [(0, .ref b), (1, .ref (ad 0)), (2, .ref (am 0)), (3, .int x3)] [] (z_w (layX kn) (nX kn) ad cy gx ++ z_w layM nM am cy gm) := by
  obtain ⟨r, gx', gm', A', f1, f2, hA', hX', hM', hC'⟩ := (Op.of (o_best (xs (x3 + 1).toNatClampNeg))) A gx gm hA hX hM hC
  refine y_aload_n C dL_law_523 rfl 1 rfl ?_
  refine y_aload_n C dL_law_524 rfl 0 rfl ?_
  refine y_iload_n C dL_law_525 rfl 3 rfl ?_
  refine y_iconst (v := 1) C dL_law_526 (by decide) ?_
  refine y_iadd C dL_law_527 ?_
  refine l_ld C X (l_in hL hi hx3 1 (by decide) rfl) dL_law_528 ?_
  refine y_callZ (wr := z_w layM nM am cy gm) (ad := ad) (o := 0) (As := [.int (xs (x3 + 1).toNatClampNeg)]) [] C zc_L_70 (zk_X_0 kn) rfl ⟨by decide, by decide⟩ (Nat.le_of_ble_eq_true rfl) (lw_rm kn) dL_law_529 rfl rfl (wX10_best kn ad (xs (x3 + 1).toNatClampNeg) gx r gx' f1) ?_
  refine y_aload_n C dL_law_532 rfl 2 rfl ?_
  refine y_aload_n C dL_law_533 rfl 0 rfl ?_
  refine y_iload_n C dL_law_534 rfl 3 rfl ?_
  refine y_iconst (v := 1) C dL_law_535 (by decide) ?_
  refine y_iadd C dL_law_536 ?_
  refine l_ld C X (l_in hL hi hx3 1 (by decide) rfl) dL_law_537 ?_
  refine y_callZ (wr := z_w (layX kn) (nX kn) ad cy gx') (ad := am) (o := 0) (As := [.int (xs (x3 + 1).toNatClampNeg)]) [.int r] C zc_L_73 zk_M rfl ⟨by decide, by decide⟩ (Nat.le_of_ble_eq_true rfl) (lw_rm kn) dL_law_538 rfl rfl (wX11_best am (xs (x3 + 1).toNatClampNeg) gm r gm' f2) ?_
  show y_W F _ _ _ _ [.int r, .int r] _
  refine y_icmp_eq 883 C dL_law_541 (by decide) (fun _ => ?_) (fun hc => absurd rfl hc)
  exact K kn ad A' gx' gm' rfl hA' hX' hM' hC'
set_option maxRecDepth 100000 in
set_option maxHeartbeats 4000000 in
theorem lc_13 {F : z_F} {b L i : Nat} {xs : Nat → Int32} {cy : Nat → ClassId} {kn : Bool} {ad am : Nat → Nat} {A : aS} {gx gm : z_S} {x3 : Int32} (hL : L ≤ 2048) (C : y_X F cL_law RL 4 ret room_1 cy) (X : l_X F b L xs) (hi : i + 4 ≤ L) (hx3 : x3 = nI i) (hA : I_ok A) (hX : R_X A gx) (hM : R_M A gm) (hC : CI A gx) (K : l_K F b cy ad am x3) : y_W F (lwC kn) (lwS kn) 546 [(0, .ref b), (1, .ref (ad 0)), (2, .ref (am 0)), (3, .int x3)] [] (z_w (layX kn) (nX kn) ad cy gx ++ z_w layM nM am cy gm) := by
  obtain ⟨r, gx', gm', A', f1, f2, hA', hX', hM', hC'⟩ := (Op.of (o_cheapest (xs (x3 + 1).toNatClampNeg))) A gx gm hA hX hM hC
  refine y_aload_n C dL_law_546 rfl 1 rfl ?_
  refine y_aload_n C dL_law_547 rfl 0 rfl ?_
  refine y_iload_n C dL_law_548 rfl 3 rfl ?_
  refine y_iconst (v := 1) C dL_law_549 (by decide) ?_
  refine y_iadd C dL_law_550 ?_
  refine l_ld C X (l_in hL hi hx3 1 (by decide) rfl) dL_law_551 ?_
  refine y_callZ (wr := z_w layM nM am cy gm) (ad := ad) (o := 0) (As := [.int (xs (x3 + 1).toNatClampNeg)]) [] C zc_L_74 (zk_X_0 kn) rfl ⟨by decide, by decide⟩ (Nat.le_of_ble_eq_true rfl) (lw_rm kn) dL_law_552 rfl rfl (wX10_cheapest kn ad (xs (x3 + 1).toNatClampNeg) gx r gx' f1) ?_
  refine y_aload_n C dL_law_555 rfl 2 rfl ?_
  refine y_aload_n C dL_law_556 rfl 0 rfl ?_
  refine y_iload_n C dL_law_557 rfl 3 rfl ?_
  refine y_iconst (v := 1) C dL_law_558 (by decide) ?_
  refine y_iadd C dL_law_559 ?_
  refine l_ld C X (l_in hL hi hx3 1 (by decide) rfl) dL_law_560 ?_
  refine y_callZ (wr := z_w (layX kn) (nX kn) ad cy gx') (ad := am) (o := 0) (As := [.int (xs (x3 + 1).toNatClampNeg)]) [.int r] C zc_L_77 zk_M rfl ⟨by decide, by decide⟩ (Nat.le_of_ble_eq_true rfl) (lw_rm kn) dL_law_561 rfl rfl (wX11_cheapest am (xs (x3 + 1).toNatClampNeg) gm r gm' f2) ?_
  show y_W F _ _ _ _ [.int r, .int r] _
  refine y_icmp_eq 883 C dL_law_564 (by decide) (fun _ => ?_) (fun hc => absurd rfl hc)
  exact K kn ad A' gx' gm' rfl hA' hX' hM' hC'
set_option maxRecDepth 100000 in
set_option maxHeartbeats 4000000 in
theorem lc_14 {F : z_F} {b L i : Nat} {xs : Nat → Int32} {cy : Nat → ClassId} {kn : Bool} {ad am : Nat → Nat} {A : aS} {gx gm : z_S} {x3 : Int32} (hL : L ≤ 2048) (C : y_X F cL_law RL 4 ret room_1 cy) (X : l_X F b L xs) (hi : i + 4 ≤ L) (hx3 : x3 = nI i) (hA : I_ok A) (hX : R_X A gx) (hM : R_M A gm) (hC : CI A gx) (K : l_K F b cy ad am x3) : y_W F (lwC kn) (lwS kn) 569 [(0, .ref b), (1, .ref (ad 0)), (2, .ref (am 0)), (3, .int x3)] [] (z_w (layX kn) (nX kn) ad cy gx ++ z_w layM nM am cy gm) := by
  obtain ⟨r, gx', gm', A', f1, f2, hA', hX', hM', hC'⟩ := (Op.of (o_end (xs (x3 + 1).toNatClampNeg))) A gx gm hA hX hM hC
  refine y_aload_n C dL_law_569 rfl 1 rfl ?_
  refine y_aload_n C dL_law_570 rfl 0 rfl ?_
  refine y_iload_n C dL_law_571 rfl 3 rfl ?_
  refine y_iconst (v := 1) C dL_law_572 (by decide) ?_
  refine y_iadd C dL_law_573 ?_
  refine l_ld C X (l_in hL hi hx3 1 (by decide) rfl) dL_law_574 ?_
  refine y_callZ (wr := z_w layM nM am cy gm) (ad := ad) (o := 0) (As := [.int (xs (x3 + 1).toNatClampNeg)]) [] C zc_L_78 (zk_X_0 kn) rfl ⟨by decide, by decide⟩ (Nat.le_of_ble_eq_true rfl) (lw_rm kn) dL_law_575 rfl rfl (wX10_end kn ad (xs (x3 + 1).toNatClampNeg) gx r gx' f1) ?_
  refine y_aload_n C dL_law_578 rfl 2 rfl ?_
  refine y_aload_n C dL_law_579 rfl 0 rfl ?_
  refine y_iload_n C dL_law_580 rfl 3 rfl ?_
  refine y_iconst (v := 1) C dL_law_581 (by decide) ?_
  refine y_iadd C dL_law_582 ?_
  refine l_ld C X (l_in hL hi hx3 1 (by decide) rfl) dL_law_583 ?_
  refine y_callZ (wr := z_w (layX kn) (nX kn) ad cy gx') (ad := am) (o := 0) (As := [.int (xs (x3 + 1).toNatClampNeg)]) [.int r] C zc_L_81 zk_M rfl ⟨by decide, by decide⟩ (Nat.le_of_ble_eq_true rfl) (lw_rm kn) dL_law_584 rfl rfl (wX11_end am (xs (x3 + 1).toNatClampNeg) gm r gm' f2) ?_
  show y_W F _ _ _ _ [.int r, .int r] _
  refine y_icmp_eq 883 C dL_law_587 (by decide) (fun _ => ?_) (fun hc => absurd rfl hc)
  exact K kn ad A' gx' gm' rfl hA' hX' hM' hC'
set_option maxRecDepth 100000 in
set_option maxHeartbeats 4000000 in
theorem lc_15 {F : z_F} {b L i : Nat} {xs : Nat → Int32} {cy : Nat → ClassId} {kn : Bool} {ad am : Nat → Nat} {A : aS} {gx gm : z_S} {x3 : Int32} (hL : L ≤ 2048) (C : y_X F cL_law RL 4 ret room_1 cy) (X : l_X F b L xs) (hi : i + 4 ≤ L) (hx3 : x3 = nI i) (hA : I_ok A) (hX : R_X A gx) (hM : R_M A gm) (hC : CI A gx) (K : l_K F b cy ad am x3) : y_W F (lwC kn) (lwS kn) 592 [(0, .ref b), (1, .ref (ad 0)), (2, .ref (am 0)), (3, .int x3)] [] (z_w (layX kn) (nX kn) ad cy gx ++ z_w layM nM am cy gm) := by
  obtain ⟨r, gx', gm', A', f1, f2, hA', hX', hM', hC'⟩ := (Op.of (o_within (xs (x3 + 1).toNatClampNeg))) A gx gm hA hX hM hC
  refine y_aload_n C dL_law_592 rfl 1 rfl ?_
  refine y_aload_n C dL_law_593 rfl 0 rfl ?_
  refine y_iload_n C dL_law_594 rfl 3 rfl ?_
  refine y_iconst (v := 1) C dL_law_595 (by decide) ?_
  refine y_iadd C dL_law_596 ?_
  refine l_ld C X (l_in hL hi hx3 1 (by decide) rfl) dL_law_597 ?_
  refine y_callZ (wr := z_w layM nM am cy gm) (ad := ad) (o := 0) (As := [.int (xs (x3 + 1).toNatClampNeg)]) [] C zc_L_82 (zk_X_0 kn) rfl ⟨by decide, by decide⟩ (Nat.le_of_ble_eq_true rfl) (lw_rm kn) dL_law_598 rfl rfl (wX10_within kn ad (xs (x3 + 1).toNatClampNeg) gx r gx' f1) ?_
  refine y_aload_n C dL_law_601 rfl 2 rfl ?_
  refine y_aload_n C dL_law_602 rfl 0 rfl ?_
  refine y_iload_n C dL_law_603 rfl 3 rfl ?_
  refine y_iconst (v := 1) C dL_law_604 (by decide) ?_
  refine y_iadd C dL_law_605 ?_
  refine l_ld C X (l_in hL hi hx3 1 (by decide) rfl) dL_law_606 ?_
  refine y_callZ (wr := z_w (layX kn) (nX kn) ad cy gx') (ad := am) (o := 0) (As := [.int (xs (x3 + 1).toNatClampNeg)]) [.int r] C zc_L_85 zk_M rfl ⟨by decide, by decide⟩ (Nat.le_of_ble_eq_true rfl) (lw_rm kn) dL_law_607 rfl rfl (wX11_within am (xs (x3 + 1).toNatClampNeg) gm r gm' f2) ?_
  show y_W F _ _ _ _ [.int r, .int r] _
  refine y_icmp_eq 883 C dL_law_610 (by decide) (fun _ => ?_) (fun hc => absurd rfl hc)
  exact K kn ad A' gx' gm' rfl hA' hX' hM' hC'
set_option maxRecDepth 100000 in
set_option maxHeartbeats 4000000 in
theorem lc_16 {F : z_F} {b L i : Nat} {xs : Nat → Int32} {cy : Nat → ClassId} {kn : Bool} {ad am : Nat → Nat} {A : aS} {gx gm : z_S} {x3 : Int32} (hL : L ≤ 2048) (C : y_X F cL_law RL 4 ret room_1 cy) (X : l_X F b L xs) (hi : i + 4 ≤ L) (hx3 : x3 = nI i) (hA : I_ok A) (hX : R_X A gx) (hM : R_M A gm) (hC : CI A gx) (K : l_K F b cy ad am x3) : y_W F (lwC kn) (lwS kn) 615 [(0, .ref b), (1, .ref (ad 0)), (2, .ref (am 0)), (3, .int x3)] [] (z_w (layX kn) (nX kn) ad cy gx ++ z_w layM nM am cy gm) := by
  cases kn
  · rw [← gz_w]
    obtain ⟨r, gx', gm', A', f1, f2, hA', hX', hM', hC'⟩ := (op_key (xs (x3 + 1).toNatClampNeg)) A (gz gx) gm hA (gz_X hA hX) hM (gz_C hC)
    by_cases hno : (gz gx).1 4 0 = 0 ∨ ¬ (gz gx).1 43 1 = 0
    · refine y_aload_n C dL_law_615 rfl 1 rfl ?_
      refine y_aload_n C dL_law_616 rfl 0 rfl ?_
      refine y_iload_n C dL_law_617 rfl 3 rfl ?_
      refine y_iconst (v := 1) C dL_law_618 (by decide) ?_
      refine y_iadd C dL_law_619 ?_
      refine l_ld C X (l_in hL hi hx3 1 (by decide) rfl) dL_law_620 ?_
      refine y_callZ (wr := z_w layM nM am cy gm) (ad := ad) (o := 0) (As := [.int (xs (x3 + 1).toNatClampNeg)]) [] C zc_L_86 (zk_X_0 false) rfl ⟨by decide, by decide⟩ (Nat.le_of_ble_eq_true rfl) (lw_rm false) dL_law_621 rfl rfl (nX10_key ad (xs (x3 + 1).toNatClampNeg) (gz gx) r gx' hno f1) ?_
      refine y_aload_n C dL_law_624 rfl 2 rfl ?_
      refine y_aload_n C dL_law_625 rfl 0 rfl ?_
      refine y_iload_n C dL_law_626 rfl 3 rfl ?_
      refine y_iconst (v := 1) C dL_law_627 (by decide) ?_
      refine y_iadd C dL_law_628 ?_
      refine l_ld C X (l_in hL hi hx3 1 (by decide) rfl) dL_law_629 ?_
      refine y_callZ (wr := z_w (layX false) (nX false) ad cy gx') (ad := am) (o := 0) (As := [.int (xs (x3 + 1).toNatClampNeg)]) [.int r] C zc_L_89 zk_M rfl ⟨by decide, by decide⟩ (Nat.le_of_ble_eq_true rfl) (lw_rm false) dL_law_630 rfl rfl (wX11_key am (xs (x3 + 1).toNatClampNeg) gm r gm' f2) ?_
      show y_W F _ _ _ _ [.int r, .int r] _
      refine y_icmp_eq 883 C dL_law_633 (by decide) (fun _ => ?_) (fun hc => absurd rfl hc)
      exact K false ad A' gx' gm' rfl hA' hX' hM' hC'
    · have hc1 : ¬ (gz gx).1 4 0 = 0 := fun q => hno (Or.inl q)
      have hc2 : (gz gx).1 43 1 = 0 := Decidable.byContradiction (fun q => hno (Or.inr q))
      refine y_aload_n C dL_law_615 rfl 1 rfl ?_
      refine y_aload_n C dL_law_616 rfl 0 rfl ?_
      refine y_iload_n C dL_law_617 rfl 3 rfl ?_
      refine y_iconst (v := 1) C dL_law_618 (by decide) ?_
      refine y_iadd C dL_law_619 ?_
      refine l_ld C X (l_in hL hi hx3 1 (by decide) rfl) dL_law_620 ?_
      refine y_callV (ix := 0) (wr := z_w layM nM am cy gm) (w0 := fun cy => z_w (layX false) (nX false) ad cy (gz gx)) (As := [.int (xs (x3 + 1).toNatClampNeg)]) (a := ad 0) (ci := 10) (fs := z_fs ad (gz gx) 0 [(2, 1), (2, 4), (2, 9), (2, 11), (2, 13), (2, 19), (2, 23), (2, 26), (2, 42), (2, 43), (2, 45), (3, 0)]) [] C zc_L_86 rfl rfl rfl ⟨by decide, by decide⟩ (Nat.le_of_ble_eq_true rfl) ⟨(Nat.le_of_ble_eq_true rfl), (Nat.le_of_ble_eq_true rfl)⟩ dL_law_621 rfl rfl (kY_43 ad (xs (x3 + 1).toNatClampNeg) (gz gx) r gx' (gz_gz gx) hc1 hc2 f1) ?_
      rintro rv w ⟨ad', had, rfl, rfl⟩
      show y_W F (lwC true) (lwS true) 624 [(0, .ref b), (1, .ref (ad 0)), (2, .ref (am 0)), (3, .int x3)] [.int r] (z_w layM nM am cy gm ++ z_w (layX true) (nX true) ad' cy gx')
      refine y_aload_n C dL_law_624 rfl 2 rfl ?_
      refine y_aload_n C dL_law_625 rfl 0 rfl ?_
      refine y_iload_n C dL_law_626 rfl 3 rfl ?_
      refine y_iconst (v := 1) C dL_law_627 (by decide) ?_
      refine y_iadd C dL_law_628 ?_
      refine l_ld C X (l_in hL hi hx3 1 (by decide) rfl) dL_law_629 ?_
      refine y_callZ (wr := z_w (layX true) (nX true) ad' cy gx') (ad := am) (o := 0) (As := [.int (xs (x3 + 1).toNatClampNeg)]) [.int r] C zc_L_89 zk_M rfl ⟨by decide, by decide⟩ (Nat.le_of_ble_eq_true rfl) (lw_rm true) dL_law_630 rfl rfl (wX11_key am (xs (x3 + 1).toNatClampNeg) gm r gm' f2) ?_
      show y_W F _ _ _ _ [.int r, .int r] _
      refine y_icmp_eq 883 C dL_law_633 (by decide) (fun _ => ?_) (fun hc => absurd rfl hc)
      exact K true ad' A' gx' gm' (had 0 (by decide)) hA' hX' hM' hC'
  · obtain ⟨r, gx', gm', A', f1, f2, hA', hX', hM', hC'⟩ := (op_key (xs (x3 + 1).toNatClampNeg)) A gx gm hA hX hM hC
    refine y_aload_n C dL_law_615 rfl 1 rfl ?_
    refine y_aload_n C dL_law_616 rfl 0 rfl ?_
    refine y_iload_n C dL_law_617 rfl 3 rfl ?_
    refine y_iconst (v := 1) C dL_law_618 (by decide) ?_
    refine y_iadd C dL_law_619 ?_
    refine l_ld C X (l_in hL hi hx3 1 (by decide) rfl) dL_law_620 ?_
    refine y_callZ (wr := z_w layM nM am cy gm) (ad := ad) (o := 0) (As := [.int (xs (x3 + 1).toNatClampNeg)]) [] C zc_L_86 (zk_X_0 true) rfl ⟨by decide, by decide⟩ (Nat.le_of_ble_eq_true rfl) (lw_rm true) dL_law_621 rfl rfl (wX10_key ad (xs (x3 + 1).toNatClampNeg) gx r gx' f1) ?_
    refine y_aload_n C dL_law_624 rfl 2 rfl ?_
    refine y_aload_n C dL_law_625 rfl 0 rfl ?_
    refine y_iload_n C dL_law_626 rfl 3 rfl ?_
    refine y_iconst (v := 1) C dL_law_627 (by decide) ?_
    refine y_iadd C dL_law_628 ?_
    refine l_ld C X (l_in hL hi hx3 1 (by decide) rfl) dL_law_629 ?_
    refine y_callZ (wr := z_w (layX true) (nX true) ad cy gx') (ad := am) (o := 0) (As := [.int (xs (x3 + 1).toNatClampNeg)]) [.int r] C zc_L_89 zk_M rfl ⟨by decide, by decide⟩ (Nat.le_of_ble_eq_true rfl) (lw_rm true) dL_law_630 rfl rfl (wX11_key am (xs (x3 + 1).toNatClampNeg) gm r gm' f2) ?_
    show y_W F _ _ _ _ [.int r, .int r] _
    refine y_icmp_eq 883 C dL_law_633 (by decide) (fun _ => ?_) (fun hc => absurd rfl hc)
    exact K true ad A' gx' gm' rfl hA' hX' hM' hC'
set_option maxRecDepth 100000 in
set_option maxHeartbeats 4000000 in
theorem lc_17 {F : z_F} {b L i : Nat} {xs : Nat → Int32} {cy : Nat → ClassId} {kn : Bool} {ad am : Nat → Nat} {A : aS} {gx gm : z_S} {x3 : Int32} (hL : L ≤ 2048) (C : y_X F cL_law RL 4 ret room_1 cy) (X : l_X F b L xs) (hi : i + 4 ≤ L) (hx3 : x3 = nI i) (hA : I_ok A) (hX : R_X A gx) (hM : R_M A gm) (hC : CI A gx) (K : l_K F b cy ad am x3) : y_W F (lwC kn) (lwS kn) 638 [(0, .ref b), (1, .ref (ad 0)), (2, .ref (am 0)), (3, .int x3)] [] (z_w (layX kn) (nX kn) ad cy gx ++ z_w layM nM am cy gm) := by
  cases kn
  · rw [← gz_w]
    obtain ⟨r, gx', gm', A', f1, f2, hA', hX', hM', hC'⟩ := (op_strange (xs (x3 + 1).toNatClampNeg)) A (gz gx) gm hA (gz_X hA hX) hM (gz_C hC)
    by_cases hno : (gz gx).1 4 0 = 0 ∨ ¬ (gz gx).1 45 1 = 0
    · refine y_aload_n C dL_law_638 rfl 1 rfl ?_
      refine y_aload_n C dL_law_639 rfl 0 rfl ?_
      refine y_iload_n C dL_law_640 rfl 3 rfl ?_
      refine y_iconst (v := 1) C dL_law_641 (by decide) ?_
      refine y_iadd C dL_law_642 ?_
      refine l_ld C X (l_in hL hi hx3 1 (by decide) rfl) dL_law_643 ?_
      refine y_callZ (wr := z_w layM nM am cy gm) (ad := ad) (o := 0) (As := [.int (xs (x3 + 1).toNatClampNeg)]) [] C zc_L_90 (zk_X_0 false) rfl ⟨by decide, by decide⟩ (Nat.le_of_ble_eq_true rfl) (lw_rm false) dL_law_644 rfl rfl (nX10_strange ad (xs (x3 + 1).toNatClampNeg) (gz gx) r gx' hno f1) ?_
      refine y_aload_n C dL_law_647 rfl 2 rfl ?_
      refine y_aload_n C dL_law_648 rfl 0 rfl ?_
      refine y_iload_n C dL_law_649 rfl 3 rfl ?_
      refine y_iconst (v := 1) C dL_law_650 (by decide) ?_
      refine y_iadd C dL_law_651 ?_
      refine l_ld C X (l_in hL hi hx3 1 (by decide) rfl) dL_law_652 ?_
      refine y_callZ (wr := z_w (layX false) (nX false) ad cy gx') (ad := am) (o := 0) (As := [.int (xs (x3 + 1).toNatClampNeg)]) [.int r] C zc_L_93 zk_M rfl ⟨by decide, by decide⟩ (Nat.le_of_ble_eq_true rfl) (lw_rm false) dL_law_653 rfl rfl (wX11_strange am (xs (x3 + 1).toNatClampNeg) gm r gm' f2) ?_
      show y_W F _ _ _ _ [.int r, .int r] _
      refine y_icmp_eq 883 C dL_law_656 (by decide) (fun _ => ?_) (fun hc => absurd rfl hc)
      exact K false ad A' gx' gm' rfl hA' hX' hM' hC'
    · have hc1 : ¬ (gz gx).1 4 0 = 0 := fun q => hno (Or.inl q)
      have hc2 : (gz gx).1 45 1 = 0 := Decidable.byContradiction (fun q => hno (Or.inr q))
      refine y_aload_n C dL_law_638 rfl 1 rfl ?_
      refine y_aload_n C dL_law_639 rfl 0 rfl ?_
      refine y_iload_n C dL_law_640 rfl 3 rfl ?_
      refine y_iconst (v := 1) C dL_law_641 (by decide) ?_
      refine y_iadd C dL_law_642 ?_
      refine l_ld C X (l_in hL hi hx3 1 (by decide) rfl) dL_law_643 ?_
      refine y_callV (ix := 0) (wr := z_w layM nM am cy gm) (w0 := fun cy => z_w (layX false) (nX false) ad cy (gz gx)) (As := [.int (xs (x3 + 1).toNatClampNeg)]) (a := ad 0) (ci := 10) (fs := z_fs ad (gz gx) 0 [(2, 1), (2, 4), (2, 9), (2, 11), (2, 13), (2, 19), (2, 23), (2, 26), (2, 42), (2, 43), (2, 45), (3, 0)]) [] C zc_L_90 rfl rfl rfl ⟨by decide, by decide⟩ (Nat.le_of_ble_eq_true rfl) ⟨(Nat.le_of_ble_eq_true rfl), (Nat.le_of_ble_eq_true rfl)⟩ dL_law_644 rfl rfl (kY_45 ad (xs (x3 + 1).toNatClampNeg) (gz gx) r gx' (gz_gz gx) hc1 hc2 f1) ?_
      rintro rv w ⟨ad', had, rfl, rfl⟩
      show y_W F (lwC true) (lwS true) 647 [(0, .ref b), (1, .ref (ad 0)), (2, .ref (am 0)), (3, .int x3)] [.int r] (z_w layM nM am cy gm ++ z_w (layX true) (nX true) ad' cy gx')
      refine y_aload_n C dL_law_647 rfl 2 rfl ?_
      refine y_aload_n C dL_law_648 rfl 0 rfl ?_
      refine y_iload_n C dL_law_649 rfl 3 rfl ?_
      refine y_iconst (v := 1) C dL_law_650 (by decide) ?_
      refine y_iadd C dL_law_651 ?_
      refine l_ld C X (l_in hL hi hx3 1 (by decide) rfl) dL_law_652 ?_
      refine y_callZ (wr := z_w (layX true) (nX true) ad' cy gx') (ad := am) (o := 0) (As := [.int (xs (x3 + 1).toNatClampNeg)]) [.int r] C zc_L_93 zk_M rfl ⟨by decide, by decide⟩ (Nat.le_of_ble_eq_true rfl) (lw_rm true) dL_law_653 rfl rfl (wX11_strange am (xs (x3 + 1).toNatClampNeg) gm r gm' f2) ?_
      show y_W F _ _ _ _ [.int r, .int r] _
      refine y_icmp_eq 883 C dL_law_656 (by decide) (fun _ => ?_) (fun hc => absurd rfl hc)
      exact K true ad' A' gx' gm' (had 0 (by decide)) hA' hX' hM' hC'
  · obtain ⟨r, gx', gm', A', f1, f2, hA', hX', hM', hC'⟩ := (op_strange (xs (x3 + 1).toNatClampNeg)) A gx gm hA hX hM hC
    refine y_aload_n C dL_law_638 rfl 1 rfl ?_
    refine y_aload_n C dL_law_639 rfl 0 rfl ?_
    refine y_iload_n C dL_law_640 rfl 3 rfl ?_
    refine y_iconst (v := 1) C dL_law_641 (by decide) ?_
    refine y_iadd C dL_law_642 ?_
    refine l_ld C X (l_in hL hi hx3 1 (by decide) rfl) dL_law_643 ?_
    refine y_callZ (wr := z_w layM nM am cy gm) (ad := ad) (o := 0) (As := [.int (xs (x3 + 1).toNatClampNeg)]) [] C zc_L_90 (zk_X_0 true) rfl ⟨by decide, by decide⟩ (Nat.le_of_ble_eq_true rfl) (lw_rm true) dL_law_644 rfl rfl (wX10_strange ad (xs (x3 + 1).toNatClampNeg) gx r gx' f1) ?_
    refine y_aload_n C dL_law_647 rfl 2 rfl ?_
    refine y_aload_n C dL_law_648 rfl 0 rfl ?_
    refine y_iload_n C dL_law_649 rfl 3 rfl ?_
    refine y_iconst (v := 1) C dL_law_650 (by decide) ?_
    refine y_iadd C dL_law_651 ?_
    refine l_ld C X (l_in hL hi hx3 1 (by decide) rfl) dL_law_652 ?_
    refine y_callZ (wr := z_w (layX true) (nX true) ad cy gx') (ad := am) (o := 0) (As := [.int (xs (x3 + 1).toNatClampNeg)]) [.int r] C zc_L_93 zk_M rfl ⟨by decide, by decide⟩ (Nat.le_of_ble_eq_true rfl) (lw_rm true) dL_law_653 rfl rfl (wX11_strange am (xs (x3 + 1).toNatClampNeg) gm r gm' f2) ?_
    show y_W F _ _ _ _ [.int r, .int r] _
    refine y_icmp_eq 883 C dL_law_656 (by decide) (fun _ => ?_) (fun hc => absurd rfl hc)
    exact K true ad A' gx' gm' rfl hA' hX' hM' hC'
set_option maxRecDepth 100000 in
set_option maxHeartbeats 4000000 in
theorem lc_18 {F : z_F} {b L i : Nat} {xs : Nat → Int32} {cy : Nat → ClassId} {kn : Bool} {ad am : Nat → Nat} {A : aS} {gx gm : z_S} {x3 : Int32} (hL : L ≤ 2048) (C : y_X F cL_law RL 4 ret room_1 cy) (X : l_X F b L xs) (hi : i + 4 ≤ L) (hx3 : x3 = nI i) (hA : I_ok A) (hX : R_X A gx) (hM : R_M A gm) (hC : CI A gx) (K : l_K F b cy ad am x3) : y_W F (lwC kn) (lwS kn) 661 [(0, .ref b), (1, .ref (ad 0)), (2, .ref (am 0)), (3, .int x3)] [] (z_w (layX kn) (nX kn) ad cy gx ++ z_w layM nM am cy gm) := by
  obtain ⟨r, gx', gm', A', f1, f2, hA', hX', hM', hC'⟩ := (Op.of (o_ways (xs (x3 + 1).toNatClampNeg))) A gx gm hA hX hM hC
  refine y_aload_n C dL_law_661 rfl 1 rfl ?_
  refine y_aload_n C dL_law_662 rfl 0 rfl ?_
  refine y_iload_n C dL_law_663 rfl 3 rfl ?_
  refine y_iconst (v := 1) C dL_law_664 (by decide) ?_
  refine y_iadd C dL_law_665 ?_
  refine l_ld C X (l_in hL hi hx3 1 (by decide) rfl) dL_law_666 ?_
  refine y_callZ (wr := z_w layM nM am cy gm) (ad := ad) (o := 0) (As := [.int (xs (x3 + 1).toNatClampNeg)]) [] C zc_L_94 (zk_X_0 kn) rfl ⟨by decide, by decide⟩ (Nat.le_of_ble_eq_true rfl) (lw_rm kn) dL_law_667 rfl rfl (wX10_ways kn ad (xs (x3 + 1).toNatClampNeg) gx r gx' f1) ?_
  refine y_aload_n C dL_law_670 rfl 2 rfl ?_
  refine y_aload_n C dL_law_671 rfl 0 rfl ?_
  refine y_iload_n C dL_law_672 rfl 3 rfl ?_
  refine y_iconst (v := 1) C dL_law_673 (by decide) ?_
  refine y_iadd C dL_law_674 ?_
  refine l_ld C X (l_in hL hi hx3 1 (by decide) rfl) dL_law_675 ?_
  refine y_callZ (wr := z_w (layX kn) (nX kn) ad cy gx') (ad := am) (o := 0) (As := [.int (xs (x3 + 1).toNatClampNeg)]) [.long r] C zc_L_98 zk_M rfl ⟨by decide, by decide⟩ (Nat.le_of_ble_eq_true rfl) (lw_rm kn) dL_law_676 rfl rfl (wX11_ways am (xs (x3 + 1).toNatClampNeg) gm r gm' f2) ?_
  show y_W F _ _ _ _ [.long r, .long r] _
  refine y_lcmp_eq 883 C dL_law_679 dL_law_680 (by decide) (fun _ => ?_) (fun hc => absurd rfl hc)
  exact K kn ad A' gx' gm' rfl hA' hX' hM' hC'
set_option maxRecDepth 100000 in
set_option maxHeartbeats 4000000 in
theorem lc_19 {F : z_F} {b L i : Nat} {xs : Nat → Int32} {cy : Nat → ClassId} {kn : Bool} {ad am : Nat → Nat} {A : aS} {gx gm : z_S} {x3 : Int32} (hL : L ≤ 2048) (C : y_X F cL_law RL 4 ret room_1 cy) (X : l_X F b L xs) (hi : i + 4 ≤ L) (hx3 : x3 = nI i) (hA : I_ok A) (hX : R_X A gx) (hM : R_M A gm) (hC : CI A gx) (K : l_K F b cy ad am x3) : y_W F (lwC kn) (lwS kn) 685 [(0, .ref b), (1, .ref (ad 0)), (2, .ref (am 0)), (3, .int x3)] [] (z_w (layX kn) (nX kn) ad cy gx ++ z_w layM nM am cy gm) := by
  cases kn
  · rw [← gz_w]
    obtain ⟨r, gx', gm', A', f1, f2, hA', hX', hM', hC'⟩ := (Op.of (o_rows (xs (x3 + 1).toNatClampNeg))) A (gz gx) gm hA (gz_X hA hX) hM (gz_C hC)
    by_cases hno : (xs (x3 + 1).toNatClampNeg) < 0 ∨ ¬ (xs (x3 + 1).toNatClampNeg) ≤ 20 ∨ (gz gx).1 4 0 = 0
    · refine y_aload_n C dL_law_685 rfl 1 rfl ?_
      refine y_aload_n C dL_law_686 rfl 0 rfl ?_
      refine y_iload_n C dL_law_687 rfl 3 rfl ?_
      refine y_iconst (v := 1) C dL_law_688 (by decide) ?_
      refine y_iadd C dL_law_689 ?_
      refine l_ld C X (l_in hL hi hx3 1 (by decide) rfl) dL_law_690 ?_
      refine y_callZ (wr := z_w layM nM am cy gm) (ad := ad) (o := 0) (As := [.int (xs (x3 + 1).toNatClampNeg)]) [] C zc_L_99 (zk_X_0 false) rfl ⟨by decide, by decide⟩ (Nat.le_of_ble_eq_true rfl) (lw_rm false) dL_law_691 rfl rfl (nX10_rows ad (xs (x3 + 1).toNatClampNeg) (gz gx) r gx' hno f1) ?_
      refine y_aload_n C dL_law_694 rfl 2 rfl ?_
      refine y_aload_n C dL_law_695 rfl 0 rfl ?_
      refine y_iload_n C dL_law_696 rfl 3 rfl ?_
      refine y_iconst (v := 1) C dL_law_697 (by decide) ?_
      refine y_iadd C dL_law_698 ?_
      refine l_ld C X (l_in hL hi hx3 1 (by decide) rfl) dL_law_699 ?_
      refine y_callZ (wr := z_w (layX false) (nX false) ad cy gx') (ad := am) (o := 0) (As := [.int (xs (x3 + 1).toNatClampNeg)]) [.long r] C zc_L_102 zk_M rfl ⟨by decide, by decide⟩ (Nat.le_of_ble_eq_true rfl) (lw_rm false) dL_law_700 rfl rfl (wX11_rows am (xs (x3 + 1).toNatClampNeg) gm r gm' f2) ?_
      show y_W F _ _ _ _ [.long r, .long r] _
      refine y_lcmp_eq 883 C dL_law_703 dL_law_704 (by decide) (fun _ => ?_) (fun hc => absurd rfl hc)
      exact K false ad A' gx' gm' rfl hA' hX' hM' hC'
    · have h1 : ¬ (xs (x3 + 1).toNatClampNeg) < 0 := fun q => hno (Or.inl q)
      have h2 : (xs (x3 + 1).toNatClampNeg) ≤ 20 := Decidable.byContradiction (fun q => hno (Or.inr (Or.inl q)))
      have hc1 : ¬ (gz gx).1 4 0 = 0 := fun q => hno (Or.inr (Or.inr q))
      refine y_aload_n C dL_law_685 rfl 1 rfl ?_
      refine y_aload_n C dL_law_686 rfl 0 rfl ?_
      refine y_iload_n C dL_law_687 rfl 3 rfl ?_
      refine y_iconst (v := 1) C dL_law_688 (by decide) ?_
      refine y_iadd C dL_law_689 ?_
      refine l_ld C X (l_in hL hi hx3 1 (by decide) rfl) dL_law_690 ?_
      refine y_callV (ix := 0) (wr := z_w layM nM am cy gm) (w0 := fun cy => z_w (layX false) (nX false) ad cy (gz gx)) (As := [.int (xs (x3 + 1).toNatClampNeg)]) (a := ad 0) (ci := 10) (fs := z_fs ad (gz gx) 0 [(2, 1), (2, 4), (2, 9), (2, 11), (2, 13), (2, 19), (2, 23), (2, 26), (2, 42), (2, 43), (2, 45), (3, 0)]) [] C zc_L_99 rfl rfl rfl ⟨by decide, by decide⟩ (Nat.le_of_ble_eq_true rfl) ⟨(Nat.le_of_ble_eq_true rfl), (Nat.le_of_ble_eq_true rfl)⟩ dL_law_691 rfl rfl (rY ad (xs (x3 + 1).toNatClampNeg) (gz gx) r gx' (gz_gz gx) h1 h2 hc1 f1) ?_
      rintro rv w ⟨ad', had, rfl, rfl⟩
      show y_W F (lwC true) (lwS true) 694 [(0, .ref b), (1, .ref (ad 0)), (2, .ref (am 0)), (3, .int x3)] [.long r] (z_w layM nM am cy gm ++ z_w (layX true) (nX true) ad' cy gx')
      refine y_aload_n C dL_law_694 rfl 2 rfl ?_
      refine y_aload_n C dL_law_695 rfl 0 rfl ?_
      refine y_iload_n C dL_law_696 rfl 3 rfl ?_
      refine y_iconst (v := 1) C dL_law_697 (by decide) ?_
      refine y_iadd C dL_law_698 ?_
      refine l_ld C X (l_in hL hi hx3 1 (by decide) rfl) dL_law_699 ?_
      refine y_callZ (wr := z_w (layX true) (nX true) ad' cy gx') (ad := am) (o := 0) (As := [.int (xs (x3 + 1).toNatClampNeg)]) [.long r] C zc_L_102 zk_M rfl ⟨by decide, by decide⟩ (Nat.le_of_ble_eq_true rfl) (lw_rm true) dL_law_700 rfl rfl (wX11_rows am (xs (x3 + 1).toNatClampNeg) gm r gm' f2) ?_
      show y_W F _ _ _ _ [.long r, .long r] _
      refine y_lcmp_eq 883 C dL_law_703 dL_law_704 (by decide) (fun _ => ?_) (fun hc => absurd rfl hc)
      exact K true ad' A' gx' gm' (had 0 (by decide)) hA' hX' hM' hC'
  · obtain ⟨r, gx', gm', A', f1, f2, hA', hX', hM', hC'⟩ := (Op.of (o_rows (xs (x3 + 1).toNatClampNeg))) A gx gm hA hX hM hC
    refine y_aload_n C dL_law_685 rfl 1 rfl ?_
    refine y_aload_n C dL_law_686 rfl 0 rfl ?_
    refine y_iload_n C dL_law_687 rfl 3 rfl ?_
    refine y_iconst (v := 1) C dL_law_688 (by decide) ?_
    refine y_iadd C dL_law_689 ?_
    refine l_ld C X (l_in hL hi hx3 1 (by decide) rfl) dL_law_690 ?_
    refine y_callZ (wr := z_w layM nM am cy gm) (ad := ad) (o := 0) (As := [.int (xs (x3 + 1).toNatClampNeg)]) [] C zc_L_99 (zk_X_0 true) rfl ⟨by decide, by decide⟩ (Nat.le_of_ble_eq_true rfl) (lw_rm true) dL_law_691 rfl rfl (wX10_rows ad (xs (x3 + 1).toNatClampNeg) gx r gx' f1) ?_
    refine y_aload_n C dL_law_694 rfl 2 rfl ?_
    refine y_aload_n C dL_law_695 rfl 0 rfl ?_
    refine y_iload_n C dL_law_696 rfl 3 rfl ?_
    refine y_iconst (v := 1) C dL_law_697 (by decide) ?_
    refine y_iadd C dL_law_698 ?_
    refine l_ld C X (l_in hL hi hx3 1 (by decide) rfl) dL_law_699 ?_
    refine y_callZ (wr := z_w (layX true) (nX true) ad cy gx') (ad := am) (o := 0) (As := [.int (xs (x3 + 1).toNatClampNeg)]) [.long r] C zc_L_102 zk_M rfl ⟨by decide, by decide⟩ (Nat.le_of_ble_eq_true rfl) (lw_rm true) dL_law_700 rfl rfl (wX11_rows am (xs (x3 + 1).toNatClampNeg) gm r gm' f2) ?_
    show y_W F _ _ _ _ [.long r, .long r] _
    refine y_lcmp_eq 883 C dL_law_703 dL_law_704 (by decide) (fun _ => ?_) (fun hc => absurd rfl hc)
    exact K true ad A' gx' gm' rfl hA' hX' hM' hC'
set_option maxRecDepth 100000 in
set_option maxHeartbeats 4000000 in
theorem lc_20 {F : z_F} {b L i : Nat} {xs : Nat → Int32} {cy : Nat → ClassId} {kn : Bool} {ad am : Nat → Nat} {A : aS} {gx gm : z_S} {x3 : Int32} (hL : L ≤ 2048) (C : y_X F cL_law RL 4 ret room_1 cy) (X : l_X F b L xs) (hi : i + 4 ≤ L) (hx3 : x3 = nI i) (hA : I_ok A) (hX : R_X A gx) (hM : R_M A gm) (hC : CI A gx) (K : l_K F b cy ad am x3) : y_W F (lwC kn) (lwS kn) 709 [(0, .ref b), (1, .ref (ad 0)), (2, .ref (am 0)), (3, .int x3)] [] (z_w (layX kn) (nX kn) ad cy gx ++ z_w layM nM am cy gm) := by
  obtain ⟨r, gx', gm', A', f1, f2, hA', hX', hM', hC'⟩ := (Op.of (o_price (xs (x3 + 1).toNatClampNeg) (xs (x3 + 2).toNatClampNeg))) A gx gm hA hX hM hC
  refine y_aload_n C dL_law_709 rfl 1 rfl ?_
  refine y_aload_n C dL_law_710 rfl 0 rfl ?_
  refine y_iload_n C dL_law_711 rfl 3 rfl ?_
  refine y_iconst (v := 1) C dL_law_712 (by decide) ?_
  refine y_iadd C dL_law_713 ?_
  refine l_ld C X (l_in hL hi hx3 1 (by decide) rfl) dL_law_714 ?_
  refine y_aload_n C dL_law_715 rfl 0 rfl ?_
  refine y_iload_n C dL_law_716 rfl 3 rfl ?_
  refine y_iconst (v := 2) C dL_law_717 (by decide) ?_
  refine y_iadd C dL_law_718 ?_
  refine l_ld C X (l_in hL hi hx3 2 (by decide) rfl) dL_law_719 ?_
  refine y_callZ (wr := z_w layM nM am cy gm) (ad := ad) (o := 0) (As := [.int (xs (x3 + 1).toNatClampNeg), .int (xs (x3 + 2).toNatClampNeg)]) [] C zc_L_103 (zk_X_0 kn) rfl ⟨by decide, by decide⟩ (Nat.le_of_ble_eq_true rfl) (lw_rm kn) dL_law_720 rfl rfl (wX10_price kn ad (xs (x3 + 1).toNatClampNeg) (xs (x3 + 2).toNatClampNeg) gx r gx' f1) ?_
  refine y_aload_n C dL_law_723 rfl 2 rfl ?_
  refine y_aload_n C dL_law_724 rfl 0 rfl ?_
  refine y_iload_n C dL_law_725 rfl 3 rfl ?_
  refine y_iconst (v := 1) C dL_law_726 (by decide) ?_
  refine y_iadd C dL_law_727 ?_
  refine l_ld C X (l_in hL hi hx3 1 (by decide) rfl) dL_law_728 ?_
  refine y_aload_n C dL_law_729 rfl 0 rfl ?_
  refine y_iload_n C dL_law_730 rfl 3 rfl ?_
  refine y_iconst (v := 2) C dL_law_731 (by decide) ?_
  refine y_iadd C dL_law_732 ?_
  refine l_ld C X (l_in hL hi hx3 2 (by decide) rfl) dL_law_733 ?_
  refine y_callZ (wr := z_w (layX kn) (nX kn) ad cy gx') (ad := am) (o := 0) (As := [.int (xs (x3 + 1).toNatClampNeg), .int (xs (x3 + 2).toNatClampNeg)]) [.int r] C zc_L_106 zk_M rfl ⟨by decide, by decide⟩ (Nat.le_of_ble_eq_true rfl) (lw_rm kn) dL_law_734 rfl rfl (wX11_price am (xs (x3 + 1).toNatClampNeg) (xs (x3 + 2).toNatClampNeg) gm r gm' f2) ?_
  show y_W F _ _ _ _ [.int r, .int r] _
  refine y_icmp_eq 883 C dL_law_737 (by decide) (fun _ => ?_) (fun hc => absurd rfl hc)
  exact K kn ad A' gx' gm' rfl hA' hX' hM' hC'
set_option maxRecDepth 100000 in
set_option maxHeartbeats 4000000 in
theorem lc_21 {F : z_F} {b L i : Nat} {xs : Nat → Int32} {cy : Nat → ClassId} {kn : Bool} {ad am : Nat → Nat} {A : aS} {gx gm : z_S} {x3 : Int32} (hL : L ≤ 2048) (C : y_X F cL_law RL 4 ret room_1 cy) (X : l_X F b L xs) (hi : i + 4 ≤ L) (hx3 : x3 = nI i) (hA : I_ok A) (hX : R_X A gx) (hM : R_M A gm) (hC : CI A gx) (K : l_K F b cy ad am x3) : y_W F (lwC kn) (lwS kn) 742 [(0, .ref b), (1, .ref (ad 0)), (2, .ref (am 0)), (3, .int x3)] [] (z_w (layX kn) (nX kn) ad cy gx ++ z_w layM nM am cy gm) := by
  obtain ⟨r, gx', gm', A', f1, f2, hA', hX', hM', hC'⟩ := (Op.of (o_patched (xs (x3 + 1).toNatClampNeg))) A gx gm hA hX hM hC
  refine y_aload_n C dL_law_742 rfl 1 rfl ?_
  refine y_aload_n C dL_law_743 rfl 0 rfl ?_
  refine y_iload_n C dL_law_744 rfl 3 rfl ?_
  refine y_iconst (v := 1) C dL_law_745 (by decide) ?_
  refine y_iadd C dL_law_746 ?_
  refine l_ld C X (l_in hL hi hx3 1 (by decide) rfl) dL_law_747 ?_
  refine y_callZ (wr := z_w layM nM am cy gm) (ad := ad) (o := 0) (As := [.int (xs (x3 + 1).toNatClampNeg)]) [] C zc_L_107 (zk_X_0 kn) rfl ⟨by decide, by decide⟩ (Nat.le_of_ble_eq_true rfl) (lw_rm kn) dL_law_748 rfl rfl (wX10_patched kn ad (xs (x3 + 1).toNatClampNeg) gx r gx' f1) ?_
  refine y_aload_n C dL_law_751 rfl 2 rfl ?_
  refine y_aload_n C dL_law_752 rfl 0 rfl ?_
  refine y_iload_n C dL_law_753 rfl 3 rfl ?_
  refine y_iconst (v := 1) C dL_law_754 (by decide) ?_
  refine y_iadd C dL_law_755 ?_
  refine l_ld C X (l_in hL hi hx3 1 (by decide) rfl) dL_law_756 ?_
  refine y_callZ (wr := z_w (layX kn) (nX kn) ad cy gx') (ad := am) (o := 0) (As := [.int (xs (x3 + 1).toNatClampNeg)]) [.int r] C zc_L_110 zk_M rfl ⟨by decide, by decide⟩ (Nat.le_of_ble_eq_true rfl) (lw_rm kn) dL_law_757 rfl rfl (wX11_patched am (xs (x3 + 1).toNatClampNeg) gm r gm' f2) ?_
  show y_W F _ _ _ _ [.int r, .int r] _
  refine y_icmp_eq 883 C dL_law_760 (by decide) (fun _ => ?_) (fun hc => absurd rfl hc)
  exact K kn ad A' gx' gm' rfl hA' hX' hM' hC'
set_option maxRecDepth 100000 in
set_option maxHeartbeats 4000000 in
theorem lc_22 {F : z_F} {b L i : Nat} {xs : Nat → Int32} {cy : Nat → ClassId} {kn : Bool} {ad am : Nat → Nat} {A : aS} {gx gm : z_S} {x3 : Int32} (hL : L ≤ 2048) (C : y_X F cL_law RL 4 ret room_1 cy) (X : l_X F b L xs) (hi : i + 4 ≤ L) (hx3 : x3 = nI i) (hA : I_ok A) (hX : R_X A gx) (hM : R_M A gm) (hC : CI A gx) (K : l_K F b cy ad am x3) : y_W F (lwC kn) (lwS kn) 765 [(0, .ref b), (1, .ref (ad 0)), (2, .ref (am 0)), (3, .int x3)] [] (z_w (layX kn) (nX kn) ad cy gx ++ z_w layM nM am cy gm) := by
  obtain ⟨r, gx', gm', A', f1, f2, hA', hX', hM', hC'⟩ := (Op.of o_line) A gx gm hA hX hM hC
  refine y_aload_n C dL_law_765 rfl 1 rfl ?_
  refine y_callZ (wr := z_w layM nM am cy gm) (ad := ad) (o := 0) (As := []) [] C zc_L_111 (zk_X_0 kn) rfl ⟨by decide, by decide⟩ (Nat.le_of_ble_eq_true rfl) (lw_rm kn) dL_law_766 rfl rfl (wX10_line kn ad gx r gx' f1) ?_
  refine y_aload_n C dL_law_769 rfl 2 rfl ?_
  refine y_callZ (wr := z_w (layX kn) (nX kn) ad cy gx') (ad := am) (o := 0) (As := []) [.int r] C zc_L_114 zk_M rfl ⟨by decide, by decide⟩ (Nat.le_of_ble_eq_true rfl) (lw_rm kn) dL_law_770 rfl rfl (wX11_line am gm r gm' f2) ?_
  show y_W F _ _ _ _ [.int r, .int r] _
  refine y_icmp_eq 883 C dL_law_773 (by decide) (fun _ => ?_) (fun hc => absurd rfl hc)
  exact K kn ad A' gx' gm' rfl hA' hX' hM' hC'
set_option maxRecDepth 100000 in
set_option maxHeartbeats 4000000 in
theorem lc_23 {F : z_F} {b L i : Nat} {xs : Nat → Int32} {cy : Nat → ClassId} {kn : Bool} {ad am : Nat → Nat} {A : aS} {gx gm : z_S} {x3 : Int32} (hL : L ≤ 2048) (C : y_X F cL_law RL 4 ret room_1 cy) (X : l_X F b L xs) (hi : i + 4 ≤ L) (hx3 : x3 = nI i) (hA : I_ok A) (hX : R_X A gx) (hM : R_M A gm) (hC : CI A gx) (K : l_K F b cy ad am x3) : y_W F (lwC kn) (lwS kn) 778 [(0, .ref b), (1, .ref (ad 0)), (2, .ref (am 0)), (3, .int x3)] [] (z_w (layX kn) (nX kn) ad cy gx ++ z_w layM nM am cy gm) := by
  obtain ⟨r, gx', gm', A', f1, f2, hA', hX', hM', hC'⟩ := (Op.of o_drop) A gx gm hA hX hM hC
  refine y_aload_n C dL_law_778 rfl 1 rfl ?_
  refine y_callZ (wr := z_w layM nM am cy gm) (ad := ad) (o := 0) (As := []) [] C zc_L_115 (zk_X_0 kn) rfl ⟨by decide, by decide⟩ (Nat.le_of_ble_eq_true rfl) (lw_rm kn) dL_law_779 rfl rfl (wX10_drop kn ad gx r gx' f1) ?_
  refine y_aload_n C dL_law_782 rfl 2 rfl ?_
  refine y_callZ (wr := z_w (layX kn) (nX kn) ad cy gx') (ad := am) (o := 0) (As := []) [.int r] C zc_L_118 zk_M rfl ⟨by decide, by decide⟩ (Nat.le_of_ble_eq_true rfl) (lw_rm kn) dL_law_783 rfl rfl (wX11_drop am gm r gm' f2) ?_
  show y_W F _ _ _ _ [.int r, .int r] _
  refine y_icmp_eq 883 C dL_law_786 (by decide) (fun _ => ?_) (fun hc => absurd rfl hc)
  exact K kn ad A' gx' gm' rfl hA' hX' hM' hC'
set_option maxRecDepth 100000 in
set_option maxHeartbeats 4000000 in
theorem lc_24 {F : z_F} {b L i : Nat} {xs : Nat → Int32} {cy : Nat → ClassId} {kn : Bool} {ad am : Nat → Nat} {A : aS} {gx gm : z_S} {x3 : Int32} (hL : L ≤ 2048) (C : y_X F cL_law RL 4 ret room_1 cy) (X : l_X F b L xs) (hi : i + 4 ≤ L) (hx3 : x3 = nI i) (hA : I_ok A) (hX : R_X A gx) (hM : R_M A gm) (hC : CI A gx) (K : l_K F b cy ad am x3) : y_W F (lwC kn) (lwS kn) 791 [(0, .ref b), (1, .ref (ad 0)), (2, .ref (am 0)), (3, .int x3)] [] (z_w (layX kn) (nX kn) ad cy gx ++ z_w layM nM am cy gm) := by
  obtain ⟨r, gx', gm', A', f1, f2, hA', hX', hM', hC'⟩ := (Op.of o_totals) A gx gm hA hX hM hC
  refine y_aload_n C dL_law_791 rfl 1 rfl ?_
  refine y_callZ (wr := z_w layM nM am cy gm) (ad := ad) (o := 0) (As := []) [] C zc_L_119 (zk_X_0 kn) rfl ⟨by decide, by decide⟩ (Nat.le_of_ble_eq_true rfl) (lw_rm kn) dL_law_792 rfl rfl (wX10_totals kn ad gx r gx' f1) ?_
  refine y_aload_n C dL_law_795 rfl 2 rfl ?_
  refine y_callZ (wr := z_w (layX kn) (nX kn) ad cy gx') (ad := am) (o := 0) (As := []) [.int r] C zc_L_122 zk_M rfl ⟨by decide, by decide⟩ (Nat.le_of_ble_eq_true rfl) (lw_rm kn) dL_law_796 rfl rfl (wX11_totals am gm r gm' f2) ?_
  show y_W F _ _ _ _ [.int r, .int r] _
  refine y_icmp_eq 883 C dL_law_799 (by decide) (fun _ => ?_) (fun hc => absurd rfl hc)
  exact K kn ad A' gx' gm' rfl hA' hX' hM' hC'
set_option maxRecDepth 100000 in
set_option maxHeartbeats 4000000 in
theorem lc_25 {F : z_F} {b L i : Nat} {xs : Nat → Int32} {cy : Nat → ClassId} {kn : Bool} {ad am : Nat → Nat} {A : aS} {gx gm : z_S} {x3 : Int32} (hL : L ≤ 2048) (C : y_X F cL_law RL 4 ret room_1 cy) (X : l_X F b L xs) (hi : i + 4 ≤ L) (hx3 : x3 = nI i) (hA : I_ok A) (hX : R_X A gx) (hM : R_M A gm) (hC : CI A gx) (K : l_K F b cy ad am x3) : y_W F (lwC kn) (lwS kn) 804 [(0, .ref b), (1, .ref (ad 0)), (2, .ref (am 0)), (3, .int x3)] [] (z_w (layX kn) (nX kn) ad cy gx ++ z_w layM nM am cy gm) := by
  obtain ⟨r, gx', gm', A', f1, f2, hA', hX', hM', hC'⟩ := (Op.of (o_uses (xs (x3 + 1).toNatClampNeg))) A gx gm hA hX hM hC
  refine y_aload_n C dL_law_804 rfl 1 rfl ?_
  refine y_aload_n C dL_law_805 rfl 0 rfl ?_
  refine y_iload_n C dL_law_806 rfl 3 rfl ?_
  refine y_iconst (v := 1) C dL_law_807 (by decide) ?_
  refine y_iadd C dL_law_808 ?_
  refine l_ld C X (l_in hL hi hx3 1 (by decide) rfl) dL_law_809 ?_
  refine y_callZ (wr := z_w layM nM am cy gm) (ad := ad) (o := 0) (As := [.int (xs (x3 + 1).toNatClampNeg)]) [] C zc_L_123 (zk_X_0 kn) rfl ⟨by decide, by decide⟩ (Nat.le_of_ble_eq_true rfl) (lw_rm kn) dL_law_810 rfl rfl (wX10_uses kn ad (xs (x3 + 1).toNatClampNeg) gx r gx' f1) ?_
  refine y_aload_n C dL_law_813 rfl 2 rfl ?_
  refine y_aload_n C dL_law_814 rfl 0 rfl ?_
  refine y_iload_n C dL_law_815 rfl 3 rfl ?_
  refine y_iconst (v := 1) C dL_law_816 (by decide) ?_
  refine y_iadd C dL_law_817 ?_
  refine l_ld C X (l_in hL hi hx3 1 (by decide) rfl) dL_law_818 ?_
  refine y_callZ (wr := z_w (layX kn) (nX kn) ad cy gx') (ad := am) (o := 0) (As := [.int (xs (x3 + 1).toNatClampNeg)]) [.int r] C zc_L_126 zk_M rfl ⟨by decide, by decide⟩ (Nat.le_of_ble_eq_true rfl) (lw_rm kn) dL_law_819 rfl rfl (wX11_uses am (xs (x3 + 1).toNatClampNeg) gm r gm' f2) ?_
  show y_W F _ _ _ _ [.int r, .int r] _
  refine y_icmp_eq 883 C dL_law_822 (by decide) (fun _ => ?_) (fun hc => absurd rfl hc)
  exact K kn ad A' gx' gm' rfl hA' hX' hM' hC'
set_option maxRecDepth 100000 in
set_option maxHeartbeats 4000000 in
theorem lc_26 {F : z_F} {b L i : Nat} {xs : Nat → Int32} {cy : Nat → ClassId} {kn : Bool} {ad am : Nat → Nat} {A : aS} {gx gm : z_S} {x3 : Int32} (hL : L ≤ 2048) (C : y_X F cL_law RL 4 ret room_1 cy) (X : l_X F b L xs) (hi : i + 4 ≤ L) (hx3 : x3 = nI i) (hA : I_ok A) (hX : R_X A gx) (hM : R_M A gm) (hC : CI A gx) (K : l_K F b cy ad am x3) : y_W F (lwC kn) (lwS kn) 827 [(0, .ref b), (1, .ref (ad 0)), (2, .ref (am 0)), (3, .int x3)] [] (z_w (layX kn) (nX kn) ad cy gx ++ z_w layM nM am cy gm) := by
  obtain ⟨r, gx', gm', A', f1, f2, hA', hX', hM', hC'⟩ := (Op.of (o_learn (xs (x3 + 1).toNatClampNeg))) A gx gm hA hX hM hC
  refine y_aload_n C dL_law_827 rfl 1 rfl ?_
  refine y_aload_n C dL_law_828 rfl 0 rfl ?_
  refine y_iload_n C dL_law_829 rfl 3 rfl ?_
  refine y_iconst (v := 1) C dL_law_830 (by decide) ?_
  refine y_iadd C dL_law_831 ?_
  refine l_ld C X (l_in hL hi hx3 1 (by decide) rfl) dL_law_832 ?_
  refine y_callZ (wr := z_w layM nM am cy gm) (ad := ad) (o := 0) (As := [.int (xs (x3 + 1).toNatClampNeg)]) [] C zc_L_127 (zk_X_0 kn) rfl ⟨by decide, by decide⟩ (Nat.le_of_ble_eq_true rfl) (lw_rm kn) dL_law_833 rfl rfl (wX10_learn kn ad (xs (x3 + 1).toNatClampNeg) gx r gx' f1) ?_
  refine y_aload_n C dL_law_836 rfl 2 rfl ?_
  refine y_aload_n C dL_law_837 rfl 0 rfl ?_
  refine y_iload_n C dL_law_838 rfl 3 rfl ?_
  refine y_iconst (v := 1) C dL_law_839 (by decide) ?_
  refine y_iadd C dL_law_840 ?_
  refine l_ld C X (l_in hL hi hx3 1 (by decide) rfl) dL_law_841 ?_
  refine y_callZ (wr := z_w (layX kn) (nX kn) ad cy gx') (ad := am) (o := 0) (As := [.int (xs (x3 + 1).toNatClampNeg)]) [.int r] C zc_L_130 zk_M rfl ⟨by decide, by decide⟩ (Nat.le_of_ble_eq_true rfl) (lw_rm kn) dL_law_842 rfl rfl (wX11_learn am (xs (x3 + 1).toNatClampNeg) gm r gm' f2) ?_
  show y_W F _ _ _ _ [.int r, .int r] _
  refine y_icmp_eq 883 C dL_law_845 (by decide) (fun _ => ?_) (fun hc => absurd rfl hc)
  exact K kn ad A' gx' gm' rfl hA' hX' hM' hC'
set_option maxRecDepth 100000 in
set_option maxHeartbeats 4000000 in
theorem lc_27 {F : z_F} {b L i : Nat} {xs : Nat → Int32} {cy : Nat → ClassId} {kn : Bool} {ad am : Nat → Nat} {A : aS} {gx gm : z_S} {x3 : Int32} (hL : L ≤ 2048) (C : y_X F cL_law RL 4 ret room_1 cy) (X : l_X F b L xs) (hi : i + 4 ≤ L) (hx3 : x3 = nI i) (hA : I_ok A) (hX : R_X A gx) (hM : R_M A gm) (hC : CI A gx) (K : l_K F b cy ad am x3) : y_W F (lwC kn) (lwS kn) 850 [(0, .ref b), (1, .ref (ad 0)), (2, .ref (am 0)), (3, .int x3)] [] (z_w (layX kn) (nX kn) ad cy gx ++ z_w layM nM am cy gm) := by
  obtain ⟨r, gx', gm', A', f1, f2, hA', hX', hM', hC'⟩ := (op_fresh (xs (x3 + 1).toNatClampNeg) (xs (x3 + 2).toNatClampNeg)) A gx gm hA hX hM hC
  refine y_aload_n C dL_law_850 rfl 1 rfl ?_
  refine y_aload_n C dL_law_851 rfl 0 rfl ?_
  refine y_iload_n C dL_law_852 rfl 3 rfl ?_
  refine y_iconst (v := 1) C dL_law_853 (by decide) ?_
  refine y_iadd C dL_law_854 ?_
  refine l_ld C X (l_in hL hi hx3 1 (by decide) rfl) dL_law_855 ?_
  refine y_aload_n C dL_law_856 rfl 0 rfl ?_
  refine y_iload_n C dL_law_857 rfl 3 rfl ?_
  refine y_iconst (v := 2) C dL_law_858 (by decide) ?_
  refine y_iadd C dL_law_859 ?_
  refine l_ld C X (l_in hL hi hx3 2 (by decide) rfl) dL_law_860 ?_
  refine y_callZ (wr := z_w layM nM am cy gm) (ad := ad) (o := 0) (As := [.int (xs (x3 + 1).toNatClampNeg), .int (xs (x3 + 2).toNatClampNeg)]) [] C zc_L_131 (zk_X_0 kn) rfl ⟨by decide, by decide⟩ (Nat.le_of_ble_eq_true rfl) (lw_rm kn) dL_law_861 rfl rfl (wX10_fresh kn ad (xs (x3 + 1).toNatClampNeg) (xs (x3 + 2).toNatClampNeg) gx r gx' f1) ?_
  refine y_aload_n C dL_law_864 rfl 2 rfl ?_
  refine y_aload_n C dL_law_865 rfl 0 rfl ?_
  refine y_iload_n C dL_law_866 rfl 3 rfl ?_
  refine y_iconst (v := 1) C dL_law_867 (by decide) ?_
  refine y_iadd C dL_law_868 ?_
  refine l_ld C X (l_in hL hi hx3 1 (by decide) rfl) dL_law_869 ?_
  refine y_aload_n C dL_law_870 rfl 0 rfl ?_
  refine y_iload_n C dL_law_871 rfl 3 rfl ?_
  refine y_iconst (v := 2) C dL_law_872 (by decide) ?_
  refine y_iadd C dL_law_873 ?_
  refine l_ld C X (l_in hL hi hx3 2 (by decide) rfl) dL_law_874 ?_
  refine y_callZ (wr := z_w (layX kn) (nX kn) ad cy gx') (ad := am) (o := 0) (As := [.int (xs (x3 + 1).toNatClampNeg), .int (xs (x3 + 2).toNatClampNeg)]) [.int r] C zc_L_134 zk_M rfl ⟨by decide, by decide⟩ (Nat.le_of_ble_eq_true rfl) (lw_rm kn) dL_law_875 rfl rfl (wX11_fresh am (xs (x3 + 1).toNatClampNeg) (xs (x3 + 2).toNatClampNeg) gm r gm' f2) ?_
  show y_W F _ _ _ _ [.int r, .int r] _
  refine y_icmp_eq 883 C dL_law_878 (by decide) (fun _ => ?_) (fun hc => absurd rfl hc)
  exact K kn ad A' gx' gm' rfl hA' hX' hM' hC'

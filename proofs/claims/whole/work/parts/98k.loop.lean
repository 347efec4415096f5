set_option maxRecDepth 100000 in
set_option maxHeartbeats 4000000 in
theorem law_loop {F : z_F} {b L : Nat} {xs : Nat → Int32} {cy : Nat → ClassId} (hL : L ≤ 2048) (C : y_X F cL_law RL 4 ret room_1 cy) (X : l_X F b L xs) : ∀ (n i : Nat) (kn : Bool) (ad am : Nat → Nat) (A : aS) (gx gm : z_S) (x3 : Int32), i ≤ L → L + 1 ≤ i + n → x3 = nI i → I_ok A → R_X A gx → R_M A gm → CI A gx → y_W F (lwC kn) (lwS kn) 18 [(0, .ref b), (1, .ref (ad 0)), (2, .ref (am 0)), (3, .int x3)] [] (z_w (layX kn) (nX kn) ad cy gx ++ z_w layM nM am cy gm) := by
  intro n
  induction n with
  | zero =>
    intro i kn ad am A gx gm x3 h1 h2
    exact absurd h2 (by omega)
  | succ n ih =>
    intro i kn ad am A gx gm x3 h1 h2 hx3 hA hX hM hC
    refine y_iload_n C dL_law_18 rfl 3 rfl ?_
    refine y_aload_n C dL_law_19 rfl 0 rfl ?_
    refine l_len C X dL_law_20 ?_
    refine y_iconst (v := 4) C dL_law_21 (by decide) ?_
    refine y_isub C dL_law_22 ?_
    refine y_icmp_gt 889 C dL_law_23 (by decide) (fun hc => ?_) (fun hc => ?_)
    · refine y_iconst (v := 1) C dL_law_889 (by decide) ?_
      exact l_ret C X (by cases kn <;> decide) (by cases kn <;> decide) dL_law_890
    · have hi : i + 4 ≤ L := l_more hL h1 hx3 hc
      have K : l_K F b cy ad am x3 := by
        intro kn' ad' A' gx' gm' h0 a1 a2 a3 a4
        refine y_iinc (v := nI (i + 4)) C dL_law_883 (by decide) 3 rfl (by rw [hx3]; exact p_add i 4) [(3, .int (nI (i + 4))), (0, .ref b), (1, .ref (ad 0)), (2, .ref (am 0))] rfl ?_
        refine y_goto 18 C dL_law_886 (by decide) ?_
        refine y_loc (lv' := [(0, .ref b), (1, .ref (ad 0)), (2, .ref (am 0)), (3, .int (nI (i + 4)))]) [1, 2, 3, 0] rfl ?_
        rw [← h0]
        exact ih (i + 4) kn' ad' am A' gx' gm' _ hi (by omega) rfl a1 a2 a3 a4
      refine y_aload_n C dL_law_26 rfl 0 rfl ?_
      refine y_iload_n C dL_law_27 rfl 3 rfl ?_
      refine l_ld C X (l_in0 hL hi hx3) dL_law_28 ?_
      refine y_bipush (v := 31) C dL_law_29 (by decide) ?_
      refine y_iand C dL_law_31 ?_
      rcases l_cases (xs x3.toNatClampNeg &&& 31) with h | h | h | h | h | h | h | h | h | h | h | h | h | h | h | h | h | h | h | h | h | h | h | h | h | h | h | h | h
      · exact y_tabIn 0 160 C dL_law_32 h (by decide) (by decide) rfl (by decide) (lc_0 hL C X hi hx3 hA hX hM hC K)
      · exact y_tabIn 1 183 C dL_law_32 h (by decide) (by decide) rfl (by decide) (lc_1 hL C X hi hx3 hA hX hM hC K)
      · exact y_tabIn 2 246 C dL_law_32 h (by decide) (by decide) rfl (by decide) (lc_2 hL C X hi hx3 hA hX hM hC K)
      · exact y_tabIn 3 259 C dL_law_32 h (by decide) (by decide) rfl (by decide) (lc_3 hL C X hi hx3 hA hX hM hC K)
      · exact y_tabIn 4 272 C dL_law_32 h (by decide) (by decide) rfl (by decide) (lc_4 hL C X hi hx3 hA hX hM hC K)
      · exact y_tabIn 5 305 C dL_law_32 h (by decide) (by decide) rfl (by decide) (lc_5 hL C X hi hx3 hA hX hM hC K)
      · exact y_tabIn 6 364 C dL_law_32 h (by decide) (by decide) rfl (by decide) (lc_6 hL C X hi hx3 hA hX hM hC K)
      · exact y_tabIn 7 387 C dL_law_32 h (by decide) (by decide) rfl (by decide) (lc_7 hL C X hi hx3 hA hX hM hC K)
      · exact y_tabIn 8 410 C dL_law_32 h (by decide) (by decide) rfl (by decide) (lc_8 hL C X hi hx3 hA hX hM hC K)
      · exact y_tabIn 9 433 C dL_law_32 h (by decide) (by decide) rfl (by decide) (lc_9 hL C X hi hx3 hA hX hM hC K)
      · exact y_tabIn 10 446 C dL_law_32 h (by decide) (by decide) rfl (by decide) (lc_10 hL C X hi hx3 hA hX hM hC K)
      · exact y_tabIn 11 460 C dL_law_32 h (by decide) (by decide) rfl (by decide) (lc_11 hL C X hi hx3 hA hX hM hC K)
      · exact y_tabIn 12 523 C dL_law_32 h (by decide) (by decide) rfl (by decide) (lc_12 hL C X hi hx3 hA hX hM hC K)
      · exact y_tabIn 13 546 C dL_law_32 h (by decide) (by decide) rfl (by decide) (lc_13 hL C X hi hx3 hA hX hM hC K)
      · exact y_tabIn 14 569 C dL_law_32 h (by decide) (by decide) rfl (by decide) (lc_14 hL C X hi hx3 hA hX hM hC K)
      · exact y_tabIn 15 592 C dL_law_32 h (by decide) (by decide) rfl (by decide) (lc_15 hL C X hi hx3 hA hX hM hC K)
      · exact y_tabIn 16 615 C dL_law_32 h (by decide) (by decide) rfl (by decide) (lc_16 hL C X hi hx3 hA hX hM hC K)
      · exact y_tabIn 17 638 C dL_law_32 h (by decide) (by decide) rfl (by decide) (lc_17 hL C X hi hx3 hA hX hM hC K)
      · exact y_tabIn 18 661 C dL_law_32 h (by decide) (by decide) rfl (by decide) (lc_18 hL C X hi hx3 hA hX hM hC K)
      · exact y_tabIn 19 685 C dL_law_32 h (by decide) (by decide) rfl (by decide) (lc_19 hL C X hi hx3 hA hX hM hC K)
      · exact y_tabIn 20 709 C dL_law_32 h (by decide) (by decide) rfl (by decide) (lc_20 hL C X hi hx3 hA hX hM hC K)
      · exact y_tabIn 21 742 C dL_law_32 h (by decide) (by decide) rfl (by decide) (lc_21 hL C X hi hx3 hA hX hM hC K)
      · exact y_tabIn 22 765 C dL_law_32 h (by decide) (by decide) rfl (by decide) (lc_22 hL C X hi hx3 hA hX hM hC K)
      · exact y_tabIn 23 778 C dL_law_32 h (by decide) (by decide) rfl (by decide) (lc_23 hL C X hi hx3 hA hX hM hC K)
      · exact y_tabIn 24 791 C dL_law_32 h (by decide) (by decide) rfl (by decide) (lc_24 hL C X hi hx3 hA hX hM hC K)
      · exact y_tabIn 25 804 C dL_law_32 h (by decide) (by decide) rfl (by decide) (lc_25 hL C X hi hx3 hA hX hM hC K)
      · exact y_tabIn 26 827 C dL_law_32 h (by decide) (by decide) rfl (by decide) (lc_26 hL C X hi hx3 hA hX hM hC K)
      · exact y_tabIn 27 850 C dL_law_32 h (by decide) (by decide) rfl (by decide) (lc_27 hL C X hi hx3 hA hX hM hC K)
      · exact y_tabOut 883 C dL_law_32 h (by decide) (K kn ad A gx gm rfl hA hX hM hC)

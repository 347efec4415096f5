/-! reading -/
theorem MS.put8 {A : aS} {b p : Nat} {pv : Int32} {g0 g : z_S} (h : MS A b p pv g0 g) (v : Int64) : MS A b p pv (z_wl g0 19 8 v) (z_wl g 19 8 v) := by
  refine ⟨h.1, ?_, h.2.2.1, h.2.2.2.1, h.2.2.2.2.1, ?_⟩
  · intro o ho
    funext k
    rw [p_wl, p_wl, h.2.1 o ho]
  · intro y c h1 h2
    have := h.2.2.2.2.2 y c h1 h2
    exact ⟨this.1, by rw [p_Loff (by decide)]; exact this.2⟩
theorem x_word {A : aS} (hA : I_ok A) {gs g : z_S} (hX : R_X A gs) (hm : MS A 0 0 (-1) gs g) {left J : Nat} (hJ : J < 2147483648) (hleft : left ≤ 1000000000000000) (hl : left < cN A 0 4) : wp (z_loop fX5_wordOfLeast_B27 zN (nI J, 0, 4, 0) (z_wl g 19 8 (lN left))) (fun q => q.1 = rdw A 49 J 0 4 left ∧ q.2.1 = g.1) := by
  have hn := hA.1.2.2.1
  have hd := hA.1.2.2.2.1
  refine wp_loop (P := fun s g' => ∃ (n x a l : Nat), n ≤ J + 1 ∧ n ≤ x ∧ x ≤ A 0 2 ∧ a ≤ 4 ∧ l ≤ 1000000000000000 ∧ s = (nI J, nI x, nI a, nI n) ∧ g' = z_wl g 19 8 (lN l) ∧ (n ≤ J → rdw A 49 J 0 4 left = rdw A (49 - n) (J - n) x a l ∧ (x < A 0 2 → l < cN A x a)) ∧ (n = J + 1 → False)) (μ := fun s _ => 49 - s.2.2.2.toNatClampNeg) ?_ zN _ _ ⟨0, 0, 4, left, by omega, by omega, by omega, by omega, hleft, rfl, rfl, fun _ => ⟨rfl, fun _ => hl⟩, fun h => by omega⟩ (by show 49 - _ < zN; rw [p_zN]; omega)
  rintro rc s g' ⟨n, x, a, l, hnJ, hnx, hx, ha, hll, rfl, rfl, hr, hne⟩ ih
  have hnJ' : n ≤ J := by
    rcases Nat.lt_or_ge J n with h | h
    · exact absurd (show n = J + 1 by omega) hne
    · exact h
  obtain ⟨hr1, hr2⟩ := hr hnJ'
  have hX' : R_X A (z_wl g 19 8 (lN l)) := (hm.rx hA hX).lg rfl
  simp only [fX5_wordOfLeast_B27]
  rw [hX'.1.2.2.1]
  try simp (disch := omega) only [p_g, p_b, p_s, p_gin, p_gblt, p_eqL, p_leL, p_Lle, p_ltL, p_Llt, p_addL, p_subL, p_mulL, p_LmulL, p_eq, p_le, p_lt, p_add, p_sub, p_mul, p_clamp, if_pos, if_neg]
  obtain ⟨f, hf⟩ : ∃ f, 49 - n = f + 1 := ⟨48 - n, by omega⟩
  rw [hf] at hr1
  by_cases hxe : A 0 2 ≤ x
  · rw [if_pos hxe]
    refine wp_some ⟨?_, rfl⟩
    rw [hr1, rdw, if_pos hxe]
  · rw [if_neg hxe]
    have hxl : x < A 0 2 := by omega
    have hok := sel_ok hA hxl (hr2 hxl)
    have hm' := hm.put8 (lN l)
    apply wp_b
    refine wp_mono (x_choose hA (gs := z_wl gs 19 8 (lN l)) (hX.lg rfl) hm' hxl ha hll p_Lat (hr2 hxl)) ?_
    rintro ⟨r, g2⟩ ⟨h1, h2, h3⟩
    simp only [] at h1 h2 h3 ⊢
    rw [hr1, rdw, if_neg hxe]
    generalize hw : (selw (c0 A x a) (A 0 1) 0 l).1 = w at *
    generalize hl2 : (selw (c0 A x a) (A 0 1) 0 l).2 = l2 at *
    subst h1
    obtain ⟨w1, w2, w3, w4, -⟩ := hA.2.1 w hok.1
    have hst := hok.2.2.1.2.1
    rw [if_neg (by rw [show (-1 : Int32) = -1 from rfl]; intro q; have := congrArg Int32.toInt q; rw [p_toInt (by omega)] at this; have e : (-1 : Int32).toInt = -1 := rfl; omega)]
    try simp (disch := omega) only [p_g, p_b, p_s, p_gin, p_gblt, p_eqL, p_leL, p_Lle, p_ltL, p_Llt, p_addL, p_subL, p_mulL, p_LmulL, p_eq, p_le, p_lt, p_add, p_sub, p_mul, p_clamp, if_pos, if_neg]
    have hg2 : g2.1 = g.1 := by rw [h2]; rfl
    by_cases hnj : n = J
    · rw [if_pos hnj, if_pos (by omega)]
      exact wp_some ⟨rfl, hg2⟩
    · rw [if_neg hnj, if_neg (by omega)]
      rw [hg2, ((hm.rx hA hX).2.1 w hok.1).1, ((hm.rx hA hX).2.1 w hok.1).2.2.1]
      try simp (disch := omega) only [p_g, p_b, p_s, p_gin, p_gblt, p_eqL, p_leL, p_Lle, p_ltL, p_Llt, p_addL, p_subL, p_mulL, p_LmulL, p_eq, p_le, p_lt, p_add, p_sub, p_mul, p_clamp, if_pos, if_neg]
      have hnext : rdw A 49 J 0 4 left = rdw A (49 - (n + 1)) (J - (n + 1)) (x + A 1 w) (A 3 w) l2 := by
        rw [hr1, rdw, if_neg hxe, if_neg (by omega), hw, hl2]
        congr 1 <;> omega
      rw [show rdw A f (J - n - 1) (x + A 1 w) (A 3 w) l2 = rdw A 49 J 0 4 left by rw [hnext]; congr 1 <;> omega]
      refine ih _ _ ⟨n + 1, x + A 1 w, A 3 w, l2, by omega, by omega, hst, by omega, by omega, rfl, ?_, fun _ => ⟨hnext, fun _ => hok.2.2.2⟩, fun h => by omega⟩ ?_
      · rw [h2, h3]
        apply Prod.ext
        · rfl
        · funext o k
          rw [p_wl, p_wl, p_wl]
          split <;> rfl
      · show _ - (nI (_ + 1)).toNatClampNeg < _ - (nI _).toNatClampNeg
        rw [p_clamp (by omega), p_clamp (by omega)]
        omega
theorem m_read1 {A : aS} (hA : I_ok A) {gs g : z_S} (hM : R_M A gs) (hm : MR A gs g) {x a left : Nat} {jv nv : Int32} (hx : x < A 0 2) (ha : a ≤ 4) (hleft : left ≤ 1000000000000000) (hl : left < cN A x a) (k : Int32 → Int64 → Int32 → Int32 → Int32 → z_S → Option (Int32 × z_S)) : z_loop (fX11_reading_B67 k) zN (jv, lN left, nI x, nI a, nv, -1, 0) g = k jv (lN (selw (c0 A x a) (A 0 1) 0 left).2) (nI x) nv (nI (selw (c0 A x a) (A 0 1) 0 left).1) g := by
  have hn := hA.1.2.2.1
  have hd := hA.1.2.2.2.1
  have hM' := hm.rm hM
  have hok := sel_ok hA hx hl
  refine p_loop (P := fun s g' => g' = g ∧ ((∃ (w l : Nat), w ≤ A 0 1 ∧ s = (jv, lN l, nI x, nI a, nv, -1, nI w) ∧ l ≤ left ∧ selw (c0 A x a) (A 0 1 - w) w l = selw (c0 A x a) (A 0 1) 0 left ∧ l < sm (fun i => c0 A x a (w + i)) (A 0 1 - w)) ∨ (∃ w, w ≤ A 0 1 ∧ s = (jv, lN (selw (c0 A x a) (A 0 1) 0 left).2, nI x, nI a, nv, nI (selw (c0 A x a) (A 0 1) 0 left).1, nI w)))) (μ := fun s _ => A 0 1 - s.2.2.2.2.2.2.toNatClampNeg) ?_ zN _ _ ⟨rfl, Or.inl ⟨0, left, by omega, rfl, Nat.le_refl _, rfl, ?_⟩⟩ (by show A 0 1 - _ < zN; rw [p_zN]; omega)
  · rintro rc s g' ⟨rfl, h⟩ ih
    rcases h with ⟨w, l, hw, rfl, hll, hsel, hls⟩ | ⟨w, hw, rfl⟩
    · simp only [fX11_reading_B67]
      rw [hM'.1.2.1]
      try simp (disch := omega) only [p_g, p_b, p_s, p_gin, p_gblt, p_eqL, p_leL, p_Lle, p_ltL, p_Llt, p_addL, p_subL, p_mulL, p_LmulL, p_eq, p_le, p_lt, p_add, p_sub, p_mul, p_clamp, if_pos, if_neg]
      by_cases hlt : A 0 1 ≤ w
      · exfalso
        rw [show A 0 1 - w = 0 by omega] at hls
        simp [sm] at hls
      · have hw' : w < A 0 1 := by omega
        obtain ⟨m, hmm⟩ : ∃ m, A 0 1 - w = m + 1 := ⟨A 0 1 - w - 1, by omega⟩
        rw [if_neg hlt, if_neg (by decide), m_may hA hM' ha hw', p_b]
        have hdec : A 0 1 - (nI (w + 1)).toNatClampNeg < A 0 1 - (nI w).toNatClampNeg := by
          rw [p_clamp (by omega), p_clamp (by omega)]
          omega
        have hs : ∀ n, sm (fun i => c0 A x a (w + i)) (n + 1) = c0 A x a w + sm (fun i => c0 A x a (w + 1 + i)) n := by
          intro n
          induction n with
          | zero => simp [sm]
          | succ n ih =>
            rw [sm, ih, sm]
            have : w + (n + 1) = w + 1 + n := by omega
            rw [this]; omega
        rw [hmm, hs] at hls
        rw [hmm, selw] at hsel
        have hm2 : A 0 1 - (w + 1) = m := by omega
        have skip : c0 A x a w = 0 → rc (jv, lN l, nI x, nI a, nv, -1, nI (w + 1)) g' = k jv (lN (selw (c0 A x a) (A 0 1) 0 left).2) (nI x) nv (nI (selw (c0 A x a) (A 0 1) 0 left).1) g' := by
          intro hc0
          rw [hc0, if_neg (by omega), Nat.sub_zero] at hsel
          exact ih _ _ ⟨rfl, Or.inl ⟨w + 1, l, by omega, rfl, hll, by rw [hm2]; exact hsel, by rw [hm2]; omega⟩⟩ hdec
        have nok : ¬ rok A a w x → c0 A x a w = 0 := by
          intro h
          unfold c0 gw
          rw [cit_f h]
        by_cases hmay : may A a w
        · rw [if_neg (fun q => (p_cieq.mp q) hmay), m_stands hA hM' (by omega) hw', p_b]
          by_cases hst : stR (A 7) (A 0 2) A x w
          · have hs1 := hst.1
            obtain ⟨w1, w2, w3, w4, -⟩ := hA.2.1 w hw'
            rw [if_neg (fun q => (p_cieq.mp q) hst), (hM'.2.1 w hw').1, (hM'.2.1 w hw').2.2.1]
            try simp (disch := omega) only [p_g, p_b, p_s, p_gin, p_gblt, p_eqL, p_leL, p_Lle, p_ltL, p_Llt, p_addL, p_subL, p_mulL, p_LmulL, p_eq, p_le, p_lt, p_add, p_sub, p_mul, p_clamp, if_pos, if_neg]
            rw [m_cell, p_b]
            try simp (disch := omega) only [p_g, p_b, p_s, p_gin, p_gblt, p_eqL, p_leL, p_Lle, p_ltL, p_Llt, p_addL, p_subL, p_mulL, p_LmulL, p_eq, p_le, p_lt, p_add, p_sub, p_mul, p_clamp, if_pos, if_neg]
            have hc : c0 A x a w = cN A (x + A 1 w) (A 3 w) := by
              unfold c0 cN gw
              rw [cit_t ⟨hmay, hst⟩]
              cases GG A (wX A 0 0) (x + A 1 w) (A 3 w) <;> rfl
            have hmany : g'.2 15 (5 * (x + A 1 w) + A 3 w) = lN (min 2000000000000000 (c0 A x a w)) := by
              rw [(hm.2.2 (x + A 1 w) (A 3 w) hs1 (by omega)).1, hc]
              unfold cN
              cases GG A (wX A 0 0) (x + A 1 w) (A 3 w) <;> rfl
            rw [hmany]
            by_cases hlq : l < c0 A x a w
            · rw [if_neg (by rw [p_JLe (by omega) (by omega)]; omega)]
              rw [if_pos hlq] at hsel
              refine ih _ _ ⟨rfl, Or.inr ⟨w + 1, by omega, ?_⟩⟩ hdec
              rw [← hsel]
            · rw [if_pos (by rw [p_JLe (by omega) (by omega)]; omega), p_Lsub (by omega)]
              rw [if_neg hlq] at hsel
              refine ih _ _ ⟨rfl, Or.inl ⟨w + 1, l - c0 A x a w, by omega, ?_, by omega, by rw [hm2]; exact hsel, by rw [hm2]; omega⟩⟩ hdec
              rw [show min 2000000000000000 (c0 A x a w) = c0 A x a w by omega]
          · rw [if_pos (p_cieq.mpr hst)]
            try simp (disch := omega) only [p_g, p_b, p_s, p_gin, p_gblt, p_eqL, p_leL, p_Lle, p_ltL, p_Llt, p_addL, p_subL, p_mulL, p_LmulL, p_eq, p_le, p_lt, p_add, p_sub, p_mul, p_clamp, if_pos, if_neg]
            exact skip (nok (fun h => hst h.2))
        · rw [if_pos (p_cieq.mpr hmay)]
          try simp (disch := omega) only [p_g, p_b, p_s, p_gin, p_gblt, p_eqL, p_leL, p_Lle, p_ltL, p_Llt, p_addL, p_subL, p_mulL, p_LmulL, p_eq, p_le, p_lt, p_add, p_sub, p_mul, p_clamp, if_pos, if_neg]
          exact skip (nok (fun h => hmay h.1))
    · simp only [fX11_reading_B67]
      rw [if_pos (p_pos (by omega))]
      split <;> rfl
  · rw [cN_step hA hx] at hl
    rw [Nat.sub_zero, sm_congr (h := c0 A x a) _ (fun i _ => by rw [Nat.zero_add])]
    exact hl
theorem m_word {A : aS} (hA : I_ok A) {gs g : z_S} (hM : R_M A gs) (hm : MR A gs g) {left J : Nat} (hJ : J < 2147483648) (hleft : left ≤ 1000000000000000) (hl : left < cN A 0 4) : z_loop fX11_reading_B52 zN (nI J, lN left, 0, 4, 0) g = some (rdw A 49 J 0 4 left, g) := by
  have hn := hA.1.2.2.1
  have hd := hA.1.2.2.2.1
  have hM' := hm.rm hM
  refine p_loop (P := fun s g' => ∃ (n x a l : Nat), n ≤ J ∧ n ≤ x ∧ x ≤ A 0 2 ∧ a ≤ 4 ∧ l ≤ 1000000000000000 ∧ s = (nI J, lN l, nI x, nI a, nI n) ∧ g' = g ∧ rdw A 49 J 0 4 left = rdw A (49 - n) (J - n) x a l ∧ (x < A 0 2 → l < cN A x a)) (μ := fun s _ => 49 - s.2.2.2.2.toNatClampNeg) ?_ zN _ _ ⟨0, 0, 4, left, by omega, by omega, by omega, by omega, hleft, rfl, rfl, rfl, fun _ => hl⟩ (by show 49 - _ < zN; rw [p_zN]; omega)
  rintro rc s g' ⟨n, x, a, l, hnJ, hnx, hx, ha, hll, rfl, rfl, hr1, hr2⟩ ih
  simp only [fX11_reading_B52]
  rw [hM'.1.2.2.1]
  try simp (disch := omega) only [p_g, p_b, p_s, p_gin, p_gblt, p_eqL, p_leL, p_Lle, p_ltL, p_Llt, p_addL, p_subL, p_mulL, p_LmulL, p_eq, p_le, p_lt, p_add, p_sub, p_mul, p_clamp, if_pos, if_neg]
  obtain ⟨f, hf⟩ : ∃ f, 49 - n = f + 1 := ⟨48 - n, by omega⟩
  rw [hf] at hr1
  by_cases hxe : A 0 2 ≤ x
  · rw [if_pos hxe, hr1, rdw, if_pos hxe]
  · rw [if_neg hxe]
    have hxl : x < A 0 2 := by omega
    have hok := sel_ok hA hxl (hr2 hxl)
    rw [m_read1 hA hM hm hxl ha hll (hr2 hxl)]
    have hr1' := hr1
    rw [hr1, rdw, if_neg hxe]
    generalize hw : (selw (c0 A x a) (A 0 1) 0 l).1 = w at *
    generalize hl2 : (selw (c0 A x a) (A 0 1) 0 l).2 = l2 at *
    obtain ⟨w1, w2, w3, w4, -⟩ := hA.2.1 w hok.1
    have hst := hok.2.2.1.2.1
    try simp (disch := omega) only [p_g, p_b, p_s, p_gin, p_gblt, p_eqL, p_leL, p_Lle, p_ltL, p_Llt, p_addL, p_subL, p_mulL, p_LmulL, p_eq, p_le, p_lt, p_add, p_sub, p_mul, p_clamp, if_pos, if_neg]
    by_cases hnj : n = J
    · rw [if_pos hnj, if_pos (by omega)]
    · rw [if_neg hnj, if_neg (by omega)]
      rw [(hM'.2.1 w hok.1).1, (hM'.2.1 w hok.1).2.2.1]
      try simp (disch := omega) only [p_g, p_b, p_s, p_gin, p_gblt, p_eqL, p_leL, p_Lle, p_ltL, p_Llt, p_addL, p_subL, p_mulL, p_LmulL, p_eq, p_le, p_lt, p_add, p_sub, p_mul, p_clamp, if_pos, if_neg]
      have hnext : rdw A 49 J 0 4 left = rdw A (49 - (n + 1)) (J - (n + 1)) (x + A 1 w) (A 3 w) l2 := by
        rw [hr1', rdw, if_neg hxe, if_neg (by omega), hw, hl2]
        congr 1 <;> omega
      rw [show rdw A f (J - n - 1) (x + A 1 w) (A 3 w) l2 = rdw A 49 J 0 4 left by rw [hnext]; congr 1 <;> omega]
      refine ih _ _ ⟨n + 1, x + A 1 w, A 3 w, l2, by omega, by omega, hst, by omega, by omega, rfl, rfl, hnext, fun _ => hok.2.2.2⟩ ?_
      show _ - (nI (_ + 1)).toNatClampNeg < _ - (nI _).toNatClampNeg
      rw [p_clamp (by omega), p_clamp (by omega)]
      omega
theorem o_reading (i : Int64) (j : Int32) : Op0 (fX10_reading i j) (fX11_reading i j) := by
  refine op_wp (fun A gx gm hA hX hM => ?_)
  unfold fX10_reading fX11_reading
  rw [m_in, p_b]
  by_cases h : (0 : Int64) ≤ i ∧ i ≤ 1000000000000000
  · rw [if_pos h, if_neg n10]
    rcases p_Lcases i with hneg | ⟨left, hleft0, rfl⟩
    · exfalso
      have h1 := h.1
      rw [Int64.le_iff_toInt_le] at h1
      rw [Int64.lt_iff_toInt_lt] at hneg
      omega
    · have hleft : left ≤ 1000000000000000 := (p_Lge hleft0 (by omega)).mp h.2
      rw [if_neg (show ¬ lN left < 0 by rw [show (0 : Int64) = lN 0 from rfl, p_JLt (by omega) (by omega)]; omega), if_pos h.2]
      have hcn : ∀ g1, MS A 0 0 (-1) gx g1 → g1.2 22 4 = lN (min 1000000000000001 (cN A 0 4)) := by
        intro g1 h1
        rw [show g1.2 22 4 = eC 1000000000000001 (GG A (wX A 0 0) 0 4) from (h1.2.2.2.2.2 0 4 (by omega) (by omega)).2]
        unfold cN
        cases GG A (wX A 0 0) 0 4 <;> rfl
      have hcm : ∀ g1, MR A gm g1 → g1.2 15 (5 * 0 + 4) = lN (min 2000000000000000 (cN A 0 4)) := by
        intro g1 h1
        rw [(h1.2.2 0 4 (by omega) (by omega)).1]
        unfold cN
        cases GG A (wX A 0 0) 0 4 <;> rfl
      refine ⟨if left < cN A 0 4 ∧ 0 ≤ j.toInt then rdw A 49 j.toNatClampNeg 0 4 left else -1, A, hA, ?_, ?_⟩
      · apply wp_b
        refine wp_mono (x_measure hA hX (b := 0) (p := 0) (pv := -1) (by omega) (by omega) (fun h => by omega)) ?_
        rintro ⟨u, g1⟩ h1
        have h1' : MS A 0 0 (-1) gx g1 := h1
        simp only []
        apply wp_b
        unfold fX5_wordOfLeast
        rw [p_gi (show z_in 4 245 = true by decide), show (4 : Int32).toNatClampNeg = 4 from rfl, hcn g1 h1']
        by_cases hl : left < cN A 0 4
        · rw [if_pos (by rw [p_JLt (by omega) (by omega)]; omega), p_s]
          rcases p_cases j with hj | ⟨J, hJ, rfl⟩
          · rw [p_step]
            simp only [fX5_wordOfLeast_B27]
            rw [if_pos hj]
            refine wp_some (wp_some ⟨?_, (h1'.rx hA hX).lg rfl, ?_⟩)
            · rw [if_neg (fun q => by rw [Int32.lt_iff_toInt_lt, t_0] at hj; omega)]
            · refine Cs.ag (fun o ho => ?_)
              show g1.1 o = _
              exact h1'.1 o (by omega) (by omega) (by omega)
          · refine wp_mono (x_word hA hX h1' hJ hleft hl) ?_
            rintro ⟨r, g2⟩ ⟨q1, q2⟩
            simp only [] at q1 q2 ⊢
            refine wp_some ⟨?_, (h1'.rx hA hX).lg q2, ?_⟩
            · rw [if_pos ⟨hl, by rw [p_toInt hJ]; omega⟩, p_clamp hJ]; exact q1
            · refine Cs.ag (fun o ho => ?_)
              show g2.1 o = _
              rw [q2]
              exact h1'.1 o (by omega) (by omega) (by omega)
        · rw [if_neg (by rw [p_JLt (by omega) (by omega)]; omega)]
          refine wp_some (wp_some ⟨?_, h1'.rx hA hX, h1'.cs⟩)
          rw [if_neg (fun q => hl q.1)]
      · apply wp_b
        refine wp_mono (m_find hA hM) ?_
        rintro ⟨u, g1⟩ h1
        have h1' : MR A gm g1 := h1
        simp only []
        rw [show fX11_cell 0 4 g1 = some (nI (5 * 0 + 4), g1) from m_cell (x := 0) (a := 4), p_b, p_gin (by omega) (by omega), p_clamp (by omega), hcm g1 h1']
        by_cases hl : left < cN A 0 4
        · rw [if_neg (by rw [p_JLe (by omega) (by omega)]; omega)]
          rcases p_cases j with hj | ⟨J, hJ, rfl⟩
          · rw [if_neg (by rw [Int32.lt_iff_toInt_lt, t_0] at hj; rw [Int32.le_iff_toInt_le, t_0]; omega)]
            refine wp_some ⟨?_, h1'.rm hM⟩
            rw [if_neg (fun q => by rw [Int32.lt_iff_toInt_lt, t_0] at hj; omega)]
          · rw [if_pos (p_pos hJ), m_word hA hM h1' hJ hleft hl]
            refine wp_some ⟨?_, h1'.rm hM⟩
            rw [if_pos ⟨hl, by rw [p_toInt hJ]; omega⟩, p_clamp hJ]
        · rw [if_pos (by rw [p_JLe (by omega) (by omega)]; omega)]
          refine wp_some ⟨?_, h1'.rm hM⟩
          rw [if_neg (fun q => hl q.1)]
  · rw [if_neg h, if_pos rfl]
    refine ⟨-1002, A, hA, ?_, wp_some ⟨rfl, hM⟩⟩
    by_cases h1 : i < 0
    · rw [if_pos h1]; exact wp_some ⟨rfl, hX, Cs.rf⟩
    · rw [if_neg h1, if_neg]
      · exact wp_some ⟨rfl, hX, Cs.rf⟩
      · intro h2
        refine h ⟨?_, h2⟩
        rw [Int64.lt_iff_toInt_lt] at h1
        rw [Int64.le_iff_toInt_le]
        omega

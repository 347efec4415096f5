/-! line: the draft becomes a line -/
def lpush (A : aS) : aS := fun c j => if c = 0 ∧ j = 3 then A 0 3 + 1 else if c = 0 ∧ j = 2 then 0 else if c = 8 ∧ j = A 0 3 then A 0 2 else if c = 9 ∧ 24 * A 0 3 ≤ j ∧ j < 24 * A 0 3 + A 0 2 then A 7 (j - 24 * A 0 3) else A c j
theorem lpush_3 {A : aS} : lpush A 0 3 = A 0 3 + 1 := by simp [lpush]
theorem lpush_2 {A : aS} : lpush A 0 2 = 0 := by simp [lpush]
theorem lpush_0 {A : aS} {j : Nat} (h : j ≠ 2) (h3 : j ≠ 3) : lpush A 0 j = A 0 j := by simp [lpush, h, h3]
theorem lpush_o {A : aS} {c : Nat} (h : c ≠ 0) (h8 : c ≠ 8) (h9 : c ≠ 9) : lpush A c = A c := by
  funext j
  simp [lpush, h, h8, h9]
theorem lpush_8 {A : aS} {j : Nat} : lpush A 8 j = if j = A 0 3 then A 0 2 else A 8 j := by simp [lpush]
theorem lpush_9n {A : aS} {x : Nat} (h : x < A 0 2) : lpush A 9 (24 * A 0 3 + x) = A 7 x := by
  simp [lpush, h]
theorem lpush_9o {A : aS} {j : Nat} (h : j < 24 * A 0 3) : lpush A 9 j = A 9 j := by
  simp only [lpush]
  rw [if_neg (by omega), if_neg (by omega), if_neg (by omega), if_neg (by omega)]
theorem I_lpush {A : aS} (hA : I_ok A) (h1 : 1 ≤ A 0 2) (h2 : A 0 2 ≤ 24) (h3 : A 0 3 < 4) : I_ok (lpush A) := by
  obtain ⟨⟨a1, a2, a3, a4, a5, a6, a7⟩, aB, aC, aD, aE, aF, aG, aH⟩ := hA
  refine ⟨⟨?_, ?_, ?_, ?_, ?_, ?_, ?_⟩, ?_, ?_, ?_, ?_, ?_, ?_, ?_⟩ <;> (try simp (disch := omega) only [lpush_3, lpush_2, lpush_0, lpush_o]) <;> (try assumption) <;> (try omega)
  intro l hl
  rw [lpush_8]
  by_cases h : l = A 0 3
  · subst h
    rw [if_pos rfl]
    refine ⟨h1, h2, fun x hx => ?_⟩
    rw [lpush_9n hx]
    exact aE x hx
  · rw [if_neg h]
    obtain ⟨b1, b2, b3⟩ := aF l (by omega)
    refine ⟨b1, b2, fun x hx => ?_⟩
    rw [lpush_9o (by omega)]
    exact b3 x hx
theorem o_line : Op0 fX10_line fX11_line := by
  refine op_wp (fun A gx gm hA hX hM => ?_)
  have hd : A 0 2 ≤ 48 := hA.1.2.2.2.1
  have hl : A 0 3 ≤ 4 := hA.1.2.2.2.2.1
  unfold fX10_line fX11_line
  rw [hX.1.2.2.1, hM.1.2.2.1, hX.1.2.2.2.1]
  by_cases h : 1 ≤ A 0 2 ∧ A 0 2 ≤ 24
  · rw [m_yes (b := 1) (c := 24) (x := nI (A 0 2)) (by rw [p_toInt (by omega)]; exact ⟨by have : (1 : Int64).toInt = 1 := rfl; omega, by have : (24 : Int64).toInt = 24 := rfl; omega⟩), p_b, if_neg n10, hM.1.2.2.2.1]
    obtain ⟨h1, h2⟩ := h
    simp (disch := omega) only [p_g, p_b, p_s, p_gin, p_gblt, p_eqL, p_leL, p_Lle, p_ltL, p_Llt, p_addL, p_subL, p_mulL, p_LmulL, p_eq, p_le, p_lt, p_add, p_sub, p_mul, p_clamp, if_pos, if_neg]
    by_cases h4 : A 0 3 = 4
    · rw [if_neg (by omega), if_pos h4]
      exact ⟨-1004, A, hA, wp_some ⟨rfl, hX, Cs.rf⟩, wp_some ⟨rfl, hM⟩⟩
    · have h3 : A 0 3 < 4 := by omega
      rw [if_pos h3, if_neg h4]
      refine ⟨nI (A 0 3 + 1), lpush A, I_lpush hA h1 h2 h3, ?_, ?_⟩
      · apply wp_b
        unfold fX2_take_11
        rw [hX.1.2.2.2.1]
        simp (disch := omega) only [p_g, p_b, p_s, p_gin, p_gblt, p_eqL, p_leL, p_Lle, p_ltL, p_Llt, p_addL, p_subL, p_mulL, p_LmulL, p_eq, p_le, p_lt, p_add, p_sub, p_mul, p_clamp, if_pos, if_neg]
        refine wp_loop (P := fun a g => ∃ x, x ≤ A 0 2 ∧ a = (A 0 3, nI x) ∧ g.1 (34 + 2 * A 0 3) 1 = nI x ∧ (∀ y, y < x → g.1 (35 + 2 * A 0 3) y = nI (A 7 y)) ∧ ∀ o, o ≠ 34 + 2 * A 0 3 → o ≠ 35 + 2 * A 0 3 → g.1 o = gx.1 o) (μ := fun a _ => A 0 2 - a.2.toNatClampNeg) ?_ zN _ _ ⟨0, by omega, rfl, by rw [p_at]; rfl, fun y hy => by omega, fun o ho _ => by rw [p_off ho]⟩ (by show A 0 2 - _ < zN; rw [p_zN]; omega)
        rintro rc a g ⟨x, hx, rfl, e1, e2, e3⟩ ih
        simp only [fX2_take_11_B26]
        rw [e3 11 (by omega) (by omega), e3 12 (by omega) (by omega), hX.1.2.2.1]
        simp (disch := omega) only [p_g, p_b, p_s, p_gin, p_gblt, p_eqL, p_leL, p_Lle, p_ltL, p_Llt, p_addL, p_subL, p_mulL, p_LmulL, p_eq, p_le, p_lt, p_add, p_sub, p_mul, p_clamp, if_pos, if_neg]
        by_cases hlt : A 0 2 ≤ x
        · have : x = A 0 2 := by omega
          subst this
          rw [if_pos hlt, e3 26 (by omega) (by omega), hX.1.2.2.2.1, p_addL]
          refine wp_some ?_
          simp only []
          rw [show fX10_forgetFound (z_wi (z_wi g 26 0 (nI (A 0 3 + 1))) 11 1 0) = some ((), z_wi (z_wi (z_wi (z_wi (z_wi g 26 0 (nI (A 0 3 + 1))) 11 1 0) 43 1 0) 45 1 0) 26 3 (-1)) from rfl]
          refine wp_some ⟨?_, ?_, Or.inl ⟨?_, ?_, ?_⟩⟩
          · simp (disch := omega) only [p_off, p_on, p_at]
          · obtain ⟨⟨x1, x2, x3, x4, x5, x6⟩, xB, xC, xD, xE, xF, xG, xH, xI, xJ⟩ := hX
            refine ⟨⟨?_, ?_, ?_, ?_, ?_, ?_⟩, ?_, ?_, ?_, ?_, ?_, ?_, ?_, ?_, ?_⟩ <;> (try simp (disch := omega) only [lpush_3, lpush_2, lpush_0, lpush_o, p_off, p_on, p_at]) <;> (try simp (disch := omega) only [e3]) <;> (try assumption) <;> (try rfl)
            · intro i hi; omega
            · intro l hl
              have hl4 : l < 4 := by omega
              simp (disch := omega) only [p_off]
              rw [lpush_8]
              by_cases hll : l = A 0 3
              · subst hll
                rw [if_pos rfl]
                refine ⟨e1, fun y hy => ?_⟩
                rw [lpush_9n hy]
                exact e2 y hy
              · rw [if_neg hll, e3 _ (by omega) (by omega), e3 _ (by omega) (by omega)]
                have q := xF l (by omega)
                refine ⟨q.1, fun y hy => ?_⟩
                have := (hA.2.2.2.2.2.1 l (by omega)).2.1
                rw [lpush_9o (by omega)]
                exact q.2 y hy
          · simp (disch := omega) only [p_off, p_on, p_at]
          · simp (disch := omega) only [p_off, p_on, p_at]
          · simp (disch := omega) only [p_off, p_on, p_at]
        · rw [if_neg hlt, hX.2.2.2.2.1 x (by omega)]
          unfold fX6_put_h
          rw [e1]
          simp (disch := omega) only [p_g, p_b, p_s, p_gin, p_gblt, p_eqL, p_leL, p_Lle, p_ltL, p_Llt, p_addL, p_subL, p_mulL, p_LmulL, p_eq, p_le, p_lt, p_add, p_sub, p_mul, p_clamp, if_pos, if_neg]
          rw [p_off (by omega), e1, p_addL]
          refine ih _ _ ⟨x + 1, by omega, rfl, ?_, ?_, ?_⟩ ?_
          · rw [p_at]
          · intro y hy
            rw [p_off (by omega), p_wi]
            by_cases hyx : y = x
            · subst hyx; simp
            · rw [if_neg (by omega)]
              exact e2 y (by omega)
          · intro o h1 h2
            rw [p_off h1, p_off h2]
            exact e3 o h1 h2
          · show A 0 2 - (nI (x + 1)).toNatClampNeg < A 0 2 - (nI x).toNatClampNeg
            rw [p_clamp (by omega), p_clamp (by omega)]
            omega
      · refine wp_loop (P := fun a g => ∃ x, x ≤ A 0 2 ∧ a = nI x ∧ (∀ y, y < x → g.1 8 (24 * A 0 3 + y) = nI (A 7 y)) ∧ (∀ j, j < 24 * A 0 3 → g.1 8 j = gm.1 8 j) ∧ ∀ o, o ≠ 8 → g.1 o = gm.1 o) (μ := fun a _ => A 0 2 - a.toNatClampNeg) ?_ zN _ _ ⟨0, by omega, rfl, fun y hy => by omega, fun _ _ => rfl, fun o ho => rfl⟩ (by show A 0 2 - _ < zN; rw [p_zN]; omega)
        rintro rc a g ⟨x, hx, rfl, e1, e2, e3⟩ ih
        simp only [fX11_line_B33]
        rw [e3 0 (by omega), e3 7 (by omega), hM.1.2.2.1, hM.1.2.2.2.1]
        simp (disch := omega) only [p_g, p_b, p_s, p_gin, p_gblt, p_eqL, p_leL, p_Lle, p_ltL, p_Llt, p_addL, p_subL, p_mulL, p_LmulL, p_eq, p_le, p_lt, p_add, p_sub, p_mul, p_clamp, if_pos, if_neg]
        by_cases hlt : A 0 2 ≤ x
        · have : x = A 0 2 := by omega
          subst this
          rw [if_pos hlt]
          simp (disch := omega) only [p_off, p_on, p_at]
          rw [e3 0 (by omega), hM.1.2.2.2.1, p_addL]
          refine wp_some ⟨rfl, ?_⟩
          obtain ⟨⟨m1, m2, m3, m4, m5, m6⟩, mB, mC, mD, mE, mF, mG⟩ := hM
          refine ⟨⟨?_, ?_, ?_, ?_, ?_, ?_⟩, ?_, ?_, ?_, ?_, ?_, ?_⟩ <;> (try simp (disch := omega) only [lpush_3, lpush_2, lpush_0, lpush_o, p_off, p_on, p_at]) <;> (try simp (disch := omega) only [e3]) <;> (try assumption) <;> (try rfl)
          · intro i hi; omega
          · intro l hl
            rw [lpush_8, p_wi]
            by_cases hll : l = A 0 3
            · subst hll
              rw [if_pos rfl, if_pos ⟨rfl, rfl⟩]
              refine ⟨rfl, fun y hy => ?_⟩
              rw [lpush_9n hy]
              exact e1 y hy
            · rw [if_neg hll, if_neg (by omega)]
              have q := mF l (by omega)
              refine ⟨by rw [e3 9 (by omega)]; exact q.1, fun y hy => ?_⟩
              have := (hA.2.2.2.2.2.1 l (by omega)).2.1
              rw [lpush_9o (by omega), e2 _ (by omega)]
              exact q.2 y hy
        · rw [if_neg hlt, hM.2.2.2.2.1 x (by omega)]
          refine ih _ _ ⟨x + 1, by omega, rfl, ?_, ?_, ?_⟩ ?_
          · intro y hy
            rw [p_wi]
            by_cases hyx : y = x
            · subst hyx; simp
            · rw [if_neg (by omega)]
              exact e1 y (by omega)
          · intro j hj
            rw [p_on (by omega)]
            exact e2 j hj
          · intro o h1
            rw [p_off h1]
            exact e3 o h1
          · show A 0 2 - (nI (x + 1)).toNatClampNeg < A 0 2 - (nI x).toNatClampNeg
            rw [p_clamp (by omega), p_clamp (by omega)]
            omega
  · rw [m_no (b := 1) (c := 24) (x := nI (A 0 2)) (by rw [p_toInt (by omega)]; intro q; have e1 : (1 : Int64).toInt = 1 := rfl; have e2 : (24 : Int64).toInt = 24 := rfl; omega)]
    refine ⟨-1002, A, hA, ?_, wp_some ⟨rfl, hM⟩⟩
    simp (disch := omega) only [p_g, p_b, p_s, p_gin, p_gblt, p_eqL, p_leL, p_Lle, p_ltL, p_Llt, p_addL, p_subL, p_mulL, p_LmulL, p_eq, p_le, p_lt, p_add, p_sub, p_mul, p_clamp, if_pos, if_neg]
    by_cases h1 : A 0 2 < 1
    · rw [if_pos h1]; exact wp_some ⟨rfl, hX, Cs.rf⟩
    · rw [if_neg h1]; exact wp_some ⟨rfl, hX, Cs.rf⟩

/-! cheapest -/
theorem gf_min {f : Nat → Option (Int × Nat)} : ∀ n p, gf f n = some p → (∃ w q, w < n ∧ f w = some q ∧ q.1 = p.1) ∧ ∀ w q, w < n → f w = some q → p.1 ≤ q.1
  | 0, p, h => by cases h
  | n + 1, p, h => by
    rw [gf] at h
    cases hg : gf f n with
    | none =>
      rw [hg] at h
      have hnone : ∀ m, m ≤ n → gf f m = none → ∀ w, w < m → f w = none := by
        intro m
        induction m with
        | zero => intro _ _ w hw; omega
        | succ m ih =>
          intro hm he w hw
          rw [gf] at he
          have e1 : gf f m = none := by
            cases hgm : gf f m with
            | none => rfl
            | some q =>
              rw [hgm] at he
              cases hfm : f m with
              | none => rw [hfm] at he; cases he
              | some r =>
                rw [hfm] at he
                simp only [gadd] at he
                split at he
                · cases he
                · split at he <;> cases he
          have e2 : f m = none := by
            rw [e1] at he
            cases hfm : f m with
            | none => rfl
            | some r => rw [hfm] at he; cases he
          by_cases hwm : w = m
          · subst hwm; exact e2
          · exact ih (by omega) e1 w (by omega)
      cases hf : f n with
      | none => rw [hf] at h; cases h
      | some q =>
        rw [hf] at h
        have hqp : q = p := Option.some.inj h
        rw [hqp] at hf
        refine ⟨⟨n, p, by omega, hf, rfl⟩, fun w r hw hr => ?_⟩
        by_cases hwn : w = n
        · subst hwn; rw [hf] at hr; cases hr; exact Int.le_refl _
        · rw [hnone n (Nat.le_refl _) hg w (by omega)] at hr; cases hr
    | some p0 =>
      rw [hg] at h
      obtain ⟨⟨w0, q0, a1, a2, a3⟩, a4⟩ := gf_min n p0 hg
      cases hf : f n with
      | none =>
        rw [hf] at h
        cases h
        refine ⟨⟨w0, q0, by omega, a2, a3⟩, fun w r hw hr => ?_⟩
        by_cases hwn : w = n
        · subst hwn; rw [hf] at hr; cases hr
        · exact a4 w r (by omega) hr
      | some q =>
        rw [hf] at h
        simp only [gadd] at h
        by_cases c1 : q.1 < p0.1
        · rw [if_pos c1] at h
          have hqp : q = p := Option.some.inj h
          rw [hqp] at hf c1
          refine ⟨⟨n, p, by omega, hf, rfl⟩, fun w r hw hr => ?_⟩
          by_cases hwn : w = n
          · subst hwn; rw [hf] at hr; cases hr; exact Int.le_refl _
          · have := a4 w r (by omega) hr; omega
        · rw [if_neg c1] at h
          have hp : p.1 = p0.1 := by
            by_cases c2 : q.1 = p0.1
            · rw [if_pos c2] at h; cases h; rfl
            · rw [if_neg c2] at h; cases h; rfl
          refine ⟨⟨w0, q0, by omega, a2, by omega⟩, fun w r hw hr => ?_⟩
          by_cases hwn : w = n
          · subst hwn; rw [hf] at hr; cases hr; omega
          · have := a4 w r (by omega) hr; omega
/-- w begins a cheapest reading -/
def isC (A : aS) (x a w : Nat) : Prop := ∃ q p, gw A (wX A 1 0) x a w = some q ∧ GG A (wX A 1 0) x a = some p ∧ q.1 = p.1
noncomputable def c1 (A : aS) (x a w : Nat) : Nat := ci (isC A x a w)
noncomputable def rdc (A : aS) : Nat → Nat → Nat → Nat → Int32
  | 0, _, _, _ => -1
  | n + 1, j, x, a => if A 0 2 ≤ x then -1 else
    if j = 0 then nI (selw (c1 A x a) (A 0 1) 0 0).1 else rdc A n (j - 1) (x + A 1 (selw (c1 A x a) (A 0 1) 0 0).1) (A 3 (selw (c1 A x a) (A 0 1) 0 0).1)
theorem sm_pos {c : Nat → Nat} : ∀ n w, w < n → 0 < c w → 0 < sm c n
  | 0, w, h, _ => by omega
  | n + 1, w, h, hc => by
    rw [sm]
    by_cases e : w = n
    · subst e; omega
    · have := sm_pos (c := c) n w (by omega) hc
      omega
theorem sel1_ok {A : aS} (hA : I_ok A) {x a : Nat} (hx : x < A 0 2) (hG : GG A (wX A 1 0) x a ≠ none) : (selw (c1 A x a) (A 0 1) 0 0).1 < A 0 1 ∧ isC A x a (selw (c1 A x a) (A 0 1) 0 0).1 ∧ 0 < sm (fun i => c1 A x a (0 + i)) (A 0 1) := by
  cases hg : GG A (wX A 1 0) x a with
  | none => exact absurd hg hG
  | some p =>
    have hg' := hg
    rw [GG_step hA hx] at hg
    obtain ⟨⟨w, q, h1, h2, h3⟩, -⟩ := gf_min _ p hg
    have hc : c1 A x a w = 1 := ci_t ⟨q, p, h2, hg', h3⟩
    have hs : 0 < sm (fun i => c1 A x a (0 + i)) (A 0 1) := sm_pos _ w h1 (by rw [Nat.zero_add, hc]; omega)
    have h := selw_spec (c := c1 A x a) (A 0 1) 0 0 hs
    refine ⟨by omega, ?_, hs⟩
    by_cases hi : isC A x a (selw (c1 A x a) (A 0 1) 0 0).1
    · exact hi
    · exfalso
      have := h.2.2.1
      have hz : c1 A x a (selw (c1 A x a) (A 0 1) 0 0).1 = 0 := ci_f hi
      omega
theorem isC_rok {A : aS} {x a w : Nat} (h : isC A x a w) : rok A a w x ∧ GG A (wX A 1 0) (x + A 1 w) (A 3 w) ≠ none := by
  obtain ⟨q, p, h1, -⟩ := h
  unfold gw at h1
  by_cases c : rok A a w x
  · rw [cit_t c] at h1
    refine ⟨c, fun e => ?_⟩
    rw [e] at h1; cases h1
  · rw [cit_f c] at h1; cases h1
theorem sel_sh {c : Nat → Nat} (w n : Nat) : sm (fun i => c (w + i)) (n + 1) = c w + sm (fun i => c (w + 1 + i)) n := by
  induction n with
  | zero => simp [sm]
  | succ n ih =>
    rw [sm, ih, sm]
    have : w + (n + 1) = w + 1 + n := by omega
    rw [this]; omega
theorem x_chooseC {A : aS} (hA : I_ok A) {gs g : z_S} (hX : R_X A gs) (hm : MS A 1 0 (-1) gs g) {x a : Nat} (hx : x < A 0 2) (ha : a ≤ 4) (h8 : g.2 19 8 = lN 0) (hG : GG A (wX A 1 0) x a ≠ none) : fX5_choose (nI x) (nI a) g = some (nI (selw (c1 A x a) (A 0 1) 0 0).1, g) := by
  have hn := hA.1.2.2.1
  have hd := hA.1.2.2.2.1
  have hX' := hm.rx hA hX
  have hs0 := (sel1_ok hA hx hG).2.2
  unfold fX5_choose
  try simp (disch := omega) only [p_g, p_b, p_s, p_gin, p_gblt, p_eqL, p_leL, p_Lle, p_ltL, p_Llt, p_addL, p_subL, p_mulL, p_LmulL, p_eq, p_le, p_lt, p_add, p_sub, p_mul, p_clamp, if_pos, if_neg]
  rw [show x * 5 + a = 5 * x + a by omega, (hm.2.2.2.2.2 x a (by omega) ha).1]
  cases hg : GG A (wX A 1 0) x a with
  | none => exact absurd hg hG
  | some p =>
    have hgs := hg
    rw [GG_step hA hx] at hgs
    have hmin := (gf_min _ p hgs).2
    have hbp := gbd_G hA (wX_ok hA 1 0) _ x a (Nat.le_refl _) p hg
    refine p_loop (P := fun s g' => ∃ w, w ≤ A 0 1 ∧ s = (nI x, nI a, eL (some p), nI w) ∧ g' = g ∧ selw (c1 A x a) (A 0 1 - w) w 0 = selw (c1 A x a) (A 0 1) 0 0 ∧ 0 < sm (fun i => c1 A x a (w + i)) (A 0 1 - w)) (μ := fun s _ => A 0 1 - s.2.2.2.toNatClampNeg) ?_ zN _ _ ⟨0, by omega, rfl, rfl, rfl, hs0⟩ (by show A 0 1 - _ < zN; rw [p_zN]; omega)
    rintro rc s g' ⟨w, hw, rfl, rfl, hsel, hls⟩ ih
    simp only [fX5_choose_B14]
    rw [hX'.1.2.1]
    try simp (disch := omega) only [p_g, p_b, p_s, p_gin, p_gblt, p_eqL, p_leL, p_Lle, p_ltL, p_Llt, p_addL, p_subL, p_mulL, p_LmulL, p_eq, p_le, p_lt, p_add, p_sub, p_mul, p_clamp, if_pos, if_neg]
    by_cases hlt : A 0 1 ≤ w
    · exfalso
      rw [show A 0 1 - w = 0 by omega] at hls
      simp [sm] at hls
    · have hw' : w < A 0 1 := by omega
      obtain ⟨m, hmm⟩ : ∃ m, A 0 1 - w = m + 1 := ⟨A 0 1 - w - 1, by omega⟩
      rw [if_neg hlt, x_wfrom hA hX' (b := 1) (p := 0) (by omega) (by omega) hm.2.2.1 (fun h => by omega) hx ha hw' (hm.2.2.2.2.1 x hx) (fun y c _ h2 h3 => hm.2.2.2.2.2 y c h2 h3), p_b]
      have hdec : A 0 1 - (nI (w + 1)).toNatClampNeg < A 0 1 - (nI w).toNatClampNeg := by
        rw [p_clamp (by omega), p_clamp (by omega)]
        omega
      rw [hmm, sel_sh] at hls
      rw [hmm, selw] at hsel
      have hm2 : A 0 1 - (w + 1) = m := by omega
      have skip : ¬ isC A x a w → rc (nI x, nI a, eL (some p), nI (w + 1)) g' = some (nI (selw (c1 A x a) (A 0 1) 0 0).1, g') := by
        intro hno
        have hc : c1 A x a w = 0 := ci_f hno
        rw [hc, if_neg (by omega)] at hsel
        exact ih _ _ ⟨w + 1, by omega, rfl, rfl, by rw [hm2]; exact hsel, by rw [hm2]; omega⟩ hdec
      cases hgw : gw A (wX A 1 0) x a w with
      | none =>
        rw [if_pos (by decide)]
        exact skip (fun ⟨q, p, h1, _⟩ => by rw [hgw] at h1; cases h1)
      | some q =>
        have hbq := gbd_gw hA (wX_ok hA 1 0) (x := x) (a := a) (by omega) hw' q hgw
        have hle := hmin w q hw' hgw
        have l2 := iI_le (a := q.1) (b := p.1) (by omega) (by omega) (by omega) (by omega)
        rw [if_neg (by
          show ¬ (1000000000 : Int32) ≤ Int32.ofInt q.1
          rw [Int32.le_iff_toInt_le, iI_toInt (by omega) (by omega)]
          have : (1000000000 : Int32).toInt = 1000000000 := rfl
          omega)]
        by_cases hqp : q.1 = p.1
        · have hi : isC A x a w := ⟨q, p, hgw, hg, hqp⟩
          have hrok := isC_rok hi
          have hst := hrok.1.2.1
          obtain ⟨w1, w2, w3, w4, -⟩ := hA.2.1 w hw'
          have hc : c1 A x a w = 1 := ci_t hi
          rw [hc, if_pos (by omega)] at hsel
          rw [if_pos (show eL (some q) ≤ eL (some p) from l2.mpr (by omega)), x_behind hA hX' (by omega) hw', p_b, p_gin (by omega) (by omega), p_clamp (by omega), h8, (hm.2.2.2.2.2 (x + A 1 w) (A 3 w) hst (by omega)).2]
          cases hGn : GG A (wX A 1 0) (x + A 1 w) (A 3 w) with
          | none => exact absurd hGn hrok.2
          | some r =>
            have := (gbd_G hA (wX_ok hA 1 0) _ (x + A 1 w) (A 3 w) (Nat.le_refl _) r hGn).2.2
            rw [if_neg (by show ¬ lN (min 1000000000000001 r.2) ≤ lN 0; rw [p_JLe (by omega) (by omega)]; omega), ← hsel]
        · rw [if_neg (show ¬ eL (some q) ≤ eL (some p) from fun z => hqp (by have := l2.mp z; omega))]
          exact skip (fun ⟨q', p', h1, h2, h3⟩ => by
            rw [hgw] at h1; rw [hg] at h2
            cases h1; cases h2
            exact hqp h3)
theorem x_wordC {A : aS} (hA : I_ok A) {gs g : z_S} (hX : R_X A gs) (hm : MS A 1 0 (-1) gs g) (h8 : g.2 19 8 = lN 0) {J : Nat} (hJ : J < 2147483648) (hG : GG A (wX A 1 0) 0 4 ≠ none) : z_loop fX5_wordOfLeast_B27 zN (nI J, 0, 4, 0) g = some (rdc A 49 J 0 4, g) := by
  have hn := hA.1.2.2.1
  have hd := hA.1.2.2.2.1
  have hX' := hm.rx hA hX
  refine p_loop (P := fun s g' => ∃ (n x a : Nat), n ≤ J ∧ n ≤ x ∧ x ≤ A 0 2 ∧ a ≤ 4 ∧ s = (nI J, nI x, nI a, nI n) ∧ g' = g ∧ rdc A 49 J 0 4 = rdc A (49 - n) (J - n) x a ∧ GG A (wX A 1 0) x a ≠ none) (μ := fun s _ => 49 - s.2.2.2.toNatClampNeg) ?_ zN _ _ ⟨0, 0, 4, by omega, by omega, by omega, by omega, rfl, rfl, rfl, hG⟩ (by show 49 - _ < zN; rw [p_zN]; omega)
  rintro rc s g' ⟨n, x, a, hnJ, hnx, hx, ha, rfl, rfl, hr1, hr2⟩ ih
  simp only [fX5_wordOfLeast_B27]
  rw [hX'.1.2.2.1]
  try simp (disch := omega) only [p_g, p_b, p_s, p_gin, p_gblt, p_eqL, p_leL, p_Lle, p_ltL, p_Llt, p_addL, p_subL, p_mulL, p_LmulL, p_eq, p_le, p_lt, p_add, p_sub, p_mul, p_clamp, if_pos, if_neg]
  obtain ⟨f, hf⟩ : ∃ f, 49 - n = f + 1 := ⟨48 - n, by omega⟩
  rw [hf] at hr1
  by_cases hxe : A 0 2 ≤ x
  · rw [if_pos hxe, hr1, rdc, if_pos hxe]
  · rw [if_neg hxe]
    have hxl : x < A 0 2 := by omega
    have hok := sel1_ok hA hxl hr2
    have hrok := isC_rok hok.2.1
    rw [x_chooseC hA hX hm hxl ha h8 hr2, p_b]
    have hr1' := hr1
    rw [hr1, rdc, if_neg hxe]
    generalize hw : (selw (c1 A x a) (A 0 1) 0 0).1 = w at *
    obtain ⟨w1, w2, w3, w4, -⟩ := hA.2.1 w hok.1
    have hst := hrok.1.2.1
    rw [if_neg (by intro q; have := congrArg Int32.toInt q; rw [p_toInt (by omega)] at this; have e : (-1 : Int32).toInt = -1 := rfl; omega)]
    try simp (disch := omega) only [p_g, p_b, p_s, p_gin, p_gblt, p_eqL, p_leL, p_Lle, p_ltL, p_Llt, p_addL, p_subL, p_mulL, p_LmulL, p_eq, p_le, p_lt, p_add, p_sub, p_mul, p_clamp, if_pos, if_neg]
    by_cases hnj : n = J
    · rw [if_pos hnj, if_pos (by omega)]
    · rw [if_neg hnj, if_neg (by omega), (hX'.2.1 w hok.1).1, (hX'.2.1 w hok.1).2.2.1]
      try simp (disch := omega) only [p_g, p_b, p_s, p_gin, p_gblt, p_eqL, p_leL, p_Lle, p_ltL, p_Llt, p_addL, p_subL, p_mulL, p_LmulL, p_eq, p_le, p_lt, p_add, p_sub, p_mul, p_clamp, if_pos, if_neg]
      have hnext : rdc A 49 J 0 4 = rdc A (49 - (n + 1)) (J - (n + 1)) (x + A 1 w) (A 3 w) := by
        rw [hr1', rdc, if_neg hxe, if_neg (by omega), hw]
        congr 1 <;> omega
      rw [show rdc A f (J - n - 1) (x + A 1 w) (A 3 w) = rdc A 49 J 0 4 by rw [hnext]; congr 1 <;> omega]
      refine ih _ _ ⟨n + 1, x + A 1 w, A 3 w, by omega, by omega, hst, by omega, rfl, rfl, hnext, hrok.2⟩ ?_
      show _ - (nI (_ + 1)).toNatClampNeg < _ - (nI _).toNatClampNeg
      rw [p_clamp (by omega), p_clamp (by omega)]
      omega
theorem m_readC {A : aS} (hA : I_ok A) {gs g : z_S} (hM : R_M A gs) (hm : MR A gs g) {x a : Nat} {jv nv : Int32} (hx : x < A 0 2) (ha : a ≤ 4) (hG : GG A (wX A 1 0) x a ≠ none) (k : Int32 → Int32 → Int32 → Int32 → z_S → Option (Int32 × z_S)) : z_loop (fX11_cheapest_B46 k) zN (jv, nI x, nI a, nv, -1, 0) g = k jv (nI x) nv (nI (selw (c1 A x a) (A 0 1) 0 0).1) g := by
  have hn := hA.1.2.2.1
  have hd := hA.1.2.2.2.1
  have hM' := hm.rm hM
  have hok := sel1_ok hA hx hG
  cases hg : GG A (wX A 1 0) x a with
  | none => exact absurd hg hG
  | some p =>
    have hbp := gbd_G hA (wX_ok hA 1 0) _ x a (Nat.le_refl _) p hg
    refine p_loop (P := fun s g' => g' = g ∧ ((∃ w, w ≤ A 0 1 ∧ s = (jv, nI x, nI a, nv, -1, nI w) ∧ selw (c1 A x a) (A 0 1 - w) w 0 = selw (c1 A x a) (A 0 1) 0 0 ∧ 0 < sm (fun i => c1 A x a (w + i)) (A 0 1 - w)) ∨ (∃ w, w ≤ A 0 1 ∧ s = (jv, nI x, nI a, nv, nI (selw (c1 A x a) (A 0 1) 0 0).1, nI w)))) (μ := fun s _ => A 0 1 - s.2.2.2.2.2.toNatClampNeg) ?_ zN _ _ ⟨rfl, Or.inl ⟨0, by omega, rfl, rfl, hok.2.2⟩⟩ (by show A 0 1 - _ < zN; rw [p_zN]; omega)
    rintro rc s g' ⟨rfl, h⟩ ih
    rcases h with ⟨w, hw, rfl, hsel, hls⟩ | ⟨w, hw, rfl⟩
    · simp only [fX11_cheapest_B46]
      rw [hM'.1.2.1]
      try simp (disch := omega) only [p_g, p_b, p_s, p_gin, p_gblt, p_eqL, p_leL, p_Lle, p_ltL, p_Llt, p_addL, p_subL, p_mulL, p_LmulL, p_eq, p_le, p_lt, p_add, p_sub, p_mul, p_clamp, if_pos, if_neg]
      by_cases hlt : A 0 1 ≤ w
      · exfalso
        rw [show A 0 1 - w = 0 by omega] at hls
        simp [sm] at hls
      · have hw' : w < A 0 1 := by omega
        obtain ⟨w1, w2, w3, w4, -⟩ := hA.2.1 w hw'
        obtain ⟨m, hmm⟩ : ∃ m, A 0 1 - w = m + 1 := ⟨A 0 1 - w - 1, by omega⟩
        rw [if_neg hlt, if_neg (by decide), (hM'.2.1 w hw').1, (hM'.2.1 w hw').2.2.1]
        try simp (disch := omega) only [p_g, p_b, p_s, p_gin, p_gblt, p_eqL, p_leL, p_Lle, p_ltL, p_Llt, p_addL, p_subL, p_mulL, p_LmulL, p_eq, p_le, p_lt, p_add, p_sub, p_mul, p_clamp, if_pos, if_neg]
        rw [m_cell, p_b, m_may hA hM' ha hw', p_b]
        have hdec : A 0 1 - (nI (w + 1)).toNatClampNeg < A 0 1 - (nI w).toNatClampNeg := by
          rw [p_clamp (by omega), p_clamp (by omega)]
          omega
        rw [hmm, sel_sh] at hls
        rw [hmm, selw] at hsel
        have hm2 : A 0 1 - (w + 1) = m := by omega
        have j0 : ¬ isC A x a w → fX11_cheapest_J146 rc jv (nI x) (nI a) nv (nI w) 0 g' = k jv (nI x) nv (nI (selw (c1 A x a) (A 0 1) 0 0).1) g' := by
          intro hno
          have hc : c1 A x a w = 0 := ci_f hno
          rw [hc, if_neg (by omega)] at hsel
          unfold fX11_cheapest_J146
          rw [if_pos rfl, p_addL]
          exact ih _ _ ⟨rfl, Or.inl ⟨w + 1, by omega, rfl, by rw [hm2]; exact hsel, by rw [hm2]; omega⟩⟩ hdec
        have j1 : isC A x a w → fX11_cheapest_J146 rc jv (nI x) (nI a) nv (nI w) 1 g' = k jv (nI x) nv (nI (selw (c1 A x a) (A 0 1) 0 0).1) g' := by
          intro hi
          have hc : c1 A x a w = 1 := ci_t hi
          rw [hc, if_pos (by omega)] at hsel
          unfold fX11_cheapest_J146
          rw [if_neg n10, p_addL]
          refine ih _ _ ⟨rfl, Or.inr ⟨w + 1, by omega, ?_⟩⟩ hdec
          rw [← hsel]
        by_cases hmay : may A a w
        · rw [if_neg (fun q => (p_cieq.mp q) hmay), m_stands hA hM' (by omega) hw', p_b]
          by_cases hst : stR (A 7) (A 0 2) A x w
          · have hs1 := hst.1
            rw [if_neg (fun q => (p_cieq.mp q) hst)]
            try simp (disch := omega) only [p_g, p_b, p_s, p_gin, p_gblt, p_eqL, p_leL, p_Lle, p_ltL, p_Llt, p_addL, p_subL, p_mulL, p_LmulL, p_eq, p_le, p_lt, p_add, p_sub, p_mul, p_clamp, if_pos, if_neg]
            have hT := hm.2.2 (x + A 1 w) (A 3 w) hs1 (by omega)
            have hgw : gw A (wX A 1 0) x a w = gsh (A 2 w) (GG A (wX A 1 0) (x + A 1 w) (A 3 w)) := by
              unfold gw
              rw [cit_t ⟨hmay, hst⟩, wX1]
            rw [hT.1, hT.2.1, (hM'.2.1 w hw').2.1]
            have hnn := GG_none hA (x := x + A 1 w) (a := A 3 w) (b := 1) (by omega)
            cases h0 : GG A (wX A 0 0) (x + A 1 w) (A 3 w) with
            | none =>
              rw [if_pos (by decide)]
              refine j0 (fun ⟨q, p, h1, _⟩ => ?_)
              rw [hgw, hnn.mpr h0] at h1
              cases h1
            | some r0 =>
              have hr0 := (gbd_G hA (wX_ok hA 0 0) _ (x + A 1 w) (A 3 w) (Nat.le_refl _) r0 h0).2.2
              rw [if_neg (by show ¬ lN (min 2000000000000000 r0.2) ≤ 0; rw [show (0 : Int64) = lN 0 from rfl, p_JLe (by omega) (by omega)]; omega)]
              rw [m_cell, p_b]
              try simp (disch := omega) only [p_g, p_b, p_s, p_gin, p_gblt, p_eqL, p_leL, p_Lle, p_ltL, p_Llt, p_addL, p_subL, p_mulL, p_LmulL, p_eq, p_le, p_lt, p_add, p_sub, p_mul, p_clamp, if_pos, if_neg]
              rw [(hm.2.2 x a (by omega) ha).2.1, hg]
              cases h1 : GG A (wX A 1 0) (x + A 1 w) (A 3 w) with
              | none => rw [hnn.mp h1] at h0; cases h0
              | some r1 =>
                have hb1 := gbd_G hA (wX_ok hA 1 0) _ (x + A 1 w) (A 3 w) (Nat.le_refl _) r1 h1
                rw [h1] at hgw
                have hgw' : gw A (wX A 1 0) x a w = some (r1.1 + A 2 w, r1.2) := hgw
                have hbq := gbd_gw hA (wX_ok hA 1 0) (x := x) (a := a) (by omega) hw' _ hgw'
                have hbq1 : -((A 0 2 - x : Nat) : Int) ≤ r1.1 + A 2 w := hbq.1
                have hbq2 : r1.1 + A 2 w ≤ 99 * ((A 0 2 - x : Nat) : Int) := hbq.2.1
                have l3 := iI_inj (a := r1.1 + A 2 w) (b := p.1) (by omega) (by omega) (by omega) (by omega)
                have hsum : nI (A 2 w) + eM (some r1) = Int32.ofInt (r1.1 + A 2 w) := by
                  show nI (A 2 w) + Int32.ofInt r1.1 = _
                  rw [iI_n, iI_add, Int.add_comm]
                rw [hsum]
                show (if Int32.ofInt (r1.1 + A 2 w) = Int32.ofInt p.1 then _ else _) = _
                by_cases hqp : r1.1 + (A 2 w : Int) = p.1
                · rw [if_pos (l3.mpr hqp)]
                  exact j1 ⟨_, p, hgw', hg, hqp⟩
                · rw [if_neg (fun z => hqp (l3.mp z))]
                  refine j0 (fun ⟨q', p', a1, a2, a3⟩ => ?_)
                  rw [hgw'] at a1; rw [hg] at a2
                  cases a1; cases a2
                  exact hqp a3
          · rw [if_pos (p_cieq.mpr hst)]
            exact j0 (fun h => hst (isC_rok h).1.2)
        · rw [if_pos (p_cieq.mpr hmay)]
          exact j0 (fun h => hmay (isC_rok h).1.1)
    · simp only [fX11_cheapest_B46]
      rw [if_pos (p_pos (by omega))]
      split <;> rfl
theorem m_wordC {A : aS} (hA : I_ok A) {gs g : z_S} (hM : R_M A gs) (hm : MR A gs g) {J : Nat} (hJ : J < 2147483648) (hG : GG A (wX A 1 0) 0 4 ≠ none) : z_loop fX11_cheapest_B32 zN (nI J, 0, 4, 0) g = some (rdc A 49 J 0 4, g) := by
  have hn := hA.1.2.2.1
  have hd := hA.1.2.2.2.1
  have hM' := hm.rm hM
  refine p_loop (P := fun s g' => ∃ (n x a : Nat), n ≤ J ∧ n ≤ x ∧ x ≤ A 0 2 ∧ a ≤ 4 ∧ s = (nI J, nI x, nI a, nI n) ∧ g' = g ∧ rdc A 49 J 0 4 = rdc A (49 - n) (J - n) x a ∧ GG A (wX A 1 0) x a ≠ none) (μ := fun s _ => 49 - s.2.2.2.toNatClampNeg) ?_ zN _ _ ⟨0, 0, 4, by omega, by omega, by omega, by omega, rfl, rfl, rfl, hG⟩ (by show 49 - _ < zN; rw [p_zN]; omega)
  rintro rc s g' ⟨n, x, a, hnJ, hnx, hx, ha, rfl, rfl, hr1, hr2⟩ ih
  simp only [fX11_cheapest_B32]
  rw [hM'.1.2.2.1]
  try simp (disch := omega) only [p_g, p_b, p_s, p_gin, p_gblt, p_eqL, p_leL, p_Lle, p_ltL, p_Llt, p_addL, p_subL, p_mulL, p_LmulL, p_eq, p_le, p_lt, p_add, p_sub, p_mul, p_clamp, if_pos, if_neg]
  obtain ⟨f, hf⟩ : ∃ f, 49 - n = f + 1 := ⟨48 - n, by omega⟩
  rw [hf] at hr1
  by_cases hxe : A 0 2 ≤ x
  · rw [if_pos hxe, hr1, rdc, if_pos hxe]
  · rw [if_neg hxe]
    have hxl : x < A 0 2 := by omega
    have hok := sel1_ok hA hxl hr2
    have hrok := isC_rok hok.2.1
    rw [m_readC hA hM hm hxl ha hr2]
    have hr1' := hr1
    rw [hr1, rdc, if_neg hxe]
    generalize hw : (selw (c1 A x a) (A 0 1) 0 0).1 = w at *
    obtain ⟨w1, w2, w3, w4, -⟩ := hA.2.1 w hok.1
    have hst := hrok.1.2.1
    try simp (disch := omega) only [p_g, p_b, p_s, p_gin, p_gblt, p_eqL, p_leL, p_Lle, p_ltL, p_Llt, p_addL, p_subL, p_mulL, p_LmulL, p_eq, p_le, p_lt, p_add, p_sub, p_mul, p_clamp, if_pos, if_neg]
    by_cases hnj : n = J
    · rw [if_pos hnj, if_pos (by omega)]
    · rw [if_neg hnj, if_neg (by omega), (hM'.2.1 w hok.1).1, (hM'.2.1 w hok.1).2.2.1]
      try simp (disch := omega) only [p_g, p_b, p_s, p_gin, p_gblt, p_eqL, p_leL, p_Lle, p_ltL, p_Llt, p_addL, p_subL, p_mulL, p_LmulL, p_eq, p_le, p_lt, p_add, p_sub, p_mul, p_clamp, if_pos, if_neg]
      have hnext : rdc A 49 J 0 4 = rdc A (49 - (n + 1)) (J - (n + 1)) (x + A 1 w) (A 3 w) := by
        rw [hr1', rdc, if_neg hxe, if_neg (by omega), hw]
        congr 1 <;> omega
      rw [show rdc A f (J - n - 1) (x + A 1 w) (A 3 w) = rdc A 49 J 0 4 by rw [hnext]; congr 1 <;> omega]
      refine ih _ _ ⟨n + 1, x + A 1 w, A 3 w, by omega, by omega, hst, by omega, rfl, rfl, hnext, hrok.2⟩ ?_
      show _ - (nI (_ + 1)).toNatClampNeg < _ - (nI _).toNatClampNeg
      rw [p_clamp (by omega), p_clamp (by omega)]
      omega
theorem o_cheapest (j : Int32) : Op0 (fX10_cheapest j) (fX11_cheapest j) := by
  refine op_wp (fun A gx gm hA hX hM => ?_)
  have hnn := GG_none hA (x := 0) (a := 4) (b := 1) (by omega)
  refine ⟨@ite _ (GG A (wX A 1 0) 0 4 ≠ none ∧ 0 ≤ j.toInt) (Classical.propDecidable _) (rdc A 49 j.toNatClampNeg 0 4) (-1), A, hA, ?_, ?_⟩
  · unfold fX10_cheapest
    apply wp_b
    refine wp_mono (x_measure hA hX (b := 1) (p := 0) (pv := -1) (by omega) (by omega) (fun h => by omega)) ?_
    rintro ⟨u, g1⟩ h1
    have h1' : MS A 1 0 (-1) gx g1 := h1
    simp only []
    apply wp_b
    unfold fX5_wordOfLeast
    rw [p_gi (show z_in 4 245 = true by decide), show (4 : Int32).toNatClampNeg = 4 from rfl]
    rw [show g1.2 22 4 = eC 1000000000000001 (GG A (wX A 1 0) 0 4) from (h1'.2.2.2.2.2 0 4 (by omega) (by omega)).2]
    cases hG : GG A (wX A 1 0) 0 4 with
    | none =>
      rw [if_neg (by decide)]
      refine wp_some (wp_some ⟨?_, h1'.rx hA hX, h1'.cs⟩)
      rw [if_neg (fun q => q.1 rfl)]
    | some q =>
      have hb := (gbd_G hA (wX_ok hA 1 0) _ 0 4 (Nat.le_refl _) q hG).2.2
      rw [if_pos (by show (0 : Int64) < lN (min 1000000000000001 q.2); rw [show (0 : Int64) = lN 0 from rfl, p_JLt (by omega) (by omega)]; omega), p_s]
      have hm8 := h1'.put8 (lN 0)
      have hcs : Cs A A gx (z_wl g1 19 8 0) := Cs.ag (fun o ho => h1'.1 o (by omega) (by omega) (by omega))
      have hrx : R_X A (z_wl g1 19 8 0) := (h1'.rx hA hX).lg rfl
      rcases p_cases j with hj | ⟨J, hJ, rfl⟩
      · rw [p_step]
        simp only [fX5_wordOfLeast_B27]
        rw [if_pos hj]
        refine wp_some (wp_some ⟨?_, hrx, hcs⟩)
        rw [if_neg (fun q => by rw [Int32.lt_iff_toInt_lt, t_0] at hj; omega)]
      · rw [show (z_wl g1 19 8 0) = z_wl g1 19 8 (lN 0) from rfl, x_wordC hA (gs := z_wl gx 19 8 (lN 0)) (hX.lg rfl) hm8 p_Lat hJ (by rw [hG]; exact fun h => by cases h)]
        refine wp_some (wp_some ⟨?_, hrx, hcs⟩)
        rw [if_pos ⟨fun h => (by cases h), by rw [p_toInt hJ]; omega⟩, p_clamp hJ]
  · unfold fX11_cheapest
    apply wp_b
    refine wp_mono (m_find hA hM) ?_
    rintro ⟨u, g1⟩ h1
    have h1' : MR A gm g1 := h1
    simp only []
    rcases p_cases j with hj | ⟨J, hJ, rfl⟩
    · rw [if_pos hj]
      refine wp_some ⟨?_, h1'.rm hM⟩
      rw [if_neg (fun q => by rw [Int32.lt_iff_toInt_lt, t_0] at hj; omega)]
    · rw [if_neg (p_neg hJ), show fX11_cell 0 4 g1 = some (nI (5 * 0 + 4), g1) from m_cell (x := 0) (a := 4), p_b, p_gin (by omega) (by omega), p_clamp (by omega), (h1'.2.2 0 4 (by omega) (by omega)).1]
      cases h0 : GG A (wX A 0 0) 0 4 with
      | none =>
        rw [if_pos (by decide)]
        refine wp_some ⟨?_, h1'.rm hM⟩
        rw [if_neg (fun q => q.1 (hnn.mpr h0))]
      | some q =>
        have hb := (gbd_G hA (wX_ok hA 0 0) _ 0 4 (Nat.le_refl _) q h0).2.2
        have hG : GG A (wX A 1 0) 0 4 ≠ none := fun h => by rw [hnn.mp h] at h0; cases h0
        rw [if_neg (by show ¬ lN (min 2000000000000000 q.2) = 0; rw [show (0 : Int64) = lN 0 from rfl, p_Leq (by omega) (by omega)]; omega), m_wordC hA hM h1' hJ hG]
        refine wp_some ⟨?_, h1'.rm hM⟩
        rw [if_pos ⟨hG, by rw [p_toInt hJ]; omega⟩, p_clamp hJ]

/-! the reference's uses -/
theorem nI_ge0 {n : Nat} (h : n < 2147483648) : (0 : Int32) ≤ nI n := p_pos h
theorem m_first {A : aS} (hA : I_ok A) {g : z_S} (hM : R_M A g) {l x a : Nat} (hl : l < A 0 3) (hx : x < A 8 l) (ha : a ≤ 4) (hT : ∀ y c, y ≤ A 8 l → c ≤ 4 → g.1 34 (5 * y + c) = nI (SL A l y c)) (k : Int32 → Int32 → Int32 → Int32 → z_S → Option (Unit × z_S)) : z_loop (fX11_useLine_B27 k) zN (nI l, nI x, nI a, -1, 0) g = k (nI l) (nI x) (nI a) (if fU A l x a < A 0 1 then nI (fU A l x a) else -1) g := by
  have hn := hA.1.2.2.1
  have h3 : A 0 3 ≤ 4 := hA.1.2.2.2.2.1
  obtain ⟨l1, l2, l3⟩ := hA.2.2.2.2.2.1 l hl
  refine p_loop (P := fun s g' => ∃ w, w ≤ A 0 1 ∧ g' = g ∧ ((s = (nI l, nI x, nI a, -1, nI w) ∧ (selw (fun w => ci (isU A l x a w)) (A 0 1 - w) w 0).1 = fU A l x a) ∨ (s = (nI l, nI x, nI a, nI (fU A l x a), nI w) ∧ fU A l x a < A 0 1))) (μ := fun s _ => A 0 1 - s.2.2.2.2.toNatClampNeg) ?_ zN _ _ ⟨0, by omega, rfl, Or.inl ⟨rfl, rfl⟩⟩ (by show A 0 1 - _ < zN; rw [p_zN]; omega)
  rintro rc s g' ⟨w, hw, rfl, ⟨rfl, hsel⟩ | ⟨rfl, hf⟩⟩ ih
  · simp only [fX11_useLine_B27]
    rw [hM.1.2.1]
    try simp (disch := omega) only [p_g, p_b, p_s, p_gin, p_gblt, p_eqL, p_leL, p_Lle, p_ltL, p_Llt, p_addL, p_subL, p_mulL, p_LmulL, p_eq, p_le, p_lt, p_add, p_sub, p_mul, p_clamp, if_pos, if_neg]
    by_cases hlw : A 0 1 ≤ w
    · have : w = A 0 1 := by omega
      subst this
      rw [if_pos hlw, if_neg]
      rw [← hsel, Nat.sub_self]
      show ¬ A 0 1 < A 0 1
      omega
    · have hw' : w < A 0 1 := by omega
      obtain ⟨w1, w2, w3, w4, -⟩ := hA.2.1 w hw'
      obtain ⟨m, hmm⟩ : ∃ m, A 0 1 - w = m + 1 := ⟨A 0 1 - w - 1, by omega⟩
      have hm2 : A 0 1 - (w + 1) = m := by omega
      rw [hmm, selw] at hsel
      have hdec : A 0 1 - (nI (w + 1)).toNatClampNeg < A 0 1 - (nI w).toNatClampNeg := by
        rw [p_clamp (by omega), p_clamp (by omega)]
        omega
      have skip : ¬ isU A l x a w → fX11_useLine_J114 rc (nI l) (nI x) (nI a) (nI w) 0 g' = k (nI l) (nI x) (nI a) (if fU A l x a < A 0 1 then nI (fU A l x a) else -1) g' := by
        intro hno
        rw [if_neg (by rw [ci_f hno]; omega), Nat.zero_sub] at hsel
        unfold fX11_useLine_J114
        rw [if_pos rfl, p_addL]
        exact ih _ _ ⟨w + 1, by omega, rfl, Or.inl ⟨rfl, by rw [hm2]; exact hsel⟩⟩ hdec
      rw [if_neg hlw, if_neg (by decide), m_may hA hM ha hw', p_b]
      by_cases hmay : may A a w
      · rw [if_neg (fun q => (p_cieq.mp q) hmay), m_standsIn hA hM hl (by omega) hw', p_b]
        by_cases hs : stR (fun i => A 9 (24 * l + i)) (A 8 l) A x w
        · have hst := hs.1
          have hSn := SL_le hA (y := x + A 1 w) (c := A 3 w) hl
          have hS := SL_le hA (y := x) (c := a) hl
          rw [if_neg (fun q => (p_cieq.mp q) hs)]
          try simp (disch := omega) only [p_g, p_b, p_s, p_gin, p_gblt, p_eqL, p_leL, p_Lle, p_ltL, p_Llt, p_addL, p_subL, p_mulL, p_LmulL, p_eq, p_le, p_lt, p_add, p_sub, p_mul, p_clamp, if_pos, if_neg]
          rw [(hM.2.1 w hw').1, (hM.2.1 w hw').2.1, (hM.2.1 w hw').2.2.1, p_add, m_cell, p_b]
          try simp (disch := omega) only [p_g, p_b, p_s, p_gin, p_gblt, p_eqL, p_leL, p_Lle, p_ltL, p_Llt, p_addL, p_subL, p_mulL, p_LmulL, p_eq, p_le, p_lt, p_add, p_sub, p_mul, p_clamp, if_pos, if_neg]
          rw [m_cell, p_b]
          try simp (disch := omega) only [p_g, p_b, p_s, p_gin, p_gblt, p_eqL, p_leL, p_Lle, p_ltL, p_Llt, p_addL, p_subL, p_mulL, p_LmulL, p_eq, p_le, p_lt, p_add, p_sub, p_mul, p_clamp, if_pos, if_neg]
          rw [hT x a (by omega) ha, hT (x + A 1 w) (A 3 w) hst (by omega)]
          try simp (disch := omega) only [p_g, p_b, p_s, p_gin, p_gblt, p_eqL, p_leL, p_Lle, p_ltL, p_Llt, p_addL, p_subL, p_mulL, p_LmulL, p_eq, p_le, p_lt, p_add, p_sub, p_mul, p_clamp, if_pos, if_neg]
          by_cases he : A 2 w + SL A l (x + A 1 w) (A 3 w) = SL A l x a
          · have hi : isU A l x a w := ⟨⟨hmay, hs⟩, he⟩
            rw [if_pos (by rw [ci_t hi]; omega)] at hsel
            have hf : w = fU A l x a := hsel
            rw [if_pos he]
            unfold fX11_useLine_J114
            rw [if_neg (by decide), p_addL]
            exact ih _ _ ⟨w + 1, by omega, rfl, Or.inr ⟨by rw [← hf], by omega⟩⟩ hdec
          · rw [if_neg he]
            exact skip (fun h => he h.2)
        · rw [if_pos (p_cieq.mpr hs)]
          exact skip (fun h => hs h.1.2)
      · rw [if_pos (p_cieq.mpr hmay)]
        exact skip (fun h => hmay h.1.1)
  · simp only [fX11_useLine_B27]
    rw [if_pos hf]
    by_cases hlw : g'.1 0 1 ≤ nI w
    · rw [if_pos hlw]
    · rw [if_neg hlw, if_pos (p_pos (by omega))]
theorem m_useL {A : aS} (hA : I_ok A) {g : z_S} (hM : R_M A g) {l : Nat} (hl : l < A 0 3) {st : (Nat → Nat) × Nat} (h35 : ∀ w, w < 16 → g.1 35 w = nI (st.1 w)) (h48 : g.1 0 48 = nI st.2) : wp (fX11_useLine (nI l) g) (fun q => (∀ o, o ≠ 0 → o ≠ 34 → o ≠ 35 → q.2.1 o = g.1 o) ∧ (∀ k, k ≠ 48 → q.2.1 0 k = g.1 0 k) ∧ q.2.2 = g.2 ∧ (∀ w, w < 16 → q.2.1 35 w = nI ((uL A l 25 0 4 st).1 w)) ∧ q.2.1 0 48 = nI (uL A l 25 0 4 st).2) := by
  have hn := hA.1.2.2.1
  have h3 : A 0 3 ≤ 4 := hA.1.2.2.2.2.1
  obtain ⟨l1, l2, l3⟩ := hA.2.2.2.2.2.1 l hl
  unfold fX11_useLine
  apply wp_b
  refine wp_mono (m_sums hA hM hl) ?_
  rintro ⟨r, g0⟩ ⟨a1, a2⟩
  simp only [] at a1 a2 ⊢
  refine wp_loop (P := fun s g' => ∃ (n x a : Nat) (st' : (Nat → Nat) × Nat), n ≤ x ∧ x ≤ A 8 l ∧ a ≤ 4 ∧ s = (nI l, nI x, nI a) ∧ (∀ o, o ≠ 0 → o ≠ 35 → g'.1 o = g0.1 o) ∧ (∀ k, k ≠ 48 → g'.1 0 k = g0.1 0 k) ∧ g'.2 = g0.2 ∧ (∀ w, w < 16 → g'.1 35 w = nI (st'.1 w)) ∧ g'.1 0 48 = nI st'.2 ∧ uL A l (25 - n) x a st' = uL A l 25 0 4 st) (μ := fun s _ => 25 - s.2.1.toNatClampNeg) ?_ zN _ _ ⟨0, 0, 4, st, by omega, by omega, by omega, rfl, fun _ _ _ => rfl, fun _ _ => rfl, rfl, fun w hw => by rw [a2.1 35 (by omega)]; exact h35 w hw, by rw [a2.1 0 (by omega)]; exact h48, rfl⟩ (by show 25 - _ < zN; rw [p_zN]; omega)
  rintro rc s g1 ⟨n, x, a, st', hnx, hx, ha, rfl, e1, e2, e3, e4, e5, e6⟩ ih
  have hM1 : R_M A g1 := R_M.ag2 (a2.rm hM) (fun o h1 h2 => e1 o (by omega) (by omega)) (fun k hk => e2 k (by omega))
  obtain ⟨f, hf⟩ : ∃ f, 25 - n = f + 1 := ⟨24 - n, by omega⟩
  rw [hf, uL] at e6
  simp only [fX11_useLine_B11]
  rw [(p_clamp (n := l) (by omega)), (hM1.2.2.2.2.2.1 l hl).1]
  try simp (disch := omega) only [p_g, p_b, p_s, p_gin, p_gblt, p_eqL, p_leL, p_Lle, p_ltL, p_Llt, p_addL, p_subL, p_mulL, p_LmulL, p_eq, p_le, p_lt, p_add, p_sub, p_mul, p_clamp, if_pos, if_neg]
  by_cases hxe : A 8 l ≤ x
  · rw [if_pos hxe] at e6
    rw [if_pos hxe, ← e6]
    exact wp_some ⟨fun o h1 h2 h3 => (e1 o h1 h3).trans (a2.1 o h2), fun k hk => (e2 k hk).trans (by rw [a2.1 0 (by omega)]), e3.trans a2.2.1, e4, e5⟩
  · rw [if_neg hxe] at e6
    have hxl : x < A 8 l := by omega
    rw [if_neg hxe, m_first hA hM1 hl hxl ha (fun y c b1 b2 => by rw [e1 34 (by omega) (by omega)]; exact a2.2.2 y c b1 b2)]
    by_cases hw : fU A l x a < A 0 1
    · rw [if_pos hw] at e6
      have hi := fU_isU hw
      obtain ⟨w1, w2, w3, w4, -⟩ := hA.2.1 _ hw
      have hst := hi.1.2.1
      generalize hww : fU A l x a = w at *
      rw [if_pos hw, if_pos (p_pos (by omega))]
      try simp (disch := omega) only [p_g, p_b, p_s, p_gin, p_gblt, p_eqL, p_leL, p_Lle, p_ltL, p_Llt, p_addL, p_subL, p_mulL, p_LmulL, p_eq, p_le, p_lt, p_add, p_sub, p_mul, p_clamp, if_pos, if_neg]
      rw [e4 w (by omega), p_off (by decide), p_off (by decide), (hM1.2.1 w hw).1, (hM1.2.1 w hw).2.2.1]
      try simp (disch := omega) only [p_g, p_b, p_s, p_gin, p_gblt, p_eqL, p_leL, p_Lle, p_ltL, p_Llt, p_addL, p_subL, p_mulL, p_LmulL, p_eq, p_le, p_lt, p_add, p_sub, p_mul, p_clamp, if_pos, if_neg]
      refine ih _ _ ⟨n + 1, x + A 1 w, A 3 w, (fun v => if v = w then st'.1 v + 1 else st'.1 v, st'.2), by omega, hst, by omega, rfl, ?_, ?_, e3, ?_, ?_, ?_⟩ ?_
      · intro o h1 h2
        rw [p_off h2]; exact e1 o h1 h2
      · intro k hk
        rw [p_off (by decide)]; exact e2 k hk
      · intro v hv
        show _ = nI (if v = w then _ else _)
        by_cases hvw : v = w
        · subst hvw; rw [p_at, if_pos rfl]
        · rw [p_on hvw, if_neg hvw]; exact e4 v hv
      · rw [p_off (by decide)]; exact e5
      · rw [show 25 - (n + 1) = f by omega]; exact e6
      · show 25 - (nI (x + A 1 w)).toNatClampNeg < 25 - (nI x).toNatClampNeg
        rw [p_clamp (by omega), p_clamp (by omega)]
        omega
    · rw [if_neg hw] at e6
      rw [if_neg hw, if_neg (by decide), e5]
      try simp (disch := omega) only [p_g, p_b, p_s, p_gin, p_gblt, p_eqL, p_leL, p_Lle, p_ltL, p_Llt, p_addL, p_subL, p_mulL, p_LmulL, p_eq, p_le, p_lt, p_add, p_sub, p_mul, p_clamp, if_pos, if_neg]
      refine ih _ _ ⟨n + 1, x + 1, a, (st'.1, st'.2 + 1), by omega, by omega, ha, rfl, ?_, ?_, e3, ?_, ?_, ?_⟩ ?_
      · intro o h1 h2
        rw [p_off h1]; exact e1 o h1 h2
      · intro k hk
        rw [p_on hk]; exact e2 k hk
      · intro v hv
        rw [p_off (by decide)]; exact e4 v hv
      · rw [p_at]
      · rw [show 25 - (n + 1) = f by omega]; exact e6
      · show _ - (nI (_ + 1)).toNatClampNeg < _ - (nI _).toNatClampNeg
        rw [p_clamp (by omega), p_clamp (by omega)]
        omega
/-- the reference's counting of uses -/
def UM (A : aS) (g g' : z_S) : Prop := (∀ o, o ≠ 0 → o ≠ 34 → o ≠ 35 → g'.1 o = g.1 o) ∧ (∀ k, k ≠ 48 → g'.1 0 k = g.1 0 k) ∧ g'.2 = g.2 ∧ (∀ w, w < 16 → g'.1 35 w = nI ((uF A (A 0 3)).1 w)) ∧ g'.1 0 48 = nI (uF A (A 0 3)).2
theorem UM.rm {A : aS} {g g' : z_S} (hM : R_M A g) (h : UM A g g') : R_M A g' := R_M.ag2 hM (fun o h1 h2 => h.1 o (by omega) (by omega) (by omega)) (fun k hk => h.2.1 k (by omega))
theorem UX.rx {A : aS} {g g' : z_S} (hA : I_ok A) (hX : R_X A g) (h : UX A g g') : R_X A g' := R_X.ag2 hA hX (fun o ho => h.1 o (by omega) (by omega) (by omega) (by omega)) (h.2.1 0 (by omega)) (h.2.1 15 (by omega))
theorem m_uses {A : aS} (hA : I_ok A) {g : z_S} (hM : R_M A g) : wp (fX11_findUses g) (fun q => UM A g q.2) := by
  have h3 : A 0 3 ≤ 4 := hA.1.2.2.2.2.1
  unfold fX11_findUses
  rw [p_s]
  refine wp_loop (P := fun s g' => ∃ w, w ≤ 17 ∧ s = nI w ∧ (∀ o, o ≠ 0 → o ≠ 35 → g'.1 o = g.1 o) ∧ (∀ k, k ≠ 48 → g'.1 0 k = g.1 0 k) ∧ g'.2 = g.2 ∧ (∀ v, v < w → g'.1 35 v = nI 0) ∧ g'.1 0 48 = nI 0) (μ := fun s _ => 17 - s.toNatClampNeg) ?_ zN _ _ ⟨0, by omega, rfl, fun o h1 h2 => by rw [p_off h1], fun k hk => by rw [p_on hk], rfl, fun v h => by omega, by rw [p_at]; rfl⟩ (by show 17 - _ < zN; rw [p_zN]; omega)
  rintro rc s g1 ⟨w, hw, rfl, e1, e2, e3, e4, e5⟩ ih
  simp only [fX11_findUses_B7]
  try simp (disch := omega) only [p_g, p_b, p_s, p_gin, p_gblt, p_eqL, p_leL, p_Lle, p_ltL, p_Llt, p_addL, p_subL, p_mulL, p_LmulL, p_eq, p_le, p_lt, p_add, p_sub, p_mul, p_clamp, if_pos, if_neg]
  by_cases hlw : 17 ≤ w
  · have : w = 17 := by omega
    subst this
    rw [if_pos hlw]
    refine wp_loop (P := fun s g' => ∃ l, l ≤ A 0 3 ∧ s = nI l ∧ (∀ o, o ≠ 0 → o ≠ 34 → o ≠ 35 → g'.1 o = g.1 o) ∧ (∀ k, k ≠ 48 → g'.1 0 k = g.1 0 k) ∧ g'.2 = g.2 ∧ (∀ w, w < 16 → g'.1 35 w = nI ((uF A l).1 w)) ∧ g'.1 0 48 = nI (uF A l).2) (μ := fun s _ => A 0 3 - s.toNatClampNeg) ?_ zN _ _ ⟨0, by omega, rfl, fun o h1 h2 h3 => e1 o h1 h3, e2, e3, fun w hw => e4 w (by omega), e5⟩ (by show A 0 3 - _ < zN; rw [p_zN]; omega)
    rintro rc2 s g2 ⟨l, hl, rfl, f1, f2, f3, f4, f5⟩ ih2
    have hM2 : R_M A g2 := R_M.ag2 hM (fun o h1 h2 => f1 o (by omega) (by omega) (by omega)) (fun k hk => f2 k (by omega))
    simp only [fX11_findUses_B28]
    rw [hM2.1.2.2.2.1]
    try simp (disch := omega) only [p_g, p_b, p_s, p_gin, p_gblt, p_eqL, p_leL, p_Lle, p_ltL, p_Llt, p_addL, p_subL, p_mulL, p_LmulL, p_eq, p_le, p_lt, p_add, p_sub, p_mul, p_clamp, if_pos, if_neg]
    by_cases hlt : A 0 3 ≤ l
    · have : l = A 0 3 := by omega
      subst this
      rw [if_pos hlt]
      exact wp_some ⟨f1, f2, f3, f4, f5⟩
    · rw [if_neg hlt]
      apply wp_b
      refine wp_mono (m_useL hA hM2 (by omega) (st := uF A l) f4 f5) ?_
      rintro ⟨u, g4⟩ ⟨b1, b2, b3, b4, b5⟩
      simp only [] at b1 b2 b3 b4 b5 ⊢
      refine ih2 _ _ ⟨l + 1, by omega, rfl, fun o h1 h2 h3 => (b1 o h1 h2 h3).trans (f1 o h1 h2 h3), fun k hk => (b2 k hk).trans (f2 k hk), b3.trans f3, b4, b5⟩ ?_
      show _ - (nI (_ + 1)).toNatClampNeg < _ - (nI _).toNatClampNeg
      rw [p_clamp (by omega), p_clamp (by omega)]
      omega
  · rw [if_neg hlw]
    refine ih _ _ ⟨w + 1, by omega, rfl, ?_, ?_, e3, ?_, ?_⟩ ?_
    · intro o h1 h2
      rw [p_off h2]; exact e1 o h1 h2
    · intro k hk
      rw [p_off (by decide)]; exact e2 k hk
    · intro v hv
      by_cases hvw : v = w
      · subst hvw; rw [p_at]; rfl
      · rw [p_on hvw]; exact e4 v (by omega)
    · rw [p_off (by decide)]; exact e5
    · show _ - (nI (_ + 1)).toNatClampNeg < _ - (nI _).toNatClampNeg
      rw [p_clamp (by omega), p_clamp (by omega)]
      omega
theorem o_uses (v : Int32) : Op0 (fX10_uses v) (fX11_uses v) := by
  refine op_wp (fun A gx gm hA hX hM => ?_)
  have hn := hA.1.2.2.1
  have J : ∀ (r : Int32), (∀ g g' : z_S, (g.1 26 2 = nI (uF A (A 0 3)).2 → g'.1 0 48 = nI (uF A (A 0 3)).2 → (∀ w, w < 16 → g.1 27 w = nI ((uF A (A 0 3)).1 w)) → (∀ w, w < 16 → g'.1 35 w = nI ((uF A (A 0 3)).1 w)) → (if v = (-1) then (some (g.1 26 2, g)) else (z_g (z_in v 16) (some (g.1 27 (v).toNatClampNeg, g)))) = some (r, g) ∧ (if v = (-1) then (some (g'.1 0 48, g')) else (z_g (z_in v 17) (some (g'.1 35 (v).toNatClampNeg, g')))) = some (r, g'))) → wp (fX10_uses_J20 v gx) (fun q => q.1 = r ∧ R_X A q.2 ∧ Cs A A gx q.2) ∧ wp (fX11_uses_J17 v gm) (fun q => q.1 = r ∧ R_M A q.2) := by
    intro r hr
    have q1 := x_match hA hX
    obtain ⟨⟨u1, g1⟩, c1, q1⟩ := q1
    simp only [] at q1
    have hX1 : R_X A g1 := R_X.ag hA hX (fun o ho => q1.1 o (by omega))
    obtain ⟨⟨u2, g2⟩, c2, q2⟩ := x_uses hA hX1 q1.2.2
    simp only [] at q2
    obtain ⟨⟨u3, g3⟩, c3, q3⟩ := m_uses hA hM
    simp only [] at q3
    have q := hr g2 g3 q2.2.2.2.2 q3.2.2.2.2 q2.2.2.2.1 q3.2.2.2.1
    constructor
    · unfold fX10_uses_J20
      rw [c1, p_b, c2, p_b, q.1]
      refine wp_some ⟨rfl, q2.rx hA hX1, Cs.ag2 (fun o ho => ?_) (fun k hk => ?_)⟩
      · rw [q2.1 o (by omega) (by omega) (by omega) (by omega), q1.1 o (by omega)]
      · rw [q2.2.1 k hk, q1.1 26 (by omega)]
    · unfold fX11_uses_J17
      rw [c3, p_b, q.2]
      exact wp_some ⟨rfl, q3.rm hM⟩
  unfold fX10_uses fX11_uses
  by_cases hv : v = -1
  · rw [if_pos hv, if_pos hv]
    exact ⟨nI (uF A (A 0 3)).2, A, hA, J _ (fun g g' h1 h2 h3 h4 => ⟨by rw [if_pos hv, h1], by rw [if_pos hv, h2]⟩)⟩
  · rw [if_neg hv, if_neg hv, m_noWord hA hM, x_has hA hX, p_b, p_b]
    by_cases h : 0 ≤ v.toInt ∧ v.toInt < (A 0 1 : Int)
    · rw [if_pos h, if_pos h, if_neg n10, if_pos rfl]
      obtain ⟨w, -, h2, rfl⟩ := p_rng (a := 0) (b := A 0 1) (by omega) ⟨h.1, by omega⟩
      have hw : w < A 0 1 := by rw [p_toInt (by omega)] at h; omega
      refine ⟨nI ((uF A (A 0 3)).1 w), A, hA, J _ (fun g g' h1 h2 h3 h4 => ⟨?_, ?_⟩)⟩
      · rw [if_neg hv, p_gin (by omega) (by omega), p_clamp (by omega), h3 w (by omega)]
      · rw [if_neg hv, p_gin (by omega) (by omega), p_clamp (by omega), h4 w (by omega)]
    · rw [if_neg h, if_neg h, if_pos rfl, if_neg n10]
      exact ⟨-1001, A, hA, wp_some ⟨rfl, hX, Cs.rf⟩, wp_some ⟨rfl, hM⟩⟩

/-! within: words that begin, end, hide in others -/
theorem p_z0 {β : Type} {x : Option β} : z_g ((0 : Int32) &&& 1 == 0) x = x := rfl
theorem p_z1 {β : Type} {x : Option β} : z_g ((1 : Int32) &&& 1 == 1) x = x := rfl
def lt2 (A : aS) (x y q : Nat) : Nat := if q < A 1 x then A 4 (8 * x + q) else A 4 (8 * y + (q - A 1 x))
def lie (A : aS) (v x y p : Nat) : Prop := p + A 1 v ≤ A 1 x + A 1 y ∧ ∀ i, i < A 1 v → lt2 A x y (p + i) = A 4 (8 * v + i)
def lieD (A : aS) (v x y p : Nat) : Decidable (lie A v x y p) := by unfold lie; infer_instance
theorem lt2_lt {A : aS} (hA : I_ok A) {x y q : Nat} (hx : x < A 0 1) (hy : y < A 0 1) (hq : q < A 1 x + A 1 y) : lt2 A x y q < 8 := by
  have hk := hA.1.2.1
  unfold lt2
  split
  · have := (hA.2.1 x hx).2.2.2.2 q (by omega)
    omega
  · have := (hA.2.1 y hy).2.2.2.2 (q - A 1 x) (by omega)
    omega
theorem x_lies {A : aS} (hA : I_ok A) {g : z_S} (hX : R_X A g) {v x y p : Nat} (hv : v < A 0 1) (hx : x < A 0 1) (hy : y < A 0 1) (hp : p < 100) : fX9_liesAt_4 (nI v) (nI x) (nI y) (nI p) g = some (@ite _ (lie A v x y p) (lieD A v x y p) 1 0, g) := by
  have hn : A 0 1 ≤ 16 := hA.1.2.2.1
  have hk := hA.1.2.1
  obtain ⟨v1, v2, -⟩ := hA.2.1 v hv
  obtain ⟨x1, x2, -⟩ := hA.2.1 x hx
  obtain ⟨y1, y2, -⟩ := hA.2.1 y hy
  unfold fX9_liesAt_4
  rw [(p_clamp (n := v) (by omega)), (p_clamp (n := x) (by omega)), (p_clamp (n := y) (by omega)), (hX.2.1 v hv).1, (hX.2.1 x hx).1, (hX.2.1 y hy).1]
  try simp (disch := omega) only [p_g, p_b, p_s, p_gin, p_gblt, p_eqL, p_leL, p_Lle, p_ltL, p_Llt, p_addL, p_subL, p_mulL, p_LmulL, p_eq, p_le, p_lt, p_add, p_sub, p_mul, p_clamp, if_pos, if_neg]
  by_cases hb : p + A 1 v ≤ A 1 x + A 1 y
  · rw [if_pos hb]
    refine p_loop (P := fun a g' => ∃ i, i ≤ A 1 v ∧ a = (nI v, nI x, nI y, nI p, nI (A 1 x), nI i) ∧ g' = g ∧ ∀ j, j < i → lt2 A x y (p + j) = A 4 (8 * v + j)) (μ := fun a _ => A 1 v - a.2.2.2.2.2.toNatClampNeg) ?_ zN _ _ ⟨0, by omega, rfl, rfl, fun j hj => by omega⟩ (by show A 1 v - _ < zN; rw [p_zN]; omega)
    rintro rc a g' ⟨i, hi, rfl, rfl, e⟩ ih
    simp only [fX9_liesAt_4_B39]
    rw [(p_clamp (n := v) (by omega)), (hX.2.1 v hv).1]
    try simp (disch := omega) only [p_g, p_b, p_s, p_gin, p_gblt, p_eqL, p_leL, p_Lle, p_ltL, p_Llt, p_addL, p_subL, p_mulL, p_LmulL, p_eq, p_le, p_lt, p_add, p_sub, p_mul, p_clamp, if_pos, if_neg]
    by_cases hlt : A 1 v ≤ i
    · rw [if_pos hlt, if_pos ⟨hb, fun j hj => e j (by omega)⟩]
    · rw [if_neg hlt]
      have key : ∀ s, s = lt2 A x y (p + i) → fX9_liesAt_4_J84 rc (nI v) (nI x) (nI y) (nI p) (nI (A 1 x)) (nI i) (nI s) g' = some (@ite _ (lie A v x y p) (lieD A v x y p) 1 0, g') := by
        intro s hs
        have hs8 : s < 8 := by rw [hs]; exact lt2_lt hA hx hy (by omega)
        have hw8 : A 4 (8 * v + i) < A 0 0 := (hA.2.1 v hv).2.2.2.2 i (by omega)
        unfold fX9_liesAt_4_J84
        rw [x_sign hA hX hv (by omega), p_b]
        try simp (disch := omega) only [p_g, p_b, p_s, p_gin, p_gblt, p_eqL, p_leL, p_Lle, p_ltL, p_Llt, p_addL, p_subL, p_mulL, p_LmulL, p_eq, p_le, p_lt, p_add, p_sub, p_mul, p_clamp, if_pos, if_neg]
        by_cases he : s = A 4 (8 * v + i)
        · rw [if_pos he]
          refine ih _ _ ⟨i + 1, by omega, rfl, rfl, fun j hj => ?_⟩ ?_
          · by_cases hji : j = i
            · subst hji; rw [← hs]; exact he
            · exact e j (by omega)
          · show _ - (nI (_ + 1)).toNatClampNeg < _ - (nI _).toNatClampNeg
            rw [p_clamp (by omega), p_clamp (by omega)]
            omega
        · rw [if_neg he, if_neg]
          intro hl
          exact he (by rw [hs]; exact hl.2 i (by omega))
      by_cases hq : A 1 x ≤ p + i
      · rw [if_pos hq, x_sign hA hX hy (by omega), p_b]
        refine key _ ?_
        unfold lt2
        rw [if_neg (by omega)]
      · rw [if_neg hq, x_sign hA hX hx (by omega), p_b]
        refine key _ ?_
        unfold lt2
        rw [if_pos (by omega)]
  · rw [if_neg hb, if_neg (fun h => hb h.1)]
theorem m_letterOf {A : aS} (hA : I_ok A) {g : z_S} (hM : R_M A g) {x y q : Nat} (hx : x < A 0 1) (hy : y < A 0 1) (hq : q < A 1 x + A 1 y) : fX11_letterOf (nI x) (nI y) (nI q) g = some (nI (lt2 A x y q), g) := by
  have hn : A 0 1 ≤ 16 := hA.1.2.2.1
  obtain ⟨x1, x2, -⟩ := hA.2.1 x hx
  obtain ⟨y1, y2, -⟩ := hA.2.1 y hy
  unfold fX11_letterOf lt2
  rw [(p_clamp (n := x) (by omega)), (hM.2.1 x hx).1]
  try simp (disch := omega) only [p_g, p_b, p_s, p_gin, p_gblt, p_eqL, p_leL, p_Lle, p_ltL, p_Llt, p_addL, p_subL, p_mulL, p_LmulL, p_eq, p_le, p_lt, p_add, p_sub, p_mul, p_clamp, if_pos, if_neg]
  by_cases h : A 1 x ≤ q
  · rw [if_pos h, if_neg (by omega)]
    try simp (disch := omega) only [p_g, p_b, p_s, p_gin, p_gblt, p_eqL, p_leL, p_Lle, p_ltL, p_Llt, p_addL, p_subL, p_mulL, p_LmulL, p_eq, p_le, p_lt, p_add, p_sub, p_mul, p_clamp, if_pos, if_neg]
    rw [show 8 * y + q - A 1 x = 8 * y + (q - A 1 x) by omega, (hM.2.1 y hy).2.2.2 _ (by omega)]
  · rw [if_neg h, if_pos (by omega), (hM.2.1 x hx).2.2.2 _ (by omega)]
theorem m_comes {A : aS} (hA : I_ok A) {g : z_S} (hM : R_M A g) {v x y p : Nat} (hv : v < A 0 1) (hx : x < A 0 1) (hy : y < A 0 1) (hp : p < 100) : fX11_comesIn (nI v) (nI x) (nI y) (nI p) g = some (@ite _ (lie A v x y p) (lieD A v x y p) 1 0, g) := by
  have hn : A 0 1 ≤ 16 := hA.1.2.2.1
  have hk := hA.1.2.1
  obtain ⟨v1, v2, -⟩ := hA.2.1 v hv
  obtain ⟨x1, x2, -⟩ := hA.2.1 x hx
  obtain ⟨y1, y2, -⟩ := hA.2.1 y hy
  have key : ∀ (b : Int32), (b = 1 ∧ p + A 1 v ≤ A 1 x + A 1 y) ∨ (b = 0 ∧ ¬ lie A v x y p) → z_loop fX11_comesIn_B35 zN (nI v, nI x, nI y, nI p, b, 0) g = some (@ite _ (lie A v x y p) (lieD A v x y p) 1 0, g) := by
    intro b hb
    refine p_loop (P := fun a g' => ∃ (i : Nat) (b : Int32), i ≤ A 1 v ∧ a = (nI v, nI x, nI y, nI p, b, nI i) ∧ g' = g ∧ ((b = 1 ∧ p + A 1 v ≤ A 1 x + A 1 y ∧ ∀ j, j < i → lt2 A x y (p + j) = A 4 (8 * v + j)) ∨ (b = 0 ∧ ¬ lie A v x y p))) (μ := fun a _ => A 1 v - a.2.2.2.2.2.toNatClampNeg) ?_ zN _ _ ⟨0, b, by omega, rfl, rfl, ?_⟩ (by show A 1 v - _ < zN; rw [p_zN]; omega)
    · rintro rc a g' ⟨i, b, hi, rfl, rfl, e⟩ ih
      simp only [fX11_comesIn_B35]
      rw [(p_clamp (n := v) (by omega)), (hM.2.1 v hv).1]
      try simp (disch := omega) only [p_g, p_b, p_s, p_gin, p_gblt, p_eqL, p_leL, p_Lle, p_ltL, p_Llt, p_addL, p_subL, p_mulL, p_LmulL, p_eq, p_le, p_lt, p_add, p_sub, p_mul, p_clamp, if_pos, if_neg]
      rcases e with ⟨rfl, hb, e⟩ | ⟨rfl, e⟩
      · by_cases hlt : A 1 v ≤ i
        · rw [if_pos hlt, if_pos ⟨hb, fun j hj => e j (by omega)⟩]
          rfl
        · rw [if_neg hlt, if_neg n10, m_letterOf hA hM hx hy (by omega), p_b, (hM.2.1 v hv).2.2.2 _ (by omega)]
          have h1 := lt2_lt hA hx hy (q := p + i) (by omega)
          have h2 : A 4 (8 * v + i) < A 0 0 := (hA.2.1 v hv).2.2.2.2 i (by omega)
          try simp (disch := omega) only [p_g, p_b, p_s, p_gin, p_gblt, p_eqL, p_leL, p_Lle, p_ltL, p_Llt, p_addL, p_subL, p_mulL, p_LmulL, p_eq, p_le, p_lt, p_add, p_sub, p_mul, p_clamp, if_pos, if_neg]
          by_cases he : A 4 (8 * v + i) = lt2 A x y (p + i)
          · rw [if_pos he]
            refine ih _ _ ⟨i + 1, 1, by omega, rfl, rfl, Or.inl ⟨rfl, hb, fun j hj => ?_⟩⟩ ?_
            · by_cases hji : j = i
              · subst hji; exact he.symm
              · exact e j (by omega)
            · show _ - (nI (_ + 1)).toNatClampNeg < _ - (nI _).toNatClampNeg
              rw [p_clamp (by omega), p_clamp (by omega)]
              omega
          · rw [if_neg he]
            refine ih _ _ ⟨i + 1, 0, by omega, rfl, rfl, Or.inr ⟨rfl, fun hl => he (hl.2 i (by omega)).symm⟩⟩ ?_
            show _ - (nI (_ + 1)).toNatClampNeg < _ - (nI _).toNatClampNeg
            rw [p_clamp (by omega), p_clamp (by omega)]
            omega
      · rw [if_neg e, if_pos rfl]
        by_cases hlt : A 1 v ≤ i
        · rw [if_pos hlt]; rfl
        · rw [if_neg hlt]; rfl
    · rcases hb with ⟨h1, h2⟩ | h
      · exact Or.inl ⟨h1, h2, fun j hj => by omega⟩
      · exact Or.inr h
  unfold fX11_comesIn
  rw [(p_clamp (n := v) (by omega)), (p_clamp (n := x) (by omega)), (p_clamp (n := y) (by omega)), (hM.2.1 v hv).1, (hM.2.1 x hx).1, (hM.2.1 y hy).1]
  try simp (disch := omega) only [p_g, p_b, p_s, p_gin, p_gblt, p_eqL, p_leL, p_Lle, p_ltL, p_Llt, p_addL, p_subL, p_mulL, p_LmulL, p_eq, p_le, p_lt, p_add, p_sub, p_mul, p_clamp, if_pos, if_neg]
  by_cases hb : A 1 x + A 1 y < p + A 1 v
  · rw [if_pos hb]
    exact key 0 (Or.inr ⟨rfl, fun hl => by have := hl.1; omega⟩)
  · rw [if_neg hb]
    exact key 1 (Or.inl ⟨rfl, by omega⟩)

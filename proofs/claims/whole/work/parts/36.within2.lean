/-! within, continued -/
def hidIn (A : aS) (v x y : Nat) : Prop := ∃ p, lie A v x y p ∧ ¬ ((p = 0 ∧ v = x) ∨ (p = A 1 x ∧ v = y))
noncomputable def ci (c : Prop) : Nat := @ite _ c (Classical.propDecidable c) 1 0
theorem ci_t {c : Prop} (h : c) : ci c = 1 := if_pos h
theorem ci_f {c : Prop} (h : ¬ c) : ci c = 0 := if_neg h
theorem ci_le (c : Prop) : ci c ≤ 1 := by
  by_cases h : c
  · rw [ci_t h]; omega
  · rw [ci_f h]; omega
theorem lie_ci {A : aS} {v x y p : Nat} {d : Decidable (lie A v x y p)} : (@ite Int32 (lie A v x y p) d 1 0) = nI (ci (lie A v x y p)) := by
  by_cases h : lie A v x y p
  · rw [if_pos h, ci_t h]; rfl
  · rw [if_neg h, ci_f h]; rfl
theorem lie_p {A : aS} {v x y p : Nat} (h : lie A v x y p) : p + A 1 v ≤ A 1 x + A 1 y := h.1
theorem x_hidIn {A : aS} (hA : I_ok A) {g : z_S} (hX : R_X A g) {v x y : Nat} (hv : v < A 0 1) (hx : x < A 0 1) (hy : y < A 0 1) : fX10_isHiddenIn (nI v) (nI x) (nI y) g = some (nI (ci (hidIn A v x y)), g) := by
  have hn : A 0 1 ≤ 16 := hA.1.2.2.1
  obtain ⟨v1, v2, -⟩ := hA.2.1 v hv
  obtain ⟨x1, x2, -⟩ := hA.2.1 x hx
  obtain ⟨y1, y2, -⟩ := hA.2.1 y hy
  unfold fX10_isHiddenIn
  rw [(p_clamp (n := v) (by omega)), (p_clamp (n := x) (by omega)), (p_clamp (n := y) (by omega)), (hX.2.1 v hv).1, (hX.2.1 x hx).1, (hX.2.1 y hy).1]
  try simp (disch := omega) only [p_g, p_b, p_s, p_gin, p_gblt, p_eqL, p_leL, p_Lle, p_ltL, p_Llt, p_addL, p_subL, p_mulL, p_LmulL, p_eq, p_le, p_lt, p_add, p_sub, p_mul, p_clamp, if_pos, if_neg]
  have hL0 : (nI (A 1 x + A 1 y) - nI (A 1 v)).toInt = ((A 1 x + A 1 y : Nat) : Int) - (A 1 v : Nat) := pk_sub_toInt (by omega) (by omega)
  generalize nI (A 1 x + A 1 y) - nI (A 1 v) = L at hL0 ⊢
  refine p_loop (P := fun a g' => ∃ p, p ≤ A 1 x + A 1 y + 1 ∧ a = (nI v, nI x, nI y, L, nI p) ∧ g' = g ∧ ∀ q, q < p → ¬ (lie A v x y q ∧ ¬ ((q = 0 ∧ v = x) ∨ (q = A 1 x ∧ v = y)))) (μ := fun a _ => A 1 x + A 1 y + 1 - a.2.2.2.2.toNatClampNeg) ?_ zN _ _ ⟨0, by omega, rfl, rfl, fun q hq => by omega⟩ (by show A 1 x + A 1 y + 1 - _ < zN; rw [p_zN]; omega)
  rintro rc a g' ⟨p, hp, rfl, rfl, e⟩ ih
  simp only [fX10_isHiddenIn_B34]
  by_cases hlt : A 1 x + A 1 y < p + A 1 v
  · rw [if_pos (by rw [p_ltI (by omega), hL0]; omega), ci_f]
    · rfl
    · rintro ⟨q, h1, h2⟩
      have := h1.1
      exact e q (by omega) ⟨h1, h2⟩
  · rw [if_neg (by rw [p_ltI (by omega), hL0]; omega)]
    have hdec : A 1 x + A 1 y + 1 - (nI (p + 1)).toNatClampNeg < A 1 x + A 1 y + 1 - (nI p).toNatClampNeg := by
      rw [p_clamp (by omega), p_clamp (by omega)]
      omega
    have k1 : ((p = 0 ∧ v = x) ∨ (p = A 1 x ∧ v = y)) → fX10_isHiddenIn_J75 rc (nI v) (nI x) (nI y) L (nI p) 1 g' = some (nI (ci (hidIn A v x y)), g') := by
      intro hw
      unfold fX10_isHiddenIn_J75
      rw [if_neg n10, p_addL]
      refine ih _ _ ⟨p + 1, by omega, rfl, rfl, fun q hq => ?_⟩ hdec
      by_cases hqp : q = p
      · subst hqp; exact fun h => h.2 hw
      · exact e q (by omega)
    have k0 : ¬ ((p = 0 ∧ v = x) ∨ (p = A 1 x ∧ v = y)) → fX10_isHiddenIn_J75 rc (nI v) (nI x) (nI y) L (nI p) 0 g' = some (nI (ci (hidIn A v x y)), g') := by
      intro hw
      unfold fX10_isHiddenIn_J75
      rw [if_pos rfl, x_lies hA hX hv hx hy (by omega), p_b]
      by_cases hl : lie A v x y p
      · rw [if_pos hl, if_neg n10, ci_t ⟨p, hl, hw⟩]
        rfl
      · rw [if_neg hl, if_pos rfl, p_addL]
        refine ih _ _ ⟨p + 1, by omega, rfl, rfl, fun q hq => ?_⟩ hdec
        by_cases hqp : q = p
        · subst hqp; exact fun h => hl h.1
        · exact e q (by omega)
    have k51 : ¬ (p = 0 ∧ v = x) → fX10_isHiddenIn_J51 rc (nI v) (nI x) (nI y) L (nI p) g' = some (nI (ci (hidIn A v x y)), g') := by
      intro hw
      unfold fX10_isHiddenIn_J51
      rw [(p_clamp (n := x) (by omega)), (hX.2.1 x hx).1]
      try simp (disch := omega) only [p_g, p_b, p_s, p_gin, p_gblt, p_eqL, p_leL, p_Lle, p_ltL, p_Llt, p_addL, p_subL, p_mulL, p_LmulL, p_eq, p_le, p_lt, p_add, p_sub, p_mul, p_clamp, if_pos, if_neg]
      by_cases h1 : p = A 1 x
      · rw [if_pos h1]
        by_cases h2 : v = y
        · rw [if_pos h2]; exact k1 (Or.inr ⟨h1, h2⟩)
        · rw [if_neg h2]; exact k0 (fun h => h.elim hw (fun h => h2 h.2))
      · rw [if_neg h1]; exact k0 (fun h => h.elim hw (fun h => h1 h.1))
    try simp (disch := omega) only [p_g, p_b, p_s, p_gin, p_gblt, p_eqL, p_leL, p_Lle, p_ltL, p_Llt, p_addL, p_subL, p_mulL, p_LmulL, p_eq, p_le, p_lt, p_add, p_sub, p_mul, p_clamp, if_pos, if_neg]
    by_cases h1 : p = 0
    · rw [if_pos h1]
      by_cases h2 : v = x
      · rw [if_pos h2]; exact k1 (Or.inl ⟨h1, h2⟩)
      · rw [if_neg h2]; exact k51 (fun h => h2 h.2)
    · rw [if_neg h1]; exact k51 (fun h => h1 h.1)
def hid (A : aS) (v : Nat) : Prop := ∃ x y, x < A 0 1 ∧ y < A 0 1 ∧ hidIn A v x y
theorem x_hid {A : aS} (hA : I_ok A) {g : z_S} (hX : R_X A g) {v : Nat} (hv : v < A 0 1) : fX10_isHidden (nI v) g = some (nI (ci (hid A v)), g) := by
  have hn : A 0 1 ≤ 16 := hA.1.2.2.1
  unfold fX10_isHidden
  refine p_loop (P := fun a g' => ∃ x, x ≤ A 0 1 ∧ a = (nI v, nI x) ∧ g' = g ∧ ∀ x' y, x' < x → y < A 0 1 → ¬ hidIn A v x' y) (μ := fun a _ => A 0 1 - a.2.toNatClampNeg) ?_ zN _ _ ⟨0, by omega, rfl, rfl, fun q y hq => by omega⟩ (by show A 0 1 - _ < zN; rw [p_zN]; omega)
  rintro rc a g' ⟨x, hx, rfl, rfl, e⟩ ih
  simp only [fX10_isHidden_B2]
  rw [hX.1.2.1]
  try simp (disch := omega) only [p_g, p_b, p_s, p_gin, p_gblt, p_eqL, p_leL, p_Lle, p_ltL, p_Llt, p_addL, p_subL, p_mulL, p_LmulL, p_eq, p_le, p_lt, p_add, p_sub, p_mul, p_clamp, if_pos, if_neg]
  by_cases hlt : A 0 1 ≤ x
  · rw [if_pos hlt, ci_f]
    · rfl
    · rintro ⟨x', y, h1, h2, h3⟩
      exact e x' y (by omega) h2 h3
  · rw [if_neg hlt]
    refine p_loop (P := fun a g'' => ∃ y, y ≤ A 0 1 ∧ a = (nI v, nI x, nI y) ∧ g'' = g' ∧ ∀ y', y' < y → ¬ hidIn A v x y') (μ := fun a _ => A 0 1 - a.2.2.toNatClampNeg) ?_ zN _ _ ⟨0, by omega, rfl, rfl, fun q hq => by omega⟩ (by show A 0 1 - _ < zN; rw [p_zN]; omega)
    rintro rc2 a g'' ⟨y, hy, rfl, rfl, e2⟩ ih2
    simp only [fX10_isHidden_B15]
    rw [hX.1.2.1]
    try simp (disch := omega) only [p_g, p_b, p_s, p_gin, p_gblt, p_eqL, p_leL, p_Lle, p_ltL, p_Llt, p_addL, p_subL, p_mulL, p_LmulL, p_eq, p_le, p_lt, p_add, p_sub, p_mul, p_clamp, if_pos, if_neg]
    by_cases hly : A 0 1 ≤ y
    · rw [if_pos hly]
      refine ih _ _ ⟨x + 1, by omega, rfl, rfl, fun x' y' h1 h2 => ?_⟩ ?_
      · by_cases hxx : x' = x
        · subst hxx; exact e2 y' (by omega)
        · exact e x' y' (by omega) h2
      · show _ - (nI (_ + 1)).toNatClampNeg < _ - (nI _).toNatClampNeg
        rw [p_clamp (by omega), p_clamp (by omega)]
        omega
    · rw [if_neg hly, x_hidIn hA hX hv (by omega) (by omega), p_b]
      by_cases hh : hidIn A v x y
      · rw [ci_t hh, ci_t ⟨x, y, by omega, by omega, hh⟩]; rfl
      · rw [ci_f hh]
        show rc2 (nI v, nI x, nI (y + 1)) g'' = _
        refine ih2 _ _ ⟨y + 1, by omega, rfl, rfl, fun y' h1 => ?_⟩ ?_
        · by_cases hyy : y' = y
          · subst hyy; exact hh
          · exact e2 y' (by omega)
        · show _ - (nI (_ + 1)).toNatClampNeg < _ - (nI _).toNatClampNeg
          rw [p_clamp (by omega), p_clamp (by omega)]
          omega
theorem m_hid {A : aS} (hA : I_ok A) {g : z_S} (hM : R_M A g) {v : Nat} (hv : v < A 0 1) : fX11_hides (nI v) g = some (nI (ci (hid A v)), g) := by
  have hn : A 0 1 ≤ 16 := hA.1.2.2.1
  obtain ⟨v1, v2, -⟩ := hA.2.1 v hv
  unfold fX11_hides
  refine p_loop (P := fun a g' => ∃ x, x ≤ A 0 1 ∧ a = (nI v, nI x) ∧ g' = g ∧ ∀ x' y, x' < x → y < A 0 1 → ¬ hidIn A v x' y) (μ := fun a _ => A 0 1 - a.2.toNatClampNeg) ?_ zN _ _ ⟨0, by omega, rfl, rfl, fun q y hq => by omega⟩ (by show A 0 1 - _ < zN; rw [p_zN]; omega)
  rintro rc a g' ⟨x, hx, rfl, rfl, e⟩ ih
  simp only [fX11_hides_B2]
  rw [hM.1.2.1]
  try simp (disch := omega) only [p_g, p_b, p_s, p_gin, p_gblt, p_eqL, p_leL, p_Lle, p_ltL, p_Llt, p_addL, p_subL, p_mulL, p_LmulL, p_eq, p_le, p_lt, p_add, p_sub, p_mul, p_clamp, if_pos, if_neg]
  by_cases hlt : A 0 1 ≤ x
  · rw [if_pos hlt, ci_f]
    · rfl
    · rintro ⟨x', y, h1, h2, h3⟩
      exact e x' y (by omega) h2 h3
  · rw [if_neg hlt]
    refine p_loop (P := fun a g'' => ∃ y, y ≤ A 0 1 ∧ a = (nI v, nI x, nI y) ∧ g'' = g' ∧ ∀ y', y' < y → ¬ hidIn A v x y') (μ := fun a _ => A 0 1 - a.2.2.toNatClampNeg) ?_ zN _ _ ⟨0, by omega, rfl, rfl, fun q hq => by omega⟩ (by show A 0 1 - _ < zN; rw [p_zN]; omega)
    rintro rc2 a g'' ⟨y, hy, rfl, rfl, e2⟩ ih2
    simp only [fX11_hides_B12]
    rw [hM.1.2.1]
    try simp (disch := omega) only [p_g, p_b, p_s, p_gin, p_gblt, p_eqL, p_leL, p_Lle, p_ltL, p_Llt, p_addL, p_subL, p_mulL, p_LmulL, p_eq, p_le, p_lt, p_add, p_sub, p_mul, p_clamp, if_pos, if_neg]
    by_cases hly : A 0 1 ≤ y
    · rw [if_pos hly]
      refine ih _ _ ⟨x + 1, by omega, rfl, rfl, fun x' y' h1 h2 => ?_⟩ ?_
      · by_cases hxx : x' = x
        · subst hxx; exact e2 y' (by omega)
        · exact e x' y' (by omega) h2
      · show _ - (nI (_ + 1)).toNatClampNeg < _ - (nI _).toNatClampNeg
        rw [p_clamp (by omega), p_clamp (by omega)]
        omega
    · rw [if_neg hly]
      have hx' : x < A 0 1 := by omega
      have hy' : y < A 0 1 := by omega
      obtain ⟨x1, x2, -⟩ := hA.2.1 x hx'
      obtain ⟨y1, y2, -⟩ := hA.2.1 y hy'
      refine p_loop (P := fun a g3 => ∃ p, p ≤ A 1 x + A 1 y ∧ a = (nI v, nI x, nI y, nI p) ∧ g3 = g'' ∧ ∀ q, q < p → ¬ (lie A v x y q ∧ ¬ ((q = 0 ∧ v = x) ∨ (q = A 1 x ∧ v = y)))) (μ := fun a _ => A 1 x + A 1 y - a.2.2.2.toNatClampNeg) ?_ zN _ _ ⟨0, by omega, rfl, rfl, fun q hq => by omega⟩ (by show A 1 x + A 1 y - _ < zN; rw [p_zN]; omega)
      rintro rc3 a g3 ⟨p, hp, rfl, rfl, e3⟩ ih3
      simp only [fX11_hides_B23]
      rw [(p_clamp (n := x) (by omega)), (p_clamp (n := y) (by omega)), (hM.2.1 x hx').1, (hM.2.1 y hy').1]
      try simp (disch := omega) only [p_g, p_b, p_s, p_gin, p_gblt, p_eqL, p_leL, p_Lle, p_ltL, p_Llt, p_addL, p_subL, p_mulL, p_LmulL, p_eq, p_le, p_lt, p_add, p_sub, p_mul, p_clamp, if_pos, if_neg]
      by_cases hlp : A 1 x + A 1 y ≤ p
      · rw [if_pos hlp]
        refine ih2 _ _ ⟨y + 1, by omega, rfl, rfl, fun y' h1 => ?_⟩ ?_
        · by_cases hyy : y' = y
          · subst hyy
            rintro ⟨q, h1, h2⟩
            have := h1.1
            exact e3 q (by omega) ⟨h1, h2⟩
          · exact e2 y' (by omega)
        · show _ - (nI (_ + 1)).toNatClampNeg < _ - (nI _).toNatClampNeg
          rw [p_clamp (by omega), p_clamp (by omega)]
          omega
      · rw [if_neg hlp]
        have hdec : A 1 x + A 1 y - (nI (p + 1)).toNatClampNeg < A 1 x + A 1 y - (nI p).toNatClampNeg := by
          rw [p_clamp (by omega), p_clamp (by omega)]
          omega
        have k1 : ((p = 0 ∧ v = x) ∨ (p = A 1 x ∧ v = y)) → fX11_hides_J72 rc3 (nI v) (nI x) (nI y) (nI p) 1 g3 = some (nI (ci (hid A v)), g3) := by
          intro hw
          unfold fX11_hides_J72
          rw [if_neg n10, p_addL]
          refine ih3 _ _ ⟨p + 1, by omega, rfl, rfl, fun q hq => ?_⟩ hdec
          by_cases hqp : q = p
          · subst hqp; exact fun h => h.2 hw
          · exact e3 q (by omega)
        have k0 : ¬ ((p = 0 ∧ v = x) ∨ (p = A 1 x ∧ v = y)) → fX11_hides_J72 rc3 (nI v) (nI x) (nI y) (nI p) 0 g3 = some (nI (ci (hid A v)), g3) := by
          intro hw
          unfold fX11_hides_J72
          rw [if_pos rfl, m_comes hA hM hv hx' hy' (by omega), p_b]
          by_cases hl : lie A v x y p
          · rw [if_pos hl, if_neg n10, ci_t ⟨x, y, hx', hy', p, hl, hw⟩]
            rfl
          · rw [if_neg hl, if_pos rfl, p_addL]
            refine ih3 _ _ ⟨p + 1, by omega, rfl, rfl, fun q hq => ?_⟩ hdec
            by_cases hqp : q = p
            · subst hqp; exact fun h => hl h.1
            · exact e3 q (by omega)
        have k51 : ¬ (p = 0 ∧ v = x) → fX11_hides_J51 rc3 (nI v) (nI x) (nI y) (nI p) g3 = some (nI (ci (hid A v)), g3) := by
          intro hw
          unfold fX11_hides_J51
          rw [(p_clamp (n := x) (by omega)), (hM.2.1 x hx').1]
          try simp (disch := omega) only [p_g, p_b, p_s, p_gin, p_gblt, p_eqL, p_leL, p_Lle, p_ltL, p_Llt, p_addL, p_subL, p_mulL, p_LmulL, p_eq, p_le, p_lt, p_add, p_sub, p_mul, p_clamp, if_pos, if_neg]
          by_cases h1 : p = A 1 x
          · rw [if_pos h1]
            by_cases h2 : v = y
            · rw [if_pos h2]; exact k1 (Or.inr ⟨h1, h2⟩)
            · rw [if_neg h2]; exact k0 (fun h => h.elim hw (fun h => h2 h.2))
          · rw [if_neg h1]; exact k0 (fun h => h.elim hw (fun h => h1 h.1))
        by_cases h1 : p = 0
        · rw [if_pos h1]
          by_cases h2 : v = x
          · rw [if_pos h2]; exact k1 (Or.inl ⟨h1, h2⟩)
          · rw [if_neg h2]; exact k51 (fun h => h2 h.2)
        · rw [if_neg h1]; exact k51 (fun h => h1 h.1)
theorem sm_one {f : Nat → Nat} : ∀ n, (∀ i, i < n → f i ≤ 1) → sm f n ≤ n := fun n h => by
  have := sm_le (c := 1) n h
  omega
theorem x_cntHid {A : aS} (hA : I_ok A) {g : z_S} (hX : R_X A g) : fX10_countHidden g = some (nI (sm (fun v => ci (hid A v)) (A 0 1)), g) := by
  have hn : A 0 1 ≤ 16 := hA.1.2.2.1
  unfold fX10_countHidden
  refine p_loop (P := fun a g' => ∃ v, v ≤ A 0 1 ∧ a = (nI (sm (fun v => ci (hid A v)) v), nI v) ∧ g' = g) (μ := fun a _ => A 0 1 - a.2.toNatClampNeg) ?_ zN _ _ ⟨0, by omega, rfl, rfl⟩ (by show A 0 1 - _ < zN; rw [p_zN]; omega)
  rintro rc a g' ⟨v, hv, rfl, rfl⟩ ih
  simp only [fX10_countHidden_B4]
  rw [hX.1.2.1]
  try simp (disch := omega) only [p_g, p_b, p_s, p_gin, p_gblt, p_eqL, p_leL, p_Lle, p_ltL, p_Llt, p_addL, p_subL, p_mulL, p_LmulL, p_eq, p_le, p_lt, p_add, p_sub, p_mul, p_clamp, if_pos, if_neg]
  by_cases hlt : A 0 1 ≤ v
  · have : v = A 0 1 := by omega
    subst this
    rw [if_pos hlt]
  · rw [if_neg hlt, x_hid hA hX (by omega), p_b]
    have hdec : A 0 1 - (nI (v + 1)).toNatClampNeg < A 0 1 - (nI v).toNatClampNeg := by
      rw [p_clamp (by omega), p_clamp (by omega)]
      omega
    by_cases hh : hid A v
    · rw [ci_t hh]
      show rc (nI (sm _ v + 1), nI (v + 1)) g' = _
      refine ih _ _ ⟨v + 1, by omega, ?_, rfl⟩ hdec
      rw [sm, ci_t hh]
    · rw [ci_f hh]
      show rc (nI (sm _ v), nI (v + 1)) g' = _
      refine ih _ _ ⟨v + 1, by omega, ?_, rfl⟩ hdec
      rw [sm, ci_f hh]; rfl
/-- v begins (e = 0) or ends (e = 1) the longer word w -/
def bg (A : aS) (e v w : Nat) : Prop := A 1 v < A 1 w ∧ ∀ i, i < A 1 v → A 4 (8 * w + ((if e = 0 then 0 else A 1 w - A 1 v) + i)) = A 4 (8 * v + i)
theorem bg_lie {A : aS} {e v w : Nat} (h : A 1 v < A 1 w) : lie A v w w (if e = 0 then 0 else A 1 w - A 1 v) ↔ bg A e v w := by
  constructor
  · rintro ⟨h1, h2⟩
    refine ⟨h, fun i hi => ?_⟩
    have := h2 i hi
    unfold lt2 at this
    rw [if_pos (by split <;> omega)] at this
    exact this
  · rintro ⟨h1, h2⟩
    refine ⟨by split <;> omega, fun i hi => ?_⟩
    unfold lt2
    rw [if_pos (by split <;> omega)]
    exact h2 i hi
theorem x_pairs {A : aS} (hA : I_ok A) {g : z_S} (hX : R_X A g) {e : Nat} (he : e ≤ 1) : fX10_countPairs (nI (1 - e)) g = some (nI (sm (fun v => sm (fun w => ci (bg A e v w)) (A 0 1)) (A 0 1)), g) := by
  have hn : A 0 1 ≤ 16 := hA.1.2.2.1
  have hin : ∀ v n, n ≤ 16 → sm (fun w => ci (bg A e v w)) n ≤ n := fun v n _ => sm_one n (fun i _ => ci_le _)
  have hout : ∀ n, n ≤ 16 → sm (fun v => sm (fun w => ci (bg A e v w)) (A 0 1)) n ≤ n * 16 := fun n _ => sm_le n (fun i _ => Nat.le_trans (hin i _ hn) hn)
  unfold fX10_countPairs
  refine p_loop (P := fun a g' => ∃ v, v ≤ A 0 1 ∧ a = (nI (1 - e), nI (sm (fun v => sm (fun w => ci (bg A e v w)) (A 0 1)) v), nI v) ∧ g' = g) (μ := fun a _ => A 0 1 - a.2.2.toNatClampNeg) ?_ zN _ _ ⟨0, by omega, rfl, rfl⟩ (by show A 0 1 - _ < zN; rw [p_zN]; omega)
  rintro rc a g' ⟨v, hv, rfl, rfl⟩ ih
  simp only [fX10_countPairs_B4]
  rw [hX.1.2.1]
  try simp (disch := omega) only [p_g, p_b, p_s, p_gin, p_gblt, p_eqL, p_leL, p_Lle, p_ltL, p_Llt, p_addL, p_subL, p_mulL, p_LmulL, p_eq, p_le, p_lt, p_add, p_sub, p_mul, p_clamp, if_pos, if_neg]
  by_cases hlt : A 0 1 ≤ v
  · have : v = A 0 1 := by omega
    subst this
    rw [if_pos hlt]
  · rw [if_neg hlt]
    have hv' : v < A 0 1 := by omega
    obtain ⟨v1, v2, -⟩ := hA.2.1 v hv'
    refine p_loop (P := fun a g'' => ∃ w, w ≤ A 0 1 ∧ a = (nI (1 - e), nI (sm (fun v => sm (fun w => ci (bg A e v w)) (A 0 1)) v + sm (fun w => ci (bg A e v w)) w), nI v, nI w) ∧ g'' = g') (μ := fun a _ => A 0 1 - a.2.2.2.toNatClampNeg) ?_ zN _ _ ⟨0, by omega, rfl, rfl⟩ (by show A 0 1 - _ < zN; rw [p_zN]; omega)
    rintro rc2 a g'' ⟨w, hw, rfl, rfl⟩ ih2
    simp only [fX10_countPairs_B18]
    rw [hX.1.2.1]
    try simp (disch := omega) only [p_g, p_b, p_s, p_gin, p_gblt, p_eqL, p_leL, p_Lle, p_ltL, p_Llt, p_addL, p_subL, p_mulL, p_LmulL, p_eq, p_le, p_lt, p_add, p_sub, p_mul, p_clamp, if_pos, if_neg]
    by_cases hlw : A 0 1 ≤ w
    · have : w = A 0 1 := by omega
      subst this
      rw [if_pos hlw]
      refine ih _ _ ⟨v + 1, by omega, rfl, rfl⟩ ?_
      show _ - (nI (_ + 1)).toNatClampNeg < _ - (nI _).toNatClampNeg
      rw [p_clamp (by omega), p_clamp (by omega)]
      omega
    · have hw' : w < A 0 1 := by omega
      obtain ⟨w1, w2, -⟩ := hA.2.1 w hw'
      rw [if_neg hlw, (hX.2.1 v hv').1, (hX.2.1 w hw').1]
      have hdec : A 0 1 - (nI (w + 1)).toNatClampNeg < A 0 1 - (nI w).toNatClampNeg := by
        rw [p_clamp (by omega), p_clamp (by omega)]
        omega
      by_cases hs : A 1 w ≤ A 1 v
      · rw [if_pos (by rw [Int32.le_iff_toInt_le, t_0, pk_sub_toInt (by omega) (by omega)]; omega)]
        refine ih2 _ _ ⟨w + 1, by omega, ?_, rfl⟩ hdec
        rw [sm, ci_f (fun h => by have := h.1; omega)]
        rfl
      · rw [if_neg (by rw [Int32.le_iff_toInt_le, t_0, pk_sub_toInt (by omega) (by omega)]; omega)]
        have key : fX10_countPairs_J76 rc2 (nI (1 - e)) (nI (sm (fun v => sm (fun w => ci (bg A e v w)) (A 0 1)) v + sm (fun w => ci (bg A e v w)) w)) (nI v) (nI w) (nI (if e = 0 then 0 else A 1 w - A 1 v)) (nI w) (nI w) (nI v) g'' = some (nI (sm (fun v => sm (fun w => ci (bg A e v w)) (A 0 1)) (A 0 1)), g'') := by
          unfold fX10_countPairs_J76
          rw [x_lies hA hX hv' hw' hw' (by split <;> omega), p_b]
          by_cases hb : bg A e v w
          · rw [if_pos ((bg_lie (by omega)).mpr hb), if_neg n10]
            try simp (disch := omega) only [p_g, p_b, p_s, p_gin, p_gblt, p_eqL, p_leL, p_Lle, p_ltL, p_Llt, p_addL, p_subL, p_mulL, p_LmulL, p_eq, p_le, p_lt, p_add, p_sub, p_mul, p_clamp, if_pos, if_neg]
            refine ih2 _ _ ⟨w + 1, by omega, ?_, rfl⟩ hdec
            rw [sm, ci_t hb]; rfl
          · rw [if_neg (fun h => hb ((bg_lie (by omega)).mp h)), if_pos rfl]
            try simp (disch := omega) only [p_g, p_b, p_s, p_gin, p_gblt, p_eqL, p_leL, p_Lle, p_ltL, p_Llt, p_addL, p_subL, p_mulL, p_LmulL, p_eq, p_le, p_lt, p_add, p_sub, p_mul, p_clamp, if_pos, if_neg]
            refine ih2 _ _ ⟨w + 1, by omega, ?_, rfl⟩ hdec
            rw [sm, ci_f hb]; rfl
        rcases (show e = 0 ∨ e = 1 by omega) with rfl | rfl
        · rw [if_neg (by decide)]
          exact key
        · rw [if_pos (by decide), p_sub (by omega)]
          exact key
theorem dist_bg {A : aS} (hA : I_ok A) {e v w : Nat} (hv : v < A 0 1) (hw : w < A 0 1) (hne : v ≠ w) (h1 : A 1 v ≤ A 1 w) (h2 : ∀ i, i < A 1 v → A 4 (8 * v + i) = A 4 (8 * w + ((if e = 0 then 0 else A 1 w - A 1 v) + i))) : bg A e v w := by
  by_cases h : A 1 v = A 1 w
  · exfalso
    have hz : (if e = 0 then 0 else A 1 w - A 1 v) = 0 := by split <;> omega
    rw [hz] at h2
    rcases Nat.lt_or_gt_of_ne hne with q | q
    · exact hA.2.2.2.2.2.2.2 v w q hw ⟨h, fun i hi => by rw [h2 i hi]; congr 1; omega⟩
    · exact hA.2.2.2.2.2.2.2 w v q hv ⟨h.symm, fun i hi => by rw [h2 i (by omega)]; congr 1; omega⟩
  · exact ⟨by omega, fun i hi => (h2 i hi).symm⟩

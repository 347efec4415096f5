/-! lines: the least sums, exactly -/
def mn (f : Nat → Option Nat) (init : Nat) : Nat → Nat
  | 0 => init
  | n + 1 => match f n with
    | none => mn f init n
    | some v => min (mn f init n) v
theorem mn_congr {f h : Nat → Option Nat} {i : Nat} : ∀ n, (∀ w, w < n → f w = h w) → mn f i n = mn h i n
  | 0, _ => rfl
  | n + 1, e => by
    rw [mn, mn, mn_congr n (fun w hw => e w (by omega)), e n (by omega)]
theorem mn_low {f : Nat → Option Nat} {i : Nat} : ∀ n, mn f i n ≤ i ∧ ∀ w u, w < n → f w = some u → mn f i n ≤ u
  | 0 => ⟨Nat.le_refl _, fun w u hw => by omega⟩
  | n + 1 => by
    obtain ⟨h1, h2⟩ := mn_low (f := f) (i := i) n
    rw [mn]
    cases hf : f n with
    | none =>
      refine ⟨h1, fun w u hw hu => ?_⟩
      by_cases e : w = n
      · subst e; rw [hf] at hu; cases hu
      · exact h2 w u (by omega) hu
    | some v =>
      refine ⟨by show min _ v ≤ i; omega, fun w u hw hu => ?_⟩
      by_cases e : w = n
      · subst e; rw [hf] at hu; cases hu; show min _ v ≤ v; omega
      · have := h2 w u (by omega) hu
        show min _ v ≤ u; omega
theorem mn_in {f : Nat → Option Nat} {i : Nat} : ∀ n, mn f i n = i ∨ ∃ w, w < n ∧ f w = some (mn f i n)
  | 0 => Or.inl rfl
  | n + 1 => by
    have ih := mn_in (f := f) (i := i) n
    rw [mn]
    cases hf : f n with
    | none =>
      rcases ih with h | ⟨w, h1, h2⟩
      · exact Or.inl h
      · exact Or.inr ⟨w, by omega, h2⟩
    | some v =>
      show min (mn f i n) v = i ∨ ∃ w, w < n + 1 ∧ f w = some (min (mn f i n) v)
      rcases Nat.lt_or_ge v (mn f i n) with h | h
      · rw [show min (mn f i n) v = v by omega]
        exact Or.inr ⟨n, by omega, hf⟩
      · rw [show min (mn f i n) v = mn f i n by omega]
        rcases ih with h | ⟨w, h1, h2⟩
        · exact Or.inl h
        · exact Or.inr ⟨w, by omega, h2⟩
theorem mn_uniq {f : Nat → Option Nat} {i n v : Nat} (h1 : v ≤ i) (h2 : ∀ w u, w < n → f w = some u → v ≤ u) (h3 : v = i ∨ ∃ w, w < n ∧ f w = some v) : v = mn f i n := by
  obtain ⟨a1, a2⟩ := mn_low (f := f) (i := i) n
  rcases h3 with h | ⟨w, b1, b2⟩
  · rcases mn_in (f := f) (i := i) n with c | ⟨w, c1, c2⟩
    · omega
    · have := h2 w _ c1 c2; omega
  · have := a2 w v b1 b2
    rcases mn_in (f := f) (i := i) n with c | ⟨w', c1, c2⟩
    · omega
    · have := h2 w' _ c1 c2; omega
def sok (A : aS) (dr : Nat → Nat) (len a w x : Nat) : Prop := may A a w ∧ stR dr len A x w
noncomputable def sN (A : aS) (dr : Nat → Nat) (len : Nat) : Nat → Nat → Nat → Nat
  | 0 => fun _ _ => 0
  | n + 1 => fun x a => if x < len then mn (fun w => cit (sok A dr len a w x) (some (A 2 w + sN A dr len n (x + A 1 w) (A 3 w))) none) (A 6 2 + sN A dr len n (x + 1) a) (A 0 1) else 0
theorem sN_fuel {A : aS} {dr : Nat → Nat} {len : Nat} (hA : I_ok A) : ∀ n m x a, len - x ≤ n → len - x ≤ m → sN A dr len n x a = sN A dr len m x a
  | 0, 0, _, _, _, _ => rfl
  | 0, m + 1, x, a, h, _ => by
    show 0 = if x < len then _ else _
    rw [if_neg (by omega)]
  | n + 1, 0, x, a, _, h => by
    show (if x < len then _ else _) = 0
    rw [if_neg (by omega)]
  | n + 1, m + 1, x, a, h1, h2 => by
    show (if x < len then _ else _) = if x < len then _ else _
    by_cases hx : x < len
    · rw [if_pos hx, if_pos hx, sN_fuel hA n m (x + 1) a (by omega) (by omega)]
      refine mn_congr _ (fun w hw => ?_)
      have := (hA.2.1 w hw).1
      rw [sN_fuel hA n m (x + A 1 w) (A 3 w) (by omega) (by omega)]
    · rw [if_neg hx, if_neg hx]
noncomputable def SS (A : aS) (dr : Nat → Nat) (len x a : Nat) : Nat := sN A dr len (len - x) x a
noncomputable def sw (A : aS) (dr : Nat → Nat) (len x a w : Nat) : Option Nat := cit (sok A dr len a w x) (some (A 2 w + SS A dr len (x + A 1 w) (A 3 w))) none
theorem SS_end {A : aS} {dr : Nat → Nat} {len x a : Nat} (h : len ≤ x) : SS A dr len x a = 0 := by
  unfold SS
  rw [show len - x = 0 by omega]; rfl
theorem SS_step {A : aS} {dr : Nat → Nat} {len x a : Nat} (hA : I_ok A) (h : x < len) : SS A dr len x a = mn (sw A dr len x a) (A 6 2 + SS A dr len (x + 1) a) (A 0 1) := by
  unfold SS
  obtain ⟨n, hn⟩ : ∃ n, len - x = n + 1 := ⟨len - x - 1, by omega⟩
  rw [hn]
  show (if x < len then _ else _) = _
  rw [if_pos h, sN_fuel hA n (len - (x + 1)) (x + 1) a (by omega) (by omega)]
  refine mn_congr _ (fun w hw => ?_)
  have := (hA.2.1 w hw).1
  unfold sw SS
  rw [sN_fuel hA n (len - (x + A 1 w)) (x + A 1 w) (A 3 w) (by omega) (by omega)]
theorem SS_le {A : aS} {dr : Nat → Nat} {len : Nat} (hA : I_ok A) : ∀ n x a, len - x ≤ n → SS A dr len x a ≤ 99 * (len - x)
  | 0, x, a, h => by rw [SS_end (by omega)]; omega
  | n + 1, x, a, h => by
    by_cases hx : x < len
    · rw [SS_step hA hx]
      have h1 := (mn_low (f := sw A dr len x a) (i := A 6 2 + SS A dr len (x + 1) a) (A 0 1)).1
      have h2 := SS_le (dr := dr) (len := len) hA n (x + 1) a (by omega)
      have h3 := hA.2.2.2.1 2 (by omega)
      omega
    · rw [SS_end (by omega)]; omega
/-- a line of the state -/
noncomputable def SL (A : aS) (l x a : Nat) : Nat := SS A (fun i => A 9 (24 * l + i)) (A 8 l) x a
theorem m_standsIn {A : aS} (hA : I_ok A) {g : z_S} (hM : R_M A g) {l x w : Nat} (hl : l < A 0 3) (hx : x ≤ 24) (hw : w < A 0 1) : fX11_standsIn (nI l) (nI w) (nI x) g = some (nI (ci (stR (fun i => A 9 (24 * l + i)) (A 8 l) A x w)), g) := by
  have hn : A 0 1 ≤ 16 := hA.1.2.2.1
  have hk := hA.1.2.1
  have h3 : A 0 3 ≤ 4 := hA.1.2.2.2.2.1
  obtain ⟨w1, w2, -⟩ := hA.2.1 w hw
  obtain ⟨l1, l2, l3⟩ := hA.2.2.2.2.2.1 l hl
  obtain ⟨q1, q2⟩ := hM.2.2.2.2.2.1 l hl
  have key : ∀ (b : Int32), (b = 1 ∧ x + A 1 w ≤ A 8 l) ∨ (b = 0 ∧ ¬ stR (fun i => A 9 (24 * l + i)) (A 8 l) A x w) → z_loop fX11_standsIn_B27 zN (nI l, nI w, nI x, b, 0) g = some (nI (ci (stR (fun i => A 9 (24 * l + i)) (A 8 l) A x w)), g) := by
    intro b hb
    refine p_loop (P := fun a g' => ∃ (i : Nat) (b : Int32), i ≤ A 1 w ∧ a = (nI l, nI w, nI x, b, nI i) ∧ g' = g ∧ ((b = 1 ∧ x + A 1 w ≤ A 8 l ∧ ∀ j, j < i → A 9 (24 * l + (x + j)) = A 4 (8 * w + j)) ∨ (b = 0 ∧ ¬ stR (fun i => A 9 (24 * l + i)) (A 8 l) A x w))) (μ := fun a _ => A 1 w - a.2.2.2.2.toNatClampNeg) ?_ zN _ _ ⟨0, b, by omega, rfl, rfl, ?_⟩ (by show A 1 w - _ < zN; rw [p_zN]; omega)
    · rintro rc a g' ⟨i, b, hi, rfl, rfl, e⟩ ih
      simp only [fX11_standsIn_B27]
      rw [(p_clamp (n := w) (by omega)), (hM.2.1 w hw).1]
      try simp (disch := omega) only [p_g, p_b, p_s, p_gin, p_gblt, p_eqL, p_leL, p_Lle, p_ltL, p_Llt, p_addL, p_subL, p_mulL, p_LmulL, p_eq, p_le, p_lt, p_add, p_sub, p_mul, p_clamp, if_pos, if_neg]
      rcases e with ⟨rfl, hb, e⟩ | ⟨rfl, e⟩
      · by_cases hlt : A 1 w ≤ i
        · rw [if_pos hlt, ci_t ⟨hb, fun j hj => e j (by omega)⟩]
          rfl
        · have h1 : A 9 (24 * l + (x + i)) < A 0 0 := l3 _ (by omega)
          have h2 : A 4 (8 * w + i) < A 0 0 := (hA.2.1 w hw).2.2.2.2 i (by omega)
          rw [if_neg hlt, if_neg n10]
          try simp (disch := omega) only [p_g, p_b, p_s, p_gin, p_gblt, p_eqL, p_leL, p_Lle, p_ltL, p_Llt, p_addL, p_subL, p_mulL, p_LmulL, p_eq, p_le, p_lt, p_add, p_sub, p_mul, p_clamp, if_pos, if_neg]
          rw [(hM.2.1 w hw).2.2.2 _ (by omega), show 24 * l + x + i = 24 * l + (x + i) by omega, q2 _ (by omega)]
          try simp (disch := omega) only [p_g, p_b, p_s, p_gin, p_gblt, p_eqL, p_leL, p_Lle, p_ltL, p_Llt, p_addL, p_subL, p_mulL, p_LmulL, p_eq, p_le, p_lt, p_add, p_sub, p_mul, p_clamp, if_pos, if_neg]
          by_cases he : A 9 (24 * l + (x + i)) = A 4 (8 * w + i)
          · rw [if_pos he]
            refine ih _ _ ⟨i + 1, 1, by omega, rfl, rfl, Or.inl ⟨rfl, hb, fun j hj => ?_⟩⟩ ?_
            · by_cases hji : j = i
              · subst hji; exact he
              · exact e j (by omega)
            · show _ - (nI (_ + 1)).toNatClampNeg < _ - (nI _).toNatClampNeg
              rw [p_clamp (by omega), p_clamp (by omega)]
              omega
          · rw [if_neg he]
            refine ih _ _ ⟨i + 1, 0, by omega, rfl, rfl, Or.inr ⟨rfl, fun hl => he (hl.2 i (by omega))⟩⟩ ?_
            show _ - (nI (_ + 1)).toNatClampNeg < _ - (nI _).toNatClampNeg
            rw [p_clamp (by omega), p_clamp (by omega)]
            omega
      · rw [ci_f e, if_pos rfl]
        by_cases hlt : A 1 w ≤ i
        · rw [if_pos hlt]; rfl
        · rw [if_neg hlt]; rfl
    · rcases hb with ⟨h1, h2⟩ | h
      · exact Or.inl ⟨h1, h2, fun j hj => by omega⟩
      · exact Or.inr h
  unfold fX11_standsIn
  rw [(p_clamp (n := w) (by omega)), (p_clamp (n := l) (by omega)), (hM.2.1 w hw).1, q1]
  try simp (disch := omega) only [p_g, p_b, p_s, p_gin, p_gblt, p_eqL, p_leL, p_Lle, p_ltL, p_Llt, p_addL, p_subL, p_mulL, p_LmulL, p_eq, p_le, p_lt, p_add, p_sub, p_mul, p_clamp, if_pos, if_neg]
  by_cases hb : A 8 l < x + A 1 w
  · rw [if_pos hb]
    exact key 0 (Or.inr ⟨rfl, fun hl => by have := hl.1; omega⟩)
  · rw [if_neg hb]
    exact key 1 (Or.inl ⟨rfl, by omega⟩)
/-- the reference's sums of a line -/
def TL (A : aS) (l : Nat) (g g' : z_S) : Prop := (∀ o, o ≠ 34 → g'.1 o = g.1 o) ∧ g'.2 = g.2 ∧ ∀ y c, y ≤ A 8 l → c ≤ 4 → g'.1 34 (5 * y + c) = nI (SL A l y c)
theorem m_sums {A : aS} (hA : I_ok A) {g : z_S} (hM : R_M A g) {l : Nat} (hl : l < A 0 3) : wp (fX11_findSums (nI l) g) (fun q => q.1 = nI (SL A l 0 4) ∧ TL A l g q.2) := by
  have hn := hA.1.2.2.1
  have h3 : A 0 3 ≤ 4 := hA.1.2.2.2.2.1
  obtain ⟨l1, l2, l3⟩ := hA.2.2.2.2.2.1 l hl
  have hp2 := hA.2.2.2.1 2 (by omega)
  have hSl : ∀ y c, y ≤ A 8 l → SL A l y c ≤ 2376 := by
    intro y c hy
    have := SS_le (dr := fun i => A 9 (24 * l + i)) (len := A 8 l) hA _ y c (Nat.le_refl _)
    unfold SL; omega
  unfold fX11_findSums
  rw [(p_clamp (n := l) (by omega)), (hM.2.2.2.2.2.1 l hl).1]
  try simp (disch := omega) only [p_g, p_b, p_s, p_gin, p_gblt, p_eqL, p_leL, p_Lle, p_ltL, p_Llt, p_addL, p_subL, p_mulL, p_LmulL, p_eq, p_le, p_lt, p_add, p_sub, p_mul, p_clamp, if_pos, if_neg]
  refine wp_loop (P := fun s g' => ∃ m, m ≤ A 8 l + 1 ∧ s = (nI l, nI (A 8 l), if m = 0 then -1 else nI (m - 1)) ∧ (∀ o, o ≠ 34 → g'.1 o = g.1 o) ∧ g'.2 = g.2 ∧ ∀ y c, m ≤ y → y ≤ A 8 l → c ≤ 4 → g'.1 34 (5 * y + c) = nI (SL A l y c)) (μ := fun s _ => if s.2.2 < 0 then 0 else s.2.2.toNatClampNeg + 1) ?_ zN _ _ ⟨A 8 l + 1, Nat.le_refl _, by rw [if_neg (by omega)]; rfl, fun _ _ => rfl, rfl, fun y c h1 h2 => by omega⟩ (by
    show (if nI (A 8 l) < 0 then 0 else (nI (A 8 l)).toNatClampNeg + 1) < zN
    rw [if_neg (p_neg (by omega)), p_clamp (by omega), p_zN]; omega)
  rintro rc s g1 ⟨m, hm, rfl, e1, e2, e3⟩ ih
  simp only [fX11_findSums_B9]
  by_cases hm0 : m = 0
  · subst hm0
    rw [if_pos rfl, if_pos (by decide), show fX11_cell 0 4 g1 = some (nI (5 * 0 + 4), g1) from m_cell (x := 0) (a := 4), p_b, p_gin (by omega) (by omega), p_clamp (by omega), e3 0 4 (by omega) (by omega) (by omega)]
    exact wp_some ⟨rfl, e1, e2, fun y c h1 h2 => e3 y c (by omega) h1 h2⟩
  · obtain ⟨x, rfl⟩ : ∃ x, m = x + 1 := ⟨m - 1, by omega⟩
    rw [if_neg hm0, Nat.add_sub_cancel, if_neg (p_neg (by omega))]
    refine wp_loop (P := fun s g' => ∃ c, c ≤ 5 ∧ s = (nI l, nI (A 8 l), nI x, nI c) ∧ (∀ o, o ≠ 34 → g'.1 o = g.1 o) ∧ g'.2 = g.2 ∧ (∀ y c, x < y → y ≤ A 8 l → c ≤ 4 → g'.1 34 (5 * y + c) = nI (SL A l y c)) ∧ ∀ c', c' < c → g'.1 34 (5 * x + c') = nI (SL A l x c')) (μ := fun s _ => 5 - s.2.2.2.toNatClampNeg) ?_ zN _ _ ⟨0, by omega, rfl, e1, e2, fun y c h1 h2 h3 => e3 y c (by omega) h2 h3, fun c' h => by omega⟩ (by show 5 - _ < zN; rw [p_zN]; omega)
    rintro rc2 s g2 ⟨c, hc, rfl, f1, f2, f3, f4⟩ ih2
    have hM2 : R_M A g2 := R_M.ag hM (fun o ho => f1 o (by omega))
    simp only [fX11_findSums_B16]
    try simp (disch := omega) only [p_g, p_b, p_s, p_gin, p_gblt, p_eqL, p_leL, p_Lle, p_ltL, p_Llt, p_addL, p_subL, p_mulL, p_LmulL, p_eq, p_le, p_lt, p_add, p_sub, p_mul, p_clamp, if_pos, if_neg]
    by_cases hlc : 4 < c
    · have : c = 5 := by omega
      subst this
      rw [if_pos hlc]
      refine ih _ _ ⟨x, by omega, ?_, f1, f2, ?_⟩ ?_
      · by_cases hx0 : x = 0
        · subst hx0; rfl
        · rw [if_neg hx0, p_m1 (by omega)]
      · intro y c q1 q2 q3
        by_cases hyx : y = x
        · subst hyx; exact f4 c (by omega)
        · exact f3 y c (by omega) q2 q3
      · show (if nI x + -1 < 0 then _ else _) < _
        rw [if_neg hm0, Nat.add_sub_cancel, if_neg (p_neg (by omega)), p_clamp (by omega)]
        by_cases hx0 : x = 0
        · subst hx0; rw [if_pos (by decide)]; omega
        · rw [p_m1 (by omega), if_neg (p_neg (by omega)), p_clamp (by omega)]; omega
    · rw [if_neg hlc]
      have store : wp (rc2 (nI l, nI (A 8 l), nI x, nI (c + 1)) (z_wi g2 34 (5 * x + c) (nI (SL A l x c)))) (fun q => q.1 = nI (SL A l 0 4) ∧ TL A l g q.2) := by
        refine ih2 _ _ ⟨c + 1, by omega, rfl, ?_, f2, ?_, ?_⟩ ?_
        · intro o ho
          rw [p_off ho]; exact f1 o ho
        · intro y c2 q1 q2 q3
          rw [p_on (by omega)]; exact f3 y c2 q1 q2 q3
        · intro c2 q1
          by_cases hcc : c2 = c
          · subst hcc; rw [p_at]
          · rw [p_on (by omega)]; exact f4 c2 (by omega)
        · show _ - (nI (_ + 1)).toNatClampNeg < _ - (nI _).toNatClampNeg
          rw [p_clamp (by omega), p_clamp (by omega)]
          omega
      by_cases hx : x = A 8 l
      · rw [if_pos hx, p_step]
        simp only [fX11_findSums_B56]
        rw [hM2.1.2.1]
        have e9 : ∀ z z' : Option (Int32 × z_S), (if nI (A 0 1) ≤ 0 then z else if nI (A 8 l) ≤ nI x then z else z') = z := by
          intro z z'
          rw [hx, if_pos (Int32.le_refl _)]
          split <;> rfl
        rw [e9, m_cell, p_b, show (0 : Int32) = nI (SL A l x c) by unfold SL; rw [SS_end (by omega)]; rfl]
        try simp (disch := omega) only [p_g, p_b, p_s, p_gin, p_gblt, p_eqL, p_leL, p_Lle, p_ltL, p_Llt, p_addL, p_subL, p_mulL, p_LmulL, p_eq, p_le, p_lt, p_add, p_sub, p_mul, p_clamp, if_pos, if_neg]
        exact store
      · have hxl : x < A 8 l := by omega
        rw [if_neg hx, p_gi (show z_in 2 3 = true by decide), show (2 : Int32).toNatClampNeg = 2 from rfl, hM2.2.2.2.1 2 (by omega), m_cell, p_b]
        have b1 := hSl (x + 1) c (by omega)
        rw [p_gin (by omega) (by omega), p_clamp (by omega), f3 (x + 1) c (by omega) (by omega) (by omega), p_add]
        have hstep : SL A l x c = mn (sw A (fun i => A 9 (24 * l + i)) (A 8 l) x c) (A 6 2 + SL A l (x + 1) c) (A 0 1) := by
          unfold SL
          rw [SS_step hA hxl]
        refine wp_loop (P := fun s g' => ∃ w, w ≤ A 0 1 ∧ s = (nI l, nI (A 8 l), nI x, nI c, nI (mn (sw A (fun i => A 9 (24 * l + i)) (A 8 l) x c) (A 6 2 + SL A l (x + 1) c) w), nI w) ∧ g' = g2) (μ := fun s _ => A 0 1 - s.2.2.2.2.2.toNatClampNeg) ?_ zN _ _ ⟨0, by omega, rfl, rfl⟩ (by show A 0 1 - _ < zN; rw [p_zN]; omega)
        rintro rc3 s g3 ⟨w, hw, rfl, rfl⟩ ih3
        simp only [fX11_findSums_B56]
        rw [hM2.1.2.1]
        have hmn := (mn_low (f := sw A (fun i => A 9 (24 * l + i)) (A 8 l) x c) (i := A 6 2 + SL A l (x + 1) c) w).1
        try simp (disch := omega) only [p_g, p_b, p_s, p_gin, p_gblt, p_eqL, p_leL, p_Lle, p_ltL, p_Llt, p_addL, p_subL, p_mulL, p_LmulL, p_eq, p_le, p_lt, p_add, p_sub, p_mul, p_clamp, if_pos, if_neg]
        by_cases hlw : A 0 1 ≤ w
        · have : w = A 0 1 := by omega
          subst this
          rw [if_pos hlw, ← hstep, m_cell, p_b]
          try simp (disch := omega) only [p_g, p_b, p_s, p_gin, p_gblt, p_eqL, p_leL, p_Lle, p_ltL, p_Llt, p_addL, p_subL, p_mulL, p_LmulL, p_eq, p_le, p_lt, p_add, p_sub, p_mul, p_clamp, if_pos, if_neg]
          exact store
        · have hw' : w < A 0 1 := by omega
          obtain ⟨w1, w2, w3, w4, -⟩ := hA.2.1 w hw'
          rw [if_neg hlw, m_may hA hM2 (by omega) hw', p_b]
          have hdec : A 0 1 - (nI (w + 1)).toNatClampNeg < A 0 1 - (nI w).toNatClampNeg := by
            rw [p_clamp (by omega), p_clamp (by omega)]
            omega
          have skip : ¬ sok A (fun i => A 9 (24 * l + i)) (A 8 l) c w x → wp (rc3 (nI l, nI (A 8 l), nI x, nI c, nI (mn (sw A (fun i => A 9 (24 * l + i)) (A 8 l) x c) (A 6 2 + SL A l (x + 1) c) w), nI (w + 1)) g3) (fun q => q.1 = nI (SL A l 0 4) ∧ TL A l g q.2) := by
            intro hno
            refine ih3 _ _ ⟨w + 1, by omega, ?_, rfl⟩ hdec
            rw [mn, show sw A (fun i => A 9 (24 * l + i)) (A 8 l) x c w = none from cit_f hno]
          by_cases hmay : may A c w
          · rw [if_neg (fun q => (p_cieq.mp q) hmay), m_standsIn hA hM2 hl (by omega) hw', p_b]
            by_cases hs : stR (fun i => A 9 (24 * l + i)) (A 8 l) A x w
            · have hs1 := hs.1
              have b2 := hSl (x + A 1 w) (A 3 w) hs1
              rw [if_neg (fun q => (p_cieq.mp q) hs), (hM2.2.1 w hw').1, (hM2.2.1 w hw').2.2.1]
              try simp (disch := omega) only [p_g, p_b, p_s, p_gin, p_gblt, p_eqL, p_leL, p_Lle, p_ltL, p_Llt, p_addL, p_subL, p_mulL, p_LmulL, p_eq, p_le, p_lt, p_add, p_sub, p_mul, p_clamp, if_pos, if_neg]
              rw [m_cell, p_b]
              try simp (disch := omega) only [p_g, p_b, p_s, p_gin, p_gblt, p_eqL, p_leL, p_Lle, p_ltL, p_Llt, p_addL, p_subL, p_mulL, p_LmulL, p_eq, p_le, p_lt, p_add, p_sub, p_mul, p_clamp, if_pos, if_neg]
              rw [f3 (x + A 1 w) (A 3 w) (by omega) hs1 (by omega), (hM2.2.1 w hw').2.1]
              try simp (disch := omega) only [p_g, p_b, p_s, p_gin, p_gblt, p_eqL, p_leL, p_Lle, p_ltL, p_Llt, p_addL, p_subL, p_mulL, p_LmulL, p_eq, p_le, p_lt, p_add, p_sub, p_mul, p_clamp, if_pos, if_neg]
              have hsw : sw A (fun i => A 9 (24 * l + i)) (A 8 l) x c w = some (A 2 w + SL A l (x + A 1 w) (A 3 w)) := cit_t ⟨hmay, hs⟩
              by_cases hle : mn (sw A (fun i => A 9 (24 * l + i)) (A 8 l) x c) (A 6 2 + SL A l (x + 1) c) w ≤ A 2 w + SL A l (x + A 1 w) (A 3 w)
              · rw [if_pos hle]
                refine ih3 _ _ ⟨w + 1, by omega, ?_, rfl⟩ hdec
                rw [mn, hsw]
                show _ = (_, _, _, _, nI (min _ _), _)
                rw [Nat.min_eq_left hle]
              · rw [if_neg hle]
                refine ih3 _ _ ⟨w + 1, by omega, ?_, rfl⟩ hdec
                rw [mn, hsw]
                show _ = (_, _, _, _, nI (min _ _), _)
                rw [Nat.min_eq_right (by omega)]
            · rw [if_pos (p_cieq.mpr hs)]
              try simp (disch := omega) only [p_g, p_b, p_s, p_gin, p_gblt, p_eqL, p_leL, p_Lle, p_ltL, p_Llt, p_addL, p_subL, p_mulL, p_LmulL, p_eq, p_le, p_lt, p_add, p_sub, p_mul, p_clamp, if_pos, if_neg]
              exact skip (fun h => hs h.2)
          · rw [if_pos (p_cieq.mpr hmay)]
            try simp (disch := omega) only [p_g, p_b, p_s, p_gin, p_gblt, p_eqL, p_leL, p_Lle, p_ltL, p_Llt, p_addL, p_subL, p_mulL, p_LmulL, p_eq, p_le, p_lt, p_add, p_sub, p_mul, p_clamp, if_pos, if_neg]
            exact skip (fun h => hmay h.1)
theorem TL.rm {A : aS} {l : Nat} {g g' : z_S} (hM : R_M A g) (h : TL A l g g') : R_M A g' := R_M.ag hM (fun o ho => h.1 o (by omega))
theorem m_totals {A : aS} (hA : I_ok A) {g : z_S} (hM : R_M A g) : wp (fX11_totals g) (fun q => q.1 = nI (sm (fun l => SL A l 0 4) (A 0 3)) ∧ (∀ o, o ≠ 34 → q.2.1 o = g.1 o) ∧ q.2.2 = g.2) := by
  have h3 : A 0 3 ≤ 4 := hA.1.2.2.2.2.1
  unfold fX11_totals
  refine wp_loop (P := fun s g' => ∃ l, l ≤ A 0 3 ∧ s = (nI (sm (fun l => SL A l 0 4) l), nI l) ∧ (∀ o, o ≠ 34 → g'.1 o = g.1 o) ∧ g'.2 = g.2) (μ := fun s _ => A 0 3 - s.2.toNatClampNeg) ?_ zN _ _ ⟨0, by omega, rfl, fun _ _ => rfl, rfl⟩ (by show A 0 3 - _ < zN; rw [p_zN]; omega)
  rintro rc s g1 ⟨l, hl, rfl, e1, e2⟩ ih
  have hM1 : R_M A g1 := R_M.ag hM (fun o ho => e1 o (by omega))
  simp only [fX11_totals_B4]
  rw [hM1.1.2.2.2.1]
  try simp (disch := omega) only [p_g, p_b, p_s, p_gin, p_gblt, p_eqL, p_leL, p_Lle, p_ltL, p_Llt, p_addL, p_subL, p_mulL, p_LmulL, p_eq, p_le, p_lt, p_add, p_sub, p_mul, p_clamp, if_pos, if_neg]
  by_cases hlt : A 0 3 ≤ l
  · have : l = A 0 3 := by omega
    subst this
    rw [if_pos hlt]
    exact wp_some ⟨rfl, e1, e2⟩
  · rw [if_neg hlt]
    apply wp_b
    refine wp_mono (m_sums hA hM1 (by omega)) ?_
    rintro ⟨r, g2⟩ ⟨h1, h2⟩
    simp only [] at h1 h2 ⊢
    subst h1
    rw [p_add]
    refine ih _ _ ⟨l + 1, by omega, rfl, fun o ho => (h2.1 o ho).trans (e1 o ho), h2.2.1.trans e2⟩ ?_
    show _ - (nI (_ + 1)).toNatClampNeg < _ - (nI _).toNatClampNeg
    rw [p_clamp (by omega), p_clamp (by omega)]
    omega

/-! words that stand in a row at a place; masks -/
def may (A : aS) (a w : Nat) : Prop := a = 4 ∨ A 5 (4 * a + A 3 w) = 1
def stR (dr : Nat → Nat) (len : Nat) (A : aS) (x w : Nat) : Prop := x + A 1 w ≤ len ∧ ∀ i, i < A 1 w → dr (x + i) = A 4 (8 * w + i)
theorem p_cieq {c : Prop} : nI (ci c) = 0 ↔ ¬ c := by
  by_cases h : c
  · rw [ci_t h]
    exact ⟨fun q => absurd q (by decide), fun q => absurd h q⟩
  · rw [ci_f h]
    exact ⟨fun _ => h, fun _ => rfl⟩
theorem x_may' {A : aS} {g : z_S} (hA : I_ok A) (hX : R_X A g) {a w : Nat} (ha : a ≤ 4) (hw : w < A 0 1) : fX7_mayCome (nI a) (nI (A 3 w)) g = some (nI (ci (may A a w)), g) := by
  have h3 := (hA.2.1 w hw).2.2.2.1
  rw [x_may hA hX ha (by omega)]
  congr 3
  by_cases h : a = 4
  · rw [if_pos h, ci_t (c := may A a w) (Or.inl h)]
  · have := hA.2.2.1 (4 * a + A 3 w) (by omega)
    rw [if_neg h]
    by_cases h1 : A 5 (4 * a + A 3 w) = 1
    · rw [ci_t (c := may A a w) (Or.inr h1), h1]
    · rw [ci_f (c := may A a w) (fun q => q.elim h h1)]; omega
theorem m_may {A : aS} {g : z_S} (hA : I_ok A) (hM : R_M A g) {a w : Nat} (ha : a ≤ 4) (hw : w < A 0 1) : fX11_mayFollow (nI a) (nI w) g = some (nI (ci (may A a w)), g) := by
  have hn := hA.1.2.2.1
  have h3 := (hA.2.1 w hw).2.2.2.1
  unfold fX11_mayFollow
  rw [(p_clamp (n := w) (by omega)), (hM.2.1 w hw).2.2.1]
  try simp (disch := omega) only [p_g, p_b, p_s, p_gin, p_gblt, p_eqL, p_leL, p_Lle, p_ltL, p_Llt, p_addL, p_subL, p_mulL, p_LmulL, p_eq, p_le, p_lt, p_add, p_sub, p_mul, p_clamp, if_pos, if_neg]
  by_cases h : a = 4
  · rw [if_pos h, ci_t (c := may A a w) (Or.inl h)]; rfl
  · have := hA.2.2.1 (4 * a + A 3 w) (by omega)
    rw [if_neg h]
    try simp (disch := omega) only [p_g, p_b, p_s, p_gin, p_gblt, p_eqL, p_leL, p_Lle, p_ltL, p_Llt, p_addL, p_subL, p_mulL, p_LmulL, p_eq, p_le, p_lt, p_add, p_sub, p_mul, p_clamp, if_pos, if_neg]
    rw [hM.2.2.1 _ (by omega)]
    try simp (disch := omega) only [p_g, p_b, p_s, p_gin, p_gblt, p_eqL, p_leL, p_Lle, p_ltL, p_Llt, p_addL, p_subL, p_mulL, p_LmulL, p_eq, p_le, p_lt, p_add, p_sub, p_mul, p_clamp, if_pos, if_neg]
    by_cases h1 : A 5 (4 * a + A 3 w) = 1
    · rw [ci_t (c := may A a w) (Or.inr h1), if_neg (by omega)]; rfl
    · rw [ci_f (c := may A a w) (fun q => q.elim h h1), if_pos (by omega)]; rfl
theorem x_stands {A : aS} (hA : I_ok A) {g : z_S} (hX : R_X A g) {x w : Nat} (hx : x ≤ 48) (hw : w < A 0 1) : fX9_standsAt_4_11 (nI w) (nI x) g = some (nI (ci (stR (A 7) (A 0 2) A x w)), g) := by
  have hn : A 0 1 ≤ 16 := hA.1.2.2.1
  have hk := hA.1.2.1
  have hd : A 0 2 ≤ 48 := hA.1.2.2.2.1
  obtain ⟨w1, w2, -⟩ := hA.2.1 w hw
  unfold fX9_standsAt_4_11
  rw [(p_clamp (n := w) (by omega)), (hX.2.1 w hw).1, hX.1.2.2.1]
  try simp (disch := omega) only [p_g, p_b, p_s, p_gin, p_gblt, p_eqL, p_leL, p_Lle, p_ltL, p_Llt, p_addL, p_subL, p_mulL, p_LmulL, p_eq, p_le, p_lt, p_add, p_sub, p_mul, p_clamp, if_pos, if_neg]
  by_cases hb : x + A 1 w ≤ A 0 2
  · rw [if_pos hb]
    refine p_loop (P := fun a g' => ∃ i, i ≤ A 1 w ∧ a = (nI w, nI x, nI i) ∧ g' = g ∧ ∀ j, j < i → A 7 (x + j) = A 4 (8 * w + j)) (μ := fun a _ => A 1 w - a.2.2.toNatClampNeg) ?_ zN _ _ ⟨0, by omega, rfl, rfl, fun j hj => by omega⟩ (by show A 1 w - _ < zN; rw [p_zN]; omega)
    rintro rc a g' ⟨i, hi, rfl, rfl, e⟩ ih
    simp only [fX9_standsAt_4_11_B24]
    rw [(p_clamp (n := w) (by omega)), (hX.2.1 w hw).1]
    try simp (disch := omega) only [p_g, p_b, p_s, p_gin, p_gblt, p_eqL, p_leL, p_Lle, p_ltL, p_Llt, p_addL, p_subL, p_mulL, p_LmulL, p_eq, p_le, p_lt, p_add, p_sub, p_mul, p_clamp, if_pos, if_neg]
    by_cases hlt : A 1 w ≤ i
    · rw [if_pos hlt, ci_t ⟨hb, fun j hj => e j (by omega)⟩]; rfl
    · have h1 : A 7 (x + i) < A 0 0 := hA.2.2.2.2.1 _ (by omega)
      have h2 : A 4 (8 * w + i) < A 0 0 := (hA.2.1 w hw).2.2.2.2 i (by omega)
      rw [if_neg hlt]
      try simp (disch := omega) only [p_g, p_b, p_s, p_gin, p_gblt, p_eqL, p_leL, p_Lle, p_ltL, p_Llt, p_addL, p_subL, p_mulL, p_LmulL, p_eq, p_le, p_lt, p_add, p_sub, p_mul, p_clamp, if_pos, if_neg]
      rw [x_sign hA hX hw (by omega), p_b, hX.2.2.2.2.1 _ (by omega)]
      try simp (disch := omega) only [p_g, p_b, p_s, p_gin, p_gblt, p_eqL, p_leL, p_Lle, p_ltL, p_Llt, p_addL, p_subL, p_mulL, p_LmulL, p_eq, p_le, p_lt, p_add, p_sub, p_mul, p_clamp, if_pos, if_neg]
      by_cases he : A 7 (x + i) = A 4 (8 * w + i)
      · rw [if_pos he]
        refine ih _ _ ⟨i + 1, by omega, rfl, rfl, fun j hj => ?_⟩ ?_
        · by_cases hji : j = i
          · subst hji; exact he
          · exact e j (by omega)
        · show _ - (nI (_ + 1)).toNatClampNeg < _ - (nI _).toNatClampNeg
          rw [p_clamp (by omega), p_clamp (by omega)]
          omega
      · rw [if_neg he, ci_f (fun h => he (h.2 i (by omega)))]; rfl
  · rw [if_neg hb, ci_f (fun h => hb h.1)]; rfl
theorem x_standsH {A : aS} (hA : I_ok A) {g : z_S} (hX : R_X A g) {l x w : Nat} (hl : l < A 0 3) (hx : x ≤ 48) (hw : w < A 0 1) : fX9_standsAt_4_h (nI w) l (nI x) g = some (nI (ci (stR (fun i => A 9 (24 * l + i)) (A 8 l) A x w)), g) := by
  have hn : A 0 1 ≤ 16 := hA.1.2.2.1
  have hk := hA.1.2.1
  have h3 : A 0 3 ≤ 4 := hA.1.2.2.2.2.1
  obtain ⟨w1, w2, -⟩ := hA.2.1 w hw
  obtain ⟨l1, l2, l3⟩ := hA.2.2.2.2.2.1 l hl
  obtain ⟨q1, q2⟩ := hX.2.2.2.2.2.1 l hl
  unfold fX9_standsAt_4_h
  rw [(p_clamp (n := w) (by omega)), (hX.2.1 w hw).1, q1]
  try simp (disch := omega) only [p_g, p_b, p_s, p_gin, p_gblt, p_eqL, p_leL, p_Lle, p_ltL, p_Llt, p_addL, p_subL, p_mulL, p_LmulL, p_eq, p_le, p_lt, p_add, p_sub, p_mul, p_clamp, if_pos, if_neg]
  by_cases hb : x + A 1 w ≤ A 8 l
  · rw [if_pos hb]
    refine p_loop (P := fun a g' => ∃ i, i ≤ A 1 w ∧ a = (nI w, l, nI x, nI i) ∧ g' = g ∧ ∀ j, j < i → A 9 (24 * l + (x + j)) = A 4 (8 * w + j)) (μ := fun a _ => A 1 w - a.2.2.2.toNatClampNeg) ?_ zN _ _ ⟨0, by omega, rfl, rfl, fun j hj => by omega⟩ (by show A 1 w - _ < zN; rw [p_zN]; omega)
    rintro rc a g' ⟨i, hi, rfl, rfl, e⟩ ih
    simp only [fX9_standsAt_4_h_B24]
    rw [(p_clamp (n := w) (by omega)), (hX.2.1 w hw).1]
    try simp (disch := omega) only [p_g, p_b, p_s, p_gin, p_gblt, p_eqL, p_leL, p_Lle, p_ltL, p_Llt, p_addL, p_subL, p_mulL, p_LmulL, p_eq, p_le, p_lt, p_add, p_sub, p_mul, p_clamp, if_pos, if_neg]
    by_cases hlt : A 1 w ≤ i
    · rw [if_pos hlt, ci_t ⟨hb, fun j hj => e j (by omega)⟩]; rfl
    · have h1 : A 9 (24 * l + (x + i)) < A 0 0 := l3 _ (by omega)
      have h2 : A 4 (8 * w + i) < A 0 0 := (hA.2.1 w hw).2.2.2.2 i (by omega)
      rw [if_neg hlt]
      try simp (disch := omega) only [p_g, p_b, p_s, p_gin, p_gblt, p_eqL, p_leL, p_Lle, p_ltL, p_Llt, p_addL, p_subL, p_mulL, p_LmulL, p_eq, p_le, p_lt, p_add, p_sub, p_mul, p_clamp, if_pos, if_neg]
      rw [x_sign hA hX hw (by omega), p_b, q2 _ (by omega)]
      try simp (disch := omega) only [p_g, p_b, p_s, p_gin, p_gblt, p_eqL, p_leL, p_Lle, p_ltL, p_Llt, p_addL, p_subL, p_mulL, p_LmulL, p_eq, p_le, p_lt, p_add, p_sub, p_mul, p_clamp, if_pos, if_neg]
      by_cases he : A 9 (24 * l + (x + i)) = A 4 (8 * w + i)
      · rw [if_pos he]
        refine ih _ _ ⟨i + 1, by omega, rfl, rfl, fun j hj => ?_⟩ ?_
        · by_cases hji : j = i
          · subst hji; exact he
          · exact e j (by omega)
        · show _ - (nI (_ + 1)).toNatClampNeg < _ - (nI _).toNatClampNeg
          rw [p_clamp (by omega), p_clamp (by omega)]
          omega
      · rw [if_neg he, ci_f (fun h => he (h.2 i (by omega)))]; rfl
  · rw [if_neg hb, ci_f (fun h => hb h.1)]; rfl
theorem m_stands {A : aS} (hA : I_ok A) {g : z_S} (hM : R_M A g) {x w : Nat} (hx : x ≤ 48) (hw : w < A 0 1) : fX11_stands (nI w) (nI x) g = some (nI (ci (stR (A 7) (A 0 2) A x w)), g) := by
  have hn : A 0 1 ≤ 16 := hA.1.2.2.1
  have hk := hA.1.2.1
  have hd : A 0 2 ≤ 48 := hA.1.2.2.2.1
  obtain ⟨w1, w2, -⟩ := hA.2.1 w hw
  have key : ∀ (b : Int32), (b = 1 ∧ x + A 1 w ≤ A 0 2) ∨ (b = 0 ∧ ¬ stR (A 7) (A 0 2) A x w) → z_loop fX11_stands_B24 zN (nI w, nI x, b, 0) g = some (nI (ci (stR (A 7) (A 0 2) A x w)), g) := by
    intro b hb
    refine p_loop (P := fun a g' => ∃ (i : Nat) (b : Int32), i ≤ A 1 w ∧ a = (nI w, nI x, b, nI i) ∧ g' = g ∧ ((b = 1 ∧ x + A 1 w ≤ A 0 2 ∧ ∀ j, j < i → A 7 (x + j) = A 4 (8 * w + j)) ∨ (b = 0 ∧ ¬ stR (A 7) (A 0 2) A x w))) (μ := fun a _ => A 1 w - a.2.2.2.toNatClampNeg) ?_ zN _ _ ⟨0, b, by omega, rfl, rfl, ?_⟩ (by show A 1 w - _ < zN; rw [p_zN]; omega)
    · rintro rc a g' ⟨i, b, hi, rfl, rfl, e⟩ ih
      simp only [fX11_stands_B24]
      rw [(p_clamp (n := w) (by omega)), (hM.2.1 w hw).1]
      try simp (disch := omega) only [p_g, p_b, p_s, p_gin, p_gblt, p_eqL, p_leL, p_Lle, p_ltL, p_Llt, p_addL, p_subL, p_mulL, p_LmulL, p_eq, p_le, p_lt, p_add, p_sub, p_mul, p_clamp, if_pos, if_neg]
      rcases e with ⟨rfl, hb, e⟩ | ⟨rfl, e⟩
      · by_cases hlt : A 1 w ≤ i
        · rw [if_pos hlt, ci_t ⟨hb, fun j hj => e j (by omega)⟩]
          rfl
        · have h1 : A 7 (x + i) < A 0 0 := hA.2.2.2.2.1 _ (by omega)
          have h2 : A 4 (8 * w + i) < A 0 0 := (hA.2.1 w hw).2.2.2.2 i (by omega)
          rw [if_neg hlt, if_neg n10]
          try simp (disch := omega) only [p_g, p_b, p_s, p_gin, p_gblt, p_eqL, p_leL, p_Lle, p_ltL, p_Llt, p_addL, p_subL, p_mulL, p_LmulL, p_eq, p_le, p_lt, p_add, p_sub, p_mul, p_clamp, if_pos, if_neg]
          rw [(hM.2.1 w hw).2.2.2 _ (by omega), hM.2.2.2.2.1 _ (by omega)]
          try simp (disch := omega) only [p_g, p_b, p_s, p_gin, p_gblt, p_eqL, p_leL, p_Lle, p_ltL, p_Llt, p_addL, p_subL, p_mulL, p_LmulL, p_eq, p_le, p_lt, p_add, p_sub, p_mul, p_clamp, if_pos, if_neg]
          by_cases he : A 7 (x + i) = A 4 (8 * w + i)
          · rw [if_pos he]
            refine ih _ _ ⟨i + 1, 1, by omega, rfl, rfl, Or.inl ⟨rfl, hb, fun j hj => ?_⟩⟩ ?_
            · by_cases hji : j = i
              · subst hji; exact he
              · exact e j (by omega)
            · show _ - (nI (_ + 1)).toNatClampNeg < _ - (nI _).toNatClampNeg
              rw [p_clamp (by omega), p_clamp (by omega)]
              omega
          · rw [if_neg he]
            refine ih _ _ ⟨i + 1, 0, by omega, rfl, rfl, Or.inr ⟨rfl, fun hl => he (hl.2 i (by omega))⟩⟩ ?_
            show _ - (nI (_ + 1)).toNatClampNeg < _ - (nI _).toNatClampNeg
            rw [p_clamp (by omega), p_clamp (by omega)]
            omega
      · rw [ci_f e, if_pos rfl]
        by_cases hlt : A 1 w ≤ i
        · rw [if_pos hlt]; rfl
        · rw [if_neg hlt]; rfl
    · rcases hb with ⟨h1, h2⟩ | h
      · exact Or.inl ⟨h1, h2, fun j hj => by omega⟩
      · exact Or.inr h
  unfold fX11_stands
  rw [(p_clamp (n := w) (by omega)), (hM.2.1 w hw).1, hM.1.2.2.1]
  try simp (disch := omega) only [p_g, p_b, p_s, p_gin, p_gblt, p_eqL, p_leL, p_Lle, p_ltL, p_Llt, p_addL, p_subL, p_mulL, p_LmulL, p_eq, p_le, p_lt, p_add, p_sub, p_mul, p_clamp, if_pos, if_neg]
  by_cases hb : A 0 2 < x + A 1 w
  · rw [if_pos hb]
    exact key 0 (Or.inr ⟨rfl, fun hl => by have := hl.1; omega⟩)
  · rw [if_neg hb]
    exact key 1 (Or.inl ⟨rfl, by omega⟩)
/-- a mask of 0s and 1s -/
def msk (f : Nat → Nat) : Nat → Nat
  | 0 => 0
  | n + 1 => msk f n + f n * 2 ^ n
theorem msk_lt {f : Nat → Nat} : ∀ n, (∀ i, i < n → f i ≤ 1) → msk f n < 2 ^ n
  | 0, _ => by simp [msk]
  | n + 1, h => by
    have h1 := msk_lt n (fun i hi => h i (by omega))
    have h2 := h n (by omega)
    rw [msk, Nat.pow_succ]
    have : f n * 2 ^ n ≤ 1 * 2 ^ n := Nat.mul_le_mul_right _ h2
    omega
theorem msk_bit {f : Nat → Nat} : ∀ n, (∀ i, i < n → f i ≤ 1) → ∀ w, w < n → msk f n / 2 ^ w % 2 = f w
  | 0, _, w, hw => by omega
  | n + 1, h, w, hw => by
    have h1 := msk_lt n (fun i hi => h i (by omega))
    have h2 := h n (by omega)
    rw [msk]
    by_cases e : w = n
    · subst e
      rw [Nat.add_mul_div_right _ _ (Nat.two_pow_pos w), Nat.div_eq_of_lt h1]
      omega
    · have ih := msk_bit n (fun i hi => h i (by omega)) w (by omega)
      obtain ⟨d, rfl⟩ : ∃ d, n = w + 1 + d := ⟨n - w - 1, by omega⟩
      have e2 : f (w + 1 + d) * 2 ^ (w + 1 + d) = (f (w + 1 + d) * 2 ^ d * 2) * 2 ^ w := by
        rw [Nat.pow_add, Nat.pow_succ]
        simp only [Nat.mul_assoc, Nat.mul_comm, Nat.mul_left_comm]
      rw [e2, Nat.add_mul_div_right _ _ (Nat.two_pow_pos w)]
      omega
theorem msk_top {f : Nat → Nat} {n w v : Nat} (h : ∀ i, i < n → f i ≤ 1) (hz : msk f n / 2 ^ w = 0) (hv : w ≤ v) (hn : v < n) : f v = 0 := by
  rw [← msk_bit n h v hn]
  obtain ⟨d, rfl⟩ : ∃ d, v = w + d := ⟨v - w, by omega⟩
  rw [Nat.pow_add, ← Nat.div_div_eq_div_mul, hz]
  simp
theorem p_sh (n : Nat) (h : n < 16) : ((nI n &&& 31).toBitVec.smod 32).toNat = n := by
  have : ∀ k, k < 16 → ((nI k &&& 31).toBitVec.smod 32).toNat = k := by decide
  exact this n h
theorem p_shr {m w : Nat} (hm : m < 65536) (hw : w < 16) : nI m >>> (nI w &&& 31) = nI (m / 2 ^ w) := pk_shrN (by omega) _ w (p_sh w hw)
theorem p_and1 {m : Nat} (hm : m < 65536) : nI m &&& 1 = nI (m % 2) := pk_andN (by omega) 1 (by decide)
theorem p_shl1 {w : Nat} (hw : w < 16) : (1 : Int32) <<< (nI w &&& 31) = nI (2 ^ w) := by
  have h := pk_shlN (n := 1) (nI w &&& 31) w (p_sh w hw) (by
    have : 2 ^ w ≤ 2 ^ 15 := Nat.pow_le_pow_right (by omega) (by omega)
    omega)
  rw [Nat.one_mul] at h
  exact h
theorem p_or (a b : Nat) : nI a ||| nI b = nI (a ||| b) := by
  apply Int32.toBitVec_inj.mp
  rw [Int32.toBitVec_or]
  show BitVec.ofNat 32 a ||| BitVec.ofNat 32 b = BitVec.ofNat 32 (a ||| b)
  apply BitVec.eq_of_getLsbD_eq
  intro i hi
  simp [BitVec.getLsbD_ofNat, hi]
theorem p_orbit {m w : Nat} (hm : m < 2 ^ w) (hw : w < 16) : nI m ||| ((1 : Int32) <<< (nI w &&& 31)) = nI (m + 1 * 2 ^ w) := by
  rw [p_shl1 hw, p_or]
  congr 1
  rw [Nat.or_comm]
  have := Nat.two_pow_add_eq_or_of_lt (i := w) (b := m) hm 1
  rw [Nat.mul_one] at this
  omega
theorem x_standing {A : aS} (hA : I_ok A) {g : z_S} (hX : R_X A g) {x : Nat} (hx : x ≤ 48) : fX9_standingAt_4_11 (nI x) g = some (nI (msk (fun w => ci (stR (A 7) (A 0 2) A x w)) (A 0 1)), g) := by
  have hn : A 0 1 ≤ 16 := hA.1.2.2.1
  unfold fX9_standingAt_4_11
  refine p_loop (P := fun a g' => ∃ w, w ≤ A 0 1 ∧ a = (nI x, nI (msk (fun w => ci (stR (A 7) (A 0 2) A x w)) w), nI w) ∧ g' = g) (μ := fun a _ => A 0 1 - a.2.2.toNatClampNeg) ?_ zN _ _ ⟨0, by omega, rfl, rfl⟩ (by show A 0 1 - _ < zN; rw [p_zN]; omega)
  rintro rc a g' ⟨w, hw, rfl, rfl⟩ ih
  simp only [fX9_standingAt_4_11_B5]
  rw [hX.1.2.1]
  try simp (disch := omega) only [p_g, p_b, p_s, p_gin, p_gblt, p_eqL, p_leL, p_Lle, p_ltL, p_Llt, p_addL, p_subL, p_mulL, p_LmulL, p_eq, p_le, p_lt, p_add, p_sub, p_mul, p_clamp, if_pos, if_neg]
  by_cases hlt : A 0 1 ≤ w
  · have : w = A 0 1 := by omega
    subst this
    rw [if_pos hlt]
  · rw [if_neg hlt, x_stands hA hX hx (by omega), p_b]
    have hdec : A 0 1 - (nI (w + 1)).toNatClampNeg < A 0 1 - (nI w).toNatClampNeg := by
      rw [p_clamp (by omega), p_clamp (by omega)]
      omega
    by_cases hs : stR (A 7) (A 0 2) A x w
    · rw [if_neg (fun q => (p_cieq.mp q) hs), p_orbit (msk_lt w (fun i _ => ci_le _)) (by omega)]
      refine ih _ _ ⟨w + 1, by omega, ?_, rfl⟩ hdec
      rw [msk, ci_t hs]
    · rw [if_pos (p_cieq.mpr hs)]
      refine ih _ _ ⟨w + 1, by omega, ?_, rfl⟩ hdec
      rw [msk, ci_f hs, Nat.zero_mul]; rfl
theorem x_standingH {A : aS} (hA : I_ok A) {g : z_S} (hX : R_X A g) {l x : Nat} (hl : l < A 0 3) (hx : x ≤ 48) : fX9_standingAt_4_h l (nI x) g = some (nI (msk (fun w => ci (stR (fun i => A 9 (24 * l + i)) (A 8 l) A x w)) (A 0 1)), g) := by
  have hn : A 0 1 ≤ 16 := hA.1.2.2.1
  have h3 : A 0 3 ≤ 4 := hA.1.2.2.2.2.1
  unfold fX9_standingAt_4_h
  refine p_loop (P := fun a g' => ∃ w, w ≤ A 0 1 ∧ a = (l, nI x, nI (msk (fun w => ci (stR (fun i => A 9 (24 * l + i)) (A 8 l) A x w)) w), nI w) ∧ g' = g) (μ := fun a _ => A 0 1 - a.2.2.2.toNatClampNeg) ?_ zN _ _ ⟨0, by omega, rfl, rfl⟩ (by show A 0 1 - _ < zN; rw [p_zN]; omega)
  rintro rc a g' ⟨w, hw, rfl, rfl⟩ ih
  simp only [fX9_standingAt_4_h_B5]
  rw [hX.1.2.1]
  try simp (disch := omega) only [p_g, p_b, p_s, p_gin, p_gblt, p_eqL, p_leL, p_Lle, p_ltL, p_Llt, p_addL, p_subL, p_mulL, p_LmulL, p_eq, p_le, p_lt, p_add, p_sub, p_mul, p_clamp, if_pos, if_neg]
  by_cases hlt : A 0 1 ≤ w
  · have : w = A 0 1 := by omega
    subst this
    rw [if_pos hlt]
  · rw [if_neg hlt, x_standsH hA hX hl hx (by omega), p_b]
    have hdec : A 0 1 - (nI (w + 1)).toNatClampNeg < A 0 1 - (nI w).toNatClampNeg := by
      rw [p_clamp (by omega), p_clamp (by omega)]
      omega
    by_cases hs : stR (fun i => A 9 (24 * l + i)) (A 8 l) A x w
    · rw [if_neg (fun q => (p_cieq.mp q) hs), p_orbit (msk_lt w (fun i _ => ci_le _)) (by omega)]
      refine ih _ _ ⟨w + 1, by omega, ?_, rfl⟩ hdec
      rw [msk, ci_t hs]
    · rw [if_pos (p_cieq.mpr hs)]
      refine ih _ _ ⟨w + 1, by omega, ?_, rfl⟩ hdec
      rw [msk, ci_f hs, Nat.zero_mul]; rfl

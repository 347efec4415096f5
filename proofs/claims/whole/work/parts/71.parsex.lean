/-! reading THE TEXT: the class -/
theorem nI10 : ¬ nI 1 = 0 := by decide
theorem nI00 : nI 0 = 0 := rfl
theorem wi_wi {g : z_S} {o k : Nat} {x y : Int32} : z_wi (z_wi g o k x) o k y = z_wi g o k y := by
  unfold z_wi
  refine Prod.ext ?_ rfl
  funext a j
  show (if a = o ∧ j = k then y else if a = o ∧ j = k then x else g.1 a j) = if a = o ∧ j = k then y else g.1 a j
  split <;> rfl
theorem wi_comm {g : z_S} {o k o' k' : Nat} {x y : Int32} (h : o ≠ o' ∨ k ≠ k') : z_wi (z_wi g o k x) o' k' y = z_wi (z_wi g o' k' y) o k x := by
  unfold z_wi
  refine Prod.ext ?_ rfl
  funext a j
  show (if a = o' ∧ j = k' then y else if a = o ∧ j = k then x else g.1 a j) = if a = o ∧ j = k then x else if a = o' ∧ j = k' then y else g.1 a j
  by_cases c1 : a = o' ∧ j = k'
  · rw [if_pos c1, if_pos c1, if_neg (fun q => by omega)]
  · rw [if_neg c1, if_neg c1]
def st (p : Nat) (g : z_S) : z_S := z_wi g 13 4 (nI p)
theorem st_at {p : Nat} {g : z_S} : (st p g).1 13 4 = nI p := p_at
theorem st_off {p : Nat} {g : z_S} {o : Nat} (h : o ≠ 13) : (st p g).1 o = g.1 o := p_off h
theorem st_on {p : Nat} {g : z_S} {k : Nat} (h : k ≠ 4) : (st p g).1 13 k = g.1 13 k := p_on h
theorem st_st {p q : Nat} {g : z_S} : z_wi (st p g) 13 4 (nI q) = st q g := wi_wi
theorem st_wi {p : Nat} {g : z_S} {o k : Nat} {x : Int32} (h : o ≠ 13 ∨ k ≠ 4) : z_wi (st p g) o k x = st p (z_wi g o k x) := wi_comm (by omega)
def KX (g0 g : z_S) : Prop := ∀ o, o < 13 ∨ 18 < o → g.1 o = g0.1 o
/-- nothing but the word w under way -/
def SW (w : Nat) (G G' : z_S) : Prop := ∀ o k, ¬ (o = 13 ∧ (k = 4 ∨ k = 5)) → ¬ (o = 15 ∧ 8 * w ≤ k ∧ k < 8 * w + 8) → ¬ ((o = 16 ∨ o = 17 ∨ o = 18) ∧ k = w) → G'.1 o k = G.1 o k
theorem SW.rf {w : Nat} {G : z_S} : SW w G G := fun _ _ _ _ _ => rfl
theorem SW.tr {w : Nat} {G G' G'' : z_S} (h : SW w G G') (h' : SW w G' G'') : SW w G G'' := fun o k a b c => (h' o k a b c).trans (h o k a b c)
theorem SW.K {w : Nat} {g0 G G' : z_S} (h : SW w G G') (hK : KX g0 G) : KX g0 G' := by
  intro o ho
  rw [← hK o ho]
  funext k
  exact h o k (by omega) (by omega) (by omega)
theorem SW.w {w : Nat} {G : z_S} {o k : Nat} {x : Int32} (h : (o = 13 ∧ (k = 4 ∨ k = 5)) ∨ (o = 15 ∧ 8 * w ≤ k ∧ k < 8 * w + 8) ∨ ((o = 16 ∨ o = 17 ∨ o = 18) ∧ k = w)) : SW w G (z_wi G o k x) := by
  intro a j h1 h2 h3
  rw [p_wi, if_neg]
  rintro ⟨rfl, rfl⟩
  omega
def TWr (B : aS) (G : z_S) (v : Nat) : Prop := G.1 16 v = nI (B 1 v) ∧ G.1 17 v = nI (B 2 v) ∧ G.1 18 v = nI (B 3 v) ∧ ∀ j, j < B 1 v → G.1 15 (8 * v + j) = nI (B 4 (8 * v + j))
def TW (B : aS) (w : Nat) (G : z_S) : Prop := G.1 14 0 = nI w ∧ ∀ v, v < w → TWr B G v
theorem TW.sw {A B : aS} {w : Nat} {G G' : z_S} (hB : BOK A B w) (h : TW B w G) (hs : SW w G G') : TW B w G' := by
  refine ⟨by rw [hs 14 0 (by omega) (by omega) (by omega)]; exact h.1, fun v hv => ?_⟩
  obtain ⟨a1, a2, a3, a4⟩ := h.2 v hv
  have h8 := (hB.2.1 v hv).2.1
  refine ⟨?_, ?_, ?_, fun j hj => ?_⟩
  · rw [hs 16 v (by omega) (by omega) (by omega)]; exact a1
  · rw [hs 17 v (by omega) (by omega) (by omega)]; exact a2
  · rw [hs 18 v (by omega) (by omega) (by omega)]; exact a3
  · rw [hs 15 _ (by omega) (by omega) (by omega)]; exact a4 j hj
theorem x_hr {A : aS} (hA : I_ok A) {g0 g : z_S} (hX : R_X A g0) (hK : KX g0 g) {p : Nat} (hp : p ≤ 200) : fX0_here (st p g) = some (hr A p, st p g) := by
  have hn : A 0 4 ≤ 200 := hA.1.2.2.2.2.2.1
  unfold fX0_here hr
  rw [st_at, st_off (by decide), st_off (by decide), hK 9 (by omega), hK 10 (by omega), hX.1.2.2.2.2.1]
  try simp (disch := omega) only [p_g, p_b, p_s, p_gin, p_gblt, p_eqL, p_leL, p_Lle, p_ltL, p_Llt, p_addL, p_subL, p_mulL, p_LmulL, p_eq, p_le, p_lt, p_add, p_sub, p_mul, p_clamp, if_pos, if_neg]
  by_cases h : p < A 0 4
  · rw [if_neg (by omega), if_pos h, hX.2.2.2.2.2.2.1 p h]
  · rw [if_pos (by omega), if_neg h]
theorem hr_32 {A : aS} (hA : I_ok A) {p c : Nat} (hc : c < 256) : hr A p = nI c ↔ p < A 0 4 ∧ A 10 p = c := by
  unfold hr
  by_cases h : p < A 0 4
  · have := hA.2.2.2.2.2.2.1 p h
    rw [if_pos h, p_eq (by omega) (by omega)]
    exact ⟨fun q => ⟨h, q⟩, fun q => q.2⟩
  · rw [if_neg h]
    refine ⟨fun q => ?_, fun q => absurd q.1 h⟩
    have := congrArg Int32.toInt q
    rw [p_toInt (by omega)] at this
    have e : (-1 : Int32).toInt = -1 := rfl
    omega
theorem hc_32 {A : aS} (hA : I_ok A) {p : Nat} : hr A p = 32 ↔ p < A 0 4 ∧ A 10 p = 32 := hr_32 hA (c := 32) (by omega)
theorem hc_58 {A : aS} (hA : I_ok A) {p : Nat} : hr A p = 58 ↔ p < A 0 4 ∧ A 10 p = 58 := hr_32 hA (c := 58) (by omega)
theorem hc_47 {A : aS} (hA : I_ok A) {p : Nat} : hr A p = 47 ↔ p < A 0 4 ∧ A 10 p = 47 := hr_32 hA (c := 47) (by omega)
theorem hc_59 {A : aS} (hA : I_ok A) {p : Nat} : hr A p = 59 ↔ p < A 0 4 ∧ A 10 p = 59 := hr_32 hA (c := 59) (by omega)
theorem x_skL {A : aS} (hA : I_ok A) {g0 g : z_S} (hX : R_X A g0) (hK : KX g0 g) {p : Nat} (hp : p ≤ A 0 4) : z_loop fX0_skipBlanks_B0 zN () (st p g) = some ((), st (sk A p) g) := by
  have hn : A 0 4 ≤ 200 := hA.1.2.2.2.2.2.1
  refine p_loop (P := fun _ g' => ∃ q, q ≤ A 0 4 ∧ g' = st q g ∧ sk A q = sk A p) (μ := fun _ g' => A 0 4 - (g'.1 13 4).toNatClampNeg) ?_ zN _ _ ⟨p, hp, rfl, rfl⟩ (by rw [p_zN]; omega)
  rintro rc a g' ⟨q, hq, rfl, e⟩ ih
  simp only [fX0_skipBlanks_B0]
  rw [st_at, st_off (by decide), hK 9 (by omega), hX.1.2.2.2.2.1]
  try simp (disch := omega) only [p_g, p_b, p_s, p_gin, p_gblt, p_eqL, p_leL, p_Lle, p_ltL, p_Llt, p_addL, p_subL, p_mulL, p_LmulL, p_eq, p_le, p_lt, p_add, p_sub, p_mul, p_clamp, if_pos, if_neg]
  by_cases h : A 0 4 ≤ q
  · rw [if_pos h, ← e, sk_e h]
  · rw [if_neg h, x_hr hA hX hK (by omega), p_b]
    by_cases h32 : A 10 q = 32
    · rw [if_pos ((hc_32 hA).mpr ⟨by omega, h32⟩), st_at]
      try simp (disch := omega) only [p_g, p_b, p_s, p_gin, p_gblt, p_eqL, p_leL, p_Lle, p_ltL, p_Llt, p_addL, p_subL, p_mulL, p_LmulL, p_eq, p_le, p_lt, p_add, p_sub, p_mul, p_clamp, if_pos, if_neg]
      rw [st_st]
      refine ih _ _ ⟨q + 1, by omega, rfl, by rw [← sk_s (by omega) h32]; exact e⟩ ?_
      rw [st_at, st_at, p_clamp (by omega), p_clamp (by omega)]
      omega
    · rw [if_neg (fun z => h32 ((hc_32 hA).mp z).2), ← e, sk_n (by omega) h32]
theorem x_skip {A : aS} (hA : I_ok A) {g0 g : z_S} (hX : R_X A g0) (hK : KX g0 g) {p : Nat} (hp : p ≤ A 0 4) : fX0_skipBlanks (st p g) = some ((), st (sk A p) g) := by
  have hn : A 0 4 ≤ 200 := hA.1.2.2.2.2.2.1
  unfold fX0_skipBlanks
  rw [st_at, st_off (by decide), hK 9 (by omega), hX.1.2.2.2.2.1]
  try simp (disch := omega) only [p_g, p_b, p_s, p_gin, p_gblt, p_eqL, p_leL, p_Lle, p_ltL, p_Llt, p_addL, p_subL, p_mulL, p_LmulL, p_eq, p_le, p_lt, p_add, p_sub, p_mul, p_clamp, if_pos, if_neg]
  by_cases h : A 0 4 ≤ p
  · rw [if_pos h, sk_e h]
  · rw [if_neg h, x_hr hA hX hK (by omega), p_b]
    by_cases h32 : A 10 p = 32
    · rw [if_pos ((hc_32 hA).mpr ⟨by omega, h32⟩), st_at]
      try simp (disch := omega) only [p_g, p_b, p_s, p_gin, p_gblt, p_eqL, p_leL, p_Lle, p_ltL, p_Llt, p_addL, p_subL, p_mulL, p_LmulL, p_eq, p_le, p_lt, p_add, p_sub, p_mul, p_clamp, if_pos, if_neg]
      rw [st_st, x_skL hA hX hK (by omega), sk_s (by omega) h32]
    · rw [if_neg (fun z => h32 ((hc_32 hA).mp z).2), sk_n (by omega) h32]
theorem x_isl {A : aS} (hA : I_ok A) {p : Nat} {g : z_S} : fX0_isLetter (hr A p) g = some (if isl A p then 1 else 0, g) := by
  unfold fX0_isLetter hr
  by_cases h : p < A 0 4
  · have := hA.2.2.2.2.2.2.1 p h
    rw [if_pos h]
    try simp (disch := omega) only [p_g, p_b, p_s, p_gin, p_gblt, p_eqL, p_leL, p_Lle, p_ltL, p_Llt, p_addL, p_subL, p_mulL, p_LmulL, p_eq, p_le, p_lt, p_add, p_sub, p_mul, p_clamp, if_pos, if_neg]
    by_cases h1 : A 10 p < 97
    · rw [if_pos h1, if_neg (by omega)]
    · rw [if_neg h1]
      by_cases h2 : 104 < A 10 p
      · rw [if_pos h2, if_neg (by omega)]
      · rw [if_neg h2, if_pos ⟨h, by omega, by omega⟩]
  · rw [if_neg h, if_pos (by decide), if_neg (fun q => h q.1)]
theorem x_isf {A : aS} (hA : I_ok A) {p : Nat} {g : z_S} : fX0_isFigure (hr A p) g = some (if isf A p then 1 else 0, g) := by
  unfold fX0_isFigure hr
  by_cases h : p < A 0 4
  · have := hA.2.2.2.2.2.2.1 p h
    rw [if_pos h]
    try simp (disch := omega) only [p_g, p_b, p_s, p_gin, p_gblt, p_eqL, p_leL, p_Lle, p_ltL, p_Llt, p_addL, p_subL, p_mulL, p_LmulL, p_eq, p_le, p_lt, p_add, p_sub, p_mul, p_clamp, if_pos, if_neg]
    by_cases h1 : A 10 p < 48
    · rw [if_pos h1, if_neg (by omega)]
    · rw [if_neg h1]
      by_cases h2 : 57 < A 10 p
      · rw [if_pos h2, if_neg (by omega)]
      · rw [if_neg h2, if_pos ⟨h, by omega, by omega⟩]
  · rw [if_neg h, if_pos (by decide), if_neg (fun q => h q.1)]
theorem x_lts {A : aS} (hA : I_ok A) {g0 : z_S} (hX : R_X A g0) {G : z_S} (hK : KX g0 G) {w first p0 : Nat} (hw : w ≤ 16) (hp0 : p0 ≤ A 0 4) {r0 : Nat → Nat} {s : PR} (hs : ltr A w first 9 p0 0 r0 = s) {Q : Int32 × z_S → Prop} {k80 k109 : z_S → Option (Int32 × z_S)} {k96 : Int32 → z_S → Option (Int32 × z_S)} {k155 : Int32 → Int32 → Int32 → z_S → Option (Int32 × z_S)}
    (h80 : ∀ g, k80 g = some (2, z_wi g 13 1 (g.1 13 4))) (h96 : ∀ v g, k96 v g = some (5, z_wi g 13 1 v)) (h109 : ∀ g, k109 g = some (3, z_wi g 13 1 (g.1 13 4)))
    (hF : ∀ G' p', s.1 ≠ 0 → SW w G G' → Q (nI s.1, z_wi (st p' G') 13 1 (nI s.2.1))) (hG : s.1 = 0 → ∀ G', SW w G G' → (∀ j, j < s.2.2.2.1 → G'.1 15 (8 * w + j) = nI (s.2.2.2.2 j)) → wp (k155 (nI first) (nI w) (nI s.2.2.2.1) (st s.2.2.1 G')) Q) : wp (z_loop (fX0_parseLetters_B35 k80 k96 k109 k155) zN (nI first, nI w, 0) (st p0 G)) Q := by
  have hn : A 0 4 ≤ 200 := hA.1.2.2.2.2.2.1
  have hk8 := hA.1.2.1
  refine wp_loop (P := fun a g' => ∃ p i r G1, i ≤ 8 ∧ p ≤ A 0 4 ∧ a = (nI first, nI w, nI i) ∧ g' = st p G1 ∧ SW w G G1 ∧ (∀ j, j < i → G1.1 15 (8 * w + j) = nI (r j)) ∧ ltr A w first (9 - i) p i r = s) (μ := fun a _ => 9 - a.2.2.toNatClampNeg) ?_ zN _ _ ⟨p0, 0, r0, G, by omega, hp0, rfl, rfl, SW.rf, fun j h => by omega, hs⟩ (by show 9 - _ < zN; rw [p_zN]; omega)
  rintro rc a g' ⟨p, i, r, G1, hi, hp, rfl, rfl, e1, e2, e3⟩ ih
  have hK1 := e1.K hK
  obtain ⟨t, ht⟩ : ∃ t, 9 - i = t + 1 := ⟨8 - i, by omega⟩
  rw [ht, ltr] at e3
  simp only [fX0_parseLetters_B35]
  rw [st_at, st_off (by decide), hK1 9 (by omega), hX.1.2.2.2.2.1]
  try simp (disch := omega) only [p_g, p_b, p_s, p_gin, p_gblt, p_eqL, p_leL, p_Lle, p_ltL, p_Llt, p_addL, p_subL, p_mulL, p_LmulL, p_eq, p_le, p_lt, p_add, p_sub, p_mul, p_clamp, if_pos, if_neg]
  have fin : ¬ isl A p → wp (k155 (nI first) (nI w) (nI i) (st p G1)) Q := by
    intro c
    rw [if_neg c] at e3
    subst e3
    exact hG rfl G1 e1 e2
  by_cases h : A 0 4 ≤ p
  · rw [if_pos h]
    exact fin (fun q => by have := q.1; omega)
  · rw [if_neg h, x_hr hA hX hK1 (by omega), p_b, x_isl hA, p_b]
    by_cases c : isl A p
    · rw [if_pos c] at e3
      have hb : hr A p = nI (A 10 p) := if_pos c.1
      rw [if_pos c, if_neg n10, x_hr hA hX hK1 (by omega), p_b, st_off (by decide), hK1 1 (by omega), hX.1.1, hb]
      have := c.2.1
      have := c.2.2
      try simp (disch := omega) only [p_g, p_b, p_s, p_gin, p_gblt, p_eqL, p_leL, p_Lle, p_ltL, p_Llt, p_addL, p_subL, p_mulL, p_LmulL, p_eq, p_le, p_lt, p_add, p_sub, p_mul, p_clamp, if_pos, if_neg]
      by_cases c1 : A 0 0 ≤ A 10 p - 97
      · rw [if_pos c1] at e3
        rw [if_neg (by omega), h80, st_at]
        subst e3
        exact wp_some (hF G1 p (by show ¬ 2 = 0; omega) e1)
      · rw [if_neg c1] at e3
        rw [if_pos (by omega)]
        by_cases c2 : 16 ≤ w
        · rw [if_pos c2] at e3
          rw [if_neg (by omega), h96]
          subst e3
          exact wp_some (hF G1 p (by show ¬ 5 = 0; omega) e1)
        · rw [if_neg c2] at e3
          rw [if_pos (by omega)]
          by_cases c3 : 8 ≤ i
          · rw [if_pos c3] at e3
            rw [if_neg (by omega), h109, st_at]
            subst e3
            exact wp_some (hF G1 p (by show ¬ 3 = 0; omega) e1)
          · rw [if_neg c3] at e3
            rw [if_pos (by omega)]
            try simp (disch := omega) only [p_g, p_b, p_s, p_gin, p_gblt, p_eqL, p_leL, p_Lle, p_ltL, p_Llt, p_addL, p_subL, p_mulL, p_LmulL, p_eq, p_le, p_lt, p_add, p_sub, p_mul, p_clamp, if_pos, if_neg]
            rw [show w * 8 + i = 8 * w + i by omega, st_wi (Or.inl (by decide)), st_at]
            try simp (disch := omega) only [p_g, p_b, p_s, p_gin, p_gblt, p_eqL, p_leL, p_Lle, p_ltL, p_Llt, p_addL, p_subL, p_mulL, p_LmulL, p_eq, p_le, p_lt, p_add, p_sub, p_mul, p_clamp, if_pos, if_neg]
            have e4 : SW w G (z_wi G1 15 (8 * w + i) (nI (A 10 p - 97))) := e1.tr (SW.w (by omega))
            rw [st_st, x_skip hA hX (e4.K hK) (by omega), p_b]
            refine ih _ _ ⟨sk A (p + 1), i + 1, _, _, by omega, sk_le (by omega), rfl, rfl, e4, ?_, by rw [show 9 - (i + 1) = t by omega]; exact e3⟩ ?_
            · intro j hj
              unfold up
              by_cases q : j = i
              · subst q; rw [p_at, if_pos rfl]
              · rw [p_on (by omega), if_neg q]; exact e2 j (by omega)
            · show _ - (nI (_ + 1)).toNatClampNeg < _ - (nI _).toNatClampNeg
              rw [p_clamp (by omega), p_clamp (by omega)]
              omega
    · rw [if_neg c, if_pos rfl]
      exact fin c
/-- two words that are told, held against one another -/
theorem x_alike {g : z_S} {v w l i : Nat} {a r : Nat → Nat} (hv : v < 16) (hw : w < 16) (hl : l ≤ 8) (hi : i ≤ 8) (h1 : g.1 16 v = nI l) (h2 : g.1 16 w = nI i) (h3 : ∀ j, j < l → g.1 15 (8 * v + j) = nI (a j)) (h4 : ∀ j, j < i → g.1 15 (8 * w + j) = nI (r j)) (h5 : ∀ j, j < l → a j < 256) (h6 : ∀ j, j < i → r j < 256) : fX9_isAlike_14 (nI v) (nI w) g = some (nI (ci (l = i ∧ ∀ j, j < i → a j = r j)), g) := by
  unfold fX9_isAlike_14
  try simp (disch := omega) only [p_g, p_b, p_s, p_gin, p_gblt, p_eqL, p_leL, p_Lle, p_ltL, p_Llt, p_addL, p_subL, p_mulL, p_LmulL, p_eq, p_le, p_lt, p_add, p_sub, p_mul, p_clamp, if_pos, if_neg]
  rw [h1, h2]
  try simp (disch := omega) only [p_g, p_b, p_s, p_gin, p_gblt, p_eqL, p_leL, p_Lle, p_ltL, p_Llt, p_addL, p_subL, p_mulL, p_LmulL, p_eq, p_le, p_lt, p_add, p_sub, p_mul, p_clamp, if_pos, if_neg]
  by_cases c : l = i
  · subst c
    rw [if_pos rfl]
    have key : fX9_liesAt_14 (nI v) (nI w) (nI w) 0 g = some (nI (ci (∀ j, j < l → a j = r j)), g) := by
      unfold fX9_liesAt_14
      try simp (disch := omega) only [p_g, p_b, p_s, p_gin, p_gblt, p_eqL, p_leL, p_Lle, p_ltL, p_Llt, p_addL, p_subL, p_mulL, p_LmulL, p_eq, p_le, p_lt, p_add, p_sub, p_mul, p_clamp, if_pos, if_neg]
      rw [if_neg (by decide), h1, h2]
      rw [show (0 : Int32) + nI l = nI l from by rw [p_l0, p_add, Nat.zero_add]]
      try simp (disch := omega) only [p_g, p_b, p_s, p_gin, p_gblt, p_eqL, p_leL, p_Lle, p_ltL, p_Llt, p_addL, p_subL, p_mulL, p_LmulL, p_eq, p_le, p_lt, p_add, p_sub, p_mul, p_clamp, if_pos, if_neg]
      refine p_loop (P := fun s g' => ∃ j, j ≤ l ∧ s = (nI v, nI w, nI w, 0, nI l, nI j) ∧ g' = g ∧ ∀ q, q < j → a q = r q) (μ := fun s _ => l - s.2.2.2.2.2.toNatClampNeg) ?_ zN _ _ ⟨0, by omega, rfl, rfl, fun q h => by omega⟩ (by show l - _ < zN; rw [p_zN]; omega)
      rintro rc s g' ⟨j, hj, rfl, rfl, e⟩ ih
      simp only [fX9_liesAt_14_B39]
      try simp (disch := omega) only [p_g, p_b, p_s, p_gin, p_gblt, p_eqL, p_leL, p_Lle, p_ltL, p_Llt, p_addL, p_subL, p_mulL, p_LmulL, p_eq, p_le, p_lt, p_add, p_sub, p_mul, p_clamp, if_pos, if_neg]
      rw [h1]
      try simp (disch := omega) only [p_g, p_b, p_s, p_gin, p_gblt, p_eqL, p_leL, p_Lle, p_ltL, p_Llt, p_addL, p_subL, p_mulL, p_LmulL, p_eq, p_le, p_lt, p_add, p_sub, p_mul, p_clamp, if_pos, if_neg]
      by_cases hlt : l ≤ j
      · rw [if_pos hlt, ci_t (fun q hq => e q (by omega))]; rfl
      · have a5 := h5 j (by omega)
        have a6 := h6 j (by omega)
        rw [if_neg hlt, show (0 : Int32) + nI j = nI j from by rw [p_l0, p_add, Nat.zero_add]]
        try simp (disch := omega) only [p_g, p_b, p_s, p_gin, p_gblt, p_eqL, p_leL, p_Lle, p_ltL, p_Llt, p_addL, p_subL, p_mulL, p_LmulL, p_eq, p_le, p_lt, p_add, p_sub, p_mul, p_clamp, if_pos, if_neg]
        unfold fX9_liesAt_14_J84 fX9_sign_14
        try simp (disch := omega) only [p_g, p_b, p_s, p_gin, p_gblt, p_eqL, p_leL, p_Lle, p_ltL, p_Llt, p_addL, p_subL, p_mulL, p_LmulL, p_eq, p_le, p_lt, p_add, p_sub, p_mul, p_clamp, if_pos, if_neg]
        rw [Nat.mul_comm w 8, Nat.mul_comm v 8, h3 j (by omega), h4 j (by omega)]
        try simp (disch := omega) only [p_g, p_b, p_s, p_gin, p_gblt, p_eqL, p_leL, p_Lle, p_ltL, p_Llt, p_addL, p_subL, p_mulL, p_LmulL, p_eq, p_le, p_lt, p_add, p_sub, p_mul, p_clamp, if_pos, if_neg]
        by_cases he : r j = a j
        · rw [if_pos he]
          refine ih _ _ ⟨j + 1, by omega, rfl, rfl, fun q hq => ?_⟩ ?_
          · by_cases z : q = j
            · subst z; exact he.symm
            · exact e q (by omega)
          · show _ - (nI (_ + 1)).toNatClampNeg < _ - (nI _).toNatClampNeg
            rw [p_clamp (by omega), p_clamp (by omega)]
            omega
        · rw [if_neg he, ci_f (fun h => he (h j (by omega)).symm)]; rfl
    rw [key, p_b]
    by_cases h : ∀ j, j < l → a j = r j
    · rw [ci_t h, if_neg nI10, ci_t ⟨rfl, h⟩]; rfl
    · rw [ci_f h, if_pos nI00, ci_f (fun q => h q.2)]; rfl
  · rw [if_neg c, ci_f (fun q => c q.1)]; rfl
theorem x_again {A B : aS} (hA : I_ok A) {G : z_S} {w i : Nat} {r : Nat → Nat} (hw : w < 16) (hB : BOK A B w) (hT : TW B w G) (hi : i ≤ 8) (h2 : G.1 16 w = nI i) (h4 : ∀ j, j < i → G.1 15 (8 * w + j) = nI (r j)) (h6 : ∀ j, j < i → r j < 256) {p : Nat} : fX0_isToldAgain (nI w) (st p G) = some (nI (ci (agn B w i r)), st p G) := by
  have hk8 := hA.1.2.1
  unfold fX0_isToldAgain
  refine p_loop (P := fun s g' => ∃ v, v ≤ w ∧ s = (nI w, nI v) ∧ g' = st p G ∧ ∀ u, u < v → ¬ (B 1 u = i ∧ ∀ j, j < i → B 4 (8 * u + j) = r j)) (μ := fun s _ => w - s.2.toNatClampNeg) ?_ zN _ _ ⟨0, by omega, rfl, rfl, fun q h => by omega⟩ (by show w - _ < zN; rw [p_zN]; omega)
  rintro rc s g' ⟨v, hv, rfl, rfl, e⟩ ih
  simp only [fX0_isToldAgain_B2]
  try simp (disch := omega) only [p_g, p_b, p_s, p_gin, p_gblt, p_eqL, p_leL, p_Lle, p_ltL, p_Llt, p_addL, p_subL, p_mulL, p_LmulL, p_eq, p_le, p_lt, p_add, p_sub, p_mul, p_clamp, if_pos, if_neg]
  by_cases hlt : w ≤ v
  · rw [if_pos hlt, ci_f]
    · rfl
    · rintro ⟨u, q1, q2⟩
      exact e u (by omega) q2
  · have hv' : v < w := by omega
    obtain ⟨b1, b2, b3, b4, b5⟩ := hB.2.1 v hv'
    obtain ⟨t1, t2, t3, t4⟩ := hT.2 v hv'
    rw [if_neg hlt, x_alike (g := st p G) (v := v) (w := w) (l := B 1 v) (i := i) (a := fun j => B 4 (8 * v + j)) (r := r) (by omega) hw b2 hi (by rw [st_off (by decide)]; exact t1) (by rw [st_off (by decide)]; exact h2) (fun j hj => by rw [st_off (by decide)]; exact t4 j hj) (fun j hj => by rw [st_off (by decide)]; exact h4 j hj) (fun j hj => by have := b5 j hj; show B 4 (8 * v + j) < 256; omega) h6, p_b]
    by_cases c : B 1 v = i ∧ ∀ j, j < i → B 4 (8 * v + j) = r j
    · rw [ci_t c, if_neg nI10, ci_t ⟨v, hv', c⟩]; rfl
    · rw [ci_f c, if_pos nI00]
      refine ih _ _ ⟨v + 1, by omega, rfl, rfl, fun u hu => ?_⟩ ?_
      · by_cases z : u = v
        · subst z; exact c
        · exact e u (by omega)
      · show _ - (nI (_ + 1)).toNatClampNeg < _ - (nI _).toNatClampNeg
        rw [p_clamp (by omega), p_clamp (by omega)]
        omega
/-- the letters of a word: what the class comes to -/
def LX (B : aS) (w : Nat) (G : z_S) (s : PR) (again : Prop) (first : Nat) (q : Int32 × z_S) : Prop := (∃ f pl p' G', f ≠ 0 ∧ q = (nI f, z_wi (st p' G') 13 1 (nI pl)) ∧ SW w G G' ∧ ((s.1 ≠ 0 ∧ f = s.1 ∧ pl = s.2.1) ∨ (s.1 = 0 ∧ again ∧ f = 4 ∧ pl = first))) ∨ (s.1 = 0 ∧ ¬ again ∧ ∃ G', q = (0, st s.2.2.1 G') ∧ SW w G G' ∧ G'.1 16 w = nI s.2.2.2.1 ∧ G'.1 17 w = 1 ∧ G'.1 18 w = 0 ∧ ∀ j, j < s.2.2.2.1 → G'.1 15 (8 * w + j) = nI (s.2.2.2.2 j))
theorem x_letters {A B : aS} (hA : I_ok A) {g0 : z_S} (hX : R_X A g0) {G : z_S} (hK : KX g0 G) {w p : Nat} (hB : BOK A B w) (hT : TW B w G) (hp : p ≤ A 0 4) (hl : isl A p) {s : PR} (hs : ltr A w p 9 p 0 (fun _ => 0) = s) : wp (fX0_parseLetters (st p G)) (LX B w G s (agn B w s.2.2.2.1 s.2.2.2.2) p) := by
  have hn : A 0 4 ≤ 200 := hA.1.2.2.2.2.2.1
  have hk8 := hA.1.2.1
  have hw16 := hB.1
  unfold fX0_parseLetters
  rw [x_hr hA hX hK (by omega), p_b, x_isl hA, p_b, if_pos hl, if_neg n10, st_at, st_off (by decide), hT.1]
  have hok := ltr_ok (A := A) (w := w) (first := p) 9 p 0 (fun _ => 0)
  rw [hs] at hok
  refine x_lts hA hX hK hw16 hp hs (fun g => rfl) (fun v g => rfl) (fun g => rfl) ?_ ?_
  · intro G' p' h1 h2
    exact Or.inl ⟨s.1, s.2.1, p', G', h1, rfl, h2, Or.inl ⟨h1, rfl, rfl⟩⟩
  · intro h1 G' h2 h3
    obtain ⟨⟨a1, a2⟩, -, a4, a5, a6, a7⟩ := hok h1 hp (by omega) (fun j hj => by omega)
    obtain ⟨a7, a8⟩ := a7 hl (by omega)
    have a4 := a4 (by omega)
    try simp (disch := omega) only [p_g, p_b, p_s, p_gin, p_gblt, p_eqL, p_leL, p_Lle, p_ltL, p_Llt, p_addL, p_subL, p_mulL, p_LmulL, p_eq, p_le, p_lt, p_add, p_sub, p_mul, p_clamp, if_pos, if_neg]
    rw [st_wi (Or.inl (by decide)), st_wi (Or.inl (by decide)), st_wi (Or.inl (by decide))]
    have hsw : SW w G (z_wi (z_wi (z_wi G' 16 w (nI s.2.2.2.1)) 17 w 1) 18 w 0) := ((h2.tr (SW.w (by omega))).tr (SW.w (by omega))).tr (SW.w (by omega))
    have c16 : (z_wi (z_wi (z_wi G' 16 w (nI s.2.2.2.1)) 17 w 1) 18 w 0).1 16 w = nI s.2.2.2.1 := by rw [p_off (by decide), p_off (by decide), p_at]
    have c15 : ∀ j, j < s.2.2.2.1 → (z_wi (z_wi (z_wi G' 16 w (nI s.2.2.2.1)) 17 w 1) 18 w 0).1 15 (8 * w + j) = nI (s.2.2.2.2 j) := by
      intro j hj
      rw [p_off (by decide), p_off (by decide), p_off (by decide)]; exact h3 j hj
    rw [x_again hA a7 hB (hT.sw hB hsw) a4 c16 c15 (fun j hj => by have := a5 j hj; omega), p_b]
    by_cases c : agn B w s.2.2.2.1 s.2.2.2.2
    · rw [ci_t c, if_neg nI10]
      refine wp_some (Or.inl ⟨4, p, _, _, by omega, rfl, hsw, Or.inr ⟨h1, c, rfl, rfl⟩⟩)
    · rw [ci_f c, if_pos nI00]
      exact wp_some (Or.inr ⟨h1, c, _, rfl, hsw, c16, by rw [p_off (by decide), p_at], by rw [p_at], c15⟩)

/-! THE NEW WORD: both sides -/
theorem x_letter {g : z_S} {k i : Nat} (hk : k ≤ 59048) (hi : i < 5) : fX10_letterOfCode (nI k) (nI i) g = some (if dgC k i = 0 then -1 else nI (dgC k i - 1), g) := by
  have fin : ∀ q : Nat, q ≤ 59048 → q % 9 = dgC k i → (nI q - nI q / 9 * 9) - 1 = (if dgC k i = 0 then -1 else nI (dgC k i - 1)) := by
    intro q hq e
    have h9 : nI q - nI q / 9 * 9 = nI (q % 9) := pk_rem (a := q) (d := 9) (by omega) (by omega) (by omega)
    rw [h9, e]
    have hd : dgC k i < 9 := Nat.mod_lt _ (by omega)
    by_cases z : dgC k i = 0
    · rw [if_pos z, z]; rfl
    · rw [if_neg z, p_subL (by omega)]
  have hdv : ∀ q : Nat, q ≤ 59048 → nI q / 9 = nI (q / 9) := fun q hq => pk_div (a := q) (d := 9) (by omega) (by omega) (by omega)
  unfold fX10_letterOfCode
  refine p_loop (P := fun s g' => ∃ b q, i ≤ b ∧ b ≤ 4 ∧ s = (nI i, nI q, nI b) ∧ g' = g ∧ q ≤ 59048 ∧ q * 1 = k / p9 b) (μ := fun s _ => s.2.2.toNatClampNeg) ?_ zN _ _ ⟨4, k, by omega, by omega, rfl, rfl, hk, by show k * 1 = k / 1; omega⟩ (by show (nI 4).toNatClampNeg < zN; rw [p_zN, p_clamp (by omega)]; omega)
  rintro rc s g' ⟨b, q, hb, hb4, rfl, rfl, hq, e⟩ ih
  simp only [fX10_letterOfCode_B4]
  try simp (disch := omega) only [p_g, p_b, p_s, p_gin, p_gblt, p_eqL, p_leL, p_Lle, p_ltL, p_Llt, p_addL, p_subL, p_mulL, p_LmulL, p_eq, p_le, p_lt, p_add, p_sub, p_mul, p_clamp, if_pos, if_neg]
  by_cases c : b ≤ i
  · have : b = i := by omega
    subst this
    rw [if_pos c, fin q hq (by unfold dgC; rw [← e]; omega)]
  · rw [if_neg c, hdv q hq, p_m1 (by omega)]
    refine ih _ _ ⟨b - 1, q / 9, by omega, by omega, rfl, rfl, by omega, ?_⟩ ?_
    · rcases (show b = 1 ∨ b = 2 ∨ b = 3 ∨ b = 4 by omega) with rfl | rfl | rfl | rfl
      · show q / 9 * 1 = k / 6561
        have e : q * 1 = k / 729 := e
        omega
      · show q / 9 * 1 = k / 729
        have e : q * 1 = k / 81 := e
        omega
      · show q / 9 * 1 = k / 81
        have e : q * 1 = k / 9 := e
        omega
      · show q / 9 * 1 = k / 9
        have e : q * 1 = k / 1 := e
        omega
    · show (nI (b - 1)).toNatClampNeg < (nI b).toNatClampNeg
      rw [p_clamp (by omega), p_clamp (by omega)]
      omega
def lenP (k : Nat) : Nat → Nat
  | 0 => 0
  | i + 1 => lenP k i + (if dgC k i = 0 then 0 else 1)
theorem lenP_5 {k : Nat} : lenP k 5 = lenC k := by
  unfold lenC
  simp only [lenP]
  omega
theorem lenP_le {k : Nat} : ∀ i, lenP k i ≤ i
  | 0 => Nat.le_refl _
  | i + 1 => by
    have := lenP_le (k := k) i
    rw [lenP]
    split <;> omega
theorem x_length {g : z_S} {k : Nat} (hk : k ≤ 59048) : fX10_lengthOfCode (nI k) g = some (nI (lenC k), g) := by
  unfold fX10_lengthOfCode
  refine p_loop (P := fun s g' => ∃ i, i ≤ 5 ∧ s = (nI k, nI (lenP k i), nI i) ∧ g' = g) (μ := fun s _ => 5 - s.2.2.toNatClampNeg) ?_ zN _ _ ⟨0, by omega, rfl, rfl⟩ (by show 5 - _ < zN; rw [p_zN]; omega)
  rintro rc s g' ⟨i, hi, rfl, rfl⟩ ih
  have hl := lenP_le (k := k) i
  simp only [fX10_lengthOfCode_B4]
  try simp (disch := omega) only [p_g, p_b, p_s, p_gin, p_gblt, p_eqL, p_leL, p_Lle, p_ltL, p_Llt, p_addL, p_subL, p_mulL, p_LmulL, p_eq, p_le, p_lt, p_add, p_sub, p_mul, p_clamp, if_pos, if_neg]
  by_cases c : 5 ≤ i
  · have : i = 5 := by omega
    subst this
    rw [if_pos c, lenP_5]
  · rw [if_neg c, x_letter hk (by omega), p_b]
    have hd : dgC k i < 9 := Nat.mod_lt _ (by omega)
    have hdec : 5 - (nI (i + 1)).toNatClampNeg < 5 - (nI i).toNatClampNeg := by
      rw [p_clamp (by omega), p_clamp (by omega)]
      omega
    by_cases z : dgC k i = 0
    · rw [if_pos z, if_pos rfl]
      refine ih _ _ ⟨i + 1, by omega, ?_, rfl⟩ hdec
      rw [lenP, if_pos z]
      rfl
    · rw [if_neg z, if_neg (nIm1 (by omega))]
      refine ih _ _ ⟨i + 1, by omega, ?_, rfl⟩ hdec
      rw [lenP, if_neg z]
/-- what was found for a cost -/
def CF (A : aS) (g : z_S) : Prop := g.1 26 3 = -1 ∨ ∃ c b k, c ≤ 99 ∧ g.1 26 3 = nI c ∧ XB b k g ∧ BST A c (Sal A) b k
theorem x_seek {A : aS} (hA : I_ok A) (h16 : A 0 1 < 16) {g : z_S} (hX : R_X A g) (hCF : CF A g) {c : Nat} (hc : c ≤ 99) : wp (fX2_seekNew (nI c) g) (fun q => R_X A q.2 ∧ (∀ o, 43 ≤ o → o ≤ 46 → q.2.1 o = g.1 o) ∧ q.2.1 26 3 = nI c ∧ ∃ b k, XB b k q.2 ∧ BST A c (Sal A) b k) := by
  have h3 : A 0 3 ≤ 4 := hA.1.2.2.2.2.1
  unfold fX2_seekNew
  by_cases c0 : g.1 26 3 = nI c
  · rw [if_pos c0]
    rcases hCF with h | ⟨c', b, k, h1, h2, h4, h5⟩
    · rw [c0] at h; exact absurd h (nIm1 (by omega))
    · have : c' = c := by
        rw [c0] at h2
        exact ((p_eq (by omega) (by omega)).mp h2).symm
      subst this
      exact wp_some ⟨hX, fun _ _ _ => rfl, c0, b, k, h4, h5⟩
  · rw [if_neg c0, p_s, p_s, p_s]
    have f26 : ∀ j, j ≠ 3 → j ≠ 4 → j ≠ 5 → (z_wi (z_wi (z_wi g 26 3 (nI c)) 26 4 0) 26 5 0).1 26 j = g.1 26 j := fun j z1 z2 z3 => by rw [p_on z3, p_on z2, p_on z1]
    have fo : ∀ o, o ≠ 26 → (z_wi (z_wi (z_wi g 26 3 (nI c)) 26 4 0) 26 5 0).1 o = g.1 o := fun o z => by rw [p_off z, p_off z, p_off z]
    have f3 : (z_wi (z_wi (z_wi g 26 3 (nI c)) 26 4 0) 26 5 0).1 26 3 = nI c := by rw [p_on (by decide), p_on (by decide), p_at]
    have f4 : (z_wi (z_wi (z_wi g 26 3 (nI c)) 26 4 0) 26 5 0).1 26 4 = nI 0 := by rw [p_on (by decide), p_at]; rfl
    have f5 : (z_wi (z_wi (z_wi g 26 3 (nI c)) 26 4 0) 26 5 0).1 26 5 = nI 0 := by rw [p_at]; rfl
    generalize z_wi (z_wi (z_wi g 26 3 (nI c)) 26 4 0) 26 5 0 = g1 at *
    have hX1 : R_X A g1 := R_X.ag2 hA hX (fun o ho => fo o (by omega)) (f26 0 (by omega) (by omega) (by omega)) (f26 15 (by omega) (by omega) (by omega))
    apply wp_b
    refine wp_mono (x_match hA hX1) ?_
    rintro ⟨u, g2⟩ ⟨m1, m2, m3⟩
    simp only [] at m1 m2 m3 ⊢
    refine wp_loop (P := fun a g' => ∃ l, l ≤ A 0 3 ∧ a = nI l ∧ R_X A g' ∧ KM A g' ∧ g'.1 26 = g1.1 26 ∧ (∀ o, o ≠ 26 → o ≠ 29 → o ≠ 31 → o ≠ 32 → o ≠ 33 → g'.1 o = g.1 o) ∧ ∀ j, j < l → g'.1 33 j = nI (SL A j 0 4)) (μ := fun a _ => A 0 3 - a.toNatClampNeg) ?_ zN _ _ ⟨0, by omega, rfl, R_X.ag hA hX1 (fun o ho => m1 o (by omega)), m3, m1 26 (by omega), fun o z1 z2 z3 z4 z5 => by rw [m1 o z2]; exact fo o z1, fun j h => by omega⟩ (by show A 0 3 - _ < zN; rw [p_zN]; omega)
    rintro rc a g3 ⟨l, hl, rfl, e1, e2, e3, e4, e5⟩ ih
    simp only [fX2_seekNew_B30]
    rw [e1.1.2.2.2.1]
    try simp (disch := omega) only [p_g, p_b, p_s, p_gin, p_gblt, p_eqL, p_leL, p_Lle, p_ltL, p_Llt, p_addL, p_subL, p_mulL, p_LmulL, p_eq, p_le, p_lt, p_add, p_sub, p_mul, p_clamp, if_pos, if_neg]
    by_cases cl : A 0 3 ≤ l
    · rw [if_pos cl]
      refine wp_loop (P := fun a g' => ∃ n b k, 2 ≤ n ∧ n ≤ 6 ∧ a = nI n ∧ R_X A g' ∧ KM A g' ∧ g'.1 26 3 = nI c ∧ (∀ l, l < A 0 3 → g'.1 33 l = nI (SL A l 0 4)) ∧ (∀ o, o ≠ 26 → o ≠ 29 → o ≠ 30 → o ≠ 31 → o ≠ 32 → o ≠ 33 → g'.1 o = g.1 o) ∧ XB b k g' ∧ BST A c (Spr A (fun _ _ n' => n' < n)) b k) (μ := fun a _ => 6 - a.toNatClampNeg) ?_ zN _ _ ⟨2, 0, 0, by omega, by omega, rfl, e1, e2, by rw [e3]; exact f3, fun l hl => e5 l (by omega), fun o z1 z2 z3 z4 z5 z6 => e4 o z1 z2 z4 z5 z6, ⟨by rw [e3]; exact f4, by rw [e3]; exact f5, by omega, by omega⟩, BST_0 (fun k' ⟨l', x', n', q, w⟩ => by have := w.2.1; omega)⟩ (by show 6 - _ < zN; rw [p_zN]; omega)
      rintro rc2 a g4 ⟨n, b, k, hn, hn6, rfl, d1, d2, d3, d4, d5, d6, d7⟩ ih2
      simp only [fX2_seekNew_B57]
      try simp (disch := omega) only [p_g, p_b, p_s, p_gin, p_gblt, p_eqL, p_leL, p_Lle, p_ltL, p_Llt, p_addL, p_subL, p_mulL, p_LmulL, p_eq, p_le, p_lt, p_add, p_sub, p_mul, p_clamp, if_pos, if_neg]
      by_cases c6 : 5 < n
      · rw [if_pos c6]
        refine wp_some ⟨d1, fun o z1 z2 => d5 o (by omega) (by omega) (by omega) (by omega) (by omega) (by omega), d3, b, k, d6, ?_⟩
        exact Spr_c (fun l' x' n' k' w => ⟨fun _ => trivial, fun _ => by have := w.2.2.1; omega⟩) d7
      · rw [if_neg c6]
        have hXe : R_X A (z_wi g4 26 14 (nI n)) := R_X.ag2 hA d1 (fun o ho => by rw [p_off (by omega)]) (by rw [p_on (by decide)]) (by rw [p_on (by decide)])
        apply wp_b
        refine wp_mono (x_encode hA hXe.W hn (by omega) p_at) ?_
        rintro ⟨u, g5⟩ ⟨k1, k2⟩
        simp only [] at k1 k2 ⊢
        have hIF0 : IF A c n g g5 := by
          refine ⟨R_X.ag hA hXe (fun o ho => k1 o (by omega)), d2.ag (by rw [k1 29 (by omega), p_off (by decide)]), by rw [k1 26 (by omega), p_at], by rw [k1 26 (by omega), p_on (by decide)]; exact d3, k2, fun l hl => by rw [k1 33 (by omega), p_off (by decide)]; exact d4 l hl, fun o z1 z2 z3 z4 z5 z6 => by rw [k1 o z3, p_off z1]; exact d5 o z1 z2 z3 z4 z5 z6⟩
        have hXB0 : XB b k g5 := ⟨by rw [k1 26 (by omega), p_on (by decide)]; exact d6.1, by rw [k1 26 (by omega), p_on (by decide)]; exact d6.2.1, d6.2.2⟩
        refine wp_loop (P := fun a g' => ∃ i b k, i ≤ 24 * A 0 3 ∧ a = (nI n, nI i) ∧ IF A c n g g' ∧ XB b k g' ∧ BST A c (Spr A (fun l' x' n' => n' < n ∨ (n' = n ∧ 24 * l' + x' < i))) b k) (μ := fun a _ => 24 * A 0 3 - a.2.toNatClampNeg) ?_ zN _ _ ⟨0, b, k, by omega, rfl, hIF0, hXB0, Spr_c (fun l' x' n' k' w => by omega) d7⟩ (by show 24 * A 0 3 - _ < zN; rw [p_zN]; omega)
        rintro rc3 a g6 ⟨i, b', k', hi, rfl, j1, j2, j3⟩ ih3
        simp only [fX2_seekNew_B73]
        rw [j1.1.1.2.2.2.1]
        try simp (disch := omega) only [p_g, p_b, p_s, p_gin, p_gblt, p_eqL, p_leL, p_Lle, p_ltL, p_Llt, p_addL, p_subL, p_mulL, p_LmulL, p_eq, p_le, p_lt, p_add, p_sub, p_mul, p_clamp, if_pos, if_neg]
        by_cases c7 : A 0 3 * 24 ≤ i
        · rw [if_pos c7]
          obtain ⟨y1, y2, y3, y4, y5, y6, y7⟩ := j1
          refine ih2 _ _ ⟨n + 1, b', k', by omega, by omega, rfl, y1, y2, y4, y6, y7, j2, Spr_c (fun l' x' n' k' w => ?_) j3⟩ ?_
          · obtain ⟨w1, w2, w3, w4, -⟩ := w
            have := (hA.2.2.2.2.2.1 l' w1).2.1
            omega
          · show _ - (nI (_ + 1)).toNatClampNeg < _ - (nI _).toNatClampNeg
            rw [p_clamp (by omega), p_clamp (by omega)]
            omega
        · rw [if_neg c7]
          apply wp_b
          refine wp_mono (x_try hA h16 hc hn (by omega) (by omega) j1 j2 j3) ?_
          rintro ⟨u, g7⟩ ⟨y1, b2, k2', y2, y3⟩
          simp only [] at y1 y2 ⊢
          refine ih3 _ _ ⟨i + 1, b2, k2', by omega, rfl, y1, y2, y3⟩ ?_
          show _ - (nI (_ + 1)).toNatClampNeg < _ - (nI _).toNatClampNeg
          rw [p_clamp (by omega), p_clamp (by omega)]
          omega
    · rw [if_neg cl]
      apply wp_b
      refine wp_mono (x_mL hA e1 e2 (by omega)) ?_
      rintro ⟨r, g4⟩ ⟨a1, a2⟩
      simp only [] at a1 a2 ⊢
      subst a1
      try simp (disch := omega) only [p_g, p_b, p_s, p_gin, p_gblt, p_eqL, p_leL, p_Lle, p_ltL, p_Llt, p_addL, p_subL, p_mulL, p_LmulL, p_eq, p_le, p_lt, p_add, p_sub, p_mul, p_clamp, if_pos, if_neg]
      refine ih _ _ ⟨l + 1, by omega, rfl, R_X.ag hA e1 (fun o ho => by rw [p_off (by omega)]; exact a2.1 o (by omega) (by omega)), e2.ag (by rw [p_off (by decide)]; exact a2.1 29 (by omega) (by omega)), by rw [p_off (by decide), a2.1 26 (by omega) (by omega)]; exact e3, fun o z1 z2 z3 z4 z5 => by rw [p_off z5, a2.1 o z3 z4]; exact e4 o z1 z2 z3 z4 z5, fun j hj => ?_⟩ ?_
      · by_cases z : j = l
        · subst z; rw [p_at]
        · rw [p_on z, a2.1 33 (by omega) (by omega)]; exact e5 j (by omega)
      · show _ - (nI (_ + 1)).toNatClampNeg < _ - (nI _).toNatClampNeg
        rw [p_clamp (by omega), p_clamp (by omega)]
        omega
theorem x_fresh {A : aS} (hA : I_ok A) {g : z_S} (hX : R_X A g) (hCF : CF A g) (c v : Int32) : (∃ c' : Nat, c' ≤ 99 ∧ c = nI c' ∧ (0 ≤ v.toInt ∧ v.toInt ≤ 6) ∧ A 0 1 < 16 ∧ wp (fX10_fresh c v g) (fun q => R_X A q.2 ∧ (∀ o, 43 ≤ o → o ≤ 46 → q.2.1 o = g.1 o) ∧ CF A q.2 ∧ ∃ b k, BST A c' (Sal A) b k ∧ q.1 = ansF b k v)) ∨ (¬ ((0 ≤ c.toInt ∧ c.toInt ≤ 99) ∧ (0 ≤ v.toInt ∧ v.toInt ≤ 6)) ∧ fX10_fresh c v g = some (-1002, g)) ∨ ((0 ≤ c.toInt ∧ c.toInt ≤ 99) ∧ (0 ≤ v.toInt ∧ v.toInt ≤ 6) ∧ ¬ A 0 1 < 16 ∧ fX10_fresh c v g = some (-1003, g)) := by
  have hn := hA.1.2.2.1
  unfold fX10_fresh
  by_cases h : (0 ≤ c.toInt ∧ c.toInt ≤ 99) ∧ (0 ≤ v.toInt ∧ v.toInt ≤ 6)
  · rw [if_neg (by simp only [Int32.lt_iff_toInt_lt, Int32.le_iff_toInt_le, t_0, t_1, t_2, t_3, t_4, t_6, t_8, t_10, t_20, t_24, t_40, t_99]; omega), if_neg (by simp only [Int32.lt_iff_toInt_lt, Int32.le_iff_toInt_le, t_0, t_1, t_2, t_3, t_4, t_6, t_8, t_10, t_20, t_24, t_40, t_99]; omega), if_neg (by simp only [Int32.lt_iff_toInt_lt, Int32.le_iff_toInt_le, t_0, t_1, t_2, t_3, t_4, t_6, t_8, t_10, t_20, t_24, t_40, t_99]; omega), if_pos (by simp only [Int32.lt_iff_toInt_lt, Int32.le_iff_toInt_le, t_0, t_1, t_2, t_3, t_4, t_6, t_8, t_10, t_20, t_24, t_40, t_99]; omega), hX.1.2.1]
    by_cases h16 : A 0 1 < 16
    · rw [if_pos (by rw [p_ltL (by omega) (by omega)]; exact h16)]
      obtain ⟨c', -, hc', rfl⟩ := p_rng (a := 0) (b := 99) (by decide) h.1
      refine Or.inl ⟨c', hc', rfl, h.2, h16, ?_⟩
      apply wp_b
      refine wp_mono (x_seek hA h16 hX hCF hc') ?_
      rintro ⟨u, g1⟩ ⟨k1, k2, k3, b, k, k4, k5⟩
      simp only [] at k1 k2 k3 k4 ⊢
      obtain ⟨q1, q2, q3, q4⟩ := id k4
      have ok : ∀ r, r = ansF b k v → wp (some (r, g1)) (fun q => R_X A q.2 ∧ (∀ o, 43 ≤ o → o ≤ 46 → q.2.1 o = g.1 o) ∧ CF A q.2 ∧ ∃ b k, BST A c' (Sal A) b k ∧ q.1 = ansF b k v) := fun r hr => wp_some ⟨k1, k2, Or.inr ⟨c', b, k, hc', k3, k4, k5⟩, b, k, k5, hr⟩
      rw [q1, q2]
      by_cases b0 : b = 0
      · rw [if_neg (by rw [b0]; decide)]
        exact ok _ (by unfold ansF; rw [if_pos b0])
      · rw [if_pos (by rw [p_Llt (by omega) (by omega)]; omega)]
        by_cases v0 : v = 0
        · rw [if_pos v0]
          exact ok _ (by unfold ansF; rw [if_neg b0, if_pos v0])
        · rw [if_neg v0]
          by_cases v1 : v = 1
          · rw [if_pos v1, x_length q4, p_b]
            exact ok _ (by unfold ansF; rw [if_neg b0, if_neg v0, if_pos v1])
          · rw [if_neg v1]
            obtain ⟨i, i1, i2, rfl⟩ : ∃ i, 2 ≤ i ∧ i ≤ 6 ∧ v = nI i := by
              obtain ⟨i, -, h2, rfl⟩ := p_rng (a := 0) (b := 6) (by decide) h.2
              refine ⟨i, ?_, h2, rfl⟩
              have : i ≠ 0 := fun z => v0 (by rw [z]; rfl)
              have : i ≠ 1 := fun z => v1 (by rw [z]; rfl)
              omega
            have ei : nI i - 2 = nI (i - 2) := p_subL (by omega)
            rw [ei, x_letter q4 (by omega), p_b]
            refine ok _ ?_
            unfold ansF
            rw [if_neg b0, if_neg v0, if_neg v1, ei, p_clamp (by omega)]
    · rw [if_neg (by rw [p_ltL (by omega) (by omega)]; exact h16)]
      exact Or.inr (Or.inr ⟨h.1, h.2, h16, rfl⟩)
  · refine Or.inr (Or.inl ⟨h, ?_⟩)
    by_cases h1 : c < 0
    · rw [if_pos h1]
    · rw [if_neg h1]
      by_cases h2 : 99 < c
      · rw [if_pos h2]
      · rw [if_neg h2]
        by_cases h4 : v < 0
        · rw [if_pos h4]
        · rw [if_neg h4, if_neg]
          simp only [Int32.lt_iff_toInt_lt, Int32.le_iff_toInt_le, t_0, t_1, t_2, t_3, t_4, t_6, t_8, t_10, t_20, t_24, t_40, t_99] at *
          omega
theorem m_freshO {A : aS} (hA : I_ok A) {g : z_S} (hM : R_M A g) (c v : Int32) : (¬ ((0 ≤ c.toInt ∧ c.toInt ≤ 99) ∧ (0 ≤ v.toInt ∧ v.toInt ≤ 6)) → fX11_fresh c v g = some (-1002, g)) ∧ ((0 ≤ c.toInt ∧ c.toInt ≤ 99) → (0 ≤ v.toInt ∧ v.toInt ≤ 6) → ¬ A 0 1 < 16 → fX11_fresh c v g = some (-1003, g)) := by
  have hn := hA.1.2.2.1
  unfold fX11_fresh
  constructor
  · intro h
    by_cases h1 : 0 ≤ c.toInt ∧ c.toInt ≤ 99
    · rw [m_yes (b := 0) (c := 99) h1, p_b, if_neg n10, m_no (b := 0) (c := 6) (fun q => h ⟨h1, q⟩)]
      rfl
    · rw [m_no (b := 0) (c := 99) h1]
      rfl
  · intro h1 h2 h3
    rw [m_yes (b := 0) (c := 99) h1, p_b, if_neg n10, m_yes (b := 0) (c := 6) h2, p_b, if_neg n10, hM.1.2.1, if_pos (by rw [p_eqL (by omega) (by omega)]; omega)]

/-! uses -/
theorem R_X.ag2 {A : aS} {g g' : z_S} (hA : I_ok A) (hX : R_X A g) (h : ∀ o, o ≤ 13 ∨ (34 ≤ o ∧ o ≤ 45) → g'.1 o = g.1 o) (h0 : g'.1 26 0 = g.1 26 0) (h15 : g'.1 26 15 = g.1 26 15) : R_X A g' := by
  have h3 : A 0 3 ≤ 4 := hA.1.2.2.2.2.1
  obtain ⟨⟨x1, x2, x3, x4, x5, x6⟩, xB, xC, xD, xE, xF, xG, xH, xI, xJ⟩ := hX
  refine ⟨⟨?_, ?_, ?_, ?_, ?_, ?_⟩, ?_, ?_, ?_, ?_, ?_, ?_, ?_, ?_, ?_⟩ <;> (try simp (disch := omega) only [h]) <;> (try rw [h0]) <;> (try rw [h15]) <;> (try assumption)
  intro l hl
  have hl4 : l < 4 := by omega
  rw [h (34 + 2 * l) (by omega), h (35 + 2 * l) (by omega)]
  exact xF l hl
theorem Cs.ag2 {A : aS} {g g' : z_S} (h : ∀ o, 43 ≤ o ∧ o ≤ 46 → g'.1 o = g.1 o) (h2 : ∀ k, k ≠ 2 → g'.1 26 k = g.1 26 k) : Cs A A g g' := by
  right
  refine ⟨⟨?_, ?_, ?_, ?_⟩, ⟨?_, ?_, ?_⟩, ⟨rfl, rfl, rfl⟩, fun _ _ _ _ => rfl⟩ <;> simp (disch := omega) only [h, h2]
theorem R_M.ag2 {A : aS} {g g' : z_S} (hM : R_M A g) (h : ∀ o, 1 ≤ o → o ≤ 10 → g'.1 o = g.1 o) (h0 : ∀ k, k ≤ 17 → g'.1 0 k = g.1 0 k) : R_M A g' := by
  obtain ⟨⟨m1, m2, m3, m4, m5, m6⟩, mB, mC, mD, mE, mF, mG⟩ := hM
  refine ⟨⟨?_, ?_, ?_, ?_, ?_, ?_⟩, ?_, ?_, ?_, ?_, ?_, ?_⟩ <;> simp (disch := omega) only [h, h0] <;> assumption
/-- w is read at x of line l -/
def isU (A : aS) (l x a w : Nat) : Prop := sok A (fun i => A 9 (24 * l + i)) (A 8 l) a w x ∧ A 2 w + SL A l (x + A 1 w) (A 3 w) = SL A l x a
noncomputable def fU (A : aS) (l x a : Nat) : Nat := (selw (fun w => ci (isU A l x a w)) (A 0 1) 0 0).1
theorem selw_le {c : Nat → Nat} : ∀ k w l, (selw c k w l).1 ≤ w + k
  | 0, w, l => by show w ≤ w + 0; omega
  | k + 1, w, l => by
    rw [selw]
    split
    · show w ≤ _; omega
    · have := selw_le (c := c) k (w + 1) (l - c w); omega
theorem selw_hit {c : Nat → Nat} : ∀ k w, (selw c k w 0).1 < w + k → 0 < c (selw c k w 0).1
  | 0, w, h => by
    have : (selw c 0 w 0).1 = w := rfl
    omega
  | k + 1, w, h => by
    rw [selw] at h ⊢
    by_cases hc : 0 < c w
    · rw [if_pos hc] at h ⊢; exact hc
    · rw [if_neg hc] at h ⊢
      rw [show (0 : Nat) - c w = 0 by omega] at h ⊢
      exact selw_hit (c := c) k (w + 1) (by omega)
theorem fU_isU {A : aS} {l x a : Nat} (h : fU A l x a < A 0 1) : isU A l x a (fU A l x a) := by
  have h2 : 0 < ci (isU A l x a (fU A l x a)) := selw_hit (c := fun w => ci (isU A l x a w)) (A 0 1) 0 (by unfold fU at h; omega)
  by_cases c : isU A l x a (fU A l x a)
  · exact c
  · rw [ci_f c] at h2
    omega
theorem fU_le {A : aS} {l x a : Nat} : fU A l x a ≤ A 0 1 := by
  have := selw_le (c := fun w => ci (isU A l x a w)) (A 0 1) 0 0
  unfold fU; omega
/-- the uses of a line, of all lines: of each word, of strange letters -/
noncomputable def uL (A : aS) (l : Nat) : Nat → Nat → Nat → (Nat → Nat) × Nat → (Nat → Nat) × Nat
  | 0, _, _, st => st
  | n + 1, x, a, st => if A 8 l ≤ x then st else
    if fU A l x a < A 0 1 then uL A l n (x + A 1 (fU A l x a)) (A 3 (fU A l x a)) (fun w => if w = fU A l x a then st.1 w + 1 else st.1 w, st.2) else uL A l n (x + 1) a (st.1, st.2 + 1)
noncomputable def uF (A : aS) : Nat → (Nat → Nat) × Nat
  | 0 => (fun _ => 0, 0)
  | l + 1 => uL A l 25 0 4 (uF A l)
theorem uL_le {A : aS} {l : Nat} : ∀ n x a st B, (∀ w, st.1 w ≤ B) → st.2 ≤ B → (∀ w, (uL A l n x a st).1 w ≤ B + n) ∧ (uL A l n x a st).2 ≤ B + n
  | 0, _, _, st, B, h1, h2 => ⟨h1, h2⟩
  | n + 1, x, a, st, B, h1, h2 => by
    rw [uL]
    by_cases c1 : A 8 l ≤ x
    · rw [if_pos c1]
      exact ⟨fun w => by have := h1 w; omega, by omega⟩
    · rw [if_neg c1]
      by_cases c2 : fU A l x a < A 0 1
      · rw [if_pos c2]
        have := uL_le (A := A) (l := l) n (x + A 1 (fU A l x a)) (A 3 (fU A l x a)) (fun w => if w = fU A l x a then st.1 w + 1 else st.1 w, st.2) (B + 1) (fun w => by
          have := h1 w
          by_cases q : w = fU A l x a
          · simp only [if_pos q]; omega
          · simp only [if_neg q]; omega) (by show st.2 ≤ _; omega)
        exact ⟨fun w => by have := this.1 w; omega, by have := this.2; omega⟩
      · rw [if_neg c2]
        have := uL_le (A := A) (l := l) n (x + 1) a (st.1, st.2 + 1) (B + 1) (fun w => by have := h1 w; show st.1 w ≤ _; omega) (by show st.2 + 1 ≤ _; omega)
        exact ⟨fun w => by have := this.1 w; omega, by have := this.2; omega⟩
theorem uF_le {A : aS} : ∀ l, (∀ w, (uF A l).1 w ≤ 25 * l) ∧ (uF A l).2 ≤ 25 * l
  | 0 => ⟨fun _ => Nat.le_refl _, Nat.le_refl _⟩
  | l + 1 => by
    obtain ⟨h1, h2⟩ := uF_le (A := A) l
    have := uL_le (A := A) (l := l) 25 0 4 (uF A l) (25 * l) h1 h2
    rw [uF]
    exact ⟨fun w => by have := this.1 w; omega, by have := this.2; omega⟩
theorem x_first {A : aS} (hA : I_ok A) {gs g : z_S} (hX : R_X A g) (hK : KM A g) {l x a : Nat} (hl : l < A 0 3) (hx : x < A 8 l) (ha : a ≤ 4) (hT : ∀ y c, y ≤ A 8 l → c ≤ 4 → g.1 31 (5 * y + c) = nI (SL A l y c)) : fX2_firstWordOfLeast (nI l) (nI x) (nI a) g = some (if fU A l x a < A 0 1 then nI (fU A l x a) else -1, g) := by
  have hn := hA.1.2.2.1
  have h3 : A 0 3 ≤ 4 := hA.1.2.2.2.2.1
  obtain ⟨l1, l2, l3⟩ := hA.2.2.2.2.2.1 l hl
  have hlt : msk (fun w => ci (stR (fun i => A 9 (24 * l + i)) (A 8 l) A x w)) (A 0 1) < 65536 := Nat.lt_of_lt_of_le (msk_lt _ (fun i _ => ci_le _)) (by
    have : 2 ^ A 0 1 ≤ 2 ^ 16 := Nat.pow_le_pow_right (by omega) hn
    omega)
  unfold fX2_firstWordOfLeast
  try simp (disch := omega) only [p_g, p_b, p_s, p_gin, p_gblt, p_eqL, p_leL, p_Lle, p_ltL, p_Llt, p_addL, p_subL, p_mulL, p_LmulL, p_eq, p_le, p_lt, p_add, p_sub, p_mul, p_clamp, if_pos, if_neg]
  rw [show l * 24 + x = 24 * l + x by omega, hK l x hl hx, show x * 5 + a = 5 * x + a by omega, hT x a (by omega) ha]
  have hS := SL_le hA (y := x) (c := a) hl
  refine p_loop (P := fun s g' => ∃ w, w ≤ A 0 1 ∧ s = (nI x, nI a, nI (msk (fun w => ci (stR (fun i => A 9 (24 * l + i)) (A 8 l) A x w)) (A 0 1)), nI (SL A l x a), nI w) ∧ g' = g ∧ (selw (fun w => ci (isU A l x a w)) (A 0 1 - w) w 0).1 = fU A l x a) (μ := fun s _ => A 0 1 - s.2.2.2.2.toNatClampNeg) ?_ zN _ _ ⟨0, by omega, rfl, rfl, rfl⟩ (by show A 0 1 - _ < zN; rw [p_zN]; omega)
  rintro rc s g' ⟨w, hw, rfl, rfl, hsel⟩ ih
  simp only [fX2_firstWordOfLeast_B28]
  rw [hX.1.2.1]
  try simp (disch := omega) only [p_g, p_b, p_s, p_gin, p_gblt, p_eqL, p_leL, p_Lle, p_ltL, p_Llt, p_addL, p_subL, p_mulL, p_LmulL, p_eq, p_le, p_lt, p_add, p_sub, p_mul, p_clamp, if_pos, if_neg]
  by_cases hlw : A 0 1 ≤ w
  · have : w = A 0 1 := by omega
    subst this
    rw [if_pos hlw, if_neg]
    rw [← hsel, Nat.sub_self]
    show ¬ A 0 1 < A 0 1
    omega
  · have hw' : w < A 0 1 := by omega
    obtain ⟨w1, w2, w3, w4, -⟩ := hA.2.1 w hw'
    obtain ⟨m, hmm⟩ : ∃ m, A 0 1 - w = m + 1 := ⟨A 0 1 - w - 1, by omega⟩
    have hm2 : A 0 1 - (w + 1) = m := by omega
    rw [hmm, selw] at hsel
    rw [if_neg hlw, p_shr hlt (by omega), p_and1 (Nat.lt_of_le_of_lt (Nat.div_le_self _ _) hlt), msk_bit _ (fun i _ => ci_le _) w hw', (hX.2.1 w hw').2.2.1]
    have hdec : A 0 1 - (nI (w + 1)).toNatClampNeg < A 0 1 - (nI w).toNatClampNeg := by
      rw [p_clamp (by omega), p_clamp (by omega)]
      omega
    have skip : ¬ isU A l x a w → rc (nI x, nI a, nI (msk (fun w => ci (stR (fun i => A 9 (24 * l + i)) (A 8 l) A x w)) (A 0 1)), nI (SL A l x a), nI (w + 1)) g' = some (if fU A l x a < A 0 1 then nI (fU A l x a) else -1, g') := by
      intro hno
      rw [if_neg (by rw [ci_f hno]; omega), Nat.zero_sub] at hsel
      exact ih _ _ ⟨w + 1, by omega, rfl, rfl, by rw [hm2]; exact hsel⟩ hdec
    by_cases hs : stR (fun i => A 9 (24 * l + i)) (A 8 l) A x w
    · have hSn := SL_le hA (y := x + A 1 w) (c := A 3 w) hl
      rw [if_neg (fun q => (p_cieq.mp q) hs), x_may' hA hX ha hw', p_b]
      by_cases hmay : may A a w
      · rw [if_neg (fun q => (p_cieq.mp q) hmay), x_lw hA hX hl hw' hs.1 (fun y c _ h2 h3 => hT y c h2 h3), p_b]
        try simp (disch := omega) only [p_g, p_b, p_s, p_gin, p_gblt, p_eqL, p_leL, p_Lle, p_ltL, p_Llt, p_addL, p_subL, p_mulL, p_LmulL, p_eq, p_le, p_lt, p_add, p_sub, p_mul, p_clamp, if_pos, if_neg]
        by_cases he : A 2 w + SL A l (x + A 1 w) (A 3 w) = SL A l x a
        · have hi : isU A l x a w := ⟨⟨hmay, hs⟩, he⟩
          rw [if_pos (by rw [ci_t hi]; omega)] at hsel
          have hf : w = fU A l x a := hsel
          rw [if_pos he, ← hf, if_pos hw']
        · rw [if_neg he]
          exact skip (fun h => he h.2)
      · rw [if_pos (p_cieq.mpr hmay)]
        exact skip (fun h => hmay h.1.1)
    · rw [if_pos (p_cieq.mpr hs)]
      exact skip (fun h => hs h.1.2)
theorem x_useL {A : aS} (hA : I_ok A) {g : z_S} (hX : R_X A g) (hK : KM A g) {l : Nat} (hl : l < A 0 3) (hT : ∀ y c, y ≤ A 8 l → c ≤ 4 → g.1 31 (5 * y + c) = nI (SL A l y c)) {st : (Nat → Nat) × Nat} (h27 : ∀ w, w < 16 → g.1 27 w = nI (st.1 w)) (h26 : g.1 26 2 = nI st.2) : wp (fX2_countUsesOf (nI l) g) (fun q => (∀ o, o ≠ 26 → o ≠ 27 → q.2.1 o = g.1 o) ∧ (∀ k, k ≠ 2 → q.2.1 26 k = g.1 26 k) ∧ q.2.2 = g.2 ∧ (∀ w, w < 16 → q.2.1 27 w = nI ((uL A l 25 0 4 st).1 w)) ∧ q.2.1 26 2 = nI (uL A l 25 0 4 st).2) := by
  have hn := hA.1.2.2.1
  have h3 : A 0 3 ≤ 4 := hA.1.2.2.2.2.1
  obtain ⟨l1, l2, l3⟩ := hA.2.2.2.2.2.1 l hl
  unfold fX2_countUsesOf
  rw [(p_clamp (n := l) (by omega)), (hX.2.2.2.2.2.1 l hl).1]
  try simp (disch := omega) only [p_g, p_b, p_s, p_gin, p_gblt, p_eqL, p_leL, p_Lle, p_ltL, p_Llt, p_addL, p_subL, p_mulL, p_LmulL, p_eq, p_le, p_lt, p_add, p_sub, p_mul, p_clamp, if_pos, if_neg]
  refine wp_loop (P := fun s g' => ∃ (n x a : Nat) (st' : (Nat → Nat) × Nat), n ≤ x ∧ x ≤ A 8 l ∧ a ≤ 4 ∧ s = (nI l, nI (A 8 l), nI a, nI x, nI n) ∧ (∀ o, o ≠ 26 → o ≠ 27 → g'.1 o = g.1 o) ∧ (∀ k, k ≠ 2 → g'.1 26 k = g.1 26 k) ∧ g'.2 = g.2 ∧ (∀ w, w < 16 → g'.1 27 w = nI (st'.1 w)) ∧ g'.1 26 2 = nI st'.2 ∧ uL A l (25 - n) x a st' = uL A l 25 0 4 st) (μ := fun s _ => 25 - s.2.2.2.2.toNatClampNeg) ?_ zN _ _ ⟨0, 0, 4, st, by omega, by omega, by omega, rfl, fun _ _ _ => rfl, fun _ _ => rfl, rfl, h27, h26, rfl⟩ (by show 25 - _ < zN; rw [p_zN]; omega)
  rintro rc s g1 ⟨n, x, a, st', hnx, hx, ha, rfl, e1, e2, e3, e4, e5, e6⟩ ih
  have hX1 : R_X A g1 := R_X.ag2 hA hX (fun o ho => e1 o (by omega) (by omega)) (e2 0 (by omega)) (e2 15 (by omega))
  have hK1 : KM A g1 := hK.ag (e1 29 (by omega) (by omega))
  obtain ⟨f, hf⟩ : ∃ f, 25 - n = f + 1 := ⟨24 - n, by omega⟩
  rw [hf, uL] at e6
  simp only [fX2_countUsesOf_B18]
  try simp (disch := omega) only [p_g, p_b, p_s, p_gin, p_gblt, p_eqL, p_leL, p_Lle, p_ltL, p_Llt, p_addL, p_subL, p_mulL, p_LmulL, p_eq, p_le, p_lt, p_add, p_sub, p_mul, p_clamp, if_pos, if_neg]
  by_cases hxe : A 8 l ≤ x
  · rw [if_pos hxe] at e6
    have fin : wp (some ((), g1)) (fun q => (∀ o, o ≠ 26 → o ≠ 27 → q.2.1 o = g.1 o) ∧ (∀ k, k ≠ 2 → q.2.1 26 k = g.1 26 k) ∧ q.2.2 = g.2 ∧ (∀ w, w < 16 → q.2.1 27 w = nI ((uL A l 25 0 4 st).1 w)) ∧ q.2.1 26 2 = nI (uL A l 25 0 4 st).2) := by
      rw [← e6]
      exact wp_some ⟨e1, e2, e3, e4, e5⟩
    by_cases h24 : 24 ≤ n
    · rw [if_pos h24]; exact fin
    · rw [if_neg h24, if_pos hxe]; exact fin
  · rw [if_neg hxe] at e6
    have hxl : x < A 8 l := by omega
    rw [if_neg (by omega), if_neg hxe, x_first (gs := g) hA hX1 hK1 hl hxl ha (fun y c a1 a2 => by rw [e1 31 (by omega) (by omega)]; exact hT y c a1 a2), p_b]
    have hdec : 25 - (nI (n + 1)).toNatClampNeg < 25 - (nI n).toNatClampNeg := by
      rw [p_clamp (by omega), p_clamp (by omega)]
      omega
    by_cases hw : fU A l x a < A 0 1
    · rw [if_pos hw] at e6
      have hi := fU_isU hw
      obtain ⟨w1, w2, w3, w4, -⟩ := hA.2.1 _ hw
      have hst := hi.1.2.1
      generalize hww : fU A l x a = w at *
      rw [if_pos hw, if_neg (by intro q; have := congrArg Int32.toInt q; rw [p_toInt (by omega)] at this; have e : (-1 : Int32).toInt = -1 := rfl; omega)]
      try simp (disch := omega) only [p_g, p_b, p_s, p_gin, p_gblt, p_eqL, p_leL, p_Lle, p_ltL, p_Llt, p_addL, p_subL, p_mulL, p_LmulL, p_eq, p_le, p_lt, p_add, p_sub, p_mul, p_clamp, if_pos, if_neg]
      rw [e4 w (by omega), p_off (by decide), p_off (by decide), (hX1.2.1 w hw).1, (hX1.2.1 w hw).2.2.1]
      try simp (disch := omega) only [p_g, p_b, p_s, p_gin, p_gblt, p_eqL, p_leL, p_Lle, p_ltL, p_Llt, p_addL, p_subL, p_mulL, p_LmulL, p_eq, p_le, p_lt, p_add, p_sub, p_mul, p_clamp, if_pos, if_neg]
      refine ih _ _ ⟨n + 1, x + A 1 w, A 3 w, (fun v => if v = w then st'.1 v + 1 else st'.1 v, st'.2), by omega, hst, by omega, rfl, ?_, ?_, e3, ?_, ?_, ?_⟩ hdec
      · intro o h1 h2
        rw [p_off h2]; exact e1 o h1 h2
      · intro k hk
        rw [p_off (by decide)]; exact e2 k hk
      · intro v hv
        show _ = nI (if v = w then _ else _)
        by_cases hvw : v = w
        · subst hvw; rw [p_at, if_pos rfl]
        · rw [p_on hvw, if_neg hvw]; exact e4 v hv
      · rw [p_off (by decide)]; exact e5
      · rw [show 25 - (n + 1) = f by omega]; exact e6
    · rw [if_neg hw] at e6
      rw [if_neg hw, if_pos rfl, e5]
      try simp (disch := omega) only [p_g, p_b, p_s, p_gin, p_gblt, p_eqL, p_leL, p_Lle, p_ltL, p_Llt, p_addL, p_subL, p_mulL, p_LmulL, p_eq, p_le, p_lt, p_add, p_sub, p_mul, p_clamp, if_pos, if_neg]
      refine ih _ _ ⟨n + 1, x + 1, a, (st'.1, st'.2 + 1), by omega, by omega, ha, rfl, ?_, ?_, e3, ?_, ?_, ?_⟩ hdec
      · intro o h1 h2
        rw [p_off h1]; exact e1 o h1 h2
      · intro k hk
        rw [p_on hk]; exact e2 k hk
      · intro v hv
        rw [p_off (by decide)]; exact e4 v hv
      · rw [p_at]
      · rw [show 25 - (n + 1) = f by omega]; exact e6
/-- the class's counting of uses -/
def UX (A : aS) (g g' : z_S) : Prop := (∀ o, o ≠ 26 → o ≠ 27 → o ≠ 31 → o ≠ 32 → g'.1 o = g.1 o) ∧ (∀ k, k ≠ 2 → g'.1 26 k = g.1 26 k) ∧ g'.2 = g.2 ∧ (∀ w, w < 16 → g'.1 27 w = nI ((uF A (A 0 3)).1 w)) ∧ g'.1 26 2 = nI (uF A (A 0 3)).2
theorem x_uses {A : aS} (hA : I_ok A) {g : z_S} (hX : R_X A g) (hK : KM A g) : wp (fX2_countUses g) (fun q => UX A g q.2) := by
  have h3 : A 0 3 ≤ 4 := hA.1.2.2.2.2.1
  unfold fX2_countUses
  rw [p_s]
  refine wp_loop (P := fun s g' => ∃ w, w ≤ 16 ∧ s = nI w ∧ (∀ o, o ≠ 26 → o ≠ 27 → g'.1 o = g.1 o) ∧ (∀ k, k ≠ 2 → g'.1 26 k = g.1 26 k) ∧ g'.2 = g.2 ∧ (∀ v, v < w → g'.1 27 v = nI 0) ∧ g'.1 26 2 = nI 0) (μ := fun s _ => 16 - s.toNatClampNeg) ?_ zN _ _ ⟨0, by omega, rfl, fun o h1 h2 => by rw [p_off h1], fun k hk => by rw [p_on hk], rfl, fun v h => by omega, by rw [p_at]; rfl⟩ (by show 16 - _ < zN; rw [p_zN]; omega)
  rintro rc s g1 ⟨w, hw, rfl, e1, e2, e3, e4, e5⟩ ih
  simp only [fX2_countUses_B7]
  try simp (disch := omega) only [p_g, p_b, p_s, p_gin, p_gblt, p_eqL, p_leL, p_Lle, p_ltL, p_Llt, p_addL, p_subL, p_mulL, p_LmulL, p_eq, p_le, p_lt, p_add, p_sub, p_mul, p_clamp, if_pos, if_neg]
  by_cases hlw : 16 ≤ w
  · have : w = 16 := by omega
    subst this
    rw [if_pos hlw]
    refine wp_loop (P := fun s g' => ∃ l, l ≤ A 0 3 ∧ s = nI l ∧ (∀ o, o ≠ 26 → o ≠ 27 → o ≠ 31 → o ≠ 32 → g'.1 o = g.1 o) ∧ (∀ k, k ≠ 2 → g'.1 26 k = g.1 26 k) ∧ g'.2 = g.2 ∧ (∀ w, w < 16 → g'.1 27 w = nI ((uF A l).1 w)) ∧ g'.1 26 2 = nI (uF A l).2) (μ := fun s _ => A 0 3 - s.toNatClampNeg) ?_ zN _ _ ⟨0, by omega, rfl, fun o h1 h2 _ _ => e1 o h1 h2, e2, e3, e4, e5⟩ (by show A 0 3 - _ < zN; rw [p_zN]; omega)
    rintro rc2 s g2 ⟨l, hl, rfl, f1, f2, f3, f4, f5⟩ ih2
    have hX2 : R_X A g2 := R_X.ag2 hA hX (fun o ho => f1 o (by omega) (by omega) (by omega) (by omega)) (f2 0 (by omega)) (f2 15 (by omega))
    have hK2 : KM A g2 := hK.ag (f1 29 (by omega) (by omega) (by omega) (by omega))
    simp only [fX2_countUses_B28]
    rw [hX2.1.2.2.2.1]
    try simp (disch := omega) only [p_g, p_b, p_s, p_gin, p_gblt, p_eqL, p_leL, p_Lle, p_ltL, p_Llt, p_addL, p_subL, p_mulL, p_LmulL, p_eq, p_le, p_lt, p_add, p_sub, p_mul, p_clamp, if_pos, if_neg]
    by_cases hlt : A 0 3 ≤ l
    · have : l = A 0 3 := by omega
      subst this
      rw [if_pos hlt]
      exact wp_some ⟨f1, f2, f3, f4, f5⟩
    · rw [if_neg hlt]
      apply wp_b
      refine wp_mono (x_mL hA hX2 hK2 (by omega)) ?_
      rintro ⟨r, g3⟩ ⟨a1, a2⟩
      simp only [] at a1 a2 ⊢
      have hX3 : R_X A g3 := R_X.ag hA hX2 (fun o ho => a2.1 o (by omega) (by omega))
      apply wp_b
      refine wp_mono (x_useL hA hX3 (hK2.ag (a2.1 29 (by omega) (by omega))) (by omega) a2.2.2 (st := uF A l) (fun w hw => by rw [a2.1 27 (by omega) (by omega)]; exact f4 w hw) (by rw [a2.1 26 (by omega) (by omega)]; exact f5)) ?_
      rintro ⟨u, g4⟩ ⟨b1, b2, b3, b4, b5⟩
      simp only [] at b1 b2 b3 b4 b5 ⊢
      try simp (disch := omega) only [p_g, p_b, p_s, p_gin, p_gblt, p_eqL, p_leL, p_Lle, p_ltL, p_Llt, p_addL, p_subL, p_mulL, p_LmulL, p_eq, p_le, p_lt, p_add, p_sub, p_mul, p_clamp, if_pos, if_neg]
      refine ih2 _ _ ⟨l + 1, by omega, rfl, fun o h1 h2 h3 h4 => ((b1 o h1 h2).trans (a2.1 o h3 h4)).trans (f1 o h1 h2 h3 h4), fun k hk => ((b2 k hk).trans (by rw [a2.1 26 (by omega) (by omega)])).trans (f2 k hk), (b3.trans a2.2.1).trans f3, b4, b5⟩ ?_
      show _ - (nI (_ + 1)).toNatClampNeg < _ - (nI _).toNatClampNeg
      rw [p_clamp (by omega), p_clamp (by omega)]
      omega
  · rw [if_neg hlw]
    refine ih _ _ ⟨w + 1, by omega, rfl, ?_, ?_, e3, ?_, ?_⟩ ?_
    · intro o h1 h2
      rw [p_off h2]; exact e1 o h1 h2
    · intro k hk
      rw [p_off (by decide)]; exact e2 k hk
    · intro v hv
      by_cases hvw : v = w
      · subst hvw; rw [p_at]; rfl
      · rw [p_on hvw]; exact e4 v (by omega)
    · rw [p_off (by decide)]; exact e5
    · show _ - (nI (_ + 1)).toNatClampNeg < _ - (nI _).toNatClampNeg
      rw [p_clamp (by omega), p_clamp (by omega)]
      omega

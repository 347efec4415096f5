/-! the class's sums of lines -/
def KM (A : aS) (g : z_S) : Prop := ∀ l x, l < A 0 3 → x < A 8 l → g.1 29 (24 * l + x) = nI (msk (fun w => ci (stR (fun i => A 9 (24 * l + i)) (A 8 l) A x w)) (A 0 1))
theorem x_match {A : aS} (hA : I_ok A) {g : z_S} (hX : R_X A g) : wp (fX2_match g) (fun q => (∀ o, o ≠ 29 → q.2.1 o = g.1 o) ∧ q.2.2 = g.2 ∧ KM A q.2) := by
  have h3 : A 0 3 ≤ 4 := hA.1.2.2.2.2.1
  unfold fX2_match
  refine wp_loop (P := fun s g' => ∃ l, l ≤ A 0 3 ∧ s = nI l ∧ (∀ o, o ≠ 29 → g'.1 o = g.1 o) ∧ g'.2 = g.2 ∧ ∀ k x, k < l → x < A 8 k → g'.1 29 (24 * k + x) = nI (msk (fun w => ci (stR (fun i => A 9 (24 * k + i)) (A 8 k) A x w)) (A 0 1))) (μ := fun s _ => A 0 3 - s.toNatClampNeg) ?_ zN _ _ ⟨0, by omega, rfl, fun _ _ => rfl, rfl, fun k x h => by omega⟩ (by show A 0 3 - _ < zN; rw [p_zN]; omega)
  rintro rc s g1 ⟨l, hl, rfl, e1, e2, e3⟩ ih
  have hX1 : R_X A g1 := R_X.ag hA hX (fun o ho => e1 o (by omega))
  simp only [fX2_match_B2]
  rw [hX1.1.2.2.2.1]
  try simp (disch := omega) only [p_g, p_b, p_s, p_gin, p_gblt, p_eqL, p_leL, p_Lle, p_ltL, p_Llt, p_addL, p_subL, p_mulL, p_LmulL, p_eq, p_le, p_lt, p_add, p_sub, p_mul, p_clamp, if_pos, if_neg]
  by_cases hlt : A 0 3 ≤ l
  · have : l = A 0 3 := by omega
    subst this
    rw [if_pos hlt]
    exact wp_some ⟨e1, e2, e3⟩
  · rw [if_neg hlt]
    have hl' : l < A 0 3 := by omega
    obtain ⟨l1, l2, l3⟩ := hA.2.2.2.2.2.1 l hl'
    refine wp_loop (P := fun s g' => ∃ x, x ≤ A 8 l ∧ s = (nI l, nI x) ∧ (∀ o, o ≠ 29 → g'.1 o = g.1 o) ∧ g'.2 = g.2 ∧ (∀ k x, k < l → x < A 8 k → g'.1 29 (24 * k + x) = nI (msk (fun w => ci (stR (fun i => A 9 (24 * k + i)) (A 8 k) A x w)) (A 0 1))) ∧ ∀ y, y < x → g'.1 29 (24 * l + y) = nI (msk (fun w => ci (stR (fun i => A 9 (24 * l + i)) (A 8 l) A y w)) (A 0 1))) (μ := fun s _ => A 8 l - s.2.toNatClampNeg) ?_ zN _ _ ⟨0, by omega, rfl, e1, e2, e3, fun y h => by omega⟩ (by show A 8 l - _ < zN; rw [p_zN]; omega)
    rintro rc2 s g2 ⟨x, hx, rfl, f1, f2, f3, f4⟩ ih2
    have hX2 : R_X A g2 := R_X.ag hA hX (fun o ho => f1 o (by omega))
    simp only [fX2_match_B12]
    rw [(p_clamp (n := l) (by omega)), (hX2.2.2.2.2.2.1 l hl').1]
    try simp (disch := omega) only [p_g, p_b, p_s, p_gin, p_gblt, p_eqL, p_leL, p_Lle, p_ltL, p_Llt, p_addL, p_subL, p_mulL, p_LmulL, p_eq, p_le, p_lt, p_add, p_sub, p_mul, p_clamp, if_pos, if_neg]
    by_cases hxe : A 8 l ≤ x
    · have : x = A 8 l := by omega
      subst this
      rw [if_pos hxe]
      refine ih _ _ ⟨l + 1, by omega, rfl, f1, f2, fun k y hk hy => ?_⟩ ?_
      · by_cases hkl : k = l
        · subst hkl; exact f4 y hy
        · exact f3 k y (by omega) hy
      · show _ - (nI (_ + 1)).toNatClampNeg < _ - (nI _).toNatClampNeg
        rw [p_clamp (by omega), p_clamp (by omega)]
        omega
    · rw [if_neg hxe, x_standingH hA hX2 hl' (by omega), p_b]
      try simp (disch := omega) only [p_g, p_b, p_s, p_gin, p_gblt, p_eqL, p_leL, p_Lle, p_ltL, p_Llt, p_addL, p_subL, p_mulL, p_LmulL, p_eq, p_le, p_lt, p_add, p_sub, p_mul, p_clamp, if_pos, if_neg]
      refine ih2 _ _ ⟨x + 1, by omega, rfl, ?_, f2, ?_, ?_⟩ ?_
      · intro o ho
        rw [p_off ho]; exact f1 o ho
      · intro k y hk hy
        have := (hA.2.2.2.2.2.1 k (by omega)).2.1
        rw [p_on (by omega)]; exact f3 k y hk hy
      · intro y hy
        rw [show l * 24 + x = 24 * l + x by omega]
        by_cases hyx : y = x
        · subst hyx; rw [p_at]
        · rw [p_on (by omega)]; exact f4 y (by omega)
      · show _ - (nI (_ + 1)).toNatClampNeg < _ - (nI _).toNatClampNeg
        rw [p_clamp (by omega), p_clamp (by omega)]
        omega
def omin (a b : Option Nat) : Option Nat := match a, b with
  | a, none => a
  | none, some v => some v
  | some u, some v => some (min u v)
def mO (f : Nat → Option Nat) : Nat → Option Nat
  | 0 => none
  | n + 1 => omin (mO f n) (f n)
theorem mO_low {f : Nat → Option Nat} : ∀ n w u, w < n → f w = some u → ∃ v, mO f n = some v ∧ v ≤ u
  | 0, w, u, h, _ => by omega
  | n + 1, w, u, h, hu => by
    rw [mO]
    by_cases e : w = n
    · subst e
      rw [hu]
      cases mO f w with
      | none => exact ⟨u, rfl, Nat.le_refl _⟩
      | some v => exact ⟨min v u, rfl, Nat.min_le_right _ _⟩
    · obtain ⟨v, h1, h2⟩ := mO_low n w u (by omega) hu
      rw [h1]
      cases f n with
      | none => exact ⟨v, rfl, h2⟩
      | some z => exact ⟨min v z, rfl, Nat.le_trans (Nat.min_le_left _ _) h2⟩
theorem mO_in {f : Nat → Option Nat} : ∀ n v, mO f n = some v → ∃ w, w < n ∧ f w = some v
  | 0, v, h => by cases h
  | n + 1, v, h => by
    rw [mO] at h
    cases hm : mO f n with
    | none =>
      rw [hm] at h
      cases hf : f n with
      | none => rw [hf] at h; cases h
      | some z => rw [hf] at h; exact ⟨n, by omega, by rw [hf]; exact h⟩
    | some u =>
      rw [hm] at h
      obtain ⟨w, h1, h2⟩ := mO_in n u hm
      cases hf : f n with
      | none => rw [hf] at h; cases h; exact ⟨w, by omega, h2⟩
      | some z =>
        rw [hf] at h
        have hv : min u z = v := Option.some.inj h
        rcases Nat.lt_or_ge z u with c | c
        · exact ⟨n, by omega, by rw [hf, ← hv, Nat.min_eq_right (by omega)]⟩
        · exact ⟨w, by omega, by rw [h2, ← hv, Nat.min_eq_left c]⟩
theorem mO_skip {f : Nat → Option Nat} : ∀ n m, m ≤ n → (∀ w, m ≤ w → w < n → f w = none) → mO f n = mO f m
  | 0, m, h, _ => by rw [show m = 0 by omega]
  | n + 1, m, h, e => by
    by_cases c : m = n + 1
    · rw [c]
    · rw [mO, e n (by omega) (by omega), mO_skip n m (by omega) (fun w h1 h2 => e w h1 (by omega))]
      cases mO f m <;> rfl
def eK (o : Option Nat) : Int32 := match o with
  | none => nI 1000000000
  | some v => nI v
/-- w of kind k, taken at x of line l -/
noncomputable def fK (A : aS) (l x k w : Nat) : Option Nat := cit (A 3 w = k ∧ stR (fun i => A 9 (24 * l + i)) (A 8 l) A x w) (some (A 2 w + SL A l (x + A 1 w) (A 3 w))) none
theorem SL_le {A : aS} (hA : I_ok A) {l y c : Nat} (hl : l < A 0 3) : SL A l y c ≤ 2376 := by
  have := SS_le (dr := fun i => A 9 (24 * l + i)) (len := A 8 l) hA _ y c (Nat.le_refl _)
  have := (hA.2.2.2.2.2.1 l hl).2.1
  unfold SL; omega
theorem fK_le {A : aS} (hA : I_ok A) {l x k w u : Nat} (hl : l < A 0 3) (hw : w < A 0 1) (h : fK A l x k w = some u) : u ≤ 2475 := by
  have h2 := (hA.2.1 w hw).2.2.1
  have := SL_le hA (y := x + A 1 w) (c := A 3 w) hl
  unfold fK at h
  by_cases c : A 3 w = k ∧ stR (fun i => A 9 (24 * l + i)) (A 8 l) A x w
  · rw [cit_t c] at h; cases h; omega
  · rw [cit_f c] at h; cases h
theorem x_lw {A : aS} (hA : I_ok A) {g : z_S} (hX : R_X A g) {l x w : Nat} (hl : l < A 0 3) (hw : w < A 0 1) (hs : x + A 1 w ≤ A 8 l) (hT : ∀ y c, x < y → y ≤ A 8 l → c ≤ 4 → g.1 31 (5 * y + c) = nI (SL A l y c)) : fX2_leastWith (nI x) (nI w) g = some (nI (A 2 w + SL A l (x + A 1 w) (A 3 w)), g) := by
  have hn := hA.1.2.2.1
  obtain ⟨l1, l2, l3⟩ := hA.2.2.2.2.2.1 l hl
  obtain ⟨w1, w2, w3, w4, -⟩ := hA.2.1 w hw
  unfold fX2_leastWith
  rw [(p_clamp (n := w) (by omega)), (hX.2.1 w hw).1, (hX.2.1 w hw).2.1, (hX.2.1 w hw).2.2.1]
  try simp (disch := omega) only [p_g, p_b, p_s, p_gin, p_gblt, p_eqL, p_leL, p_Lle, p_ltL, p_Llt, p_addL, p_subL, p_mulL, p_LmulL, p_eq, p_le, p_lt, p_add, p_sub, p_mul, p_clamp, if_pos, if_neg]
  rw [show (x + A 1 w) * 5 + A 3 w = 5 * (x + A 1 w) + A 3 w by omega, hT (x + A 1 w) (A 3 w) (by omega) hs (by omega), p_add]
/-- the loop over the words that stand: the least of each kind -/
theorem x_kinds {A : aS} (hA : I_ok A) {g : z_S} (hX : R_X A g) {l x : Nat} (hl : l < A 0 3) (hx : x < A 8 l) (h32 : ∀ k, k < 4 → g.1 32 k = nI 1000000000) (hT : ∀ y c, x < y → y ≤ A 8 l → c ≤ 4 → g.1 31 (5 * y + c) = nI (SL A l y c)) {Q : Unit × z_S → Prop} (k : Int32 → Int32 → z_S → Option (Unit × z_S)) (hk : ∀ g', (∀ o, o ≠ 32 → g'.1 o = g.1 o) → g'.2 = g.2 → (∀ j, j < 4 → g'.1 32 j = eK (mO (fK A l x j) (A 0 1))) → wp (k (nI l) (nI x) g') Q) : wp (z_loop (fX2_measureFrom_B36 k) zN (nI l, nI x, nI (msk (fun w => ci (stR (fun i => A 9 (24 * l + i)) (A 8 l) A x w)) (A 0 1)), 0) g) Q := by
  have hn := hA.1.2.2.1
  have hlt : msk (fun w => ci (stR (fun i => A 9 (24 * l + i)) (A 8 l) A x w)) (A 0 1) < 65536 := Nat.lt_of_lt_of_le (msk_lt _ (fun i _ => ci_le _)) (by
    have : 2 ^ A 0 1 ≤ 2 ^ 16 := Nat.pow_le_pow_right (by omega) hn
    omega)
  obtain ⟨l1, l2, l3⟩ := hA.2.2.2.2.2.1 l hl
  refine wp_loop (P := fun s g' => ∃ w, w ≤ A 0 1 ∧ s = (nI l, nI x, nI (msk (fun w => ci (stR (fun i => A 9 (24 * l + i)) (A 8 l) A x w)) (A 0 1)), nI w) ∧ (∀ o, o ≠ 32 → g'.1 o = g.1 o) ∧ g'.2 = g.2 ∧ ∀ j, j < 4 → g'.1 32 j = eK (mO (fK A l x j) w)) (μ := fun s _ => A 0 1 - s.2.2.2.toNatClampNeg) ?_ zN _ _ ⟨0, by omega, rfl, fun _ _ => rfl, rfl, h32⟩ (by show A 0 1 - _ < zN; rw [p_zN]; omega)
  rintro rc s g1 ⟨w, hw, rfl, e1, e2, e3⟩ ih
  have hX1 : R_X A g1 := R_X.ag hA hX (fun o ho => e1 o (by omega))
  simp only [fX2_measureFrom_B36]
  rw [hX1.1.2.1]
  try simp (disch := omega) only [p_g, p_b, p_s, p_gin, p_gblt, p_eqL, p_leL, p_Lle, p_ltL, p_Llt, p_addL, p_subL, p_mulL, p_LmulL, p_eq, p_le, p_lt, p_add, p_sub, p_mul, p_clamp, if_pos, if_neg]
  by_cases hlw : A 0 1 ≤ w
  · have : w = A 0 1 := by omega
    subst this
    rw [if_pos hlw]
    exact hk g1 e1 e2 e3
  · have hw' : w < A 0 1 := by omega
    rw [if_neg hlw, p_shr hlt (by omega), p_and1 (Nat.lt_of_le_of_lt (Nat.div_le_self _ _) hlt), msk_bit _ (fun i _ => ci_le _) w hw']
    have hdec : A 0 1 - (nI (w + 1)).toNatClampNeg < A 0 1 - (nI w).toNatClampNeg := by
      rw [p_clamp (by omega), p_clamp (by omega)]
      omega
    by_cases hz : msk (fun w => ci (stR (fun i => A 9 (24 * l + i)) (A 8 l) A x w)) (A 0 1) / 2 ^ w = 0
    · rw [if_pos (by rw [hz]; rfl)]
      refine hk g1 e1 e2 (fun j hj => ?_)
      rw [e3 j hj, mO_skip (A 0 1) w (by omega) (fun v h1 h2 => ?_)]
      have h0 := msk_top (fun i _ => ci_le _) hz h1 h2
      unfold fK
      rw [cit_f]
      rintro ⟨-, hs⟩
      rw [ci_t hs] at h0
      omega
    · have hb : msk (fun w => ci (stR (fun i => A 9 (24 * l + i)) (A 8 l) A x w)) (A 0 1) / 2 ^ w < 65536 := Nat.lt_of_le_of_lt (Nat.div_le_self _ _) hlt
      rw [if_neg (by rw [p_l0, p_eq (by omega) (by omega)]; exact hz)]
      by_cases hs : stR (fun i => A 9 (24 * l + i)) (A 8 l) A x w
      · obtain ⟨w1, w2, w3, w4, -⟩ := hA.2.1 w hw'
        have hs1 := hs.1
        have hSn := SL_le hA (y := x + A 1 w) (c := A 3 w) hl
        rw [if_neg (fun q => (p_cieq.mp q) hs), (hX1.2.1 w hw').2.2.1]
        try simp (disch := omega) only [p_g, p_b, p_s, p_gin, p_gblt, p_eqL, p_leL, p_Lle, p_ltL, p_Llt, p_addL, p_subL, p_mulL, p_LmulL, p_eq, p_le, p_lt, p_add, p_sub, p_mul, p_clamp, if_pos, if_neg]
        rw [x_lw hA hX1 hl hw' hs1 (fun y c a1 a2 a3 => by rw [e1 31 (by omega)]; exact hT y c a1 a2 a3), p_b]
        try simp (disch := omega) only [p_g, p_b, p_s, p_gin, p_gblt, p_eqL, p_leL, p_Lle, p_ltL, p_Llt, p_addL, p_subL, p_mulL, p_LmulL, p_eq, p_le, p_lt, p_add, p_sub, p_mul, p_clamp, if_pos, if_neg]
        refine ih _ _ ⟨w + 1, by omega, rfl, ?_, e2, ?_⟩ hdec
        · intro o ho
          rw [p_off ho]; exact e1 o ho
        · intro j hj
          rw [mO]
          by_cases hjk : j = A 3 w
          · subst hjk
            rw [p_at, e3 _ hj, show fK A l x (A 3 w) w = some (A 2 w + SL A l (x + A 1 w) (A 3 w)) from cit_t ⟨rfl, hs⟩]
            cases hm : mO (fK A l x (A 3 w)) w with
            | none =>
              show (if nI _ < nI 1000000000 then _ else _) = nI _
              rw [if_pos (by rw [p_lt (by omega) (by omega)]; omega)]
            | some u =>
              obtain ⟨v, hv1, hv2⟩ := mO_in w u hm
              have := fK_le hA hl (by omega) hv2
              show (if nI _ < nI u then _ else nI u) = nI (min u _)
              by_cases c : A 2 w + SL A l (x + A 1 w) (A 3 w) < u
              · rw [if_pos (by rw [p_lt (by omega) (by omega)]; exact c), Nat.min_eq_right (by omega)]
              · rw [if_neg (by rw [p_lt (by omega) (by omega)]; exact c), Nat.min_eq_left (by omega)]
          · rw [p_on hjk, e3 j hj, show fK A l x j w = none from cit_f (fun h => hjk h.1.symm)]
            cases mO (fK A l x j) w <;> rfl
      · rw [if_pos (p_cieq.mpr hs)]
        refine ih _ _ ⟨w + 1, by omega, rfl, e1, e2, fun j hj => ?_⟩ hdec
        rw [e3 j hj, mO, show fK A l x j w = none from cit_f (fun h => hs h.2)]
        cases mO (fK A l x j) w <;> rfl
def mayK (A : aS) (a k : Nat) : Prop := a = 4 ∨ A 5 (4 * a + k) = 1
/-- the last loop: from the least of each kind to the sums behind each kind -/
theorem x_ahead {A : aS} (hA : I_ok A) {g : z_S} (hX : R_X A g) {l x : Nat} (hl : l < A 0 3) (hx : x < A 8 l) {bk : Nat → Option Nat} (hbk : ∀ j, j < 4 → g.1 32 j = eK (bk j)) (hbl : ∀ j v, j < 4 → bk j = some v → v ≤ 2475) {T : Nat → Nat → Nat} (hTl : ∀ y c, T y c ≤ 2376) (hT : ∀ y c, x < y → y ≤ A 8 l → c ≤ 4 → g.1 31 (5 * y + c) = nI (T y c)) : wp (z_loop fX2_measureFrom_B171 zN (nI x, 0) g) (fun q => (∀ o, o ≠ 31 → q.2.1 o = g.1 o) ∧ q.2.2 = g.2 ∧ (∀ y c, x < y → y ≤ A 8 l → c ≤ 4 → q.2.1 31 (5 * y + c) = nI (T y c)) ∧ ∀ c, c ≤ 4 → q.2.1 31 (5 * x + c) = nI (mn (fun k => cit (mayK A c k) (bk k) none) (A 6 2 + T (x + 1) c) 4)) := by
  have hn := hA.1.2.2.1
  have hp2 := hA.2.2.2.1 2 (by omega)
  obtain ⟨l1, l2, l3⟩ := hA.2.2.2.2.2.1 l hl
  refine wp_loop (P := fun s g' => ∃ c, c ≤ 5 ∧ s = (nI x, nI c) ∧ (∀ o, o ≠ 31 → g'.1 o = g.1 o) ∧ g'.2 = g.2 ∧ (∀ y c, x < y → y ≤ A 8 l → c ≤ 4 → g'.1 31 (5 * y + c) = nI (T y c)) ∧ ∀ c', c' < c → g'.1 31 (5 * x + c') = nI (mn (fun k => cit (mayK A c' k) (bk k) none) (A 6 2 + T (x + 1) c') 4)) (μ := fun s _ => 5 - s.2.toNatClampNeg) ?_ zN _ _ ⟨0, by omega, rfl, fun _ _ => rfl, rfl, hT, fun c h => by omega⟩ (by show 5 - _ < zN; rw [p_zN]; omega)
  rintro rc s g1 ⟨c, hc, rfl, e1, e2, e3, e4⟩ ih
  have hX1 : R_X A g1 := R_X.ag hA hX (fun o ho => e1 o (by omega))
  simp only [fX2_measureFrom_B171]
  try simp (disch := omega) only [p_g, p_b, p_s, p_gin, p_gblt, p_eqL, p_leL, p_Lle, p_ltL, p_Llt, p_addL, p_subL, p_mulL, p_LmulL, p_eq, p_le, p_lt, p_add, p_sub, p_mul, p_clamp, if_pos, if_neg]
  by_cases hlc : 5 ≤ c
  · have : c = 5 := by omega
    subst this
    rw [if_pos hlc]
    exact wp_some ⟨e1, e2, e3, fun c hc => e4 c (by omega)⟩
  · rw [if_neg hlc, p_gi (show z_in 2 3 = true by decide), show (2 : Int32).toNatClampNeg = 2 from rfl, hX1.2.2.2.1 2 (by omega)]
    have b1 := hTl (x + 1) c
    rw [show (x + 1) * 5 + c = 5 * (x + 1) + c by omega, e3 (x + 1) c (by omega) (by omega) (by omega), p_add]
    refine wp_loop (P := fun s g' => ∃ k, k ≤ 4 ∧ s = (nI x, nI c, nI (mn (fun k => cit (mayK A c k) (bk k) none) (A 6 2 + T (x + 1) c) k), nI k) ∧ g' = g1) (μ := fun s _ => 4 - s.2.2.2.toNatClampNeg) ?_ zN _ _ ⟨0, by omega, rfl, rfl⟩ (by show 4 - _ < zN; rw [p_zN]; omega)
    rintro rc2 s g2 ⟨k, hk, rfl, rfl⟩ ih2
    have hmn := (mn_low (f := fun k => cit (mayK A c k) (bk k) none) (i := A 6 2 + T (x + 1) c) k).1
    simp only [fX2_measureFrom_B205]
    try simp (disch := omega) only [p_g, p_b, p_s, p_gin, p_gblt, p_eqL, p_leL, p_Lle, p_ltL, p_Llt, p_addL, p_subL, p_mulL, p_LmulL, p_eq, p_le, p_lt, p_add, p_sub, p_mul, p_clamp, if_pos, if_neg]
    by_cases hlk : 4 ≤ k
    · have : k = 4 := by omega
      subst this
      rw [if_pos hlk]
      try simp (disch := omega) only [p_g, p_b, p_s, p_gin, p_gblt, p_eqL, p_leL, p_Lle, p_ltL, p_Llt, p_addL, p_subL, p_mulL, p_LmulL, p_eq, p_le, p_lt, p_add, p_sub, p_mul, p_clamp, if_pos, if_neg]
      refine ih _ _ ⟨c + 1, by omega, rfl, ?_, e2, ?_, ?_⟩ ?_
      · intro o ho
        rw [p_off ho]; exact e1 o ho
      · intro y c2 q1 q2 q3
        rw [p_on (by omega)]; exact e3 y c2 q1 q2 q3
      · intro c2 q1
        rw [show x * 5 + c = 5 * x + c by omega]
        by_cases hcc : c2 = c
        · subst hcc; rw [p_at]
        · rw [p_on (by omega)]; exact e4 c2 (by omega)
      · show _ - (nI (_ + 1)).toNatClampNeg < _ - (nI _).toNatClampNeg
        rw [p_clamp (by omega), p_clamp (by omega)]
        omega
    · rw [if_neg hlk]
      have hk' : k < 4 := by omega
      have hdec : 4 - (nI (k + 1)).toNatClampNeg < 4 - (nI k).toNatClampNeg := by
        rw [p_clamp (by omega), p_clamp (by omega)]
        omega
      rw [e1 32 (by omega), hbk k hk']
      have hm5 := hA.2.2.1 (4 * c + k)
      have keep : (∀ v, bk k = some v → mayK A c k → mn (fun k => cit (mayK A c k) (bk k) none) (A 6 2 + T (x + 1) c) k ≤ v) → mn (fun k => cit (mayK A c k) (bk k) none) (A 6 2 + T (x + 1) c) (k + 1) = mn (fun k => cit (mayK A c k) (bk k) none) (A 6 2 + T (x + 1) c) k := by
        intro h
        rw [mn]
        by_cases hmay : mayK A c k
        · rw [cit_t hmay]
          cases hb : bk k with
          | none => rfl
          | some v => exact Nat.min_eq_left (h v hb hmay)
        · rw [cit_f hmay]
      have hfar : bk k = none → ¬ (nI 1000000000 < nI (mn (fun k => cit (mayK A c k) (bk k) none) (A 6 2 + T (x + 1) c) k)) := by
        intro _
        rw [p_lt (by omega) (by omega)]; omega
      cases hb : bk k with
      | none =>
        rw [if_pos (by show nI _ ≤ nI 1000000000; rw [p_le (by omega) (by omega)]; omega)]
        refine ih2 _ _ ⟨k + 1, by omega, ?_, rfl⟩ hdec
        rw [keep (fun v hv => by rw [hb] at hv; cases hv)]
      | some v =>
        have hv := hbl k v hk' hb
        show wp (if nI _ ≤ nI v then _ else _) _
        by_cases hle : mn (fun k => cit (mayK A c k) (bk k) none) (A 6 2 + T (x + 1) c) k ≤ v
        · rw [if_pos (by rw [p_le (by omega) (by omega)]; exact hle)]
          refine ih2 _ _ ⟨k + 1, by omega, ?_, rfl⟩ hdec
          rw [keep (fun u hu _ => by rw [hb] at hu; cases hu; exact hle)]
        · rw [if_neg (by rw [p_le (by omega) (by omega)]; exact hle), x_may hA hX1 (by omega) hk', p_b]
          by_cases hmay : mayK A c k
          · have h1 : (if c = 4 then 1 else A 5 (4 * c + k)) = 1 := by
              rcases hmay with h | h
              · rw [if_pos h]
              · by_cases h4 : c = 4
                · rw [if_pos h4]
                · rw [if_neg h4, h]
            rw [h1, if_neg (by decide), e1 32 (by omega), hbk k hk', hb]
            refine ih2 _ _ ⟨k + 1, by omega, ?_, rfl⟩ hdec
            rw [mn, cit_t hmay, hb]
            show _ = (_, _, nI (min _ _), _)
            rw [Nat.min_eq_right (by omega)]
            rfl
          · have h0 : (if c = 4 then 1 else A 5 (4 * c + k)) = 0 := by
              have h4 : ¬ c = 4 := fun h => hmay (Or.inl h)
              rw [if_neg h4]
              have := hm5 (by omega)
              have h5 : ¬ A 5 (4 * c + k) = 1 := fun h => hmay (Or.inr h)
              omega
            rw [h0, if_pos (by decide)]
            refine ih2 _ _ ⟨k + 1, by omega, ?_, rfl⟩ hdec
            rw [keep (fun u _ h => absurd h hmay)]
theorem kinds_words {A : aS} (hA : I_ok A) {l x c : Nat} (hx : x < A 8 l) : mn (fun k => cit (mayK A c k) (mO (fK A l x k) (A 0 1)) none) (A 6 2 + SL A l (x + 1) c) 4 = SL A l x c := by
  unfold SL
  rw [SS_step hA hx]
  obtain ⟨a1, a2⟩ := mn_low (f := fun k => cit (mayK A c k) (mO (fK A l x k) (A 0 1)) none) (i := A 6 2 + SL A l (x + 1) c) 4
  refine mn_uniq a1 (fun w u hw hu => ?_) ?_
  · unfold sw at hu
    by_cases hs : sok A (fun i => A 9 (24 * l + i)) (A 8 l) c w x
    · rw [cit_t hs] at hu
      have hf : fK A l x (A 3 w) w = some u := by
        unfold fK
        rw [cit_t ⟨rfl, hs.2⟩]; exact hu
      obtain ⟨v, h1, h2⟩ := mO_low (A 0 1) w u hw hf
      have h3 := a2 (A 3 w) v (by have := (hA.2.1 w hw).2.2.2.1; omega) (by rw [cit_t (show mayK A c (A 3 w) from hs.1)]; exact h1)
      exact Nat.le_trans h3 h2
    · rw [cit_f hs] at hu; cases hu
  · rcases mn_in (f := fun k => cit (mayK A c k) (mO (fK A l x k) (A 0 1)) none) (i := A 6 2 + SL A l (x + 1) c) 4 with h | ⟨k, hk, h⟩
    · exact Or.inl h
    · right
      by_cases hmay : mayK A c k
      · rw [cit_t hmay] at h
        obtain ⟨w, hw, hf⟩ := mO_in _ _ h
        refine ⟨w, hw, ?_⟩
        unfold fK at hf
        by_cases hc : A 3 w = k ∧ stR (fun i => A 9 (24 * l + i)) (A 8 l) A x w
        · rw [cit_t hc] at hf
          unfold sw
          rw [cit_t ⟨by unfold may; rw [hc.1]; exact hmay, hc.2⟩]
          exact hf
        · rw [cit_f hc] at hf; cases hf
      · rw [cit_f hmay] at h; cases h

/-! THE NEW WORD: the class's measure while a row is tried -/
def R_W (A : aS) (g : z_S) : Prop :=
  (g.1 1 0 = nI (A 0 0) ∧ g.1 4 0 = nI (A 0 1) ∧ g.1 11 1 = nI (A 0 2) ∧ g.1 26 0 = nI (A 0 3) ∧ g.1 9 1 = nI (A 0 4) ∧ g.1 13 1 = a_pl (A 0 5)) ∧
  (∀ w, w < A 0 1 → g.1 6 w = nI (A 1 w) ∧ g.1 7 w = nI (A 2 w) ∧ g.1 8 w = nI (A 3 w) ∧ ∀ i, i < A 1 w → g.1 5 (8 * w + i) = nI (A 4 (8 * w + i))) ∧
  (∀ i, i < 16 → g.1 2 i = nI (1 - A 5 i)) ∧ (∀ i, i < 3 → g.1 3 i = nI (A 6 i)) ∧ (∀ i, i < A 0 2 → g.1 12 i = nI (A 7 i)) ∧
  (∀ l, l < A 0 3 → g.1 (34 + 2 * l) 1 = nI (A 8 l) ∧ ∀ x, x < A 8 l → g.1 (35 + 2 * l) x = nI (A 9 (24 * l + x))) ∧ (∀ i, i < A 0 4 → g.1 10 i = nI (A 10 i)) ∧
  g.1 43 0 = 1 ∧ g.1 45 0 = 0
theorem R_X.W {A : aS} {g : z_S} (h : R_X A g) : R_W A g := by
  obtain ⟨a, b, c, d, e, f, i, j, k, l⟩ := h
  exact ⟨a, b, c, d, e, f, i, j, k⟩
theorem R_W.X {A : aS} {g : z_S} (h : R_W A g) (h15 : g.1 26 15 = 0) : R_X A g := by
  obtain ⟨a, b, c, d, e, f, i, j, k⟩ := h
  exact ⟨a, b, c, d, e, f, i, j, k, h15⟩
theorem R_W.ag2 {A : aS} {g g' : z_S} (hA : I_ok A) (hX : R_W A g) (h : ∀ o, o ≤ 13 ∨ (34 ≤ o ∧ o ≤ 45) → g'.1 o = g.1 o) (h0 : g'.1 26 0 = g.1 26 0) : R_W A g' := by
  have h3 : A 0 3 ≤ 4 := hA.1.2.2.2.2.1
  obtain ⟨⟨x1, x2, x3, x4, x5, x6⟩, xB, xC, xD, xE, xF, xG, xH, xI⟩ := hX
  refine ⟨⟨?_, ?_, ?_, ?_, ?_, ?_⟩, ?_, ?_, ?_, ?_, ?_, ?_, ?_, ?_⟩ <;> (try simp (disch := omega) only [h]) <;> (try rw [h0]) <;> (try assumption)
  intro l hl
  have hl4 : l < 4 := by omega
  rw [h (34 + 2 * l) (by omega), h (35 + 2 * l) (by omega)]
  exact xF l hl
theorem R_W.ag {A : aS} {g g' : z_S} (hA : I_ok A) (hX : R_W A g) (h : ∀ o, o ≤ 13 ∨ o = 26 ∨ (34 ≤ o ∧ o ≤ 45) → g'.1 o = g.1 o) : R_W A g' := R_W.ag2 hA hX (fun o ho => h o (by omega)) (by rw [h 26 (by omega)])
noncomputable def fT (A : aS) (l x : Nat) (T : Nat → Nat → Nat) (k w : Nat) : Option Nat := cit (A 3 w = k ∧ stR (fun i => A 9 (24 * l + i)) (A 8 l) A x w) (some (A 2 w + T (x + A 1 w) (A 3 w))) none
theorem fT_le {A : aS} (hA : I_ok A) {l x k w u : Nat} {T : Nat → Nat → Nat} (hTl : ∀ y c, T y c ≤ 2376) (hw : w < A 0 1) (h : fT A l x T k w = some u) : u ≤ 2475 := by
  have h2 := (hA.2.1 w hw).2.2.1
  have := hTl (x + A 1 w) (A 3 w)
  unfold fT at h
  by_cases c : A 3 w = k ∧ stR (fun i => A 9 (24 * l + i)) (A 8 l) A x w
  · rw [cit_t c] at h; cases h; omega
  · rw [cit_f c] at h; cases h
theorem w_may {A : aS} {g : z_S} (hA : I_ok A) (hX : R_W A g) {a j : Nat} (ha : a ≤ 4) (hj : j < 4) : fX7_mayCome (nI a) (nI j) g = some (nI (if a = 4 then 1 else A 5 (4 * a + j)), g) := by
  unfold fX7_mayCome
  simp (disch := omega) only [p_g, p_b, p_s, p_gin, p_gblt, p_eqL, p_leL, p_Lle, p_ltL, p_Llt, p_addL, p_subL, p_mulL, p_LmulL, p_eq, p_le, p_lt, p_add, p_sub, p_mul, p_clamp]
  by_cases h : a = 4
  · rw [if_pos h, if_pos h]; rfl
  · have := hA.2.2.1 (4 * a + j) (by omega)
    rw [if_neg h, if_neg h]
    rw [show a * 4 + j = 4 * a + j by omega, hX.2.2.1 _ (by omega)]
    simp (disch := omega) only [p_g, p_b, p_s, p_gin, p_gblt, p_eqL, p_leL, p_Lle, p_ltL, p_Llt, p_addL, p_subL, p_mulL, p_LmulL, p_eq, p_le, p_lt, p_add, p_sub, p_mul, p_clamp]
    rcases (show A 5 (4 * a + j) = 0 ∨ A 5 (4 * a + j) = 1 by omega) with h | h <;> rw [h] <;> rfl
theorem w_lw {A : aS} (hA : I_ok A) {T : Nat → Nat → Nat} (hTl : ∀ y c, T y c ≤ 2376) {g : z_S} (hX : R_W A g) {l x w : Nat} (hl : l < A 0 3) (hw : w < A 0 1) (hs : x + A 1 w ≤ A 8 l) (hT : ∀ y c, x < y → y ≤ A 8 l → c ≤ 4 → g.1 31 (5 * y + c) = nI (T y c)) : fX2_leastWith (nI x) (nI w) g = some (nI (A 2 w + T (x + A 1 w) (A 3 w)), g) := by
  have hn := hA.1.2.2.1
  obtain ⟨l1, l2, l3⟩ := hA.2.2.2.2.2.1 l hl
  obtain ⟨w1, w2, w3, w4, -⟩ := hA.2.1 w hw
  unfold fX2_leastWith
  rw [(p_clamp (n := w) (by omega)), (hX.2.1 w hw).1, (hX.2.1 w hw).2.1, (hX.2.1 w hw).2.2.1]
  try simp (disch := omega) only [p_g, p_b, p_s, p_gin, p_gblt, p_eqL, p_leL, p_Lle, p_ltL, p_Llt, p_addL, p_subL, p_mulL, p_LmulL, p_eq, p_le, p_lt, p_add, p_sub, p_mul, p_clamp, if_pos, if_neg]
  rw [show (x + A 1 w) * 5 + A 3 w = 5 * (x + A 1 w) + A 3 w by omega, hT (x + A 1 w) (A 3 w) (by omega) hs (by omega), p_add]
/-- the loop over the words that stand: the least of each kind -/
theorem w_kinds {A : aS} (hA : I_ok A) {T : Nat → Nat → Nat} (hTl : ∀ y c, T y c ≤ 2376) {g : z_S} (hX : R_W A g) {l x : Nat} (hl : l < A 0 3) (hx : x < A 8 l) (h32 : ∀ k, k < 4 → g.1 32 k = nI 1000000000) (hT : ∀ y c, x < y → y ≤ A 8 l → c ≤ 4 → g.1 31 (5 * y + c) = nI (T y c)) {Q : Unit × z_S → Prop} (k : Int32 → Int32 → z_S → Option (Unit × z_S)) (hk : ∀ g', (∀ o, o ≠ 32 → g'.1 o = g.1 o) → g'.2 = g.2 → (∀ j, j < 4 → g'.1 32 j = eK (mO (fT A l x T j) (A 0 1))) → wp (k (nI l) (nI x) g') Q) : wp (z_loop (fX2_measureFrom_B36 k) zN (nI l, nI x, nI (msk (fun w => ci (stR (fun i => A 9 (24 * l + i)) (A 8 l) A x w)) (A 0 1)), 0) g) Q := by
  have hn := hA.1.2.2.1
  have hlt : msk (fun w => ci (stR (fun i => A 9 (24 * l + i)) (A 8 l) A x w)) (A 0 1) < 65536 := Nat.lt_of_lt_of_le (msk_lt _ (fun i _ => ci_le _)) (by
    have : 2 ^ A 0 1 ≤ 2 ^ 16 := Nat.pow_le_pow_right (by omega) hn
    omega)
  obtain ⟨l1, l2, l3⟩ := hA.2.2.2.2.2.1 l hl
  refine wp_loop (P := fun s g' => ∃ w, w ≤ A 0 1 ∧ s = (nI l, nI x, nI (msk (fun w => ci (stR (fun i => A 9 (24 * l + i)) (A 8 l) A x w)) (A 0 1)), nI w) ∧ (∀ o, o ≠ 32 → g'.1 o = g.1 o) ∧ g'.2 = g.2 ∧ ∀ j, j < 4 → g'.1 32 j = eK (mO (fT A l x T j) w)) (μ := fun s _ => A 0 1 - s.2.2.2.toNatClampNeg) ?_ zN _ _ ⟨0, by omega, rfl, fun _ _ => rfl, rfl, h32⟩ (by show A 0 1 - _ < zN; rw [p_zN]; omega)
  rintro rc s g1 ⟨w, hw, rfl, e1, e2, e3⟩ ih
  have hX1 : R_W A g1 := R_W.ag hA hX (fun o ho => e1 o (by omega))
  simp only [fX2_measureFrom_B36]
  rw [hX1.1.2.1]
  try simp (disch := omega) only [p_g, p_b, p_s, p_gin, p_gblt, p_eqL, p_leL, p_Lle, p_ltL, p_Llt, p_addL, p_subL, p_mulL, p_LmulL, p_eq, p_le, p_lt, p_add, p_sub, p_mul, p_clamp, if_pos, if_neg]
  by_cases hlw : A 0 1 ≤ w
  · have : w = A 0 1 := by omega
    subst this
    rw [if_pos hlw]
    exact hk g1 e1 e2 e3
  · have hw' : w < A 0 1 := by omega
    rw [if_neg hlw, p_shr hlt (by omega), p_and1 (Nat.lt_of_le_of_lt (Nat.div_le_self _ _) hlt), msk_bit _ (fun i _ => ci_le _) w hw']
    have hdec : A 0 1 - (nI (w + 1)).toNatClampNeg < A 0 1 - (nI w).toNatClampNeg := by
      rw [p_clamp (by omega), p_clamp (by omega)]
      omega
    by_cases hz : msk (fun w => ci (stR (fun i => A 9 (24 * l + i)) (A 8 l) A x w)) (A 0 1) / 2 ^ w = 0
    · rw [if_pos (by rw [hz]; rfl)]
      refine hk g1 e1 e2 (fun j hj => ?_)
      rw [e3 j hj, mO_skip (A 0 1) w (by omega) (fun v h1 h2 => ?_)]
      have h0 := msk_top (fun i _ => ci_le _) hz h1 h2
      unfold fT
      rw [cit_f]
      rintro ⟨-, hs⟩
      rw [ci_t hs] at h0
      omega
    · have hb : msk (fun w => ci (stR (fun i => A 9 (24 * l + i)) (A 8 l) A x w)) (A 0 1) / 2 ^ w < 65536 := Nat.lt_of_le_of_lt (Nat.div_le_self _ _) hlt
      rw [if_neg (by rw [p_l0, p_eq (by omega) (by omega)]; exact hz)]
      by_cases hs : stR (fun i => A 9 (24 * l + i)) (A 8 l) A x w
      · obtain ⟨w1, w2, w3, w4, -⟩ := hA.2.1 w hw'
        have hs1 := hs.1
        have hSn := hTl (x + A 1 w) (A 3 w)
        rw [if_neg (fun q => (p_cieq.mp q) hs), (hX1.2.1 w hw').2.2.1]
        try simp (disch := omega) only [p_g, p_b, p_s, p_gin, p_gblt, p_eqL, p_leL, p_Lle, p_ltL, p_Llt, p_addL, p_subL, p_mulL, p_LmulL, p_eq, p_le, p_lt, p_add, p_sub, p_mul, p_clamp, if_pos, if_neg]
        rw [w_lw hA hTl hX1 hl hw' hs1 (fun y c a1 a2 a3 => by rw [e1 31 (by omega)]; exact hT y c a1 a2 a3), p_b]
        try simp (disch := omega) only [p_g, p_b, p_s, p_gin, p_gblt, p_eqL, p_leL, p_Lle, p_ltL, p_Llt, p_addL, p_subL, p_mulL, p_LmulL, p_eq, p_le, p_lt, p_add, p_sub, p_mul, p_clamp, if_pos, if_neg]
        refine ih _ _ ⟨w + 1, by omega, rfl, ?_, e2, ?_⟩ hdec
        · intro o ho
          rw [p_off ho]; exact e1 o ho
        · intro j hj
          rw [mO]
          by_cases hjk : j = A 3 w
          · subst hjk
            rw [p_at, e3 _ hj, show fT A l x T (A 3 w) w = some (A 2 w + T (x + A 1 w) (A 3 w)) from cit_t ⟨rfl, hs⟩]
            cases hm : mO (fT A l x T (A 3 w)) w with
            | none =>
              show (if nI _ < nI 1000000000 then _ else _) = nI _
              rw [if_pos (by rw [p_lt (by omega) (by omega)]; omega)]
            | some u =>
              obtain ⟨v, hv1, hv2⟩ := mO_in w u hm
              have := fT_le hA hTl (by omega) hv2
              show (if nI _ < nI u then _ else nI u) = nI (min u _)
              by_cases c : A 2 w + T (x + A 1 w) (A 3 w) < u
              · rw [if_pos (by rw [p_lt (by omega) (by omega)]; exact c), Nat.min_eq_right (by omega)]
              · rw [if_neg (by rw [p_lt (by omega) (by omega)]; exact c), Nat.min_eq_left (by omega)]
          · rw [p_on hjk, e3 j hj, show fT A l x T j w = none from cit_f (fun h => hjk h.1.symm)]
            cases mO (fT A l x T j) w <;> rfl
      · rw [if_pos (p_cieq.mpr hs)]
        refine ih _ _ ⟨w + 1, by omega, rfl, e1, e2, fun j hj => ?_⟩ hdec
        rw [e3 j hj, mO, show fT A l x T j w = none from cit_f (fun h => hs h.2)]
        cases mO (fT A l x T j) w <;> rfl
/-- the last loop: from the least of each kind to the sums behind each kind -/
theorem w_ahead {A : aS} (hA : I_ok A) {g : z_S} (hX : R_W A g) {l x : Nat} (hl : l < A 0 3) (hx : x < A 8 l) {bk : Nat → Option Nat} (hbk : ∀ j, j < 4 → g.1 32 j = eK (bk j)) (hbl : ∀ j v, j < 4 → bk j = some v → v ≤ 2475) {T : Nat → Nat → Nat} (hTl : ∀ y c, T y c ≤ 2376) (hT : ∀ y c, x < y → y ≤ A 8 l → c ≤ 4 → g.1 31 (5 * y + c) = nI (T y c)) : wp (z_loop fX2_measureFrom_B171 zN (nI x, 0) g) (fun q => (∀ o, o ≠ 31 → q.2.1 o = g.1 o) ∧ q.2.2 = g.2 ∧ (∀ y c, x < y → y ≤ A 8 l → c ≤ 4 → q.2.1 31 (5 * y + c) = nI (T y c)) ∧ ∀ c, c ≤ 4 → q.2.1 31 (5 * x + c) = nI (mn (fun k => cit (mayK A c k) (bk k) none) (A 6 2 + T (x + 1) c) 4)) := by
  have hn := hA.1.2.2.1
  have hp2 := hA.2.2.2.1 2 (by omega)
  obtain ⟨l1, l2, l3⟩ := hA.2.2.2.2.2.1 l hl
  refine wp_loop (P := fun s g' => ∃ c, c ≤ 5 ∧ s = (nI x, nI c) ∧ (∀ o, o ≠ 31 → g'.1 o = g.1 o) ∧ g'.2 = g.2 ∧ (∀ y c, x < y → y ≤ A 8 l → c ≤ 4 → g'.1 31 (5 * y + c) = nI (T y c)) ∧ ∀ c', c' < c → g'.1 31 (5 * x + c') = nI (mn (fun k => cit (mayK A c' k) (bk k) none) (A 6 2 + T (x + 1) c') 4)) (μ := fun s _ => 5 - s.2.toNatClampNeg) ?_ zN _ _ ⟨0, by omega, rfl, fun _ _ => rfl, rfl, hT, fun c h => by omega⟩ (by show 5 - _ < zN; rw [p_zN]; omega)
  rintro rc s g1 ⟨c, hc, rfl, e1, e2, e3, e4⟩ ih
  have hX1 : R_W A g1 := R_W.ag hA hX (fun o ho => e1 o (by omega))
  simp only [fX2_measureFrom_B171]
  try simp (disch := omega) only [p_g, p_b, p_s, p_gin, p_gblt, p_eqL, p_leL, p_Lle, p_ltL, p_Llt, p_addL, p_subL, p_mulL, p_LmulL, p_eq, p_le, p_lt, p_add, p_sub, p_mul, p_clamp, if_pos, if_neg]
  by_cases hlc : 5 ≤ c
  · have : c = 5 := by omega
    subst this
    rw [if_pos hlc]
    exact wp_some ⟨e1, e2, e3, fun c hc => e4 c (by omega)⟩
  · rw [if_neg hlc, p_gi (show z_in 2 3 = true by decide), show (2 : Int32).toNatClampNeg = 2 from rfl, hX1.2.2.2.1 2 (by omega)]
    have b1 := hTl (x + 1) c
    rw [show (x + 1) * 5 + c = 5 * (x + 1) + c by omega, e3 (x + 1) c (by omega) (by omega) (by omega), p_add]
    refine wp_loop (P := fun s g' => ∃ k, k ≤ 4 ∧ s = (nI x, nI c, nI (mn (fun k => cit (mayK A c k) (bk k) none) (A 6 2 + T (x + 1) c) k), nI k) ∧ g' = g1) (μ := fun s _ => 4 - s.2.2.2.toNatClampNeg) ?_ zN _ _ ⟨0, by omega, rfl, rfl⟩ (by show 4 - _ < zN; rw [p_zN]; omega)
    rintro rc2 s g2 ⟨k, hk, rfl, rfl⟩ ih2
    have hmn := (mn_low (f := fun k => cit (mayK A c k) (bk k) none) (i := A 6 2 + T (x + 1) c) k).1
    simp only [fX2_measureFrom_B205]
    try simp (disch := omega) only [p_g, p_b, p_s, p_gin, p_gblt, p_eqL, p_leL, p_Lle, p_ltL, p_Llt, p_addL, p_subL, p_mulL, p_LmulL, p_eq, p_le, p_lt, p_add, p_sub, p_mul, p_clamp, if_pos, if_neg]
    by_cases hlk : 4 ≤ k
    · have : k = 4 := by omega
      subst this
      rw [if_pos hlk]
      try simp (disch := omega) only [p_g, p_b, p_s, p_gin, p_gblt, p_eqL, p_leL, p_Lle, p_ltL, p_Llt, p_addL, p_subL, p_mulL, p_LmulL, p_eq, p_le, p_lt, p_add, p_sub, p_mul, p_clamp, if_pos, if_neg]
      refine ih _ _ ⟨c + 1, by omega, rfl, ?_, e2, ?_, ?_⟩ ?_
      · intro o ho
        rw [p_off ho]; exact e1 o ho
      · intro y c2 q1 q2 q3
        rw [p_on (by omega)]; exact e3 y c2 q1 q2 q3
      · intro c2 q1
        rw [show x * 5 + c = 5 * x + c by omega]
        by_cases hcc : c2 = c
        · subst hcc; rw [p_at]
        · rw [p_on (by omega)]; exact e4 c2 (by omega)
      · show _ - (nI (_ + 1)).toNatClampNeg < _ - (nI _).toNatClampNeg
        rw [p_clamp (by omega), p_clamp (by omega)]
        omega
    · rw [if_neg hlk]
      have hk' : k < 4 := by omega
      have hdec : 4 - (nI (k + 1)).toNatClampNeg < 4 - (nI k).toNatClampNeg := by
        rw [p_clamp (by omega), p_clamp (by omega)]
        omega
      rw [e1 32 (by omega), hbk k hk']
      have hm5 := hA.2.2.1 (4 * c + k)
      have keep : (∀ v, bk k = some v → mayK A c k → mn (fun k => cit (mayK A c k) (bk k) none) (A 6 2 + T (x + 1) c) k ≤ v) → mn (fun k => cit (mayK A c k) (bk k) none) (A 6 2 + T (x + 1) c) (k + 1) = mn (fun k => cit (mayK A c k) (bk k) none) (A 6 2 + T (x + 1) c) k := by
        intro h
        rw [mn]
        by_cases hmay : mayK A c k
        · rw [cit_t hmay]
          cases hb : bk k with
          | none => rfl
          | some v => exact Nat.min_eq_left (h v hb hmay)
        · rw [cit_f hmay]
      have hfar : bk k = none → ¬ (nI 1000000000 < nI (mn (fun k => cit (mayK A c k) (bk k) none) (A 6 2 + T (x + 1) c) k)) := by
        intro _
        rw [p_lt (by omega) (by omega)]; omega
      cases hb : bk k with
      | none =>
        rw [if_pos (by show nI _ ≤ nI 1000000000; rw [p_le (by omega) (by omega)]; omega)]
        refine ih2 _ _ ⟨k + 1, by omega, ?_, rfl⟩ hdec
        rw [keep (fun v hv => by rw [hb] at hv; cases hv)]
      | some v =>
        have hv := hbl k v hk' hb
        show wp (if nI _ ≤ nI v then _ else _) _
        by_cases hle : mn (fun k => cit (mayK A c k) (bk k) none) (A 6 2 + T (x + 1) c) k ≤ v
        · rw [if_pos (by rw [p_le (by omega) (by omega)]; exact hle)]
          refine ih2 _ _ ⟨k + 1, by omega, ?_, rfl⟩ hdec
          rw [keep (fun u hu _ => by rw [hb] at hu; cases hu; exact hle)]
        · rw [if_neg (by rw [p_le (by omega) (by omega)]; exact hle), w_may hA hX1 (by omega) hk', p_b]
          by_cases hmay : mayK A c k
          · have h1 : (if c = 4 then 1 else A 5 (4 * c + k)) = 1 := by
              rcases hmay with h | h
              · rw [if_pos h]
              · by_cases h4 : c = 4
                · rw [if_pos h4]
                · rw [if_neg h4, h]
            rw [h1, if_neg (by decide), e1 32 (by omega), hbk k hk', hb]
            refine ih2 _ _ ⟨k + 1, by omega, ?_, rfl⟩ hdec
            rw [mn, cit_t hmay, hb]
            show _ = (_, _, nI (min _ _), _)
            rw [Nat.min_eq_right (by omega)]
            rfl
          · have h0 : (if c = 4 then 1 else A 5 (4 * c + k)) = 0 := by
              have h4 : ¬ c = 4 := fun h => hmay (Or.inl h)
              rw [if_neg h4]
              have := hm5 (by omega)
              have h5 : ¬ A 5 (4 * c + k) = 1 := fun h => hmay (Or.inr h)
              omega
            rw [h0, if_pos (by decide)]
            refine ih2 _ _ ⟨k + 1, by omega, ?_, rfl⟩ hdec
            rw [keep (fun u _ h => absurd h hmay)]

/-! learn -/
noncomputable def uW (A : aS) (w : Nat) : Nat := (uF A (A 0 3)).1 w
theorem uW_le {A : aS} (hA : I_ok A) (w : Nat) : uW A w ≤ 100 := by
  have h3 : A 0 3 ≤ 4 := hA.1.2.2.2.2.1
  have := (uF_le (A := A) (A 0 3)).1 w
  unfold uW; omega
noncomputable def rkN (A : aS) (w n : Nat) : Nat := 1 + sm (fun v => ci (uW A w < uW A v)) n
noncomputable def rk (A : aS) (w : Nat) : Nat := rkN A w (A 0 1)
theorem rkN_le {A : aS} {w n : Nat} : rkN A w n ≤ 1 + n := by
  have := sm_one (f := fun v => ci (uW A w < uW A v)) n (fun i _ => ci_le _)
  unfold rkN; omega
theorem rk_le {A : aS} (hA : I_ok A) {w : Nat} : rk A w ≤ 17 := by
  have hn := hA.1.2.2.1
  have := rkN_le (A := A) (w := w) (n := A 0 1)
  unfold rk; omega
/-- the costs of the first n words by rank -/
noncomputable def LA (A : aS) (n : Nat) : aS := fun c i => if c = 2 ∧ i < n then rk A i else A c i
theorem LA_o {A : aS} {n c : Nat} (h : c ≠ 2) : LA A n c = A c := by
  funext i
  unfold LA
  rw [if_neg (fun q => h q.1)]
theorem LA_2 {A : aS} {n i : Nat} : LA A n 2 i = if i < n then rk A i else A 2 i := by
  unfold LA
  by_cases h : i < n
  · rw [if_pos ⟨rfl, h⟩, if_pos h]
  · rw [if_neg (fun q => h q.2), if_neg h]
theorem LA_00 {A : aS} : LA A 0 = A := by
  funext c i
  unfold LA
  rw [if_neg (fun q => by omega)]
theorem LA_ok {A : aS} (hA : I_ok A) (n : Nat) : I_ok (LA A n) := by
  have hr : ∀ i, rk A i ≤ 99 := fun i => by have := rk_le hA (w := i); omega
  obtain ⟨⟨a1, a2, a3, a4, a5, a6, a7⟩, aB, aC, aD, aE, aF, aG, aH⟩ := hA
  refine ⟨⟨?_, ?_, ?_, ?_, ?_, ?_, ?_⟩, ?_, ?_, ?_, ?_, ?_, ?_, ?_⟩ <;> (try simp (disch := omega) only [LA_o]) <;> (try assumption) <;> (try omega)
  intro w hw
  obtain ⟨w1, w2, w3, w4, w5⟩ := aB w hw
  refine ⟨w1, w2, ?_, w4, w5⟩
  rw [LA_2]
  split
  · exact hr w
  · exact w3
theorem LA_KM {A : aS} {n : Nat} {g : z_S} (h : KM A g) : KM (LA A n) g := by
  unfold KM stR at *
  simp (disch := omega) only [LA_o]
  exact h
theorem LA_X {A : aS} {n : Nat} {g g' : z_S} (hA : I_ok A) (hX : R_X (LA A n) g) (h : ∀ o, o ≠ 7 → g'.1 o = g.1 o) (h7 : ∀ i, i < n → g'.1 7 i = g.1 7 i) (h71 : ∀ i, n < i → g'.1 7 i = g.1 7 i) (h72 : g'.1 7 n = nI (rk A n)) : R_X (LA A (n + 1)) g' := by
  have h3 : A 0 3 ≤ 4 := hA.1.2.2.2.2.1
  obtain ⟨⟨x1, x2, x3, x4, x5, x6⟩, xB, xC, xD, xE, xF, xG, xH, xI, xJ⟩ := hX
  refine ⟨⟨?_, ?_, ?_, ?_, ?_, ?_⟩, ?_, ?_, ?_, ?_, ?_, ?_, ?_, ?_, ?_⟩ <;> (try simp (disch := omega) only [h, LA_o]) <;> (try simp (disch := omega) only [LA_o] at x1 x2 x3 x4 x5 x6 xB xC xD xE xF xG xH) <;> (try assumption)
  · intro w hw
    obtain ⟨w1, w2, w3, w4⟩ := xB w hw
    refine ⟨w1, ?_, w3, w4⟩
    rw [LA_2] at w2 ⊢
    by_cases hw1 : w < n
    · rw [if_pos (by omega), h7 w hw1, w2, if_pos hw1]
    · by_cases hw2 : w = n
      · subst hw2; rw [if_pos (by omega), h72]
      · rw [if_neg (by omega), h71 w (by omega), w2, if_neg hw1]
theorem LA_M {A : aS} {n : Nat} {g g' : z_S} (hM : R_M (LA A n) g) (h : ∀ o, o ≠ 3 → g'.1 o = g.1 o) (h7 : ∀ i, i < n → g'.1 3 i = g.1 3 i) (h71 : ∀ i, n < i → g'.1 3 i = g.1 3 i) (h72 : g'.1 3 n = nI (rk A n)) : R_M (LA A (n + 1)) g' := by
  obtain ⟨⟨m1, m2, m3, m4, m5, m6⟩, mB, mC, mD, mE, mF, mG⟩ := hM
  refine ⟨⟨?_, ?_, ?_, ?_, ?_, ?_⟩, ?_, ?_, ?_, ?_, ?_, ?_⟩ <;> (try simp (disch := omega) only [h, LA_o]) <;> (try simp (disch := omega) only [LA_o] at m1 m2 m3 m4 m5 m6 mB mC mD mE mF mG) <;> (try assumption)
  intro w hw
  obtain ⟨w1, w2, w3, w4⟩ := mB w hw
  refine ⟨w1, ?_, w3, w4⟩
  rw [LA_2] at w2 ⊢
  by_cases hw1 : w < n
  · rw [if_pos (by omega), h7 w hw1, w2, if_pos hw1]
  · by_cases hw2 : w = n
    · subst hw2; rw [if_pos (by omega), h72]
    · rw [if_neg (by omega), h71 w (by omega), w2, if_neg hw1]
/-- a cost of the first n changes -/
def chg (A : aS) (n : Nat) : Prop := ∃ w, w < n ∧ A 2 w ≠ rk A w
theorem chg_s {A : aS} {n : Nat} : chg A (n + 1) ↔ chg A n ∨ A 2 n ≠ rk A n := by
  constructor
  · rintro ⟨w, h1, h2⟩
    by_cases h : w = n
    · subst h; exact Or.inr h2
    · exact Or.inl ⟨w, by omega, h2⟩
  · rintro (⟨w, h1, h2⟩ | h)
    · exact ⟨w, by omega, h2⟩
    · exact ⟨n, by omega, h⟩
theorem chg_0 {A : aS} : ¬ chg A 0 := fun ⟨w, h, _⟩ => by omega
theorem ci_and1 (c : Prop) : (nI (ci c) &&& 1 == nI (ci c)) = true := by
  by_cases h : c
  · rw [ci_t h]; decide
  · rw [ci_f h]; decide
theorem x_rank {A : aS} (hA : I_ok A) {g : z_S} (h4 : g.1 4 0 = nI (A 0 1)) (h27 : ∀ w, w < 16 → g.1 27 w = nI (uW A w)) {w : Nat} (hw : w < A 0 1) (c : Int32) (k : Int32 → Int32 → Int32 → z_S → Option (Int32 × z_S)) : z_loop (fX2_rankCosts_B20 k) zN (c, nI w, 1, 0) g = k c (nI w) (nI (rk A w)) g := by
  have hn := hA.1.2.2.1
  refine p_loop (P := fun s g' => ∃ v, v ≤ A 0 1 ∧ g' = g ∧ s = (c, nI w, nI (rkN A w v), nI v)) (μ := fun s _ => A 0 1 - s.2.2.2.toNatClampNeg) ?_ zN _ _ ⟨0, by omega, rfl, rfl⟩ (by show A 0 1 - _ < zN; rw [p_zN]; omega)
  rintro rc s g' ⟨v, hv, rfl, rfl⟩ ih
  have hr := rkN_le (A := A) (w := w) (n := v)
  have u1 := uW_le hA w
  have u2 := uW_le hA v
  simp only [fX2_rankCosts_B20]
  rw [h4]
  try simp (disch := omega) only [p_g, p_b, p_s, p_gin, p_gblt, p_eqL, p_leL, p_Lle, p_ltL, p_Llt, p_addL, p_subL, p_mulL, p_LmulL, p_eq, p_le, p_lt, p_add, p_sub, p_mul, p_clamp, if_pos, if_neg]
  by_cases hlv : A 0 1 ≤ v
  · have : v = A 0 1 := by omega
    subst this
    rw [if_pos hlv]; rfl
  · rw [if_neg hlv, h27 v (by omega), h27 w (by omega)]
    try simp (disch := omega) only [p_g, p_b, p_s, p_gin, p_gblt, p_eqL, p_leL, p_Lle, p_ltL, p_Llt, p_addL, p_subL, p_mulL, p_LmulL, p_eq, p_le, p_lt, p_add, p_sub, p_mul, p_clamp, if_pos, if_neg]
    have hs : rkN A w (v + 1) = rkN A w v + ci (uW A w < uW A v) := by unfold rkN; rw [sm]; omega
    by_cases hlt : uW A v ≤ uW A w
    · rw [if_pos hlt]
      refine ih _ _ ⟨v + 1, by omega, rfl, by rw [hs, ci_f (by omega)]; rfl⟩ ?_
      show _ - (nI (_ + 1)).toNatClampNeg < _ - (nI _).toNatClampNeg
      rw [p_clamp (by omega), p_clamp (by omega)]
      omega
    · rw [if_neg hlt]
      refine ih _ _ ⟨v + 1, by omega, rfl, by rw [hs, ci_t (by omega)]⟩ ?_
      show _ - (nI (_ + 1)).toNatClampNeg < _ - (nI _).toNatClampNeg
      rw [p_clamp (by omega), p_clamp (by omega)]
      omega
theorem m_rank {A : aS} (hA : I_ok A) {g : z_S} (h4 : g.1 0 1 = nI (A 0 1)) (h27 : ∀ w, w < 16 → g.1 35 w = nI (uW A w)) {w : Nat} (hw : w < A 0 1) (c : Int32) (k : Int32 → Int32 → Int32 → z_S → Option (Int32 × z_S)) : z_loop (fX11_learnOnce_B21 k) zN (c, nI w, 1, 0) g = k c (nI w) (nI (rk A w)) g := by
  have hn := hA.1.2.2.1
  refine p_loop (P := fun s g' => ∃ v, v ≤ A 0 1 ∧ g' = g ∧ s = (c, nI w, nI (rkN A w v), nI v)) (μ := fun s _ => A 0 1 - s.2.2.2.toNatClampNeg) ?_ zN _ _ ⟨0, by omega, rfl, rfl⟩ (by show A 0 1 - _ < zN; rw [p_zN]; omega)
  rintro rc s g' ⟨v, hv, rfl, rfl⟩ ih
  have hr := rkN_le (A := A) (w := w) (n := v)
  have u1 := uW_le hA w
  have u2 := uW_le hA v
  simp only [fX11_learnOnce_B21]
  rw [h4]
  try simp (disch := omega) only [p_g, p_b, p_s, p_gin, p_gblt, p_eqL, p_leL, p_Lle, p_ltL, p_Llt, p_addL, p_subL, p_mulL, p_LmulL, p_eq, p_le, p_lt, p_add, p_sub, p_mul, p_clamp, if_pos, if_neg]
  by_cases hlv : A 0 1 ≤ v
  · have : v = A 0 1 := by omega
    subst this
    rw [if_pos hlv]; rfl
  · rw [if_neg hlv, h27 v (by omega), h27 w (by omega)]
    try simp (disch := omega) only [p_g, p_b, p_s, p_gin, p_gblt, p_eqL, p_leL, p_Lle, p_ltL, p_Llt, p_addL, p_subL, p_mulL, p_LmulL, p_eq, p_le, p_lt, p_add, p_sub, p_mul, p_clamp, if_pos, if_neg]
    have hs : rkN A w (v + 1) = rkN A w v + ci (uW A w < uW A v) := by unfold rkN; rw [sm]; omega
    unfold fX11_learnOnce_J52
    by_cases hlt : uW A v ≤ uW A w
    · rw [if_pos hlt, show fX11_one 0 g' = some (nI 0, g') from m_one (a := 0) (by omega), p_b]
      try simp (disch := omega) only [p_g, p_b, p_s, p_gin, p_gblt, p_eqL, p_leL, p_Lle, p_ltL, p_Llt, p_addL, p_subL, p_mulL, p_LmulL, p_eq, p_le, p_lt, p_add, p_sub, p_mul, p_clamp, if_pos, if_neg]
      refine ih _ _ ⟨v + 1, by omega, rfl, by rw [hs, ci_f (by omega)]⟩ ?_
      show _ - (nI (_ + 1)).toNatClampNeg < _ - (nI _).toNatClampNeg
      rw [p_clamp (by omega), p_clamp (by omega)]
      omega
    · rw [if_neg hlt, show fX11_one 1 g' = some (nI 1, g') from m_one (a := 1) (by omega), p_b]
      try simp (disch := omega) only [p_g, p_b, p_s, p_gin, p_gblt, p_eqL, p_leL, p_Lle, p_ltL, p_Llt, p_addL, p_subL, p_mulL, p_LmulL, p_eq, p_le, p_lt, p_add, p_sub, p_mul, p_clamp, if_pos, if_neg]
      refine ih _ _ ⟨v + 1, by omega, rfl, by rw [hs, ci_t (by omega)]⟩ ?_
      show _ - (nI (_ + 1)).toNatClampNeg < _ - (nI _).toNatClampNeg
      rw [p_clamp (by omega), p_clamp (by omega)]
      omega
theorem x_ranks {A : aS} (hA : I_ok A) {g : z_S} (hX : R_X A g) (h27 : ∀ w, w < 16 → g.1 27 w = nI (uW A w)) : wp (fX2_rankCosts g) (fun q => q.1 = nI (ci (chg A (A 0 1))) ∧ R_X (LA A (A 0 1)) q.2 ∧ (∀ o, o ≠ 7 → q.2.1 o = g.1 o)) := by
  have hn := hA.1.2.2.1
  unfold fX2_rankCosts
  refine wp_loop (P := fun s g' => ∃ w, w ≤ A 0 1 ∧ s = (nI (ci (chg A w)), nI w) ∧ R_X (LA A w) g' ∧ (∀ o, o ≠ 7 → g'.1 o = g.1 o)) (μ := fun s _ => A 0 1 - s.2.toNatClampNeg) ?_ zN _ _ ⟨0, by omega, by rw [ci_f chg_0]; rfl, by rw [LA_00]; exact hX, fun _ _ => rfl⟩ (by show A 0 1 - _ < zN; rw [p_zN]; omega)
  rintro rc s g1 ⟨w, hw, rfl, e1, e2⟩ ih
  have e4 : g1.1 4 0 = nI (A 0 1) := by rw [e2 4 (by omega)]; exact hX.1.2.1
  simp only [fX2_rankCosts_B4]
  rw [e4]
  try simp (disch := omega) only [p_g, p_b, p_s, p_gin, p_gblt, p_eqL, p_leL, p_Lle, p_ltL, p_Llt, p_addL, p_subL, p_mulL, p_LmulL, p_eq, p_le, p_lt, p_add, p_sub, p_mul, p_clamp, if_pos, if_neg]
  by_cases hlw : A 0 1 ≤ w
  · have : w = A 0 1 := by omega
    subst this
    rw [if_pos hlw, p_gi (ci_and1 _)]
    exact wp_some ⟨rfl, e1, e2⟩
  · have hw' : w < A 0 1 := by omega
    have hr := rk_le hA (w := w)
    obtain ⟨w1, w2, w3, w4, -⟩ := hA.2.1 w hw'
    have e7 : g1.1 7 w = nI (A 2 w) := by
      have := (e1.2.1 w (by rw [LA_o (by decide)]; exact hw')).2.1
      rw [LA_2, if_neg (by omega)] at this
      exact this
    rw [if_neg hlw, x_rank hA e4 (fun v hv => by rw [e2 27 (by omega)]; exact h27 v hv) hw']
    try simp (disch := omega) only [p_g, p_b, p_s, p_gin, p_gblt, p_eqL, p_leL, p_Lle, p_ltL, p_Llt, p_addL, p_subL, p_mulL, p_LmulL, p_eq, p_le, p_lt, p_add, p_sub, p_mul, p_clamp, if_pos, if_neg]
    rw [e7]
    try simp (disch := omega) only [p_g, p_b, p_s, p_gin, p_gblt, p_eqL, p_leL, p_Lle, p_ltL, p_Llt, p_addL, p_subL, p_mulL, p_LmulL, p_eq, p_le, p_lt, p_add, p_sub, p_mul, p_clamp, if_pos, if_neg]
    by_cases he : A 2 w = rk A w
    · rw [if_pos he]
      refine ih _ _ ⟨w + 1, by omega, ?_, LA_X hA e1 (fun _ _ => rfl) (fun _ _ => rfl) (fun _ _ => rfl) (by rw [e7, he]), e2⟩ ?_
      · have : chg A (w + 1) = chg A w := propext (chg_s.trans ⟨fun h => h.resolve_right (fun q => q he), Or.inl⟩)
        rw [this]
      · show _ - (nI (_ + 1)).toNatClampNeg < _ - (nI _).toNatClampNeg
        rw [p_clamp (by omega), p_clamp (by omega)]
        omega
    · rw [if_neg he]
      refine ih _ _ ⟨w + 1, by omega, ?_, LA_X hA e1 (fun o ho => by rw [p_off ho]) (fun i hi => by rw [p_on (by omega)]) (fun i hi => by rw [p_on (by omega)]) (by rw [p_at]), fun o ho => by rw [p_off ho]; exact e2 o ho⟩ ?_
      · rw [ci_t (chg_s.mpr (Or.inr he))]; rfl
      · show _ - (nI (_ + 1)).toNatClampNeg < _ - (nI _).toNatClampNeg
        rw [p_clamp (by omega), p_clamp (by omega)]
        omega
theorem m_ranks {A : aS} (hA : I_ok A) {g : z_S} (hM : R_M A g) (h27 : ∀ w, w < 16 → g.1 35 w = nI (uW A w)) : wp (z_loop fX11_learnOnce_B8 zN (0, 0) g) (fun q => q.1 = nI (ci (chg A (A 0 1))) ∧ R_M (LA A (A 0 1)) q.2) := by
  have hn := hA.1.2.2.1
  refine wp_loop (P := fun s g' => ∃ w, w ≤ A 0 1 ∧ s = (nI (ci (chg A w)), nI w) ∧ R_M (LA A w) g' ∧ (∀ o, o ≠ 3 → g'.1 o = g.1 o)) (μ := fun s _ => A 0 1 - s.2.toNatClampNeg) ?_ zN _ _ ⟨0, by omega, by rw [ci_f chg_0]; rfl, by rw [LA_00]; exact hM, fun _ _ => rfl⟩ (by show A 0 1 - _ < zN; rw [p_zN]; omega)
  rintro rc s g1 ⟨w, hw, rfl, e1, e2⟩ ih
  have e4 : g1.1 0 1 = nI (A 0 1) := by rw [e2 0 (by omega)]; exact hM.1.2.1
  simp only [fX11_learnOnce_B8]
  rw [e4]
  try simp (disch := omega) only [p_g, p_b, p_s, p_gin, p_gblt, p_eqL, p_leL, p_Lle, p_ltL, p_Llt, p_addL, p_subL, p_mulL, p_LmulL, p_eq, p_le, p_lt, p_add, p_sub, p_mul, p_clamp, if_pos, if_neg]
  by_cases hlw : A 0 1 ≤ w
  · have : w = A 0 1 := by omega
    subst this
    rw [if_pos hlw, p_gi (ci_and1 _)]
    exact wp_some ⟨rfl, e1⟩
  · have hw' : w < A 0 1 := by omega
    have hr := rk_le hA (w := w)
    obtain ⟨w1, w2, w3, w4, -⟩ := hA.2.1 w hw'
    have e7 : g1.1 3 w = nI (A 2 w) := by
      have := (e1.2.1 w (by rw [LA_o (by decide)]; exact hw')).2.1
      rw [LA_2, if_neg (by omega)] at this
      exact this
    have J : wp (fX11_learnOnce_J82 rc (nI w) (nI (rk A w)) (nI (ci (chg A (w + 1)))) g1) (fun q => q.1 = nI (ci (chg A (A 0 1))) ∧ R_M (LA A (A 0 1)) q.2) := by
      unfold fX11_learnOnce_J82
      try simp (disch := omega) only [p_g, p_b, p_s, p_gin, p_gblt, p_eqL, p_leL, p_Lle, p_ltL, p_Llt, p_addL, p_subL, p_mulL, p_LmulL, p_eq, p_le, p_lt, p_add, p_sub, p_mul, p_clamp, if_pos, if_neg]
      refine ih _ _ ⟨w + 1, by omega, rfl, LA_M e1 (fun o ho => by rw [p_off ho]) (fun i hi => by rw [p_on (by omega)]) (fun i hi => by rw [p_on (by omega)]) (by rw [p_at]), fun o ho => by rw [p_off ho]; exact e2 o ho⟩ ?_
      show _ - (nI (_ + 1)).toNatClampNeg < _ - (nI _).toNatClampNeg
      rw [p_clamp (by omega), p_clamp (by omega)]
      omega
    rw [if_neg hlw, m_rank hA e4 (fun v hv => by rw [e2 35 (by omega)]; exact h27 v hv) hw']
    try simp (disch := omega) only [p_g, p_b, p_s, p_gin, p_gblt, p_eqL, p_leL, p_Lle, p_ltL, p_Llt, p_addL, p_subL, p_mulL, p_LmulL, p_eq, p_le, p_lt, p_add, p_sub, p_mul, p_clamp, if_pos, if_neg]
    rw [e7]
    try simp (disch := omega) only [p_g, p_b, p_s, p_gin, p_gblt, p_eqL, p_leL, p_Lle, p_ltL, p_Llt, p_addL, p_subL, p_mulL, p_LmulL, p_eq, p_le, p_lt, p_add, p_sub, p_mul, p_clamp, if_pos, if_neg]
    by_cases hc : chg A w
    · rw [if_neg (fun q => p_cieq.mp q hc)]
      rw [ci_t (chg_s.mpr (Or.inl hc))] at J
      exact J
    · rw [if_pos (p_cieq.mpr hc)]
      by_cases he : A 2 w = rk A w
      · rw [if_pos he]
        rw [ci_f (fun q => (chg_s.mp q).elim hc (fun q => q he))] at J
        exact J
      · rw [if_neg he]
        rw [ci_t (chg_s.mpr (Or.inr he))] at J
        exact J
noncomputable def lrn : Nat → Nat → aS → Int32 × aS
  | 0, _, A => (-1, A)
  | f + 1, t, A => cit (chg A (A 0 1)) (lrn f (t + 1) (LA A (A 0 1))) (nI t, LA A (A 0 1))
theorem lrn_ok : ∀ f t A, I_ok A → I_ok (lrn f t A).2
  | 0, _, A, h => h
  | f + 1, t, A, h => by
    rw [lrn]
    by_cases c : chg A (A 0 1)
    · rw [cit_t c]; exact lrn_ok f (t + 1) _ (LA_ok h _)
    · rw [cit_f c]; exact LA_ok h _
theorem o_learn (v : Int32) : Op0 (fX10_learn v) (fX11_learn v) := by
  refine op_wp (fun A gx gm hA hX hM => ?_)
  unfold fX10_learn fX11_learn
  by_cases h : 1 ≤ v.toInt ∧ v.toInt ≤ 20
  · rw [m_yes (b := 1) (c := 20) h, p_b, if_neg n10]
    obtain ⟨n, h1, h2, rfl⟩ := p_rng (a := 1) (b := 20) (by decide) h
    try simp (disch := omega) only [p_g, p_b, p_s, p_gin, p_gblt, p_eqL, p_leL, p_Lle, p_ltL, p_Llt, p_addL, p_subL, p_mulL, p_LmulL, p_eq, p_le, p_lt, p_add, p_sub, p_mul, p_clamp, if_pos, if_neg]
    refine ⟨(lrn n 0 A).1, (lrn n 0 A).2, lrn_ok n 0 A hA, ?_, ?_⟩
    · obtain ⟨g1, c1, d1⟩ := x_forget gx
      rw [c1, p_b]
      have hX1 : R_X A g1 := by
        rw [d1]
        obtain ⟨⟨x1, x2, x3, x4, x5, x6⟩, xB, xC, xD, xE, xF, xG, xH, xI, xJ⟩ := hX
        refine ⟨⟨?_, ?_, ?_, ?_, ?_, ?_⟩, ?_, ?_, ?_, ?_, ?_, ?_, ?_, ?_, ?_⟩ <;> (try simp (disch := omega) only [p_off, p_on, p_at]) <;> (try assumption)
        intro l hl
        have hl4 : l < 4 := Nat.lt_of_lt_of_le hl hA.1.2.2.2.2.1
        simp (disch := omega) only [p_off, p_on, p_at]
        exact xF l hl
      have hF1 : Fgt g1 := by
        rw [d1]
        refine ⟨?_, ?_, ?_⟩ <;> simp (disch := omega) only [p_off, p_on, p_at]
      apply wp_b
      refine wp_mono (x_match hA hX1) ?_
      rintro ⟨u, g2⟩ ⟨q1, q2, q3⟩
      simp only [] at q1 q2 q3 ⊢
      have hX2 : R_X A g2 := R_X.ag hA hX1 (fun o ho => q1 o (by omega))
      have hF2 : Fgt g2 := by
        unfold Fgt
        rw [q1 43 (by omega), q1 45 (by omega), q1 26 (by omega)]
        exact hF1
      refine wp_loop (P := fun s g' => ∃ t B, t ≤ n ∧ s = (nI n, nI t) ∧ I_ok B ∧ R_X B g' ∧ KM B g' ∧ Fgt g' ∧ lrn (n - t) t B = lrn n 0 A) (μ := fun s _ => n - s.2.toNatClampNeg) ?_ zN _ _ ⟨0, A, by omega, rfl, hA, hX2, q3, hF2, rfl⟩ (by show n - _ < zN; rw [p_zN]; omega)
      rintro rc s g3 ⟨t, B, ht, rfl, e1, e2, e3, e4, e5⟩ ih
      simp only [fX10_learn_B28]
      try simp (disch := omega) only [p_g, p_b, p_s, p_gin, p_gblt, p_eqL, p_leL, p_Lle, p_ltL, p_Llt, p_addL, p_subL, p_mulL, p_LmulL, p_eq, p_le, p_lt, p_add, p_sub, p_mul, p_clamp, if_pos, if_neg]
      by_cases hlt : n ≤ t
      · rw [if_pos hlt]
        rw [show n - t = 0 by omega, lrn] at e5
        rw [← e5]
        exact wp_some ⟨rfl, e2, Or.inl e4⟩
      · rw [if_neg hlt]
        obtain ⟨f, hf⟩ : ∃ f, n - t = f + 1 := ⟨n - t - 1, by omega⟩
        rw [hf, lrn] at e5
        apply wp_b
        refine wp_mono (x_uses e1 e2 e3) ?_
        rintro ⟨u, g4⟩ f1
        simp only [] at f1 ⊢
        apply wp_b
        refine wp_mono (x_ranks e1 (f1.rx e1 e2) f1.2.2.2.1) ?_
        rintro ⟨r, g5⟩ ⟨k1, k2, k3⟩
        simp only [] at k1 k2 k3 ⊢
        subst k1
        have hF5 : Fgt g5 := by
          unfold Fgt
          rw [k3 43 (by omega), k3 45 (by omega), k3 26 (by omega), f1.1 43 (by omega) (by omega) (by omega) (by omega), f1.1 45 (by omega) (by omega) (by omega) (by omega), f1.2.1 3 (by omega)]
          exact e4
        by_cases c : chg B (B 0 1)
        · rw [if_neg (fun q => p_cieq.mp q c)]
          rw [cit_t c] at e5
          refine ih _ _ ⟨t + 1, LA B (B 0 1), by omega, rfl, LA_ok e1 _, k2, LA_KM (e3.ag ?_), hF5, ?_⟩ ?_
          · rw [k3 29 (by omega), f1.1 29 (by omega) (by omega) (by omega) (by omega)]
          · rw [show n - (t + 1) = f by omega]; exact e5
          · show _ - (nI (_ + 1)).toNatClampNeg < _ - (nI _).toNatClampNeg
            rw [p_clamp (by omega), p_clamp (by omega)]
            omega
        · rw [if_pos (p_cieq.mpr c)]
          rw [cit_f c] at e5
          rw [← e5]
          exact wp_some ⟨rfl, k2, Or.inl hF5⟩
    · refine wp_loop (P := fun s g' => ∃ t B, t ≤ n ∧ s = (nI n, nI t) ∧ I_ok B ∧ R_M B g' ∧ lrn (n - t) t B = lrn n 0 A) (μ := fun s _ => n - s.2.toNatClampNeg) ?_ zN _ _ ⟨0, A, by omega, rfl, hA, hM, rfl⟩ (by show n - _ < zN; rw [p_zN]; omega)
      rintro rc s g3 ⟨t, B, ht, rfl, e1, e2, e5⟩ ih
      simp only [fX11_learn_B18]
      try simp (disch := omega) only [p_g, p_b, p_s, p_gin, p_gblt, p_eqL, p_leL, p_Lle, p_ltL, p_Llt, p_addL, p_subL, p_mulL, p_LmulL, p_eq, p_le, p_lt, p_add, p_sub, p_mul, p_clamp, if_pos, if_neg]
      by_cases hlt : n ≤ t
      · rw [if_pos hlt]
        rw [show n - t = 0 by omega, lrn] at e5
        rw [← e5]
        exact wp_some ⟨rfl, e2⟩
      · rw [if_neg hlt]
        obtain ⟨f, hf⟩ : ∃ f, n - t = f + 1 := ⟨n - t - 1, by omega⟩
        rw [hf, lrn] at e5
        unfold fX11_learnOnce
        apply wp_b
        apply wp_b
        refine wp_mono (m_uses e1 e2) ?_
        rintro ⟨u, g4⟩ f1
        simp only [] at f1 ⊢
        refine wp_mono (m_ranks e1 (f1.rm e2) f1.2.2.2.1) ?_
        rintro ⟨r, g5⟩ ⟨k1, k2⟩
        simp only [] at k1 k2 ⊢
        subst k1
        by_cases c : chg B (B 0 1)
        · rw [if_neg (fun q => p_cieq.mp q c)]
          rw [cit_t c] at e5
          refine ih _ _ ⟨t + 1, LA B (B 0 1), by omega, rfl, LA_ok e1 _, k2, ?_⟩ ?_
          · rw [show n - (t + 1) = f by omega]; exact e5
          · show _ - (nI (_ + 1)).toNatClampNeg < _ - (nI _).toNatClampNeg
            rw [p_clamp (by omega), p_clamp (by omega)]
            omega
        · rw [if_pos (p_cieq.mpr c)]
          rw [cit_f c] at e5
          rw [← e5]
          exact wp_some ⟨rfl, k2⟩
  · rw [m_no (b := 1) (c := 20) h]
    refine ⟨-1002, A, hA, ?_, wp_some ⟨rfl, hM⟩⟩
    by_cases h1 : v < 1
    · rw [if_pos h1]; exact wp_some ⟨rfl, hX, Cs.rf⟩
    · rw [if_neg h1, if_neg]
      · exact wp_some ⟨rfl, hX, Cs.rf⟩
      · simp only [Int32.lt_iff_toInt_lt, Int32.le_iff_toInt_le, t_0, t_1, t_2, t_3, t_4, t_6, t_8, t_10, t_20, t_24, t_40, t_99] at *
        omega

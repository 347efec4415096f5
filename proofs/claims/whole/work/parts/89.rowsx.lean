/-! rows that can be read: the class -/
def bsR (σ : RS) : BS := (σ.1, fun _ => 0, fun _ => 0, fun _ => 0, σ.2.1)
def KZ (g g' : z_S) : Prop := ∀ o, o ≤ 46 → g'.1 o = g.1 o
theorem KZ.tr {g g' g'' : z_S} (h : KZ g g') (h' : KZ g' g'') : KZ g g'' := fun o ho => (h' o ho).trans (h o ho)
theorem KZ.X {A : aS} (hA : I_ok A) {g g' : z_S} (h : KZ g g') (hX : R_X A g) : R_X A g' := R_X.ag hA hX (fun o ho => h o (by omega))
/-- the class under way -/
def IZ (A : aS) (g0 : z_S) (σ : RS) (g : z_S) : Prop := KZ g0 g ∧ YL A g ∧ BX A (bsR σ) g
theorem IZ.st {A : aS} {g0 : z_S} {σ : RS} {g g' : z_S} (h : IZ A g0 σ g) (h1 : g'.1 = g.1) (h2 : ∀ o, o ≠ 60 → o ≠ 54 → o ≠ 55 → g'.2 o = g.2 o) : IZ A g0 σ g' := by
  obtain ⟨a1, a4, a5⟩ := h
  refine ⟨fun o ho => by rw [h1]; exact a1 o ho, ?_, a5.ag (by rw [h1]) (by rw [h1]) (by rw [h1]) (h2 48 (by omega) (by omega) (by omega)) (h2 49 (by omega) (by omega) (by omega))⟩
  unfold YL LY RY at *
  rw [h2 56 (by omega) (by omega) (by omega), h2 57 (by omega) (by omega) (by omega), h2 58 (by omega) (by omega) (by omega), h2 59 (by omega) (by omega) (by omega)]
  exact a4
theorem x_rin {A : aS} (hA : I_ok A) (hn0 : 0 < A 0 1) {g0 : z_S} (hX : R_X A g0) {s : Nat} {cs : Int64} (hcs : ¬ cs ≤ 0) {σ0 : RS} (hD0 : DI (A 0 1) (A 1) σ0) (hs0 : s < σ0.2.1) {R : RS × Nat} (hR : rin (A 0 1) (A 1) (A 4) s cs (A 0 0) 0 σ0 = R) {v1 : Int32} {Q : Int32 × z_S → Prop} {k139 : Int32 → Int32 → z_S → Option (Int32 × z_S)} {cur : Nat → Int64} {g : z_S} (hI0 : IZ A g0 σ0 g) (hC0 : ∀ t, t < σ0.2.1 → g.2 55 t = σ0.2.2 t) (h54 : g.2 54 = cur) (hcs2 : cur s = cs)
    (hL : R.2 ≠ 0 → ∀ g', KZ g0 g' → Q (0, g')) (hC : R.2 = 0 → ∀ g', IZ A g0 R.1 g' → DI (A 0 1) (A 1) R.1 → (∀ t, t < R.1.2.1 → g'.2 55 t = R.1.2.2 t) → g'.2 54 = cur → σ0.2.1 ≤ R.1.2.1 → wp (k139 v1 (nI s) g') Q) : wp (z_loop (fX1_countOn_B34 k139) zN (v1, nI s, 0) g) Q := by
  have hk8 := hA.1.2.1
  refine wp_loop (P := fun a g' => ∃ c σ, c ≤ A 0 0 ∧ a = (v1, nI s, nI c) ∧ IZ A g0 σ g' ∧ DI (A 0 1) (A 1) σ ∧ s < σ.2.1 ∧ (∀ t, t < σ.2.1 → g'.2 55 t = σ.2.2 t) ∧ g'.2 54 = cur ∧ σ0.2.1 ≤ σ.2.1 ∧ rin (A 0 1) (A 1) (A 4) s cs (A 0 0 - c) c σ = R) (μ := fun a _ => A 0 0 - a.2.2.toNatClampNeg) ?_ zN _ _ ⟨0, σ0, by omega, rfl, hI0, hD0, hs0, hC0, h54, Nat.le_refl _, hR⟩ (by show A 0 0 - _ < zN; rw [p_zN]; omega)
  rintro rc a g1 ⟨c, σ, hc, rfl, e1, e2, e3, e5, e6, e8, e7⟩ ih
  have hX1 := e1.1.X hA hX
  have hN2 := e2.1.2
  simp only [fX1_countOn_B34]
  rw [hX1.1.1]
  try simp (disch := omega) only [p_g, p_b, p_s, p_gin, p_gblt, p_eqL, p_leL, p_Lle, p_ltL, p_Llt, p_addL, p_subL, p_mulL, p_LmulL, p_eq, p_le, p_lt, p_add, p_sub, p_mul, p_clamp, if_pos, if_neg]
  by_cases c1 : A 0 0 ≤ c
  · rw [if_pos c1]
    rw [show A 0 0 - c = 0 by omega, rin] at e7
    subst e7
    exact hC rfl g1 e1 e2 e5 e6 e8
  · rw [if_neg c1, e6, hcs2, if_neg hcs]
    obtain ⟨t, ht⟩ : ∃ t, A 0 0 - c = t + 1 := ⟨A 0 0 - c - 1, by omega⟩
    have ht' : A 0 0 - (c + 1) = t := by omega
    rw [ht, rin] at e7
    apply wp_b
    refine wp_mono (x_step hA e1.2.1 (by omega : s < 2000) (by omega : c < 8) (e1.2.2.2.1 s e3)) ?_
    rintro ⟨u, g2⟩ ⟨d1, d2, d3⟩
    simp only [] at d1 d2 d3 ⊢
    have i2 := e1.st d1 (fun o z1 _ _ => d2 o z1)
    have k5 : ∀ t, t < σ.2.1 → g2.2 55 t = σ.2.2 t := fun t ht => by rw [d2 55 (by omega)]; exact e5 t ht
    have k6 : g2.2 54 = cur := by rw [d2 54 (by omega)]; exact e6
    have hdec : A 0 0 - (nI (c + 1)).toNatClampNeg < A 0 0 - (nI c).toNatClampNeg := by
      rw [p_clamp (by omega), p_clamp (by omega)]
      omega
    have hy : Vd (A 0 1) (A 1) (stp (A 0 1) (A 1) (A 4) (σ.1 s) c) := Vd_stp
    have e7' : stp (A 0 1) (A 1) (A 4) ((bsR σ).1 s) c = stp (A 0 1) (A 1) (A 4) (σ.1 s) c := rfl
    rw [e7'] at d3
    generalize stp (A 0 1) (A 1) (A 4) (σ.1 s) c = y at *
    rw [x_empty hA hn0 hy d3, p_b]
    by_cases cN : y = pNon
    · rw [cit_t cN] at e7
      rw [if_neg (fun z => (p_cieq.mp z) cN)]
      exact ih _ _ ⟨c + 1, σ, by omega, rfl, i2, e2, e3, k5, k6, e8, by rw [ht']; exact e7⟩ hdec
    · rw [cit_f cN] at e7
      rw [if_pos (p_cieq.mpr cN)]
      apply wp_b
      refine wp_mono (x_find hA hn0 (σ := bsR σ) hN2 e2.2.1 i2.2.2 hy d3) ?_
      rintro ⟨r, g3⟩ ⟨z0, zz⟩
      simp only [] at z0 zz ⊢
      subst z0
      rcases zz with ⟨q1, q2⟩ | ⟨t', q1, q2, q3⟩
      · subst q1
        have q2 : ¬ snR σ y := q2
        rw [cit_f q2] at e7
        have h47 : g3.1 47 2 = nI σ.2.1 := i2.2.2.1
        rw [if_pos rfl, h47]
        try simp (disch := omega) only [p_g, p_b, p_s, p_gin, p_gblt, p_eqL, p_leL, p_Lle, p_ltL, p_Llt, p_addL, p_subL, p_mulL, p_LmulL, p_eq, p_le, p_lt, p_add, p_sub, p_mul, p_clamp, if_pos, if_neg]
        by_cases c0 : σ.2.1 = 2000
        · rw [if_pos c0] at e7
          subst e7
          rw [if_neg (by omega)]
          exact wp_some (hL (by show ¬ 1 = 0; omega) g3 i2.1)
        · rw [if_neg c0] at e7
          rw [if_pos (by omega)]
          try simp (disch := omega) only [p_g, p_b, p_s, p_gin, p_gblt, p_eqL, p_leL, p_Lle, p_ltL, p_Llt, p_addL, p_subL, p_mulL, p_LmulL, p_eq, p_le, p_lt, p_add, p_sub, p_mul, p_clamp, if_pos, if_neg]
          have i3 : IZ A g0 σ (z_wl g3 55 σ.2.1 0) := i2.st rfl (fun o z1 z2 z3 => by rw [p_Loff z3])
          apply wp_b
          refine wp_mono (x_keep (s := 0) (c := 0) (σ := bsR σ) (y := y) (g := z_wl g3 55 σ.2.1 0) (by show σ.2.1 < 2000; omega) i3.2.2 (by rw [p_Loff (by decide)]; exact d3)) ?_
          rintro ⟨w, g4⟩ ⟨b5, b6, b7⟩
          simp only [] at b5 b6 b7 ⊢
          unfold fX1_countOn_J117
          try simp (disch := omega) only [p_g, p_b, p_s, p_gin, p_gblt, p_eqL, p_leL, p_Lle, p_ltL, p_Llt, p_addL, p_subL, p_mulL, p_LmulL, p_eq, p_le, p_lt, p_add, p_sub, p_mul, p_clamp, if_pos, if_neg]
          rw [b7 55 (by omega) (by omega), b7 54 (by omega) (by omega), p_Lat, p_Loff (by decide), k6, hcs2]
          have i4 : IZ A g0 (uq σ.1 σ.2.1 y, σ.2.1 + 1, upL σ.2.2 σ.2.1 (0 + cs)) g4 := by
            refine ⟨fun o ho => ?_, ?_, ?_⟩
            · rw [b6 o (by omega) (by omega) (by omega)]; exact i3.1 o ho
            · have := i3.2.1
              unfold YL LY RY at *
              rw [b7 56 (by omega) (by omega), b7 57 (by omega) (by omega), b7 58 (by omega) (by omega), b7 59 (by omega) (by omega)]
              exact this
            · exact b5
          refine ih _ _ ⟨c + 1, _, by omega, rfl, i4.st rfl (fun o z1 z2 z3 => by rw [p_Loff z3]), DI_uq e2 hy q2 c0, by show s < σ.2.1 + 1; omega, fun t ht => ?_, ?_, by show σ0.2.1 ≤ σ.2.1 + 1; omega, by rw [ht']; exact e7⟩ hdec
          · have ht : t < σ.2.1 + 1 := ht
            show _ = if t = σ.2.1 then 0 + cs else σ.2.2 t
            by_cases z : t = σ.2.1
            · subst z; rw [p_Lat, if_pos rfl]
            · rw [p_Lon z, b7 55 (by omega) (by omega), p_Lon z, if_neg z]; exact k5 t (by omega)
          · rw [p_Loff (by decide), b7 54 (by omega) (by omega), p_Loff (by decide)]; exact k6
      · subst q3
        have q1 : t' < σ.2.1 := q1
        have q2 : σ.1 t' = y := q2
        rw [cit_t ⟨t', q1, q2⟩, fdx_eq e2 q1 q2] at e7
        rw [if_neg (nIm1 (by omega))]
        unfold fX1_countOn_J117
        try simp (disch := omega) only [p_g, p_b, p_s, p_gin, p_gblt, p_eqL, p_leL, p_Lle, p_ltL, p_Llt, p_addL, p_subL, p_mulL, p_LmulL, p_eq, p_le, p_lt, p_add, p_sub, p_mul, p_clamp, if_pos, if_neg]
        rw [k6, hcs2, k5 t' q1]
        refine ih _ _ ⟨c + 1, (σ.1, σ.2.1, upL σ.2.2 t' (σ.2.2 t' + cs)), by omega, rfl, i2.st rfl (fun o z1 z2 z3 => by rw [p_Loff z3]), e2, e3, fun t ht => ?_, ?_, e8, by rw [ht']; exact e7⟩ hdec
        · show _ = if t = t' then σ.2.2 t' + cs else σ.2.2 t
          by_cases z : t = t'
          · subst z; rw [p_Lat, if_pos rfl]
          · rw [p_Lon z, if_neg z]; exact k5 t ht
        · rw [p_Loff (by decide)]; exact k6
theorem x_rmid {A : aS} (hA : I_ok A) (hn0 : 0 < A 0 1) {g0 : z_S} (hX : R_X A g0) {cur : Nat → Int64} {had : Nat} {σ0 : RS} (hD0 : DI (A 0 1) (A 1) σ0) (hh : had ≤ σ0.2.1) {R : RS × Nat} (hR : rmid (A 0 0) (A 0 1) (A 1) (A 4) cur had 0 σ0 = R) {Q : Int32 × z_S → Prop} {k145 : z_S → Option (Int32 × z_S)} {g : z_S} (hI0 : IZ A g0 σ0 g) (hC0 : ∀ t, t < σ0.2.1 → g.2 55 t = σ0.2.2 t) (h54 : g.2 54 = cur)
    (hL : R.2 ≠ 0 → ∀ g', KZ g0 g' → Q (0, g')) (hC : R.2 = 0 → ∀ g', IZ A g0 R.1 g' → DI (A 0 1) (A 1) R.1 → (∀ t, t < R.1.2.1 → g'.2 55 t = R.1.2.2 t) → wp (k145 g') Q) : wp (z_loop (fX1_countOn_B27 k145) zN (nI had, 0) g) Q := by
  have hh2 : had ≤ 2000 := by have := hD0.1.2; omega
  refine wp_loop (P := fun a g' => ∃ s σ, s ≤ had ∧ a = (nI had, nI s) ∧ IZ A g0 σ g' ∧ DI (A 0 1) (A 1) σ ∧ had ≤ σ.2.1 ∧ (∀ t, t < σ.2.1 → g'.2 55 t = σ.2.2 t) ∧ g'.2 54 = cur ∧ rmid (A 0 0) (A 0 1) (A 1) (A 4) cur (had - s) s σ = R) (μ := fun a _ => had - a.2.toNatClampNeg) ?_ zN _ _ ⟨0, σ0, by omega, rfl, hI0, hD0, hh, hC0, h54, hR⟩ (by rw [p_zN]; show had - _ < _; omega)
  rintro rc a g1 ⟨s, σ, hs, rfl, e1, e2, e3, e5, e6, e7⟩ ih
  simp only [fX1_countOn_B27]
  try simp (disch := omega) only [p_g, p_b, p_s, p_gin, p_gblt, p_eqL, p_leL, p_Lle, p_ltL, p_Llt, p_addL, p_subL, p_mulL, p_LmulL, p_eq, p_le, p_lt, p_add, p_sub, p_mul, p_clamp, if_pos, if_neg]
  by_cases c : had ≤ s
  · rw [if_pos c]
    rw [show had - s = 0 by omega, rmid] at e7
    subst e7
    exact hC rfl g1 e1 e2 e5
  · rw [if_neg c]
    obtain ⟨t, ht⟩ : ∃ t, had - s = t + 1 := ⟨had - s - 1, by omega⟩
    have ht' : had - (s + 1) = t := by omega
    rw [ht, rmid] at e7
    have hdec : had - (nI (s + 1)).toNatClampNeg < had - (nI s).toNatClampNeg := by
      rw [p_clamp (by omega), p_clamp (by omega)]
      omega
    by_cases c2 : cur s ≤ 0
    · rw [if_pos c2] at e7
      have hk := (hA.1.1)
      have hk8 := hA.1.2.1
      rw [p_loop1]
      simp only [fX1_countOn_B34]
      rw [(e1.1.X hA hX).1.1, if_neg (by rw [p_leL (by omega) (by omega)]; omega)]
      try simp (disch := omega) only [p_g, p_b, p_s, p_gin, p_gblt, p_eqL, p_leL, p_Lle, p_ltL, p_Llt, p_addL, p_subL, p_mulL, p_LmulL, p_eq, p_le, p_lt, p_add, p_sub, p_mul, p_clamp, if_pos, if_neg]
      rw [e6, if_pos c2]
      exact ih _ _ ⟨s + 1, σ, by omega, rfl, e1, e2, e3, e5, e6, by rw [ht']; exact e7⟩ hdec
    · rw [if_neg c2] at e7
      refine x_rin hA hn0 hX c2 e2 (by omega) rfl e1 e5 e6 rfl ?_ ?_
      · intro q1 g2 k1
        rw [if_neg q1] at e7
        subst e7
        exact hL q1 g2 k1
      · intro q1 g2 k1 k2 k4 k5 k6
        rw [if_pos q1] at e7
        try simp (disch := omega) only [p_g, p_b, p_s, p_gin, p_gblt, p_eqL, p_leL, p_Lle, p_ltL, p_Llt, p_addL, p_subL, p_mulL, p_LmulL, p_eq, p_le, p_lt, p_add, p_sub, p_mul, p_clamp, if_pos, if_neg]
        exact ih _ _ ⟨s + 1, _, by omega, rfl, k1, k2, by omega, k4, k5, by rw [ht']; exact e7⟩ hdec
theorem rmid_congr {k n : Nat} {L S : Nat → Nat} {c1 c2 : Nat → Int64} {N : Nat} (h : ∀ t, t < N → c1 t = c2 t) : ∀ f s σ, s + f ≤ N → rmid k n L S c1 f s σ = rmid k n L S c2 f s σ := by
  intro f
  induction f with
  | zero => intro s σ _; rfl
  | succ f ih =>
    intro s σ hs
    rw [rmid, rmid, h s (by omega)]
    rw [ih (s + 1) _ (by omega), ih (s + 1) _ (by omega)]
theorem x_countOn {A : aS} (hA : I_ok A) (hn0 : 0 < A 0 1) {g0 : z_S} (hX : R_X A g0) {σ : RS} (hD : DI (A 0 1) (A 1) σ) {g : z_S} (hI : IZ A g0 σ g) (h54 : ∀ t, t < σ.2.1 → g.2 54 t = σ.2.2 t) {R : RS × Nat} (hR : rmid (A 0 0) (A 0 1) (A 1) (A 4) σ.2.2 σ.2.1 0 (σ.1, σ.2.1, fun _ => 0) = R) : wp (fX1_countOn g) (fun q => (R.2 ≠ 0 ∧ q.1 = 0 ∧ KZ g0 q.2) ∨ (R.2 = 0 ∧ q.1 = 1 ∧ IZ A g0 R.1 q.2 ∧ DI (A 0 1) (A 1) R.1 ∧ ∀ t, t < R.1.2.1 → q.2.2 54 t = R.1.2.2 t)) := by
  have hN2 := hD.1.2
  have h47 : g.1 47 2 = nI σ.2.1 := hI.2.2.1
  unfold fX1_countOn
  rw [h47]
  refine wp_loop (P := fun a g' => ∃ y, y ≤ σ.2.1 ∧ a = (nI σ.2.1, nI y) ∧ IZ A g0 σ g' ∧ g'.2 54 = g.2 54 ∧ ∀ t, t < y → g'.2 55 t = 0) (μ := fun a _ => σ.2.1 - a.2.toNatClampNeg) ?_ zN _ _ ⟨0, by omega, rfl, hI, rfl, fun t h => by omega⟩ (by rw [p_zN]; show σ.2.1 - _ < _; omega)
  rintro rc a g1 ⟨y, hy, rfl, e1, e2, e3⟩ ih
  simp only [fX1_countOn_B7]
  try simp (disch := omega) only [p_g, p_b, p_s, p_gin, p_gblt, p_eqL, p_leL, p_Lle, p_ltL, p_Llt, p_addL, p_subL, p_mulL, p_LmulL, p_eq, p_le, p_lt, p_add, p_sub, p_mul, p_clamp, if_pos, if_neg]
  by_cases c : σ.2.1 ≤ y
  · rw [if_pos c]
    refine x_rmid hA hn0 hX (σ0 := (σ.1, σ.2.1, fun _ => 0)) (cur := g.2 54) (R := R) ⟨hD.1, hD.2.1, hD.2.2⟩ (Nat.le_refl _) (by rw [rmid_congr (N := σ.2.1) h54 _ 0 _ (by show 0 + σ.2.1 ≤ σ.2.1; omega)]; exact hR) e1 (fun t ht => ?_) e2 ?_ ?_
    · have ht : t < σ.2.1 := ht
      exact e3 t (by omega)
    · intro q1 g2 k1
      exact Or.inl ⟨q1, rfl, k1⟩
    · intro q1 g2 k1 k2 k3
      have hr2 := k2.1.2
      refine wp_loop (P := fun a g' => ∃ y, y ≤ R.1.2.1 ∧ a = nI y ∧ IZ A g0 R.1 g' ∧ g'.2 55 = g2.2 55 ∧ ∀ t, t < y → g'.2 54 t = R.1.2.2 t) (μ := fun a _ => R.1.2.1 - a.toNatClampNeg) ?_ zN _ _ ⟨0, by omega, rfl, k1, rfl, fun t h => by omega⟩ (by rw [p_zN]; show R.1.2.1 - _ < _; omega)
      rintro rc3 a g3 ⟨y3, hy3, rfl, l1, l2, l3⟩ ih3
      have h47' : g3.1 47 2 = nI R.1.2.1 := l1.2.2.1
      simp only [fX1_countOn_B147]
      rw [h47']
      try simp (disch := omega) only [p_g, p_b, p_s, p_gin, p_gblt, p_eqL, p_leL, p_Lle, p_ltL, p_Llt, p_addL, p_subL, p_mulL, p_LmulL, p_eq, p_le, p_lt, p_add, p_sub, p_mul, p_clamp, if_pos, if_neg]
      by_cases c3 : R.1.2.1 ≤ y3
      · rw [if_pos c3]
        exact wp_some (Or.inr ⟨q1, rfl, l1, k2, fun t ht => l3 t (by omega)⟩)
      · rw [if_neg c3]
        try simp (disch := omega) only [p_g, p_b, p_s, p_gin, p_gblt, p_eqL, p_leL, p_Lle, p_ltL, p_Llt, p_addL, p_subL, p_mulL, p_LmulL, p_eq, p_le, p_lt, p_add, p_sub, p_mul, p_clamp, if_pos, if_neg]
        refine ih3 _ _ ⟨y3 + 1, by omega, rfl, l1.st rfl (fun o z1 z2 z3 => by rw [p_Loff z2]), by rw [p_Loff (by decide)]; exact l2, fun t ht => ?_⟩ ?_
        · by_cases z : t = y3
          · subst z; rw [p_Lat, l2]; exact k3 t (by omega)
          · rw [p_Lon z]; exact l3 t (by omega)
        · show _ - (nI (_ + 1)).toNatClampNeg < _ - (nI _).toNatClampNeg
          rw [p_clamp (by omega), p_clamp (by omega)]
          omega
  · rw [if_neg c]
    try simp (disch := omega) only [p_g, p_b, p_s, p_gin, p_gblt, p_eqL, p_leL, p_Lle, p_ltL, p_Llt, p_addL, p_subL, p_mulL, p_LmulL, p_eq, p_le, p_lt, p_add, p_sub, p_mul, p_clamp, if_pos, if_neg]
    refine ih _ _ ⟨y + 1, by omega, rfl, e1.st rfl (fun o z1 z2 z3 => by rw [p_Loff z3]), by rw [p_Loff (by decide)]; exact e2, fun t ht => ?_⟩ ?_
    · by_cases z : t = y
      · subst z; rw [p_Lat]
      · rw [p_Lon z]; exact e3 t (by omega)
    · show _ - (nI (_ + 1)).toNatClampNeg < _ - (nI _).toNatClampNeg
      rw [p_clamp (by omega), p_clamp (by omega)]
      omega
theorem x_rsum {A : aS} (hA : I_ok A) (hn0 : 0 < A 0 1) {g0 : z_S} {σ : RS} (hD : DI (A 0 1) (A 1) σ) {g : z_S} (hI : IZ A g0 σ g) (h54 : ∀ t, t < σ.2.1 → g.2 54 t = σ.2.2 t) : wp (z_loop fX1_countRows_B55 zN (0, 0) g) (fun q => q.1 = rsm σ.1 σ.2.2 σ.2.1 ∧ q.2 = g) := by
  have hN2 := hD.1.2
  have hL := LO_A hA
  have h47 : g.1 47 2 = nI σ.2.1 := hI.2.2.1
  refine wp_loop (P := fun a g' => ∃ t, t ≤ σ.2.1 ∧ a = (rsm σ.1 σ.2.2 t, nI t) ∧ g' = g) (μ := fun a _ => σ.2.1 - a.2.toNatClampNeg) ?_ zN _ _ ⟨0, by omega, rfl, rfl⟩ (by rw [p_zN]; show σ.2.1 - _ < _; omega)
  rintro rc a g1 ⟨t, ht, rfl, rfl⟩ ih
  simp only [fX1_countRows_B55]
  rw [h47]
  try simp (disch := omega) only [p_g, p_b, p_s, p_gin, p_gblt, p_eqL, p_leL, p_Lle, p_ltL, p_Llt, p_addL, p_subL, p_mulL, p_LmulL, p_eq, p_le, p_lt, p_add, p_sub, p_mul, p_clamp, if_pos, if_neg]
  by_cases c : σ.2.1 ≤ t
  · have : t = σ.2.1 := by omega
    subst this
    rw [if_pos c]
    exact wp_some ⟨rfl, rfl⟩
  · rw [if_neg c]
    try simp (disch := omega) only [p_g, p_b, p_s, p_gin, p_gblt, p_eqL, p_leL, p_Lle, p_ltL, p_Llt, p_addL, p_subL, p_mulL, p_LmulL, p_eq, p_le, p_lt, p_add, p_sub, p_mul, p_clamp, if_pos, if_neg]
    have hT : CR (A 0 1) (A 1) (σ.1 t) (g1.2 48 t) (g1.2 49 t) := hI.2.2.2.1 t (by show t < σ.2.1; omega)
    have hF := CR_first hA hI.2.1
    have hend : (g1.2 48 t &&& g1.2 58 0 = 0 ∧ g1.2 49 t &&& g1.2 58 1 = 0) ↔ ¬ σ.1 t 0 := by
      rw [bt_z]
      constructor
      · intro h q
        have h1 := (hA.2.1 0 hn0).1
        have hp := pl_lt hL hn0 (i := 0) (by omega)
        have hz := h _ hp
        have : bt (g1.2 48 t &&& g1.2 58 0) (g1.2 49 t &&& g1.2 58 1) (sm (A 1) 0 + 0) = true := by
          rw [bt_and, Bool.and_eq_true, CR_at hL hT hn0 (by omega), CR_at hL hF hn0 (by omega)]
          exact ⟨q, rfl⟩
        rw [this] at hz
        simp at hz
      · intro h k hk
        by_cases z : bt (g1.2 48 t &&& g1.2 58 0) (g1.2 49 t &&& g1.2 58 1) k = true
        · exfalso
          rw [bt_and, Bool.and_eq_true, hT k hk, hF k hk] at z
          obtain ⟨⟨v, i, q1, q2, q3, q4⟩, ⟨v', i', r1, r2, r3, r4⟩⟩ := z
          obtain ⟨rfl, rfl⟩ := pl_inj (n := A 0 1) q2 r2 (q3.trans r3.symm)
          have r4 : ix v i = 0 := r4
          rw [r4] at q4
          exact h q4
        · rw [Bool.not_eq_true] at z; exact z
    have hdec : σ.2.1 - (nI (t + 1)).toNatClampNeg < σ.2.1 - (nI t).toNatClampNeg := by
      rw [p_clamp (by omega), p_clamp (by omega)]
      omega
    by_cases c0 : σ.1 t 0
    · have go : wp (fX1_countRows_J104 rc (rsm σ.1 σ.2.2 t) (nI t) g1) (fun q => q.1 = rsm σ.1 σ.2.2 σ.2.1 ∧ q.2 = g1) := by
        unfold fX1_countRows_J104
        try simp (disch := omega) only [p_g, p_b, p_s, p_gin, p_gblt, p_eqL, p_leL, p_Lle, p_ltL, p_Llt, p_addL, p_subL, p_mulL, p_LmulL, p_eq, p_le, p_lt, p_add, p_sub, p_mul, p_clamp, if_pos, if_neg]
        rw [h54 t (by omega)]
        exact ih _ _ ⟨t + 1, by omega, by rw [rsm, cit_t c0], rfl⟩ hdec
      by_cases z1 : g1.2 48 t &&& g1.2 58 0 = 0
      · rw [if_pos z1, if_neg (fun z2 => hend.mp ⟨z1, z2⟩ c0)]; exact go
      · rw [if_neg z1]; exact go
    · obtain ⟨z1, z2⟩ := hend.mpr c0
      rw [if_pos z1, if_pos z2]
      exact ih _ _ ⟨t + 1, by omega, by rw [rsm, cit_f c0], rfl⟩ hdec
theorem x_countRows {A : aS} (hA : I_ok A) (hn0 : 0 < A 0 1) {g : z_S} (hX : R_X A g) {m : Nat} (hm : m ≤ 20) : wp (fX1_countRows (nI m) g) (fun q => KZ g q.2 ∧ ((rwR (A 0 0) (A 0 1) (A 1) (A 4) m).2 ≠ 0 ∧ q.1 = -1005 ∨ (rwR (A 0 0) (A 0 1) (A 1) (A 4) m).2 = 0 ∧ q.1 = rsm (rwR (A 0 0) (A 0 1) (A 1) (A 4) m).1.1 (rwR (A 0 0) (A 0 1) (A 1) (A 4) m).1.2.2 (rwR (A 0 0) (A 0 1) (A 1) (A 4) m).1.2.1)) := by
  obtain ⟨R, hR⟩ : ∃ R, rwR (A 0 0) (A 0 1) (A 1) (A 4) m = R := ⟨_, rfl⟩
  rw [hR]
  unfold rwR at hR
  unfold fX1_countRows
  apply wp_b
  refine wp_mono (x_layout hA hX) ?_
  rintro ⟨u, g1⟩ ⟨a1, a2, a3⟩
  simp only [] at a1 a2 a3 ⊢
  unfold fX4_become_60_58
  rw [p_s, p_s, p_b]
  have hF := CR_first hA (g := g1) ⟨a2, a3⟩
  apply wp_b
  refine wp_mono (x_begin (A := A) (y := pEnd) (g := z_wl (z_wl g1 60 0 (g1.2 58 0)) 60 1 ((z_wl g1 60 0 (g1.2 58 0)).2 58 1)) (by rw [p_Lon (by decide), p_Lat, p_Lat, p_Loff (by decide)]; exact hF)) ?_
  rintro ⟨u, g3⟩ ⟨c1, c2, c3⟩
  simp only [] at c1 c2 c3 ⊢
  have e0 : (0 : Int32).toNatClampNeg = 0 := rfl
  have ei : z_in 0 2000 = true := rfl
  rw [ei, p_g, p_s, e0]
  have hKZ : KZ g g3 := fun o ho => by rw [c2 o (by omega) (by omega) (by omega)]; show g1.1 o = g.1 o; rw [a1.1]
  have hY : YL A g3 := by
    refine ⟨?_, ?_⟩
    · unfold LY at *
      rw [c3 58 (by omega) (by omega), c3 59 (by omega) (by omega), p_Loff (by decide), p_Loff (by decide), p_Loff (by decide), p_Loff (by decide)]
      exact a2
    · unfold RY at *
      rw [c3 56 (by omega) (by omega), c3 57 (by omega) (by omega), p_Loff (by decide), p_Loff (by decide), p_Loff (by decide), p_Loff (by decide)]
      exact a3
  have hI0 : IZ A g ((fun _ => pEnd, 1, fun _ => 1) : RS) g3 := ⟨hKZ, hY, c1⟩
  have hD0 : DI (A 0 1) (A 1) ((fun _ => pEnd, 1, fun _ => 1) : RS) := by
    refine ⟨⟨Nat.le_refl _, by show 1 ≤ 2000; omega⟩, fun t ht => Vd_end, fun t u h1 h2 => ?_⟩
    have : u < 1 := h2
    omega
  refine wp_loop (P := fun a g' => ∃ x σ, x ≤ m ∧ a = (nI m, nI (x + 1)) ∧ IZ A g σ g' ∧ DI (A 0 1) (A 1) σ ∧ (∀ t, t < σ.2.1 → g'.2 54 t = σ.2.2 t) ∧ rlev (A 0 0) (A 0 1) (A 1) (A 4) (m - x) σ = R) (μ := fun a _ => m + 1 - a.2.toNatClampNeg) ?_ zN _ _ ⟨0, _, by omega, rfl, hI0.st rfl (fun o z1 z2 z3 => by rw [p_Loff z2]), hD0, fun t ht => ?_, hR⟩ (by rw [p_zN]; show m + 1 - _ < _; omega)
  · rintro rc a g4 ⟨x, σ, hx, rfl, e1, e2, e4, e5⟩ ih
    simp only [fX1_countRows_B28]
    try simp (disch := omega) only [p_g, p_b, p_s, p_gin, p_gblt, p_eqL, p_leL, p_Lle, p_ltL, p_Llt, p_addL, p_subL, p_mulL, p_LmulL, p_eq, p_le, p_lt, p_add, p_sub, p_mul, p_clamp, if_pos, if_neg]
    by_cases c : m < x + 1
    · rw [if_pos c]
      rw [show m - x = 0 by omega, rlev] at e5
      subst e5
      refine wp_mono (x_rsum hA hn0 e2 e1 e4) ?_
      rintro ⟨r, g5⟩ ⟨q1, q2⟩
      simp only [] at q1 q2
      subst q2
      exact ⟨e1.1, Or.inr ⟨rfl, q1⟩⟩
    · rw [if_neg c]
      obtain ⟨t, ht⟩ : ∃ t, m - x = t + 1 := ⟨m - x - 1, by omega⟩
      have ht' : m - (x + 1) = t := by omega
      rw [ht, rlev] at e5
      apply wp_b
      refine wp_mono (x_countOn hA hn0 hX e2 e1 e4 rfl) ?_
      rintro ⟨r, g5⟩ (⟨q1, q2, q3⟩ | ⟨q1, q2, q3, q4, q5⟩)
      · simp only [] at q2 q3 ⊢
        subst q2
        rw [if_neg q1] at e5
        subst e5
        rw [if_pos rfl]
        exact wp_some ⟨q3, Or.inl ⟨q1, rfl⟩⟩
      · simp only [] at q2 q3 q5 ⊢
        subst q2
        rw [if_pos q1] at e5
        rw [if_neg n10]
        try simp (disch := omega) only [p_g, p_b, p_s, p_gin, p_gblt, p_eqL, p_leL, p_Lle, p_ltL, p_Llt, p_addL, p_subL, p_mulL, p_LmulL, p_eq, p_le, p_lt, p_add, p_sub, p_mul, p_clamp, if_pos, if_neg]
        refine ih _ _ ⟨x + 1, _, by omega, rfl, q3, q4, q5, by rw [ht']; exact e5⟩ ?_
        show m + 1 - (nI (x + 1 + 1)).toNatClampNeg < m + 1 - (nI (x + 1)).toNatClampNeg
        rw [p_clamp (by omega), p_clamp (by omega)]
        omega
  · have ht : t < 1 := ht
    rw [show t = 0 by omega, p_Lat]
theorem rw_n0 {k : Nat} {L S : Nat → Nat} {m : Nat} : rwA k 0 L S m = if m = 0 then 1 else 0 := by
  have h0 : ∀ p c, stp 0 L S p c = pNon := fun p c => stp_0
  have hr : ∀ f c s cs σ, rin 0 L S s cs f c σ = (σ, 0) := by
    intro f
    induction f with
    | zero => intro c s cs σ; rfl
    | succ f ih => intro c s cs σ; rw [rin, cit_t (h0 _ _)]; exact ih _ _ _ _
  have hm : ∀ cur f s σ, rmid k 0 L S cur f s σ = (σ, 0) := by
    intro cur f
    induction f with
    | zero => intro s σ; rfl
    | succ f ih =>
      intro s σ
      rw [rmid, hr, ih]
      split
      · rfl
      · rw [if_pos rfl]
  have hl : ∀ f, 1 ≤ f → ∀ T (cur : Nat → Int64), rlev k 0 L S f (T, 1, cur) = ((T, 1, fun _ => 0), 0) := by
    intro f
    induction f with
    | zero => intro h; omega
    | succ f ih =>
      intro _ T cur
      rw [rlev, hm, if_pos rfl]
      by_cases z : f = 0
      · subst z; rfl
      · exact ih (by omega) T _
  unfold rwA rwR
  by_cases z : m = 0
  · subst z
    rw [if_pos rfl, rlev]
    rw [if_pos rfl]
    have e : rsm (fun _ => pEnd) (fun _ => (1 : Int64)) 1 = 1 := by
      rw [rsm, rsm, cit_t (show pEnd 0 from rfl)]; rfl
    show (if rsm (fun _ => pEnd) (fun _ => (1 : Int64)) 1 ≤ 1000000000000000 then _ else _) = _
    rw [e, if_pos (by decide)]
  · rw [if_neg z, hl m (by omega), if_pos rfl]
    have e : rsm (fun _ => pEnd) (fun _ => (0 : Int64)) 1 = 0 := by
      rw [rsm, rsm, cit_t (show pEnd 0 from rfl)]; rfl
    show (if rsm (fun _ => pEnd) (fun _ => (0 : Int64)) 1 ≤ 1000000000000000 then _ else _) = _
    rw [e, if_pos (by decide)]
theorem o_rows (v : Int32) : Op0 (fX10_rows v) (fX11_rows v) := by
  refine op_wp (fun A gx gm hA hX hM => ?_)
  have hn := hA.1.2.2.1
  refine ⟨_, A, hA, ?_, m_rows hA hM v⟩
  unfold fX10_rows
  by_cases h : 0 ≤ v.toInt ∧ v.toInt ≤ 20
  · rw [if_pos h, if_neg (by simp only [Int32.lt_iff_toInt_lt, Int32.le_iff_toInt_le, t_0, t_1, t_2, t_3, t_4, t_6, t_8, t_10, t_20, t_24, t_40, t_99]; omega), if_pos (by simp only [Int32.lt_iff_toInt_lt, Int32.le_iff_toInt_le, t_0, t_1, t_2, t_3, t_4, t_6, t_8, t_10, t_20, t_24, t_40, t_99]; omega), hX.1.2.1]
    obtain ⟨m, -, hm, rfl⟩ := p_rng (a := 0) (b := 20) (by decide) h
    rw [p_clamp (by omega)]
    try simp (disch := omega) only [p_g, p_b, p_s, p_gin, p_gblt, p_eqL, p_leL, p_Lle, p_ltL, p_Llt, p_addL, p_subL, p_mulL, p_LmulL, p_eq, p_le, p_lt, p_add, p_sub, p_mul, p_clamp, if_pos, if_neg]
    by_cases c : A 0 1 = 0
    · rw [if_pos c, c, rw_n0]
      by_cases z : m = 0
      · rw [if_pos z, if_pos z]; exact wp_some ⟨rfl, hX, Cs.rf⟩
      · rw [if_neg z, if_neg z]; exact wp_some ⟨rfl, hX, Cs.rf⟩
    · rw [if_neg c]
      unfold fX10_states
      rw [p_b]
      apply wp_b
      refine wp_mono (x_countRows hA (by omega) hX hm) ?_
      rintro ⟨r, g1⟩ ⟨k1, k2⟩
      simp only [] at k1 k2 ⊢
      have hX1 := k1.X hA hX
      have hCs : Cs A A gx g1 := Cs.ag (fun o ho => k1 o (by omega))
      unfold rwA
      rcases k2 with ⟨q1, rfl⟩ | ⟨q1, rfl⟩
      · rw [if_neg q1, if_pos (by decide)]
        exact wp_some ⟨rfl, hX1, hCs⟩
      · rw [if_pos q1]
        by_cases c5 : rsm (rwR (A 0 0) (A 0 1) (A 1) (A 4) m).1.1 (rwR (A 0 0) (A 0 1) (A 1) (A 4) m).1.2.2 (rwR (A 0 0) (A 0 1) (A 1) (A 4) m).1.2.1 ≤ 1000000000000000
        · rw [if_pos c5, if_pos c5]; exact wp_some ⟨rfl, hX1, hCs⟩
        · rw [if_neg c5, if_neg c5]; exact wp_some ⟨rfl, hX1, hCs⟩
  · rw [if_neg h]
    by_cases h1 : v < 0
    · rw [if_pos h1]; exact wp_some ⟨rfl, hX, Cs.rf⟩
    · rw [if_neg h1, if_neg]
      · exact wp_some ⟨rfl, hX, Cs.rf⟩
      · simp only [Int32.lt_iff_toInt_lt, Int32.le_iff_toInt_le, t_0, t_1, t_2, t_3, t_4, t_6, t_8, t_10, t_20, t_24, t_40, t_99] at *
        omega

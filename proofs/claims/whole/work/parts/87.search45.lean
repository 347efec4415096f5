/-! states of knowing: the class's search, cell 45 -/
def KY45 (g g' : z_S) : Prop := (∀ o, o ≤ 42 ∨ o = 43 ∨ o = 44 → g'.1 o = g.1 o) ∧ g'.1 45 0 = g.1 45 0
theorem KY45.tr {g g' g'' : z_S} (h : KY45 g g') (h' : KY45 g' g'') : KY45 g g'' := ⟨fun o ho => (h'.1 o ho).trans (h.1 o ho), h'.2.trans h.2⟩
theorem KY45.rf {g : z_S} : KY45 g g := ⟨fun _ _ => rfl, rfl⟩
theorem KY45.X {A : aS} (hA : I_ok A) {g g' : z_S} (h : KY45 g g') (hX : R_X A g) : R_X A g' := by
  have h1 := h.1
  have h2 := h.2
  have h3 : A 0 3 ≤ 4 := hA.1.2.2.2.2.1
  obtain ⟨⟨x1, x2, x3, x4, x5, x6⟩, xB, xC, xD, xE, xF, xG, xH, xI, xJ⟩ := hX
  refine ⟨⟨?_, ?_, ?_, ?_, ?_, ?_⟩, ?_, ?_, ?_, ?_, ?_, ?_, ?_, ?_, ?_⟩ <;> (try simp (disch := omega) only [h1]) <;> (try rw [h2]) <;> (try assumption)
  intro l hl
  rw [h1 (34 + 2 * l) (by omega), h1 (35 + 2 * l) (by omega)]
  exact xF l hl
theorem x_spell45 {k n : Nat} {L : Nat → Nat} {σ : BS} {s0 : Nat} (hW : WB k n L σ s0) {g : z_S} (hB : BP σ g) {s c : Nat} (hs : s < σ.2.2.2.2) (hd : σ.2.2.2.1 s < 12) (h2 : g.1 45 2 = nI (σ.2.2.2.1 s + 1)) : wp (fX1_spell_45 (nI s) (nI c) g) (fun q => (∀ o, o ≠ 46 → q.2.1 o = g.1 o) ∧ ∀ j, j ≤ σ.2.2.2.1 s → q.2.1 46 j = nI (rowL σ s c j)) := by
  obtain ⟨hN1, hN2⟩ := hW.1
  unfold fX1_spell_45
  rw [h2]
  simp (disch := omega) only [p_off, p_on, p_at, h2, p_g, p_b, p_s, p_gin, p_gblt, p_eqL, p_leL, p_Lle, p_ltL, p_Llt, p_addL, p_subL, p_mulL, p_LmulL, p_eq, p_le, p_lt, p_add, p_sub, p_mul, p_clamp, if_pos, if_neg]
  have h3 : nI (σ.2.2.2.1 s + 1) - 2 = if σ.2.2.2.1 s = 0 then -1 else nI (σ.2.2.2.1 s - 1) := by
    by_cases z : σ.2.2.2.1 s = 0
    · rw [z]; rfl
    · rw [if_neg z, p_subL (by omega)]
      rw [show σ.2.2.2.1 s + 1 - 2 = σ.2.2.2.1 s - 1 by omega]
  rw [h3, Nat.add_sub_cancel]
  refine wp_loopN (P := fun m a g' => m ≤ σ.2.2.2.1 s ∧ a.2 = (if m = 0 then -1 else nI (m - 1)) ∧ (∀ o, o ≠ 46 → g'.1 o = g.1 o) ∧ ∃ f x, (∀ j, m ≤ j → j ≤ σ.2.2.2.1 s → g'.1 46 j = nI (f j)) ∧ spl σ.2.1 σ.2.2.1 m x f = rowL σ s c ∧ (1 ≤ m → a.1 = nI x ∧ x < σ.2.2.2.2 ∧ σ.2.2.2.1 x = m)) ?_ zN (σ.2.2.2.1 s) _ _ ⟨Nat.le_refl _, rfl, fun o ho => by rw [p_off ho], up (fun _ => 0) (σ.2.2.2.1 s) c, s, fun j z1 z2 => by rw [show j = σ.2.2.2.1 s by omega, p_at]; unfold up; rw [if_pos rfl], rfl, fun _ => ⟨rfl, hs, rfl⟩⟩ (by rw [p_zN]; omega)
  rintro rc m ⟨v4, v5⟩ g1 ⟨hm, e2, e3, f, x, e6, e7, e8⟩ ih
  simp only [] at e2 e8
  subst e2
  simp only [fX1_spell_45_B23]
  by_cases m0 : m = 0
  · subst m0
    rw [if_pos rfl, if_pos (by decide)]
    refine wp_some ⟨e3, fun j hj => ?_⟩
    rw [e6 j (by omega) hj, ← e7, spl]
  · obtain ⟨rfl, hx, hdx⟩ := e8 (by omega)
    obtain ⟨b4, b5⟩ := hB x hx (by omega)
    obtain ⟨a1, a2, a3⟩ := hW.2.1 x hx
    obtain ⟨c1, c2, c3⟩ := a3 (by omega)
    rw [if_neg m0, if_neg (p_neg (by omega))]
    simp (disch := omega) only [p_off, e3, b4, b5, p_g, p_b, p_s, p_gin, p_gblt, p_eqL, p_leL, p_Lle, p_ltL, p_Llt, p_addL, p_subL, p_mulL, p_LmulL, p_eq, p_le, p_lt, p_add, p_sub, p_mul, p_clamp, if_pos, if_neg]
    obtain ⟨m', rfl⟩ : ∃ m', m = m' + 1 := ⟨m - 1, by omega⟩
    rw [spl] at e7
    refine ih m' _ _ ⟨by omega, ?_, fun o ho => by rw [p_off ho]; exact e3 o ho, _, _, ?_, e7, fun z => ⟨rfl, c1, by omega⟩⟩ (by omega)
    · show nI (m' + 1 - 1) + -1 = _
      by_cases z : m' = 0
      · subst z; rfl
      · rw [if_neg z, p_m1 (by omega)]
        rw [show m' + 1 - 1 - 1 = m' - 1 by omega]
    · intro j z1 z2
      unfold up
      by_cases z : j = m'
      · subst z; rw [if_pos rfl, show j + 1 - 1 = j by omega, p_at]
      · rw [if_neg z, p_on (by omega)]; exact e6 j (by omega) z2
/-- under way -/
def IP45 (A : aS) (g0 : z_S) (σ : BS) (g : z_S) : Prop := KY45 g0 g ∧ g.1 45 1 = 1 ∧ g.1 45 2 = -1 ∧ YL A g ∧ BX A σ g ∧ BP σ g
/-- at an end -/
def FI45 (g0 : z_S) (R : BS × Nat × Nat × Nat) (g : z_S) : Prop := KY45 g0 g ∧ g.1 45 1 = 1 ∧ ((R.2.1 = 1 ∧ g.1 45 2 = nI (R.1.2.2.2.1 R.2.2.1 + 1) ∧ R.1.2.2.2.1 R.2.2.1 < 12 ∧ ∀ j, j ≤ R.1.2.2.2.1 R.2.2.1 → g.1 46 j = nI (rowL R.1 R.2.2.1 R.2.2.2 j)) ∨ (R.2.1 = 2 ∧ g.1 45 2 = -1005))
theorem IP45.st {A : aS} {g0 : z_S} {σ : BS} {g g' : z_S} (h : IP45 A g0 σ g) (h1 : g'.1 = g.1) (h2 : ∀ o, o ≠ 60 → g'.2 o = g.2 o) : IP45 A g0 σ g' := by
  obtain ⟨a1, a2, a3, a4, a5, a6⟩ := h
  refine ⟨⟨fun o ho => by rw [h1]; exact a1.1 o ho, by rw [h1]; exact a1.2⟩, by rw [h1]; exact a2, by rw [h1]; exact a3, ?_, a5.ag (by rw [h1]) (by rw [h1]) (by rw [h1]) (h2 48 (by omega)) (h2 49 (by omega)), fun t ht hd => by rw [h1]; exact a6 t ht hd⟩
  unfold YL LY RY at *
  rw [h2 56 (by omega), h2 57 (by omega), h2 58 (by omega), h2 59 (by omega)]
  exact a4
theorem x_lin45 {A : aS} (hA : I_ok A) (hn0 : 0 < A 0 1) {g0 : z_S} (hX : R_X A g0) (hE : g0.1 45 0 = 0) {s l : Nat} {σ0 : BS} (hW0 : WB (A 0 0) (A 0 1) (A 1) σ0 s) (hs0 : s < σ0.2.2.2.2) (hd0 : σ0.2.2.2.1 s + 1 = l) (hl : l ≤ 12) {R : BS × Nat × Nat × Nat} (hR : bin (A 0 1) (A 1) (A 4) (sgt 0) s (A 0 0) 0 σ0 = R) {g : z_S} (hP0 : IP45 A g0 σ0 g) : wp (fX1_searchBehind_45 (nI s) (nI l) g) (fun q => (R.2.1 = 0 ∧ IP45 A g0 R.1 q.2 ∧ WB (A 0 0) (A 0 1) (A 1) R.1 s ∧ s < R.1.2.2.2.2 ∧ (∀ t, t < σ0.2.2.2.2 → R.1.2.2.2.1 t = σ0.2.2.2.1 t) ∧ σ0.2.2.2.2 ≤ R.1.2.2.2.2 ∧ ∀ t, σ0.2.2.2.2 ≤ t → t < R.1.2.2.2.2 → R.1.2.2.2.1 t = l) ∨ (R.2.1 ≠ 0 ∧ FI45 g0 R q.2)) := by
  have hk8 := hA.1.2.1
  unfold fX1_searchBehind_45
  refine wp_loop (P := fun a g' => ∃ c σ, c ≤ A 0 0 ∧ a = (nI s, nI l, nI c) ∧ IP45 A g0 σ g' ∧ WB (A 0 0) (A 0 1) (A 1) σ s ∧ s < σ.2.2.2.2 ∧ (∀ t, t < σ0.2.2.2.2 → σ.2.2.2.1 t = σ0.2.2.2.1 t) ∧ σ0.2.2.2.2 ≤ σ.2.2.2.2 ∧ (∀ t, σ0.2.2.2.2 ≤ t → t < σ.2.2.2.2 → σ.2.2.2.1 t = l) ∧ bin (A 0 1) (A 1) (A 4) (sgt 0) s (A 0 0 - c) c σ = R) (μ := fun a _ => A 0 0 - a.2.2.toNatClampNeg) ?_ zN _ _ ⟨0, σ0, by omega, rfl, hP0, hW0, hs0, fun _ _ => rfl, Nat.le_refl _, fun t z1 z2 => by omega, hR⟩ (by show A 0 0 - _ < zN; rw [p_zN]; omega)
  rintro rc a g1 ⟨c, σ, hc, rfl, e1, e2, e3, e4, e4', e5, e6⟩ ih
  obtain ⟨u1, u2, u3, u4, u5, u6⟩ := id e1
  have hX1 := u1.X hA hX
  have hN2 := e2.1.2
  have hds : σ.2.2.2.1 s = σ0.2.2.2.1 s := e4 s hs0
  simp only [fX1_searchBehind_45_B3]
  rw [hX1.1.1]
  try simp (disch := omega) only [p_g, p_b, p_s, p_gin, p_gblt, p_eqL, p_leL, p_Lle, p_ltL, p_Llt, p_addL, p_subL, p_mulL, p_LmulL, p_eq, p_le, p_lt, p_add, p_sub, p_mul, p_clamp, if_pos, if_neg]
  by_cases c1 : A 0 0 ≤ c
  · rw [if_pos c1]
    rw [show A 0 0 - c = 0 by omega, bin] at e6
    subst e6
    exact wp_some (Or.inl ⟨rfl, e1, e2, e3, e4, e4', e5⟩)
  · rw [if_neg c1]
    obtain ⟨t, ht⟩ : ∃ t, A 0 0 - c = t + 1 := ⟨A 0 0 - c - 1, by omega⟩
    have ht' : A 0 0 - (c + 1) = t := by omega
    rw [ht, bin] at e6
    apply wp_b
    refine wp_mono (x_step hA u4 (by omega : s < 2000) (by omega : c < 8) (u5.2.1 s e3)) ?_
    rintro ⟨u, g2⟩ ⟨d1, d2, d3⟩
    simp only [] at d1 d2 d3 ⊢
    have i2 := e1.st d1 d2
    obtain ⟨v1, v2, v3, v4, v5, v6⟩ := id i2
    have hdec : A 0 0 - (nI (c + 1)).toNatClampNeg < A 0 0 - (nI c).toNatClampNeg := by
      rw [p_clamp (by omega), p_clamp (by omega)]
      omega
    have hy : Vd (A 0 1) (A 1) (stp (A 0 1) (A 1) (A 4) (σ.1 s) c) := Vd_stp
    generalize hyy : stp (A 0 1) (A 1) (A 4) (σ.1 s) c = y at *
    have main : wp (fX1_searchBehind_45_J50 rc (fun (v1 : Int32) (v2 : Int32) (v4 : Int32) (g : z_S) => z_s (z_wi g 45 2 v2) (fun g59 => (z_b (fX1_spell_45 v1 v4 g59) (fun _ g67 => (some ((), g67)))))) (nI s) (nI l) (nI c) (nI (ci (y = sgt 0))) g2) (fun q => (R.2.1 = 0 ∧ IP45 A g0 R.1 q.2 ∧ WB (A 0 0) (A 0 1) (A 1) R.1 s ∧ s < R.1.2.2.2.2 ∧ (∀ t, t < σ0.2.2.2.2 → R.1.2.2.2.1 t = σ0.2.2.2.1 t) ∧ σ0.2.2.2.2 ≤ R.1.2.2.2.2 ∧ ∀ t, σ0.2.2.2.2 ≤ t → t < R.1.2.2.2.2 → R.1.2.2.2.1 t = l) ∨ (R.2.1 ≠ 0 ∧ FI45 g0 R q.2)) := by
      unfold fX1_searchBehind_45_J50
      by_cases q : y = sgt 0
      · rw [cit_t q] at e6
        subst e6
        rw [if_neg (fun z => (p_cieq.mp z) q)]
        simp only [p_s]
        apply wp_b
        refine wp_mono (x_spell45 (c := c) e2 (g := z_wi g2 45 2 (nI l)) (fun t ht hd => by rw [p_off (by decide), p_off (by decide)]; exact v6 t ht hd) e3 (by omega) (by rw [p_at, hds, hd0])) ?_
        rintro ⟨w, g3⟩ ⟨k1, k2⟩
        simp only [] at k1 k2 ⊢
        refine wp_some (Or.inr ⟨by show ¬ 1 = 0; omega, ⟨fun o ho => ?_, ?_⟩, ?_, Or.inl ⟨rfl, ?_, by show σ.2.2.2.1 s < 12; omega, k2⟩⟩)
        · rw [k1 o (by omega), p_off (by omega)]; exact v1.1 o ho
        · rw [k1 45 (by omega), p_on (by decide)]; exact v1.2
        · rw [k1 45 (by omega), p_on (by decide)]; exact v2
        · rw [k1 45 (by omega), p_at]; show nI l = nI (σ.2.2.2.1 s + 1); rw [hds, hd0]
      · rw [cit_f q] at e6
        rw [if_pos (p_cieq.mpr q), x_empty hA hn0 hy d3, p_b]
        by_cases cN : y = pNon
        · rw [cit_t (Or.inl cN)] at e6
          rw [if_neg (fun z => (p_cieq.mp z) cN), p_addL]
          exact ih _ _ ⟨c + 1, σ, by omega, rfl, i2, e2, e3, e4, e4', e5, by rw [ht']; exact e6⟩ hdec
        · rw [if_pos (p_cieq.mpr cN)]
          apply wp_b
          refine wp_mono (x_find hA hn0 hN2 (fun t ht => (e2.2.1 t ht).1) v5 hy d3) ?_
          rintro ⟨r, g3⟩ ⟨rfl, ⟨k1, k2⟩ | ⟨t', k1, k2, k3⟩⟩
          · simp only [] at k1 v1 v2 v3 v4 v5 v6 d3 ⊢
            subst k1
            have hns : ¬ (y = pNon ∨ seen σ y) := fun q => q.elim cN k2
            rw [cit_f hns] at e6
            rw [if_pos rfl, v5.1]
            try simp (disch := omega) only [p_g, p_b, p_s, p_gin, p_gblt, p_eqL, p_leL, p_Lle, p_ltL, p_Llt, p_addL, p_subL, p_mulL, p_LmulL, p_eq, p_le, p_lt, p_add, p_sub, p_mul, p_clamp, if_pos, if_neg]
            by_cases c0 : σ.2.2.2.2 = 2000
            · rw [if_pos c0] at e6
              subst e6
              rw [if_neg (by omega)]
              refine wp_some (Or.inr ⟨by show ¬ 2 = 0; omega, ⟨fun o ho => ?_, ?_⟩, ?_, Or.inr ⟨rfl, by rw [p_at]⟩⟩)
              · rw [p_off (by omega)]; exact v1.1 o ho
              · rw [p_on (by decide)]; exact v1.2
              · rw [p_on (by decide)]; exact v2
            · rw [if_neg c0] at e6
              rw [if_pos (by omega)]
              simp (disch := omega) only [p_off, v5.1, p_g, p_b, p_s, p_gin, p_gblt, p_eqL, p_leL, p_Lle, p_ltL, p_Llt, p_addL, p_subL, p_mulL, p_LmulL, p_eq, p_le, p_lt, p_add, p_sub, p_mul, p_clamp, if_pos, if_neg]
              apply wp_b
              refine wp_mono (x_keep (s := s) (c := c) (σ := σ) (y := y) (g := z_wi (z_wi g3 52 σ.2.2.2.2 (nI s)) 53 σ.2.2.2.2 (nI c)) (by omega) (BX.ag v5 (by rw [p_off (by decide), p_off (by decide)]) (by rw [p_off (by decide), p_off (by decide)]) (by rw [p_off (by decide), p_off (by decide)]) rfl rfl) d3) ?_
              rintro ⟨w, g4⟩ ⟨k5, k6, k7⟩
              simp only [] at k5 k6 k7 ⊢
              have hsn : ¬ s = σ.2.2.2.2 := by omega
              refine ih _ _ ⟨c + 1, badd σ y s c, by omega, rfl, ⟨⟨fun o ho => ?_, ?_⟩, ?_, ?_, ?_, k5, ?_⟩, ?_, by show s < σ.2.2.2.2 + 1; omega, ?_, by show σ0.2.2.2.2 ≤ σ.2.2.2.2 + 1; omega, ?_, by rw [ht']; exact e6⟩ hdec
              · rw [k6 o (by omega) (by omega) (by omega), p_off (by omega), p_off (by omega)]; exact v1.1 o ho
              · rw [k6 45 (by omega) (by omega) (by omega), p_off (by decide), p_off (by decide)]; exact v1.2
              · rw [k6 45 (by omega) (by omega) (by omega), p_off (by decide), p_off (by decide)]; exact v2
              · rw [k6 45 (by omega) (by omega) (by omega), p_off (by decide), p_off (by decide)]; exact v3
              · unfold YL LY RY at *
                rw [k7 56 (by omega) (by omega), k7 57 (by omega) (by omega), k7 58 (by omega) (by omega), k7 59 (by omega) (by omega)]
                exact v4
              · intro t' ht1 ht2
                rw [k6 52 (by omega) (by omega) (by omega), k6 53 (by omega) (by omega) (by omega)]
                have ht1 : t' < σ.2.2.2.2 + 1 := ht1
                have ht2 : 1 ≤ (if t' = σ.2.2.2.2 then σ.2.2.2.1 s + 1 else σ.2.2.2.1 t') := ht2
                show _ = nI (if t' = σ.2.2.2.2 then s else σ.2.1 t') ∧ _ = nI (if t' = σ.2.2.2.2 then c else σ.2.2.1 t')
                by_cases z : t' = σ.2.2.2.2
                · subst z
                  rw [if_pos rfl, if_pos rfl, p_off (by decide), p_at, p_at]
                  exact ⟨rfl, rfl⟩
                · rw [if_neg z] at ht2
                  rw [if_neg z, if_neg z, p_off (by decide), p_on z, p_on z, p_off (by decide)]
                  exact v6 t' (by omega) ht2
              · have := WB_add (S := A 4) (c := c) e2 e3 (by omega) (by omega) c0 (fun z => k2 (by rw [← hyy]; exact z))
                rw [hyy] at this
                exact this
              · intro t' ht1
                show (if t' = σ.2.2.2.2 then _ else σ.2.2.2.1 t') = _
                rw [if_neg (by omega)]; exact e4 t' ht1
              · intro t' z1 z2
                have z2 : t' < σ.2.2.2.2 + 1 := z2
                show (if t' = σ.2.2.2.2 then σ.2.2.2.1 s + 1 else σ.2.2.2.1 t') = l
                by_cases z : t' = σ.2.2.2.2
                · rw [if_pos z, hds, hd0]
                · rw [if_neg z]; exact e5 t' z1 (by omega)
          · simp only [] at k3 ⊢
            subst k3
            rw [cit_t (Or.inr ⟨t', k1, k2⟩)] at e6
            rw [if_neg (nIm1 (by omega)), p_addL]
            exact ih _ _ ⟨c + 1, σ, by omega, rfl, i2, e2, e3, e4, e4', e5, by rw [ht']; exact e6⟩ hdec
    rw [v1.2, hE]
    first
      | (rw [if_pos rfl, x_empty hA hn0 hy d3, p_b]; have e0 : sgt 0 = pNon := if_neg (by omega); rw [e0] at main; exact main)
      | (rw [if_neg n10, x_like hA hn0 v4 hy d3, p_b]; have e0 : sgt 1 = pEnd := if_pos rfl; rw [e0] at main; exact main)
theorem x_lev45 {A : aS} (hA : I_ok A) (hn0 : 0 < A 0 1) {g0 : z_S} (hX : R_X A g0) (hE : g0.1 45 0 = 0) {R : BS × Nat × Nat × Nat} {l fm to : Nat} (hl : 1 ≤ l ∧ l ≤ 12) {Q : Unit × z_S → Prop} {k : Int32 → Int32 → z_S → Option (Unit × z_S)} {σ0 : BS} {g : z_S} (hP0 : IP45 A g0 σ0 g) (hW0 : WB (A 0 0) (A 0 1) (A 1) σ0 fm) (hto : to = σ0.2.2.2.2) (hfm : fm ≤ to) (hd0 : ∀ t, fm ≤ t → t < to → σ0.2.2.2.1 t + 1 = l) (hR : bout (A 0 0) (A 0 1) (A 1) (A 4) (sgt 0) (2001 - fm) fm σ0 = R)
    (hF : ∀ g', R.2.1 ≠ 0 → FI45 g0 R g' → wp (k (nI l) (nI to) g') Q) (hC : ∀ g' σ, IP45 A g0 σ g' → WB (A 0 0) (A 0 1) (A 1) σ to → to ≤ σ.2.2.2.2 → (∀ t, to ≤ t → t < σ.2.2.2.2 → σ.2.2.2.1 t = l) → bout (A 0 0) (A 0 1) (A 1) (A 4) (sgt 0) (2001 - to) to σ = R → wp (k (nI l) (nI to) g') Q) : wp (z_loop (fX1_search_45_B74 k) zN (nI l, nI to, nI fm) g) Q := by
  have hto2 : to ≤ 2000 := by have := hW0.1.2; omega
  refine wp_loop (P := fun a g' => ∃ s, s ≤ to ∧ a = (nI l, nI to, nI s) ∧ ((R.2.1 ≠ 0 ∧ FI45 g0 R g') ∨ ∃ σ, IP45 A g0 σ g' ∧ WB (A 0 0) (A 0 1) (A 1) σ s ∧ to ≤ σ.2.2.2.2 ∧ (∀ t, s ≤ t → t < to → σ.2.2.2.1 t + 1 = l) ∧ (∀ t, to ≤ t → t < σ.2.2.2.2 → σ.2.2.2.1 t = l) ∧ bout (A 0 0) (A 0 1) (A 1) (A 4) (sgt 0) (2001 - s) s σ = R)) (μ := fun a _ => to - a.2.2.toNatClampNeg) ?_ zN _ _ ⟨fm, hfm, rfl, Or.inr ⟨σ0, hP0, hW0, by omega, hd0, fun t z1 z2 => by omega, hR⟩⟩ (by rw [p_zN]; show to - _ < _; omega)
  rintro rc a g1 ⟨s, hs, rfl, e⟩ ih
  simp only [fX1_search_45_B74]
  try simp (disch := omega) only [p_g, p_b, p_s, p_gin, p_gblt, p_eqL, p_leL, p_Lle, p_ltL, p_Llt, p_addL, p_subL, p_mulL, p_LmulL, p_eq, p_le, p_lt, p_add, p_sub, p_mul, p_clamp, if_pos, if_neg]
  rcases e with ⟨e1, e2⟩ | ⟨σ, e1, e2, e3, e4, e5, e6⟩
  · have hne : ¬ g1.1 45 2 = -1 := by
      rcases e2.2.2 with ⟨z1, z2, z3, z4⟩ | ⟨z1, z2⟩
      · rw [z2]; exact nIm1 (by omega)
      · rw [z2]; decide
    rw [if_neg hne]
    split
    · exact hF g1 e1 e2
    · exact hF g1 e1 e2
  · by_cases c : to ≤ s
    · have : s = to := by omega
      subst this
      rw [if_pos c]
      exact hC g1 σ e1 e2 e3 e5 e6
    · rw [if_neg c, if_pos e1.2.2.1]
      obtain ⟨t, ht⟩ : ∃ t, 2001 - s = t + 1 := ⟨2000 - s, by omega⟩
      have ht' : 2001 - (s + 1) = t := by omega
      rw [ht, bout, if_pos ⟨by omega, by have := e4 s (Nat.le_refl _) (by omega); omega⟩] at e6
      apply wp_b
      refine wp_mono (x_lin45 hA hn0 hX hE e2 (by omega) (e4 s (Nat.le_refl _) (by omega)) hl.2 rfl e1) ?_
      rintro ⟨u, g2⟩ (⟨k1, k2, k3, k4, k5, k6, k7⟩ | ⟨k1, k2⟩)
      · simp only [] at k2 ⊢
        rw [if_pos k1] at e6
        try simp (disch := omega) only [p_g, p_b, p_s, p_gin, p_gblt, p_eqL, p_leL, p_Lle, p_ltL, p_Llt, p_addL, p_subL, p_mulL, p_LmulL, p_eq, p_le, p_lt, p_add, p_sub, p_mul, p_clamp, if_pos, if_neg]
        refine ih _ _ ⟨s + 1, by omega, rfl, Or.inr ⟨_, k2, WB_next k3 k4, by omega, fun t' z1 z2 => ?_, fun t' z1 z2 => ?_, by rw [ht']; exact e6⟩⟩ ?_
        · rw [k5 t' (by omega)]; exact e4 t' (by omega) z2
        · by_cases z : t' < σ.2.2.2.2
          · rw [k5 t' z]; exact e5 t' z1 z
          · exact k7 t' (by omega) z2
        · show _ - (nI (_ + 1)).toNatClampNeg < _ - (nI _).toNatClampNeg
          rw [p_clamp (by omega), p_clamp (by omega)]
          omega
      · simp only [] at k2 ⊢
        rw [if_neg k1] at e6
        subst e6
        try simp (disch := omega) only [p_g, p_b, p_s, p_gin, p_gblt, p_eqL, p_leL, p_Lle, p_ltL, p_Llt, p_addL, p_subL, p_mulL, p_LmulL, p_eq, p_le, p_lt, p_add, p_sub, p_mul, p_clamp, if_pos, if_neg]
        refine ih _ _ ⟨s + 1, by omega, rfl, Or.inl ⟨k1, k2⟩⟩ ?_
        show _ - (nI (_ + 1)).toNatClampNeg < _ - (nI _).toNatClampNeg
        rw [p_clamp (by omega), p_clamp (by omega)]
        omega
/-- what is known of a search that is over -/
def CK45 (A : aS) (g : z_S) : Prop := (g.1 45 2 = shN (A 0 0) (A 0 1) (A 1) (A 4) 0 ∧ (g.1 45 2 < 0 → g.1 45 2 = -1 ∨ g.1 45 2 = -1005)) ∧ ∀ j : Nat, (j : Int) < (g.1 45 2).toInt → j < 12 ∧ g.1 46 j = nI (shL (A 0 0) (A 0 1) (A 1) (A 4) 0 j)
theorem x_levs45 {A : aS} (hA : I_ok A) (hn0 : 0 < A 0 1) {g0 : z_S} (hX : R_X A g0) (hE : g0.1 45 0 = 0) (hz : ¬ (0 = 1 ∧ pAll (A 0 1) (A 1) = pEnd)) {g : z_S} (hP0 : IP45 A g0 (b0 (pAll (A 0 1) (A 1))) g) : wp (z_loop fX1_search_45_B51 zN (0, 1) g) (fun q => KY45 g0 q.2 ∧ q.2.1 45 1 = 1 ∧ CK45 A q.2) := by
  obtain ⟨R, hR⟩ : ∃ R, shR (A 0 0) (A 0 1) (A 1) (A 4) 0 = R := ⟨_, rfl⟩
  have eL : shL (A 0 0) (A 0 1) (A 1) (A 4) 0 = rowL R.1 R.2.2.1 R.2.2.2 := by unfold shL; rw [hR]
  have eN : shN (A 0 0) (A 0 1) (A 1) (A 4) 0 = if R.2.1 = 1 then nI (R.1.2.2.2.1 R.2.2.1 + 1) else if R.2.1 = 2 then -1005 else -1 := by
    unfold shN; rw [hR, cit_f hz]
  unfold shR at hR
  have neg : ∀ (j : Nat) (x : Int32), x = -1 ∨ x = -1005 → (j : Int) < x.toInt → False := by
    rintro j x (rfl | rfl) h
    · have e : (-1 : Int32).toInt = -1 := rfl
      omega
    · have e : (-1005 : Int32).toInt = -1005 := rfl
      omega
  have finF : ∀ g', R.2.1 ≠ 0 → FI45 g0 R g' → KY45 g0 g' ∧ g'.1 45 1 = 1 ∧ CK45 A g' := by
    rintro g' h1 ⟨h2, h3, ⟨h4, h5, h6, h7⟩ | ⟨h4, h5⟩⟩
    · refine ⟨h2, h3, ⟨by rw [h5, eN, if_pos h4], fun z => by rw [h5] at z; exact absurd z (p_neg (by omega))⟩, fun j hj => ?_⟩
      rw [h5, p_toInt (by omega)] at hj
      rw [eL]
      exact ⟨by omega, h7 j (by omega)⟩
    · refine ⟨h2, h3, ⟨by rw [h5, eN, if_neg (by omega), if_pos h4], fun _ => Or.inr h5⟩, fun j hj => ?_⟩
      rw [h5] at hj
      exact (neg j _ (Or.inr rfl) hj).elim
  refine wp_loop (P := fun a g' => ∃ fm l, 1 ≤ l ∧ l ≤ 13 ∧ a = (nI fm, nI l) ∧ ((R.2.1 ≠ 0 ∧ FI45 g0 R g') ∨ ∃ σ, IP45 A g0 σ g' ∧ WB (A 0 0) (A 0 1) (A 1) σ fm ∧ fm ≤ σ.2.2.2.2 ∧ (∀ t, fm ≤ t → t < σ.2.2.2.2 → σ.2.2.2.1 t + 1 = l) ∧ bout (A 0 0) (A 0 1) (A 1) (A 4) (sgt 0) (2001 - fm) fm σ = R)) (μ := fun a _ => 14 - a.2.toNatClampNeg) ?_ zN _ _ ⟨0, 1, by omega, by omega, rfl, Or.inr ⟨_, hP0, WB_0 Vd_all, by omega, fun t _ _ => rfl, hR⟩⟩ (by rw [p_zN]; show 14 - _ < _; omega)
  rintro rc a g1 ⟨fm, l, hl1, hl2, rfl, e⟩ ih
  simp only [fX1_search_45_B51]
  try simp (disch := omega) only [p_g, p_b, p_s, p_gin, p_gblt, p_eqL, p_leL, p_Lle, p_ltL, p_Llt, p_addL, p_subL, p_mulL, p_LmulL, p_eq, p_le, p_lt, p_add, p_sub, p_mul, p_clamp, if_pos, if_neg]
  rcases e with ⟨e1, e2⟩ | ⟨σ, e1, e2, e3, e4, e6⟩
  · have hne : ¬ g1.1 45 2 = -1 := by
      rcases e2.2.2 with ⟨z1, z2, z3, z4⟩ | ⟨z1, z2⟩
      · rw [z2]; exact nIm1 (by omega)
      · rw [z2]; decide
    rw [if_neg hne]
    split
    · exact wp_some (finF g1 e1 e2)
    · exact wp_some (finF g1 e1 e2)
  · have hN2 := e2.1.2
    by_cases c : 12 < l
    · rw [if_pos c]
      obtain ⟨t, ht⟩ : ∃ t, 2001 - fm = t + 1 := ⟨2000 - fm, by omega⟩
      rw [ht, bout, if_neg (fun q => by have := e4 fm (Nat.le_refl _) q.1; omega)] at e6
      subst e6
      refine wp_some ⟨e1.1, e1.2.1, ⟨?_, fun _ => Or.inl e1.2.2.1⟩, fun j hj => ?_⟩
      · rw [eN, if_neg (by show ¬ 0 = 1; omega), if_neg (by show ¬ 0 = 2; omega)]; exact e1.2.2.1
      · rw [e1.2.2.1] at hj
        exact (neg j _ (Or.inl rfl) hj).elim
    · rw [if_neg c, if_pos e1.2.2.1, e1.2.2.2.2.1.1]
      refine x_lev45 hA hn0 hX hE ⟨hl1, by omega⟩ e1 e2 rfl e3 e4 e6 ?_ ?_
      · intro g2 z1 z2
        try simp (disch := omega) only [p_g, p_b, p_s, p_gin, p_gblt, p_eqL, p_leL, p_Lle, p_ltL, p_Llt, p_addL, p_subL, p_mulL, p_LmulL, p_eq, p_le, p_lt, p_add, p_sub, p_mul, p_clamp, if_pos, if_neg]
        refine ih _ _ ⟨_, l + 1, by omega, by omega, rfl, Or.inl ⟨z1, z2⟩⟩ ?_
        show _ - (nI (_ + 1)).toNatClampNeg < _ - (nI _).toNatClampNeg
        rw [p_clamp (by omega), p_clamp (by omega)]
        omega
      · intro g2 σ2 z1 z2 z3 z4 z5
        try simp (disch := omega) only [p_g, p_b, p_s, p_gin, p_gblt, p_eqL, p_leL, p_Lle, p_ltL, p_Llt, p_addL, p_subL, p_mulL, p_LmulL, p_eq, p_le, p_lt, p_add, p_sub, p_mul, p_clamp, if_pos, if_neg]
        refine ih _ _ ⟨_, l + 1, by omega, by omega, rfl, Or.inr ⟨σ2, z1, z2, z3, fun t y1 y2 => by rw [z4 t y1 y2], z5⟩⟩ ?_
        show _ - (nI (_ + 1)).toNatClampNeg < _ - (nI _).toNatClampNeg
        rw [p_clamp (by omega), p_clamp (by omega)]
        omega
theorem x_search45 {A : aS} (hA : I_ok A) (hn0 : 0 < A 0 1) {g : z_S} (hX : R_X A g) (hE : g.1 45 0 = 0) : wp (fX1_search_45 g) (fun q => KY45 g q.2 ∧ q.2.1 45 1 = 1 ∧ CK45 A q.2) := by
  unfold fX1_search_45
  apply wp_b
  refine wp_mono (x_layout hA hX) ?_
  rintro ⟨u, g1⟩ ⟨a1, a2, a3⟩
  simp only [] at a1 a2 a3 ⊢
  apply wp_b
  refine wp_mono (x_any hA ⟨a2, a3⟩) ?_
  rintro ⟨u, g2⟩ ⟨b1, b2, b3⟩
  simp only [] at b1 b2 b3 ⊢
  apply wp_b
  refine wp_mono (x_begin b3) ?_
  rintro ⟨u, g3⟩ ⟨c1, c2, c3⟩
  simp only [] at c1 c2 c3 ⊢
  rw [p_s]
  have e3 : ∀ o, o ≠ 47 → o ≠ 50 → o ≠ 51 → g3.1 o = g.1 o := fun o z1 z2 z3 => by rw [c2 o z1 z2 z3, b1, a1.1]
  have hY : YL A g3 := by
    refine ⟨?_, ?_⟩
    · unfold LY at *
      rw [c3 58 (by omega) (by omega), c3 59 (by omega) (by omega), b2 58 (by omega), b2 59 (by omega)]
      exact a2
    · unfold RY at *
      rw [c3 56 (by omega) (by omega), c3 57 (by omega) (by omega), b2 56 (by omega), b2 57 (by omega)]
      exact a3
  have h60 : CR (A 0 1) (A 1) (pAll (A 0 1) (A 1)) (g3.2 60 0) (g3.2 60 1) := by
    rw [c3 60 (by omega) (by omega)]; exact b3
  have hIP : ∀ v, v = (-1 : Int32) → IP45 A g (b0 (pAll (A 0 1) (A 1))) (z_wi (z_wi g3 45 1 1) 45 2 v) := by
    rintro v rfl
    refine ⟨⟨fun o ho => ?_, ?_⟩, ?_, by rw [p_at], hY, ?_, ?_⟩
    · rw [p_off (by omega), p_off (by omega)]; exact e3 o (by omega) (by omega) (by omega)
    · rw [p_on (by decide), p_on (by decide), e3 45 (by omega) (by omega) (by omega)]
    · rw [p_on (by decide), p_at]
    · exact c1.ag (by rw [p_off (by decide), p_off (by decide)]) (by rw [p_off (by decide), p_off (by decide)]) (by rw [p_off (by decide), p_off (by decide)]) rfl rfl
    · intro t ht hd
      exact absurd hd (by show ¬ 1 ≤ 0; omega)
  rw [p_on (by decide), e3 45 (by omega) (by omega) (by omega), hE]
  unfold fX1_search_45_J44
  first
    | (rw [if_pos rfl, p_s]
       exact x_levs45 hA hn0 hX hE (fun q => absurd q.1 (by decide)) (hIP _ rfl))
    | (rw [if_neg n10, x_like hA hn0 (y := pAll (A 0 1) (A 1)) (g := z_wi g3 45 1 1) hY Vd_all h60, p_b]
       by_cases c : pAll (A 0 1) (A 1) = pEnd
       · rw [ci_t c, if_neg nI10, p_s]
         rw [p_loop1]
         simp only [fX1_search_45_B51]
         rw [if_neg (by decide), p_at, if_neg (by decide)]
         refine wp_some ⟨⟨fun o ho => ?_, ?_⟩, ?_, ⟨?_, fun z => by rw [p_at] at z; exact absurd z (by decide)⟩, fun j hj => ?_⟩
         · rw [p_off (by omega), p_off (by omega)]; exact e3 o (by omega) (by omega) (by omega)
         · rw [p_on (by decide), p_on (by decide), e3 45 (by omega) (by omega) (by omega)]
         · rw [p_on (by decide), p_at]
         · rw [p_at]; unfold shN; rw [cit_t ⟨rfl, c⟩]
         · rw [p_at] at hj
           have e : (0 : Int32).toInt = 0 := rfl
           omega
       · rw [ci_f c, if_pos nI00, p_s]
         exact x_levs45 hA hn0 hX hE (fun q => c q.2) (hIP _ rfl))
/-- the class's answer -/
theorem x_part45 {A : aS} (hA : I_ok A) {g : z_S} (hX : R_X A g) (hE : g.1 45 0 = 0) (h01 : g.1 45 1 = 0 ∨ g.1 45 1 = 1) (hc : g.1 45 1 = 1 → 0 < A 0 1 → CK45 A g) (v : Int32) : wp (fX10_partOfShortest_45 v g) (fun q => q.1 = shA (A 0 0) (A 0 1) (A 1) (A 4) 0 v ∧ KY45 g q.2 ∧ (q.2.1 45 1 = 0 ∨ q.2.1 45 1 = 1) ∧ (q.2.1 45 1 = 1 → 0 < A 0 1 → CK45 A q.2)) := by
  have hn := hA.1.2.2.1
  unfold fX10_partOfShortest_45
  rw [hX.1.2.1]
  try simp (disch := omega) only [p_g, p_b, p_s, p_gin, p_gblt, p_eqL, p_leL, p_Lle, p_ltL, p_Llt, p_addL, p_subL, p_mulL, p_LmulL, p_eq, p_le, p_lt, p_add, p_sub, p_mul, p_clamp, if_pos, if_neg]
  by_cases c : A 0 1 = 0
  · rw [if_pos c]
    refine wp_some ⟨?_, KY45.rf, h01, hc⟩
    unfold shA; rw [if_pos c]
  · rw [if_neg c]
    have hn0 : 0 < A 0 1 := by omega
    have fin : ∀ g', KY45 g g' → g'.1 45 1 = 1 → CK45 A g' → wp (fX10_partOfShortest_45_J29 v g') (fun q => q.1 = shA (A 0 0) (A 0 1) (A 1) (A 4) 0 v ∧ KY45 g q.2 ∧ (q.2.1 45 1 = 0 ∨ q.2.1 45 1 = 1) ∧ (q.2.1 45 1 = 1 → 0 < A 0 1 → CK45 A q.2)) := by
      intro g' k1 k2 k3
      obtain ⟨k4', k5⟩ := k3
      have k4 := k4'.1
      have hA' : shA (A 0 0) (A 0 1) (A 1) (A 4) 0 v = if g'.1 45 2 < 0 ∨ v = -1 then g'.1 45 2 else if 0 ≤ v.toInt ∧ v.toInt < (g'.1 45 2).toInt then nI (shL (A 0 0) (A 0 1) (A 1) (A 4) 0 v.toNatClampNeg) else -1 := by
        unfold shA
        rw [if_neg c, ← k4]
      unfold fX10_partOfShortest_45_J29
      have ok : ∀ r, r = shA (A 0 0) (A 0 1) (A 1) (A 4) 0 v → wp (some (r, g')) (fun q => q.1 = shA (A 0 0) (A 0 1) (A 1) (A 4) 0 v ∧ KY45 g q.2 ∧ (q.2.1 45 1 = 0 ∨ q.2.1 45 1 = 1) ∧ (q.2.1 45 1 = 1 → 0 < A 0 1 → CK45 A q.2)) := fun r hr => wp_some ⟨hr, k1, Or.inr k2, fun _ _ => ⟨k4', k5⟩⟩
      by_cases c1 : g'.1 45 2 = -1005
      · rw [if_pos c1]
        exact ok _ (by rw [hA', c1, if_pos (Or.inl (by decide))])
      · rw [if_neg c1]
        by_cases c2 : v = -1
        · rw [if_pos c2]
          exact ok _ (by rw [hA', if_pos (Or.inr c2)])
        · rw [if_neg c2]
          by_cases c3 : g'.1 45 2 < 0
          · have hm : g'.1 45 2 = -1 := (k4'.2 c3).resolve_right c1
            have z := ok (-1) (by rw [hA', hm, if_pos (Or.inl (by decide))])
            split
            · exact z
            · rw [if_pos]
              · exact z
              · rename_i hv
                rw [hm, Int32.le_iff_toInt_le]
                rw [Int32.lt_iff_toInt_lt, t_0] at hv
                have e : (-1 : Int32).toInt = -1 := rfl
                omega
          · by_cases c4 : v < 0
            · rw [if_pos c4]
              refine ok _ ?_
              rw [hA', if_neg (fun q => q.elim c3 c2), if_neg]
              rw [Int32.lt_iff_toInt_lt, t_0] at c4
              omega
            · rw [if_neg c4]
              by_cases c5 : g'.1 45 2 ≤ v
              · rw [if_pos c5]
                refine ok _ ?_
                rw [hA', if_neg (fun q => q.elim c3 c2), if_neg]
                rw [Int32.le_iff_toInt_le] at c5
                omega
              · rw [if_neg c5]
                rw [Int32.le_iff_toInt_le] at c5
                obtain ⟨m, hm, rfl⟩ := (p_cases v).resolve_left c4
                rw [p_toInt hm] at c5
                obtain ⟨k6, k7⟩ := k5 m (by omega)
                try simp (disch := omega) only [p_g, p_b, p_s, p_gin, p_gblt, p_eqL, p_leL, p_Lle, p_ltL, p_Llt, p_addL, p_subL, p_mulL, p_LmulL, p_eq, p_le, p_lt, p_add, p_sub, p_mul, p_clamp, if_pos, if_neg]
                refine ok _ ?_
                rw [hA', if_neg (fun q => q.elim c3 c2), if_pos ⟨by rw [p_toInt hm]; omega, by rw [p_toInt hm]; omega⟩, k7, p_clamp hm]
    by_cases h1 : g.1 45 1 = 0
    · rw [if_pos h1]
      unfold fX10_states
      rw [p_b]
      apply wp_b
      refine wp_mono (x_search45 hA hn0 hX hE) ?_
      rintro ⟨u, g1⟩ ⟨k1, k2, k3⟩
      exact fin g1 k1 k2 k3
    · rw [if_neg h1]
      have h1' : g.1 45 1 = 1 := h01.resolve_left h1
      exact fin g KY45.rf h1' (hc h1' hn0)

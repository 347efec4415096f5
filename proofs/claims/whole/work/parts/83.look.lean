/-! states of knowing: the reference's search -/
theorem LO_A {A : aS} (hA : I_ok A) : LO (A 0 1) (A 1) := ⟨hA.1.2.2.1, fun w hw => ⟨(hA.2.1 w hw).1, (hA.2.1 w hw).2.1⟩⟩
theorem pEnd_non : pEnd ≠ pNon := by
  intro h
  have := congrFun h 0
  have h2 : pEnd 0 := rfl
  rw [this] at h2
  exact h2
theorem m_lk1 {A : aS} (hA : I_ok A) {g0 g : z_S} (hM : R_M A g0) (hK : KB g0 g) {σ : BS} {s : Nat} (hW : WB (A 0 0) (A 0 1) (A 1) σ s) (hs : s < σ.2.2.2.2) (hB : BM σ g) {b c : Nat} (hb : b ≤ 1) (hc : c < A 0 0) {y : Stt} (hy : Vd (A 0 1) (A 1) y) (hN : NR y (g.2 0 35) (g.2 0 36)) {Q : Int32 × z_S → Prop} {rc : Int32 × Int32 × Int32 → z_S → Option (Int32 × z_S)} {J : Int32 → Int32 → z_S → Option (Int32 × z_S)}
    (h1 : y = sgt b → wp (J (nI s) (nI c) g) Q) (h2 : y ≠ sgt b → (y = pNon ∨ seen σ y) → wp (rc (nI b, nI s, nI (c + 1)) g) Q) (h3 : y ≠ sgt b → ¬ (y = pNon ∨ seen σ y) → σ.2.2.2.2 = 2000 → Q (-1005, g)) (h4 : y ≠ sgt b → ¬ (y = pNon ∨ seen σ y) → σ.2.2.2.2 ≠ 2000 → ∀ g', KB g0 g' → BM (badd σ y s c) g' → wp (rc (nI b, nI s, nI (c + 1)) g') Q) : wp (if g.2 0 35 = 0 then (if g.2 0 36 = 0 then (fX11_look_J98 rc J J (nI b) (nI s) (nI c) 1 g) else (fX11_look_J98 rc J J (nI b) (nI s) (nI c) 0 g)) else (fX11_look_J98 rc J J (nI b) (nI s) (nI c) 0 g)) Q := by
  have hL := LO_A hA
  have hN2 := hW.1.2
  have hk8 := hA.1.2.1
  have iN := NR_inj hL hy Vd_non hN NR_non
  have iE := NR_inj hL hy Vd_end hN NR_end
  have e35 : sgt 1 = pEnd := if_pos rfl
  have e30 : sgt 0 = pNon := if_neg (by omega)
  by_cases cN : y = pNon
  · obtain ⟨z1, z2⟩ := iN.mpr cN
    rw [if_pos z1, if_pos z2]
    unfold fX11_look_J98
    rcases (show b = 0 ∨ b = 1 by omega) with rfl | rfl
    · rw [if_pos nI00, if_neg n10]
      exact h1 (by rw [e30]; exact cN)
    · rw [if_neg nI10, z1, if_neg (by decide)]
      unfold fX11_look_J141
      rw [if_neg n10, p_addL]
      exact h2 (by rw [e35, cN]; exact fun q => pEnd_non q.symm) (Or.inl cN)
  · have hne : (if g.2 0 35 = 0 then (if g.2 0 36 = 0 then (fX11_look_J98 rc J J (nI b) (nI s) (nI c) 1 g) else (fX11_look_J98 rc J J (nI b) (nI s) (nI c) 0 g)) else (fX11_look_J98 rc J J (nI b) (nI s) (nI c) 0 g)) = fX11_look_J98 rc J J (nI b) (nI s) (nI c) 0 g := by
      by_cases z1 : g.2 0 35 = 0
      · rw [if_pos z1]
        by_cases z2 : g.2 0 36 = 0
        · exact absurd (iN.mp ⟨z1, z2⟩) cN
        · rw [if_neg z2]
      · rw [if_neg z1]
    rw [hne]
    have tail : y ≠ sgt b → wp (fX11_look_J141 rc (nI b) (nI s) (nI c) 0 g) Q := by
      intro hsg
      unfold fX11_look_J141
      rw [if_pos rfl]
      apply wp_b
      refine wp_mono (m_fnd hL hW hB hy hN) ?_
      rintro ⟨r, g'⟩ ⟨rfl, ⟨k1, k2⟩ | ⟨t, k1, k2, k3⟩⟩
      · simp only [] at k1 ⊢
        subst k1
        rw [if_neg (by decide), hB.1]
        have hns : ¬ (y = pNon ∨ seen σ y) := fun q => q.elim cN k2
        try simp (disch := omega) only [p_g, p_b, p_s, p_gin, p_gblt, p_eqL, p_leL, p_Lle, p_ltL, p_Llt, p_addL, p_subL, p_mulL, p_LmulL, p_eq, p_le, p_lt, p_add, p_sub, p_mul, p_clamp, if_pos, if_neg]
        by_cases c0 : σ.2.2.2.2 = 2000
        · rw [if_pos c0]
          exact wp_some (h3 hsg hns c0)
        · rw [if_neg c0, (hB.2 s hs).2.1]
          try simp (disch := omega) only [p_g, p_b, p_s, p_gin, p_gblt, p_eqL, p_leL, p_Lle, p_ltL, p_Llt, p_addL, p_subL, p_mulL, p_LmulL, p_eq, p_le, p_lt, p_add, p_sub, p_mul, p_clamp, if_pos, if_neg]
          apply wp_b
          refine wp_mono (m_add (y := y) (s := s) (c := c) (by omega) hB hN) ?_
          rintro ⟨u, g2⟩ ⟨d1, d2, -⟩
          simp only [] at d1 d2 ⊢
          exact h4 hsg hns c0 g2 (hK.tr d1) d2
      · simp only [] at k3 ⊢
        subst k3
        rw [if_pos (p_pos (by omega)), p_addL]
        exact h2 hsg (Or.inr ⟨t, k1, k2⟩)
    unfold fX11_look_J98
    rcases (show b = 0 ∨ b = 1 by omega) with rfl | rfl
    · rw [if_pos nI00, if_pos rfl]
      exact tail (by rw [e30]; exact cN)
    · rw [if_neg nI10]
      by_cases cE : y = pEnd
      · obtain ⟨z1, z2⟩ := iE.mpr cE
        rw [if_pos z1, if_pos z2]
        exact h1 (by rw [e35]; exact cE)
      · have hsg : y ≠ sgt 1 := by rw [e35]; exact cE
        by_cases z1 : g.2 0 35 = 1
        · rw [if_pos z1]
          by_cases z2 : g.2 0 36 = 0
          · exact absurd (iE.mp ⟨z1, z2⟩) cE
          · rw [if_neg z2]; exact tail hsg
        · rw [if_neg z1]; exact tail hsg
theorem m_lin {A : aS} (hA : I_ok A) {g0 : z_S} (hM : R_M A g0) {s b : Nat} (hb : b ≤ 1) {σ0 : BS} (hW0 : WB (A 0 0) (A 0 1) (A 1) σ0 s) (hs0 : s < σ0.2.2.2.2) (hd0 : σ0.2.2.2.1 s < 12) {R : BS × Nat × Nat × Nat} (hR : bin (A 0 1) (A 1) (A 4) (sgt b) s (A 0 0) 0 σ0 = R) {Q : Int32 × z_S → Prop} {J : Int32 → Int32 → z_S → Option (Int32 × z_S)} {k187 : Int32 → Int32 → z_S → Option (Int32 × z_S)} {g : z_S} (hK0 : KB g0 g) (hB0 : BM σ0 g)
    (hF : R.2.1 = 1 → ∀ g', KB g0 g' → WB (A 0 0) (A 0 1) (A 1) R.1 s → BM R.1 g' → R.2.2.1 = s → R.1.2.2.2.1 s < 12 → s < R.1.2.2.2.2 → R.2.2.2 < A 0 0 → wp (J (nI s) (nI R.2.2.2) g') Q) (hL : R.2.1 = 2 → ∀ g', KB g0 g' → Q (-1005, g')) (hC : R.2.1 = 0 → ∀ g', KB g0 g' → WB (A 0 0) (A 0 1) (A 1) R.1 s → BM R.1 g' → s < R.1.2.2.2.2 → wp (k187 (nI b) (nI s) g') Q) : wp (z_loop (fX11_look_B61 J J k187) zN (nI b, nI s, 0) g) Q := by
  have hk8 := hA.1.2.1
  refine wp_loop (P := fun a g' => ∃ c σ, c ≤ A 0 0 ∧ a = (nI b, nI s, nI c) ∧ KB g0 g' ∧ WB (A 0 0) (A 0 1) (A 1) σ s ∧ s < σ.2.2.2.2 ∧ σ.2.2.2.1 s < 12 ∧ BM σ g' ∧ bin (A 0 1) (A 1) (A 4) (sgt b) s (A 0 0 - c) c σ = R) (μ := fun a _ => A 0 0 - a.2.2.toNatClampNeg) ?_ zN _ _ ⟨0, σ0, by omega, rfl, hK0, hW0, hs0, hd0, hB0, hR⟩ (by show A 0 0 - _ < zN; rw [p_zN]; omega)
  rintro rc a g1 ⟨c, σ, hc, rfl, e1, e2, e3, e4, e5, e6⟩ ih
  have hM1 := e1.M hM
  have hN2 := e2.1.2
  simp only [fX11_look_B61]
  rw [hM1.1.1]
  try simp (disch := omega) only [p_g, p_b, p_s, p_gin, p_gblt, p_eqL, p_leL, p_Lle, p_ltL, p_Llt, p_addL, p_subL, p_mulL, p_LmulL, p_eq, p_le, p_lt, p_add, p_sub, p_mul, p_clamp, if_pos, if_neg]
  by_cases c1 : A 0 0 ≤ c
  · rw [if_pos c1]
    rw [show A 0 0 - c = 0 by omega, bin] at e6
    subst e6
    exact hC rfl g1 e1 e2 e5 e3
  · rw [if_neg c1]
    obtain ⟨t, ht⟩ : ∃ t, A 0 0 - c = t + 1 := ⟨A 0 0 - c - 1, by omega⟩
    have ht' : A 0 0 - (c + 1) = t := by omega
    rw [ht, bin] at e6
    apply wp_b
    refine wp_mono (m_goOn hA hM1 (by omega) (by omega : c < 8) (e5.2 s e3).1) ?_
    rintro ⟨u, g2⟩ ⟨d1, d2⟩
    simp only [] at d1 d2 ⊢
    have hdec : A 0 0 - (nI (c + 1)).toNatClampNeg < A 0 0 - (nI c).toNatClampNeg := by
      rw [p_clamp (by omega), p_clamp (by omega)]
      omega
    refine m_lk1 (y := stp (A 0 1) (A 1) (A 4) (σ.1 s) c) (J := J) hA hM (e1.tr (KB.of d1.1)) e2 e3 (e5.fn d1) hb (by omega) Vd_stp d2 ?_ ?_ ?_ ?_
    · intro q
      rw [cit_t q] at e6
      subst e6
      exact hF rfl g2 (e1.tr (KB.of d1.1)) e2 (e5.fn d1) rfl e4 e3 (by show c < A 0 0; omega)
    · intro q1 q2
      rw [cit_f q1, cit_t q2] at e6
      exact ih _ _ ⟨c + 1, σ, by omega, rfl, e1.tr (KB.of d1.1), e2, e3, e4, e5.fn d1, by rw [ht']; exact e6⟩ hdec
    · intro q1 q2 q3
      rw [cit_f q1, cit_f q2, if_pos q3] at e6
      subst e6
      exact hL rfl g2 (e1.tr (KB.of d1.1))
    · intro q1 q2 q3 g3 k1 k2
      rw [cit_f q1, cit_f q2, if_neg q3] at e6
      have hdn : ¬ s = σ.2.2.2.2 := by omega
      refine ih _ _ ⟨c + 1, _, by omega, rfl, k1, WB_add e2 e3 e4 (by omega) q3 (fun z => q2 (Or.inr z)), by show s < σ.2.2.2.2 + 1; omega, ?_, k2, by rw [ht']; exact e6⟩ hdec
      show (if s = σ.2.2.2.2 then _ else σ.2.2.2.1 s) < 12
      rw [if_neg hdn]; exact e4
/-- the reference's answer of a search -/
def MA (A : aS) (b : Nat) (g : z_S) (q : Int32 × z_S) : Prop := KB g q.2 ∧ q.1 = shN (A 0 0) (A 0 1) (A 1) (A 4) b ∧ ∀ j : Nat, (j : Int) < q.1.toInt → j < 12 ∧ q.2.1 26 j = nI (shL (A 0 0) (A 0 1) (A 1) (A 4) b j)
theorem m_lout {A : aS} (hA : I_ok A) {g0 : z_S} (hM : R_M A g0) {b : Nat} (hb : b ≤ 1) (hz : ¬ (b = 1 ∧ pAll (A 0 1) (A 1) = pEnd)) {g : z_S} (hK0 : KB g0 g) (hB0 : BM (b0 (pAll (A 0 1) (A 1))) g) : wp (z_loop (fX11_look_B40 (fun (v2 : Int32) (v3 : Int32) (g : z_S) => fX11_look_J130 v2 v3 g) (fun (v2 : Int32) (v3 : Int32) (g : z_S) => fX11_look_J130 v2 v3 g)) zN (nI b, 0) g) (MA A b g0) := by
  have hk8 := hA.1.2.1
  have eN := fun (x : Nat) => cit_f (x := (0 : Int32)) (y := if (shR (A 0 0) (A 0 1) (A 1) (A 4) b).2.1 = 1 then nI ((shR (A 0 0) (A 0 1) (A 1) (A 4) b).1.2.2.2.1 (shR (A 0 0) (A 0 1) (A 1) (A 4) b).2.2.1 + 1) else if (shR (A 0 0) (A 0 1) (A 1) (A 4) b).2.1 = 2 then -1005 else -1) hz
  have eN := eN 0
  generalize hR : shR (A 0 0) (A 0 1) (A 1) (A 4) b = R at eN
  have eL : shL (A 0 0) (A 0 1) (A 1) (A 4) b = rowL R.1 R.2.2.1 R.2.2.2 := by unfold shL; rw [hR]
  have eN : shN (A 0 0) (A 0 1) (A 1) (A 4) b = if R.2.1 = 1 then nI (R.1.2.2.2.1 R.2.2.1 + 1) else if R.2.1 = 2 then -1005 else -1 := by
    unfold shN; rw [hR]; exact eN
  have neg : ∀ (j : Nat) (x : Int32), x = -1 ∨ x = -1005 → (j : Int) < x.toInt → False := by
    rintro j x (rfl | rfl) h
    · have e : (-1 : Int32).toInt = -1 := rfl
      omega
    · have e : (-1005 : Int32).toInt = -1005 := rfl
      omega
  unfold shR at hR
  refine wp_loop (P := fun a g' => ∃ s σ, s ≤ 2000 ∧ a = (nI b, nI s) ∧ KB g0 g' ∧ WB (A 0 0) (A 0 1) (A 1) σ s ∧ BM σ g' ∧ bout (A 0 0) (A 0 1) (A 1) (A 4) (sgt b) (2001 - s) s σ = R) (μ := fun a _ => 2001 - a.2.toNatClampNeg) ?_ zN _ _ ⟨0, _, by omega, rfl, hK0, WB_0 Vd_all, hB0, hR⟩ (by show 2001 - _ < zN; rw [p_zN]; omega)
  rintro rc a g1 ⟨s, σ, hs, rfl, e1, e2, e3, e4⟩ ih
  have hN2 := e2.1.2
  obtain ⟨t, ht⟩ : ∃ t, 2001 - s = t + 1 := ⟨2000 - s, by omega⟩
  have ht' : 2001 - (s + 1) = t := by omega
  rw [ht, bout] at e4
  simp only [fX11_look_B40]
  rw [e3.1]
  try simp (disch := omega) only [p_g, p_b, p_s, p_gin, p_gblt, p_eqL, p_leL, p_Lle, p_ltL, p_Llt, p_addL, p_subL, p_mulL, p_LmulL, p_eq, p_le, p_lt, p_add, p_sub, p_mul, p_clamp, if_pos, if_neg]
  have none : ¬ (s < σ.2.2.2.2 ∧ σ.2.2.2.1 s < 12) → wp (some ((-1 : Int32), g1)) (MA A b g0) := by
    intro q
    rw [if_neg q] at e4
    subst e4
    refine wp_some ⟨e1, ?_, fun j hj => (neg j _ (Or.inl rfl) hj).elim⟩
    rw [eN, if_neg (by show ¬ 0 = 1; omega), if_neg (by show ¬ 0 = 2; omega)]
  by_cases c1 : σ.2.2.2.2 ≤ s
  · rw [if_pos c1]
    exact none (fun q => by omega)
  · have hsN : s < σ.2.2.2.2 := by omega
    have h12 := (e2.2.1 s hsN).2.1
    rw [if_neg c1, (e3.2 s hsN).2.1]
    try simp (disch := omega) only [p_g, p_b, p_s, p_gin, p_gblt, p_eqL, p_leL, p_Lle, p_ltL, p_Llt, p_addL, p_subL, p_mulL, p_LmulL, p_eq, p_le, p_lt, p_add, p_sub, p_mul, p_clamp, if_pos, if_neg]
    by_cases c2 : 12 ≤ σ.2.2.2.1 s
    · rw [if_pos c2]
      exact none (fun q => by omega)
    · rw [if_neg c2]
      rw [if_pos ⟨hsN, by omega⟩] at e4
      refine m_lin hA hM hb e2 hsN (by omega) rfl e1 e3 ?_ ?_ ?_
      · intro q1 g2 k1 kW k2 k3 k4 k5 k6
        rw [if_neg (by omega)] at e4
        subst e4
        unfold fX11_look_J130
        apply wp_b
        refine wp_mono (m_lay kW hk8 k2 k5 k4) ?_
        rintro ⟨u, g3⟩ ⟨d1, d2, d3⟩
        simp only [] at d1 d2 d3 ⊢
        rw [d2]
        refine wp_some ⟨k1.tr d1, ?_, fun j hj => ?_⟩
        · rw [eN, if_pos q1, k3]
        · rw [p_toInt (by omega)] at hj
          refine ⟨by omega, ?_⟩
          rw [d3 j (by omega), eL, k3]
      · intro q1 g2 k1
        rw [if_neg (by omega)] at e4
        subst e4
        refine ⟨k1, ?_, fun j hj => (neg j _ (Or.inr rfl) hj).elim⟩
        rw [eN, if_neg (by omega), if_pos q1]
      · intro q1 g2 k1 kW k2 k5
        rw [if_pos q1] at e4
        try simp (disch := omega) only [p_g, p_b, p_s, p_gin, p_gblt, p_eqL, p_leL, p_Lle, p_ltL, p_Llt, p_addL, p_subL, p_mulL, p_LmulL, p_eq, p_le, p_lt, p_add, p_sub, p_mul, p_clamp, if_pos, if_neg]
        have := kW.1.2
        refine ih _ _ ⟨s + 1, _, by omega, rfl, k1, WB_next kW k5, k2, by rw [ht']; exact e4⟩ ?_
        show _ - (nI (_ + 1)).toNatClampNeg < _ - (nI _).toNatClampNeg
        rw [p_clamp (by omega), p_clamp (by omega)]
        omega
theorem m_look {A : aS} (hA : I_ok A) {g : z_S} (hM : R_M A g) {b : Nat} (hb : b ≤ 1) : wp (fX11_look (nI b) g) (MA A b g) := by
  unfold fX11_look
  apply wp_b
  refine wp_mono (m_bgs (b := 1) hA hM (by omega)) ?_
  rintro ⟨u, g1⟩ ⟨b1, b2⟩
  simp only [] at b1 b2 ⊢
  rw [if_pos trivial] at b2
  rw [p_s]
  have k1 : KB g (z_wi g1 0 38 0) := b1.tr ⟨fun o z1 z2 => by rw [p_off (by omega)], fun k hk => by rw [p_on (by omega)]⟩
  have k2 : BM (b0 (pAll (A 0 1) (A 1))) (z_wi g1 0 38 0) := ⟨by rw [p_on (by decide)]; exact b2.1, fun t ht => by rw [p_off (by decide), p_off (by decide), p_off (by decide)]; exact b2.2 t ht⟩
  generalize z_wi g1 0 38 0 = g2 at *
  have h00 := (k2.2 0 (by show 0 < 1; omega)).1
  have iE := NR_inj (LO_A hA) Vd_all Vd_end h00 NR_end
  rcases (show b = 0 ∨ b = 1 by omega) with rfl | rfl
  · rw [if_pos nI00]
    exact m_lout hA hM hb (fun q => by omega) k1 k2
  · rw [if_neg nI10]
    have hgo : ¬ (pAll (A 0 1) (A 1) = pEnd) → wp (z_loop (fX11_look_B40 (fun (v2 : Int32) (v3 : Int32) (g : z_S) => fX11_look_J130 v2 v3 g) (fun (v2 : Int32) (v3 : Int32) (g : z_S) => fX11_look_J130 v2 v3 g)) zN (nI 1, 0) g2) (MA A 1 g) := fun q => m_lout hA hM hb (fun z => q z.2) k1 k2
    have e0 : (0 : Int32).toNatClampNeg = 0 := rfl
    have ei : z_in 0 2001 = true := rfl
    rw [e0, ei, p_g, p_g]
    by_cases z1 : g2.2 21 0 = 1
    · rw [if_pos z1]
      by_cases z2 : g2.2 22 0 = 0
      · rw [if_pos z2]
        have hz := iE.mp ⟨z1, z2⟩
        refine wp_some ⟨k1, ?_, fun j hj => ?_⟩
        · unfold shN; rw [cit_t ⟨rfl, hz⟩]
        · have e : (0 : Int32).toInt = 0 := rfl
          simp only [] at hj
          omega
      · rw [if_neg z2]; exact hgo (fun q => z2 (iE.mpr q).2)
    · rw [if_neg z1]; exact hgo (fun q => z1 (iE.mpr q).1)
/-- the answers -/
noncomputable def shA (k n : Nat) (L S : Nat → Nat) (b : Nat) (v : Int32) : Int32 := if n = 0 then -1003 else if shN k n L S b < 0 ∨ v = -1 then shN k n L S b else if 0 ≤ v.toInt ∧ v.toInt < (shN k n L S b).toInt then nI (shL k n L S b v.toNatClampNeg) else -1
theorem m_short {A : aS} (hA : I_ok A) {g : z_S} (hM : R_M A g) {b : Nat} (hb : b ≤ 1) (v : Int32) : wp (fX11_shortest (nI b) v g) (fun q => KB g q.2 ∧ q.1 = shA (A 0 0) (A 0 1) (A 1) (A 4) b v) := by
  have hn := hA.1.2.2.1
  unfold fX11_shortest shA
  rw [hM.1.2.1]
  try simp (disch := omega) only [p_g, p_b, p_s, p_gin, p_gblt, p_eqL, p_leL, p_Lle, p_ltL, p_Llt, p_addL, p_subL, p_mulL, p_LmulL, p_eq, p_le, p_lt, p_add, p_sub, p_mul, p_clamp, if_pos, if_neg]
  by_cases c : A 0 1 = 0
  · rw [if_pos c, if_pos c]
    exact wp_some ⟨KB.rf, rfl⟩
  · rw [if_neg c, if_neg c]
    apply wp_b
    refine wp_mono (m_look hA hM hb) ?_
    rintro ⟨r, g1⟩ ⟨b1, b2, b3⟩
    simp only [] at b1 b2 b3 ⊢
    rw [← b2]
    by_cases c1 : r < 0
    · rw [if_pos c1, if_pos (Or.inl c1)]
      exact wp_some ⟨b1, rfl⟩
    · rw [if_neg c1]
      by_cases c2 : v = -1
      · rw [if_pos c2, if_pos (Or.inr c2)]
        exact wp_some ⟨b1, rfl⟩
      · rw [if_neg c2, if_neg (fun q => q.elim c1 c2)]
        rw [Int32.lt_iff_toInt_lt, t_0] at c1
        have hr : (r - 1).toInt = r.toInt - 1 := by
          obtain ⟨m, hm, rfl⟩ := (p_cases r).resolve_left (by rw [Int32.lt_iff_toInt_lt, t_0]; exact c1)
          rw [p_pred hm, p_toInt hm]
        by_cases c3 : 0 ≤ v.toInt ∧ v.toInt < r.toInt
        · rw [if_pos c3, m_yes (b := 0) (c := (r - 1).toInt64) ⟨c3.1, by rw [p_64, hr]; omega⟩, p_b, if_neg n10]
          obtain ⟨m, hm, rfl⟩ := (p_cases v).resolve_left (by rw [Int32.lt_iff_toInt_lt, t_0]; omega)
          rw [p_toInt hm] at c3
          obtain ⟨k1, k2⟩ := b3 m c3.2
          try simp (disch := omega) only [p_g, p_b, p_s, p_gin, p_gblt, p_eqL, p_leL, p_Lle, p_ltL, p_Llt, p_addL, p_subL, p_mulL, p_LmulL, p_eq, p_le, p_lt, p_add, p_sub, p_mul, p_clamp, if_pos, if_neg]
          rw [k2]
          exact wp_some ⟨b1, rfl⟩
        · rw [if_neg c3, m_no (b := 0) (c := (r - 1).toInt64) (fun q => c3 ⟨q.1, by rw [p_64, hr] at q; omega⟩), p_b, if_pos rfl]
          exact wp_some ⟨b1, rfl⟩
theorem m_key {A : aS} (hA : I_ok A) {g : z_S} (hM : R_M A g) (v : Int32) : wp (fX11_key v g) (fun q => q.1 = shA (A 0 0) (A 0 1) (A 1) (A 4) 1 v ∧ R_M A q.2) := by
  unfold fX11_key
  apply wp_b
  refine wp_mono (m_short (b := 1) hA hM (by omega) v) ?_
  rintro ⟨r, g1⟩ ⟨b1, b2⟩
  exact wp_some ⟨b2, b1.M hM⟩
theorem m_strange {A : aS} (hA : I_ok A) {g : z_S} (hM : R_M A g) (v : Int32) : wp (fX11_strange v g) (fun q => q.1 = shA (A 0 0) (A 0 1) (A 1) (A 4) 0 v ∧ R_M A q.2) := by
  unfold fX11_strange
  apply wp_b
  refine wp_mono (m_short (b := 0) hA hM (by omega) v) ?_
  rintro ⟨r, g1⟩ ⟨b1, b2⟩
  exact wp_some ⟨b2, b1.M hM⟩

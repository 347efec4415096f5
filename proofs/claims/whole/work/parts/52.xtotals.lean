/-! the class's measure of a line; totals -/
theorem x_mfL {A : aS} (hA : I_ok A) {g : z_S} (hX : R_X A g) (hK : KM A g) {l x : Nat} (hl : l < A 0 3) (hx : x < A 8 l) (hT : ∀ y c, x < y → y ≤ A 8 l → c ≤ 4 → g.1 31 (5 * y + c) = nI (SL A l y c)) : wp (fX2_measureFrom (nI l) (nI x) g) (fun q => (∀ o, o ≠ 31 → o ≠ 32 → q.2.1 o = g.1 o) ∧ q.2.2 = g.2 ∧ ∀ y c, x ≤ y → y ≤ A 8 l → c ≤ 4 → q.2.1 31 (5 * y + c) = nI (SL A l y c)) := by
  have hn := hA.1.2.2.1
  have h3 : A 0 3 ≤ 4 := hA.1.2.2.2.2.1
  obtain ⟨l1, l2, l3⟩ := hA.2.2.2.2.2.1 l hl
  unfold fX2_measureFrom
  refine wp_loop (P := fun s g' => ∃ k, k ≤ 4 ∧ s = (nI l, nI x, nI k) ∧ (∀ o, o ≠ 32 → g'.1 o = g.1 o) ∧ g'.2 = g.2 ∧ ∀ j, j < k → g'.1 32 j = nI 1000000000) (μ := fun s _ => 4 - s.2.2.toNatClampNeg) ?_ zN _ _ ⟨0, by omega, rfl, fun _ _ => rfl, rfl, fun j h => by omega⟩ (by show 4 - _ < zN; rw [p_zN]; omega)
  rintro rc s g1 ⟨k, hk, rfl, e1, e2, e3⟩ ih
  have hX1 : R_X A g1 := R_X.ag hA hX (fun o ho => e1 o (by omega))
  simp only [fX2_measureFrom_B2]
  try simp (disch := omega) only [p_g, p_b, p_s, p_gin, p_gblt, p_eqL, p_leL, p_Lle, p_ltL, p_Llt, p_addL, p_subL, p_mulL, p_LmulL, p_eq, p_le, p_lt, p_add, p_sub, p_mul, p_clamp, if_pos, if_neg]
  by_cases hlk : 4 ≤ k
  · have : k = 4 := by omega
    subst this
    rw [if_pos hlk, show l * 24 + x = 24 * l + x by omega, e1 29 (by omega), hK l x hl hx]
    refine x_kinds hA hX1 hl hx e3 (fun y c a1 a2 a3 => by rw [e1 31 (by omega)]; exact hT y c a1 a2 a3) _ (fun g2 f1 f2 f3 => ?_)
    have hX2 : R_X A g2 := R_X.ag hA hX1 (fun o ho => f1 o (by omega))
    rw [hX2.2.2.2.2.2.2.2.2.2, if_pos rfl]
    refine wp_mono (x_ahead hA hX2 hl hx f3 (fun j v hj hv => ?_) (T := SL A l) (fun y c => SL_le hA hl) (fun y c a1 a2 a3 => by rw [f1 31 (by omega), e1 31 (by omega)]; exact hT y c a1 a2 a3)) ?_
    · obtain ⟨w, hw, hf⟩ := mO_in _ _ hv
      exact fK_le hA hl hw hf
    · rintro ⟨u, g3⟩ ⟨q1, q2, q3, q4⟩
      refine ⟨fun o h1 h2 => ((q1 o h1).trans (f1 o h2)).trans (e1 o h2), (q2.trans f2).trans e2, fun y c h1 h2 h3 => ?_⟩
      by_cases hyx : y = x
      · subst hyx
        rw [q4 c h3, kinds_words hA hx]
      · exact q3 y c (by omega) h2 h3
  · rw [if_neg hlk]
    refine ih _ _ ⟨k + 1, by omega, rfl, ?_, e2, ?_⟩ ?_
    · intro o ho
      rw [p_off ho]; exact e1 o ho
    · intro j hj
      by_cases hjk : j = k
      · subst hjk; rw [p_at]; rfl
      · rw [p_on hjk]; exact e3 j (by omega)
    · show _ - (nI (_ + 1)).toNatClampNeg < _ - (nI _).toNatClampNeg
      rw [p_clamp (by omega), p_clamp (by omega)]
      omega
/-- the class's sums of a line -/
def TX (A : aS) (l : Nat) (g g' : z_S) : Prop := (∀ o, o ≠ 31 → o ≠ 32 → g'.1 o = g.1 o) ∧ g'.2 = g.2 ∧ ∀ y c, y ≤ A 8 l → c ≤ 4 → g'.1 31 (5 * y + c) = nI (SL A l y c)
theorem KM.ag {A : aS} {g g' : z_S} (h : KM A g) (e : g'.1 29 = g.1 29) : KM A g' := fun l x h1 h2 => by rw [e]; exact h l x h1 h2
theorem x_mL {A : aS} (hA : I_ok A) {g : z_S} (hX : R_X A g) (hK : KM A g) {l : Nat} (hl : l < A 0 3) : wp (fX2_measure (nI l) g) (fun q => q.1 = nI (SL A l 0 4) ∧ TX A l g q.2) := by
  have h3 : A 0 3 ≤ 4 := hA.1.2.2.2.2.1
  obtain ⟨l1, l2, l3⟩ := hA.2.2.2.2.2.1 l hl
  unfold fX2_measure
  rw [(p_clamp (n := l) (by omega)), (hX.2.2.2.2.2.1 l hl).1]
  try simp (disch := omega) only [p_g, p_b, p_s, p_gin, p_gblt, p_eqL, p_leL, p_Lle, p_ltL, p_Llt, p_addL, p_subL, p_mulL, p_LmulL, p_eq, p_le, p_lt, p_add, p_sub, p_mul, p_clamp, if_pos, if_neg]
  refine wp_loop (P := fun s g' => ∃ c, c ≤ 5 ∧ s = (nI l, nI (A 8 l), nI c) ∧ (∀ o, o ≠ 31 → o ≠ 32 → g'.1 o = g.1 o) ∧ g'.2 = g.2 ∧ ∀ c', c' < c → g'.1 31 (5 * A 8 l + c') = nI (SL A l (A 8 l) c')) (μ := fun s _ => 5 - s.2.2.toNatClampNeg) ?_ zN _ _ ⟨0, by omega, rfl, fun _ _ _ => rfl, rfl, fun c h => by omega⟩ (by show 5 - _ < zN; rw [p_zN]; omega)
  rintro rc s g1 ⟨c, hc, rfl, e1, e2, e3⟩ ih
  simp only [fX2_measure_B12]
  try simp (disch := omega) only [p_g, p_b, p_s, p_gin, p_gblt, p_eqL, p_leL, p_Lle, p_ltL, p_Llt, p_addL, p_subL, p_mulL, p_LmulL, p_eq, p_le, p_lt, p_add, p_sub, p_mul, p_clamp, if_pos, if_neg]
  by_cases hlc : 5 ≤ c
  · have : c = 5 := by omega
    subst this
    rw [if_pos hlc]
    refine wp_loop (P := fun s g' => ∃ m, m ≤ A 8 l ∧ s = (nI l, if m = 0 then -1 else nI (m - 1)) ∧ (∀ o, o ≠ 31 → o ≠ 32 → g'.1 o = g.1 o) ∧ g'.2 = g.2 ∧ ∀ y c, m ≤ y → y ≤ A 8 l → c ≤ 4 → g'.1 31 (5 * y + c) = nI (SL A l y c)) (μ := fun s _ => if s.2 < 0 then 0 else s.2.toNatClampNeg + 1) ?_ zN _ _ ⟨A 8 l, Nat.le_refl _, by rw [if_neg (by omega)], e1, e2, fun y c h1 h2 h3 => by rw [show y = A 8 l by omega]; exact e3 c (by omega)⟩ (by
      show (if nI (A 8 l - 1) < 0 then 0 else (nI (A 8 l - 1)).toNatClampNeg + 1) < zN
      rw [if_neg (p_neg (by omega)), p_clamp (by omega), p_zN]; omega)
    rintro rc2 s g2 ⟨m, hm, rfl, f1, f2, f3⟩ ih2
    have hX2 : R_X A g2 := R_X.ag hA hX (fun o ho => f1 o (by omega) (by omega))
    have hK2 : KM A g2 := hK.ag (f1 29 (by omega) (by omega))
    simp only [fX2_measure_B38]
    by_cases hm0 : m = 0
    · subst hm0
      rw [if_pos rfl, if_pos (by decide), p_gi (show z_in 4 125 = true by decide), show (4 : Int32).toNatClampNeg = 4 from rfl, show g2.1 31 4 = nI (SL A l 0 4) from f3 0 4 (by omega) (by omega) (by omega)]
      exact wp_some ⟨rfl, f1, f2, fun y c h1 h2 => f3 y c (by omega) h1 h2⟩
    · obtain ⟨x, rfl⟩ : ∃ x, m = x + 1 := ⟨m - 1, by omega⟩
      rw [if_neg hm0, Nat.add_sub_cancel, if_neg (p_neg (by omega))]
      apply wp_b
      refine wp_mono (x_mfL hA hX2 hK2 hl (by omega) (fun y c a1 a2 a3 => f3 y c (by omega) a2 a3)) ?_
      rintro ⟨u, g3⟩ ⟨q1, q2, q3⟩
      simp only [] at q1 q2 q3 ⊢
      refine ih2 _ _ ⟨x, by omega, ?_, fun o a1 a2 => (q1 o a1 a2).trans (f1 o a1 a2), q2.trans f2, q3⟩ ?_
      · by_cases hx0 : x = 0
        · subst hx0; rfl
        · rw [if_neg hx0, p_m1 (by omega)]
      · show (if nI x + -1 < 0 then _ else _) < _
        rw [if_neg hm0, Nat.add_sub_cancel, if_neg (p_neg (by omega)), p_clamp (by omega)]
        by_cases hx0 : x = 0
        · subst hx0; rw [if_pos (by decide)]; omega
        · rw [p_m1 (by omega), if_neg (p_neg (by omega)), p_clamp (by omega)]; omega
  · rw [if_neg hlc]
    refine ih _ _ ⟨c + 1, by omega, rfl, ?_, e2, ?_⟩ ?_
    · intro o h1 h2
      rw [p_off h1]; exact e1 o h1 h2
    · intro c2 q1
      rw [show A 8 l * 5 + c = 5 * A 8 l + c by omega]
      by_cases hcc : c2 = c
      · subst hcc
        rw [p_at]
        unfold SL
        rw [SS_end (Nat.le_refl _)]; rfl
      · rw [p_on (by omega)]; exact e3 c2 (by omega)
    · show _ - (nI (_ + 1)).toNatClampNeg < _ - (nI _).toNatClampNeg
      rw [p_clamp (by omega), p_clamp (by omega)]
      omega
theorem o_totals : Op0 fX10_totals fX11_totals := by
  refine op_wp (fun A gx gm hA hX hM => ?_)
  have h3 : A 0 3 ≤ 4 := hA.1.2.2.2.2.1
  refine ⟨nI (sm (fun l => SL A l 0 4) (A 0 3)), A, hA, ?_, ?_⟩
  · unfold fX10_totals
    apply wp_b
    refine wp_mono (x_match hA hX) ?_
    rintro ⟨u, g1⟩ ⟨q1, q2, q3⟩
    simp only [] at q1 q2 q3 ⊢
    apply wp_b
    unfold fX2_sumOfLeast
    refine wp_loop (P := fun s g' => ∃ l, l ≤ A 0 3 ∧ s = (nI (sm (fun l => SL A l 0 4) l), nI l) ∧ (∀ o, o ≠ 29 → o ≠ 31 → o ≠ 32 → g'.1 o = gx.1 o) ∧ KM A g') (μ := fun s _ => A 0 3 - s.2.toNatClampNeg) ?_ zN _ _ ⟨0, by omega, rfl, fun o h1 _ _ => q1 o h1, q3⟩ (by show A 0 3 - _ < zN; rw [p_zN]; omega)
    rintro rc s g2 ⟨l, hl, rfl, e1, e2⟩ ih
    have hX2 : R_X A g2 := R_X.ag hA hX (fun o ho => e1 o (by omega) (by omega) (by omega))
    simp only [fX2_sumOfLeast_B4]
    rw [hX2.1.2.2.2.1]
    try simp (disch := omega) only [p_g, p_b, p_s, p_gin, p_gblt, p_eqL, p_leL, p_Lle, p_ltL, p_Llt, p_addL, p_subL, p_mulL, p_LmulL, p_eq, p_le, p_lt, p_add, p_sub, p_mul, p_clamp, if_pos, if_neg]
    by_cases hlt : A 0 3 ≤ l
    · have : l = A 0 3 := by omega
      subst this
      rw [if_pos hlt]
      exact wp_some (wp_some ⟨rfl, hX2, Cs.ag (fun o ho => e1 o (by omega) (by omega) (by omega))⟩)
    · rw [if_neg hlt]
      apply wp_b
      refine wp_mono (x_mL hA hX2 e2 (by omega)) ?_
      rintro ⟨r, g3⟩ ⟨a1, a2⟩
      simp only [] at a1 a2 ⊢
      subst a1
      rw [p_add]
      refine ih _ _ ⟨l + 1, by omega, rfl, fun o b1 b2 b3 => (a2.1 o b2 b3).trans (e1 o b1 b2 b3), e2.ag (a2.1 29 (by omega) (by omega))⟩ ?_
      show _ - (nI (_ + 1)).toNatClampNeg < _ - (nI _).toNatClampNeg
      rw [p_clamp (by omega), p_clamp (by omega)]
      omega
  · refine wp_mono (m_totals hA hM) ?_
    rintro ⟨r, g1⟩ ⟨a1, a2, a3⟩
    exact ⟨a1, R_M.ag hM (fun o ho => a2 o (by omega))⟩

/-! THE NEW WORD: the reference -/
def KF (W : Nat) (g g' : z_S) : Prop := (∀ o, 5 ≤ o → o ≤ 10 → g'.1 o = g.1 o) ∧ (∀ k, k ≤ 17 → g'.1 0 k = g.1 0 k) ∧ (∀ k, k < W → g'.1 2 k = g.1 2 k ∧ g'.1 3 k = g.1 3 k ∧ g'.1 4 k = g.1 4 k) ∧ ∀ k, k < 8 * W → g'.1 1 k = g.1 1 k
theorem KF.rf {W : Nat} {g : z_S} : KF W g g := ⟨fun _ _ _ => rfl, fun _ _ => rfl, fun _ _ => ⟨rfl, rfl, rfl⟩, fun _ _ => rfl⟩
theorem KF.tr {W : Nat} {g g' g'' : z_S} (h : KF W g g') (h' : KF W g' g'') : KF W g g'' := ⟨fun o a b => (h'.1 o a b).trans (h.1 o a b), fun k a => (h'.2.1 k a).trans (h.2.1 k a), fun k a => ⟨(h'.2.2.1 k a).1.trans (h.2.2.1 k a).1, (h'.2.2.1 k a).2.1.trans (h.2.2.1 k a).2.1, (h'.2.2.1 k a).2.2.trans (h.2.2.1 k a).2.2⟩, fun k a => (h'.2.2.2 k a).trans (h.2.2.2 k a)⟩
theorem KF.M {A : aS} (hA : I_ok A) {g g' : z_S} (h : KF (A 0 1) g g') (hM : R_M A g) : R_M A g' := by
  obtain ⟨h1, h2, h3, h4⟩ := h
  obtain ⟨⟨m1, m2, m3, m4, m5, m6⟩, mB, mC, mD, mE, mF, mG⟩ := hM
  refine ⟨⟨?_, ?_, ?_, ?_, ?_, ?_⟩, ?_, ?_, ?_, ?_, ?_, ?_⟩ <;> (try simp (disch := omega) only [h1, h2]) <;> (try assumption)
  intro w hw
  obtain ⟨k1, k2, k3⟩ := h3 w hw
  obtain ⟨q1, q2, q3, q4⟩ := mB w hw
  have := (hA.2.1 w hw).2.1
  refine ⟨k1.trans q1, k2.trans q2, k3.trans q3, fun i hi => ?_⟩
  rw [h4 _ (by omega)]; exact q4 i hi
/-- the row lies behind the words -/
def LW (W n : Nat) (r : Nat → Nat) (g : z_S) : Prop := g.1 2 W = nI n ∧ g.1 4 W = 0 ∧ ∀ j, j < n → g.1 1 (8 * W + j) = nI (r j)
theorem m_layW {A : aS} (hA : I_ok A) {g : z_S} (hM : R_M A g) (h16 : A 0 1 < 16) {l x n : Nat} (hl : l < A 0 3) (hx : x + n ≤ A 8 l) (hn : 2 ≤ n) (hn5 : n ≤ 5) : wp (fX11_layWord (nI l) (nI x) (nI n) g) (fun q => KF (A 0 1) g q.2 ∧ (∀ o, o ≠ 1 → o ≠ 2 → o ≠ 4 → q.2.1 o = g.1 o) ∧ LW (A 0 1) n (rwf A l x) q.2 ∧ q.1 = nI (ci (¬ agn A (A 0 1) n (rwf A l x)))) := by
  have h3 : A 0 3 ≤ 4 := hA.1.2.2.2.2.1
  have hk8 := hA.1.2.1
  obtain ⟨l1, l2, l3⟩ := hA.2.2.2.2.2.1 l hl
  unfold fX11_layWord
  rw [hM.1.2.1]
  try simp (disch := omega) only [p_g, p_b, p_s, p_gin, p_gblt, p_eqL, p_leL, p_Lle, p_ltL, p_Llt, p_addL, p_subL, p_mulL, p_LmulL, p_eq, p_le, p_lt, p_add, p_sub, p_mul, p_clamp, if_pos, if_neg]
  rw [p_off (by decide), hM.1.2.1]
  try simp (disch := omega) only [p_g, p_b, p_s, p_gin, p_gblt, p_eqL, p_leL, p_Lle, p_ltL, p_Llt, p_addL, p_subL, p_mulL, p_LmulL, p_eq, p_le, p_lt, p_add, p_sub, p_mul, p_clamp, if_pos, if_neg]
  refine wp_loop (P := fun a g' => ∃ i, i ≤ n ∧ a = (nI l, nI x, nI n, nI i) ∧ KF (A 0 1) g g' ∧ (∀ o, o ≠ 1 → o ≠ 2 → o ≠ 4 → g'.1 o = g.1 o) ∧ g'.1 2 (A 0 1) = nI n ∧ g'.1 4 (A 0 1) = 0 ∧ ∀ j, j < i → g'.1 1 (8 * A 0 1 + j) = nI (rwf A l x j)) (μ := fun a _ => n - a.2.2.2.toNatClampNeg) ?_ zN _ _ ⟨0, by omega, rfl, ⟨fun o z1 z2 => ?_, fun k hk => ?_, fun k hk => ⟨?_, ?_, ?_⟩, fun k hk => ?_⟩, fun o z1 z2 z3 => ?_, ?_, ?_, fun j h => by omega⟩ (by show n - _ < zN; rw [p_zN]; omega)
  · rintro rc a g1 ⟨i, hi, rfl, e1, e2, e3, e4, e5⟩ ih
    have hM1 := e1.M hA hM
    simp only [fX11_layWord_B23]
    rw [hM1.1.2.1]
    try simp (disch := omega) only [p_g, p_b, p_s, p_gin, p_gblt, p_eqL, p_leL, p_Lle, p_ltL, p_Llt, p_addL, p_subL, p_mulL, p_LmulL, p_eq, p_le, p_lt, p_add, p_sub, p_mul, p_clamp, if_pos, if_neg]
    by_cases c : n ≤ i
    · have : i = n := by omega
      subst this
      rw [if_pos c]
      have fin : ∀ b, wp (some (nI (ci b), g1)) (fun q => q.2 = g1 ∧ q.1 = nI (ci b)) := fun b => wp_some ⟨rfl, rfl⟩
      have gd : ∀ b : Nat, b ≤ 1 → ((nI b) &&& 1 == nI b) = true := by
        intro b hb
        rcases (show b = 0 ∨ b = 1 by omega) with rfl | rfl <;> decide
      refine wp_loop (P := fun a g' => ∃ v b, v ≤ A 0 1 ∧ a = (nI i, nI b, nI v) ∧ g' = g1 ∧ ((b = 1 ∧ ∀ u, u < v → ¬ (A 1 u = i ∧ ∀ j, j < i → A 4 (8 * u + j) = rwf A l x j)) ∨ (b = 0 ∧ agn A (A 0 1) i (rwf A l x)))) (μ := fun a _ => A 0 1 - a.2.2.toNatClampNeg) ?_ zN _ _ ⟨0, 1, by omega, rfl, rfl, Or.inl ⟨rfl, fun u h => by omega⟩⟩ (by show A 0 1 - _ < zN; rw [p_zN]; omega)
      rintro rc2 a g2 ⟨v, b, hv, rfl, rfl, e⟩ ih2
      simp only [fX11_layWord_B70]
      rw [hM1.1.2.1]
      try simp (disch := omega) only [p_g, p_b, p_s, p_gin, p_gblt, p_eqL, p_leL, p_Lle, p_ltL, p_Llt, p_addL, p_subL, p_mulL, p_LmulL, p_eq, p_le, p_lt, p_add, p_sub, p_mul, p_clamp, if_pos, if_neg]
      rcases e with ⟨rfl, e⟩ | ⟨rfl, e⟩
      · by_cases cv : A 0 1 ≤ v
        · rw [if_pos cv, gd 1 (by omega), p_g]
          refine wp_some ⟨e1, e2, ⟨e3, e4, e5⟩, ?_⟩
          rw [ci_t (fun ⟨u, q1, q2⟩ => e u (by omega) q2)]
        · have hv' : v < A 0 1 := by omega
          obtain ⟨v1, v2, -, -, v5⟩ := hA.2.1 v hv'
          rw [if_neg cv, if_neg (by decide), (hM1.2.1 v hv').1]
          try simp (disch := omega) only [p_g, p_b, p_s, p_gin, p_gblt, p_eqL, p_leL, p_Lle, p_ltL, p_Llt, p_addL, p_subL, p_mulL, p_LmulL, p_eq, p_le, p_lt, p_add, p_sub, p_mul, p_clamp, if_pos, if_neg]
          have hdec : A 0 1 - (nI (v + 1)).toNatClampNeg < A 0 1 - (nI v).toNatClampNeg := by
            rw [p_clamp (by omega), p_clamp (by omega)]
            omega
          have cmp : ∀ b0, (b0 = 1 ∧ A 1 v = i) ∨ (b0 = 0 ∧ ¬ A 1 v = i) → wp (z_loop (fX11_layWord_B105 (fun (v3 : Int32) (v5 : Int32) (v6 : Int32) (g : z_S) => if v6 = 0 then (rc2 (v3, 1, (v5 + 1)) g) else (rc2 (v3, 0, (v5 + 1)) g))) zN (nI i, nI v, nI b0, 0) g2) (fun q => KF (A 0 1) g q.2 ∧ (∀ o, o ≠ 1 → o ≠ 2 → o ≠ 4 → q.2.1 o = g.1 o) ∧ LW (A 0 1) i (rwf A l x) q.2 ∧ q.1 = nI (ci (¬ agn A (A 0 1) i (rwf A l x)))) := by
            intro b0 hb0
            have yes : (A 1 v = i ∧ ∀ j, j < i → A 4 (8 * v + j) = rwf A l x j) → wp (rc2 (nI i, 0, nI (v + 1)) g2) (fun q => KF (A 0 1) g q.2 ∧ (∀ o, o ≠ 1 → o ≠ 2 → o ≠ 4 → q.2.1 o = g.1 o) ∧ LW (A 0 1) i (rwf A l x) q.2 ∧ q.1 = nI (ci (¬ agn A (A 0 1) i (rwf A l x)))) := fun q => ih2 _ _ ⟨v + 1, 0, by omega, rfl, rfl, Or.inr ⟨rfl, v, hv', q⟩⟩ hdec
            have no : ¬ (A 1 v = i ∧ ∀ j, j < i → A 4 (8 * v + j) = rwf A l x j) → wp (rc2 (nI i, 1, nI (v + 1)) g2) (fun q => KF (A 0 1) g q.2 ∧ (∀ o, o ≠ 1 → o ≠ 2 → o ≠ 4 → q.2.1 o = g.1 o) ∧ LW (A 0 1) i (rwf A l x) q.2 ∧ q.1 = nI (ci (¬ agn A (A 0 1) i (rwf A l x)))) := fun q => ih2 _ _ ⟨v + 1, 1, by omega, rfl, rfl, Or.inl ⟨rfl, fun u hu => by
              by_cases z : u = v
              · subst z; exact q
              · exact e u (by omega)⟩⟩ hdec
            refine wp_loop (P := fun a g' => ∃ j b, j ≤ i ∧ a = (nI i, nI v, nI b, nI j) ∧ g' = g2 ∧ ((b = 1 ∧ A 1 v = i ∧ ∀ q, q < j → A 4 (8 * v + q) = rwf A l x q) ∨ (b = 0 ∧ ¬ (A 1 v = i ∧ ∀ j, j < i → A 4 (8 * v + j) = rwf A l x j)))) (μ := fun a _ => i - a.2.2.2.toNatClampNeg) ?_ zN _ _ ⟨0, b0, by omega, rfl, rfl, hb0.elim (fun q => Or.inl ⟨q.1, q.2, fun z h => by omega⟩) (fun q => Or.inr ⟨q.1, fun z => q.2 z.1⟩)⟩ (by show i - _ < zN; rw [p_zN]; omega)
            rintro rc3 a g3 ⟨j, b, hj, rfl, rfl, f⟩ ih3
            simp only [fX11_layWord_B105]
            rw [hM1.1.2.1]
            try simp (disch := omega) only [p_g, p_b, p_s, p_gin, p_gblt, p_eqL, p_leL, p_Lle, p_ltL, p_Llt, p_addL, p_subL, p_mulL, p_LmulL, p_eq, p_le, p_lt, p_add, p_sub, p_mul, p_clamp, if_pos, if_neg]
            rcases f with ⟨rfl, f1, f2⟩ | ⟨rfl, f1⟩
            · by_cases cj : i ≤ j
              · rw [if_pos cj, if_neg (by omega)]
                exact yes ⟨f1, fun q hq => f2 q (by omega)⟩
              · have h4 := v5 j (by omega)
                have h9 : rwf A l x j < A 0 0 := l3 (x + j) (by omega)
                rw [if_neg cj, if_neg (by omega), (hM1.2.1 v hv').2.2.2 j (by omega), e5 j (by omega)]
                try simp (disch := omega) only [p_g, p_b, p_s, p_gin, p_gblt, p_eqL, p_leL, p_Lle, p_ltL, p_Llt, p_addL, p_subL, p_mulL, p_LmulL, p_eq, p_le, p_lt, p_add, p_sub, p_mul, p_clamp, if_pos, if_neg]
                by_cases he : A 4 (8 * v + j) = rwf A l x j
                · rw [if_pos he]
                  refine ih3 _ _ ⟨j + 1, 1, by omega, rfl, rfl, Or.inl ⟨rfl, f1, fun q hq => ?_⟩⟩ ?_
                  · by_cases z : q = j
                    · subst z; exact he
                    · exact f2 q (by omega)
                  · show _ - (nI (_ + 1)).toNatClampNeg < _ - (nI _).toNatClampNeg
                    rw [p_clamp (by omega), p_clamp (by omega)]
                    omega
                · rw [if_neg he]
                  refine ih3 _ _ ⟨j + 1, 0, by omega, rfl, rfl, Or.inr ⟨rfl, fun h => he (h.2 j (by omega))⟩⟩ ?_
                  show _ - (nI (_ + 1)).toNatClampNeg < _ - (nI _).toNatClampNeg
                  rw [p_clamp (by omega), p_clamp (by omega)]
                  omega
            · rw [if_pos rfl, if_pos rfl]
              split
              · exact no f1
              · exact no f1
          by_cases cl : A 1 v = i
          · rw [if_pos cl]; exact cmp 1 (Or.inl ⟨rfl, cl⟩)
          · rw [if_neg cl]; exact cmp 0 (Or.inr ⟨rfl, cl⟩)
      · rw [if_pos rfl, gd 0 (by omega), p_g]
        have res : wp (some (nI 0, g2)) (fun q => KF (A 0 1) g q.2 ∧ (∀ o, o ≠ 1 → o ≠ 2 → o ≠ 4 → q.2.1 o = g.1 o) ∧ LW (A 0 1) i (rwf A l x) q.2 ∧ q.1 = nI (ci (¬ agn A (A 0 1) i (rwf A l x)))) := wp_some ⟨e1, e2, ⟨e3, e4, e5⟩, by rw [ci_f (fun q => q e)]⟩
        split
        · exact res
        · exact res
    · rw [if_neg c]
      try simp (disch := omega) only [p_g, p_b, p_s, p_gin, p_gblt, p_eqL, p_leL, p_Lle, p_ltL, p_Llt, p_addL, p_subL, p_mulL, p_LmulL, p_eq, p_le, p_lt, p_add, p_sub, p_mul, p_clamp, if_pos, if_neg]
      have hq := (hM1.2.2.2.2.2.1 l hl).2 (x + i) (by omega)
      rw [show 24 * l + x + i = 24 * l + (x + i) by omega, hq]
      refine ih _ _ ⟨i + 1, by omega, rfl, e1.tr ⟨fun o z1 z2 => by rw [p_off (by omega)], fun k hk => by rw [p_off (by decide)], fun k hk => ⟨by rw [p_off (by decide)], by rw [p_off (by decide)], by rw [p_off (by decide)]⟩, fun k hk => by rw [p_on (by omega)]⟩, fun o z1 z2 z3 => by rw [p_off z1]; exact e2 o z1 z2 z3, by rw [p_off (by decide)]; exact e3, by rw [p_off (by decide)]; exact e4, fun j hj => ?_⟩ ?_
      · by_cases z : j = i
        · subst z; rw [p_at]; rfl
        · rw [p_on (by omega)]; exact e5 j (by omega)
      · show _ - (nI (_ + 1)).toNatClampNeg < _ - (nI _).toNatClampNeg
        rw [p_clamp (by omega), p_clamp (by omega)]
        omega
  · rw [p_off (by omega), p_off (by omega)]
  · rw [p_off (by decide), p_off (by decide)]
  · rw [p_off (by decide), p_on (by omega)]
  · rw [p_off (by decide), p_off (by decide)]
  · rw [p_on (by omega), p_off (by decide)]
  · rw [p_off (by decide), p_off (by decide)]
  · rw [p_off z3, p_off z2]
  · rw [p_off (by decide), p_at]
  · rw [p_at]
theorem cdr_lt {n m : Nat} {r s : Nat → Nat} (hr : ∀ j, j < n → r j < 8) (hs : ∀ j, j < m → s j < 8) {i : Nat} (hi : i < 5) (he : ∀ j, j < i → dgi n r j = dgi m s j) (hl : dgi n r i < dgi m s i) : cdr n r < cdr m s := by
  have a0 := dgi_le hr 0
  have a1 := dgi_le hr 1
  have a2 := dgi_le hr 2
  have a3 := dgi_le hr 3
  have a4 := dgi_le hr 4
  have b0 := dgi_le hs 0
  have b1 := dgi_le hs 1
  have b2 := dgi_le hs 2
  have b3 := dgi_le hs 3
  have b4 := dgi_le hs 4
  unfold cdr
  rcases (show i = 0 ∨ i = 1 ∨ i = 2 ∨ i = 3 ∨ i = 4 by omega) with rfl | rfl | rfl | rfl | rfl
  · omega
  · have := he 0 (by omega); omega
  · have := he 0 (by omega); have := he 1 (by omega); omega
  · have := he 0 (by omega); have := he 1 (by omega); have := he 2 (by omega); omega
  · have := he 0 (by omega); have := he 1 (by omega); have := he 2 (by omega); have := he 3 (by omega); omega
theorem m_ahead {A : aS} {g : z_S} (h01 : g.1 0 1 = nI (A 0 1)) (h16 : A 0 1 < 16) {n m : Nat} {r s : Nat → Nat} (hr : ∀ j, j < n → r j < 8) (hs : ∀ j, j < m → s j < 8) (hn5 : n ≤ 5) (hm5 : m ≤ 5) (h1 : ∀ j, j < n → g.1 1 (8 * A 0 1 + j) = nI (r j)) (h50 : g.1 0 50 = nI m) (h36 : ∀ j, j < m → g.1 36 j = nI (s j)) : fX11_isAheadOfBest (nI n) g = some (nI (ci (cdr n r < cdr m s)), g) := by
  unfold fX11_isAheadOfBest
  refine p_loop (P := fun a g' => ∃ i, i ≤ n ∧ i ≤ m ∧ a = (nI n, nI i) ∧ g' = g ∧ ∀ j, j < i → r j = s j) (μ := fun a _ => n - a.2.toNatClampNeg) ?_ zN _ _ ⟨0, by omega, by omega, rfl, rfl, fun j h => by omega⟩ (by show n - _ < zN; rw [p_zN]; omega)
  rintro rc a g' ⟨i, hi, hi2, rfl, rfl, e⟩ ih
  have eqd : ∀ j, j < i → dgi n r j = dgi m s j := fun j hj => by unfold dgi; rw [if_pos (by omega), if_pos (by omega), e j hj]
  have fin : n ≤ i ∨ m ≤ i → (if g'.1 0 50 ≤ nI n then some ((0 : Int32), g') else some (1, g')) = some (nI (ci (cdr n r < cdr m s)), g') := by
    intro q
    rw [h50]
    try simp (disch := omega) only [p_g, p_b, p_s, p_gin, p_gblt, p_eqL, p_leL, p_Lle, p_ltL, p_Llt, p_addL, p_subL, p_mulL, p_LmulL, p_eq, p_le, p_lt, p_add, p_sub, p_mul, p_clamp, if_pos, if_neg]
    by_cases z : m ≤ n
    · rw [if_pos z, ci_f]
      · rfl
      · intro hlt
        by_cases z2 : m = n
        · subst z2
          have hall : cdr m r = cdr m s := by
            have : ∀ j, dgi m r j = dgi m s j := by
              intro j
              by_cases y : j < m
              · exact eqd j (by omega)
              · unfold dgi; rw [if_neg y, if_neg y]
            unfold cdr
            rw [this, this, this, this, this]
          omega
        · have him : i = m := by omega
          subst him
          have := cdr_lt (i := i) hs hr (by omega) (fun j hj => (eqd j hj).symm) (by unfold dgi; rw [if_neg (by omega), if_pos (by omega)]; omega)
          omega
    · rw [if_neg z, ci_t]
      · rfl
      · have hin : i = n := by omega
        subst hin
        exact cdr_lt (i := i) hr hs (by omega) eqd (by unfold dgi; rw [if_neg (by omega), if_pos (by omega)]; omega)
  simp only [fX11_isAheadOfBest_B2]
  rw [h01]
  by_cases c1 : n ≤ i
  · rw [if_pos (by rw [p_le (by omega) (by omega)]; exact c1)]; exact fin (Or.inl c1)
  · rw [if_neg (by rw [p_le (by omega) (by omega)]; exact c1)]
    by_cases c2 : m ≤ i
    · rw [if_pos (by rw [h50, p_le (by omega) (by omega)]; exact c2)]; exact fin (Or.inr c2)
    · rw [if_neg (by rw [h50, p_le (by omega) (by omega)]; exact c2)]
      try simp (disch := omega) only [p_g, p_b, p_s, p_gin, p_gblt, p_eqL, p_leL, p_Lle, p_ltL, p_Llt, p_addL, p_subL, p_mulL, p_LmulL, p_eq, p_le, p_lt, p_add, p_sub, p_mul, p_clamp, if_pos, if_neg]
      have b1 := hr i (by omega)
      have b2 := hs i (by omega)
      rw [h1 i (by omega), h36 i (by omega)]
      have hd : (nI (r i) - nI (s i)).toInt = (r i : Int) - s i := pk_sub_toInt (by omega) (by omega)
      by_cases c3 : r i = s i
      · rw [if_pos (by apply Int32.toInt_inj.mp; rw [hd, t_0]; omega)]
        refine ih _ _ ⟨i + 1, by omega, by omega, rfl, rfl, fun j hj => ?_⟩ ?_
        · by_cases z : j = i
          · subst z; exact c3
          · exact e j (by omega)
        · show _ - (nI (_ + 1)).toNatClampNeg < _ - (nI _).toNatClampNeg
          rw [p_clamp (by omega), p_clamp (by omega)]
          omega
      · rw [if_neg (fun q => by have := congrArg Int32.toInt q; rw [hd, t_0] at this; omega)]
        by_cases c4 : s i ≤ r i
        · rw [if_pos (by rw [Int32.le_iff_toInt_le, hd, t_0]; omega), ci_f]
          · rfl
          · have := cdr_lt (i := i) hs hr (by omega) (fun j hj => (eqd j hj).symm) (by unfold dgi; rw [if_pos (by omega), if_pos (by omega)]; omega)
            omega
        · rw [if_neg (by rw [Int32.le_iff_toInt_le, hd, t_0]; omega), ci_t]
          · rfl
          · exact cdr_lt (i := i) hr hs (by omega) eqd (by unfold dgi; rw [if_pos (by omega), if_pos (by omega)]; omega)

/-! rows that can be read -/
noncomputable def fdx (T : Nat → Stt) (y : Stt) : Nat → Nat
  | 0 => 0
  | k + 1 => cit (T k = y) k (fdx T y k)
def upL (f : Nat → Int64) (i : Nat) (v : Int64) : Nat → Int64 := fun j => if j = i then v else f j
def uq (T : Nat → Stt) (N : Nat) (y : Stt) : Nat → Stt := fun t => if t = N then y else T t
abbrev RS : Type := (Nat → Stt) × Nat × (Nat → Int64)
def snR (σ : RS) (y : Stt) : Prop := ∃ t, t < σ.2.1 ∧ σ.1 t = y
noncomputable def rin (n : Nat) (L S : Nat → Nat) (s : Nat) (cs : Int64) : Nat → Nat → RS → RS × Nat
  | 0, _, σ => (σ, 0)
  | f + 1, c, σ => cit (stp n L S (σ.1 s) c = pNon) (rin n L S s cs f (c + 1) σ) (cit (snR σ (stp n L S (σ.1 s) c)) (rin n L S s cs f (c + 1) (σ.1, σ.2.1, upL σ.2.2 (fdx σ.1 (stp n L S (σ.1 s) c) σ.2.1) (σ.2.2 (fdx σ.1 (stp n L S (σ.1 s) c) σ.2.1) + cs))) (if σ.2.1 = 2000 then (σ, 1) else rin n L S s cs f (c + 1) (uq σ.1 σ.2.1 (stp n L S (σ.1 s) c), σ.2.1 + 1, upL σ.2.2 σ.2.1 (0 + cs))))
noncomputable def rmid (k n : Nat) (L S : Nat → Nat) (cur : Nat → Int64) : Nat → Nat → RS → RS × Nat
  | 0, _, σ => (σ, 0)
  | f + 1, s, σ => if cur s ≤ 0 then rmid k n L S cur f (s + 1) σ else if (rin n L S s (cur s) k 0 σ).2 = 0 then rmid k n L S cur f (s + 1) (rin n L S s (cur s) k 0 σ).1 else rin n L S s (cur s) k 0 σ
noncomputable def rlev (k n : Nat) (L S : Nat → Nat) : Nat → RS → RS × Nat
  | 0, σ => (σ, 0)
  | f + 1, σ => if (rmid k n L S σ.2.2 σ.2.1 0 (σ.1, σ.2.1, fun _ => 0)).2 = 0 then rlev k n L S f (rmid k n L S σ.2.2 σ.2.1 0 (σ.1, σ.2.1, fun _ => 0)).1 else rmid k n L S σ.2.2 σ.2.1 0 (σ.1, σ.2.1, fun _ => 0)
noncomputable def rsm (T : Nat → Stt) (cur : Nat → Int64) : Nat → Int64
  | 0 => 0
  | t + 1 => cit (T t 0) (rsm T cur t + cur t) (rsm T cur t)
noncomputable def rwR (k n : Nat) (L S : Nat → Nat) (m : Nat) : RS × Nat := rlev k n L S m (fun _ => pEnd, 1, fun _ => 1)
noncomputable def rwA (k n : Nat) (L S : Nat → Nat) (m : Nat) : Int64 := if (rwR k n L S m).2 = 0 then (if rsm (rwR k n L S m).1.1 (rwR k n L S m).1.2.2 (rwR k n L S m).1.2.1 ≤ 1000000000000000 then rsm (rwR k n L S m).1.1 (rwR k n L S m).1.2.2 (rwR k n L S m).1.2.1 else -1005) else -1005
/-- states are well formed, unlike one another -/
def DI (n : Nat) (L : Nat → Nat) (σ : RS) : Prop := (1 ≤ σ.2.1 ∧ σ.2.1 ≤ 2000) ∧ (∀ t, t < σ.2.1 → Vd n L (σ.1 t)) ∧ ∀ t u, t < u → u < σ.2.1 → σ.1 t ≠ σ.1 u
theorem DI_uq {n : Nat} {L : Nat → Nat} {σ : RS} {y : Stt} {f : Nat → Int64} (h : DI n L σ) (hy : Vd n L y) (hs : ¬ snR σ y) (hN : σ.2.1 ≠ 2000) : DI n L (uq σ.1 σ.2.1 y, σ.2.1 + 1, f) := by
  obtain ⟨⟨h1, h2⟩, h3, h4⟩ := h
  refine ⟨⟨by show 1 ≤ σ.2.1 + 1; omega, by show σ.2.1 + 1 ≤ 2000; omega⟩, fun t ht => ?_, fun t u htu hu => ?_⟩
  · have ht : t < σ.2.1 + 1 := ht
    show Vd n L (if t = σ.2.1 then y else σ.1 t)
    split
    · exact hy
    · exact h3 t (by omega)
  · have hu : u < σ.2.1 + 1 := hu
    show (if t = σ.2.1 then y else σ.1 t) ≠ (if u = σ.2.1 then y else σ.1 u)
    rw [if_neg (by omega : ¬ t = σ.2.1)]
    by_cases e : u = σ.2.1
    · rw [if_pos e]; exact fun q => hs ⟨t, by omega, q⟩
    · rw [if_neg e]; exact h4 t u htu (by omega)
theorem fdx_eq {n : Nat} {L : Nat → Nat} {σ : RS} {y : Stt} {t : Nat} (h : DI n L σ) (ht : t < σ.2.1) (e : σ.1 t = y) : fdx σ.1 y σ.2.1 = t := by
  have : ∀ k, t < k → k ≤ σ.2.1 → fdx σ.1 y k = t := by
    intro k
    induction k with
    | zero => intro h; omega
    | succ k ih =>
      intro h1 h2
      rw [fdx]
      by_cases z : t = k
      · subst z; rw [cit_t e]
      · rw [cit_f (fun q => h.2.2 t k (by omega) (by omega) (e.trans q.symm))]
        exact ih (by omega) (by omega)
  exact this _ ht (Nat.le_refl _)
/-- the reference -/
def BW (σ : RS) (g : z_S) : Prop := g.1 0 34 = nI σ.2.1 ∧ ∀ t, t < σ.2.1 → NR (σ.1 t) (g.2 21 t) (g.2 22 t)
def CW (σ : RS) (g : z_S) : Prop := ∀ t, t ≤ 2000 → g.2 29 t = if t < σ.2.1 then σ.2.2 t else 0
theorem BW.fn {σ : RS} {g g' : z_S} (h : BW σ g) (hf : FN g g') : BW σ g' := by
  refine ⟨by rw [hf.1]; exact h.1, fun t ht => ?_⟩
  rw [hf.2 21 t (by omega), hf.2 22 t (by omega)]
  exact h.2 t ht
theorem m_fnd2 {n : Nat} {L : Nat → Nat} (hL : LO n L) {σ : RS} (hW : DI n L σ) {g : z_S} (hB : BW σ g) {y : Stt} (hy : Vd n L y) (hN : NR y (g.2 0 35) (g.2 0 36)) : wp (fX11_findState g) (fun q => q.2 = g ∧ ((q.1 = -1 ∧ ¬ snR σ y) ∨ ∃ t, t < σ.2.1 ∧ σ.1 t = y ∧ q.1 = nI t)) := by
  have hN2 := hW.1.2
  unfold fX11_findState
  refine wp_loop (P := fun a g' => ∃ t, t ≤ σ.2.1 ∧ a = nI t ∧ g' = g ∧ ∀ u, u < t → σ.1 u ≠ y) (μ := fun a _ => σ.2.1 - a.toNatClampNeg) ?_ zN _ _ ⟨0, by omega, rfl, rfl, fun u h => by omega⟩ (by rw [p_zN]; omega)
  rintro rc a g' ⟨t, ht, rfl, rfl, e⟩ ih
  simp only [fX11_findState_B2]
  rw [hB.1]
  try simp (disch := omega) only [p_g, p_b, p_s, p_gin, p_gblt, p_eqL, p_leL, p_Lle, p_ltL, p_Llt, p_addL, p_subL, p_mulL, p_LmulL, p_eq, p_le, p_lt, p_add, p_sub, p_mul, p_clamp, if_pos, if_neg]
  by_cases c : σ.2.1 ≤ t
  · rw [if_pos c]
    exact wp_some ⟨rfl, Or.inl ⟨rfl, fun ⟨u, q1, q2⟩ => e u (by omega) q2⟩⟩
  · rw [if_neg c]
    try simp (disch := omega) only [p_g, p_b, p_s, p_gin, p_gblt, p_eqL, p_leL, p_Lle, p_ltL, p_Llt, p_addL, p_subL, p_mulL, p_LmulL, p_eq, p_le, p_lt, p_add, p_sub, p_mul, p_clamp, if_pos, if_neg]
    have b1 := hB.2 t (by omega)
    have hi := NR_inj hL (hW.2.1 t (by omega)) hy b1 hN
    have next : σ.1 t ≠ y → wp (rc (nI (t + 1)) g') (fun q => q.2 = g' ∧ ((q.1 = -1 ∧ ¬ snR σ y) ∨ ∃ t, t < σ.2.1 ∧ σ.1 t = y ∧ q.1 = nI t)) := by
      intro hne
      refine ih _ _ ⟨t + 1, by omega, rfl, rfl, fun u hu => ?_⟩ ?_
      · by_cases z : u = t
        · subst z; exact hne
        · exact e u (by omega)
      · show _ - (nI (_ + 1)).toNatClampNeg < _ - (nI _).toNatClampNeg
        rw [p_clamp (by omega), p_clamp (by omega)]
        omega
    by_cases c1 : g'.2 21 t = g'.2 0 35
    · rw [if_pos c1]
      by_cases c2 : g'.2 22 t = g'.2 0 36
      · rw [if_pos c2]
        exact wp_some ⟨rfl, Or.inr ⟨t, by omega, hi.mp ⟨c1, c2⟩, rfl⟩⟩
      · rw [if_neg c2]
        exact next (fun q => c2 (hi.mpr q).2)
    · rw [if_neg c1]
      exact next (fun q => c1 (hi.mpr q).1)
theorem m_add2 {σ : RS} (hN2 : σ.2.1 < 2001) {g : z_S} (hB : BW σ g) {y : Stt} (hN : NR y (g.2 0 35) (g.2 0 36)) {f : Nat → Int64} {v1 v2 v3 : Int32} : wp (fX11_addState v1 v2 v3 g) (fun q => KB g q.2 ∧ BW (uq σ.1 σ.2.1 y, σ.2.1 + 1, f) q.2 ∧ (∀ o, o ≠ 21 → o ≠ 22 → q.2.2 o = g.2 o)) := by
  unfold fX11_addState
  simp (disch := omega) only [p_off, p_on, p_wi2, p_wl1, hB.1, p_g, p_b, p_s, p_gin, p_gblt, p_eqL, p_leL, p_Lle, p_ltL, p_Llt, p_addL, p_subL, p_mulL, p_LmulL, p_eq, p_le, p_lt, p_add, p_sub, p_mul, p_clamp, if_pos, if_neg]
  simp (disch := omega) only [p_off, p_on, p_wi2, p_wl1, p_Loff, hB.1, p_g, p_b, p_s, p_gin, p_gblt, p_eqL, p_leL, p_Lle, p_ltL, p_Llt, p_addL, p_subL, p_mulL, p_LmulL, p_eq, p_le, p_lt, p_add, p_sub, p_mul, p_clamp, if_pos, if_neg]
  obtain ⟨T, N, C⟩ := σ
  obtain ⟨h1, h2⟩ := hB
  simp only [] at h1 h2 hN2 ⊢
  refine wp_some ⟨⟨fun o z1 z2 => ?_, fun k hk => ?_⟩, ⟨?_, fun t ht => ?_⟩, fun o z1 z2 => ?_⟩
  · simp (disch := omega) only [p_off, p_wl1]
  · simp (disch := omega) only [p_off, p_on, p_wl1]
  · rw [p_at]
  · have ht : t < N + 1 := ht
    show NR (if t = N then y else T t) _ _
    by_cases e : t = N
    · subst e
      simp (disch := omega) only [if_true, p_wi2, p_Loff, p_Lat]
      exact hN
    · simp (disch := omega) only [if_neg, p_wi2, p_Loff, p_Lon]
      exact h2 t (by omega)
  · simp (disch := omega) only [p_wi2, p_Loff]
theorem m_rin {A : aS} (hA : I_ok A) {g0 : z_S} (hM : R_M A g0) {s : Nat} {cs : Int64} (hcs : ¬ cs ≤ 0) {σ0 : RS} (hD0 : DI (A 0 1) (A 1) σ0) (hs0 : s < σ0.2.1) {R : RS × Nat} (hR : rin (A 0 1) (A 1) (A 4) s cs (A 0 0) 0 σ0 = R) {v1 v2 v3 : Int32} {Q : Int64 × z_S → Prop} {k221 : Int32 → Int32 → Int32 → Int32 → z_S → Option (Int64 × z_S)} {cur : Nat → Int64} {g : z_S} (hK0 : KB g0 g) (hB0 : BW σ0 g) (hC0 : CW σ0 g) (h28 : g.2 28 = cur) (hcs2 : cur s = cs)
    (hL : R.2 ≠ 0 → ∀ g', KB g0 g' → Q (-1005, g')) (hC : R.2 = 0 → ∀ g', KB g0 g' → DI (A 0 1) (A 1) R.1 → BW R.1 g' → CW R.1 g' → g'.2 28 = cur → σ0.2.1 ≤ R.1.2.1 → wp (k221 v1 v2 v3 (nI s) g') Q) : wp (z_loop (fX11_rows_B104 k221) zN (v1, v2, v3, nI s, 0) g) Q := by
  have hk8 := hA.1.2.1
  refine wp_loop (P := fun a g' => ∃ c σ, c ≤ A 0 0 ∧ a = (v1, v2, v3, nI s, nI c) ∧ KB g0 g' ∧ DI (A 0 1) (A 1) σ ∧ s < σ.2.1 ∧ BW σ g' ∧ CW σ g' ∧ g'.2 28 = cur ∧ σ0.2.1 ≤ σ.2.1 ∧ rin (A 0 1) (A 1) (A 4) s cs (A 0 0 - c) c σ = R) (μ := fun a _ => A 0 0 - a.2.2.2.2.toNatClampNeg) ?_ zN _ _ ⟨0, σ0, by omega, rfl, hK0, hD0, hs0, hB0, hC0, h28, Nat.le_refl _, hR⟩ (by show A 0 0 - _ < zN; rw [p_zN]; omega)
  rintro rc a g1 ⟨c, σ, hc, rfl, e1, e2, e3, e4, e5, e6, e8, e7⟩ ih
  have hM1 := e1.M hM
  have hN2 := e2.1.2
  simp only [fX11_rows_B104]
  rw [hM1.1.1]
  try simp (disch := omega) only [p_g, p_b, p_s, p_gin, p_gblt, p_eqL, p_leL, p_Lle, p_ltL, p_Llt, p_addL, p_subL, p_mulL, p_LmulL, p_eq, p_le, p_lt, p_add, p_sub, p_mul, p_clamp, if_pos, if_neg]
  by_cases c1 : A 0 0 ≤ c
  · rw [if_pos c1]
    rw [show A 0 0 - c = 0 by omega, rin] at e7
    subst e7
    exact hC rfl g1 e1 e2 e4 e5 e6 e8
  · rw [if_neg c1, e6, hcs2, if_neg hcs]
    obtain ⟨t, ht⟩ : ∃ t, A 0 0 - c = t + 1 := ⟨A 0 0 - c - 1, by omega⟩
    have ht' : A 0 0 - (c + 1) = t := by omega
    rw [ht, rin] at e7
    apply wp_b
    refine wp_mono (m_goOn hA hM1 (by omega) (by omega : c < 8) (e4.2 s e3)) ?_
    rintro ⟨u, g2⟩ ⟨d1, d2⟩
    simp only [] at d1 d2 ⊢
    have hdec : A 0 0 - (nI (c + 1)).toNatClampNeg < A 0 0 - (nI c).toNatClampNeg := by
      rw [p_clamp (by omega), p_clamp (by omega)]
      omega
    have hy : Vd (A 0 1) (A 1) (stp (A 0 1) (A 1) (A 4) (σ.1 s) c) := Vd_stp
    generalize stp (A 0 1) (A 1) (A 4) (σ.1 s) c = y at *
    have iN := NR_inj (LO_A hA) hy Vd_non d2 NR_non
    have k1 := e1.tr (KB.of d1.1)
    have k4 := e4.fn d1
    have k5 : CW σ g2 := fun t ht => by rw [d1.2 29 t (by omega)]; exact e5 t ht
    have k6 : g2.2 28 = cur := by rw [← e6]; funext j; exact d1.2 28 j (by omega)
    by_cases cN : y = pNon
    · obtain ⟨z1, z2⟩ := iN.mpr cN
      rw [cit_t cN] at e7
      rw [if_pos z1, if_pos z2]
      exact ih _ _ ⟨c + 1, σ, by omega, rfl, k1, e2, e3, k4, k5, k6, e8, by rw [ht']; exact e7⟩ hdec
    · rw [cit_f cN] at e7
      have tail : wp (fX11_rows_J151 rc v1 v2 v3 (nI s) (nI c) g2) Q := by
        unfold fX11_rows_J151
        apply wp_b
        refine wp_mono (m_fnd2 (LO_A hA) e2 k4 hy d2) ?_
        rintro ⟨r, g3⟩ ⟨z0, zz⟩
        simp only [] at z0 zz ⊢
        subst z0
        rcases zz with ⟨q1, q2⟩ | ⟨t', q1, q2, q3⟩
        · subst q1
          rw [cit_f q2] at e7
          rw [if_neg (by decide), k4.1]
          try simp (disch := omega) only [p_g, p_b, p_s, p_gin, p_gblt, p_eqL, p_leL, p_Lle, p_ltL, p_Llt, p_addL, p_subL, p_mulL, p_LmulL, p_eq, p_le, p_lt, p_add, p_sub, p_mul, p_clamp, if_pos, if_neg]
          by_cases c0 : σ.2.1 = 2000
          · rw [if_pos c0] at e7
            subst e7
            rw [if_pos c0]
            exact wp_some (hL (by show ¬ 1 = 0; omega) g3 k1)
          · rw [if_neg c0] at e7
            rw [if_neg c0]
            apply wp_b
            refine wp_mono (m_add2 (f := upL σ.2.2 σ.2.1 (0 + cs)) (by omega) k4 d2) ?_
            rintro ⟨w, g4⟩ ⟨b1, b2, b3⟩
            simp only [] at b1 b2 b3 ⊢
            unfold fX11_rows_J193
            try simp (disch := omega) only [p_g, p_b, p_s, p_gin, p_gblt, p_eqL, p_leL, p_Lle, p_ltL, p_Llt, p_addL, p_subL, p_mulL, p_LmulL, p_eq, p_le, p_lt, p_add, p_sub, p_mul, p_clamp, if_pos, if_neg]
            rw [b3 28 (by omega) (by omega), b3 29 (by omega) (by omega), k6, hcs2, k5 σ.2.1 (by omega), if_neg (by omega)]
            refine ih _ _ ⟨c + 1, _, by omega, rfl, k1.tr b1, DI_uq e2 hy q2 c0, by show s < σ.2.1 + 1; omega, ⟨b2.1, fun t ht => ?_⟩, fun t ht => ?_, ?_, by show σ0.2.1 ≤ σ.2.1 + 1; omega, by rw [ht']; exact e7⟩ hdec
            · rw [p_Loff (by decide), p_Loff (by decide)]; exact b2.2 t ht
            · show _ = if t < σ.2.1 + 1 then (if t = σ.2.1 then 0 + cs else σ.2.2 t) else 0
              by_cases z : t = σ.2.1
              · subst z; rw [p_Lat, if_pos (by omega), if_pos rfl]
              · rw [p_Lon z, b3 29 (by omega) (by omega), k5 t ht]
                by_cases y1 : t < σ.2.1
                · rw [if_pos y1, if_pos (by omega), if_neg z]
                · rw [if_neg y1, if_neg (by omega)]
            · rw [p_Loff (by decide), b3 28 (by omega) (by omega)]; exact k6
        · subst q3
          rw [cit_t ⟨t', q1, q2⟩, fdx_eq e2 q1 q2] at e7
          rw [if_pos (p_pos (by omega))]
          unfold fX11_rows_J193
          try simp (disch := omega) only [p_g, p_b, p_s, p_gin, p_gblt, p_eqL, p_leL, p_Lle, p_ltL, p_Llt, p_addL, p_subL, p_mulL, p_LmulL, p_eq, p_le, p_lt, p_add, p_sub, p_mul, p_clamp, if_pos, if_neg]
          rw [k6, hcs2, k5 t' (by omega), if_pos q1]
          refine ih _ _ ⟨c + 1, (σ.1, σ.2.1, upL σ.2.2 t' (σ.2.2 t' + cs)), by omega, rfl, k1, e2, e3, ⟨k4.1, fun t ht => ?_⟩, fun t ht => ?_, ?_, e8, by rw [ht']; exact e7⟩ hdec
          · rw [p_Loff (by decide), p_Loff (by decide)]; exact k4.2 t ht
          · show _ = if t < σ.2.1 then (if t = t' then σ.2.2 t' + cs else σ.2.2 t) else 0
            by_cases z : t = t'
            · subst z; rw [p_Lat, if_pos q1, if_pos rfl]
            · rw [p_Lon z, k5 t ht]
              by_cases y1 : t < σ.2.1
              · rw [if_pos y1, if_pos y1, if_neg z]
              · rw [if_neg y1, if_neg y1]
          · rw [p_Loff (by decide)]; exact k6
      by_cases z1 : g2.2 0 35 = 0
      · rw [if_pos z1]
        by_cases z2 : g2.2 0 36 = 0
        · exact absurd (iN.mp ⟨z1, z2⟩) cN
        · rw [if_neg z2]; exact tail
      · rw [if_neg z1]; exact tail
theorem m_rmid {A : aS} (hA : I_ok A) {g0 : z_S} (hM : R_M A g0) {cur : Nat → Int64} {had : Nat} {σ0 : RS} (hD0 : DI (A 0 1) (A 1) σ0) (hh : had ≤ σ0.2.1) {R : RS × Nat} (hR : rmid (A 0 0) (A 0 1) (A 1) (A 4) cur had 0 σ0 = R) {v1 v2 : Int32} {Q : Int64 × z_S → Prop} {k227 : Int32 → Int32 → z_S → Option (Int64 × z_S)} {g : z_S} (hK0 : KB g0 g) (hB0 : BW σ0 g) (hC0 : CW σ0 g) (h28 : g.2 28 = cur)
    (hL : R.2 ≠ 0 → ∀ g', KB g0 g' → Q (-1005, g')) (hC : R.2 = 0 → ∀ g', KB g0 g' → DI (A 0 1) (A 1) R.1 → BW R.1 g' → CW R.1 g' → wp (k227 v1 v2 g') Q) : wp (z_loop (fX11_rows_B95 k227) zN (v1, v2, nI had, 0) g) Q := by
  have hh2 : had ≤ 2000 := by have := hD0.1.2; omega
  refine wp_loop (P := fun a g' => ∃ s σ, s ≤ had ∧ a = (v1, v2, nI had, nI s) ∧ KB g0 g' ∧ DI (A 0 1) (A 1) σ ∧ had ≤ σ.2.1 ∧ BW σ g' ∧ CW σ g' ∧ g'.2 28 = cur ∧ rmid (A 0 0) (A 0 1) (A 1) (A 4) cur (had - s) s σ = R) (μ := fun a _ => had - a.2.2.2.toNatClampNeg) ?_ zN _ _ ⟨0, σ0, by omega, rfl, hK0, hD0, hh, hB0, hC0, h28, hR⟩ (by rw [p_zN]; show had - _ < _; omega)
  rintro rc a g1 ⟨s, σ, hs, rfl, e1, e2, e3, e4, e5, e6, e7⟩ ih
  simp only [fX11_rows_B95]
  try simp (disch := omega) only [p_g, p_b, p_s, p_gin, p_gblt, p_eqL, p_leL, p_Lle, p_ltL, p_Llt, p_addL, p_subL, p_mulL, p_LmulL, p_eq, p_le, p_lt, p_add, p_sub, p_mul, p_clamp, if_pos, if_neg]
  by_cases c : had ≤ s
  · rw [if_pos c]
    rw [show had - s = 0 by omega, rmid] at e7
    subst e7
    exact hC rfl g1 e1 e2 e4 e5
  · rw [if_neg c]
    obtain ⟨t, ht⟩ : ∃ t, had - s = t + 1 := ⟨had - s - 1, by omega⟩
    have ht' : had - (s + 1) = t := by omega
    rw [ht, rmid] at e7
    have hdec : had - (nI (s + 1)).toNatClampNeg < had - (nI s).toNatClampNeg := by
      rw [p_clamp (by omega), p_clamp (by omega)]
      omega
    by_cases c2 : cur s ≤ 0
    · rw [if_pos c2] at e7
      have hk := (hA.1.1)
      have hk8 := hA.1.2.1
      rw [p_loop1]
      simp only [fX11_rows_B104]
      rw [(e1.M hM).1.1, if_neg (by rw [p_leL (by omega) (by omega)]; omega)]
      try simp (disch := omega) only [p_g, p_b, p_s, p_gin, p_gblt, p_eqL, p_leL, p_Lle, p_ltL, p_Llt, p_addL, p_subL, p_mulL, p_LmulL, p_eq, p_le, p_lt, p_add, p_sub, p_mul, p_clamp, if_pos, if_neg]
      rw [e6, if_pos c2]
      exact ih _ _ ⟨s + 1, σ, by omega, rfl, e1, e2, e3, e4, e5, e6, by rw [ht']; exact e7⟩ hdec
    · rw [if_neg c2] at e7
      refine m_rin hA hM c2 e2 (by omega) rfl e1 e4 e5 e6 rfl ?_ ?_
      · intro q1 g2 k1
        rw [if_neg q1] at e7
        subst e7
        exact hL q1 g2 k1
      · intro q1 g2 k1 k2 k3 k4 k5 k6
        rw [if_pos q1] at e7
        try simp (disch := omega) only [p_g, p_b, p_s, p_gin, p_gblt, p_eqL, p_leL, p_Lle, p_ltL, p_Llt, p_addL, p_subL, p_mulL, p_LmulL, p_eq, p_le, p_lt, p_add, p_sub, p_mul, p_clamp, if_pos, if_neg]
        exact ih _ _ ⟨s + 1, _, by omega, rfl, k1, k2, by omega, k3, k4, k5, by rw [ht']; exact e7⟩ hdec
theorem m_rsum {A : aS} (hA : I_ok A) {σ : RS} (hD : DI (A 0 1) (A 1) σ) {g : z_S} (hB : BW σ g) (h28 : ∀ t, t < σ.2.1 → g.2 28 t = σ.2.2 t) {Q : Int64 × z_S → Prop} {k : Int64 → z_S → Option (Int64 × z_S)} (hk : wp (k (rsm σ.1 σ.2.2 σ.2.1) g) Q) : wp (z_loop (fX11_rows_B269 k) zN (0, 0) g) Q := by
  have hN2 := hD.1.2
  refine wp_loop (P := fun a g' => ∃ t, t ≤ σ.2.1 ∧ a = (rsm σ.1 σ.2.2 t, nI t) ∧ g' = g) (μ := fun a _ => σ.2.1 - a.2.toNatClampNeg) ?_ zN _ _ ⟨0, by omega, rfl, rfl⟩ (by rw [p_zN]; show σ.2.1 - _ < _; omega)
  rintro rc a g1 ⟨t, ht, rfl, rfl⟩ ih
  simp only [fX11_rows_B269]
  rw [hB.1]
  try simp (disch := omega) only [p_g, p_b, p_s, p_gin, p_gblt, p_eqL, p_leL, p_Lle, p_ltL, p_Llt, p_addL, p_subL, p_mulL, p_LmulL, p_eq, p_le, p_lt, p_add, p_sub, p_mul, p_clamp, if_pos, if_neg]
  by_cases c : σ.2.1 ≤ t
  · have : t = σ.2.1 := by omega
    subst this
    rw [if_pos c]
    exact hk
  · rw [if_neg c]
    try simp (disch := omega) only [p_g, p_b, p_s, p_gin, p_gblt, p_eqL, p_leL, p_Lle, p_ltL, p_Llt, p_addL, p_subL, p_mulL, p_LmulL, p_eq, p_le, p_lt, p_add, p_sub, p_mul, p_clamp, if_pos, if_neg]
    have hb := hB.2 t (by omega) 0 (by omega)
    rw [bt_lo (by omega)] at hb
    have hdec : σ.2.1 - (nI (t + 1)).toNatClampNeg < σ.2.1 - (nI t).toNatClampNeg := by
      rw [p_clamp (by omega), p_clamp (by omega)]
      omega
    by_cases c0 : σ.1 t 0
    · rw [if_pos (bit_1.mpr (hb.mpr c0)), h28 t (by omega)]
      exact ih _ _ ⟨t + 1, by omega, by rw [rsm, cit_t c0], rfl⟩ hdec
    · rw [if_neg (fun q => c0 (hb.mp (bit_1.mp q))), Int64.add_zero]
      exact ih _ _ ⟨t + 1, by omega, by rw [rsm, cit_f c0], rfl⟩ hdec
theorem m_rlev {A : aS} (hA : I_ok A) {g0 : z_S} (hM : R_M A g0) {m : Nat} (hm : m ≤ 20) {R : RS × Nat} {Q : Int64 × z_S → Prop} {k : z_S → Option (Int64 × z_S)} {σ0 : RS} (hR : rlev (A 0 0) (A 0 1) (A 1) (A 4) m σ0 = R) (hD0 : DI (A 0 1) (A 1) σ0) {g : z_S} (hK0 : KB g0 g) (hB0 : BW σ0 g) (h28 : ∀ t, t < σ0.2.1 → g.2 28 t = σ0.2.2 t)
    (hL : R.2 ≠ 0 → ∀ g', KB g0 g' → Q (-1005, g')) (hC : R.2 = 0 → ∀ g', KB g0 g' → DI (A 0 1) (A 1) R.1 → BW R.1 g' → (∀ t, t < R.1.2.1 → g'.2 28 t = R.1.2.2 t) → wp (k g') Q) : wp (z_loop (fX11_rows_B57 k) zN (nI m, 0) g) Q := by
  have rcongr : ∀ (c1 c2 : Nat → Int64) (N : Nat), (∀ t, t < N → c1 t = c2 t) → ∀ f s σ, s + f ≤ N → rmid (A 0 0) (A 0 1) (A 1) (A 4) c1 f s σ = rmid (A 0 0) (A 0 1) (A 1) (A 4) c2 f s σ := by
    intro c1 c2 N h f
    induction f with
    | zero => intro s σ _; rfl
    | succ f ih =>
      intro s σ hs
      rw [rmid, rmid, h s (by omega)]
      rw [ih (s + 1) _ (by omega), ih (s + 1) _ (by omega)]
  refine wp_loop (P := fun a g' => ∃ x σ, x ≤ m ∧ a = (nI m, nI x) ∧ KB g0 g' ∧ DI (A 0 1) (A 1) σ ∧ BW σ g' ∧ (∀ t, t < σ.2.1 → g'.2 28 t = σ.2.2 t) ∧ rlev (A 0 0) (A 0 1) (A 1) (A 4) (m - x) σ = R) (μ := fun a _ => m - a.2.toNatClampNeg) ?_ zN _ _ ⟨0, σ0, by omega, rfl, hK0, hD0, hB0, h28, hR⟩ (by rw [p_zN]; show m - _ < _; omega)
  rintro rc a g1 ⟨x, σ, hx, rfl, e1, e2, e3, e4, e5⟩ ih
  have hN2 := e2.1.2
  simp only [fX11_rows_B57]
  try simp (disch := omega) only [p_g, p_b, p_s, p_gin, p_gblt, p_eqL, p_leL, p_Lle, p_ltL, p_Llt, p_addL, p_subL, p_mulL, p_LmulL, p_eq, p_le, p_lt, p_add, p_sub, p_mul, p_clamp, if_pos, if_neg]
  by_cases c : m ≤ x
  · rw [if_pos c]
    rw [show m - x = 0 by omega, rlev] at e5
    subst e5
    exact hC rfl g1 e1 e2 e3 e4
  · rw [if_neg c, e3.1]
    obtain ⟨t, ht⟩ : ∃ t, m - x = t + 1 := ⟨m - x - 1, by omega⟩
    have ht' : m - (x + 1) = t := by omega
    rw [ht, rlev, ← rcongr (g1.2 28) σ.2.2 σ.2.1 e4 σ.2.1 0 _ (by omega)] at e5
    obtain ⟨M, hM'⟩ : ∃ M : Nat, M = 2001 := ⟨_, rfl⟩
    refine wp_loop (P := fun a g' => ∃ y, y ≤ M ∧ a = (nI m, nI x, nI σ.2.1, nI y) ∧ KB g0 g' ∧ BW σ g' ∧ g'.2 28 = g1.2 28 ∧ ∀ t, t < y → g'.2 29 t = 0) (μ := fun a _ => M - a.2.2.2.toNatClampNeg) ?_ zN _ _ ⟨0, by omega, rfl, e1, e3, rfl, fun t h => by omega⟩ (by rw [p_zN]; omega)
    rintro rc2 a g2 ⟨y, hy, rfl, f1, f2, f3, f4⟩ ih2
    simp only [fX11_rows_B70]
    have hLy : (2000 : Int32) < nI y ↔ 2000 < y := p_lt (a := 2000) (b := y) (by omega) (by omega)
    by_cases c2 : 2000 < y
    · rw [if_pos (hLy.mpr c2)]
      refine m_rmid hA hM (σ0 := (σ.1, σ.2.1, fun _ => 0)) (cur := g1.2 28) ⟨e2.1, e2.2.1, e2.2.2⟩ (Nat.le_refl _) rfl f1 f2 (fun t ht => ?_) f3 ?_ ?_
      · rw [f4 t (by omega)]
        split <;> rfl
      · intro q1 g3 k1
        rw [if_neg q1] at e5
        subst e5
        exact hL q1 g3 k1
      · intro q1 g3 k1 k2 k3 k4
        rw [if_pos q1] at e5
        generalize rmid (A 0 0) (A 0 1) (A 1) (A 4) (g1.2 28) σ.2.1 0 (σ.1, σ.2.1, fun _ => 0) = r at *
        have hr2 := k2.1.2
        refine wp_loop (P := fun a g' => ∃ y, y ≤ M ∧ a = (nI m, nI x, nI y) ∧ KB g0 g' ∧ BW r.1 g' ∧ g'.2 29 = g3.2 29 ∧ ∀ t, t < y → g'.2 28 t = g3.2 29 t) (μ := fun a _ => M - a.2.2.toNatClampNeg) ?_ zN _ _ ⟨0, by omega, rfl, k1, k3, rfl, fun t h => by omega⟩ (by rw [p_zN]; omega)
        rintro rc3 a g4 ⟨y3, hy3, rfl, l1, l2, l3, l4⟩ ih3
        simp only [fX11_rows_B230]
        have hLy3 : (2000 : Int32) < nI y3 ↔ 2000 < y3 := p_lt (a := 2000) (b := y3) (by omega) (by omega)
        by_cases c3 : 2000 < y3
        · rw [if_pos (hLy3.mpr c3)]
          try simp (disch := omega) only [p_g, p_b, p_s, p_gin, p_gblt, p_eqL, p_leL, p_Lle, p_ltL, p_Llt, p_addL, p_subL, p_mulL, p_LmulL, p_eq, p_le, p_lt, p_add, p_sub, p_mul, p_clamp, if_pos, if_neg]
          refine ih _ _ ⟨x + 1, r.1, by omega, rfl, l1, k2, l2, fun t ht => ?_, by rw [ht']; exact e5⟩ ?_
          · rw [l4 t (by omega), k4 t (by omega), if_pos ht]
          · show _ - (nI (_ + 1)).toNatClampNeg < _ - (nI _).toNatClampNeg
            rw [p_clamp (by omega), p_clamp (by omega)]
            omega
        · rw [if_neg (fun q => c3 (hLy3.mp q))]
          try simp (disch := omega) only [p_g, p_b, p_s, p_gin, p_gblt, p_eqL, p_leL, p_Lle, p_ltL, p_Llt, p_addL, p_subL, p_mulL, p_LmulL, p_eq, p_le, p_lt, p_add, p_sub, p_mul, p_clamp, if_pos, if_neg]
          refine ih3 _ _ ⟨y3 + 1, by omega, rfl, l1, ⟨l2.1, fun t ht => by rw [p_Loff (by decide), p_Loff (by decide)]; exact l2.2 t ht⟩, by rw [p_Loff (by decide)]; exact l3, fun t ht => ?_⟩ ?_
          · by_cases z : t = y3
            · subst z; rw [p_Lat, l3]
            · rw [p_Lon z]; exact l4 t (by omega)
          · show _ - (nI (_ + 1)).toNatClampNeg < _ - (nI _).toNatClampNeg
            rw [p_clamp (by omega), p_clamp (by omega)]
            omega
    · rw [if_neg (fun q => c2 (hLy.mp q))]
      try simp (disch := omega) only [p_g, p_b, p_s, p_gin, p_gblt, p_eqL, p_leL, p_Lle, p_ltL, p_Llt, p_addL, p_subL, p_mulL, p_LmulL, p_eq, p_le, p_lt, p_add, p_sub, p_mul, p_clamp, if_pos, if_neg]
      refine ih2 _ _ ⟨y + 1, by omega, rfl, f1, ⟨f2.1, fun t ht => by rw [p_Loff (by decide), p_Loff (by decide)]; exact f2.2 t ht⟩, by rw [p_Loff (by decide)]; exact f3, fun t ht => ?_⟩ ?_
      · by_cases z : t = y
        · subst z; rw [p_Lat]
        · rw [p_Lon z]; exact f4 t (by omega)
      · show _ - (nI (_ + 1)).toNatClampNeg < _ - (nI _).toNatClampNeg
        rw [p_clamp (by omega), p_clamp (by omega)]
        omega
theorem m_rows {A : aS} (hA : I_ok A) {g : z_S} (hM : R_M A g) (v : Int32) : wp (fX11_rows v g) (fun q => q.1 = (if 0 ≤ v.toInt ∧ v.toInt ≤ 20 then rwA (A 0 0) (A 0 1) (A 1) (A 4) v.toNatClampNeg else -1002) ∧ R_M A q.2) := by
  unfold fX11_rows
  by_cases h : 0 ≤ v.toInt ∧ v.toInt ≤ 20
  · rw [m_yes (b := 0) (c := 20) h, p_b, if_neg n10, if_pos h]
    obtain ⟨m, -, hm, rfl⟩ := p_rng (a := 0) (b := 20) (by decide) h
    rw [p_clamp (by omega)]
    apply wp_b
    refine wp_mono (m_bgs (b := 0) hA hM (by omega)) ?_
    rintro ⟨u, g1⟩ ⟨b1, b2⟩
    simp only [] at b1 b2 ⊢
    rw [if_neg (by omega)] at b2
    obtain ⟨M, hM'⟩ : ∃ M : Nat, M = 2001 := ⟨_, rfl⟩
    refine wp_loop (P := fun a g' => ∃ y, y ≤ M ∧ a = (nI m, nI y) ∧ KB g g' ∧ BW ((fun _ => pEnd, 1, fun _ => 1) : RS) g' ∧ (1 ≤ y → g'.2 28 0 = 1)) (μ := fun a _ => M - a.2.toNatClampNeg) ?_ zN _ _ ⟨0, by omega, rfl, b1, ⟨b2.1, fun t ht => (b2.2 t ht).1⟩, fun h => by omega⟩ (by rw [p_zN]; omega)
    rintro rc a g2 ⟨y, hy, rfl, f1, f2, f3⟩ ih
    simp only [fX11_rows_B23]
    have hLy : (2000 : Int32) < nI y ↔ 2000 < y := p_lt (a := 2000) (b := y) (by omega) (by omega)
    by_cases c2 : 2000 < y
    · rw [if_pos (hLy.mpr c2)]
      refine m_rlev hA hM hm (σ0 := (fun _ => pEnd, 1, fun _ => 1)) (R := rwR (A 0 0) (A 0 1) (A 1) (A 4) m) rfl ⟨⟨Nat.le_refl _, by show 1 ≤ 2000; omega⟩, fun t ht => Vd_end, fun t u h1 h2 => ?_⟩ f1 f2 (fun t ht => ?_) ?_ ?_
      · have : u < 1 := h2
        omega
      · have ht : t < 1 := ht
        rw [show t = 0 by omega]; exact f3 (by omega)
      · intro q1 g3 k1
        refine ⟨?_, k1.M hM⟩
        unfold rwA
        rw [if_neg q1]
      · intro q1 g3 k1 k2 k3 k4
        refine m_rsum hA k2 k3 k4 ?_
        unfold rwA
        rw [if_pos q1]
        by_cases c5 : rsm (rwR (A 0 0) (A 0 1) (A 1) (A 4) m).1.1 (rwR (A 0 0) (A 0 1) (A 1) (A 4) m).1.2.2 (rwR (A 0 0) (A 0 1) (A 1) (A 4) m).1.2.1 ≤ 1000000000000000
        · rw [if_pos c5, if_pos c5]; exact wp_some ⟨rfl, k1.M hM⟩
        · rw [if_neg c5, if_neg c5]; exact wp_some ⟨rfl, k1.M hM⟩
    · rw [if_neg (fun q => c2 (hLy.mp q))]
      have go : ∀ z : Nat, z ≤ 1 → (z = 1 ↔ y = 0) → wp (fX11_rows_J44 rc (nI m) (nI y) (nI z) (nI y) g2) (fun q => q.1 = rwA (A 0 0) (A 0 1) (A 1) (A 4) m ∧ R_M A q.2) := by
        intro z hz hzy
        unfold fX11_rows_J44
        rw [m_one hz, p_b, p_iL (by omega)]
        try simp (disch := omega) only [p_g, p_b, p_s, p_gin, p_gblt, p_eqL, p_leL, p_Lle, p_ltL, p_Llt, p_addL, p_subL, p_mulL, p_LmulL, p_eq, p_le, p_lt, p_add, p_sub, p_mul, p_clamp, if_pos, if_neg]
        refine ih _ _ ⟨y + 1, by omega, rfl, f1, ⟨f2.1, fun t ht => by rw [p_Loff (by decide), p_Loff (by decide)]; exact f2.2 t ht⟩, fun _ => ?_⟩ ?_
        · by_cases y0 : y = 0
          · subst y0
            rw [p_Lat, hzy.mpr rfl]; rfl
          · rw [p_Lon (by omega)]; exact f3 (by omega)
        · show _ - (nI (_ + 1)).toNatClampNeg < _ - (nI _).toNatClampNeg
          rw [p_clamp (by omega), p_clamp (by omega)]
          omega
      by_cases y0 : y = 0
      · subst y0
        rw [if_pos nI00]
        exact go 1 (by omega) ⟨fun _ => rfl, fun _ => rfl⟩
      · rw [if_neg (nI0 (by omega) y0)]
        exact go 0 (by omega) ⟨fun q => by omega, fun q => absurd q y0⟩
  · rw [m_no (b := 0) (c := 20) h, if_neg h]
    exact wp_some ⟨rfl, hM⟩

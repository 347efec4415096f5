/-! states of knowing: the search -/
abbrev BS : Type := (Nat → Stt) × (Nat → Nat) × (Nat → Nat) × (Nat → Nat) × Nat
def badd (σ : BS) (y : Stt) (s c : Nat) : BS := (fun t => if t = σ.2.2.2.2 then y else σ.1 t, fun t => if t = σ.2.2.2.2 then s else σ.2.1 t, fun t => if t = σ.2.2.2.2 then c else σ.2.2.1 t, fun t => if t = σ.2.2.2.2 then σ.2.2.2.1 s + 1 else σ.2.2.2.1 t, σ.2.2.2.2 + 1)
def b0 (p : Stt) : BS := (fun _ => p, fun _ => 0, fun _ => 0, fun _ => 0, 1)
def seen (σ : BS) (y : Stt) : Prop := ∃ t, t < σ.2.2.2.2 ∧ σ.1 t = y
noncomputable def bin (n : Nat) (L S : Nat → Nat) (sg : Stt) (s : Nat) : Nat → Nat → BS → BS × Nat × Nat × Nat
  | 0, _, σ => (σ, 0, 0, 0)
  | f + 1, c, σ => cit (stp n L S (σ.1 s) c = sg) (σ, 1, s, c) (cit (stp n L S (σ.1 s) c = pNon ∨ seen σ (stp n L S (σ.1 s) c)) (bin n L S sg s f (c + 1) σ) (if σ.2.2.2.2 = 2000 then (σ, 2, 0, 0) else bin n L S sg s f (c + 1) (badd σ (stp n L S (σ.1 s) c) s c)))
noncomputable def bout (k n : Nat) (L S : Nat → Nat) (sg : Stt) : Nat → Nat → BS → BS × Nat × Nat × Nat
  | 0, _, σ => (σ, 0, 0, 0)
  | f + 1, s, σ => if s < σ.2.2.2.2 ∧ σ.2.2.2.1 s < 12 then (if (bin n L S sg s k 0 σ).2.1 = 0 then bout k n L S sg f (s + 1) (bin n L S sg s k 0 σ).1 else bin n L S sg s k 0 σ) else (σ, 0, 0, 0)
/-- what holds of the states at every time, up to those that come from s -/
def WB (k n : Nat) (L : Nat → Nat) (σ : BS) (s : Nat) : Prop := (1 ≤ σ.2.2.2.2 ∧ σ.2.2.2.2 ≤ 2000) ∧ (∀ t, t < σ.2.2.2.2 → Vd n L (σ.1 t) ∧ σ.2.2.2.1 t ≤ 12 ∧ (1 ≤ σ.2.2.2.1 t → σ.2.1 t < σ.2.2.2.2 ∧ σ.2.2.2.1 (σ.2.1 t) + 1 = σ.2.2.2.1 t ∧ σ.2.2.1 t < k)) ∧ (∀ t u, t < u → u < σ.2.2.2.2 → σ.1 t ≠ σ.1 u ∧ σ.2.2.2.1 t ≤ σ.2.2.2.1 u) ∧ (s < σ.2.2.2.2 → ∀ t, t < σ.2.2.2.2 → σ.2.2.2.1 t ≤ σ.2.2.2.1 s + 1)
theorem WB_0 {k n : Nat} {L : Nat → Nat} {p : Stt} (hp : Vd n L p) : WB k n L (b0 p) 0 := by
  refine ⟨⟨Nat.le_refl _, by show 1 ≤ 2000; omega⟩, fun t ht => ⟨hp, by show 0 ≤ 12; omega, fun q => absurd q (by show ¬ 1 ≤ 0; omega)⟩, fun t u h1 h2 => ?_, fun _ t _ => by show 0 ≤ 0 + 1; omega⟩
  have : u < 1 := h2
  omega
theorem WB_add {k n : Nat} {L S : Nat → Nat} {σ : BS} {s c : Nat} (h : WB k n L σ s) (hs : s < σ.2.2.2.2) (hd : σ.2.2.2.1 s < 12) (hc : c < k) (hN : σ.2.2.2.2 ≠ 2000) (hn : ¬ seen σ (stp n L S (σ.1 s) c)) : WB k n L (badd σ (stp n L S (σ.1 s) c) s c) s := by
  obtain ⟨⟨h1, h2⟩, h3, h4, h5⟩ := h
  obtain ⟨T, F, Bb, D, N⟩ := σ
  simp only [] at h1 h2 h3 h4 h5 hs hd hN hn ⊢
  unfold seen at hn
  simp only [] at hn
  refine ⟨⟨by show 1 ≤ N + 1; omega, by show N + 1 ≤ 2000; omega⟩, fun t ht => ?_, fun t u htu hu => ?_, fun _ t ht => ?_⟩
  · have ht : t < N + 1 := ht
    show Vd n L (if t = N then _ else T t) ∧ (if t = N then D s + 1 else D t) ≤ 12 ∧ (1 ≤ (if t = N then D s + 1 else D t) → (if t = N then s else F t) < N + 1 ∧ (if (if t = N then s else F t) = N then D s + 1 else D (if t = N then s else F t)) + 1 = (if t = N then D s + 1 else D t) ∧ (if t = N then c else Bb t) < k)
    by_cases e : t = N
    · rw [if_pos e, if_pos e, if_pos e, if_pos e, if_neg (by omega)]
      exact ⟨Vd_stp, by omega, fun _ => ⟨by omega, rfl, hc⟩⟩
    · obtain ⟨a1, a2, a3⟩ := h3 t (by omega)
      rw [if_neg e, if_neg e, if_neg e, if_neg e]
      refine ⟨a1, a2, fun q => ?_⟩
      obtain ⟨b1, b2, b3⟩ := a3 q
      rw [if_neg (by omega)]
      exact ⟨by omega, b2, b3⟩
  · have hu : u < N + 1 := hu
    show (if t = N then _ else T t) ≠ (if u = N then _ else T u) ∧ (if t = N then D s + 1 else D t) ≤ (if u = N then D s + 1 else D u)
    rw [if_neg (by omega : ¬ t = N), if_neg (by omega : ¬ t = N)]
    by_cases e : u = N
    · rw [if_pos e, if_pos e]
      exact ⟨fun q => hn ⟨t, by omega, q⟩, h5 hs t (by omega)⟩
    · rw [if_neg e, if_neg e]
      exact h4 t u htu (by omega)
  · have ht : t < N + 1 := ht
    show (if t = N then D s + 1 else D t) ≤ (if s = N then D s + 1 else D s) + 1
    rw [if_neg (by omega : ¬ s = N)]
    by_cases e : t = N
    · rw [if_pos e]; omega
    · rw [if_neg e]; exact h5 hs t (by omega)
theorem WB_next {k n : Nat} {L : Nat → Nat} {σ : BS} {s : Nat} (h : WB k n L σ s) (hs : s < σ.2.2.2.2) : WB k n L σ (s + 1) := by
  obtain ⟨h1, h3, h4, h5⟩ := h
  refine ⟨h1, h3, h4, fun hs1 t ht => ?_⟩
  have := h5 hs t ht
  have := (h4 s (s + 1) (by omega) hs1).2
  omega
/-- the row that leads to a state, and a letter more -/
def spl (fr lb : Nat → Nat) : Nat → Nat → (Nat → Nat) → (Nat → Nat)
  | 0, _, f => f
  | m + 1, x, f => spl fr lb m (fr x) (up f m (lb x))
def rowL (σ : BS) (s c : Nat) : Nat → Nat := spl σ.2.1 σ.2.2.1 (σ.2.2.2.1 s) s (up (fun _ => 0) (σ.2.2.2.1 s) c)
noncomputable def sgt (b : Nat) : Stt := if b = 1 then pEnd else pNon
noncomputable def shR (k n : Nat) (L S : Nat → Nat) (b : Nat) : BS × Nat × Nat × Nat := bout k n L S (sgt b) 2001 0 (b0 (pAll n L))
noncomputable def shN (k n : Nat) (L S : Nat → Nat) (b : Nat) : Int32 := cit (b = 1 ∧ pAll n L = pEnd) 0 (if (shR k n L S b).2.1 = 1 then nI ((shR k n L S b).1.2.2.2.1 (shR k n L S b).2.2.1 + 1) else if (shR k n L S b).2.1 = 2 then -1005 else -1)
noncomputable def shL (k n : Nat) (L S : Nat → Nat) (b : Nat) : Nat → Nat := rowL (shR k n L S b).1 (shR k n L S b).2.2.1 (shR k n L S b).2.2.2
/-- the reference's states -/
def BM (σ : BS) (g : z_S) : Prop := g.1 0 34 = nI σ.2.2.2.2 ∧ ∀ t, t < σ.2.2.2.2 → NR (σ.1 t) (g.2 21 t) (g.2 22 t) ∧ g.1 25 t = nI (σ.2.2.2.1 t) ∧ (1 ≤ σ.2.2.2.1 t → g.1 23 t = nI (σ.2.1 t) ∧ g.1 24 t = nI (σ.2.2.1 t))
def KB (g g' : z_S) : Prop := (∀ o, 1 ≤ o → o ≤ 10 → g'.1 o = g.1 o) ∧ ∀ k, k ≤ 17 → g'.1 0 k = g.1 0 k
theorem KB.rf {g : z_S} : KB g g := ⟨fun _ _ _ => rfl, fun _ _ => rfl⟩
theorem KB.tr {g g' g'' : z_S} (h : KB g g') (h' : KB g' g'') : KB g g'' := ⟨fun o a b => (h'.1 o a b).trans (h.1 o a b), fun k a => (h'.2 k a).trans (h.2 k a)⟩
theorem KB.of {g g' : z_S} (h : g'.1 = g.1) : KB g g' := ⟨fun o _ _ => by rw [h], fun k _ => by rw [h]⟩
theorem KB.M {A : aS} {g g' : z_S} (h : KB g g') (hM : R_M A g) : R_M A g' := R_M.ag2 hM h.1 h.2
theorem BM.fn {σ : BS} {g g' : z_S} (h : BM σ g) (hf : FN g g') : BM σ g' := by
  refine ⟨by rw [hf.1]; exact h.1, fun t ht => ?_⟩
  rw [hf.2 21 t (by omega), hf.2 22 t (by omega), hf.1]
  exact h.2 t ht
theorem m_fnd {k n : Nat} {L : Nat → Nat} (hL : LO n L) {σ : BS} {s : Nat} (hW : WB k n L σ s) {g : z_S} (hB : BM σ g) {y : Stt} (hy : Vd n L y) (hN : NR y (g.2 0 35) (g.2 0 36)) : wp (fX11_findState g) (fun q => q.2 = g ∧ ((q.1 = -1 ∧ ¬ seen σ y) ∨ ∃ t, t < σ.2.2.2.2 ∧ σ.1 t = y ∧ q.1 = nI t)) := by
  have hN2 := hW.1.2
  unfold fX11_findState
  refine wp_loop (P := fun a g' => ∃ t, t ≤ σ.2.2.2.2 ∧ a = nI t ∧ g' = g ∧ ∀ u, u < t → σ.1 u ≠ y) (μ := fun a _ => σ.2.2.2.2 - a.toNatClampNeg) ?_ zN _ _ ⟨0, by omega, rfl, rfl, fun u h => by omega⟩ (by rw [p_zN]; omega)
  rintro rc a g' ⟨t, ht, rfl, rfl, e⟩ ih
  simp only [fX11_findState_B2]
  rw [hB.1]
  try simp (disch := omega) only [p_g, p_b, p_s, p_gin, p_gblt, p_eqL, p_leL, p_Lle, p_ltL, p_Llt, p_addL, p_subL, p_mulL, p_LmulL, p_eq, p_le, p_lt, p_add, p_sub, p_mul, p_clamp, if_pos, if_neg]
  by_cases c : σ.2.2.2.2 ≤ t
  · rw [if_pos c]
    exact wp_some ⟨rfl, Or.inl ⟨rfl, fun ⟨u, q1, q2⟩ => e u (by omega) q2⟩⟩
  · rw [if_neg c]
    try simp (disch := omega) only [p_g, p_b, p_s, p_gin, p_gblt, p_eqL, p_leL, p_Lle, p_ltL, p_Llt, p_addL, p_subL, p_mulL, p_LmulL, p_eq, p_le, p_lt, p_add, p_sub, p_mul, p_clamp, if_pos, if_neg]
    obtain ⟨b1, -⟩ := hB.2 t (by omega)
    have hi := NR_inj hL (hW.2.1 t (by omega)).1 hy b1 hN
    have next : σ.1 t ≠ y → wp (rc (nI (t + 1)) g') (fun q => q.2 = g' ∧ ((q.1 = -1 ∧ ¬ seen σ y) ∨ ∃ t, t < σ.2.2.2.2 ∧ σ.1 t = y ∧ q.1 = nI t)) := by
      intro hne
      refine ih _ _ ⟨t + 1, by omega, rfl, rfl, fun u hu => ?_⟩ ?_
      · by_cases z : u = t
        · subst z; exact hne
        · exact e u (by omega)
      · show _ - (nI (_ + 1)).toNatClampNeg < _ - (nI _).toNatClampNeg
        rw [p_clamp (by omega), p_clamp (by omega)]
        omega
    by_cases c1 : g'.2 21 t = g'.2 0 35
    · rw [if_pos c1]
      by_cases c2 : g'.2 22 t = g'.2 0 36
      · rw [if_pos c2]
        exact wp_some ⟨rfl, Or.inr ⟨t, by omega, hi.mp ⟨c1, c2⟩, rfl⟩⟩
      · rw [if_neg c2]
        exact next (fun q => c2 (hi.mpr q).2)
    · rw [if_neg c1]
      exact next (fun q => c1 (hi.mpr q).1)
theorem m_add {σ : BS} (hN2 : σ.2.2.2.2 < 2001) {g : z_S} (hB : BM σ g) {y : Stt} (hN : NR y (g.2 0 35) (g.2 0 36)) {s c : Nat} : wp (fX11_addState (nI s) (nI c) (nI (σ.2.2.2.1 s + 1)) g) (fun q => KB g q.2 ∧ BM (badd σ y s c) q.2 ∧ (∀ o, o ≠ 21 → o ≠ 22 → q.2.2 o = g.2 o) ∧ (∀ j, j ≠ 34 → q.2.1 0 j = g.1 0 j) ∧ q.2.1 26 = g.1 26) := by
  unfold fX11_addState
  simp (disch := omega) only [p_off, p_on, p_wi2, p_wl1, hB.1, p_g, p_b, p_s, p_gin, p_gblt, p_eqL, p_leL, p_Lle, p_ltL, p_Llt, p_addL, p_subL, p_mulL, p_LmulL, p_eq, p_le, p_lt, p_add, p_sub, p_mul, p_clamp, if_pos, if_neg]
  simp (disch := omega) only [p_off, p_on, p_wi2, p_wl1, p_Loff, hB.1, p_g, p_b, p_s, p_gin, p_gblt, p_eqL, p_leL, p_Lle, p_ltL, p_Llt, p_addL, p_subL, p_mulL, p_LmulL, p_eq, p_le, p_lt, p_add, p_sub, p_mul, p_clamp, if_pos, if_neg]
  obtain ⟨T, F, Bb, D, N⟩ := σ
  obtain ⟨h1, h2⟩ := hB
  simp only [] at h1 h2 hN2 ⊢
  refine wp_some ⟨⟨fun o z1 z2 => ?_, fun k hk => ?_⟩, ⟨?_, fun t ht => ?_⟩, fun o z1 z2 => ?_, fun j hj => ?_, ?_⟩
  · simp (disch := omega) only [p_off, p_wl1]
  · simp (disch := omega) only [p_off, p_on, p_wl1]
  · rw [p_at]; rfl
  · have ht : t < N + 1 := ht
    show NR (if t = N then y else T t) _ _ ∧ _ = nI (if t = N then D s + 1 else D t) ∧ (1 ≤ (if t = N then D s + 1 else D t) → _ = nI (if t = N then s else F t) ∧ _ = nI (if t = N then c else Bb t))
    by_cases e : t = N
    · subst e
      simp (disch := omega) only [if_true, p_off, p_on, p_at, p_wi2, p_wl1, p_Loff, p_Lon, p_Lat]
      exact ⟨hN, trivial, fun _ => ⟨trivial, trivial⟩⟩
    · simp (disch := omega) only [if_neg, p_off, p_on, p_at, p_wi2, p_wl1, p_Loff, p_Lon, p_Lat]
      exact h2 t (by omega)
  · simp (disch := omega) only [p_wi2, p_Loff]
  · simp (disch := omega) only [p_off, p_on, p_wl1]
  · simp (disch := omega) only [p_off, p_wl1]
/-- laying the row -/
theorem m_lay {k n : Nat} {L : Nat → Nat} {σ : BS} {s0 : Nat} (hW : WB k n L σ s0) (hk : k ≤ 8) {g : z_S} (hB : BM σ g) {s c : Nat} (hs : s < σ.2.2.2.2) (hd : σ.2.2.2.1 s < 12) : wp (fX11_layRow (nI s) (nI c) g) (fun q => KB g q.2 ∧ q.2.1 0 38 = nI (σ.2.2.2.1 s + 1) ∧ ∀ j, j ≤ σ.2.2.2.1 s → q.2.1 26 j = nI (rowL σ s c j)) := by
  obtain ⟨hN1, hN2⟩ := hW.1
  have h25 := (hB.2 s hs).2.1
  unfold fX11_layRow
  try simp (disch := omega) only [p_g, p_b, p_s, p_gin, p_gblt, p_eqL, p_leL, p_Lle, p_ltL, p_Llt, p_addL, p_subL, p_mulL, p_LmulL, p_eq, p_le, p_lt, p_add, p_sub, p_mul, p_clamp, if_pos, if_neg]
  rw [h25]
  simp (disch := omega) only [p_off, p_on, p_at, p_g, p_b, p_s, p_gin, p_gblt, p_eqL, p_leL, p_Lle, p_ltL, p_Llt, p_addL, p_subL, p_mulL, p_LmulL, p_eq, p_le, p_lt, p_add, p_sub, p_mul, p_clamp, if_pos, if_neg]
  have h2 : nI (σ.2.2.2.1 s + 1) - 2 = if σ.2.2.2.1 s = 0 then -1 else nI (σ.2.2.2.1 s - 1) := by
    by_cases z : σ.2.2.2.1 s = 0
    · rw [z]; rfl
    · rw [if_neg z, p_subL (by omega)]
      rw [show σ.2.2.2.1 s + 1 - 2 = σ.2.2.2.1 s - 1 by omega]
  rw [h2, Nat.add_sub_cancel]
  refine wp_loopN (P := fun m a g' => m ≤ σ.2.2.2.1 s ∧ a.2 = (if m = 0 then -1 else nI (m - 1)) ∧ KB g g' ∧ BM σ g' ∧ g'.1 0 38 = nI (σ.2.2.2.1 s + 1) ∧ ∃ f x, (∀ j, m ≤ j → j ≤ σ.2.2.2.1 s → g'.1 26 j = nI (f j)) ∧ spl σ.2.1 σ.2.2.1 m x f = rowL σ s c ∧ (1 ≤ m → a.1 = nI x ∧ x < σ.2.2.2.2 ∧ σ.2.2.2.1 x = m)) ?_ zN (σ.2.2.2.1 s) _ _ ⟨Nat.le_refl _, rfl, ⟨fun o z1 z2 => by rw [p_off (by omega), p_off (by omega)], fun j hj => by rw [p_off (by decide), p_on (by omega)]⟩, ⟨by rw [p_off (by decide), p_on (by decide)]; exact hB.1, fun t ht => by simp (disch := omega) only [p_off, p_wi2]; exact hB.2 t ht⟩, by rw [p_off (by decide), p_at], up (fun _ => 0) (σ.2.2.2.1 s) c, s, fun j z1 z2 => by rw [show j = σ.2.2.2.1 s by omega, p_at]; unfold up; rw [if_pos rfl], rfl, fun _ => ⟨rfl, hs, rfl⟩⟩ (by rw [p_zN]; omega)
  rintro rc m ⟨v4, v5⟩ g1 ⟨hm, e2, e3, e4, e5, f, x, e6, e7, e8⟩ ih
  simp only [] at e2 e8
  subst e2
  simp only [fX11_layRow_B34]
  by_cases m0 : m = 0
  · subst m0
    rw [if_pos rfl, if_pos (by decide)]
    refine wp_some ⟨e3, e5, fun j hj => ?_⟩
    rw [e6 j (by omega) hj, ← e7, spl]
  · obtain ⟨rfl, hx, hdx⟩ := e8 (by omega)
    obtain ⟨b1, b2, b3⟩ := e4.2 x hx
    obtain ⟨b4, b5⟩ := b3 (by omega)
    obtain ⟨a1, a2, a3⟩ := hW.2.1 x hx
    obtain ⟨c1, c2, c3⟩ := a3 (by omega)
    rw [if_neg m0, if_neg (p_neg (by omega))]
    simp (disch := omega) only [p_off, b4, b5, p_g, p_b, p_s, p_gin, p_gblt, p_eqL, p_leL, p_Lle, p_ltL, p_Llt, p_addL, p_subL, p_mulL, p_LmulL, p_eq, p_le, p_lt, p_add, p_sub, p_mul, p_clamp, if_pos, if_neg]
    obtain ⟨m', rfl⟩ : ∃ m', m = m' + 1 := ⟨m - 1, by omega⟩
    rw [spl] at e7
    refine ih m' _ _ ⟨by omega, ?_, e3.tr ⟨fun o z1 z2 => by rw [p_off (by omega)], fun j hj => by rw [p_off (by decide)]⟩, ⟨by rw [p_off (by decide)]; exact e4.1, fun t ht => by simp (disch := omega) only [p_off, p_wi2]; exact e4.2 t ht⟩, by rw [p_off (by decide)]; exact e5, _, _, ?_, e7, fun z => ⟨rfl, c1, by omega⟩⟩ (by omega)
    · show nI (m' + 1 - 1) + -1 = _
      by_cases z : m' = 0
      · subst z; rfl
      · rw [if_neg z, p_m1 (by omega)]
        rw [show m' + 1 - 1 - 1 = m' - 1 by omega]
    · intro j z1 z2
      unfold up
      by_cases z : j = m'
      · subst z; rw [if_pos rfl, show j + 1 - 1 = j by omega, p_at]
      · rw [if_neg z, p_on (by omega)]; exact e6 j (by omega) z2
theorem m_bgs {A : aS} (hA : I_ok A) {g : z_S} (hM : R_M A g) {b : Nat} (hb : b ≤ 1) : wp (fX11_beginStates (nI b) g) (fun q => KB g q.2 ∧ BM (b0 (if b = 1 then pAll (A 0 1) (A 1) else pEnd)) q.2) := by
  have hn := hA.1.2.2.1
  unfold fX11_beginStates
  rw [p_s, p_s, p_s]
  have hK0 : KB g (z_wl (z_wl (z_wi g 0 34 0) 0 35 1) 0 36 0) := ⟨fun o z1 z2 => by rw [p_wl1, p_wl1, p_off (by omega)], fun k hk => by rw [p_wl1, p_wl1, p_on (by omega)]⟩
  have h34 : (z_wl (z_wl (z_wi g 0 34 0) 0 35 1) 0 36 0).1 0 34 = nI 0 := by rw [p_wl1, p_wl1, p_at]; rfl
  have hN0 : NR pEnd ((z_wl (z_wl (z_wi g 0 34 0) 0 35 1) 0 36 0).2 0 35) ((z_wl (z_wl (z_wi g 0 34 0) 0 35 1) 0 36 0).2 0 36) := by
    rw [p_Lon (by decide), p_Lat, p_Lat]; exact NR_end
  generalize z_wl (z_wl (z_wi g 0 34 0) 0 35 1) 0 36 0 = g0 at *
  have fin : ∀ g1 p, KB g g1 → g1.1 0 34 = nI 0 → NR p (g1.2 0 35) (g1.2 0 36) → p = (if b = 1 then pAll (A 0 1) (A 1) else pEnd) → wp (z_b (fX11_addState (-1) (-1) 0 g1) (fun _ g63 => (some ((), g63)))) (fun q => KB g q.2 ∧ BM (b0 (if b = 1 then pAll (A 0 1) (A 1) else pEnd)) q.2) := by
    intro g1 p k1 k2 k3 k4
    unfold fX11_addState
    simp (disch := omega) only [p_off, p_on, p_wi2, p_wl1, k2, p_g, p_b, p_s, p_gin, p_gblt, p_eqL, p_leL, p_Lle, p_ltL, p_Llt, p_addL, p_subL, p_mulL, p_LmulL, p_eq, p_le, p_lt, p_add, p_sub, p_mul, p_clamp, if_pos, if_neg]
    refine wp_some ⟨⟨fun o z1 z2 => ?_, fun k hk => ?_⟩, ?_, fun t ht => ?_⟩
    · simp (disch := omega) only [p_off, p_wl1]; exact k1.1 o z1 z2
    · simp (disch := omega) only [p_off, p_on, p_wl1]; exact k1.2 k hk
    · rw [p_at]; rfl
    · have ht : t < 1 := ht
      have : t = 0 := by omega
      subst this
      rw [← k4]
      simp (disch := omega) only [p_off, p_on, p_at, p_wi2, p_wl1, p_Loff, p_Lon, p_Lat]
      exact ⟨k3, rfl, fun q => absurd q (by show ¬ 1 ≤ 0; omega)⟩
  have hE : pEnd = fun j => j = 0 ∨ ∃ w i, w < 0 ∧ 1 ≤ i ∧ i < A 1 w ∧ j = 8 * w + i := by
    funext j
    exact propext ⟨fun q => Or.inl q, fun q => q.elim (fun z => z) (fun ⟨w, i, z, _⟩ => by omega)⟩
  refine wp_loop (P := fun a g' => ∃ w, w ≤ A 0 1 ∧ (b = 0 → w = 0) ∧ a = (nI b, nI w) ∧ KB g g' ∧ g'.1 0 34 = nI 0 ∧ NR (fun j => j = 0 ∨ ∃ v i, v < w ∧ 1 ≤ i ∧ i < A 1 v ∧ j = 8 * v + i) (g'.2 0 35) (g'.2 0 36)) (μ := fun a _ => A 0 1 - a.2.toNatClampNeg) ?_ zN _ _ ⟨0, by omega, fun _ => rfl, rfl, hK0, h34, by rw [← hE]; exact hN0⟩ (by show A 0 1 - _ < zN; rw [p_zN]; omega)
  rintro rc a g1 ⟨w, hw, hbw, rfl, e1, e2, e3⟩ ih
  have hM1 := e1.M hM
  simp only [fX11_beginStates_B17]
  rw [hM1.1.2.1]
  try simp (disch := omega) only [p_g, p_b, p_s, p_gin, p_gblt, p_eqL, p_leL, p_Lle, p_ltL, p_Llt, p_addL, p_subL, p_mulL, p_LmulL, p_eq, p_le, p_lt, p_add, p_sub, p_mul, p_clamp, if_pos, if_neg]
  by_cases b0' : b = 0
  · subst b0'
    have := hbw rfl
    subst this
    rw [← hE] at e3
    rw [if_pos rfl]
    split
    · exact fin g1 pEnd e1 e2 e3 (by rw [if_neg (by omega)])
    · exact fin g1 pEnd e1 e2 e3 (by rw [if_neg (by omega)])
  · have hb1 : b = 1 := by omega
    subst hb1
    by_cases c : A 0 1 ≤ w
    · have : w = A 0 1 := by omega
      subst this
      rw [if_pos c]
      exact fin g1 _ e1 e2 e3 (by rw [if_pos rfl]; rfl)
    · have hw' : w < A 0 1 := by omega
      obtain ⟨w1, w2, -⟩ := hA.2.1 w hw'
      rw [if_neg c, if_neg (by omega)]
      refine wp_loop (P := fun a g' => ∃ i, 1 ≤ i ∧ i ≤ A 1 w ∧ a = (nI 1, nI w, nI i) ∧ KB g g' ∧ g'.1 0 34 = nI 0 ∧ NR (fun j => (j = 0 ∨ ∃ v i, v < w ∧ 1 ≤ i ∧ i < A 1 v ∧ j = 8 * v + i) ∨ ∃ x, 1 ≤ x ∧ x < i ∧ j = 8 * w + x) (g'.2 0 35) (g'.2 0 36)) (μ := fun a _ => A 1 w - a.2.2.toNatClampNeg) ?_ zN _ _ ⟨1, by omega, w1, rfl, e1, e2, ?_⟩ (by show A 1 w - _ < zN; rw [p_zN]; omega)
      · rintro rc2 a g2 ⟨i, hi1, hi2, rfl, f1, f2, f3⟩ ih2
        have hM2 := f1.M hM
        simp only [fX11_beginStates_B31]
        try simp (disch := omega) only [p_g, p_b, p_s, p_gin, p_gblt, p_eqL, p_leL, p_Lle, p_ltL, p_Llt, p_addL, p_subL, p_mulL, p_LmulL, p_eq, p_le, p_lt, p_add, p_sub, p_mul, p_clamp, if_pos, if_neg]
        rw [(hM2.2.1 w hw').1]
        try simp (disch := omega) only [p_g, p_b, p_s, p_gin, p_gblt, p_eqL, p_leL, p_Lle, p_ltL, p_Llt, p_addL, p_subL, p_mulL, p_LmulL, p_eq, p_le, p_lt, p_add, p_sub, p_mul, p_clamp, if_pos, if_neg]
        by_cases c2 : A 1 w ≤ i
        · have : i = A 1 w := by omega
          subst this
          rw [if_pos c2]
          refine ih _ _ ⟨w + 1, by omega, fun z => by omega, rfl, f1, f2, ?_⟩ ?_
          · intro k hk
            rw [f3 k hk]
            constructor
            · rintro ((q | ⟨v, i, q1, q2⟩) | ⟨x, q1, q2, q3⟩)
              · exact Or.inl q
              · exact Or.inr ⟨v, i, by omega, q2⟩
              · exact Or.inr ⟨w, x, by omega, q1, q2, q3⟩
            · rintro (q | ⟨v, i, q1, q2, q3, q4⟩)
              · exact Or.inl (Or.inl q)
              · by_cases z : v = w
                · subst z; exact Or.inr ⟨i, q2, q3, q4⟩
                · exact Or.inl (Or.inr ⟨v, i, by omega, q2, q3, q4⟩)
          · show _ - (nI (_ + 1)).toNatClampNeg < _ - (nI _).toNatClampNeg
            rw [p_clamp (by omega), p_clamp (by omega)]
            omega
        · rw [if_neg c2]
          apply wp_b
          refine wp_mono (m_mark hA hM2 hw' hi1 hi2 f3) ?_
          rintro ⟨u, g3⟩ ⟨d1, d2⟩
          simp only [] at d1 d2 ⊢
          refine ih2 _ _ ⟨i + 1, by omega, by omega, rfl, f1.tr (KB.of d1.1), by rw [d1.1]; exact f2, ?_⟩ ?_
          · intro k hk
            rw [d2 k hk]
            have hmk : mk (A 1) w i = 8 * w + i := by unfold mk; rw [if_neg (by omega)]
            constructor
            · rintro ((q | ⟨x, q1, q2, q3⟩) | q)
              · exact Or.inl q
              · exact Or.inr ⟨x, q1, by omega, q3⟩
              · exact Or.inr ⟨i, hi1, by omega, by rw [q, hmk]⟩
            · rintro (q | ⟨x, q1, q2, q3⟩)
              · exact Or.inl (Or.inl q)
              · by_cases z : x = i
                · subst z; exact Or.inr (by rw [hmk]; exact q3)
                · exact Or.inl (Or.inr ⟨x, q1, by omega, q3⟩)
          · show _ - (nI (_ + 1)).toNatClampNeg < _ - (nI _).toNatClampNeg
            rw [p_clamp (by omega), p_clamp (by omega)]
            omega
      · intro k hk
        rw [e3 k hk]
        exact ⟨fun q => Or.inl q, fun q => q.elim (fun z => z) (fun ⟨x, z1, z2, _⟩ => by omega)⟩

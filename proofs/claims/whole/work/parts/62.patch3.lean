/-! patched: the class -/
theorem wp_loopN {α β : Type} {body : (α → z_S → Option β) → α → z_S → Option β} (P : Nat → α → z_S → Prop) {Q : β → Prop}
    (h : ∀ (rc : α → z_S → Option β) (m : Nat) (a : α) (g : z_S), P m a g → (∀ m' a' g', P m' a' g' → m' < m → wp (rc a' g') Q) → wp (body rc a g) Q) : ∀ (n m : Nat) (a : α) (g : z_S), P m a g → m < n → wp (z_loop body n a g) Q := by
  intro n
  induction n with
  | zero => intro m a g _ hm; omega
  | succ n ih =>
    intro m a g hP hm
    show wp (body (z_loop body n) a g) Q
    exact h _ m a g hP (fun m' a' g' hP' hm' => ih m' a' g' hP' (by omega))
theorem R_X.same {A : aS} {g g' : z_S} (hX : R_X A g) (h : g'.1 = g.1) : R_X A g' := by
  unfold R_X at *
  rw [h]; exact hX
theorem R_M.same {A : aS} {g g' : z_S} (hM : R_M A g) (h : g'.1 = g.1) : R_M A g' := by
  unfold R_M at *
  rw [h]; exact hM
theorem RVX.addC {d : Nat} {y : Int64} {v p : Nat} (h : RVX d y v) (hp : p ≤ 99) : RVX (d + 1) (y + lN (p * 1048576)) (pa v (p * 1048576)) := by
  have := h.add hp (e := 0) (by omega)
  rw [Nat.add_zero (p * 1048576)] at this
  exact this
theorem RVM.addC {d : Nat} {y : Int64} {v p : Nat} (h : RVM d y v) (hp : p ≤ 99) (hd : d < 90000) : RVM (d + 1) (y + lN (p * 100000)) (pa v (p * 1048576)) := by
  have := h.add hp (e := 0) (by omega) hd
  rw [Nat.add_zero (p * 1048576), Nat.add_zero (p * 100000)] at this
  exact this
def PX (A : aS) (d : Nat) (s : pS) (g : z_S) : Prop := (∀ a, a ≤ 4 → RVX d (g.2 25 a) (s.1 a)) ∧ ∀ w i, w < A 0 1 → i ≤ A 1 w → RVX d (g.2 24 (9 * w + i)) (s.2 w i)
def PM (A : aS) (d : Nat) (s : pS) (g : z_S) : Prop := (∀ a, a ≤ 4 → RVM d (g.2 30 a) (s.1 a)) ∧ ∀ w i, w < A 0 1 → i < A 1 w → RVM d (g.2 31 (8 * w + i)) (s.2 w i)
theorem PX.mono {A : aS} {d d' : Nat} {s : pS} {g : z_S} (h : PX A d s g) (hd : d ≤ d') : PX A d' s g := ⟨fun a ha => (h.1 a ha).mono hd, fun w i hw hi => (h.2 w i hw hi).mono hd⟩
theorem PM.mono {A : aS} {d d' : Nat} {s : pS} {g : z_S} (h : PM A d s g) (hd : d ≤ d') : PM A d' s g := ⟨fun a ha => (h.1 a ha).mono hd, fun w i hw hi => (h.2 w i hw hi).mono hd⟩
theorem x_mis {A : aS} (hA : I_ok A) {g : z_S} (hX : R_X A g) {j : Nat} (hj : j < 3) : fX3_mistake (nI j) g = some (lN (ms A j), g) := by
  have := hA.2.2.2.1 j hj
  unfold fX3_mistake
  try simp (disch := omega) only [p_g, p_b, p_s, p_gin, p_gblt, p_eqL, p_leL, p_Lle, p_ltL, p_Llt, p_addL, p_subL, p_mulL, p_LmulL, p_eq, p_le, p_lt, p_add, p_sub, p_mul, p_clamp, if_pos, if_neg]
  rw [hX.2.2.2.1 j hj, p_shl20 this, p_L1, p_Ladd]
  rfl
theorem x_mis0 {A : aS} (hA : I_ok A) {g : z_S} (hX : R_X A g) : fX3_mistake 0 g = some (lN (ms A 0), g) := x_mis hA hX (j := 0) (by omega)
theorem x_mis1 {A : aS} (hA : I_ok A) {g : z_S} (hX : R_X A g) : fX3_mistake 1 g = some (lN (ms A 1), g) := x_mis hA hX (j := 1) (by omega)
theorem x_mis2 {A : aS} (hA : I_ok A) {g : z_S} (hX : R_X A g) : fX3_mistake 2 g = some (lN (ms A 2), g) := x_mis hA hX (j := 2) (by omega)
theorem x_sw1 {A : aS} (hA : I_ok A) {g : z_S} (hX : R_X A g) {d : Nat} {s : pS} (hP : PX A d s g) (hd : d < 90000) {w : Nat} (hw : w < A 0 1) {Q : Int32 × z_S → Prop} (k : Int32 → Int32 → Int32 → z_S → Option (Int32 × z_S)) (hk : ∀ g', g'.1 = g.1 → (∀ o, o ≠ 24 → g'.2 o = g.2 o) → (∀ j, j ≠ 9 * w → g'.2 24 j = g.2 24 j) → RVX (d + 1) (g'.2 24 (9 * w)) (prw A s w 0) → wp (k (nI w) (nI (9 * w)) (nI (A 3 w)) g') Q) : wp (z_loop (fX3_settleWord_B18 k) zN (nI w, nI (9 * w), nI (A 3 w), 0) g) Q := by
  have hn := hA.1.2.2.1
  obtain ⟨w1, w2, w3, w4, -⟩ := hA.2.1 w hw
  refine wp_loop (P := fun t g' => ∃ a, a ≤ 5 ∧ t = (nI w, nI (9 * w), nI (A 3 w), nI a) ∧ g'.1 = g.1 ∧ (∀ o, o ≠ 24 → g'.2 o = g.2 o) ∧ (∀ j, j ≠ 9 * w → g'.2 24 j = g.2 24 j) ∧ RVX (d + 1) (g'.2 24 (9 * w)) (bgn A s.1 w (s.2 w 0) a)) (μ := fun t _ => 5 - t.2.2.2.toNatClampNeg) ?_ zN _ _ ⟨0, by omega, rfl, rfl, fun _ _ => rfl, fun _ _ => rfl, (hP.2 w 0 hw (by omega)).mono (by omega)⟩ (by show 5 - _ < zN; rw [p_zN]; omega)
  rintro rc t g1 ⟨a, ha, rfl, e1, e2, e3, e4⟩ ih
  have hX1 := hX.same e1
  simp only [fX3_settleWord_B18]
  try simp (disch := omega) only [p_g, p_b, p_s, p_gin, p_gblt, p_eqL, p_leL, p_Lle, p_ltL, p_Llt, p_addL, p_subL, p_mulL, p_LmulL, p_eq, p_le, p_lt, p_add, p_sub, p_mul, p_clamp, if_pos, if_neg]
  by_cases h5 : 5 ≤ a
  · have : a = 5 := by omega
    subst this
    rw [if_pos h5]
    exact hk g1 e1 e2 e3 e4
  · rw [if_neg h5, x_may' hA hX1 (by omega) hw, p_b]
    by_cases hm : may A a w
    · rw [if_neg (fun q => (p_cieq.mp q) hm)]
      try simp (disch := omega) only [p_g, p_b, p_s, p_gin, p_gblt, p_eqL, p_leL, p_Lle, p_ltL, p_Llt, p_addL, p_subL, p_mulL, p_LmulL, p_eq, p_le, p_lt, p_add, p_sub, p_mul, p_clamp, if_pos, if_neg]
      rw [(hX1.2.1 w hw).2.1, p_shl20 w3, e2 25 (by omega)]
      refine ih _ _ ⟨a + 1, by omega, rfl, e1, ?_, ?_, ?_⟩ ?_
      · intro o ho; rw [p_Loff ho]; exact e2 o ho
      · intro j hj; rw [p_Lon hj]; exact e3 j hj
      · rw [p_Lat, bgn, cit_t hm]
        exact RVX.min ((hP.1 a (by omega)).addC w3) e4 (by omega)
      · show _ - (nI (_ + 1)).toNatClampNeg < _ - (nI _).toNatClampNeg
        rw [p_clamp (by omega), p_clamp (by omega)]
        omega
    · rw [if_pos (p_cieq.mpr hm)]
      refine ih _ _ ⟨a + 1, by omega, rfl, e1, e2, e3, ?_⟩ ?_
      · rw [bgn, cit_f hm]; exact e4
      · show _ - (nI (_ + 1)).toNatClampNeg < _ - (nI _).toNatClampNeg
        rw [p_clamp (by omega), p_clamp (by omega)]
        omega
theorem x_sw2 {A : aS} (hA : I_ok A) {g : z_S} (hX : R_X A g) {d : Nat} {s : pS} (hd : d < 90000) {w : Nat} (hw : w < A 0 1) (h0 : RVX (d + 1) (g.2 24 (9 * w)) (prw A s w 0)) (hr : ∀ i, 0 < i → i ≤ A 1 w → RVX d (g.2 24 (9 * w + i)) (s.2 w i)) {Q : Int32 × z_S → Prop} (k : Int32 → Int32 → z_S → Option (Int32 × z_S)) (hk : ∀ g', g'.1 = g.1 → (∀ o, o ≠ 24 → g'.2 o = g.2 o) → (∀ j, (j < 9 * w ∨ 9 * w + A 1 w < j) → g'.2 24 j = g.2 24 j) → (∀ i, i ≤ A 1 w → RVX (d + 9) (g'.2 24 (9 * w + i)) (prw A s w i)) → wp (k (nI (A 3 w)) (nI (9 * w + A 1 w)) g') Q) : wp (z_loop (fX3_settleWord_B99 k) zN (nI (A 3 w), nI (9 * w + A 1 w), nI (9 * w)) g) Q := by
  have hn := hA.1.2.2.1
  obtain ⟨w1, w2, w3, w4, -⟩ := hA.2.1 w hw
  have h6 := hA.2.2.2.1 1 (by omega)
  refine wp_loop (P := fun t g' => ∃ i, i ≤ A 1 w ∧ t = (nI (A 3 w), nI (9 * w + A 1 w), nI (9 * w + i)) ∧ g'.1 = g.1 ∧ (∀ o, o ≠ 24 → g'.2 o = g.2 o) ∧ (∀ j, (j < 9 * w ∨ 9 * w + A 1 w < j) → g'.2 24 j = g.2 24 j) ∧ (∀ j, j ≤ i → RVX (d + 1 + j) (g'.2 24 (9 * w + j)) (prw A s w j)) ∧ (∀ j, i < j → j ≤ A 1 w → g'.2 24 (9 * w + j) = g.2 24 (9 * w + j))) (μ := fun t _ => 9 * w + A 1 w - t.2.2.toNatClampNeg) ?_ zN _ _ ⟨0, by omega, rfl, rfl, fun _ _ => rfl, fun _ _ => rfl, fun j hj => by rw [show j = 0 by omega]; exact h0, fun _ _ _ => rfl⟩ (by show 9 * w + A 1 w - _ < zN; rw [p_zN]; omega)
  rintro rc t g1 ⟨i, hi, rfl, e1, e2, e3, e4, e5⟩ ih
  have hX1 := hX.same e1
  simp only [fX3_settleWord_B99]
  try simp (disch := omega) only [p_g, p_b, p_s, p_gin, p_gblt, p_eqL, p_leL, p_Lle, p_ltL, p_Llt, p_addL, p_subL, p_mulL, p_LmulL, p_eq, p_le, p_lt, p_add, p_sub, p_mul, p_clamp, if_pos, if_neg]
  by_cases h5 : 9 * w + A 1 w ≤ 9 * w + i
  · have : i = A 1 w := by omega
    subst this
    rw [if_pos h5]
    exact hk g1 e1 e2 e3 (fun j hj => (e4 j hj).mono (by omega))
  · rw [if_neg h5, x_mis1 hA hX1, p_b]
    refine ih _ _ ⟨i + 1, by omega, by rw [show 9 * w + i + 1 = 9 * w + (i + 1) by omega], e1, ?_, ?_, ?_, ?_⟩ ?_
    · intro o ho; rw [p_Loff ho]; exact e2 o ho
    · intro j hj; rw [p_Lon (by omega)]; exact e3 j hj
    · intro j hj
      by_cases q : j = i + 1
      · subst q
        rw [show 9 * w + (i + 1) = 9 * w + i + 1 by omega, p_Lat, prw_s]
        have := (e4 i (by omega)).add h6 (e := 1) (by omega)
        refine RVX.min (this.mono (by omega)) ?_ (by omega)
        rw [show 9 * w + i + 1 = 9 * w + (i + 1) by omega, e5 (i + 1) (by omega) (by omega)]
        exact (hr (i + 1) (by omega) (by omega)).mono (by omega)
      · rw [p_Lon (by omega)]; exact e4 j (by omega)
    · intro j h1 h2
      rw [p_Lon (by omega)]; exact e5 j (by omega) h2
    · show _ - (nI (9 * w + i + 1)).toNatClampNeg < _ - (nI (9 * w + i)).toNatClampNeg
      rw [p_clamp (by omega), p_clamp (by omega)]
      omega
theorem x_sw {A : aS} (hA : I_ok A) {g : z_S} (hX : R_X A g) {d : Nat} {s : pS} (hP : PX A d s g) (hd : d < 90000) {w : Nat} (hw : w < A 0 1) (h4 : s.1 4 ≤ 10000000000) : wp (fX3_settleWord (nI w) g) (fun q => q.1 = nI (ci (prw A s w (A 1 w) < s.1 (A 3 w))) ∧ q.2.1 = g.1 ∧ (∀ o, o ≠ 24 → o ≠ 25 → q.2.2 o = g.2 o) ∧ PX A (d + 9) (pst A w s) q.2) := by
  have hn := hA.1.2.2.1
  obtain ⟨w1, w2, w3, w4, -⟩ := hA.2.1 w hw
  unfold fX3_settleWord
  try simp (disch := omega) only [p_g, p_b, p_s, p_gin, p_gblt, p_eqL, p_leL, p_Lle, p_ltL, p_Llt, p_addL, p_subL, p_mulL, p_LmulL, p_eq, p_le, p_lt, p_add, p_sub, p_mul, p_clamp, if_pos, if_neg]
  rw [(hX.2.1 w hw).2.2.1, Nat.mul_comm w 9]
  refine x_sw1 hA hX hP hd hw _ ?_
  intro g1 a1 a2 a3 a4
  have hX1 := hX.same a1
  try simp (disch := omega) only [p_g, p_b, p_s, p_gin, p_gblt, p_eqL, p_leL, p_Lle, p_ltL, p_Llt, p_addL, p_subL, p_mulL, p_LmulL, p_eq, p_le, p_lt, p_add, p_sub, p_mul, p_clamp, if_pos, if_neg]
  rw [(hX1.2.1 w hw).1]
  try simp (disch := omega) only [p_g, p_b, p_s, p_gin, p_gblt, p_eqL, p_leL, p_Lle, p_ltL, p_Llt, p_addL, p_subL, p_mulL, p_LmulL, p_eq, p_le, p_lt, p_add, p_sub, p_mul, p_clamp, if_pos, if_neg]
  refine x_sw2 (s := s) hA hX1 hd hw a4 (fun i h1 h2 => by rw [a3 _ (by omega)]; exact hP.2 w i hw h2) _ ?_
  intro g2 b1 b2 b3 b4
  try simp (disch := omega) only [p_g, p_b, p_s, p_gin, p_gblt, p_eqL, p_leL, p_Lle, p_ltL, p_Llt, p_addL, p_subL, p_mulL, p_LmulL, p_eq, p_le, p_lt, p_add, p_sub, p_mul, p_clamp, if_pos, if_neg]
  have hk := hP.1 (A 3 w) (by omega)
  have e25 : g2.2 25 = g.2 25 := (b2 25 (by omega)).trans (a2 25 (by omega))
  have hrow : ∀ v i, v < A 0 1 → v ≠ w → i ≤ A 1 v → g2.2 24 (9 * v + i) = g.2 24 (9 * v + i) := by
    intro v i hv hne hi
    have := (hA.2.1 v hv).2.1
    rw [b3 _ (by omega), a3 _ (by omega)]
  rw [e25]
  have hlt := (b4 (A 1 w) (Nat.le_refl _)).lt (hk.mono (by omega : d ≤ d + 9)) (by omega) (prw_fin hA hw h4)
  by_cases c : prw A s w (A 1 w) < s.1 (A 3 w)
  · rw [if_pos (hlt.mpr c)]
    refine wp_some ⟨by rw [ci_t c]; rfl, b1.trans a1, ?_, ?_, ?_⟩
    · intro o h1 h2; rw [p_Loff h2]; exact (b2 o h1).trans (a2 o h1)
    · intro a ha
      rw [pst_1]
      by_cases e : a = A 3 w
      · subst e; rw [p_Lat, if_pos rfl, Nat.min_eq_right (by omega)]; exact b4 _ (Nat.le_refl _)
      · rw [p_Lon e, if_neg e, e25]; exact (hP.1 a ha).mono (by omega)
    · intro v i hv hi
      rw [p_Loff (by decide), pst_2]
      by_cases e : v = w
      · subst e; rw [if_pos rfl]; exact b4 i hi
      · rw [if_neg e, hrow v i hv e hi]; exact (hP.2 v i hv hi).mono (by omega)
  · rw [if_neg (fun q => c (hlt.mp q))]
    refine wp_some ⟨by rw [ci_f c]; rfl, b1.trans a1, ?_, ?_, ?_⟩
    · intro o h1 h2; exact (b2 o h1).trans (a2 o h1)
    · intro a ha
      rw [pst_1]
      by_cases e : a = A 3 w
      · subst e; rw [if_pos rfl, Nat.min_eq_left (by omega), e25]; exact hk.mono (by omega)
      · rw [if_neg e, e25]; exact (hP.1 a ha).mono (by omega)
    · intro v i hv hi
      rw [pst_2]
      by_cases e : v = w
      · subst e; rw [if_pos rfl]; exact b4 i hi
      · rw [if_neg e, hrow v i hv e hi]; exact (hP.2 v i hv hi).mono (by omega)
theorem x_rnd {A : aS} (hA : I_ok A) {g : z_S} (hX : R_X A g) {d : Nat} {s : pS} (hP : PX A d s g) (hd : d + 144 < 90000) (h4 : s.1 4 ≤ 10000000000) {r : Nat} {Q : Unit × z_S → Prop} (k : Int32 → Int32 → z_S → Option (Unit × z_S)) (hk : ∀ g', g'.1 = g.1 → (∀ o, o ≠ 24 → o ≠ 25 → g'.2 o = g.2 o) → PX A (d + 144) (prn A (A 0 1) s) g' → wp (k (nI (ci (mvd A s (A 0 1)))) (nI r) g') Q) : wp (z_loop (fX3_settle_B18 k) zN (0, nI r, 0) g) Q := by
  have hn := hA.1.2.2.1
  have hm0 : ci (mvd A s 0) = 0 := ci_f (fun ⟨w, h, _⟩ => by omega)
  refine wp_loop (P := fun t g' => ∃ w, w ≤ A 0 1 ∧ t = (nI (ci (mvd A s w)), nI r, nI w) ∧ g'.1 = g.1 ∧ (∀ o, o ≠ 24 → o ≠ 25 → g'.2 o = g.2 o) ∧ PX A (d + 9 * w) (prn A w s) g') (μ := fun t _ => A 0 1 - t.2.2.toNatClampNeg) ?_ zN _ _ ⟨0, by omega, by rw [hm0]; rfl, rfl, fun _ _ _ => rfl, hP⟩ (by show A 0 1 - _ < zN; rw [p_zN]; omega)
  rintro rc t g1 ⟨w, hw, rfl, e1, e2, e3⟩ ih
  have hX1 := hX.same e1
  simp only [fX3_settle_B18]
  rw [hX1.1.2.1]
  try simp (disch := omega) only [p_g, p_b, p_s, p_gin, p_gblt, p_eqL, p_leL, p_Lle, p_ltL, p_Llt, p_addL, p_subL, p_mulL, p_LmulL, p_eq, p_le, p_lt, p_add, p_sub, p_mul, p_clamp, if_pos, if_neg]
  by_cases h5 : A 0 1 ≤ w
  · have : w = A 0 1 := by omega
    subst this
    rw [if_pos h5]
    exact hk g1 e1 e2 (e3.mono (by omega))
  · rw [if_neg h5]
    apply wp_b
    refine wp_mono (x_sw hA hX1 e3 (by omega) (by omega : w < A 0 1) (Nat.le_trans ((prn_le w).1 4) h4)) ?_
    rintro ⟨v, g2⟩ ⟨b1, b2, b3, b4⟩
    simp only [] at b1 b2 b3 b4 ⊢
    subst b1
    have hfr : ∀ o, o ≠ 24 → o ≠ 25 → g2.2 o = g.2 o := fun o h1 h2 => (b3 o h1 h2).trans (e2 o h1 h2)
    have hdec : A 0 1 - (nI (w + 1)).toNatClampNeg < A 0 1 - (nI w).toNatClampNeg := by
      rw [p_clamp (by omega), p_clamp (by omega)]
      omega
    by_cases c : prw A (prn A w s) w (A 1 w) < (prn A w s).1 (A 3 w)
    · rw [if_neg (fun q => (p_cieq.mp q) c)]
      refine ih _ _ ⟨w + 1, by omega, ?_, b2.trans e1, hfr, b4.mono (by omega)⟩ hdec
      rw [ci_t (mvd_s.mpr (Or.inr c))]; rfl
    · rw [if_pos (p_cieq.mpr c)]
      refine ih _ _ ⟨w + 1, by omega, ?_, b2.trans e1, hfr, b4.mono (by omega)⟩ hdec
      by_cases m : mvd A s w
      · rw [ci_t m, ci_t (mvd_s.mpr (Or.inl m))]
      · rw [ci_f m, ci_f (fun q => (mvd_s.mp q).elim m c)]
/-- the state of a settling: r rounds are over -/
def pgo (A : aS) (s s' : pS) (r b : Nat) : Prop := b ≤ 1 ∧ ple A s' s ∧ (∀ p, pcl A p → pbd A p → ple A p s → ple A p s') ∧ ((r = 0 ∧ b = 1) ∨ (1 ≤ r ∧ (pcl A s' ∨ (b = 1 ∧ ∃ T, pin A s' T (r - 1)))))
theorem pgo_0 {A : aS} {s : pS} : pgo A s s 0 1 := ⟨by omega, ⟨fun _ _ => Nat.le_refl _, fun _ _ _ _ => Nat.le_refl _⟩, fun p _ _ h => h, Or.inl ⟨rfl, rfl⟩⟩
theorem pgo_s {A : aS} (hA : I_ok A) {s s' : pS} {r b : Nat} (hs : pbd A s) (h : pgo A s s' r b) : pgo A s (prn A (A 0 1) s') (r + 1) (ci (mvd A s' (A 0 1))) := by
  obtain ⟨h1, h2, h3, h4⟩ := h
  have hb := pbd_le hs h2
  have hle := prn_ple (A := A) (s := s') (A 0 1)
  refine ⟨ci_le _, ⟨fun a ha => Nat.le_trans (hle.1 a ha) (h2.1 a ha), fun w i hw hi => Nat.le_trans (hle.2 w i hw hi) (h2.2 w i hw hi)⟩, fun p q1 q2 q3 => prn_sound hA q1 q2 (h3 p q1 q2 q3) _ (Nat.le_refl _), Or.inr ⟨by omega, ?_⟩⟩
  by_cases m : mvd A s' (A 0 1)
  · rw [ci_t m]
    rcases h4 with ⟨e1, e2⟩ | ⟨e1, e2 | ⟨e2, T, e3⟩⟩
    · subst e1
      exact Or.inr ⟨rfl, 0, rnd_ch, fun w a _ _ _ q => by omega, by omega⟩
    · exact absurd m (cl_still hA hb e2)
    · by_cases c : pcl A s'
      · exact absurd m (cl_still hA hb c)
      · obtain ⟨T', q⟩ := pin_step hA hb e3 c
        exact Or.inr ⟨rfl, T', by rw [show r + 1 - 1 = r - 1 + 1 by omega]; exact q⟩
  · exact Or.inl (rnd_cl m)
theorem pgo_e {A : aS} {s s' : pS} {r b : Nat} (h : pgo A s s' r b) (hr : b = 0 ∨ 7 ≤ r) : pse A s s' := by
  obtain ⟨h1, h2, h3, h4⟩ := h
  refine ⟨h2, ?_, h3⟩
  rcases h4 with ⟨e1, e2⟩ | ⟨e1, e2 | ⟨e2, T, e3⟩⟩
  · omega
  · exact e2
  · have := pin_5 e3; omega
theorem pgo_r {A : aS} {s s' : pS} {r : Nat} (h : pgo A s s' r 1) (hr : 7 ≤ r) : pcl A s' := (pgo_e h (Or.inr hr)).2.1
theorem x_settle {A : aS} (hA : I_ok A) {g : z_S} (hX : R_X A g) {d : Nat} {s : pS} (hs : pbd A s) (hP : PX A d s g) (hd : d + 1440 < 90000) (h4 : s.1 4 ≤ 10000000000) : wp (fX3_settle g) (fun q => q.2.1 = g.1 ∧ (∀ o, o ≠ 24 → o ≠ 25 → q.2.2 o = g.2 o) ∧ ∃ r, pse A s r ∧ PX A (d + 1440) r q.2) := by
  unfold fX3_settle
  refine wp_loop (P := fun t g' => ∃ (r b : Nat) (s' : pS), r ≤ 10 ∧ t = (nI b, nI r) ∧ g'.1 = g.1 ∧ (∀ o, o ≠ 24 → o ≠ 25 → g'.2 o = g.2 o) ∧ pgo A s s' r b ∧ PX A (d + 144 * r) s' g') (μ := fun t _ => 10 - t.2.toNatClampNeg) ?_ zN _ _ ⟨0, 1, s, by omega, rfl, rfl, fun _ _ _ => rfl, pgo_0, hP⟩ (by show 10 - _ < zN; rw [p_zN]; omega)
  rintro rc t g1 ⟨r, b, s', hr, rfl, e1, e2, e3, e4⟩ ih
  have hX1 := hX.same e1
  have hb := e3.1
  simp only [fX3_settle_B4]
  try simp (disch := omega) only [p_g, p_b, p_s, p_gin, p_gblt, p_eqL, p_leL, p_Lle, p_ltL, p_Llt, p_addL, p_subL, p_mulL, p_LmulL, p_eq, p_le, p_lt, p_add, p_sub, p_mul, p_clamp, if_pos, if_neg]
  by_cases h10 : 10 ≤ r
  · rw [if_pos h10]
    exact wp_some ⟨e1, e2, s', pgo_e e3 (Or.inr (by omega)), e4.mono (by omega)⟩
  · rw [if_neg h10]
    by_cases hb0 : b = 0
    · subst hb0
      rw [if_pos rfl]
      exact wp_some ⟨e1, e2, s', pgo_e e3 (Or.inl rfl), e4.mono (by omega)⟩
    · rw [if_neg hb0]
      refine x_rnd hA hX1 e4 (by omega) (Nat.le_trans (e3.2.1.1 4 (by omega)) h4) _ ?_
      intro g2 b1 b2 b3
      try simp (disch := omega) only [p_g, p_b, p_s, p_gin, p_gblt, p_eqL, p_leL, p_Lle, p_ltL, p_Llt, p_addL, p_subL, p_mulL, p_LmulL, p_eq, p_le, p_lt, p_add, p_sub, p_mul, p_clamp, if_pos, if_neg]
      refine ih _ _ ⟨r + 1, _, _, by omega, rfl, b1.trans e1, fun o h1 h2 => (b2 o h1 h2).trans (e2 o h1 h2), pgo_s hA hs e3, b3.mono (by omega)⟩ ?_
      show _ - (nI (_ + 1)).toNatClampNeg < _ - (nI _).toNatClampNeg
      rw [p_clamp (by omega), p_clamp (by omega)]
      omega

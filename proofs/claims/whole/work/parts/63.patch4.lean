/-! patched: the class takes letters -/
theorem RVX_far {d : Nat} : RVX d 1152921504606846976 pC := ⟨1152921504606846976, rfl, by have := pC_eq; omega, by omega⟩
theorem RVX_0 {d : Nat} : RVX d 0 0 := ⟨0, rfl, by have := pC_eq; omega, by omega⟩
theorem RVX.add0 {d : Nat} {y : Int64} {v : Nat} (h : RVX d y v) : RVX (d + 1) (y + 0) (pa v 0) := by
  have := h.addC (p := 0) (by omega)
  rw [Nat.zero_mul] at this
  exact this
theorem x_tk1 {A : aS} (hA : I_ok A) {g : z_S} (hX : R_X A g) {d : Nat} {s : pS} (hP : PX A d s g) {c : Nat} {Q : Unit × z_S → Prop} (k : Int32 → z_S → Option (Unit × z_S)) (hk : ∀ g', g'.1 = g.1 → (∀ o, o ≠ 25 → g'.2 o = g.2 o) → (∀ a, a ≤ 4 → RVX (d + 1) (g'.2 25 a) (pa (s.1 a) (ms A 2))) → wp (k (nI c) g') Q) : wp (z_loop (fX3_takeLetter_B2 k) zN (nI c, 0) g) Q := by
  have h6 := hA.2.2.2.1 2 (by omega)
  refine wp_loop (P := fun t g' => ∃ a, a ≤ 5 ∧ t = (nI c, nI a) ∧ g'.1 = g.1 ∧ (∀ o, o ≠ 25 → g'.2 o = g.2 o) ∧ (∀ b, b < a → RVX (d + 1) (g'.2 25 b) (pa (s.1 b) (ms A 2))) ∧ (∀ b, a ≤ b → g'.2 25 b = g.2 25 b)) (μ := fun t _ => 5 - t.2.toNatClampNeg) ?_ zN _ _ ⟨0, by omega, rfl, rfl, fun _ _ => rfl, fun b h => by omega, fun _ _ => rfl⟩ (by show 5 - _ < zN; rw [p_zN]; omega)
  rintro rc t g1 ⟨a, ha, rfl, e1, e2, e3, e4⟩ ih
  have hX1 := hX.same e1
  simp only [fX3_takeLetter_B2]
  try simp (disch := omega) only [p_g, p_b, p_s, p_gin, p_gblt, p_eqL, p_leL, p_Lle, p_ltL, p_Llt, p_addL, p_subL, p_mulL, p_LmulL, p_eq, p_le, p_lt, p_add, p_sub, p_mul, p_clamp, if_pos, if_neg]
  by_cases h5 : 5 ≤ a
  · rw [if_pos h5]
    exact hk g1 e1 e2 (fun b hb => e3 b (by omega))
  · rw [if_neg h5, x_mis2 hA hX1, p_b]
    refine ih _ _ ⟨a + 1, by omega, rfl, e1, ?_, ?_, ?_⟩ ?_
    · intro o ho; rw [p_Loff ho]; exact e2 o ho
    · intro b hb
      by_cases q : b = a
      · subst q
        rw [p_Lat, e4 b (by omega)]
        exact (hP.1 b (by omega)).add h6 (e := 1) (by omega)
      · rw [p_Lon q]; exact e3 b (by omega)
    · intro b hb; rw [p_Lon (by omega)]; exact e4 b (by omega)
    · show _ - (nI (_ + 1)).toNatClampNeg < _ - (nI _).toNatClampNeg
      rw [p_clamp (by omega), p_clamp (by omega)]
      omega
theorem x_tkJ {A : aS} (hA : I_ok A) {g : z_S} (hX : R_X A g) {d : Nat} {s : pS} (hd : d < 90000) {c w i : Nat} (hw : w < A 0 1) (hi : 0 < i) (hi2 : i ≤ A 1 w) {s0 s1 : Int64} (h1 : RVX (d + 1) (s1 + s0) (pa (s.2 w (i - 1)) (ow A c w (i - 1)))) (h2 : RVX d (g.2 24 (9 * w + i)) (s.2 w i)) {Q : Unit × z_S → Prop} {rc : Int32 × Int32 × Int32 × Int32 × Int32 → z_S → Option (Unit × z_S)} (hk : ∀ z, RVX (d + 1) z ((pX A c s).2 w i) → wp (rc (nI c, nI w, nI (9 * w), nI (A 1 w), nI (i - 1)) (z_wl g 24 (9 * w + i) z)) Q) : wp (fX3_takeLetter_J101 rc (nI c) (nI w) (nI (9 * w)) (nI (A 1 w)) (nI i) s0 s1 g) Q := by
  have hn := hA.1.2.2.1
  obtain ⟨w1, w2, w3, w4, -⟩ := hA.2.1 w hw
  have h6 := hA.2.2.2.1 2 (by omega)
  have ep : (pX A c s).2 w i = if i < A 1 w then min (pa (s.2 w (i - 1)) (ow A c w (i - 1))) (pa (s.2 w i) (ms A 2)) else pa (s.2 w (i - 1)) (ow A c w (i - 1)) := by
    show (if i = 0 then pC else _) = _
    rw [if_neg (by omega)]
  unfold fX3_takeLetter_J101 fX3_takeLetter_J132
  try simp (disch := omega) only [p_g, p_b, p_s, p_gin, p_gblt, p_eqL, p_leL, p_Lle, p_ltL, p_Llt, p_addL, p_subL, p_mulL, p_LmulL, p_eq, p_le, p_lt, p_add, p_sub, p_mul, p_clamp, if_pos, if_neg]
  rw [p_m1 hi]
  by_cases c1 : A 1 w ≤ i
  · rw [if_pos c1]
    refine hk _ ?_
    rw [ep, if_neg (show ¬ i < A 1 w by omega)]
    have := RVX.min (d := d + 1) (RVX_far) h1 (by omega)
    rw [Nat.min_eq_right (pa_le _ _)] at this
    exact this
  · rw [if_neg c1, x_mis2 hA hX, p_b]
    refine hk _ ?_
    rw [ep, if_pos (show i < A 1 w by omega), Nat.min_comm]
    exact RVX.min (h2.add h6 (e := 1) (by omega)) h1 (by omega)
theorem x_tk2 {A : aS} (hA : I_ok A) {g : z_S} (hX : R_X A g) {d : Nat} {s : pS} (hd : d < 90000) {c w : Nat} (hc : c < 8) (hw : w < A 0 1) (hP : ∀ i, i ≤ A 1 w → RVX d (g.2 24 (9 * w + i)) (s.2 w i)) {Q : Unit × z_S → Prop} (k : Int32 → Int32 → Int32 → z_S → Option (Unit × z_S)) (hk : ∀ g', g'.1 = g.1 → (∀ o, o ≠ 24 → g'.2 o = g.2 o) → (∀ j, (j < 9 * w ∨ 9 * w + A 1 w < j) → g'.2 24 j = g.2 24 j) → (∀ i, 0 < i → i ≤ A 1 w → RVX (d + 1) (g'.2 24 (9 * w + i)) ((pX A c s).2 w i)) → wp (k (nI c) (nI w) (nI (9 * w)) g') Q) : wp (z_loop (fX3_takeLetter_B60 k) zN (nI c, nI w, nI (9 * w), nI (A 1 w), nI (A 1 w)) g) Q := by
  have hn := hA.1.2.2.1
  obtain ⟨w1, w2, w3, w4, w5⟩ := hA.2.1 w hw
  have hk8 := hA.1.2.1
  have h6 := hA.2.2.2.1 0 (by omega)
  refine wp_loop (P := fun t g' => ∃ i, i ≤ A 1 w ∧ t = (nI c, nI w, nI (9 * w), nI (A 1 w), nI i) ∧ g'.1 = g.1 ∧ (∀ o, o ≠ 24 → g'.2 o = g.2 o) ∧ (∀ j, (j < 9 * w ∨ 9 * w + A 1 w < j) → g'.2 24 j = g.2 24 j) ∧ (∀ j, j ≤ i → g'.2 24 (9 * w + j) = g.2 24 (9 * w + j)) ∧ (∀ j, i < j → j ≤ A 1 w → RVX (d + 1) (g'.2 24 (9 * w + j)) ((pX A c s).2 w j))) (μ := fun t _ => t.2.2.2.2.toNatClampNeg) ?_ zN _ _ ⟨A 1 w, Nat.le_refl _, rfl, rfl, fun _ _ => rfl, fun _ _ => rfl, fun _ _ => rfl, fun j h1 h2 => by omega⟩ (by show (nI (A 1 w)).toNatClampNeg < zN; rw [p_zN, p_clamp (by omega)]; omega)
  rintro rc t g1 ⟨i, hi, rfl, e1, e2, e3, e4, e5⟩ ih
  have hX1 := hX.same e1
  simp only [fX3_takeLetter_B60]
  by_cases h0 : i = 0
  · subst h0
    rw [if_pos (by decide)]
    exact hk g1 e1 e2 e3 e5
  · rw [if_neg (by rw [p_leL (by omega) (by omega)]; omega)]
    try simp (disch := omega) only [p_g, p_b, p_s, p_gin, p_gblt, p_eqL, p_leL, p_Lle, p_ltL, p_Llt, p_addL, p_subL, p_mulL, p_LmulL, p_eq, p_le, p_lt, p_add, p_sub, p_mul, p_clamp, if_pos, if_neg]
    rw [x_sign hA hX1 hw (by omega), p_b]
    have hs4 := w5 (i - 1) (by omega)
    have go : ∀ z, RVX (d + 1) z ((pX A c s).2 w i) → wp (rc (nI c, nI w, nI (9 * w), nI (A 1 w), nI (i - 1)) (z_wl g1 24 (9 * w + i) z)) Q := by
      intro z hz
      refine ih _ _ ⟨i - 1, by omega, rfl, e1, ?_, ?_, ?_, ?_⟩ ?_
      · intro o ho; rw [p_Loff ho]; exact e2 o ho
      · intro j hj; rw [p_Lon (by omega)]; exact e3 j hj
      · intro j hj; rw [p_Lon (by omega)]; exact e4 j (by omega)
      · intro j h1 h2
        by_cases q : j = i
        · subst q; rw [p_Lat]; exact hz
        · rw [p_Lon (by omega)]; exact e5 j (by omega) h2
      · show (nI (i - 1)).toNatClampNeg < (nI i).toNatClampNeg
        rw [p_clamp (by omega), p_clamp (by omega)]
        omega
    have hprev : RVX d (g1.2 24 (9 * w + i - 1)) (s.2 w (i - 1)) := by
      rw [show 9 * w + i - 1 = 9 * w + (i - 1) by omega, e4 _ (by omega)]
      exact hP (i - 1) (by omega)
    have hcur : RVX d (g1.2 24 (9 * w + i)) (s.2 w i) := by
      rw [e4 _ (by omega)]; exact hP i hi
    by_cases q : A 4 (8 * w + (i - 1)) = c
    · rw [if_pos (by rw [q])]
      refine x_tkJ hA hX1 hd hw (by omega) hi ?_ hcur go
      rw [show ow A c w (i - 1) = 0 from if_pos q]
      exact hprev.add0
    · rw [if_neg (by rw [p_eq (by omega) (by omega)]; exact q), x_mis0 hA hX1, p_b]
      refine x_tkJ hA hX1 hd hw (by omega) hi ?_ hcur go
      rw [show ow A c w (i - 1) = ms A 0 from if_neg q]
      exact hprev.add h6 (e := 1) (by omega)
theorem x_take {A : aS} (hA : I_ok A) {g : z_S} (hX : R_X A g) {d : Nat} {s : pS} (hP : PX A d s g) (hd : d < 90000) {c : Nat} (hc : c < 8) : wp (fX3_takeLetter (nI c) g) (fun q => q.2.1 = g.1 ∧ (∀ o, o ≠ 24 → o ≠ 25 → q.2.2 o = g.2 o) ∧ PX A (d + 1) (pX A c s) q.2) := by
  have hn := hA.1.2.2.1
  unfold fX3_takeLetter
  refine x_tk1 hA hX hP _ ?_
  intro g1 a1 a2 a3
  refine wp_loop (P := fun t g' => ∃ w, w ≤ A 0 1 ∧ t = (nI c, nI w) ∧ g'.1 = g.1 ∧ (∀ o, o ≠ 24 → g'.2 o = g1.2 o) ∧ (∀ v i, v < w → i ≤ A 1 v → RVX (d + 1) (g'.2 24 (9 * v + i)) ((pX A c s).2 v i)) ∧ (∀ v i, w ≤ v → i ≤ 8 → g'.2 24 (9 * v + i) = g.2 24 (9 * v + i))) (μ := fun t _ => A 0 1 - t.2.toNatClampNeg) ?_ zN _ _ ⟨0, by omega, rfl, a1, fun _ _ => rfl, fun v i h => by omega, fun v i _ _ => by rw [a2 24 (by omega)]⟩ (by show A 0 1 - _ < zN; rw [p_zN]; omega)
  rintro rc t g2 ⟨w, hw, rfl, e1, e2, e3, e4⟩ ih
  have hX2 := hX.same e1
  simp only [fX3_takeLetter_B29]
  rw [hX2.1.2.1]
  try simp (disch := omega) only [p_g, p_b, p_s, p_gin, p_gblt, p_eqL, p_leL, p_Lle, p_ltL, p_Llt, p_addL, p_subL, p_mulL, p_LmulL, p_eq, p_le, p_lt, p_add, p_sub, p_mul, p_clamp, if_pos, if_neg]
  by_cases h5 : A 0 1 ≤ w
  · have : w = A 0 1 := by omega
    subst this
    rw [if_pos h5]
    refine wp_some ⟨e1, fun o h1 h2 => (e2 o h1).trans (a2 o h2), fun a ha => ?_, fun v i hv hi => e3 v i hv hi⟩
    rw [e2 25 (by omega)]; exact a3 a ha
  · have hw' : w < A 0 1 := by omega
    obtain ⟨w1, w2, w3, w4, w5⟩ := hA.2.1 w hw'
    rw [if_neg h5]
    try simp (disch := omega) only [p_g, p_b, p_s, p_gin, p_gblt, p_eqL, p_leL, p_Lle, p_ltL, p_Llt, p_addL, p_subL, p_mulL, p_LmulL, p_eq, p_le, p_lt, p_add, p_sub, p_mul, p_clamp, if_pos, if_neg]
    rw [(hX2.2.1 w hw').1, Nat.mul_comm w 9]
    refine x_tk2 (s := s) hA hX2 hd hc hw' (fun i hi => by rw [e4 w i (Nat.le_refl _) (by omega)]; exact hP.2 w i hw' hi) _ ?_
    intro g3 b1 b2 b3 b4
    try simp (disch := omega) only [p_g, p_b, p_s, p_gin, p_gblt, p_eqL, p_leL, p_Lle, p_ltL, p_Llt, p_addL, p_subL, p_mulL, p_LmulL, p_eq, p_le, p_lt, p_add, p_sub, p_mul, p_clamp, if_pos, if_neg]
    refine ih _ _ ⟨w + 1, by omega, rfl, b1.trans e1, ?_, ?_, ?_⟩ ?_
    · intro o ho; rw [p_Loff ho]; exact (b2 o ho).trans (e2 o ho)
    · intro v i hv hi
      by_cases q : v = w
      · subst q
        by_cases q0 : i = 0
        · subst q0; rw [show 9 * v + 0 = 9 * v from rfl, p_Lat]; exact RVX_far
        · rw [p_Lon (by omega)]; exact b4 i (by omega) hi
      · have := (hA.2.1 v (by omega)).2.1
        rw [p_Lon (by omega), b3 _ (by omega)]
        exact e3 v i (by omega) hi
    · intro v i hv hi
      rw [p_Lon (by omega), b3 _ (by omega)]
      exact e4 v i (by omega) hi
    · show _ - (nI (_ + 1)).toNatClampNeg < _ - (nI _).toNatClampNeg
      rw [p_clamp (by omega), p_clamp (by omega)]
      omega
/-- letter by letter -/
def seqX (A : aS) : Nat → pS → Prop
  | 0, r => pse A p0 r
  | x + 1, r => ∃ s, seqX A x s ∧ pse A (pX A (A 7 x) s) r
def seqM (A : aS) : Nat → pS → Prop
  | 0, r => pse A p0 r
  | x + 1, r => ∃ s, seqM A x s ∧ pse A (pM A (A 7 x) s) r
theorem seqX_att {A : aS} (hA : I_ok A) : ∀ x r, seqX A x r → Att A r
  | 0, r, h => Att_of hA p0_bd h (fun _ _ => rfl)
  | x + 1, r, ⟨s, _, h⟩ => Att_of hA pX_bd h (fun _ _ => rfl)
theorem seq_eq {A : aS} (hA : I_ok A) : ∀ x r r', seqX A x r → seqM A x r' → peq A r r'
  | 0, r, r', h, h' => pse_eq p0_bd h h'
  | x + 1, r, r', ⟨s, h1, h2⟩, ⟨s', h1', h2'⟩ => pse_two hA (seq_eq hA x s s' h1 h1') (seqX_att hA x s h1) h2 h2'
theorem seqX_4 {A : aS} (hA : I_ok A) : ∀ x r, seqX A x r → r.1 4 ≤ x * 103809025
  | 0, r, h => by
    have := h.1.1 4 (by omega)
    have e : (p0 : pS).1 4 = 0 := by show (if (4 : Nat) = 4 then 0 else pC) = 0; rw [if_pos rfl]
    omega
  | x + 1, r, ⟨s, h1, h2⟩ => by
    have h3 := h2.1.1 4 (by omega)
    have e : (pX A (A 7 x) s).1 4 = pa (s.1 4) (ms A 2) := rfl
    have h4 := seqX_4 hA x s h1
    have h5 := ms_le hA (j := 2) (by omega)
    rw [e] at h3
    unfold pa at h3
    omega
theorem seqM_4 {A : aS} (hA : I_ok A) : ∀ x r, seqM A x r → r.1 4 ≤ x * 103809025
  | 0, r, h => by
    have := h.1.1 4 (by omega)
    have e : (p0 : pS).1 4 = 0 := by show (if (4 : Nat) = 4 then 0 else pC) = 0; rw [if_pos rfl]
    omega
  | x + 1, r, ⟨s, h1, h2⟩ => by
    have h3 := h2.1.1 4 (by omega)
    have e : (pM A (A 7 x) s).1 4 = bl A (A 7 x) s 4 (A 0 1) := rfl
    have h4 := (bl_le (A := A) (c := A 7 x) (s := s) (k := 4) (A 0 1)).1
    have h5 := seqM_4 hA x s h1
    have h6 := ms_le hA (j := 2) (by omega)
    rw [e] at h3
    unfold pa at h4
    omega
theorem pse_bd {A : aS} {s r : pS} (h : pse A s r) (hs : pbd A s) : pbd A r := pbd_le hs h.1
theorem seqX_bd {A : aS} : ∀ x r, seqX A x r → pbd A r
  | 0, _, h => pse_bd h p0_bd
  | _ + 1, _, ⟨_, _, h⟩ => pse_bd h pX_bd
theorem seqM_bd {A : aS} : ∀ x r, seqM A x r → pbd A r
  | 0, _, h => pse_bd h p0_bd
  | _ + 1, _, ⟨_, _, h⟩ => pse_bd h pM_bd
noncomputable def pmn (r : pS) : Nat → Nat
  | 0 => pC
  | a + 1 => min (r.1 a) (pmn r a)
theorem pmn_eq {A : aS} {r r' : pS} (h : peq A r r') : ∀ a, a ≤ 5 → pmn r a = pmn r' a
  | 0, _ => rfl
  | a + 1, ha => by rw [pmn, pmn, pmn_eq h a (by omega), h.1 a (by omega)]
theorem pmn_le {r : pS} : ∀ a b, b < a → pmn r a ≤ r.1 b
  | 0, _, h => by omega
  | a + 1, b, h => by
    rw [pmn]
    by_cases e : b = a
    · subst e; omega
    · have := pmn_le (r := r) a b (by omega); omega
theorem x_pmin {A : aS} (hA : I_ok A) {g : z_S} {d : Nat} {r : pS} (hP : PX A d r g) (hd : d < 90000) : wp (z_loop fX3_leastInAll_B108 zN (1152921504606846976, 0) g) (fun q => RVX d q.1 (pmn r 5) ∧ q.2 = g) := by
  refine wp_loop (P := fun t g' => ∃ a, a ≤ 5 ∧ t.2 = nI a ∧ RVX d t.1 (pmn r a) ∧ g' = g) (μ := fun t _ => 5 - t.2.toNatClampNeg) ?_ zN _ _ ⟨0, by omega, rfl, RVX_far, rfl⟩ (by show 5 - _ < zN; rw [p_zN]; omega)
  rintro rc ⟨t1, t2⟩ g1 ⟨a, ha, e1, e2, rfl⟩ ih
  simp only [] at e1 e2
  subst e1
  simp only [fX3_leastInAll_B108]
  try simp (disch := omega) only [p_g, p_b, p_s, p_gin, p_gblt, p_eqL, p_leL, p_Lle, p_ltL, p_Llt, p_addL, p_subL, p_mulL, p_LmulL, p_eq, p_le, p_lt, p_add, p_sub, p_mul, p_clamp, if_pos, if_neg]
  by_cases h5 : 5 ≤ a
  · have : a = 5 := by omega
    subst this
    rw [if_pos h5]
    exact wp_some ⟨e2, rfl⟩
  · rw [if_neg h5]
    try simp (disch := omega) only [p_g, p_b, p_s, p_gin, p_gblt, p_eqL, p_leL, p_Lle, p_ltL, p_Llt, p_addL, p_subL, p_mulL, p_LmulL, p_eq, p_le, p_lt, p_add, p_sub, p_mul, p_clamp, if_pos, if_neg]
    refine ih _ _ ⟨a + 1, by omega, rfl, ?_, rfl⟩ ?_
    · exact RVX.min (hP.1 a (by omega)) e2 (by omega)
    · show _ - (nI (_ + 1)).toNatClampNeg < _ - (nI _).toNatClampNeg
      rw [p_clamp (by omega), p_clamp (by omega)]
      omega
theorem x_patch {A : aS} (hA : I_ok A) {g : z_S} (hX : R_X A g) : wp (fX3_leastInAll g) (fun q => q.2.1 = g.1 ∧ ∃ r, seqX A (A 0 2) r ∧ RVX 80000 q.1 (pmn r 5)) := by
  have hn := hA.1.2.2.1
  have hd48 : A 0 2 ≤ 48 := hA.1.2.2.2.1
  have hk8 := hA.1.2.1
  unfold fX3_leastInAll
  refine wp_loop (P := fun t g' => ∃ i, i ≤ A 0 1 * 9 ∧ t = nI i ∧ g'.1 = g.1 ∧ (∀ j, j < i → g'.2 24 j = 1152921504606846976)) (μ := fun t _ => A 0 1 * 9 - t.toNatClampNeg) ?_ zN _ _ ⟨0, by omega, rfl, rfl, fun j h => by omega⟩ (by show A 0 1 * 9 - _ < zN; rw [p_zN]; omega)
  rintro rc t g1 ⟨i, hi, rfl, e1, e2⟩ ih
  have hX1 := hX.same e1
  simp only [fX3_leastInAll_B2]
  rw [hX1.1.2.1]
  try simp (disch := omega) only [p_g, p_b, p_s, p_gin, p_gblt, p_eqL, p_leL, p_Lle, p_ltL, p_Llt, p_addL, p_subL, p_mulL, p_LmulL, p_eq, p_le, p_lt, p_add, p_sub, p_mul, p_clamp, if_pos, if_neg]
  by_cases h5 : A 0 1 * 9 ≤ i
  · rw [if_pos h5]
    refine wp_loop (P := fun t g' => ∃ a, a ≤ 5 ∧ t = nI a ∧ g'.1 = g.1 ∧ g'.2 24 = g1.2 24 ∧ (∀ b, b < a → g'.2 25 b = if b = 4 then 0 else 1152921504606846976)) (μ := fun t _ => 5 - t.toNatClampNeg) ?_ zN _ _ ⟨0, by omega, rfl, e1, rfl, fun b h => by omega⟩ (by show 5 - _ < zN; rw [p_zN]; omega)
    rintro rc2 t g2 ⟨a, ha, rfl, f1, f2, f3⟩ ih2
    have hX2 := hX.same f1
    simp only [fX3_leastInAll_B33]
    try simp (disch := omega) only [p_g, p_b, p_s, p_gin, p_gblt, p_eqL, p_leL, p_Lle, p_ltL, p_Llt, p_addL, p_subL, p_mulL, p_LmulL, p_eq, p_le, p_lt, p_add, p_sub, p_mul, p_clamp, if_pos, if_neg]
    by_cases ha5 : 5 ≤ a
    · rw [if_pos ha5]
      have hP : PX A 0 p0 g2 := by
        refine ⟨fun a ha => ?_, fun w i hw hi => ?_⟩
        · rw [f3 a (by omega)]
          show RVX 0 _ (if a = 4 then 0 else pC)
          split
          · exact RVX_0
          · exact RVX_far
        · have := (hA.2.1 w hw).2.1
          rw [f2, e2 _ (by omega)]; exact RVX_far
      apply wp_b
      refine wp_mono (x_settle hA hX2 p0_bd hP (by omega) (by show (if (4 : Nat) = 4 then 0 else pC) ≤ _; rw [if_pos rfl]; omega)) ?_
      rintro ⟨u, g3⟩ ⟨b1, b2, r0, b3, b4⟩
      simp only [] at b1 b2 b4 ⊢
      refine wp_loop (P := fun t g' => ∃ x, x ≤ A 0 2 ∧ t = nI x ∧ g'.1 = g.1 ∧ ∃ r, seqX A x r ∧ PX A (1440 + 1441 * x) r g') (μ := fun t _ => A 0 2 - t.toNatClampNeg) ?_ zN _ _ ⟨0, by omega, rfl, b1.trans f1, r0, b3, b4.mono (by omega)⟩ (by show A 0 2 - _ < zN; rw [p_zN]; omega)
      rintro rc3 t g4 ⟨x, hx, rfl, c1, r, c2, c3⟩ ih3
      have hX4 := hX.same c1
      simp only [fX3_leastInAll_B68]
      rw [hX4.1.2.2.1]
      try simp (disch := omega) only [p_g, p_b, p_s, p_gin, p_gblt, p_eqL, p_leL, p_Lle, p_ltL, p_Llt, p_addL, p_subL, p_mulL, p_LmulL, p_eq, p_le, p_lt, p_add, p_sub, p_mul, p_clamp, if_pos, if_neg]
      by_cases hxe : A 0 2 ≤ x
      · have : x = A 0 2 := by omega
        subst this
        rw [if_pos hxe]
        refine wp_mono (x_pmin hA c3 (by omega)) ?_
        rintro ⟨y, g5⟩ ⟨d1, d2⟩
        simp only [] at d1 d2 ⊢
        exact ⟨by rw [d2]; exact c1, r, c2, d1.mono (by omega)⟩
      · rw [if_neg hxe]
        try simp (disch := omega) only [p_g, p_b, p_s, p_gin, p_gblt, p_eqL, p_leL, p_Lle, p_ltL, p_Llt, p_addL, p_subL, p_mulL, p_LmulL, p_eq, p_le, p_lt, p_add, p_sub, p_mul, p_clamp, if_pos, if_neg]
        have hl := hA.2.2.2.2.1 x (by omega)
        rw [hX4.2.2.2.2.1 x (by omega)]
        apply wp_b
        refine wp_mono (x_take hA hX4 c3 (by omega) (by omega : A 7 x < 8)) ?_
        rintro ⟨u, g5⟩ ⟨d1, d2, d3⟩
        simp only [] at d1 d2 d3 ⊢
        apply wp_b
        have h44 : (pX A (A 7 x) r).1 4 ≤ 10000000000 := by
          have e : (pX A (A 7 x) r).1 4 = pa (r.1 4) (ms A 2) := rfl
          have := seqX_4 hA x r c2
          have := ms_le hA (j := 2) (by omega)
          rw [e]; unfold pa; omega
        refine wp_mono (x_settle hA (hX.same (d1.trans c1)) pX_bd d3 (by omega) h44) ?_
        rintro ⟨u, g6⟩ ⟨k1, k2, r6, k3, k4⟩
        simp only [] at k1 k2 k4 ⊢
        try simp (disch := omega) only [p_g, p_b, p_s, p_gin, p_gblt, p_eqL, p_leL, p_Lle, p_ltL, p_Llt, p_addL, p_subL, p_mulL, p_LmulL, p_eq, p_le, p_lt, p_add, p_sub, p_mul, p_clamp, if_pos, if_neg]
        refine ih3 _ _ ⟨x + 1, by omega, rfl, (k1.trans d1).trans c1, r6, ⟨r, c2, k3⟩, k4.mono (by omega)⟩ ?_
        show _ - (nI (_ + 1)).toNatClampNeg < _ - (nI _).toNatClampNeg
        rw [p_clamp (by omega), p_clamp (by omega)]
        omega
    · rw [if_neg ha5]
      have step : ∀ z, z = (if a = 4 then (0 : Int64) else 1152921504606846976) → wp (rc2 (nI (a + 1)) (z_wl g2 25 a z)) (fun q => q.2.1 = g.1 ∧ ∃ r, seqX A (A 0 2) r ∧ RVX 80000 q.1 (pmn r 5)) := by
        intro z hz
        refine ih2 _ _ ⟨a + 1, by omega, rfl, f1, ?_, ?_⟩ ?_
        · rw [p_Loff (by decide)]; exact f2
        · intro b hb
          by_cases q : b = a
          · subst q; rw [p_Lat]; exact hz
          · rw [p_Lon q]; exact f3 b (by omega)
        · show _ - (nI (_ + 1)).toNatClampNeg < _ - (nI _).toNatClampNeg
          rw [p_clamp (by omega), p_clamp (by omega)]
          omega
      by_cases h4 : a = 4
      · rw [if_pos h4]
        try simp (disch := omega) only [p_g, p_b, p_s, p_gin, p_gblt, p_eqL, p_leL, p_Lle, p_ltL, p_Llt, p_addL, p_subL, p_mulL, p_LmulL, p_eq, p_le, p_lt, p_add, p_sub, p_mul, p_clamp, if_pos, if_neg]
        exact step _ (by rw [if_pos h4])
      · rw [if_neg h4]
        try simp (disch := omega) only [p_g, p_b, p_s, p_gin, p_gblt, p_eqL, p_leL, p_Lle, p_ltL, p_Llt, p_addL, p_subL, p_mulL, p_LmulL, p_eq, p_le, p_lt, p_add, p_sub, p_mul, p_clamp, if_pos, if_neg]
        exact step _ (by rw [if_neg h4])
  · rw [if_neg h5]
    try simp (disch := omega) only [p_g, p_b, p_s, p_gin, p_gblt, p_eqL, p_leL, p_Lle, p_ltL, p_Llt, p_addL, p_subL, p_mulL, p_LmulL, p_eq, p_le, p_lt, p_add, p_sub, p_mul, p_clamp, if_pos, if_neg]
    refine ih _ _ ⟨i + 1, by omega, rfl, e1, ?_⟩ ?_
    · intro j hj
      by_cases q : j = i
      · subst q; rw [p_Lat]
      · rw [p_Lon q]; exact e2 j (by omega)
    · show _ - (nI (_ + 1)).toNatClampNeg < _ - (nI _).toNatClampNeg
      rw [p_clamp (by omega), p_clamp (by omega)]
      omega

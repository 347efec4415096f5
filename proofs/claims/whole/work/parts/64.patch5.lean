/-! patched: the reference -/
theorem RVM_far {d : Nat} : RVM d 1000000000000 pC := ⟨1000000000000, rfl, Or.inl ⟨rfl, by omega, by omega⟩⟩
theorem RVM_0 {d : Nat} : RVM d 0 0 := ⟨0, rfl, Or.inr ⟨0, 0, by omega, by omega, by omega, by omega⟩⟩
theorem RVM.add0 {d : Nat} {y : Int64} {v : Nat} (h : RVM d y v) (hd : d < 90000) : RVM (d + 1) (y + 0) (pa v 0) := by
  have := h.addC (p := 0) (by omega) hd
  rw [Nat.zero_mul] at this
  exact this
theorem m_mis {A : aS} (hA : I_ok A) {g : z_S} (hM : R_M A g) {j : Nat} (hj : j < 3) : fX11_mistake (nI j) g = some (lN (A 6 j * 100000 + 1), g) := by
  have := hA.2.2.2.1 j hj
  unfold fX11_mistake
  try simp (disch := omega) only [p_g, p_b, p_s, p_gin, p_gblt, p_eqL, p_leL, p_Lle, p_ltL, p_Llt, p_addL, p_subL, p_mulL, p_LmulL, p_eq, p_le, p_lt, p_add, p_sub, p_mul, p_clamp, if_pos, if_neg]
  rw [hM.2.2.2.1 j hj, p_iL (by omega), p_L1, show (100000 : Int64) = lN 100000 from rfl, p_Lmul, p_Ladd]
theorem m_mis0 {A : aS} (hA : I_ok A) {g : z_S} (hM : R_M A g) : fX11_mistake 0 g = some (lN (A 6 0 * 100000 + 1), g) := m_mis hA hM (j := 0) (by omega)
theorem m_mis1 {A : aS} (hA : I_ok A) {g : z_S} (hM : R_M A g) : fX11_mistake 1 g = some (lN (A 6 1 * 100000 + 1), g) := m_mis hA hM (j := 1) (by omega)
theorem m_mis2 {A : aS} (hA : I_ok A) {g : z_S} (hM : R_M A g) : fX11_mistake 2 g = some (lN (A 6 2 * 100000 + 1), g) := m_mis hA hM (j := 2) (by omega)
theorem m_least (a b : Int64) (g : z_S) : fX11_least a b g = some (if b ≤ a then b else a, g) := by
  unfold fX11_least
  split <;> rfl
theorem bgn_min {A : aS} {b : Nat → Nat} {w init : Nat} (h : init ≤ pC) : ∀ k, bgn A b w init k = min init (bgn A b w pC k)
  | 0 => by rw [bgn, bgn]; omega
  | k + 1 => by
    rw [bgn, bgn, bgn_min h k]
    by_cases c : may A k w
    · rw [cit_t c, cit_t c]; omega
    · rw [cit_f c, cit_f c]
theorem m_sw1 {A : aS} (hA : I_ok A) {g : z_S} (hM : R_M A g) {d : Nat} {s : pS} (hP : PM A d s g) (hd : d < 80000) {w : Nat} (hw : w < A 0 1) {v1 : Int32} {Q : Unit × z_S → Prop} (k : Int32 → Int32 → Int64 → z_S → Option (Unit × z_S)) (hk : ∀ y, RVM (d + 1) y (bgn A s.1 w pC 5) → wp (k v1 (nI w) y g) Q) : wp (z_loop (fX11_settle_B25 k) zN (v1, nI w, 1000000000000, 0) g) Q := by
  have hn := hA.1.2.2.1
  obtain ⟨w1, w2, w3, w4, -⟩ := hA.2.1 w hw
  refine wp_loop (P := fun t g' => ∃ a y, a ≤ 5 ∧ t = (v1, nI w, y, nI a) ∧ g' = g ∧ RVM (d + 1) y (bgn A s.1 w pC a)) (μ := fun t _ => 5 - t.2.2.2.toNatClampNeg) ?_ zN _ _ ⟨0, _, by omega, rfl, rfl, RVM_far⟩ (by show 5 - _ < zN; rw [p_zN]; omega)
  rintro rc t g1 ⟨a, y, ha, rfl, rfl, e4⟩ ih
  simp only [fX11_settle_B25]
  try simp (disch := omega) only [p_g, p_b, p_s, p_gin, p_gblt, p_eqL, p_leL, p_Lle, p_ltL, p_Llt, p_addL, p_subL, p_mulL, p_LmulL, p_eq, p_le, p_lt, p_add, p_sub, p_mul, p_clamp, if_pos, if_neg]
  by_cases h5 : 4 < a
  · have : a = 5 := by omega
    subst this
    rw [if_pos h5]
    exact hk y e4
  · rw [if_neg h5, m_may hA hM (by omega) hw, p_b]
    by_cases hm : may A a w
    · rw [if_neg (fun q => (p_cieq.mp q) hm)]
      try simp (disch := omega) only [p_g, p_b, p_s, p_gin, p_gblt, p_eqL, p_leL, p_Lle, p_ltL, p_Llt, p_addL, p_subL, p_mulL, p_LmulL, p_eq, p_le, p_lt, p_add, p_sub, p_mul, p_clamp, if_pos, if_neg]
      rw [m_least, p_b, (hM.2.1 w hw).2.1, p_iL (by omega), show (100000 : Int64) = lN 100000 from rfl, p_Lmul]
      refine ih _ _ ⟨a + 1, _, by omega, rfl, rfl, ?_⟩ ?_
      · rw [bgn, cit_t hm, Nat.min_comm]
        exact RVM.min e4 ((hP.1 a (by omega)).addC w3 (by omega)) (by omega)
      · show _ - (nI (_ + 1)).toNatClampNeg < _ - (nI _).toNatClampNeg
        rw [p_clamp (by omega), p_clamp (by omega)]
        omega
    · rw [if_pos (p_cieq.mpr hm)]
      refine ih _ _ ⟨a + 1, y, by omega, rfl, rfl, ?_⟩ ?_
      · rw [bgn, cit_f hm]; exact e4
      · show _ - (nI (_ + 1)).toNatClampNeg < _ - (nI _).toNatClampNeg
        rw [p_clamp (by omega), p_clamp (by omega)]
        omega
theorem prw_bd {A : aS} (hA : I_ok A) {s : pS} {w : Nat} (hw : w < A 0 1) (h4 : s.1 4 ≤ 10000000000) : ∀ i, prw A s w i ≤ 10000000000 + 103809024 + i * 103809025 := by
  have h1 := ms_le hA (j := 1) (by omega)
  have h2 := co_le hA hw
  intro i
  induction i with
  | zero =>
    rw [prw_0]
    have := (bgn_le (A := A) (b := s.1) (w := w) (init := s.2 w 0) 5).2 4 (by omega) (Or.inl rfl)
    unfold pa at this; omega
  | succ i ih => rw [prw_s]; unfold pa; omega
theorem m_sw2 {A : aS} (hA : I_ok A) {g : z_S} (hM : R_M A g) {d : Nat} {s : pS} (hd : d < 80000) {w : Nat} (hw : w < A 0 1) (h4 : s.1 4 ≤ 10000000000) (hS : s.1 (A 3 w) ≤ s.2 w (A 1 w)) (h0 : RVM (d + 1) (g.2 31 (8 * w)) (prw A s w 0)) (hr : ∀ i, 0 < i → i < A 1 w → RVM d (g.2 31 (8 * w + i)) (s.2 w i)) (hb : RVM d (g.2 30 (A 3 w)) (s.1 (A 3 w))) {v1 : Int32} {Q : Unit × z_S → Prop} (k : Int32 → Int32 → z_S → Option (Unit × z_S))
    (hk : ∀ v g', v = (if prw A s w (A 1 w) < s.1 (A 3 w) then 1 else v1) → g'.1 = g.1 → (∀ o, o ≠ 30 → o ≠ 31 → g'.2 o = g.2 o) → (∀ j, (j < 8 * w ∨ 8 * w + A 1 w ≤ j) → g'.2 31 j = g.2 31 j) → (∀ a, a ≠ A 3 w → g'.2 30 a = g.2 30 a) → RVM (d + 9) (g'.2 30 (A 3 w)) (min (s.1 (A 3 w)) (prw A s w (A 1 w))) → (∀ i, i < A 1 w → RVM (d + 9) (g'.2 31 (8 * w + i)) (prw A s w i)) → wp (k v (nI w) g') Q) : wp (z_loop (fX11_settle_B100 k) zN (v1, nI w, 0) g) Q := by
  have hn := hA.1.2.2.1
  obtain ⟨w1, w2, w3, w4, -⟩ := hA.2.1 w hw
  have h6 := hA.2.2.2.1 1 (by omega)
  have hC := pC_eq
  refine wp_loop (P := fun t g' => ∃ i v, i ≤ A 1 w ∧ t = (v, nI w, nI i) ∧ g'.1 = g.1 ∧ (∀ o, o ≠ 30 → o ≠ 31 → g'.2 o = g.2 o) ∧ (∀ j, (j < 8 * w ∨ 8 * w + A 1 w ≤ j) → g'.2 31 j = g.2 31 j) ∧ (∀ j, j ≤ i → j < A 1 w → RVM (d + 1 + j) (g'.2 31 (8 * w + j)) (prw A s w j)) ∧ (∀ j, i < j → j < A 1 w → g'.2 31 (8 * w + j) = g.2 31 (8 * w + j)) ∧ (i < A 1 w → v = v1 ∧ g'.2 30 = g.2 30) ∧ (i = A 1 w → v = (if prw A s w (A 1 w) < s.1 (A 3 w) then 1 else v1) ∧ (∀ a, a ≠ A 3 w → g'.2 30 a = g.2 30 a) ∧ RVM (d + 9) (g'.2 30 (A 3 w)) (min (s.1 (A 3 w)) (prw A s w (A 1 w))))) (μ := fun t _ => A 1 w - t.2.2.toNatClampNeg) ?_ zN _ _ ⟨0, v1, by omega, rfl, rfl, fun _ _ _ => rfl, fun _ _ => rfl, fun j hj _ => by rw [show j = 0 by omega]; exact h0, fun _ _ _ => rfl, fun _ => ⟨rfl, rfl⟩, fun q => by omega⟩ (by show A 1 w - _ < zN; rw [p_zN]; omega)
  rintro rc t g1 ⟨i, v, hi, rfl, e1, e2, e3, e4, e5, e6, e7⟩ ih
  have hM1 := hM.same e1
  simp only [fX11_settle_B100]
  try simp (disch := omega) only [p_g, p_b, p_s, p_gin, p_gblt, p_eqL, p_leL, p_Lle, p_ltL, p_Llt, p_addL, p_subL, p_mulL, p_LmulL, p_eq, p_le, p_lt, p_add, p_sub, p_mul, p_clamp, if_pos, if_neg]
  rw [(hM1.2.1 w hw).1]
  try simp (disch := omega) only [p_g, p_b, p_s, p_gin, p_gblt, p_eqL, p_leL, p_Lle, p_ltL, p_Llt, p_addL, p_subL, p_mulL, p_LmulL, p_eq, p_le, p_lt, p_add, p_sub, p_mul, p_clamp, if_pos, if_neg]
  by_cases h5 : A 1 w ≤ i
  · have : i = A 1 w := by omega
    subst this
    rw [if_pos h5]
    obtain ⟨q1, q2, q3⟩ := e7 rfl
    exact hk v g1 q1 e1 e2 e3 q2 q3 (fun j hj => (e4 j (by omega) hj).mono (by omega))
  · rw [if_neg h5, m_mis1 hA hM1, p_b]
    obtain ⟨rfl, e30⟩ := e6 (by omega)
    rw [(hM1.2.1 w hw).1]
    try simp (disch := omega) only [p_g, p_b, p_s, p_gin, p_gblt, p_eqL, p_leL, p_Lle, p_ltL, p_Llt, p_addL, p_subL, p_mulL, p_LmulL, p_eq, p_le, p_lt, p_add, p_sub, p_mul, p_clamp, if_pos, if_neg]
    have hv := (e4 i (Nat.le_refl _) (by omega)).add h6 (e := 1) (by omega) (by omega)
    have hdec : A 1 w - (nI (i + 1)).toNatClampNeg < A 1 w - (nI i).toNatClampNeg := by
      rw [p_clamp (by omega), p_clamp (by omega)]
      omega
    by_cases hl : A 1 w ≤ i + 1
    · have hiw : i + 1 = A 1 w := by omega
      rw [if_pos hl, (hM1.2.1 w hw).2.2.1]
      try simp (disch := omega) only [p_g, p_b, p_s, p_gin, p_gblt, p_eqL, p_leL, p_Lle, p_ltL, p_Llt, p_addL, p_subL, p_mulL, p_LmulL, p_eq, p_le, p_lt, p_add, p_sub, p_mul, p_clamp, if_pos, if_neg]
      have hms : A 6 1 * 1048576 + 1 = ms A 1 := rfl
      rw [hms] at hv
      have hfin : pa (prw A s w i) (ms A 1) < pC := by
        have := prw_bd hA hw h4 i
        have := ms_le hA (j := 1) (by omega)
        unfold pa; omega
      have hpw : prw A s w (A 1 w) = min (pa (prw A s w i) (ms A 1)) (s.2 w (A 1 w)) := by rw [← hiw, prw_s]
      have hlt := hv.lt (hb.mono (by omega : d ≤ d + 1 + i + 1)) (by omega) hfin
      rw [e30]
      by_cases c : pa (prw A s w i) (ms A 1) < s.1 (A 3 w)
      · have hc : prw A s w (A 1 w) < s.1 (A 3 w) := by omega
        rw [if_neg (fun q => by have := hlt.mpr c; rw [Int64.le_iff_toInt_le] at q; rw [Int64.lt_iff_toInt_lt] at this; omega)]
        try simp (disch := omega) only [p_g, p_b, p_s, p_gin, p_gblt, p_eqL, p_leL, p_Lle, p_ltL, p_Llt, p_addL, p_subL, p_mulL, p_LmulL, p_eq, p_le, p_lt, p_add, p_sub, p_mul, p_clamp, if_pos, if_neg]
        refine ih _ _ ⟨i + 1, 1, by omega, rfl, e1, ?_, ?_, ?_, ?_, fun q => by omega, fun _ => ⟨by rw [if_pos hc], ?_, ?_⟩⟩ hdec
        · intro o h1 h2; rw [p_Loff h1]; exact e2 o h1 h2
        · intro j hj; rw [p_Loff (by decide)]; exact e3 j hj
        · intro j h1 h2; rw [p_Loff (by decide)]; exact e4 j (by omega) h2
        · intro j h1 h2; omega
        · intro a ha; rw [p_Lon ha, e30]
        · rw [p_Lat, show min (s.1 (A 3 w)) (prw A s w (A 1 w)) = pa (prw A s w i) (ms A 1) by omega]
          exact hv.mono (by omega)
      · have hc : ¬ prw A s w (A 1 w) < s.1 (A 3 w) := by omega
        rw [if_pos (by
          refine Classical.byContradiction (fun q => c (hlt.mp ?_))
          rw [Int64.le_iff_toInt_le] at q
          rw [Int64.lt_iff_toInt_lt]
          omega)]
        refine ih _ _ ⟨i + 1, _, by omega, rfl, e1, e2, e3, fun j h1 h2 => e4 j (by omega) h2, fun j h1 h2 => by omega, fun q => by omega, fun _ => ⟨by rw [if_neg hc], fun a _ => by rw [e30], ?_⟩⟩ hdec
        rw [Nat.min_eq_left (by omega), e30]
        exact hb.mono (by omega)
    · rw [if_neg hl]
      try simp (disch := omega) only [p_g, p_b, p_s, p_gin, p_gblt, p_eqL, p_leL, p_Lle, p_ltL, p_Llt, p_addL, p_subL, p_mulL, p_LmulL, p_eq, p_le, p_lt, p_add, p_sub, p_mul, p_clamp, if_pos, if_neg]
      rw [m_least, p_b]
      try simp (disch := omega) only [p_g, p_b, p_s, p_gin, p_gblt, p_eqL, p_leL, p_Lle, p_ltL, p_Llt, p_addL, p_subL, p_mulL, p_LmulL, p_eq, p_le, p_lt, p_add, p_sub, p_mul, p_clamp, if_pos, if_neg]
      refine ih _ _ ⟨i + 1, _, by omega, rfl, e1, ?_, ?_, ?_, ?_, fun _ => ⟨rfl, ?_⟩, fun q => by omega⟩ hdec
      · intro o h1 h2; rw [p_Loff h2]; exact e2 o h1 h2
      · intro j hj; rw [p_Lon (by omega)]; exact e3 j hj
      · intro j h1 h2
        by_cases q : j = i + 1
        · subst q
          rw [show 8 * w + (i + 1) = 8 * w + i + 1 by omega, p_Lat, prw_s, Nat.min_comm]
          refine RVM.min ?_ (hv.mono (by omega)) (by omega)
          rw [show 8 * w + i + 1 = 8 * w + (i + 1) by omega, e5 (i + 1) (by omega) h2]
          exact (hr (i + 1) (by omega) h2).mono (by omega)
        · rw [p_Lon (by omega)]; exact e4 j (by omega) h2
      · intro j h1 h2
        rw [p_Lon (by omega)]; exact e5 j (by omega) h2
      · rw [p_Loff (by decide)]; exact e30
def pS4 (A : aS) (s : pS) : Prop := ∀ w, w < A 0 1 → s.1 (A 3 w) ≤ s.2 w (A 1 w)
theorem pst_S4 {A : aS} {s : pS} (h : pS4 A s) {m : Nat} (hm : m < A 0 1) : pS4 A (pst A m s) := by
  intro w hw
  rw [pst_2]
  split
  · rename_i e; subst e; rw [pst_1, if_pos rfl]; omega
  · exact Nat.le_trans pst_le1 (h w hw)
theorem prn_S4 {A : aS} {s : pS} (h : pS4 A s) : ∀ m, m ≤ A 0 1 → pS4 A (prn A m s)
  | 0, _ => h
  | m + 1, hm => pst_S4 (prn_S4 h m (by omega)) (by omega)
theorem m_rnd {A : aS} (hA : I_ok A) {g : z_S} (hM : R_M A g) {d : Nat} {s : pS} (hP : PM A d s g) (hd : d + 144 < 80000) (h4 : s.1 4 ≤ 10000000000) (hs : pbd A s) (hS : pS4 A s) {Q : Unit × z_S → Prop} (k : Int32 → z_S → Option (Unit × z_S)) (hk : ∀ g', g'.1 = g.1 → PM A (d + 144) (prn A (A 0 1) s) g' → wp (k (nI (ci (mvd A s (A 0 1)))) g') Q) : wp (z_loop (fX11_settle_B10 k) zN (0, 0) g) Q := by
  have hn := hA.1.2.2.1
  have hm0 : ci (mvd A s 0) = 0 := ci_f (fun ⟨w, h, _⟩ => by omega)
  refine wp_loop (P := fun t g' => ∃ w, w ≤ A 0 1 ∧ t = (nI (ci (mvd A s w)), nI w) ∧ g'.1 = g.1 ∧ PM A (d + 9 * w) (prn A w s) g') (μ := fun t _ => A 0 1 - t.2.toNatClampNeg) ?_ zN _ _ ⟨0, by omega, by rw [hm0]; rfl, rfl, hP⟩ (by show A 0 1 - _ < zN; rw [p_zN]; omega)
  rintro rc t g1 ⟨w, hw, rfl, e1, e3⟩ ih
  have hM1 := hM.same e1
  simp only [fX11_settle_B10]
  rw [hM1.1.2.1]
  try simp (disch := omega) only [p_g, p_b, p_s, p_gin, p_gblt, p_eqL, p_leL, p_Lle, p_ltL, p_Llt, p_addL, p_subL, p_mulL, p_LmulL, p_eq, p_le, p_lt, p_add, p_sub, p_mul, p_clamp, if_pos, if_neg]
  by_cases h5 : A 0 1 ≤ w
  · have : w = A 0 1 := by omega
    subst this
    rw [if_pos h5]
    exact hk g1 e1 (e3.mono (by omega))
  · have hw' : w < A 0 1 := by omega
    obtain ⟨w1, w2, w3, w4, -⟩ := hA.2.1 w hw'
    rw [if_neg h5]
    refine m_sw1 hA hM1 e3 (by omega) hw' _ ?_
    intro y hy
    try simp (disch := omega) only [p_g, p_b, p_s, p_gin, p_gblt, p_eqL, p_leL, p_Lle, p_ltL, p_Llt, p_addL, p_subL, p_mulL, p_LmulL, p_eq, p_le, p_lt, p_add, p_sub, p_mul, p_clamp, if_pos, if_neg]
    rw [m_least, p_b]
    try simp (disch := omega) only [p_g, p_b, p_s, p_gin, p_gblt, p_eqL, p_leL, p_Lle, p_ltL, p_Llt, p_addL, p_subL, p_mulL, p_LmulL, p_eq, p_le, p_lt, p_add, p_sub, p_mul, p_clamp, if_pos, if_neg]
    have hbd := pbd_le hs (prn_ple (A := A) (s := s) w)
    have h4' := Nat.le_trans ((prn_le (A := A) (s := s) w).1 4) h4
    refine m_sw2 (s := prn A w s) (d := d + 9 * w) (g := z_wl g1 31 (8 * w) _) hA (hM1.same rfl) (by omega) hw' h4' (prn_S4 hS w hw w hw') ?_ ?_ ?_ _ ?_
    · rw [p_Lat, prw_0, bgn_min (hbd.2 w 0 hw' (by omega))]
      exact RVM.min ((e3.2 w 0 hw' (by omega)).mono (by omega)) hy (by omega)
    · intro i h1 h2
      rw [p_Lon (by omega)]; exact e3.2 w i hw' h2
    · rw [p_Loff (by decide)]; exact e3.1 _ (by omega)
    · intro v g2 b0 b1 b2 b3 b4 b5 b6
      try simp (disch := omega) only [p_g, p_b, p_s, p_gin, p_gblt, p_eqL, p_leL, p_Lle, p_ltL, p_Llt, p_addL, p_subL, p_mulL, p_LmulL, p_eq, p_le, p_lt, p_add, p_sub, p_mul, p_clamp, if_pos, if_neg]
      refine ih _ _ ⟨w + 1, by omega, ?_, b1.trans e1, ?_, ?_⟩ ?_
      · subst b0
        by_cases c : prw A (prn A w s) w (A 1 w) < (prn A w s).1 (A 3 w)
        · rw [if_pos c, ci_t (mvd_s.mpr (Or.inr c))]; rfl
        · rw [if_neg c]
          by_cases m : mvd A s w
          · rw [ci_t m, ci_t (mvd_s.mpr (Or.inl m))]
          · rw [ci_f m, ci_f (fun q => (mvd_s.mp q).elim m c)]
      · intro a ha
        rw [prn, pst_1]
        by_cases e : a = A 3 w
        · subst e; rw [if_pos rfl]; exact b5.mono (by omega)
        · rw [if_neg e, b4 a e, p_Loff (by decide)]; exact (e3.1 a ha).mono (by omega)
      · intro u i hu hi
        rw [prn, pst_2]
        by_cases e : u = w
        · subst e; rw [if_pos rfl]; exact (b6 i hi).mono (by omega)
        · have := (hA.2.1 u hu).2.1
          rw [if_neg e, b3 _ (by omega), p_Lon (by omega)]
          exact (e3.2 u i hu hi).mono (by omega)
      · show _ - (nI (_ + 1)).toNatClampNeg < _ - (nI _).toNatClampNeg
        rw [p_clamp (by omega), p_clamp (by omega)]
        omega
theorem m_settle {A : aS} (hA : I_ok A) {g : z_S} (hM : R_M A g) {d : Nat} {s : pS} (hs : pbd A s) (hS : pS4 A s) (hP : PM A d s g) (hd : d + 1440 < 80000) (h4 : s.1 4 ≤ 10000000000) : wp (fX11_settle g) (fun q => q.2.1 = g.1 ∧ ∃ r, pse A s r ∧ PM A (d + 1440) r q.2) := by
  unfold fX11_settle
  refine wp_loopN (P := fun m t g' => ∃ (r b : Nat) (s' : pS), m = 10 - r ∧ r ≤ 9 ∧ (r = 9 → b = 0) ∧ t = nI b ∧ g'.1 = g.1 ∧ pS4 A s' ∧ pgo A s s' r b ∧ PM A (d + 144 * r) s' g') ?_ zN 10 _ _ ⟨0, 1, s, by omega, by omega, by omega, rfl, rfl, hS, pgo_0, hP⟩ (by rw [p_zN]; omega)
  rintro rc m t g1 ⟨r, b, s', hm, hr, hr9, rfl, e1, e2, e3, e4⟩ ih
  have hM1 := hM.same e1
  have hb := e3.1
  simp only [fX11_settle_B2]
  try simp (disch := omega) only [p_g, p_b, p_s, p_gin, p_gblt, p_eqL, p_leL, p_Lle, p_ltL, p_Llt, p_addL, p_subL, p_mulL, p_LmulL, p_eq, p_le, p_lt, p_add, p_sub, p_mul, p_clamp, if_pos, if_neg]
  by_cases hb0 : b = 0
  · subst hb0
    rw [if_pos rfl]
    exact wp_some ⟨e1, s', pgo_e e3 (Or.inl rfl), e4.mono (by omega)⟩
  · rw [if_neg hb0]
    refine m_rnd hA hM1 e4 (by omega) (Nat.le_trans (e3.2.1.1 4 (by omega)) h4) (pbd_le hs e3.2.1) e2 _ ?_
    intro g2 b1 b3
    have hb1 : b = 1 := by omega
    subst hb1
    refine ih (10 - (r + 1)) _ _ ⟨r + 1, _, _, rfl, by omega, fun q => ?_, rfl, b1.trans e1, prn_S4 e2 _ (Nat.le_refl _), pgo_s hA hs e3, b3.mono (by omega)⟩ (by omega)
    exact ci_f (cl_still hA (pbd_le hs e3.2.1) (pgo_r e3 (by omega)))

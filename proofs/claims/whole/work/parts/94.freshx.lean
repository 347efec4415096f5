/-! THE NEW WORD: the class measures with a row as a word -/
theorem mO_congr {f h : Nat → Option Nat} : ∀ n, (∀ w, w < n → f w = h w) → mO f n = mO h n
  | 0, _ => rfl
  | n + 1, e => by rw [mO, mO, mO_congr n (fun w hw => e w (by omega)), e n (by omega)]
def cdX (A : aS) (n l x : Nat) : Nat := if x + n ≤ A 8 l then cdr n (rwf A l x) else 0
def CX (A : aS) (n : Nat) (g : z_S) : Prop := ∀ l x, l < A 0 3 → x < 24 → g.1 30 (24 * l + x) = nI (cdX A n l x)
def TR (A : aS) (c n : Nat) (r : Nat → Nat) (g : z_S) : Prop := R_W A g ∧ KM A g ∧ g.1 26 15 = nI (cdr n r) ∧ g.1 26 14 = nI n ∧ g.1 26 3 = nI c ∧ CX A n g
theorem TR.ag {A : aS} (hA : I_ok A) {c n : Nat} {r : Nat → Nat} {g g' : z_S} (h : TR A c n r g) (e : ∀ o, o ≠ 31 → o ≠ 32 → g'.1 o = g.1 o) : TR A c n r g' := by
  obtain ⟨h1, h2, h3, h4, h5, h6⟩ := h
  refine ⟨R_W.ag hA h1 (fun o ho => e o (by omega) (by omega)), h2.ag (e 29 (by omega) (by omega)), ?_, ?_, ?_, ?_⟩
  · rw [e 26 (by omega) (by omega)]; exact h3
  · rw [e 26 (by omega) (by omega)]; exact h4
  · rw [e 26 (by omega) (by omega)]; exact h5
  · intro l x hl hx
    rw [e 30 (by omega) (by omega)]; exact h6 l x hl hx
theorem row_lt {A : aS} (hA : I_ok A) {l x n : Nat} (hl : l < A 0 3) (hx : x + n ≤ A 8 l) : ∀ j, j < n → rwf A l x j < 8 := by
  intro j hj
  have := (hA.2.2.2.2.2.1 l hl).2.2 (x + j) (by omega)
  have := hA.1.2.1
  show A 9 (24 * l + (x + j)) < 8
  omega
theorem cdX_le {A : aS} (hA : I_ok A) {n l x : Nat} (hl : l < A 0 3) : cdX A n l x ≤ 59048 := by
  unfold cdX
  split
  · rename_i h; exact cdr_le (row_lt hA hl h)
  · omega
theorem cdX_eq {A : aS} (hA : I_ok A) {n l x : Nat} {r : Nat → Nat} (hl : l < A 0 3) (hn : n ≤ 5) (hn1 : 1 ≤ n) (hr8 : ∀ j, j < n → r j < 8) : cdX A n l x = cdr n r ↔ (x + n ≤ A 8 l ∧ ∀ i, i < n → rwf A l x i = r i) := by
  unfold cdX
  by_cases h : x + n ≤ A 8 l
  · rw [if_pos h]
    have hr' := row_lt hA hl h
    constructor
    · intro q
      refine ⟨h, fun i hi => ?_⟩
      rw [← letC_cdr hr' hn hi, q, letC_cdr hr8 hn hi]
    · rintro ⟨_, q⟩
      have : ∀ i, dgi n (rwf A l x) i = dgi n r i := by
        intro i
        unfold dgi
        by_cases z : i < n
        · rw [if_pos z, if_pos z, q i z]
        · rw [if_neg z, if_neg z]
      unfold cdr
      rw [this, this, this, this, this]
  · rw [if_neg h]
    have := cdr_pos (n := n) (r := r) hn1
    constructor
    · intro q; omega
    · intro q; exact absurd q.1 h
theorem stR_new {A : aS} {c n : Nat} {r : Nat → Nat} {l x : Nat} (hn8 : n ≤ 8) : stR (fun i => A 9 (24 * l + i)) (A 8 l) (Ap A c n r) x (A 0 1) ↔ (x + n ≤ A 8 l ∧ ∀ i, i < n → rwf A l x i = r i) := by
  unfold stR
  rw [Ap_1, if_pos rfl]
  constructor
  · rintro ⟨q1, q2⟩
    refine ⟨q1, fun i hi => ?_⟩
    have := q2 i hi
    rw [Ap_4 (by omega), if_pos rfl, trw_lt hi] at this
    exact this
  · rintro ⟨q1, q2⟩
    refine ⟨q1, fun i hi => ?_⟩
    rw [Ap_4 (by omega), if_pos rfl, trw_lt hi]
    exact q2 i hi
theorem fK_old {A : aS} (hA : I_ok A) {c n : Nat} {r : Nat → Nat} {l x k w : Nat} (hw : w < A 0 1) : fK (Ap A c n r) l x k w = fT A l x (SL (Ap A c n r) l) k w := by
  have h8 := (hA.2.1 w hw).2.1
  have e1 : Ap A c n r 1 w = A 1 w := by rw [Ap_1, if_neg (by omega)]
  have e2 : Ap A c n r 2 w = A 2 w := by rw [Ap_2, if_neg (by omega)]
  have e3 : Ap A c n r 3 w = A 3 w := by rw [Ap_3, if_neg (by omega)]
  have hs : stR (fun i => A 9 (24 * l + i)) (A 8 l) (Ap A c n r) x w ↔ stR (fun i => A 9 (24 * l + i)) (A 8 l) A x w := by
    unfold stR
    rw [e1]
    constructor
    · rintro ⟨q1, q2⟩
      exact ⟨q1, fun i hi => by rw [q2 i hi, Ap_4 (by omega), if_neg (by omega)]⟩
    · rintro ⟨q1, q2⟩
      exact ⟨q1, fun i hi => by rw [q2 i hi, Ap_4 (by omega), if_neg (by omega)]⟩
  unfold fK fT
  rw [e1, e2, e3, Ap_o (a := 9) (by omega), Ap_o (a := 8) (by omega)]
  by_cases q : A 3 w = k ∧ stR (fun i => A 9 (24 * l + i)) (A 8 l) A x w
  · rw [cit_t q, cit_t ⟨q.1, hs.mpr q.2⟩]
  · rw [cit_f q, cit_f (fun z => q ⟨z.1, hs.mp z.2⟩)]
theorem w_mf {A : aS} (hA : I_ok A) {c n : Nat} {r : Nat → Nat} (hP : I_ok (Ap A c n r)) (hn5 : n ≤ 5) (hn1 : 1 ≤ n) (hr8 : ∀ j, j < n → r j < 8) {g : z_S} (hT0 : TR A c n r g) {l x : Nat} (hl : l < A 0 3) (hx : x < A 8 l) (hT : ∀ y d, x < y → y ≤ A 8 l → d ≤ 4 → g.1 31 (5 * y + d) = nI (SL (Ap A c n r) l y d)) : wp (fX2_measureFrom (nI l) (nI x) g) (fun q => (∀ o, o ≠ 31 → o ≠ 32 → q.2.1 o = g.1 o) ∧ q.2.2 = g.2 ∧ ∀ y d, x ≤ y → y ≤ A 8 l → d ≤ 4 → q.2.1 31 (5 * y + d) = nI (SL (Ap A c n r) l y d)) := by
  have h3 : A 0 3 ≤ 4 := hA.1.2.2.2.2.1
  obtain ⟨l1, l2, l3⟩ := hA.2.2.2.2.2.1 l hl
  obtain ⟨hX, hK, h15, h14, h3c, hC⟩ := id hT0
  have hlP : l < Ap A c n r 0 3 := by rw [Ap_0 (by omega)]; exact hl
  have hTl : ∀ y d, SL (Ap A c n r) l y d ≤ 2376 := fun y d => SL_le hP hlP
  have hc99 : c ≤ 99 := by
    have := (hP.2.1 (A 0 1) (by rw [Ap_01]; omega)).2.2.1
    rwa [Ap_2, if_pos rfl] at this
  have hcp := cdr_pos (n := n) (r := r) hn1
  have hcl := cdr_le hr8
  unfold fX2_measureFrom
  refine wp_loop (P := fun s g' => ∃ k, k ≤ 4 ∧ s = (nI l, nI x, nI k) ∧ (∀ o, o ≠ 32 → g'.1 o = g.1 o) ∧ g'.2 = g.2 ∧ ∀ j, j < k → g'.1 32 j = nI 1000000000) (μ := fun s _ => 4 - s.2.2.toNatClampNeg) ?_ zN _ _ ⟨0, by omega, rfl, fun _ _ => rfl, rfl, fun j h => by omega⟩ (by show 4 - _ < zN; rw [p_zN]; omega)
  rintro rc s g1 ⟨k, hk, rfl, e1, e2, e3⟩ ih
  have hX1 : R_W A g1 := R_W.ag hA hX (fun o ho => e1 o (by omega))
  simp only [fX2_measureFrom_B2]
  try simp (disch := omega) only [p_g, p_b, p_s, p_gin, p_gblt, p_eqL, p_leL, p_Lle, p_ltL, p_Llt, p_addL, p_subL, p_mulL, p_LmulL, p_eq, p_le, p_lt, p_add, p_sub, p_mul, p_clamp, if_pos, if_neg]
  by_cases hlk : 4 ≤ k
  · have : k = 4 := by omega
    subst this
    rw [if_pos hlk, show l * 24 + x = 24 * l + x by omega, e1 29 (by omega), hK l x hl hx]
    refine w_kinds hA hTl hX1 hl hx e3 (fun y d a1 a2 a3 => by rw [e1 31 (by omega)]; exact hT y d a1 a2 a3) _ (fun g2 f1 f2 f3 => ?_)
    have hX2 : R_W A g2 := R_W.ag hA hX1 (fun o ho => f1 o (by omega))
    have hold : ∀ j, mO (fT A l x (SL (Ap A c n r) l) j) (A 0 1) = mO (fK (Ap A c n r) l x j) (A 0 1) := fun j => mO_congr _ (fun w hw => (fK_old hA hw).symm)
    have hnew : ∀ j, mO (fK (Ap A c n r) l x j) (Ap A c n r 0 1) = omin (mO (fT A l x (SL (Ap A c n r) l) j) (A 0 1)) (fK (Ap A c n r) l x j (A 0 1)) := by
      intro j
      rw [Ap_01, mO, hold]
    have hfW : ∀ j, fK (Ap A c n r) l x j (A 0 1) = cit (0 = j ∧ stR (fun i => A 9 (24 * l + i)) (A 8 l) (Ap A c n r) x (A 0 1)) (some (c + SL (Ap A c n r) l (x + n) 0)) none := by
      intro j
      unfold fK
      rw [Ap_1, Ap_2, Ap_3, if_pos rfl, if_pos rfl, if_pos rfl, Ap_o (a := 9) (by omega), Ap_o (a := 8) (by omega)]
    have fin : ∀ g3, (∀ o, o ≠ 32 → g3.1 o = g2.1 o) → g3.2 = g2.2 → (∀ j, j < 4 → g3.1 32 j = eK (mO (fK (Ap A c n r) l x j) (Ap A c n r 0 1))) → wp (z_loop fX2_measureFrom_B171 zN (nI x, 0) g3) (fun q => (∀ o, o ≠ 31 → o ≠ 32 → q.2.1 o = g.1 o) ∧ q.2.2 = g.2 ∧ ∀ y d, x ≤ y → y ≤ A 8 l → d ≤ 4 → q.2.1 31 (5 * y + d) = nI (SL (Ap A c n r) l y d)) := by
      intro g3 k1 k2 k3
      have hX3 : R_W A g3 := R_W.ag hA hX2 (fun o ho => k1 o (by omega))
      refine wp_mono (w_ahead hA hX3 hl hx k3 (fun j v hj hv => ?_) (T := SL (Ap A c n r) l) hTl (fun y d a1 a2 a3 => by rw [k1 31 (by omega), f1 31 (by omega), e1 31 (by omega)]; exact hT y d a1 a2 a3)) ?_
      · obtain ⟨w, hw, hf⟩ := mO_in _ _ hv
        exact fK_le hP hlP hw hf
      · rintro ⟨u, g4⟩ ⟨q1, q2, q3, q4⟩
        refine ⟨fun o h1 h2 => (((q1 o h1).trans (k1 o h2)).trans (f1 o h2)).trans (e1 o h2), ((q2.trans k2).trans f2).trans e2, fun y d h1 h2 h3 => ?_⟩
        by_cases hyx : y = x
        · subst hyx
          have hkw := kinds_words hP (l := l) (x := y) (c := d) (by rw [Ap_o (by omega)]; exact hx)
          rw [Ap_o (a := 6) (by omega)] at hkw
          have hmk : ∀ kk, mayK (Ap A c n r) d kk = mayK A d kk := fun kk => by unfold mayK; rw [Ap_o (a := 5) (by omega)]
          simp only [hmk] at hkw
          rw [q4 d h3, hkw]
        · exact q3 y d (by omega) h2 h3
    have g15 : g2.1 26 15 = nI (cdr n r) := by rw [f1 26 (by omega), e1 26 (by omega)]; exact h15
    have g14 : g2.1 26 14 = nI n := by rw [f1 26 (by omega), e1 26 (by omega)]; exact h14
    have g3' : g2.1 26 3 = nI c := by rw [f1 26 (by omega), e1 26 (by omega)]; exact h3c
    have g30 : g2.1 30 (24 * l + x) = nI (cdX A n l x) := by rw [f1 30 (by omega), e1 30 (by omega)]; exact hC l x hl (by omega)
    have hcx := cdX_le hA (n := n) (x := x) hl
    have heq := cdX_eq hA (x := x) hl hn5 hn1 hr8
    have hst := stR_new (A := A) (c := c) (r := r) (l := l) (x := x) (by omega : n ≤ 8)
    rw [if_neg (by rw [g15]; exact nI0 (by omega) (by omega))]
    try simp (disch := omega) only [p_g, p_b, p_s, p_gin, p_gblt, p_eqL, p_leL, p_Lle, p_ltL, p_Llt, p_addL, p_subL, p_mulL, p_LmulL, p_eq, p_le, p_lt, p_add, p_sub, p_mul, p_clamp, if_pos, if_neg]
    rw [show l * 24 + x = 24 * l + x by omega, g30, g15]
    try simp (disch := omega) only [p_g, p_b, p_s, p_gin, p_gblt, p_eqL, p_leL, p_Lle, p_ltL, p_Llt, p_addL, p_subL, p_mulL, p_LmulL, p_eq, p_le, p_lt, p_add, p_sub, p_mul, p_clamp, if_pos, if_neg]
    by_cases cc : cdX A n l x = cdr n r
    · rw [if_pos cc, g14, g3']
      have hs := hst.mpr (heq.mp cc)
      have hxn := (heq.mp cc).1
      have e0 : (0 : Int32).toNatClampNeg = 0 := rfl
      have ei : z_in 0 4 = true := rfl
      rw [ei, p_g, p_g, e0]
      try simp (disch := omega) only [p_g, p_b, p_s, p_gin, p_gblt, p_eqL, p_leL, p_Lle, p_ltL, p_Llt, p_addL, p_subL, p_mulL, p_LmulL, p_eq, p_le, p_lt, p_add, p_sub, p_mul, p_clamp, if_pos, if_neg]
      have h31 : g2.1 31 ((x + n) * 5) = nI (SL (Ap A c n r) l (x + n) 0) := by
        rw [f1 31 (by omega), e1 31 (by omega), show (x + n) * 5 = 5 * (x + n) + 0 by omega]
        exact hT (x + n) 0 (by omega) hxn (by omega)
      rw [h31, p_add]
      have hb := hTl (x + n) 0
      refine fin _ (fun o ho => by rw [p_off ho]) rfl (fun j hj => ?_)
      rw [hnew, hfW]
      by_cases j0 : j = 0
      · subst j0
        rw [p_at, cit_t ⟨rfl, hs⟩, f3 0 (by omega)]
        cases hm : mO (fT A l x (SL (Ap A c n r) l) 0) (A 0 1) with
        | none =>
          show (if nI _ < nI 1000000000 then _ else _) = nI _
          rw [if_pos (by rw [p_lt (by omega) (by omega)]; omega)]
        | some u =>
          obtain ⟨v, hv1, hv2⟩ := mO_in _ u hm
          have := fT_le hA hTl hv1 hv2
          show (if nI _ < nI u then _ else nI u) = nI (min u _)
          by_cases c9 : c + SL (Ap A c n r) l (x + n) 0 < u
          · rw [if_pos (by rw [p_lt (by omega) (by omega)]; exact c9), Nat.min_eq_right (by omega)]
          · rw [if_neg (by rw [p_lt (by omega) (by omega)]; exact c9), Nat.min_eq_left (by omega)]
      · rw [p_on j0, cit_f (fun z => j0 z.1.symm), f3 j hj]
        cases mO (fT A l x (SL (Ap A c n r) l) j) (A 0 1) <;> rfl
    · rw [if_neg cc]
      refine fin g2 (fun _ _ => rfl) rfl (fun j hj => ?_)
      rw [hnew, hfW, cit_f (fun z => cc (heq.mpr (hst.mp z.2))), f3 j hj]
      cases mO (fT A l x (SL (Ap A c n r) l) j) (A 0 1) <;> rfl
  · rw [if_neg hlk]
    refine ih _ _ ⟨k + 1, by omega, rfl, ?_, e2, ?_⟩ ?_
    · intro o ho
      rw [p_off ho]; exact e1 o ho
    · intro j hj
      by_cases hjk : j = k
      · subst hjk; rw [p_at]; rfl
      · rw [p_on hjk]; exact e3 j (by omega)
    · show _ - (nI (_ + 1)).toNatClampNeg < _ - (nI _).toNatClampNeg
      rw [p_clamp (by omega), p_clamp (by omega)]
      omega
theorem w_mL {A : aS} (hA : I_ok A) {c n : Nat} {r : Nat → Nat} (hP : I_ok (Ap A c n r)) (hn5 : n ≤ 5) (hn1 : 1 ≤ n) (hr8 : ∀ j, j < n → r j < 8) {g : z_S} (hT0 : TR A c n r g) {l : Nat} (hl : l < A 0 3) : wp (fX2_measure (nI l) g) (fun q => q.1 = nI (SL (Ap A c n r) l 0 4) ∧ ∀ o, o ≠ 31 → o ≠ 32 → q.2.1 o = g.1 o) := by
  have hX := hT0.1
  have h3 : A 0 3 ≤ 4 := hA.1.2.2.2.2.1
  obtain ⟨l1, l2, l3⟩ := hA.2.2.2.2.2.1 l hl
  unfold fX2_measure
  rw [(p_clamp (n := l) (by omega)), (hX.2.2.2.2.2.1 l hl).1]
  try simp (disch := omega) only [p_g, p_b, p_s, p_gin, p_gblt, p_eqL, p_leL, p_Lle, p_ltL, p_Llt, p_addL, p_subL, p_mulL, p_LmulL, p_eq, p_le, p_lt, p_add, p_sub, p_mul, p_clamp, if_pos, if_neg]
  refine wp_loop (P := fun s g' => ∃ d, d ≤ 5 ∧ s = (nI l, nI (A 8 l), nI d) ∧ (∀ o, o ≠ 31 → o ≠ 32 → g'.1 o = g.1 o) ∧ g'.2 = g.2 ∧ ∀ c', c' < d → g'.1 31 (5 * A 8 l + c') = nI (SL (Ap A c n r) l (A 8 l) c')) (μ := fun s _ => 5 - s.2.2.toNatClampNeg) ?_ zN _ _ ⟨0, by omega, rfl, fun _ _ _ => rfl, rfl, fun d h => by omega⟩ (by show 5 - _ < zN; rw [p_zN]; omega)
  rintro rc s g1 ⟨d, hc, rfl, e1, e2, e3⟩ ih
  simp only [fX2_measure_B12]
  try simp (disch := omega) only [p_g, p_b, p_s, p_gin, p_gblt, p_eqL, p_leL, p_Lle, p_ltL, p_Llt, p_addL, p_subL, p_mulL, p_LmulL, p_eq, p_le, p_lt, p_add, p_sub, p_mul, p_clamp, if_pos, if_neg]
  by_cases hlc : 5 ≤ d
  · have : d = 5 := by omega
    subst this
    rw [if_pos hlc]
    refine wp_loop (P := fun s g' => ∃ m, m ≤ A 8 l ∧ s = (nI l, if m = 0 then -1 else nI (m - 1)) ∧ (∀ o, o ≠ 31 → o ≠ 32 → g'.1 o = g.1 o) ∧ g'.2 = g.2 ∧ ∀ y d, m ≤ y → y ≤ A 8 l → d ≤ 4 → g'.1 31 (5 * y + d) = nI (SL (Ap A c n r) l y d)) (μ := fun s _ => if s.2 < 0 then 0 else s.2.toNatClampNeg + 1) ?_ zN _ _ ⟨A 8 l, Nat.le_refl _, by rw [if_neg (by omega)], e1, e2, fun y d h1 h2 h3 => by rw [show y = A 8 l by omega]; exact e3 d (by omega)⟩ (by
      show (if nI (A 8 l - 1) < 0 then 0 else (nI (A 8 l - 1)).toNatClampNeg + 1) < zN
      rw [if_neg (p_neg (by omega)), p_clamp (by omega), p_zN]; omega)
    rintro rc2 s g2 ⟨m, hm, rfl, f1, f2, f3⟩ ih2
    have hT2 : TR A c n r g2 := hT0.ag hA f1
    simp only [fX2_measure_B38]
    by_cases hm0 : m = 0
    · subst hm0
      rw [if_pos rfl, if_pos (by decide), p_gi (show z_in 4 125 = true by decide), show (4 : Int32).toNatClampNeg = 4 from rfl, show g2.1 31 4 = nI (SL (Ap A c n r) l 0 4) from f3 0 4 (by omega) (by omega) (by omega)]
      exact wp_some ⟨rfl, f1⟩
    · obtain ⟨x, rfl⟩ : ∃ x, m = x + 1 := ⟨m - 1, by omega⟩
      rw [if_neg hm0, Nat.add_sub_cancel, if_neg (p_neg (by omega))]
      apply wp_b
      refine wp_mono (w_mf hA hP hn5 hn1 hr8 hT2 hl (by omega) (fun y d a1 a2 a3 => f3 y d (by omega) a2 a3)) ?_
      rintro ⟨u, g3⟩ ⟨q1, q2, q3⟩
      simp only [] at q1 q2 q3 ⊢
      refine ih2 _ _ ⟨x, by omega, ?_, fun o a1 a2 => (q1 o a1 a2).trans (f1 o a1 a2), q2.trans f2, q3⟩ ?_
      · by_cases hx0 : x = 0
        · subst hx0; rfl
        · rw [if_neg hx0, p_m1 (by omega)]
      · show (if nI x + -1 < 0 then _ else _) < _
        rw [if_neg hm0, Nat.add_sub_cancel, if_neg (p_neg (by omega)), p_clamp (by omega)]
        by_cases hx0 : x = 0
        · subst hx0; rw [if_pos (by decide)]; omega
        · rw [p_m1 (by omega), if_neg (p_neg (by omega)), p_clamp (by omega)]; omega
  · rw [if_neg hlc]
    refine ih _ _ ⟨d + 1, by omega, rfl, ?_, e2, ?_⟩ ?_
    · intro o h1 h2
      rw [p_off h1]; exact e1 o h1 h2
    · intro c2 q1
      rw [show A 8 l * 5 + d = 5 * A 8 l + d by omega]
      by_cases hcc : c2 = d
      · subst hcc
        rw [p_at]
        unfold SL
        rw [SS_end (by rw [Ap_o (by omega)]; exact Nat.le_refl _)]; rfl
      · rw [p_on (by omega)]; exact e3 c2 (by omega)
    · show _ - (nI (_ + 1)).toNatClampNeg < _ - (nI _).toNatClampNeg
      rw [p_clamp (by omega), p_clamp (by omega)]
      omega

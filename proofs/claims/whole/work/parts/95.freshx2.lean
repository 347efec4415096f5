/-! THE NEW WORD: the class's codes and search -/
def pcd (n : Nat) (r : Nat → Nat) : Nat → Nat
  | 0 => 0
  | i + 1 => pcd n r i * 9 + dgi n r i
theorem pcd_5 {n : Nat} {r : Nat → Nat} : pcd n r 5 = cdr n r := by
  unfold cdr
  simp only [pcd]
  omega
theorem pcd_le {n : Nat} {r : Nat → Nat} (hr : ∀ j, j < n → r j < 8) : ∀ i, i ≤ 5 → pcd n r i ≤ 59048 := by
  have h0 := dgi_le hr 0
  have h1 := dgi_le hr 1
  have h2 := dgi_le hr 2
  have h3 := dgi_le hr 3
  have h4 := dgi_le hr 4
  intro i hi
  rcases (show i = 0 ∨ i = 1 ∨ i = 2 ∨ i = 3 ∨ i = 4 ∨ i = 5 by omega) with rfl | rfl | rfl | rfl | rfl | rfl <;> (simp only [pcd]; omega)
theorem x_codeH {A : aS} (hA : I_ok A) {g : z_S} (hX : R_W A g) {l x n : Nat} (hl : l < A 0 3) (hx : x + n ≤ A 8 l) (hn : n ≤ 5) : fX10_codeOf_hc l (nI x) (nI n) g = some (nI (cdr n (rwf A l x)), g) := by
  have h3 : A 0 3 ≤ 4 := hA.1.2.2.2.2.1
  have hk8 := hA.1.2.1
  obtain ⟨l1, l2, l3⟩ := hA.2.2.2.2.2.1 l hl
  have hr8 := row_lt hA hl hx
  unfold fX10_codeOf_hc
  refine p_loop (P := fun s g' => ∃ i, i ≤ 5 ∧ s = (l, nI x, nI n, nI (pcd n (rwf A l x) i), nI i) ∧ g' = g) (μ := fun s _ => 5 - s.2.2.2.2.toNatClampNeg) ?_ zN _ _ ⟨0, by omega, rfl, rfl⟩ (by show 5 - _ < zN; rw [p_zN]; omega)
  rintro rc s g' ⟨i, hi, rfl, rfl⟩ ih
  have hp := pcd_le hr8 i hi
  simp only [fX10_codeOf_hc_B5]
  try simp (disch := omega) only [p_g, p_b, p_s, p_gin, p_gblt, p_eqL, p_leL, p_Lle, p_ltL, p_Llt, p_addL, p_subL, p_mulL, p_LmulL, p_eq, p_le, p_lt, p_add, p_sub, p_mul, p_clamp, if_pos, if_neg]
  by_cases c : 5 ≤ i
  · have : i = 5 := by omega
    subst this
    rw [if_pos c, pcd_5]
  · rw [if_neg c]
    have hdec : 5 - (nI (i + 1)).toNatClampNeg < 5 - (nI i).toNatClampNeg := by
      rw [p_clamp (by omega), p_clamp (by omega)]
      omega
    by_cases c2 : n ≤ i
    · rw [if_pos c2]
      refine ih _ _ ⟨i + 1, by omega, ?_, rfl⟩ hdec
      rw [pcd]
      unfold dgi
      rw [if_neg (by omega)]
    · rw [if_neg c2]
      have h9 := (hX.2.2.2.2.2.1 l hl).2 (x + i) (by omega)
      have h9l := l3 (x + i) (by omega)
      try simp (disch := omega) only [p_g, p_b, p_s, p_gin, p_gblt, p_eqL, p_leL, p_Lle, p_ltL, p_Llt, p_addL, p_subL, p_mulL, p_LmulL, p_eq, p_le, p_lt, p_add, p_sub, p_mul, p_clamp, if_pos, if_neg]
      rw [h9]
      try simp (disch := omega) only [p_g, p_b, p_s, p_gin, p_gblt, p_eqL, p_leL, p_Lle, p_ltL, p_Llt, p_addL, p_subL, p_mulL, p_LmulL, p_eq, p_le, p_lt, p_add, p_sub, p_mul, p_clamp, if_pos, if_neg]
      refine ih _ _ ⟨i + 1, by omega, ?_, rfl⟩ hdec
      rw [pcd]
      unfold dgi
      rw [if_pos (by omega)]
      rfl
theorem x_code5 {A : aS} (hA : I_ok A) {g : z_S} (hX : R_W A g) {w n : Nat} (hw : w < A 0 1) (hn : A 1 w = n) (hn5 : n ≤ 5) : fX10_codeOf_5 (nI (w * 8)) (nI n) g = some (nI (cdr n (fun i => A 4 (8 * w + i))), g) := by
  have h16 := hA.1.2.2.1
  have hk8 := hA.1.2.1
  obtain ⟨w1, w2, -, -, w5⟩ := hA.2.1 w hw
  have hr8 : ∀ j, j < n → A 4 (8 * w + j) < 8 := fun j hj => by have := w5 j (by omega); omega
  unfold fX10_codeOf_5
  refine p_loop (P := fun s g' => ∃ i, i ≤ 5 ∧ s = (nI (w * 8), nI n, nI (pcd n (fun i => A 4 (8 * w + i)) i), nI i) ∧ g' = g) (μ := fun s _ => 5 - s.2.2.2.toNatClampNeg) ?_ zN _ _ ⟨0, by omega, rfl, rfl⟩ (by show 5 - _ < zN; rw [p_zN]; omega)
  rintro rc s g' ⟨i, hi, rfl, rfl⟩ ih
  have hp := pcd_le hr8 i hi
  simp only [fX10_codeOf_5_B5]
  try simp (disch := omega) only [p_g, p_b, p_s, p_gin, p_gblt, p_eqL, p_leL, p_Lle, p_ltL, p_Llt, p_addL, p_subL, p_mulL, p_LmulL, p_eq, p_le, p_lt, p_add, p_sub, p_mul, p_clamp, if_pos, if_neg]
  by_cases c : 5 ≤ i
  · have : i = 5 := by omega
    subst this
    rw [if_pos c, pcd_5]
  · rw [if_neg c]
    have hdec : 5 - (nI (i + 1)).toNatClampNeg < 5 - (nI i).toNatClampNeg := by
      rw [p_clamp (by omega), p_clamp (by omega)]
      omega
    by_cases c2 : n ≤ i
    · rw [if_pos c2]
      refine ih _ _ ⟨i + 1, by omega, ?_, rfl⟩ hdec
      rw [pcd]
      unfold dgi
      rw [if_neg (by omega)]
    · rw [if_neg c2]
      have h9 := (hX.2.1 w hw).2.2.2 i (by omega)
      have h9l := w5 i (by omega)
      try simp (disch := omega) only [p_g, p_b, p_s, p_gin, p_gblt, p_eqL, p_leL, p_Lle, p_ltL, p_Llt, p_addL, p_subL, p_mulL, p_LmulL, p_eq, p_le, p_lt, p_add, p_sub, p_mul, p_clamp, if_pos, if_neg]
      rw [show w * 8 + i = 8 * w + i by omega, h9]
      try simp (disch := omega) only [p_g, p_b, p_s, p_gin, p_gblt, p_eqL, p_leL, p_Lle, p_ltL, p_Llt, p_addL, p_subL, p_mulL, p_LmulL, p_eq, p_le, p_lt, p_add, p_sub, p_mul, p_clamp, if_pos, if_neg]
      refine ih _ _ ⟨i + 1, by omega, ?_, rfl⟩ hdec
      rw [pcd]
      unfold dgi
      rw [if_pos (by omega)]
theorem x_encode {A : aS} (hA : I_ok A) {g : z_S} (hX : R_W A g) {n : Nat} (hn : 2 ≤ n) (hn5 : n ≤ 5) (h14 : g.1 26 14 = nI n) : wp (fX2_encode g) (fun q => (∀ o, o ≠ 30 → q.2.1 o = g.1 o) ∧ CX A n q.2) := by
  have h3 : A 0 3 ≤ 4 := hA.1.2.2.2.2.1
  unfold fX2_encode
  refine wp_loop (P := fun a g' => ∃ l, l ≤ A 0 3 ∧ a = nI l ∧ (∀ o, o ≠ 30 → g'.1 o = g.1 o) ∧ ∀ l' x, l' < l → x < 24 → g'.1 30 (24 * l' + x) = nI (cdX A n l' x)) (μ := fun a _ => A 0 3 - a.toNatClampNeg) ?_ zN _ _ ⟨0, by omega, rfl, fun _ _ => rfl, fun l' x h => by omega⟩ (by show A 0 3 - _ < zN; rw [p_zN]; omega)
  rintro rc a g1 ⟨l, hl, rfl, e1, e2⟩ ih
  have hX1 : R_W A g1 := R_W.ag hA hX (fun o ho => e1 o (by omega))
  simp only [fX2_encode_B2]
  rw [hX1.1.2.2.2.1]
  try simp (disch := omega) only [p_g, p_b, p_s, p_gin, p_gblt, p_eqL, p_leL, p_Lle, p_ltL, p_Llt, p_addL, p_subL, p_mulL, p_LmulL, p_eq, p_le, p_lt, p_add, p_sub, p_mul, p_clamp, if_pos, if_neg]
  by_cases c : A 0 3 ≤ l
  · rw [if_pos c]
    exact wp_some ⟨e1, fun l' x h1 h2 => e2 l' x (by omega) h2⟩
  · rw [if_neg c]
    have hl' : l < A 0 3 := by omega
    obtain ⟨l1, l2, l3⟩ := hA.2.2.2.2.2.1 l hl'
    refine wp_loop (P := fun a g' => ∃ x, x ≤ 24 ∧ a = (nI l, nI x) ∧ (∀ o, o ≠ 30 → g'.1 o = g.1 o) ∧ (∀ l' x, l' < l → x < 24 → g'.1 30 (24 * l' + x) = nI (cdX A n l' x)) ∧ ∀ y, y < x → g'.1 30 (24 * l + y) = nI (cdX A n l y)) (μ := fun a _ => 24 - a.2.toNatClampNeg) ?_ zN _ _ ⟨0, by omega, rfl, e1, e2, fun y h => by omega⟩ (by show 24 - _ < zN; rw [p_zN]; omega)
    rintro rc2 a g2 ⟨x, hx, rfl, f1, f2, f3⟩ ih2
    have hX2 : R_W A g2 := R_W.ag hA hX (fun o ho => f1 o (by omega))
    simp only [fX2_encode_B12]
    try simp (disch := omega) only [p_g, p_b, p_s, p_gin, p_gblt, p_eqL, p_leL, p_Lle, p_ltL, p_Llt, p_addL, p_subL, p_mulL, p_LmulL, p_eq, p_le, p_lt, p_add, p_sub, p_mul, p_clamp, if_pos, if_neg]
    by_cases c2 : 24 ≤ x
    · rw [if_pos c2]
      refine ih _ _ ⟨l + 1, by omega, rfl, f1, fun l' y h1 h2 => ?_⟩ ?_
      · by_cases z : l' = l
        · subst z; exact f3 y (by omega)
        · exact f2 l' y (by omega) h2
      · show _ - (nI (_ + 1)).toNatClampNeg < _ - (nI _).toNatClampNeg
        rw [p_clamp (by omega), p_clamp (by omega)]
        omega
    · rw [if_neg c2, (hX2.2.2.2.2.2.1 l hl').1, f1 26 (by omega), h14]
      try simp (disch := omega) only [p_g, p_b, p_s, p_gin, p_gblt, p_eqL, p_leL, p_Lle, p_ltL, p_Llt, p_addL, p_subL, p_mulL, p_LmulL, p_eq, p_le, p_lt, p_add, p_sub, p_mul, p_clamp, if_pos, if_neg]
      have store : wp (rc2 (nI l, nI (x + 1)) (z_wi g2 30 (24 * l + x) (nI (cdX A n l x)))) (fun q => (∀ o, o ≠ 30 → q.2.1 o = g.1 o) ∧ CX A n q.2) := by
        refine ih2 _ _ ⟨x + 1, by omega, rfl, fun o ho => by rw [p_off ho]; exact f1 o ho, fun l' y h1 h2 => by rw [p_on (by omega)]; exact f2 l' y h1 h2, fun y hy => ?_⟩ ?_
        · by_cases z : y = x
          · subst z; rw [p_at]
          · rw [p_on (by omega)]; exact f3 y (by omega)
        · show _ - (nI (_ + 1)).toNatClampNeg < _ - (nI _).toNatClampNeg
          rw [p_clamp (by omega), p_clamp (by omega)]
          omega
      unfold fX2_encode_J41
      by_cases c3 : A 8 l < x + n
      · rw [if_pos c3, if_pos rfl]
        try simp (disch := omega) only [p_g, p_b, p_s, p_gin, p_gblt, p_eqL, p_leL, p_Lle, p_ltL, p_Llt, p_addL, p_subL, p_mulL, p_LmulL, p_eq, p_le, p_lt, p_add, p_sub, p_mul, p_clamp, if_pos, if_neg]
        rw [show l * 24 + x = 24 * l + x by omega]
        have e0 : cdX A n l x = 0 := by unfold cdX; rw [if_neg (by omega)]
        rw [e0] at store
        exact store
      · rw [if_neg c3, if_neg n10]
        try simp (disch := omega) only [p_g, p_b, p_s, p_gin, p_gblt, p_eqL, p_leL, p_Lle, p_ltL, p_Llt, p_addL, p_subL, p_mulL, p_LmulL, p_eq, p_le, p_lt, p_add, p_sub, p_mul, p_clamp, if_pos, if_neg]
        have ec : cdX A n l x = cdr n (rwf A l x) := by unfold cdX; rw [if_pos (by omega)]
        rw [f1 26 (by omega), h14, x_codeH hA hX2 hl' (by omega) hn5, p_b, show l * 24 + x = 24 * l + x by omega, ← ec]
        exact store
theorem x_tried {A : aS} (hA : I_ok A) {g : z_S} {n i : Nat} (hC : CX A n g) (hi : i < 24 * A 0 3) : fX2_isTriedAhead (nI i) g = some (nI (ci (∃ e, e < i ∧ cdX A n (e / 24) (e % 24) = cdX A n (i / 24) (i % 24))), g) := by
  have h3 : A 0 3 ≤ 4 := hA.1.2.2.2.2.1
  have hcell : ∀ e, e ≤ i → g.1 30 e = nI (cdX A n (e / 24) (e % 24)) := by
    intro e he
    have := hC (e / 24) (e % 24) (by omega) (by omega)
    rwa [show 24 * (e / 24) + e % 24 = e by omega] at this
  generalize hT : ci (∃ e, e < i ∧ cdX A n (e / 24) (e % 24) = cdX A n (i / 24) (i % 24)) = T
  unfold fX2_isTriedAhead
  refine p_loop (P := fun s g' => ∃ e, e ≤ i ∧ s = (nI i, nI e) ∧ g' = g ∧ ∀ u, u < e → ¬ cdX A n (u / 24) (u % 24) = cdX A n (i / 24) (i % 24)) (μ := fun s _ => i - s.2.toNatClampNeg) ?_ zN _ _ ⟨0, by omega, rfl, rfl, fun u h => by omega⟩ (by show i - _ < zN; rw [p_zN]; omega)
  rintro rc s g' ⟨e, he, rfl, rfl, q⟩ ih
  simp only [fX2_isTriedAhead_B2]
  try simp (disch := omega) only [p_g, p_b, p_s, p_gin, p_gblt, p_eqL, p_leL, p_Lle, p_ltL, p_Llt, p_addL, p_subL, p_mulL, p_LmulL, p_eq, p_le, p_lt, p_add, p_sub, p_mul, p_clamp, if_pos, if_neg]
  by_cases c : i ≤ e
  · rw [if_pos c, ← hT, ci_f (fun ⟨u, u1, u2⟩ => q u (by omega) u2)]; rfl
  · rw [if_neg c]
    have b1 := cdX_le hA (n := n) (l := e / 24) (x := e % 24) (by omega)
    have b2 := cdX_le hA (n := n) (l := i / 24) (x := i % 24) (by omega)
    rw [hcell e (by omega), hcell i (Nat.le_refl _)]
    try simp (disch := omega) only [p_g, p_b, p_s, p_gin, p_gblt, p_eqL, p_leL, p_Lle, p_ltL, p_Llt, p_addL, p_subL, p_mulL, p_LmulL, p_eq, p_le, p_lt, p_add, p_sub, p_mul, p_clamp, if_pos, if_neg]
    by_cases c2 : cdX A n (e / 24) (e % 24) = cdX A n (i / 24) (i % 24)
    · rw [if_pos c2, ← hT, ci_t ⟨e, by omega, c2⟩]; rfl
    · rw [if_neg c2]
      refine ih _ _ ⟨e + 1, by omega, rfl, rfl, fun u hu => ?_⟩ ?_
      · by_cases z : u = e
        · subst z; exact c2
        · exact q u (by omega)
      · show _ - (nI (_ + 1)).toNatClampNeg < _ - (nI _).toNatClampNeg
        rw [p_clamp (by omega), p_clamp (by omega)]
        omega
theorem x_isWord {A : aS} (hA : I_ok A) {g : z_S} (hX : R_W A g) {n : Nat} {r : Nat → Nat} (hn5 : n ≤ 5) (hn1 : 1 ≤ n) (hr8 : ∀ j, j < n → r j < 8) (h14 : g.1 26 14 = nI n) : fX2_isCodeOfWord (nI (cdr n r)) g = some (nI (ci (agn A (A 0 1) n r)), g) := by
  have h16 := hA.1.2.2.1
  have hk8 := hA.1.2.1
  have hcl := cdr_le hr8
  generalize hT : ci (agn A (A 0 1) n r) = T
  unfold fX2_isCodeOfWord
  refine p_loop (P := fun s g' => ∃ w, w ≤ A 0 1 ∧ s = (nI (cdr n r), nI w) ∧ g' = g ∧ ∀ u, u < w → ¬ (A 1 u = n ∧ ∀ j, j < n → A 4 (8 * u + j) = r j)) (μ := fun s _ => A 0 1 - s.2.toNatClampNeg) ?_ zN _ _ ⟨0, by omega, rfl, rfl, fun u h => by omega⟩ (by show A 0 1 - _ < zN; rw [p_zN]; omega)
  rintro rc s g' ⟨w, hw, rfl, rfl, q⟩ ih
  simp only [fX2_isCodeOfWord_B2]
  rw [hX.1.2.1, h14]
  try simp (disch := omega) only [p_g, p_b, p_s, p_gin, p_gblt, p_eqL, p_leL, p_Lle, p_ltL, p_Llt, p_addL, p_subL, p_mulL, p_LmulL, p_eq, p_le, p_lt, p_add, p_sub, p_mul, p_clamp, if_pos, if_neg]
  by_cases c : A 0 1 ≤ w
  · rw [if_pos c, ← hT, ci_f (fun ⟨u, u1, u2⟩ => q u (by omega) u2)]; rfl
  · have hw' : w < A 0 1 := by omega
    obtain ⟨w1, w2, -, -, w5⟩ := hA.2.1 w hw'
    rw [if_neg c, (hX.2.1 w hw').1]
    try simp (disch := omega) only [p_g, p_b, p_s, p_gin, p_gblt, p_eqL, p_leL, p_Lle, p_ltL, p_Llt, p_addL, p_subL, p_mulL, p_LmulL, p_eq, p_le, p_lt, p_add, p_sub, p_mul, p_clamp, if_pos, if_neg]
    have next : ¬ (A 1 w = n ∧ ∀ j, j < n → A 4 (8 * w + j) = r j) → rc (nI (cdr n r), nI (w + 1)) g' = some (nI T, g') := by
      intro z
      refine ih _ _ ⟨w + 1, by omega, rfl, rfl, fun u hu => ?_⟩ ?_
      · by_cases y : u = w
        · subst y; exact z
        · exact q u (by omega)
      · show _ - (nI (_ + 1)).toNatClampNeg < _ - (nI _).toNatClampNeg
        rw [p_clamp (by omega), p_clamp (by omega)]
        omega
    by_cases c2 : A 1 w = n
    · have hs8 : ∀ j, j < n → A 4 (8 * w + j) < 8 := fun j hj => by have := w5 j (by omega); omega
      have hcs := cdr_le hs8
      rw [if_pos c2, x_code5 hA hX hw' c2 hn5, p_b]
      try simp (disch := omega) only [p_g, p_b, p_s, p_gin, p_gblt, p_eqL, p_leL, p_Lle, p_ltL, p_Llt, p_addL, p_subL, p_mulL, p_LmulL, p_eq, p_le, p_lt, p_add, p_sub, p_mul, p_clamp, if_pos, if_neg]
      by_cases c3 : cdr n (fun i => A 4 (8 * w + i)) = cdr n r
      · rw [if_pos c3, ← hT, ci_t]
        · rfl
        · refine ⟨w, hw', c2, fun j hj => ?_⟩
          have h1 := letC_cdr (r := fun i => A 4 (8 * w + i)) hs8 hn5 hj
          have h2 := letC_cdr hr8 hn5 hj
          rw [c3] at h1
          omega
      · rw [if_neg c3]
        refine next (fun z => c3 ?_)
        have : ∀ i, dgi n (fun i => A 4 (8 * w + i)) i = dgi n r i := by
          intro i
          unfold dgi
          by_cases y : i < n
          · rw [if_pos y, if_pos y]; show A 4 (8 * w + i) + 1 = r i + 1; rw [z.2 i y]
          · rw [if_neg y, if_neg y]
        unfold cdr
        rw [this, this, this, this, this]
    · rw [if_neg c2]
      exact next (fun z => c2 z.1)
theorem x_comes {A : aS} (hA : I_ok A) {g : z_S} {n l k : Nat} (hC : CX A n g) (hl : l < A 0 3) (hk : k ≤ 59048) : fX2_comesIn (nI l) (nI k) g = some (nI (ci (∃ x, x < 24 ∧ cdX A n l x = k)), g) := by
  have h3 : A 0 3 ≤ 4 := hA.1.2.2.2.2.1
  generalize hT : ci (∃ x, x < 24 ∧ cdX A n l x = k) = T
  unfold fX2_comesIn
  refine p_loop (P := fun s g' => ∃ x, x ≤ 24 ∧ s = (nI l, nI k, nI x) ∧ g' = g ∧ ∀ u, u < x → ¬ cdX A n l u = k) (μ := fun s _ => 24 - s.2.2.toNatClampNeg) ?_ zN _ _ ⟨0, by omega, rfl, rfl, fun u h => by omega⟩ (by show 24 - _ < zN; rw [p_zN]; omega)
  rintro rc s g' ⟨x, hx, rfl, rfl, q⟩ ih
  simp only [fX2_comesIn_B2]
  try simp (disch := omega) only [p_g, p_b, p_s, p_gin, p_gblt, p_eqL, p_leL, p_Lle, p_ltL, p_Llt, p_addL, p_subL, p_mulL, p_LmulL, p_eq, p_le, p_lt, p_add, p_sub, p_mul, p_clamp, if_pos, if_neg]
  by_cases c : 24 ≤ x
  · rw [if_pos c, ← hT, ci_f (fun ⟨u, u1, u2⟩ => q u (by omega) u2)]; rfl
  · rw [if_neg c]
    try simp (disch := omega) only [p_g, p_b, p_s, p_gin, p_gblt, p_eqL, p_leL, p_Lle, p_ltL, p_Llt, p_addL, p_subL, p_mulL, p_LmulL, p_eq, p_le, p_lt, p_add, p_sub, p_mul, p_clamp, if_pos, if_neg]
    have b1 := cdX_le hA (n := n) (l := l) (x := x) hl
    rw [show l * 24 + x = 24 * l + x by omega, hC l x hl (by omega)]
    try simp (disch := omega) only [p_g, p_b, p_s, p_gin, p_gblt, p_eqL, p_leL, p_Lle, p_ltL, p_Llt, p_addL, p_subL, p_mulL, p_LmulL, p_eq, p_le, p_lt, p_add, p_sub, p_mul, p_clamp, if_pos, if_neg]
    by_cases c2 : cdX A n l x = k
    · rw [if_pos c2, ← hT, ci_t ⟨x, by omega, c2⟩]; rfl
    · rw [if_neg c2]
      refine ih _ _ ⟨x + 1, by omega, rfl, rfl, fun u hu => ?_⟩ ?_
      · by_cases z : u = x
        · subst z; exact c2
        · exact q u (by omega)
      · show _ - (nI (_ + 1)).toNatClampNeg < _ - (nI _).toNatClampNeg
        rw [p_clamp (by omega), p_clamp (by omega)]
        omega
/-- the search under way -/
def IF (A : aS) (c n : Nat) (g0 g : z_S) : Prop := R_X A g ∧ KM A g ∧ g.1 26 14 = nI n ∧ g.1 26 3 = nI c ∧ CX A n g ∧ (∀ l, l < A 0 3 → g.1 33 l = nI (SL A l 0 4)) ∧ ∀ o, o ≠ 26 → o ≠ 29 → o ≠ 30 → o ≠ 31 → o ≠ 32 → o ≠ 33 → g.1 o = g0.1 o
def XB (b k : Nat) (g : z_S) : Prop := g.1 26 4 = nI b ∧ g.1 26 5 = nI k ∧ b ≤ 9504 ∧ k ≤ 59048
theorem x_gain {A : aS} (hA : I_ok A) {c n : Nat} {r : Nat → Nat} (hP : I_ok (Ap A c n r)) (hn5 : n ≤ 5) (hn1 : 1 ≤ n) (hr8 : ∀ j, j < n → r j < 8) {g : z_S} (hT0 : TR A c n r g) (h33 : ∀ l, l < A 0 3 → g.1 33 l = nI (SL A l 0 4)) {Q : Unit × z_S → Prop} {k : Int32 → Int32 → z_S → Option (Unit × z_S)} (hk : ∀ g', (∀ o, o ≠ 31 → o ≠ 32 → g'.1 o = g.1 o) → wp (k (nI (cdr n r)) (nI (tot A - tot (Ap A c n r))) g') Q) : wp (z_loop (fX2_tryNew_B38 k) zN (nI (cdr n r), 0, 0) g) Q := by
  have h3 : A 0 3 ≤ 4 := hA.1.2.2.2.2.1
  have hcl := cdr_le hr8
  have hle : ∀ l, SL (Ap A c n r) l 0 4 ≤ SL A l 0 4 := by
    intro l
    unfold SL
    rw [Ap_o (by omega), Ap_o (by omega)]
    exact SS_Ap_le hA hP _ 0 4 (Nat.le_refl _)
  have hsum : ∀ m, sm (fun l => SL A l 0 4) m - sm (fun l => SL (Ap A c n r) l 0 4) m = sm (fun l => SL A l 0 4 - SL (Ap A c n r) l 0 4) m ∧ sm (fun l => SL (Ap A c n r) l 0 4) m ≤ sm (fun l => SL A l 0 4) m := by
    intro m
    induction m with
    | zero => exact ⟨rfl, Nat.le_refl _⟩
    | succ m ih =>
      rw [sm, sm, sm]
      have := hle m
      omega
  have htot : tot A - tot (Ap A c n r) = sm (fun l => SL A l 0 4 - SL (Ap A c n r) l 0 4) (A 0 3) := by
    unfold tot
    rw [Ap_0 (by omega)]
    exact (hsum _).1
  have hb : ∀ m, m ≤ A 0 3 → sm (fun l => SL A l 0 4 - SL (Ap A c n r) l 0 4) m ≤ m * 2376 := fun m hm => sm_le (c := 2376) m (fun i hi => by have := SL_le hA (l := i) (y := 0) (c := 4) (by omega); omega)
  refine wp_loop (P := fun a g' => ∃ l, l ≤ A 0 3 ∧ a = (nI (cdr n r), nI (sm (fun l => SL A l 0 4 - SL (Ap A c n r) l 0 4) l), nI l) ∧ ∀ o, o ≠ 31 → o ≠ 32 → g'.1 o = g.1 o) (μ := fun a _ => A 0 3 - a.2.2.toNatClampNeg) ?_ zN _ _ ⟨0, by omega, rfl, fun _ _ _ => rfl⟩ (by show A 0 3 - _ < zN; rw [p_zN]; omega)
  rintro rc a g1 ⟨l, hl, rfl, e1⟩ ih
  have hT1 := hT0.ag hA e1
  simp only [fX2_tryNew_B38]
  rw [hT1.1.1.2.2.2.1]
  try simp (disch := omega) only [p_g, p_b, p_s, p_gin, p_gblt, p_eqL, p_leL, p_Lle, p_ltL, p_Llt, p_addL, p_subL, p_mulL, p_LmulL, p_eq, p_le, p_lt, p_add, p_sub, p_mul, p_clamp, if_pos, if_neg]
  by_cases c1 : A 0 3 ≤ l
  · have : l = A 0 3 := by omega
    subst this
    rw [if_pos c1, ← htot]
    exact hk g1 e1
  · rw [if_neg c1]
    have hl' : l < A 0 3 := by omega
    have hbl := hb l hl
    have hsl := SL_le hA (l := l) (y := 0) (c := 4) hl'
    have hml : l * 2376 ≤ 4 * 2376 := Nat.mul_le_mul_right _ (by omega)
    have hdec : A 0 3 - (nI (l + 1)).toNatClampNeg < A 0 3 - (nI l).toNatClampNeg := by
      rw [p_clamp (by omega), p_clamp (by omega)]
      omega
    rw [x_comes hA hT1.2.2.2.2.2 hl' hcl, p_b]
    by_cases c2 : ∃ x, x < 24 ∧ cdX A n l x = cdr n r
    · rw [if_neg (fun q => (p_cieq.mp q) c2)]
      try simp (disch := omega) only [p_g, p_b, p_s, p_gin, p_gblt, p_eqL, p_leL, p_Lle, p_ltL, p_Llt, p_addL, p_subL, p_mulL, p_LmulL, p_eq, p_le, p_lt, p_add, p_sub, p_mul, p_clamp, if_pos, if_neg]
      apply wp_b
      refine wp_mono (w_mL hA hP hn5 hn1 hr8 hT1 hl') ?_
      rintro ⟨v, g2⟩ ⟨a1, a2⟩
      simp only [] at a1 a2 ⊢
      subst a1
      rw [e1 33 (by omega) (by omega), h33 l hl', p_sub (hle l), p_add]
      exact ih _ _ ⟨l + 1, by omega, rfl, fun o z1 z2 => (a2 o z1 z2).trans (e1 o z1 z2)⟩ hdec
    · rw [if_pos (p_cieq.mpr c2)]
      have heq : SL (Ap A c n r) l 0 4 = SL A l 0 4 := by
        have h1 := hle l
        have h2 : SL A l 0 4 ≤ SL (Ap A c n r) l 0 4 := by
          unfold SL
          rw [Ap_o (by omega), Ap_o (by omega)]
          refine SS_Ap_ge hA hP (fun x hx => ?_) _ 0 4 (Nat.le_refl _)
          have hs := (stR_new (by omega)).mp hx
          have := (hA.2.2.2.2.2.1 l hl').2.1
          exact c2 ⟨x, by omega, (cdX_eq hA hl' hn5 hn1 hr8).mpr hs⟩
        omega
      refine ih _ _ ⟨l + 1, by omega, ?_, e1⟩ hdec
      rw [sm, heq, Nat.sub_self]
      rfl
theorem x_try {A : aS} (hA : I_ok A) (h16 : A 0 1 < 16) {c n i : Nat} (hc : c ≤ 99) (hn : 2 ≤ n) (hn5 : n ≤ 5) (hi : i < 24 * A 0 3) {g0 g : z_S} (hI : IF A c n g0 g) {b k : Nat} (hB : XB b k g) (hS : BST A c (Spr A (fun l' x' n' => n' < n ∨ (n' = n ∧ 24 * l' + x' < i))) b k) : wp (fX2_tryNew (nI i) g) (fun q => IF A c n g0 q.2 ∧ ∃ b' k', XB b' k' q.2 ∧ BST A c (Spr A (fun l' x' n' => n' < n ∨ (n' = n ∧ 24 * l' + x' < i + 1))) b' k') := by
  have h3 : A 0 3 ≤ 4 := hA.1.2.2.2.2.1
  have hk8 := hA.1.2.1
  obtain ⟨hX, hK, h14, h3c, hC, h33, hF⟩ := id hI
  have hl : i / 24 < A 0 3 := by omega
  have h30 : g.1 30 i = nI (cdX A n (i / 24) (i % 24)) := by
    have := hC (i / 24) (i % 24) hl (by omega)
    rwa [show 24 * (i / 24) + i % 24 = i by omega] at this
  have hcx := cdX_le hA (n := n) (l := i / 24) (x := i % 24) hl
  obtain ⟨l1, l2, l3⟩ := hA.2.2.2.2.2.1 (i / 24) hl
  -- nothing new here
  have same : (∀ k', CT A (i / 24) (i % 24) n k' → Spr A (fun l' x' n' => n' < n ∨ (n' = n ∧ 24 * l' + x' < i)) k') → BST A c (Spr A (fun l' x' n' => n' < n ∨ (n' = n ∧ 24 * l' + x' < i + 1))) b k := by
    intro hno
    refine BST_congr (fun k' => ⟨?_, ?_⟩) hS
    · rintro ⟨l', x', n', q, w⟩
      exact ⟨l', x', n', by omega, w⟩
    · rintro ⟨l', x', n', q, w⟩
      by_cases z : n' = n ∧ 24 * l' + x' = i
      · obtain ⟨z1, z2⟩ := z
        have hx' : x' < 24 := by
          have := (hA.2.2.2.2.2.1 l' w.1).2.1
          have := w.2.2.2.1
          have := w.2.1
          omega
        have e1 : l' = i / 24 := by omega
        have e2 : x' = i % 24 := by omega
        subst e1
        subst e2
        subst z1
        exact hno k' w
      · exact ⟨l', x', n', by omega, w⟩
  unfold fX2_tryNew
  try simp (disch := omega) only [p_g, p_b, p_s, p_gin, p_gblt, p_eqL, p_leL, p_Lle, p_ltL, p_Llt, p_addL, p_subL, p_mulL, p_LmulL, p_eq, p_le, p_lt, p_add, p_sub, p_mul, p_clamp, if_pos, if_neg]
  rw [h30]
  by_cases c0 : cdX A n (i / 24) (i % 24) = 0
  · rw [if_pos (by rw [c0]; rfl)]
    refine wp_some ⟨hI, b, k, hB, same (fun k' w => ?_)⟩
    unfold cdX at c0
    rw [if_pos w.2.2.2.1] at c0
    have := cdr_pos (n := n) (r := rwf A (i / 24) (i % 24)) (by omega)
    omega
  · rw [if_neg (nI0 (by omega) c0)]
    have hfit : i % 24 + n ≤ A 8 (i / 24) := by
      refine Classical.byContradiction (fun q => c0 ?_)
      unfold cdX; rw [if_neg q]
    have hcd : cdX A n (i / 24) (i % 24) = cdr n (rwf A (i / 24) (i % 24)) := by unfold cdX; rw [if_pos hfit]
    have hr8 := row_lt hA hl hfit
    rw [x_tried hA hC hi, p_b]
    by_cases ct : ∃ e, e < i ∧ cdX A n (e / 24) (e % 24) = cdX A n (i / 24) (i % 24)
    · rw [if_neg (fun q => (p_cieq.mp q) ct)]
      obtain ⟨e, he1, he2⟩ := ct
      refine wp_some ⟨hI, b, k, hB, same (fun k' w => ?_)⟩
      obtain ⟨w1, w2, w3, w4, w5, w6⟩ := w
      have hle : e / 24 < A 0 3 := by omega
      rw [hcd] at he2
      have hrow := (cdX_eq hA hle hn5 (by omega) hr8).mp he2
      have hce : cdX A n (e / 24) (e % 24) = cdr n (rwf A (e / 24) (e % 24)) := by unfold cdX; rw [if_pos hrow.1]
      refine ⟨e / 24, e % 24, n, Or.inr ⟨rfl, by omega⟩, hle, w2, w3, hrow.1, by rw [w5, ← he2, hce], fun ⟨v, v1, v2, v3⟩ => w6 ⟨v, v1, v2, fun j hj => by rw [v3 j hj, hrow.2 j hj]⟩⟩
    · rw [if_pos (p_cieq.mpr ct), hcd, x_isWord hA hX.W hn5 (by omega) hr8 h14, p_b]
      by_cases ca : agn A (A 0 1) n (rwf A (i / 24) (i % 24))
      · rw [if_neg (fun q => (p_cieq.mp q) ca)]
        exact wp_some ⟨hI, b, k, hB, same (fun k' w => absurd ca w.2.2.2.2.2)⟩
      · rw [if_pos (p_cieq.mpr ca)]
        have hP := I_Ap (r := rwf A (i / 24) (i % 24)) hA h16 (by omega : 1 ≤ n) (by omega) hc (fun j hj => l3 (i % 24 + j) (by omega)) ca
        have htl := tot_le hA
        have hcl := cdr_le hr8
        have hg : gC A c (cdr n (rwf A (i / 24) (i % 24))) = tot A - tot (Ap A c n (rwf A (i / 24) (i % 24))) := gC_cdr hr8 hn5
        have hgl : tot A - tot (Ap A c n (rwf A (i / 24) (i % 24))) ≤ 9504 := Nat.le_trans (Nat.sub_le _ _) htl
        have hT0 : TR A c n (rwf A (i / 24) (i % 24)) (z_wi g 26 15 (nI (cdr n (rwf A (i / 24) (i % 24))))) := by
          refine ⟨R_W.ag2 hA hX.W (fun o ho => by rw [p_off (by omega)]) (by rw [p_on (by decide)]), hK.ag (by rw [p_off (by decide)]), by rw [p_at], by rw [p_on (by decide)]; exact h14, by rw [p_on (by decide)]; exact h3c, fun l x h1 h2 => by rw [p_off (by decide)]; exact hC l x h1 h2⟩
        refine x_gain hA hP hn5 (by omega) hr8 hT0 (fun l hl => by rw [p_off (by decide)]; exact h33 l hl) ?_
        intro g1 e1
        have hstep := BST_step (d := cdr n (rwf A (i / 24) (i % 24))) hS
        rw [hg] at hstep
        generalize tot A - tot (Ap A c n (rwf A (i / 24) (i % 24))) = gn at *
        have hset : ∀ {b' k'}, BST A c (fun k' => Spr A (fun l' x' n' => n' < n ∨ (n' = n ∧ 24 * l' + x' < i)) k' ∨ k' = cdr n (rwf A (i / 24) (i % 24))) b' k' → BST A c (Spr A (fun l' x' n' => n' < n ∨ (n' = n ∧ 24 * l' + x' < i + 1))) b' k' := by
          intro b' k' hb
          refine BST_congr (fun k' => ⟨?_, ?_⟩) hb
          · rintro (⟨l', x', n', q, w⟩ | q)
            · exact ⟨l', x', n', by omega, w⟩
            · exact ⟨i / 24, i % 24, n, by omega, hl, hn, hn5, hfit, q, ca⟩
          · rintro ⟨l', x', n', q, w⟩
            by_cases z : n' = n ∧ 24 * l' + x' = i
            · obtain ⟨z1, z2⟩ := z
              have hx' : x' < 24 := by
                have := (hA.2.2.2.2.2.1 l' w.1).2.1
                have := w.2.2.2.1
                have := w.2.1
                omega
              have y1 : l' = i / 24 := by omega
              have y2 : x' = i % 24 := by omega
              subst y1
              subst y2
              subst z1
              exact Or.inr w.2.2.2.2.1
            · exact Or.inl ⟨l', x', n', by omega, w⟩
        obtain ⟨q1, q2, q3, q4⟩ := hB
        have f26 : ∀ j, j ≠ 15 → (z_wi g1 26 15 0).1 26 j = g.1 26 j := fun j hj => by rw [p_on hj, e1 26 (by omega) (by omega), p_on hj]
        have fo : ∀ o, o ≠ 26 → o ≠ 31 → o ≠ 32 → (z_wi g1 26 15 0).1 o = g.1 o := fun o z1 z2 z3 => by rw [p_off z1, e1 o z2 z3, p_off z1]
        have f15 : (z_wi g1 26 15 0).1 26 15 = 0 := p_at
        generalize z_wi g1 26 15 0 = g2 at *
        have hI2 : ∀ g3, (∀ o, o ≠ 26 → g3.1 o = g2.1 o) → (∀ j, j ≠ 4 → j ≠ 5 → g3.1 26 j = g2.1 26 j) → IF A c n g0 g3 := by
          intro g3 y1 y2
          refine ⟨R_X.ag2 hA hX (fun o ho => ?_) ?_ ?_, hK.ag ?_, ?_, ?_, fun l x h1 h2 => ?_, fun l hl => ?_, fun o z1 z2 z3 z4 z5 z6 => ?_⟩
          · rw [y1 o (by omega), fo o (by omega) (by omega) (by omega)]
          · rw [y2 0 (by omega) (by omega), f26 0 (by omega)]
          · rw [y2 15 (by omega) (by omega), f15]; exact hX.2.2.2.2.2.2.2.2.2.symm
          · rw [y1 29 (by omega), fo 29 (by omega) (by omega) (by omega)]
          · rw [y2 14 (by omega) (by omega), f26 14 (by omega)]; exact h14
          · rw [y2 3 (by omega) (by omega), f26 3 (by omega)]; exact h3c
          · rw [y1 30 (by omega), fo 30 (by omega) (by omega) (by omega)]; exact hC l x h1 h2
          · rw [y1 33 (by omega), fo 33 (by omega) (by omega) (by omega)]; exact h33 l hl
          · rw [y1 o z1, fo o z1 z4 z5]; exact hF o z1 z2 z3 z4 z5 z6
        have keep : ¬ (b < gn ∨ (gn = b ∧ 0 < b ∧ cdr n (rwf A (i / 24) (i % 24)) < k)) → wp (some ((), g2)) (fun q => IF A c n g0 q.2 ∧ ∃ b' k', XB b' k' q.2 ∧ BST A c (Spr A (fun l' x' n' => n' < n ∨ (n' = n ∧ 24 * l' + x' < i + 1))) b' k') := by
          intro z
          rw [if_neg z, if_neg z] at hstep
          exact wp_some ⟨hI2 g2 (fun _ _ => rfl) (fun _ _ _ => rfl), b, k, ⟨by rw [f26 4 (by omega)]; exact q1, by rw [f26 5 (by omega)]; exact q2, q3, q4⟩, hset hstep⟩
        have upd : (b < gn ∨ (gn = b ∧ 0 < b ∧ cdr n (rwf A (i / 24) (i % 24)) < k)) → wp (fX2_tryNew_J113 (nI (cdr n (rwf A (i / 24) (i % 24)))) (nI gn) g2) (fun q => IF A c n g0 q.2 ∧ ∃ b' k', XB b' k' q.2 ∧ BST A c (Spr A (fun l' x' n' => n' < n ∨ (n' = n ∧ 24 * l' + x' < i + 1))) b' k') := by
          intro z
          rw [if_pos z, if_pos z] at hstep
          unfold fX2_tryNew_J113
          rw [p_s, p_s]
          refine wp_some ⟨hI2 _ (fun o ho => by rw [p_off ho, p_off ho]) (fun j y1 y2 => by rw [p_on y2, p_on y1]), gn, _, ⟨by rw [p_on (by decide), p_at], by rw [p_at], hgl, hcl⟩, hset hstep⟩
        rw [f26 4 (by omega), f26 5 (by omega), q1, q2]
        try simp (disch := omega) only [p_g, p_b, p_s, p_gin, p_gblt, p_eqL, p_leL, p_Lle, p_ltL, p_Llt, p_addL, p_subL, p_mulL, p_LmulL, p_eq, p_le, p_lt, p_add, p_sub, p_mul, p_clamp, if_pos, if_neg]
        by_cases c1 : b < gn
        · rw [if_pos c1]; exact upd (Or.inl c1)
        · rw [if_neg c1]
          by_cases c2 : gn = b
          · rw [if_pos c2]
            by_cases c3 : gn ≤ 0
            · rw [if_pos c3]; exact keep (by omega)
            · rw [if_neg c3]
              by_cases c4 : k ≤ cdr n (rwf A (i / 24) (i % 24))
              · rw [if_pos c4]; exact keep (by omega)
              · rw [if_neg c4]; exact upd (Or.inr ⟨c2, by omega, by omega⟩)
          · rw [if_neg c2]; exact keep (by omega)

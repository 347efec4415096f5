/-! states of knowing: the class's layout and step -/
def LY (A : aS) (w m : Nat) (g : z_S) : Prop := (∀ k, k < 128 → (bt (g.2 58 0) (g.2 58 1) k = true ↔ ∃ v, v < w ∧ sm (A 1) v = k)) ∧ (∀ k, k < 128 → (bt (g.2 59 0) (g.2 59 1) k = true ↔ ∃ v, v < m ∧ sm (A 1) v + (A 1 v - 1) = k))
def RY (A : aS) (w m : Nat) (g : z_S) : Prop := ∀ c, c < 8 → ∀ k, k < 128 → (bt (g.2 56 c) (g.2 57 c) k = true ↔ (∃ v i, v < w ∧ i < A 1 v ∧ sm (A 1) v + i = k ∧ A 4 (8 * v + i) = c) ∨ ∃ i, i < m ∧ sm (A 1) w + i = k ∧ A 4 (8 * w + i) = c)
noncomputable def lwB (p : Nat) : Int64 := if 64 ≤ p then 0 else 1 <<< ((nI p).toInt64 &&& 63)
noncomputable def hgB (p : Nat) : Int64 := if 64 ≤ p then 1 <<< ((nI (p - 64)).toInt64 &&& 63) else 0
theorem x_low {p : Nat} (hp : p < 128) {g : z_S} : fX4_lowBit (nI p) g = some (lwB p, g) := by
  unfold fX4_lowBit lwB
  try simp (disch := omega) only [p_g, p_b, p_s, p_gin, p_gblt, p_eqL, p_leL, p_Lle, p_ltL, p_Llt, p_addL, p_subL, p_mulL, p_LmulL, p_eq, p_le, p_lt, p_add, p_sub, p_mul, p_clamp, if_pos, if_neg]
  split <;> rfl
theorem x_high {p : Nat} (hp : p < 128) {g : z_S} : fX4_highBit (nI p) g = some (hgB p, g) := by
  unfold fX4_highBit hgB
  try simp (disch := omega) only [p_g, p_b, p_s, p_gin, p_gblt, p_eqL, p_leL, p_Lle, p_ltL, p_Llt, p_addL, p_subL, p_mulL, p_LmulL, p_eq, p_le, p_lt, p_add, p_sub, p_mul, p_clamp, if_pos, if_neg]
  by_cases h : 64 ≤ p
  · rw [if_pos h, if_pos h]
    try simp (disch := omega) only [p_g, p_b, p_s, p_gin, p_gblt, p_eqL, p_leL, p_Lle, p_ltL, p_Llt, p_addL, p_subL, p_mulL, p_LmulL, p_eq, p_le, p_lt, p_add, p_sub, p_mul, p_clamp, if_pos, if_neg]
  · rw [if_neg h, if_neg h]
theorem bt_bit {p k : Nat} (hp : p < 128) (hk : k < 128) : bt (lwB p) (hgB p) k = decide (k = p) := by
  unfold lwB hgB
  by_cases h : 64 ≤ p
  · rw [if_pos h, if_pos h, bt_one_hi (by omega) hk, show p - 64 + 64 = p by omega]
  · rw [if_neg h, if_neg h, bt_one_lo (by omega) hk]
theorem bt_add {a b : Int64} {p k : Nat} (hp : p < 128) (hk : k < 128) : bt (a ||| lwB p) (b ||| hgB p) k = true ↔ (bt a b k = true ∨ k = p) := by
  rw [bt_or, bt_bit hp hk, Bool.or_eq_true, decide_eq_true_iff]
theorem x_add58 {p : Nat} (hp : p < 128) {g : z_S} : fX4_add_58 (nI p) g = some ((), z_wl (z_wl g 58 0 (g.2 58 0 ||| lwB p)) 58 1 (g.2 58 1 ||| hgB p)) := by
  unfold fX4_add_58
  rw [x_low hp, p_b, p_s, x_high hp, p_b, p_s, p_Lon (by decide)]
theorem x_add59 {p : Nat} (hp : p < 128) {g : z_S} : fX4_add_59 (nI p) g = some ((), z_wl (z_wl g 59 0 (g.2 59 0 ||| lwB p)) 59 1 (g.2 59 1 ||| hgB p)) := by
  unfold fX4_add_59
  rw [x_low hp, p_b, p_s, x_high hp, p_b, p_s, p_Lon (by decide)]
/-- but for the layout nothing changes -/
def GY (g g' : z_S) : Prop := g'.1 = g.1 ∧ ∀ o, o < 56 ∨ 59 < o → g'.2 o = g.2 o
theorem x_letL {A : aS} (hA : I_ok A) {g0 : z_S} (hX : R_X A g0) {w : Nat} (hw : w < A 0 1) {Q : Unit × z_S → Prop} {k : Int32 → Int32 → z_S → Option (Unit × z_S)} {g : z_S} (h1 : GY g0 g) (h2 : LY A (w + 1) w g) (h3 : RY A w 0 g) (hk : ∀ g', GY g0 g' → LY A (w + 1) w g' → RY A w (A 1 w) g' → wp (k (nI (sm (A 1) w + A 1 w)) (nI w) g') Q) : wp (z_loop (fX1_layOut_B67 k) zN (nI (sm (A 1) w), nI w, 0) g) Q := by
  have hn := hA.1.2.2.1
  have hk8 := hA.1.2.1
  have hL := LO_A hA
  obtain ⟨w1, w2, -, -, w5⟩ := hA.2.1 w hw
  have hpl := pl_lt hL hw (i := 0) (by omega)
  refine wp_loop (P := fun a g' => ∃ i, i ≤ A 1 w ∧ a = (nI (sm (A 1) w + i), nI w, nI i) ∧ GY g0 g' ∧ LY A (w + 1) w g' ∧ RY A w i g') (μ := fun a _ => A 1 w - a.2.2.toNatClampNeg) ?_ zN _ _ ⟨0, by omega, rfl, h1, h2, h3⟩ (by show A 1 w - _ < zN; rw [p_zN]; omega)
  rintro rc a g1 ⟨i, hi, rfl, e1, e2, e3⟩ ih
  have hX1 := hX.same e1.1
  simp only [fX1_layOut_B67]
  try simp (disch := omega) only [p_g, p_b, p_s, p_gin, p_gblt, p_eqL, p_leL, p_Lle, p_ltL, p_Llt, p_addL, p_subL, p_mulL, p_LmulL, p_eq, p_le, p_lt, p_add, p_sub, p_mul, p_clamp, if_pos, if_neg]
  rw [(hX1.2.1 w hw).1]
  try simp (disch := omega) only [p_g, p_b, p_s, p_gin, p_gblt, p_eqL, p_leL, p_Lle, p_ltL, p_Llt, p_addL, p_subL, p_mulL, p_LmulL, p_eq, p_le, p_lt, p_add, p_sub, p_mul, p_clamp, if_pos, if_neg]
  by_cases c : A 1 w ≤ i
  · have : i = A 1 w := by omega
    subst this
    rw [if_pos c]
    exact hk g1 e1 e2 e3
  · have hi' : i < A 1 w := by omega
    have hp := pl_lt hL hw hi'
    have h4 := w5 i hi'
    rw [if_neg c, x_sign hA hX1 hw hi', p_b]
    try simp (disch := omega) only [p_g, p_b, p_s, p_gin, p_gblt, p_eqL, p_leL, p_Lle, p_ltL, p_Llt, p_addL, p_subL, p_mulL, p_LmulL, p_eq, p_le, p_lt, p_add, p_sub, p_mul, p_clamp, if_pos, if_neg]
    rw [x_low hp, p_b, x_high hp, p_b]
    rw [p_Loff (by decide)]
    have e5 : (z_wl (z_wl g1 56 (A 4 (8 * w + i)) (g1.2 56 (A 4 (8 * w + i)) ||| lwB (sm (A 1) w + i))) 57 (A 4 (8 * w + i)) (g1.2 57 (A 4 (8 * w + i)) ||| hgB (sm (A 1) w + i))).1 = g1.1 := rfl
    refine ih _ _ ⟨i + 1, by omega, rfl, ⟨e1.1, fun o ho => ?_⟩, ⟨fun k hk => ?_, fun k hk => ?_⟩, fun d hd k hk => ?_⟩ ?_
    · rw [p_Loff (by omega), p_Loff (by omega)]; exact e1.2 o ho
    · rw [p_Loff (by decide), p_Loff (by decide)]; exact e2.1 k hk
    · rw [p_Loff (by decide), p_Loff (by decide)]; exact e2.2 k hk
    · rw [p_Loff (show (56 : Nat) ≠ 57 by decide)]
      by_cases z : d = A 4 (8 * w + i)
      · subst z
        rw [p_Lat, p_Lat, bt_add hp hk, e3 _ hd k hk]
        constructor
        · rintro ((q | ⟨j, q1, q2⟩) | q)
          · exact Or.inl q
          · exact Or.inr ⟨j, by omega, q2⟩
          · exact Or.inr ⟨i, by omega, q.symm, rfl⟩
        · rintro (q | ⟨j, q1, q2, q3⟩)
          · exact Or.inl (Or.inl q)
          · by_cases z : j = i
            · subst z; exact Or.inr q2.symm
            · exact Or.inl (Or.inr ⟨j, by omega, q2, q3⟩)
      · rw [p_Lon z, p_Lon z, p_Loff (show (57 : Nat) ≠ 56 by decide), e3 d hd k hk]
        constructor
        · rintro (q | ⟨j, q1, q2⟩)
          · exact Or.inl q
          · exact Or.inr ⟨j, by omega, q2⟩
        · rintro (q | ⟨j, q1, q2, q3⟩)
          · exact Or.inl q
          · by_cases y : j = i
            · subst y; exact absurd q3.symm z
            · exact Or.inr ⟨j, by omega, q2, q3⟩
    · show _ - (nI (_ + 1)).toNatClampNeg < _ - (nI _).toNatClampNeg
      rw [p_clamp (by omega), p_clamp (by omega)]
      omega
theorem x_layout {A : aS} (hA : I_ok A) {g : z_S} (hX : R_X A g) : wp (fX1_layOut g) (fun q => GY g q.2 ∧ LY A (A 0 1) (A 0 1) q.2 ∧ RY A (A 0 1) 0 q.2) := by
  have hn := hA.1.2.2.1
  have hL := LO_A hA
  unfold fX1_layOut fX4_empty_58 fX4_empty_59
  rw [p_s, p_s, p_b, p_s, p_s, p_b]
  have k1 : GY g (z_wl (z_wl (z_wl (z_wl g 58 0 0) 58 1 0) 59 0 0) 59 1 0) := ⟨rfl, fun o ho => by rw [p_Loff (by omega), p_Loff (by omega), p_Loff (by omega), p_Loff (by omega)]⟩
  have k2 : LY A 0 0 (z_wl (z_wl (z_wl (z_wl g 58 0 0) 58 1 0) 59 0 0) 59 1 0) := by
    refine ⟨fun k hk => ?_, fun k hk => ?_⟩
    · simp (disch := omega) only [p_Loff, p_Lon, p_Lat]
      rw [bt_0]
      exact ⟨fun q => by simp at q, fun ⟨v, q, _⟩ => by omega⟩
    · simp (disch := omega) only [p_Loff, p_Lon, p_Lat]
      rw [bt_0]
      exact ⟨fun q => by simp at q, fun ⟨v, q, _⟩ => by omega⟩
  generalize z_wl (z_wl (z_wl (z_wl g 58 0 0) 58 1 0) 59 0 0) 59 1 0 = g0 at *
  refine wp_loop (P := fun a g' => ∃ c, c ≤ 8 ∧ a = nI c ∧ GY g g' ∧ LY A 0 0 g' ∧ ∀ d, d < c → g'.2 56 d = 0 ∧ g'.2 57 d = 0) (μ := fun a _ => 8 - a.toNatClampNeg) ?_ zN _ _ ⟨0, by omega, rfl, k1, k2, fun d h => by omega⟩ (by show 8 - _ < zN; rw [p_zN]; omega)
  rintro rc a g1 ⟨c, hc, rfl, e1, e2, e3⟩ ih
  simp only [fX1_layOut_B16]
  try simp (disch := omega) only [p_g, p_b, p_s, p_gin, p_gblt, p_eqL, p_leL, p_Lle, p_ltL, p_Llt, p_addL, p_subL, p_mulL, p_LmulL, p_eq, p_le, p_lt, p_add, p_sub, p_mul, p_clamp, if_pos, if_neg]
  by_cases c8 : 8 ≤ c
  · have : c = 8 := by omega
    subst this
    rw [if_pos c8]
    refine wp_loop (P := fun a g' => ∃ w, w ≤ A 0 1 ∧ a = (nI (sm (A 1) w), nI w) ∧ GY g g' ∧ LY A w w g' ∧ RY A w 0 g') (μ := fun a _ => A 0 1 - a.2.toNatClampNeg) ?_ zN _ _ ⟨0, by omega, rfl, e1, e2, ?_⟩ (by show A 0 1 - _ < zN; rw [p_zN]; omega)
    · rintro rc2 a g2 ⟨w, hw, rfl, f1, f2, f3⟩ ih2
      have hX2 := hX.same f1.1
      simp only [fX1_layOut_B46]
      rw [hX2.1.2.1]
      try simp (disch := omega) only [p_g, p_b, p_s, p_gin, p_gblt, p_eqL, p_leL, p_Lle, p_ltL, p_Llt, p_addL, p_subL, p_mulL, p_LmulL, p_eq, p_le, p_lt, p_add, p_sub, p_mul, p_clamp, if_pos, if_neg]
      by_cases cw : A 0 1 ≤ w
      · have : w = A 0 1 := by omega
        subst this
        rw [if_pos cw]
        exact wp_some ⟨f1, f2, f3⟩
      · have hw' : w < A 0 1 := by omega
        obtain ⟨w1, w2, -, -, w5⟩ := hA.2.1 w hw'
        have hp0 := pl_lt hL hw' (i := 0) (by omega)
        have hp1 := pl_lt hL hw' (i := A 1 w - 1) (by omega)
        rw [if_neg cw, x_add58 (by omega), p_b]
        refine x_letL hA hX2 hw' ⟨rfl, fun o ho => by rw [p_Loff (by omega), p_Loff (by omega)]⟩ ⟨fun k hk => ?_, fun k hk => ?_⟩ (fun d hd k hk => ?_) ?_
        · rw [p_Lon (by decide), p_Lat, p_Lat, bt_add (by omega) hk, f2.1 k hk]
          constructor
          · rintro (⟨v, q1, q2⟩ | q)
            · exact ⟨v, by omega, q2⟩
            · exact ⟨w, by omega, q.symm⟩
          · rintro ⟨v, q1, q2⟩
            by_cases z : v = w
            · subst z; exact Or.inr q2.symm
            · exact Or.inl ⟨v, by omega, q2⟩
        · rw [p_Loff (by decide), p_Loff (by decide)]; exact f2.2 k hk
        · rw [p_Loff (by decide), p_Loff (by decide), p_Loff (by decide), p_Loff (by decide)]; exact f3 d hd k hk
        · intro g3 d1 d2 d3
          try simp (disch := omega) only [p_g, p_b, p_s, p_gin, p_gblt, p_eqL, p_leL, p_Lle, p_ltL, p_Llt, p_addL, p_subL, p_mulL, p_LmulL, p_eq, p_le, p_lt, p_add, p_sub, p_mul, p_clamp, if_pos, if_neg]
          rw [x_add59 (by omega), p_b]
          have ep : sm (A 1) w + A 1 w = sm (A 1) (w + 1) := rfl
          rw [ep]
          refine ih2 _ _ ⟨w + 1, by omega, rfl, ⟨d1.1.trans f1.1, fun o ho => ?_⟩, ⟨fun k hk => ?_, fun k hk => ?_⟩, fun d hd k hk => ?_⟩ ?_
          · rw [p_Loff (by omega), p_Loff (by omega), d1.2 o ho]; exact f1.2 o ho
          · rw [p_Loff (by decide), p_Loff (by decide)]; exact d2.1 k hk
          · rw [p_Lon (by decide), p_Lat, p_Lat, bt_add (by omega) hk, d2.2 k hk]
            constructor
            · rintro (⟨v, q1, q2⟩ | q)
              · exact ⟨v, by omega, q2⟩
              · exact ⟨w, by omega, by rw [q]; rw [← ep]; omega⟩
            · rintro ⟨v, q1, q2⟩
              by_cases z : v = w
              · subst z; exact Or.inr (by rw [← ep]; omega)
              · exact Or.inl ⟨v, by omega, q2⟩
          · rw [p_Loff (by decide), p_Loff (by decide), p_Loff (by decide), p_Loff (by decide), d3 d hd k hk]
            constructor
            · rintro (⟨v, i, q1, q2⟩ | ⟨i, q1, q2⟩)
              · exact Or.inl ⟨v, i, by omega, q2⟩
              · exact Or.inl ⟨w, i, by omega, q1, q2⟩
            · rintro (⟨v, i, q1, q2, q3⟩ | ⟨i, q1, q2⟩)
              · by_cases z : v = w
                · subst z; exact Or.inr ⟨i, q2, q3⟩
                · exact Or.inl ⟨v, i, by omega, q2, q3⟩
              · omega
          · show _ - (nI (_ + 1)).toNatClampNeg < _ - (nI _).toNatClampNeg
            rw [p_clamp (by omega), p_clamp (by omega)]
            omega
    · intro d hd k hk
      rw [(e3 d hd).1, (e3 d hd).2, bt_0]
      exact ⟨fun q => by simp at q, fun q => q.elim (fun ⟨v, i, z, _⟩ => by omega) (fun ⟨i, z, _⟩ => by omega)⟩
  · rw [if_neg c8]
    refine ih _ _ ⟨c + 1, by omega, rfl, ⟨e1.1, fun o ho => ?_⟩, ⟨fun k hk => ?_, fun k hk => ?_⟩, fun d hd => ?_⟩ ?_
    · rw [p_Loff (by omega), p_Loff (by omega)]; exact e1.2 o ho
    · rw [p_Loff (by decide), p_Loff (by decide)]; exact e2.1 k hk
    · rw [p_Loff (by decide), p_Loff (by decide)]; exact e2.2 k hk
    · by_cases z : d = c
      · subst z; rw [p_Loff (by decide), p_Lat, p_Lat]; exact ⟨rfl, rfl⟩
      · rw [p_Loff (by decide), p_Lon z, p_Lon z, p_Loff (by decide)]; exact e3 d (by omega)
    · show _ - (nI (_ + 1)).toNatClampNeg < _ - (nI _).toNatClampNeg
      rw [p_clamp (by omega), p_clamp (by omega)]
      omega
/-- the layout, as the search keeps it -/
def YL (A : aS) (g : z_S) : Prop := LY A (A 0 1) (A 0 1) g ∧ RY A (A 0 1) 0 g
theorem CR_first {A : aS} (hA : I_ok A) {g : z_S} (hY : YL A g) : CR (A 0 1) (A 1) pEnd (g.2 58 0) (g.2 58 1) := by
  intro k hk
  rw [hY.1.1 k hk]
  constructor
  · rintro ⟨v, q1, q2⟩
    exact ⟨v, 0, q1, (hA.2.1 v q1).1, q2, rfl⟩
  · rintro ⟨v, i, q1, q2, q3, q4⟩
    have : ix v i = 0 := q4
    unfold ix at this
    by_cases z : i = 0
    · subst z; exact ⟨v, q1, q3⟩
    · rw [if_neg z] at this; omega
theorem x_stepR {A : aS} (hA : I_ok A) {g : z_S} (hY : YL A g) {c : Nat} (hc : c < 8) {p : Stt} {a b : Int64} (hp : CR (A 0 1) (A 1) p a b) {lo hi : Int64} (el : lo = a &&& g.2 56 c) (eh : hi = b &&& g.2 57 c) {e : Prop} (he : e ↔ stp (A 0 1) (A 1) (A 4) p c 0) {f0 f1 : Int64} (hf : (e ∧ f0 = g.2 58 0 ∧ f1 = g.2 58 1) ∨ (¬ e ∧ f0 = 0 ∧ f1 = 0)) : CR (A 0 1) (A 1) (stp (A 0 1) (A 1) (A 4) p c) (((lo &&& (g.2 59 0 ^^^ (-1))) <<< ((1 : Int32).toInt64 &&& 63)) ||| f0) ((((hi &&& (g.2 59 1 ^^^ (-1))) <<< ((1 : Int32).toInt64 &&& 63)) ||| (((lo &&& (g.2 59 0 ^^^ (-1))).toUInt64 >>> ((63 : Int32).toInt64.toUInt64 &&& Int64.toUInt64 63)).toInt64)) ||| f1) := by
  have hL := LO_A hA
  intro k hk
  have hfb : bt f0 f1 k = true ↔ (e ∧ ∃ v, v < A 0 1 ∧ sm (A 1) v = k) := by
    rcases hf with ⟨h1, h2, h3⟩ | ⟨h1, h2, h3⟩
    · rw [h2, h3, hY.1.1 k hk]
      exact ⟨fun q => ⟨h1, q⟩, fun q => q.2⟩
    · rw [h2, h3, bt_0]
      exact ⟨fun q => by simp at q, fun q => absurd q.1 h1⟩
  rw [bt_or, Bool.or_eq_true, bt_sh hk, Bool.and_eq_true, decide_eq_true_iff, hfb]
  have hx : 1 ≤ k → (bt (lo &&& (g.2 59 0 ^^^ (-1))) (hi &&& (g.2 59 1 ^^^ (-1))) (k - 1) = true ↔ ∃ v i, v < A 0 1 ∧ i + 1 < A 1 v ∧ sm (A 1) v + i = k - 1 ∧ A 4 (8 * v + i) = c ∧ p (ix v i)) := by
    intro h1
    rw [bt_and, Bool.and_eq_true, bt_not (by omega), el, eh, bt_and, Bool.and_eq_true, hp _ (by omega), hY.2 c hc _ (by omega)]
    constructor
    · rintro ⟨⟨⟨v, i, q1, q2, q3, q4⟩, q5⟩, q6⟩
      rcases q5 with ⟨v', i', r1, r2, r3, r4⟩ | ⟨i', r1, _⟩
      · obtain ⟨rfl, rfl⟩ := pl_inj (n := A 0 1) q2 r2 (q3.trans r3.symm)
        refine ⟨v, i, q1, ?_, q3, r4, q4⟩
        refine Classical.byContradiction (fun z => ?_)
        have hl := (hY.1.2 (k - 1) (by omega)).mpr ⟨v, q1, by omega⟩
        rw [hl] at q6
        simp at q6
      · omega
    · rintro ⟨v, i, q1, q2, q3, q4, q5⟩
      refine ⟨⟨⟨v, i, q1, by omega, q3, q5⟩, Or.inl ⟨v, i, q1, by omega, q3, q4⟩⟩, ?_⟩
      by_cases z : bt (g.2 59 0) (g.2 59 1) (k - 1) = true
      · obtain ⟨v', r1, r2⟩ := (hY.1.2 (k - 1) (by omega)).mp z
        have hv' := (hA.2.1 v' r1).1
        obtain ⟨rfl, rfl⟩ := pl_inj (n := A 0 1) (L := A 1) (w := v) (i := i) (w' := v') (i' := A 1 v' - 1) (by omega) (by omega) (q3.trans r2.symm)
        omega
      · rw [Bool.not_eq_true] at z
        rw [z]; rfl
  constructor
  · rintro (⟨h1, h2⟩ | ⟨h1, v, h2, h3⟩)
    · obtain ⟨v, i, q1, q2, q3, q4, q5⟩ := (hx h1).mp h2
      refine ⟨v, i + 1, q1, q2, by omega, Or.inr ⟨v, i, q1, q2, ?_, q4, q5⟩⟩
      unfold ix
      rw [if_neg (by omega)]
    · exact ⟨v, 0, h2, (hA.2.1 v h2).1, h3, he.mp h1⟩
  · rintro ⟨v, i, q1, q2, q3, q4⟩
    by_cases z : i = 0
    · subst z
      exact Or.inr ⟨he.mpr q4, v, q1, q3⟩
    · refine Or.inl ⟨by omega, (hx (by omega)).mpr ?_⟩
      have hix : ix v i = 8 * v + i := by unfold ix; rw [if_neg z]
      rw [hix] at q4
      have h8 := (hA.2.1 v q1).2.1
      rcases q4 with ⟨r1, _⟩ | ⟨v', i', r1, r2, r3, r4, r5⟩
      · omega
      · have h8' := (hA.2.1 v' r1).2.1
        obtain ⟨rfl, rfl⟩ : v = v' ∧ i = i' + 1 := by omega
        exact ⟨v, i', q1, r2, by omega, r4, r5⟩
theorem x_step {A : aS} (hA : I_ok A) {g : z_S} (hY : YL A g) {s c : Nat} (hs : s < 2000) (hc : c < 8) {p : Stt} (hp : CR (A 0 1) (A 1) p (g.2 48 s) (g.2 49 s)) : wp (fX1_stepFrom (nI s) (nI c) g) (fun q => q.2.1 = g.1 ∧ (∀ o, o ≠ 60 → q.2.2 o = g.2 o) ∧ CR (A 0 1) (A 1) (stp (A 0 1) (A 1) (A 4) p c) (q.2.2 60 0) (q.2.2 60 1)) := by
  have hL := LO_A hA
  unfold fX1_stepFrom
  try simp (disch := omega) only [p_g, p_b, p_s, p_gin, p_gblt, p_eqL, p_leL, p_Lle, p_ltL, p_Llt, p_addL, p_subL, p_mulL, p_LmulL, p_eq, p_le, p_lt, p_add, p_sub, p_mul, p_clamp, if_pos, if_neg]
  have hend : ¬ ((g.2 48 s &&& g.2 56 c) &&& g.2 59 0 = 0 ∧ (g.2 49 s &&& g.2 57 c) &&& g.2 59 1 = 0) ↔ stp (A 0 1) (A 1) (A 4) p c 0 := by
    rw [bt_z]
    constructor
    · intro h
      obtain ⟨k, hk⟩ := Classical.not_forall.mp h
      obtain ⟨hk1, hk2⟩ := Classical.not_imp.mp hk
      rw [Bool.not_eq_false, bt_and, Bool.and_eq_true, bt_and, Bool.and_eq_true, hp k hk1, hY.2 c hc k hk1, hY.1.2 k hk1] at hk2
      obtain ⟨⟨⟨v, i, q1, q2, q3, q4⟩, q5⟩, ⟨u, r1, r2⟩⟩ := hk2
      have hu := (hA.2.1 u r1).1
      obtain ⟨rfl, rfl⟩ := pl_inj (n := A 0 1) (L := A 1) (w := v) (i := i) (w' := u) (i' := A 1 u - 1) q2 (by omega) (q3.trans r2.symm)
      rcases q5 with ⟨v', i', t1, t2, t3, t4⟩ | ⟨i', t1, _⟩
      · obtain ⟨rfl, rfl⟩ := pl_inj (n := A 0 1) (L := A 1) q2 t2 (q3.trans t3.symm)
        exact Or.inl ⟨rfl, v, q1, t4, q4⟩
      · omega
    · rintro (⟨_, w, q1, q2, q3⟩ | ⟨v, i, q1, q2, q3, _⟩)
      · intro h
        have hw := (hA.2.1 w q1).1
        have hpl := pl_lt hL q1 (i := A 1 w - 1) (by omega)
        have hz := h _ hpl
        have : bt ((g.2 48 s &&& g.2 56 c) &&& g.2 59 0) ((g.2 49 s &&& g.2 57 c) &&& g.2 59 1) (sm (A 1) w + (A 1 w - 1)) = true := by
          rw [bt_and, Bool.and_eq_true, bt_and, Bool.and_eq_true, hp _ hpl, hY.2 c hc _ hpl, hY.1.2 _ hpl]
          exact ⟨⟨⟨w, A 1 w - 1, q1, by omega, rfl, q3⟩, Or.inl ⟨w, A 1 w - 1, q1, by omega, rfl, q2⟩⟩, w, q1, rfl⟩
        rw [this] at hz
        simp at hz
      · omega
  have no : ((g.2 48 s &&& g.2 56 c) &&& g.2 59 0 = 0 ∧ (g.2 49 s &&& g.2 57 c) &&& g.2 59 1 = 0) → wp (fX1_stepFrom_J63 (g.2 48 s &&& g.2 56 c) (g.2 49 s &&& g.2 57 c) 0 g) (fun q => q.2.1 = g.1 ∧ (∀ o, o ≠ 60 → q.2.2 o = g.2 o) ∧ CR (A 0 1) (A 1) (stp (A 0 1) (A 1) (A 4) p c) (q.2.2 60 0) (q.2.2 60 1)) := by
    intro h
    unfold fX1_stepFrom_J63 fX1_stepFrom_J118
    rw [if_pos rfl, p_s, if_pos rfl, p_s]
    refine wp_some ⟨rfl, fun o ho => by rw [p_Loff ho, p_Loff ho], ?_⟩
    rw [p_Lon (by decide), p_Lat, p_Lat]
    exact x_stepR hA hY hc hp rfl rfl hend (Or.inr ⟨fun q => q h, rfl, rfl⟩)
  have yes : ¬ ((g.2 48 s &&& g.2 56 c) &&& g.2 59 0 = 0 ∧ (g.2 49 s &&& g.2 57 c) &&& g.2 59 1 = 0) → wp (fX1_stepFrom_J63 (g.2 48 s &&& g.2 56 c) (g.2 49 s &&& g.2 57 c) 1 g) (fun q => q.2.1 = g.1 ∧ (∀ o, o ≠ 60 → q.2.2 o = g.2 o) ∧ CR (A 0 1) (A 1) (stp (A 0 1) (A 1) (A 4) p c) (q.2.2 60 0) (q.2.2 60 1)) := by
    intro h
    unfold fX1_stepFrom_J63 fX1_stepFrom_J118
    rw [if_neg n10, p_s, if_neg n10, p_s]
    refine wp_some ⟨rfl, fun o ho => by rw [p_Loff ho, p_Loff ho], ?_⟩
    rw [p_Lon (by decide), p_Lat, p_Lat, p_Loff (by decide)]
    exact x_stepR hA hY hc hp rfl rfl hend (Or.inl ⟨h, rfl, rfl⟩)
  by_cases z1 : (g.2 48 s &&& g.2 56 c) &&& g.2 59 0 = 0
  · rw [if_pos z1]
    by_cases z2 : (g.2 49 s &&& g.2 57 c) &&& g.2 59 1 = 0
    · rw [if_pos z2]; exact no ⟨z1, z2⟩
    · rw [if_neg z2]; exact yes (fun q => z2 q.2)
  · rw [if_neg z1]; exact yes (fun q => z1 q.1)

/-! the class's tables of readings -/
theorem R_X.ag {A : aS} {g g' : z_S} (hA : I_ok A) (hX : R_X A g) (h : ∀ o, o ≤ 13 ∨ o = 26 ∨ (34 ≤ o ∧ o ≤ 45) → g'.1 o = g.1 o) : R_X A g' := by
  have h3 : A 0 3 ≤ 4 := hA.1.2.2.2.2.1
  obtain ⟨⟨x1, x2, x3, x4, x5, x6⟩, xB, xC, xD, xE, xF, xG, xH, xI, xJ⟩ := hX
  refine ⟨⟨?_, ?_, ?_, ?_, ?_, ?_⟩, ?_, ?_, ?_, ?_, ?_, ?_, ?_, ?_, ?_⟩ <;> (try simp (disch := omega) only [h]) <;> (try assumption)
  intro l hl
  have hl4 : l < 4 := by omega
  rw [h (34 + 2 * l) (by omega), h (35 + 2 * l) (by omega)]
  exact xF l hl
theorem Cs.ag {A : aS} {g g' : z_S} (h : ∀ o, o = 26 ∨ (43 ≤ o ∧ o ≤ 46) → g'.1 o = g.1 o) : Cs A A g g' := by
  right
  refine ⟨⟨?_, ?_, ?_, ?_⟩, ⟨?_, ?_, ?_⟩, ⟨rfl, rfl, rfl⟩, fun _ _ _ _ => rfl⟩ <;> simp (disch := omega) only [h]
def wX (A : aS) (b p w e : Nat) : Int := if b = 1 then (A 2 w : Int) else if b = 2 then 1 else if b = 3 then -1 else if b = 4 then (if e = p then 1 else 0) else if b = 5 then (if e = p then -1 else 0) else 0
theorem wX_ok {A : aS} (hA : I_ok A) (b p : Nat) : wtok A (wX A b p) := by
  intro w e hw
  have := (hA.2.1 w hw).2.2.1
  unfold wX
  repeat' split
  all_goals omega
theorem x_weight {A : aS} (hA : I_ok A) {g : z_S} (hX : R_X A g) {b p w e : Nat} (hb : b ≤ 5) (h6 : g.1 19 6 = nI b) (h7 : 4 ≤ b → g.1 19 7 = nI p) (hw : w < A 0 1) (he : e ≤ 48) (hp : p ≤ 48) : fX5_weight (nI w) (nI e) g = some (Int32.ofInt (wX A b p w e), g) := by
  have hn := hA.1.2.2.1
  unfold fX5_weight wX
  rw [h6, (p_clamp (n := w) (by omega)), (hX.2.1 w hw).2.1]
  try simp (disch := omega) only [p_g, p_b, p_s, p_gin, p_gblt, p_eqL, p_leL, p_Lle, p_ltL, p_Llt, p_addL, p_subL, p_mulL, p_LmulL, p_eq, p_le, p_lt, p_add, p_sub, p_mul, p_clamp, if_pos, if_neg]
  rcases (show b = 0 ∨ b = 1 ∨ b = 2 ∨ b = 3 ∨ b = 4 ∨ b = 5 by omega) with rfl | rfl | rfl | rfl | rfl | rfl
  · rfl
  · show some (nI (A 2 w), g) = some (Int32.ofInt (A 2 w : Int), g)
    rw [iI_n]
  · rfl
  · rfl
  · rw [h7 (by omega)]
    try simp (disch := omega) only [p_g, p_b, p_s, p_gin, p_gblt, p_eqL, p_leL, p_Lle, p_ltL, p_Llt, p_addL, p_subL, p_mulL, p_LmulL, p_eq, p_le, p_lt, p_add, p_sub, p_mul, p_clamp, if_pos, if_neg]
    by_cases c : e = p
    · simp only [c, if_true]; rfl
    · simp only [c, if_false]; rfl
  · rw [h7 (by omega)]
    try simp (disch := omega) only [p_g, p_b, p_s, p_gin, p_gblt, p_eqL, p_leL, p_Lle, p_ltL, p_Llt, p_addL, p_subL, p_mulL, p_LmulL, p_eq, p_le, p_lt, p_add, p_sub, p_mul, p_clamp, if_pos, if_neg]
    by_cases c : e = p
    · simp only [c, if_true]; rfl
    · simp only [c, if_false]; rfl
theorem x_behind {A : aS} (hA : I_ok A) {g : z_S} (hX : R_X A g) {x w : Nat} (hx : x ≤ 48) (hw : w < A 0 1) : fX5_behind (nI x) (nI w) g = some (nI (5 * (x + A 1 w) + A 3 w), g) := by
  have hn := hA.1.2.2.1
  obtain ⟨w1, w2, w3, w4, -⟩ := hA.2.1 w hw
  unfold fX5_behind
  rw [(p_clamp (n := w) (by omega)), (hX.2.1 w hw).1, (hX.2.1 w hw).2.2.1]
  try simp (disch := omega) only [p_g, p_b, p_s, p_gin, p_gblt, p_eqL, p_leL, p_Lle, p_ltL, p_Llt, p_addL, p_subL, p_mulL, p_LmulL, p_eq, p_le, p_lt, p_add, p_sub, p_mul, p_clamp, if_pos, if_neg]
  rw [Nat.mul_comm]
/-- the tables hold the spec at y behind a -/
def TabX (A : aS) (wt : Nat → Nat → Int) (g : z_S) (y a : Nat) : Prop := g.1 21 (5 * y + a) = eL (GG A wt y a) ∧ g.2 22 (5 * y + a) = eC 1000000000000001 (GG A wt y a)
theorem eL_far {o : Option (Int × Nat)} {d : Nat} (hb : gbd d o) (hd : d ≤ 48) : eL o < 1000000000 ↔ o ≠ none := by
  cases o with
  | none => exact ⟨fun h => absurd h (by decide), fun h => absurd rfl h⟩
  | some q =>
    have := hb q rfl
    refine ⟨fun _ h => (by cases h), fun _ => ?_⟩
    show Int32.ofInt q.1 < 1000000000
    rw [Int32.lt_iff_toInt_lt, iI_toInt (by omega) (by omega)]
    have : (1000000000 : Int32).toInt = 1000000000 := rfl
    omega
theorem x_wfrom {A : aS} (hA : I_ok A) {g : z_S} (hX : R_X A g) {b p x a w : Nat} (hb : b ≤ 5) (hp : p ≤ 48) (h6 : g.1 19 6 = nI b) (h7 : 4 ≤ b → g.1 19 7 = nI p) (hx : x < A 0 2) (ha : a ≤ 4) (hw : w < A 0 1) (hm : g.1 20 x = nI (msk (fun w => ci (stR (A 7) (A 0 2) A x w)) (A 0 1))) (hT : ∀ y c, x < y → y ≤ A 0 2 → c ≤ 4 → TabX A (wX A b p) g y c) : fX5_weightFrom (nI x) (nI a) (nI w) g = some (eL (gw A (wX A b p) x a w), g) := by
  have hn := hA.1.2.2.1
  have hd := hA.1.2.2.2.1
  obtain ⟨w1, w2, w3, w4, -⟩ := hA.2.1 w hw
  have hlt : msk (fun w => ci (stR (A 7) (A 0 2) A x w)) (A 0 1) < 65536 := Nat.lt_of_lt_of_le (msk_lt _ (fun i _ => ci_le _)) (by
    have : 2 ^ A 0 1 ≤ 2 ^ 16 := Nat.pow_le_pow_right (by omega) hn
    omega)
  unfold fX5_weightFrom
  rw [(p_clamp (n := x) (by omega)), (p_clamp (n := w) (by omega)), hm, p_shr hlt (by omega), p_and1 (Nat.lt_of_le_of_lt (Nat.div_le_self _ _) hlt), msk_bit _ (fun i _ => ci_le _) w hw, (hX.2.1 w hw).2.2.1]
  rw [p_gin (by omega) (by omega)]
  unfold gw
  by_cases hs : stR (A 7) (A 0 2) A x w
  · rw [if_neg (fun q => (p_cieq.mp q) hs), p_gin (by omega) (by omega), x_may' hA hX ha hw, p_b]
    by_cases hmay : may A a w
    · have hs1 := hs.1
      rw [if_neg (fun q => (p_cieq.mp q) hmay), x_behind hA hX (by omega) hw, p_b, p_gin (by omega) (by omega), p_clamp (by omega), cit_t ⟨hmay, hs⟩]
      have hT' := (hT (x + A 1 w) (A 3 w) (by omega) hs1 (by omega)).1
      have hbd := gbd_G hA (wX_ok hA b p) _ (x + A 1 w) (A 3 w) (Nat.le_refl _)
      rw [hT']
      cases hG : GG A (wX A b p) (x + A 1 w) (A 3 w) with
      | none => rw [if_neg (by decide)]; rfl
      | some q =>
        rw [hG] at hbd
        rw [if_pos ((eL_far hbd (by omega)).mpr (fun h => by cases h)), p_gin (by omega) (by omega), (hX.2.1 w hw).1, p_add, x_weight hA hX hb h6 h7 hw (by omega) hp, p_b]
        show some (Int32.ofInt q.1 + Int32.ofInt (wX A b p w (x + A 1 w)), g) = some (Int32.ofInt (q.1 + wX A b p w (x + A 1 w)), g)
        rw [iI_add]
    · rw [if_pos (p_cieq.mpr hmay), cit_f (fun h => hmay h.1)]; rfl
  · rw [if_pos (p_cieq.mpr hs), cit_f (fun h => hs h.2)]; rfl
def gle (o o' : Option (Int × Nat)) : Prop := match o, o' with
  | _, none => True
  | none, some _ => False
  | some p, some q => p.1 ≤ q.1
theorem gle_none {o : Option (Int × Nat)} : gle o none := by cases o <;> trivial
theorem eL_lt {d : Nat} {o o' : Option (Int × Nat)} (hd : d ≤ 48) (h : gbd d o) (h' : gbd d o') : eL o ≤ eL o' ↔ gle o o' := by
  have e1 : (nI 1000000000).toInt = 1000000000 := rfl
  cases o with
  | none =>
    cases o' with
    | none => exact ⟨fun _ => trivial, fun _ => by decide⟩
    | some q =>
      have := h' q rfl
      refine ⟨fun z => ?_, fun z => z.elim⟩
      rw [Int32.le_iff_toInt_le] at z
      have e2 : (eL (some q)).toInt = q.1 := iI_toInt (by omega) (by omega)
      have e3 : (eL none).toInt = 1000000000 := rfl
      rw [e2, e3] at z
      omega
  | some p =>
    have hp := h p rfl
    have e2 : (eL (some p)).toInt = p.1 := iI_toInt (by omega) (by omega)
    cases o' with
    | none =>
      refine ⟨fun _ => trivial, fun _ => ?_⟩
      have e3 : (eL none).toInt = 1000000000 := rfl
      rw [Int32.le_iff_toInt_le, e2, e3]
      omega
    | some q =>
      have := h' q rfl
      have e3 : (eL (some q)).toInt = q.1 := iI_toInt (by omega) (by omega)
      rw [Int32.le_iff_toInt_le, e2, e3]
      exact Iff.rfl
theorem x_mfrom {A : aS} (hA : I_ok A) {g : z_S} (hX : R_X A g) {b p x a : Nat} (hb : b ≤ 5) (hp : p ≤ 48) (h6 : g.1 19 6 = nI b) (h7 : 4 ≤ b → g.1 19 7 = nI p) (hx : x < A 0 2) (ha : a ≤ 4) (hm : g.1 20 x = nI (msk (fun w => ci (stR (A 7) (A 0 2) A x w)) (A 0 1))) (hT : ∀ y c, x < y → y ≤ A 0 2 → c ≤ 4 → TabX A (wX A b p) g y c) : fX5_measureFrom (nI x) (nI a) g = some ((), z_wl (z_wi g 21 (5 * x + a) (eL (GG A (wX A b p) x a))) 22 (5 * x + a) (eC 1000000000000001 (GG A (wX A b p) x a))) := by
  have hn := hA.1.2.2.1
  have hd := hA.1.2.2.2.1
  unfold fX5_measureFrom
  rw [GG_step hA hx]
  refine p_loop (P := fun s g' => ∃ w, w ≤ A 0 1 ∧ s = (nI x, nI a, eL (gf (gw A (wX A b p) x a) w), eC 1000000000000001 (gf (gw A (wX A b p) x a) w), nI w) ∧ g' = g) (μ := fun s _ => A 0 1 - s.2.2.2.2.toNatClampNeg) ?_ zN _ _ ⟨0, by omega, rfl, rfl⟩ (by show A 0 1 - _ < zN; rw [p_zN]; omega)
  rintro rc s g' ⟨w, hw, rfl, rfl⟩ ih
  simp only [fX5_measureFrom_B9]
  rw [hX.1.2.1]
  try simp (disch := omega) only [p_g, p_b, p_s, p_gin, p_gblt, p_eqL, p_leL, p_Lle, p_ltL, p_Llt, p_addL, p_subL, p_mulL, p_LmulL, p_eq, p_le, p_lt, p_add, p_sub, p_mul, p_clamp, if_pos, if_neg]
  by_cases hlt : A 0 1 ≤ w
  · have : w = A 0 1 := by omega
    subst this
    rw [if_pos hlt, show x * 5 + a = 5 * x + a by omega]
  · have hw' : w < A 0 1 := by omega
    rw [if_neg hlt, x_wfrom hA hX hb hp h6 h7 hx ha hw' hm hT, p_b]
    have hb1 : gbd (A 0 2 - x) (gf (gw A (wX A b p) x a) w) := gbd_f _ (fun i hi => gbd_gw hA (wX_ok hA b p) (by omega) (by omega))
    have hb2 : gbd (A 0 2 - x) (gw A (wX A b p) x a w) := gbd_gw hA (wX_ok hA b p) (by omega) hw'
    have hdec : A 0 1 - (nI (w + 1)).toNatClampNeg < A 0 1 - (nI w).toNatClampNeg := by
      rw [p_clamp (by omega), p_clamp (by omega)]
      omega
    have hnext : ∀ (e : Int32) (c : Int64), e = eL (gf (gw A (wX A b p) x a) (w + 1)) → c = eC 1000000000000001 (gf (gw A (wX A b p) x a) (w + 1)) → rc (nI x, nI a, e, c, nI (w + 1)) g' = some ((), z_wl (z_wi g' 21 (5 * x + a) (eL (gf (gw A (wX A b p) x a) (A 0 1)))) 22 (5 * x + a) (eC 1000000000000001 (gf (gw A (wX A b p) x a) (A 0 1)))) := by
      intro e c he hc
      exact ih _ _ ⟨w + 1, by omega, by rw [he, hc], rfl⟩ hdec
    have hmany : ∀ q, gw A (wX A b p) x a w = some q → g'.2 22 (5 * (x + A 1 w) + A 3 w) = lN (min 1000000000000001 q.2) := by
      intro q hq
      unfold gw at hq
      by_cases c : rok A a w x
      · rw [cit_t c] at hq
        have hc := c.2.1
        have h1 := (hA.2.1 w hw').1
        have h4 := (hA.2.1 w hw').2.2.2.1
        rw [(hT (x + A 1 w) (A 3 w) (by omega) hc (by omega)).2]
        cases hG : GG A (wX A b p) (x + A 1 w) (A 3 w) with
        | none => rw [hG] at hq; cases hq
        | some r => rw [hG] at hq; cases hq; rfl
      · rw [cit_f c] at hq; cases hq
    have hbeh := x_behind hA hX (x := x) (by omega) hw'
    have hr : ∀ q, gw A (wX A b p) x a w = some q → 5 * (x + A 1 w) + A 3 w < 245 := by
      intro q hq
      unfold gw at hq
      by_cases c : rok A a w x
      · have hc := c.2.1
        have h4 := (hA.2.1 w hw').2.2.2.1
        omega
      · rw [cit_f c] at hq; cases hq
    rw [gf] at hnext
    cases hw2 : gw A (wX A b p) x a w with
    | none =>
      rw [if_pos ((eL_lt (by omega) hb1 (by intro q hq; cases hq)).mpr gle_none)]
      unfold fX5_measureFrom_J43
      rw [if_pos (by decide), p_addL]
      refine hnext _ _ ?_ ?_
      · rw [hw2]; cases gf (gw A (wX A b p) x a) w <;> rfl
      · rw [hw2]; cases gf (gw A (wX A b p) x a) w <;> rfl
    | some q =>
      have hbq := hb2 q hw2
      have hnf : ¬ (1000000000 : Int32) ≤ eL (some q) := by
        have := (eL_far (o := some q) (d := A 0 2 - x) (by rw [← hw2]; exact hb2) (by omega)).mpr (fun h => by cases h)
        rw [Int32.lt_iff_toInt_lt] at this
        rw [Int32.le_iff_toInt_le]
        omega
      have hr' := hr q hw2
      cases hw1 : gf (gw A (wX A b p) x a) w with
      | none =>
        have hb2' : gbd (A 0 2 - x) (some q) := by rw [← hw2]; exact hb2
        rw [if_neg (fun z => by
          have := (eL_lt (o := none) (o' := some q) (d := A 0 2 - x) (by omega) (by intro q hq; cases hq) hb2').mp z
          exact this)]
        unfold fX5_measureFrom_J43
        rw [if_neg hnf, if_pos rfl, hbeh, p_b, p_gin hr' (by omega), p_clamp (by omega), hmany q hw2, show (0 : Int64) = lN 0 from rfl, x_cap (by omega) (by omega), p_b, p_addL]
        refine hnext _ _ ?_ ?_
        · rw [hw1, hw2]; rfl
        · rw [hw1, hw2]
          show lN _ = lN (min 1000000000000001 q.2)
          congr 1
          omega
      | some r =>
        have hb2' : gbd (A 0 2 - x) (some q) := by rw [← hw2]; exact hb2
        have hb1' : gbd (A 0 2 - x) (some r) := by rw [← hw1]; exact hb1
        have hle : eL (some r) ≤ eL (some q) ↔ r.1 ≤ q.1 := eL_lt (by omega : A 0 2 - x ≤ 48) hb1' hb2'
        have hbr := hb1' r rfl
        have heq : eL (some q) = eL (some r) ↔ q.1 = r.1 := iI_inj (by omega) (by omega) (by omega) (by omega)
        by_cases c1 : q.1 < r.1
        · rw [if_neg (fun z => by have := hle.mp z; omega)]
          unfold fX5_measureFrom_J43
          rw [if_neg hnf, if_pos rfl, hbeh, p_b, p_gin hr' (by omega), p_clamp (by omega), hmany q hw2, show (0 : Int64) = lN 0 from rfl, x_cap (by omega) (by omega), p_b, p_addL]
          refine hnext _ _ ?_ ?_
          · rw [hw1, hw2]; simp only [gadd]; rw [if_pos c1]
          · rw [hw1, hw2]; simp only [gadd]; rw [if_pos c1]
            show lN _ = lN (min 1000000000000001 q.2)
            congr 1
            omega
        · rw [if_pos (hle.mpr (by omega))]
          unfold fX5_measureFrom_J43
          rw [if_neg hnf]
          by_cases c2 : q.1 = r.1
          · rw [if_pos (heq.mpr c2), hbeh, p_b, p_gin hr' (by omega), p_clamp (by omega), hmany q hw2]
            show z_b (fX10_addCapped (lN (min 1000000000000001 r.2)) (lN (min 1000000000000001 q.2)) g') _ = _
            rw [x_cap (by omega) (by omega), p_b, p_addL]
            refine hnext _ _ ?_ ?_
            · rw [hw1, hw2]; simp only [gadd]; rw [if_neg c1, if_pos c2]; rfl
            · rw [hw1, hw2]; simp only [gadd]; rw [if_neg c1, if_pos c2]
              show lN _ = lN (min 1000000000000001 (r.2 + q.2))
              congr 1
              omega
          · rw [if_neg (fun z => c2 (heq.mp z)), p_addL]
            refine hnext _ _ ?_ ?_
            · rw [hw1, hw2]; simp only [gadd]; rw [if_neg c1, if_neg c2]
            · rw [hw1, hw2]; simp only [gadd]; rw [if_neg c1, if_neg c2]
/-- what the class's tables are behind a measuring -/
def MS (A : aS) (b p : Nat) (pv : Int32) (g g' : z_S) : Prop := (∀ o, o ≠ 19 → o ≠ 20 → o ≠ 21 → g'.1 o = g.1 o) ∧ (∀ o, o ≠ 22 → g'.2 o = g.2 o) ∧ g'.1 19 6 = nI b ∧ g'.1 19 7 = pv ∧ (∀ y, y < A 0 2 → g'.1 20 y = nI (msk (fun w => ci (stR (A 7) (A 0 2) A y w)) (A 0 1))) ∧ ∀ y c, y ≤ A 0 2 → c ≤ 4 → TabX A (wX A b p) g' y c
theorem MS.rx {A : aS} {b p : Nat} {pv : Int32} {g g' : z_S} (hA : I_ok A) (hX : R_X A g) (h : MS A b p pv g g') : R_X A g' := R_X.ag hA hX (fun o ho => h.1 o (by omega) (by omega) (by omega))
theorem MS.cs {A : aS} {b p : Nat} {pv : Int32} {g g' : z_S} (h : MS A b p pv g g') : Cs A A g g' := Cs.ag (fun o ho => h.1 o (by omega) (by omega) (by omega))
theorem x_measure {A : aS} (hA : I_ok A) {g : z_S} (hX : R_X A g) {b p : Nat} {pv : Int32} (hb : b ≤ 5) (hp : p ≤ 48) (hpv : 4 ≤ b → pv = nI p) : wp (fX5_measure (nI b) pv g) (fun q => MS A b p pv g q.2) := by
  have hn := hA.1.2.2.1
  have hd := hA.1.2.2.2.1
  unfold fX5_measure
  rw [p_s, p_s]
  refine wp_loop (P := fun s g' => ∃ c, c ≤ 5 ∧ s = nI c ∧ (∀ o, o ≠ 19 → o ≠ 20 → o ≠ 21 → g'.1 o = g.1 o) ∧ (∀ o, o ≠ 22 → g'.2 o = g.2 o) ∧ g'.1 19 6 = nI b ∧ g'.1 19 7 = pv ∧ ∀ c', c' < c → TabX A (wX A b p) g' (A 0 2) c') (μ := fun s _ => 5 - s.toNatClampNeg) ?_ zN _ _ ⟨0, by omega, rfl, ?_, fun _ _ => rfl, ?_, ?_, fun c' h => by omega⟩ (by show 5 - _ < zN; rw [p_zN]; omega)
  · rintro rc s g1 ⟨c, hc, rfl, e1, e2, e3, e4, e5⟩ ih
    simp only [fX5_measure_B12]
    rw [e1 11 (by omega) (by omega) (by omega), hX.1.2.2.1]
    try simp (disch := omega) only [p_g, p_b, p_s, p_gin, p_gblt, p_eqL, p_leL, p_Lle, p_ltL, p_Llt, p_addL, p_subL, p_mulL, p_LmulL, p_eq, p_le, p_lt, p_add, p_sub, p_mul, p_clamp, if_pos, if_neg]
    by_cases hlt : 5 ≤ c
    · have : c = 5 := by omega
      subst this
      rw [if_pos hlt]
      have hX1 : R_X A g1 := R_X.ag hA hX (fun o ho => e1 o (by omega) (by omega) (by omega))
      refine wp_loop (P := fun s g' => ∃ m, m ≤ A 0 2 ∧ s = (if m = 0 then -1 else nI (m - 1)) ∧ (∀ o, o ≠ 19 → o ≠ 20 → o ≠ 21 → g'.1 o = g.1 o) ∧ (∀ o, o ≠ 22 → g'.2 o = g.2 o) ∧ g'.1 19 6 = nI b ∧ g'.1 19 7 = pv ∧ (∀ y, m ≤ y → y < A 0 2 → g'.1 20 y = nI (msk (fun w => ci (stR (A 7) (A 0 2) A y w)) (A 0 1))) ∧ ∀ y c, m ≤ y → y ≤ A 0 2 → c ≤ 4 → TabX A (wX A b p) g' y c) (μ := fun s _ => if s < 0 then 0 else s.toNatClampNeg + 1) ?_ zN _ _ ⟨A 0 2, Nat.le_refl _, ?_, e1, e2, e3, e4, fun y h1 h2 => by omega, fun y c h1 h2 h3 => by rw [show y = A 0 2 by omega]; exact e5 c (by omega)⟩ ?_
      · rintro rc2 s g2 ⟨m, hm, rfl, f1, f2, f3, f4, f5, f6⟩ ih2
        have hX2 : R_X A g2 := R_X.ag hA hX (fun o ho => f1 o (by omega) (by omega) (by omega))
        simp only [fX5_measure_B67]
        by_cases hm0 : m = 0
        · subst hm0
          rw [if_pos rfl, if_pos (by decide)]
          exact wp_some ⟨f1, f2, f3, f4, fun y hy => f5 y (by omega) hy, fun y c h1 h2 => f6 y c (by omega) h1 h2⟩
        · obtain ⟨x, rfl⟩ : ∃ x, m = x + 1 := ⟨m - 1, by omega⟩
          rw [if_neg hm0, Nat.add_sub_cancel, if_neg (p_neg (by omega)), x_standing hA hX2 (by omega), p_b]
          rw [p_gin (by omega) (by omega), p_clamp (by omega), p_s]
          have f5' : ∀ y, x ≤ y → y < A 0 2 → (z_wi g2 20 x (nI (msk (fun w => ci (stR (A 7) (A 0 2) A x w)) (A 0 1)))).1 20 y = nI (msk (fun w => ci (stR (A 7) (A 0 2) A y w)) (A 0 1)) := by
            intro y h1 h2
            by_cases hyx : y = x
            · subst hyx; rw [p_at]
            · rw [p_on hyx]; exact f5 y (by omega) h2
          refine wp_loop (P := fun s g' => ∃ c, c ≤ 5 ∧ s = (nI x, nI c) ∧ (∀ o, o ≠ 19 → o ≠ 20 → o ≠ 21 → g'.1 o = g.1 o) ∧ (∀ o, o ≠ 22 → g'.2 o = g.2 o) ∧ g'.1 19 6 = nI b ∧ g'.1 19 7 = pv ∧ (∀ y, x ≤ y → y < A 0 2 → g'.1 20 y = nI (msk (fun w => ci (stR (A 7) (A 0 2) A y w)) (A 0 1))) ∧ (∀ y c, x < y → y ≤ A 0 2 → c ≤ 4 → TabX A (wX A b p) g' y c) ∧ ∀ c', c' < c → TabX A (wX A b p) g' x c') (μ := fun s _ => 5 - s.2.toNatClampNeg) ?_ zN _ _ ⟨0, by omega, rfl, ?_, f2, ?_, ?_, f5', ?_, fun c' h => by omega⟩ (by show 5 - _ < zN; rw [p_zN]; omega)
          · rintro rc3 s g3 ⟨c, hc, rfl, h1, h2, h3, h4, h5, h6, h7⟩ ih3
            have hX3 : R_X A g3 := R_X.ag hA hX (fun o ho => h1 o (by omega) (by omega) (by omega))
            simp only [fX5_measure_B92]
            try simp (disch := omega) only [p_g, p_b, p_s, p_gin, p_gblt, p_eqL, p_leL, p_Lle, p_ltL, p_Llt, p_addL, p_subL, p_mulL, p_LmulL, p_eq, p_le, p_lt, p_add, p_sub, p_mul, p_clamp, if_pos, if_neg]
            by_cases hlc : 5 ≤ c
            · have : c = 5 := by omega
              subst this
              rw [if_pos hlc]
              refine ih2 _ _ ⟨x, by omega, ?_, h1, h2, h3, h4, h5, ?_⟩ ?_
              · by_cases hx0 : x = 0
                · subst hx0; rfl
                · rw [if_neg hx0, p_m1 (by omega)]
              · intro y c q1 q2 q3
                by_cases hyx : y = x
                · subst hyx; exact h7 c (by omega)
                · exact h6 y c (by omega) q2 q3
              · rw [if_neg hm0, Nat.add_sub_cancel, if_neg (p_neg (by omega)), p_clamp (by omega)]
                by_cases hx0 : x = 0
                · subst hx0; rw [if_pos (by decide)]; omega
                · rw [p_m1 (by omega), if_neg (p_neg (by omega)), p_clamp (by omega)]; omega
            · rw [if_neg hlc, x_mfrom hA hX3 hb hp h3 (fun q => by rw [h4]; exact hpv q) (by omega) (by omega) (h5 x (Nat.le_refl _) (by omega)) h6, p_b]
              refine ih3 _ _ ⟨c + 1, by omega, rfl, ?_, ?_, ?_, ?_, ?_, ?_, ?_⟩ ?_
              · intro o q1 q2 q3
                rw [p_wl1]
                rw [p_off q3]; exact h1 o q1 q2 q3
              · intro o q1
                rw [p_Loff q1]; exact h2 o q1
              · rw [p_wl1]
                rw [p_off (by decide)]; exact h3
              · rw [p_wl1]
                rw [p_off (by decide)]; exact h4
              · intro y q1 q2
                rw [p_wl1]
                rw [p_off (by decide)]; exact h5 y q1 q2
              · intro y c2 q1 q2 q3
                have := h6 y c2 q1 q2 q3
                refine ⟨?_, ?_⟩
                · rw [p_wl1]
                  rw [p_on (by omega)]; exact this.1
                · rw [p_Lon (by omega)]; exact this.2
              · intro c2 q1
                by_cases hcc : c2 = c
                · subst hcc
                  refine ⟨?_, ?_⟩
                  · rw [p_wl1]
                    rw [p_at]
                  · rw [p_Lat]
                · have := h7 c2 (by omega)
                  refine ⟨?_, ?_⟩
                  · rw [p_wl1]
                    rw [p_on (by omega)]; exact this.1
                  · rw [p_Lon (by omega)]; exact this.2
              · show _ - (nI (_ + 1)).toNatClampNeg < _ - (nI _).toNatClampNeg
                rw [p_clamp (by omega), p_clamp (by omega)]
                omega
          · intro o q1 q2 q3
            rw [p_off q2]; exact f1 o q1 q2 q3
          · rw [p_off (by decide)]; exact f3
          · rw [p_off (by decide)]; exact f4
          · intro y c q1 q2 q3
            have := f6 y c (by omega) q2 q3
            refine ⟨?_, this.2⟩
            rw [p_off (by decide)]; exact this.1
      · by_cases h0 : A 0 2 = 0
        · rw [h0]; rfl
        · rw [if_neg h0, p_l1, p_sub (by omega)]
      · rw [p_zN]
        by_cases h0 : A 0 2 = 0
        · rw [h0]; decide
        · rw [p_l1, p_sub (by omega), if_neg (p_neg (by omega)), p_clamp (by omega)]; omega
    · rw [if_neg hlt]
      rw [p_off (by decide), e1 11 (by omega) (by omega) (by omega), hX.1.2.2.1]
      try simp (disch := omega) only [p_g, p_b, p_s, p_gin, p_gblt, p_eqL, p_leL, p_Lle, p_ltL, p_Llt, p_addL, p_subL, p_mulL, p_LmulL, p_eq, p_le, p_lt, p_add, p_sub, p_mul, p_clamp, if_pos, if_neg]
      refine ih _ _ ⟨c + 1, by omega, rfl, ?_, ?_, ?_, ?_, ?_⟩ ?_
      · intro o q1 q2 q3
        rw [p_wl1]
        rw [p_off q3]; exact e1 o q1 q2 q3
      · intro o q1
        rw [p_Loff q1]; exact e2 o q1
      · rw [p_wl1]
        rw [p_off (by decide)]; exact e3
      · rw [p_wl1]
        rw [p_off (by decide)]; exact e4
      · intro c2 q1
        rw [show A 0 2 * 5 + c = 5 * A 0 2 + c by omega]
        by_cases hcc : c2 = c
        · subst hcc
          refine ⟨?_, ?_⟩
          · rw [p_wl1]
            rw [p_at, GG_end (Nat.le_refl _)]; rfl
          · rw [p_Lat, GG_end (Nat.le_refl _)]; rfl
        · have := e5 c2 (by omega)
          refine ⟨?_, ?_⟩
          · rw [p_wl1]
            rw [p_on (by omega)]; exact this.1
          · rw [p_Lon (by omega)]; exact this.2
      · show _ - (nI (_ + 1)).toNatClampNeg < _ - (nI _).toNatClampNeg
        rw [p_clamp (by omega), p_clamp (by omega)]
        omega
  · intro o q1 q2 q3
    rw [p_off q1, p_off q1]
  · rw [p_on (by decide), p_at]
  · rw [p_at]

/-! sums, capped sums; ways -/
def sm (f : Nat → Nat) : Nat → Nat
  | 0 => 0
  | n + 1 => sm f n + f n
theorem sm_congr {f h : Nat → Nat} : ∀ n, (∀ i, i < n → f i = h i) → sm f n = sm h n
  | 0, _ => rfl
  | n + 1, e => by rw [sm, sm, sm_congr n (fun i hi => e i (by omega)), e n (by omega)]
theorem sm_cap {c : Nat} {f : Nat → Nat} : ∀ n, min c (sm (fun i => min c (f i)) n) = min c (sm f n)
  | 0 => rfl
  | n + 1 => by
    have := sm_cap (c := c) (f := f) n
    rw [sm, sm]
    omega
theorem sm_le {c : Nat} {f : Nat → Nat} : ∀ n, (∀ i, i < n → f i ≤ c) → sm f n ≤ n * c
  | 0, _ => by simp [sm]
  | n + 1, h => by
    have h1 := sm_le (c := c) n (fun i hi => h i (by omega))
    have h2 := h n (by omega)
    rw [sm, Nat.add_mul]
    omega
/-- how many rows of words have a length -/
def wyF (A : aS) : Nat → Nat → Nat
  | 0 => fun _ => 1
  | n + 1 => fun x => if x = n + 1 then sm (fun w => if A 1 w ≤ n + 1 then wyF A n (n + 1 - A 1 w) else 0) (A 0 1) else wyF A n x
def wy (A : aS) (x : Nat) : Nat := wyF A x x
theorem wyF_le {A : aS} : ∀ n x, x ≤ n → wyF A n x = wy A x
  | 0, x, h => by
    have : x = 0 := by omega
    subst this; rfl
  | n + 1, x, h => by
    by_cases e : x = n + 1
    · subst e; rfl
    · show (if x = n + 1 then _ else wyF A n x) = _
      rw [if_neg e, wyF_le n x (by omega)]
theorem wy_0 (A : aS) : wy A 0 = 1 := rfl
theorem wy_S {A : aS} (hA : I_ok A) (n : Nat) : wy A (n + 1) = sm (fun w => if A 1 w ≤ n + 1 then wy A (n + 1 - A 1 w) else 0) (A 0 1) := by
  show (if n + 1 = n + 1 then _ else _) = _
  rw [if_pos rfl]
  refine sm_congr _ (fun w hw => ?_)
  have := (hA.2.1 w hw).1
  by_cases h : A 1 w ≤ n + 1
  · rw [if_pos h, if_pos h, wyF_le _ _ (by omega)]
  · rw [if_neg h, if_neg h]
theorem R_M.lg {A : aS} {g g' : z_S} (h : R_M A g) (e : g'.1 = g.1) : R_M A g' := by
  unfold R_M at *
  rw [e]; exact h
theorem R_X.lg {A : aS} {g g' : z_S} (h : R_X A g) (e : g'.1 = g.1) : R_X A g' := by
  unfold R_X at *
  rw [e]; exact h
theorem Cs.lg {A : aS} {g g' : z_S} (e : g'.1 = g.1) : Cs A A g g' := by
  right
  rw [e]
  exact ⟨⟨rfl, rfl, rfl, rfl⟩, ⟨rfl, rfl, rfl⟩, ⟨rfl, rfl, rfl⟩, fun _ _ _ _ => rfl⟩
theorem p_Lge {a n : Nat} (ha : a < 9223372036854775808) (hn : (OfNat.ofNat n : Nat) < 9223372036854775808) : lN a ≤ (no_index (OfNat.ofNat n) : Int64) ↔ a ≤ OfNat.ofNat n := p_JLe (b := n) ha hn
theorem p_Lgt {a n : Nat} (ha : a < 9223372036854775808) (hn : (OfNat.ofNat n : Nat) < 9223372036854775808) : (no_index (OfNat.ofNat n) : Int64) < lN a ↔ OfNat.ofNat n < a := p_JLt (a := n) hn ha
theorem x_cap {a b : Nat} {g : z_S} (ha : a ≤ 1000000000000001) (hb : b ≤ 1000000000000001) : fX10_addCapped (lN a) (lN b) g = some (lN (min 1000000000000001 (a + b)), g) := by
  unfold fX10_addCapped
  rw [p_Ladd]
  simp (disch := omega) only [p_Lgt]
  by_cases h : 1000000000000001 < a + b
  · rw [if_pos h, show min 1000000000000001 (a + b) = 1000000000000001 by omega]; rfl
  · rw [if_neg h, show min 1000000000000001 (a + b) = a + b by omega]
theorem m_ways_in {A : aS} (hA : I_ok A) {g : z_S} (hM : R_M A g) {β : Type} (k : Int32 → Int32 → Int64 → z_S → Option (Int64 × z_S)) (v : Int32) (x : Nat) (hx1 : 1 ≤ x) (hx : x ≤ 40) (ht : ∀ y, y < x → g.2 27 y = lN (min 2000000000000000 (wy A y))) : z_loop (fX11_ways_B35 k) zN (v, nI x, 0, 0) g = k v (nI x) (lN (sm (fun w => if A 1 w ≤ x then min 2000000000000000 (wy A (x - A 1 w)) else 0) (A 0 1))) g := by
  have hn : A 0 1 ≤ 16 := hA.1.2.2.1
  refine p_loop (P := fun a g' => ∃ w, w ≤ A 0 1 ∧ a = (v, nI x, lN (sm (fun w => if A 1 w ≤ x then min 2000000000000000 (wy A (x - A 1 w)) else 0) w), nI w) ∧ g' = g) (μ := fun a _ => A 0 1 - a.2.2.2.toNatClampNeg) ?_ zN _ _ ⟨0, by omega, rfl, rfl⟩ (by show A 0 1 - _ < zN; rw [p_zN]; omega)
  rintro rc a g' ⟨w, hw, rfl, rfl⟩ ih
  simp only [fX11_ways_B35]
  rw [hM.1.2.1]
  simp (disch := omega) only [p_g, p_b, p_s, p_gin, p_gblt, p_eqL, p_leL, p_Lle, p_ltL, p_Llt, p_addL, p_subL, p_mulL, p_LmulL, p_eq, p_le, p_lt, p_add, p_sub, p_mul, p_clamp, if_pos, if_neg]
  by_cases hlt : A 0 1 ≤ w
  · have : w = A 0 1 := by omega
    subst this
    rw [if_pos hlt]
  · have hw' : w < A 0 1 := by omega
    obtain ⟨b1, b2, -⟩ := hA.2.1 w hw'
    rw [if_neg hlt, (hM.2.1 w hw').1]
    simp (disch := omega) only [p_g, p_b, p_s, p_gin, p_gblt, p_eqL, p_leL, p_Lle, p_ltL, p_Llt, p_addL, p_subL, p_mulL, p_LmulL, p_eq, p_le, p_lt, p_add, p_sub, p_mul, p_clamp, if_pos, if_neg]
    by_cases hs : x < A 1 w
    · rw [if_pos hs]
      refine ih _ _ ⟨w + 1, by omega, ?_, rfl⟩ ?_
      · rw [sm, if_neg (by omega)]
        rw [show (0 : Int64) = lN 0 from rfl, p_Ladd]
      · show A 0 1 - (nI (w + 1)).toNatClampNeg < A 0 1 - (nI w).toNatClampNeg
        rw [p_clamp (by omega), p_clamp (by omega)]
        omega
    · rw [if_neg hs]
      rw [ht _ (by omega), p_Ladd]
      refine ih _ _ ⟨w + 1, by omega, ?_, rfl⟩ ?_
      · rw [sm, if_pos (by omega)]
      · show A 0 1 - (nI (w + 1)).toNatClampNeg < A 0 1 - (nI w).toNatClampNeg
        rw [p_clamp (by omega), p_clamp (by omega)]
        omega
theorem x_ways_in {A : aS} (hA : I_ok A) {g : z_S} (hX : R_X A g) (x : Nat) (hx1 : 1 ≤ x) (hx : x ≤ 40) (ht : ∀ y, y < x → g.2 42 y = lN (min 1000000000000001 (wy A y))) {Q : Int64 × z_S → Prop} (k : Int32 → Int32 → z_S → Option (Int64 × z_S)) (v : Int32) (hk : ∀ g', g'.1 = g.1 → (∀ y, y ≤ x → g'.2 42 y = lN (min 1000000000000001 (wy A y))) → wp (k v (nI x) g') Q) : wp (z_loop (fX10_ways_B37 k) zN (v, nI x, 0) (z_wl g 42 x 0)) Q := by
  have hn : A 0 1 ≤ 16 := hA.1.2.2.1
  refine wp_loop (P := fun a g' => ∃ w, w ≤ A 0 1 ∧ a = (v, nI x, nI w) ∧ g'.1 = g.1 ∧ (∀ y, y < x → g'.2 42 y = lN (min 1000000000000001 (wy A y))) ∧ g'.2 42 x = lN (min 1000000000000001 (sm (fun w => if A 1 w ≤ x then wy A (x - A 1 w) else 0) w))) (μ := fun a _ => A 0 1 - a.2.2.toNatClampNeg) ?_ zN _ _ ⟨0, by omega, rfl, rfl, fun y hy => by rw [p_Lon (by omega)]; exact ht y hy, by rw [p_Lat]; rfl⟩ (by show A 0 1 - _ < zN; rw [p_zN]; omega)
  rintro rc a g' ⟨w, hw, rfl, e1, e2, e3⟩ ih
  simp only [fX10_ways_B37]
  rw [e1, hX.1.2.1]
  simp (disch := omega) only [p_g, p_b, p_s, p_gin, p_gblt, p_eqL, p_leL, p_Lle, p_ltL, p_Llt, p_addL, p_subL, p_mulL, p_LmulL, p_eq, p_le, p_lt, p_add, p_sub, p_mul, p_clamp, if_pos, if_neg]
  by_cases hlt : A 0 1 ≤ w
  · have : w = A 0 1 := by omega
    subst this
    rw [if_pos hlt]
    refine hk g' e1 (fun y hy => ?_)
    by_cases hyx : y = x
    · subst hyx
      obtain ⟨m, rfl⟩ : ∃ m, y = m + 1 := ⟨y - 1, by omega⟩
      rw [e3, wy_S hA]
    · exact e2 y (by omega)
  · have hw' : w < A 0 1 := by omega
    obtain ⟨b1, b2, -⟩ := hA.2.1 w hw'
    rw [if_neg hlt, (hX.2.1 w hw').1]
    have hdec : A 0 1 - (nI (w + 1)).toNatClampNeg < A 0 1 - (nI w).toNatClampNeg := by
      rw [p_clamp (by omega), p_clamp (by omega)]
      omega
    by_cases hs : x < A 1 w
    · rw [if_pos (by rw [Int32.lt_iff_toInt_lt, t_0, pk_sub_toInt (by omega) (by omega)]; omega)]
      refine ih _ _ ⟨w + 1, by omega, rfl, e1, e2, ?_⟩ hdec
      rw [e3, sm, if_neg (by omega)]
      rfl
    · rw [p_sub (by omega)]
      simp (disch := omega) only [p_g, p_b, p_s, p_gin, p_gblt, p_eqL, p_leL, p_Lle, p_ltL, p_Llt, p_addL, p_subL, p_mulL, p_LmulL, p_eq, p_le, p_lt, p_add, p_sub, p_mul, p_clamp, if_pos, if_neg]
      rw [e3, e2 (x - A 1 w) (by omega), x_cap (by omega) (by omega), p_b]
      refine ih _ _ ⟨w + 1, by omega, rfl, e1, fun y hy => ?_, ?_⟩ hdec
      · rw [p_Lon (by omega)]; exact e2 y hy
      · rw [p_Lat, sm, if_pos (by omega)]
        congr 1
        omega
theorem o_ways (v : Int32) : Op0 (fX10_ways v) (fX11_ways v) := by
  refine op_wp (fun A gx gm hA hX hM => ?_)
  unfold fX10_ways fX11_ways
  by_cases h : 0 ≤ v.toInt ∧ v.toInt ≤ 40
  · rw [m_yes (b := 0) (c := 40) h, p_b, if_neg n10]
    obtain ⟨n, -, h2, rfl⟩ := p_rng (a := 0) (b := 40) (by decide) h
    refine ⟨if wy A n ≤ 1000000000000000 then lN (wy A n) else -1005, A, hA, ?_, ?_⟩
    · rw [if_neg (p_neg (by omega)), if_pos (by rw [show (40 : Int32) = nI 40 from rfl, p_le (by omega) (by omega)]; omega), p_l0]
      simp (disch := omega) only [p_g, p_b, p_s, p_gin, p_gblt, p_eqL, p_leL, p_Lle, p_ltL, p_Llt, p_addL, p_subL, p_mulL, p_LmulL, p_eq, p_le, p_lt, p_add, p_sub, p_mul, p_clamp, if_pos, if_neg]
      refine wp_loop (P := fun a g => ∃ x, 1 ≤ x ∧ x ≤ n + 1 ∧ a = (nI n, nI x) ∧ g.1 = gx.1 ∧ ∀ y, y < x → g.2 42 y = lN (min 1000000000000001 (wy A y))) (μ := fun a _ => n + 1 - a.2.toNatClampNeg) ?_ zN _ _ ⟨1, by omega, by omega, rfl, rfl, fun y hy => by rw [show y = 0 by omega, p_Lat, wy_0]; rfl⟩ (by show n + 1 - _ < zN; rw [p_zN]; omega)
      rintro rc a g ⟨x, hx1, hx2, rfl, e1, e2⟩ ih
      simp only [fX10_ways_B23]
      simp (disch := omega) only [p_g, p_b, p_s, p_gin, p_gblt, p_eqL, p_leL, p_Lle, p_ltL, p_Llt, p_addL, p_subL, p_mulL, p_LmulL, p_eq, p_le, p_lt, p_add, p_sub, p_mul, p_clamp, if_pos, if_neg]
      by_cases hlt : n < x
      · rw [if_pos hlt, e2 n (by omega)]
        simp (disch := omega) only [p_Lge]
        by_cases hm : wy A n ≤ 1000000000000000
        · rw [if_pos hm, if_pos (by omega), show min 1000000000000001 (wy A n) = wy A n by omega]
          exact wp_some ⟨rfl, hX.lg e1, Cs.lg e1⟩
        · rw [if_neg hm, if_neg (by omega)]
          exact wp_some ⟨rfl, hX.lg e1, Cs.lg e1⟩
      · rw [if_neg hlt]
        refine x_ways_in hA (hX.lg e1) x hx1 (by omega) e2 _ _ (fun g' h1 h2 => ?_)
        simp (disch := omega) only [p_g, p_b, p_s, p_gin, p_gblt, p_eqL, p_leL, p_Lle, p_ltL, p_Llt, p_addL, p_subL, p_mulL, p_LmulL, p_eq, p_le, p_lt, p_add, p_sub, p_mul, p_clamp, if_pos, if_neg]
        refine ih _ _ ⟨x + 1, by omega, by omega, rfl, h1.trans e1, fun y hy => h2 y (by omega)⟩ ?_
        show n + 1 - (nI (x + 1)).toNatClampNeg < n + 1 - (nI x).toNatClampNeg
        rw [p_clamp (by omega), p_clamp (by omega)]
        omega
    · rw [p_l0]
      simp (disch := omega) only [p_g, p_b, p_s, p_gin, p_gblt, p_eqL, p_leL, p_Lle, p_ltL, p_Llt, p_addL, p_subL, p_mulL, p_LmulL, p_eq, p_le, p_lt, p_add, p_sub, p_mul, p_clamp, if_pos, if_neg]
      refine wp_loop (P := fun a g => ∃ x, 1 ≤ x ∧ x ≤ n + 1 ∧ a = (nI n, nI x) ∧ g.1 = gm.1 ∧ ∀ y, y < x → g.2 27 y = lN (min 2000000000000000 (wy A y))) (μ := fun a _ => n + 1 - a.2.toNatClampNeg) ?_ zN _ _ ⟨1, by omega, by omega, rfl, rfl, fun y hy => by rw [show y = 0 by omega, p_Lat, wy_0]; rfl⟩ (by show n + 1 - _ < zN; rw [p_zN]; omega)
      rintro rc a g ⟨x, hx1, hx2, rfl, e1, e2⟩ ih
      simp only [fX11_ways_B25]
      simp (disch := omega) only [p_g, p_b, p_s, p_gin, p_gblt, p_eqL, p_leL, p_Lle, p_ltL, p_Llt, p_addL, p_subL, p_mulL, p_LmulL, p_eq, p_le, p_lt, p_add, p_sub, p_mul, p_clamp, if_pos, if_neg]
      by_cases hlt : n < x
      · rw [if_pos hlt, e2 n (by omega)]
        simp (disch := omega) only [p_Lge]
        by_cases hm : wy A n ≤ 1000000000000000
        · rw [if_pos hm, if_pos (by omega), show min 2000000000000000 (wy A n) = wy A n by omega]
          exact wp_some ⟨rfl, hM.lg e1⟩
        · rw [if_neg hm, if_neg (by omega)]
          exact wp_some ⟨rfl, hM.lg e1⟩
      · rw [if_neg hlt]
        have hl := m_ways_in (β := Unit) hA (hM.lg e1) (fun (v1 : Int32) (v2 : Int32) (v3 : Int64) (g : z_S) => if v3 ≤ 2000000000000000 then (z_g (z_in v2 41) (z_s (z_wl g 27 (v2).toNatClampNeg v3) (fun g102 => (rc (v1, (v2 + 1)) g102)))) else (z_g (z_in v2 41) (z_s (z_wl g 27 (v2).toNatClampNeg 2000000000000000) (fun g102 => (rc (v1, (v2 + 1)) g102))))) (nI n) x hx1 (by omega) e2
        refine wp_eq hl ?_
        have hcap : min 2000000000000000 (sm (fun w => if A 1 w ≤ x then min 2000000000000000 (wy A (x - A 1 w)) else 0) (A 0 1)) = min 2000000000000000 (wy A x) := by
          obtain ⟨m, rfl⟩ : ∃ m, x = m + 1 := ⟨x - 1, by omega⟩
          rw [wy_S hA, ← sm_cap (c := 2000000000000000) (f := fun w => if A 1 w ≤ m + 1 then wy A (m + 1 - A 1 w) else 0)]
          congr 1
          refine sm_congr _ (fun w _ => ?_)
          by_cases h : A 1 w ≤ m + 1
          · rw [if_pos h, if_pos h]
          · rw [if_neg h, if_neg h]; rfl
        have hle : sm (fun w => if A 1 w ≤ x then min 2000000000000000 (wy A (x - A 1 w)) else 0) (A 0 1) ≤ A 0 1 * 2000000000000000 := sm_le _ (fun i _ => by split <;> omega)
        have hn : A 0 1 ≤ 16 := hA.1.2.2.1
        have hdec : n + 1 - (nI (x + 1)).toNatClampNeg < n + 1 - (nI x).toNatClampNeg := by
          rw [p_clamp (by omega), p_clamp (by omega)]
          omega
        generalize sm (fun w => if A 1 w ≤ x then min 2000000000000000 (wy A (x - A 1 w)) else 0) (A 0 1) = s at hcap hle ⊢
        have hs : s < 9223372036854775808 := by
          have : A 0 1 * 2000000000000000 ≤ 16 * 2000000000000000 := Nat.mul_le_mul_right _ hn
          omega
        simp (disch := omega) only [p_Lge, p_g, p_b, p_s, p_gin, p_gblt, p_eqL, p_leL, p_Lle, p_ltL, p_Llt, p_addL, p_subL, p_mulL, p_LmulL, p_eq, p_le, p_lt, p_add, p_sub, p_mul, p_clamp, if_pos, if_neg]
        by_cases hm : s ≤ 2000000000000000
        · rw [if_pos hm]
          refine ih _ _ ⟨x + 1, by omega, by omega, rfl, e1, fun y hy => ?_⟩ hdec
          by_cases hyx : y = x
          · subst hyx
            rw [p_Lat, ← hcap, show min 2000000000000000 s = s by omega]
          · rw [p_Lon hyx]; exact e2 y (by omega)
        · rw [if_neg hm]
          refine ih _ _ ⟨x + 1, by omega, by omega, rfl, e1, fun y hy => ?_⟩ hdec
          by_cases hyx : y = x
          · subst hyx
            rw [p_Lat, ← hcap, show min 2000000000000000 s = 2000000000000000 by omega]
            rfl
          · rw [p_Lon hyx]; exact e2 y (by omega)
  · rw [m_no (b := 0) (c := 40) h]
    refine ⟨-1002, A, hA, ?_, wp_some ⟨rfl, hM⟩⟩
    by_cases h1 : v < 0
    · rw [if_pos h1]; exact wp_some ⟨rfl, hX, Cs.rf⟩
    · rw [if_neg h1, if_neg]
      · exact wp_some ⟨rfl, hX, Cs.rf⟩
      · simp only [Int32.lt_iff_toInt_lt, Int32.le_iff_toInt_le, t_0, t_1, t_2, t_3, t_4, t_6, t_8, t_10, t_20, t_24, t_40, t_99] at *
        omega

/-! reading THE TEXT: the class's numbers, clauses -/
def VP (A : aS) (q p V : Nat) : Prop := (p = q → V = 0) ∧ (p = q + 1 → V = A 10 q - 48) ∧ (p = q + 2 → V = 10 * (A 10 q - 48) + (A 10 (q + 1) - 48)) ∧ V ≤ 100
theorem st_wi1 {p : Nat} {g : z_S} {x : Int32} : z_wi (st p g) 13 5 x = st p (z_wi g 13 5 x) := st_wi (Or.inr (by decide))
theorem x_num {A : aS} (hA : I_ok A) {g0 : z_S} (hX : R_X A g0) {G : z_S} (hK : KX g0 G) {c mf ms p : Nat} (hc : c < 256) (hmf : mf ≤ 2) (hms : ms ≤ 99) (hp : p ≤ A 0 4) {Q : Int32 × z_S → Prop} (h0 : ¬ (p < A 0 4 ∧ A 10 p = c) → Q (0, st p (z_wi G 13 5 (-1))))
    (hF1 : (p < A 0 4 ∧ A 10 p = c) → dg A (sk A (p + 1)) = sk A (p + 1) → ∀ p', Q (1, z_wi (st p' (z_wi G 13 5 (-1))) 13 1 (nI (sk A (p + 1)))))
    (hF2 : (p < A 0 4 ∧ A 10 p = c) → dg A (sk A (p + 1)) ≠ sk A (p + 1) → ∀ V, VP A (sk A (p + 1)) (dg A (sk A (p + 1))) V → (mf < dg A (sk A (p + 1)) - sk A (p + 1) ∨ ms < V) → ∀ p', Q (2, z_wi (st p' (z_wi G 13 5 (-1))) 13 1 (nI (sk A (p + 1)))))
    (h1 : (p < A 0 4 ∧ A 10 p = c) → dg A (sk A (p + 1)) ≠ sk A (p + 1) → ∀ V, VP A (sk A (p + 1)) (dg A (sk A (p + 1))) V → ¬ (mf < dg A (sk A (p + 1)) - sk A (p + 1) ∨ ms < V) → Q (0, st (sk A (dg A (sk A (p + 1)))) (z_wi (z_wi G 13 5 (-1)) 13 5 (nI V)))) : wp (fX0_parseNumber (nI c) (nI mf) (nI ms) (st p G)) Q := by
  have hn : A 0 4 ≤ 200 := hA.1.2.2.2.2.2.1
  unfold fX0_parseNumber
  rw [st_wi1, p_s]
  have hK1 : KX g0 (z_wi G 13 5 (-1)) := fun o ho => by rw [p_off (by omega)]; exact hK o ho
  rw [x_hr hA hX hK1 (by omega), p_b]
  by_cases h : p < A 0 4 ∧ A 10 p = c
  · rw [if_pos ((hr_32 hA hc).mpr h), p_s, st_at]
    try simp (disch := omega) only [p_g, p_b, p_s, p_gin, p_gblt, p_eqL, p_leL, p_Lle, p_ltL, p_Llt, p_addL, p_subL, p_mulL, p_LmulL, p_eq, p_le, p_lt, p_add, p_sub, p_mul, p_clamp, if_pos, if_neg]
    rw [st_st, x_skip hA hX hK1 (by omega), p_b, st_at]
    have q1 := sk_ge (A := A) (p := p + 1)
    have q2 := sk_le (A := A) (p := p + 1) h.1
    generalize hq : sk A (p + 1) = q at *
    refine wp_loop (P := fun a g' => ∃ p' V, q ≤ p' ∧ p' ≤ A 0 4 ∧ a = (nI mf, nI ms, nI q, nI V) ∧ g' = st p' (z_wi G 13 5 (-1)) ∧ dg A p' = dg A q ∧ VP A q p' V ∧ (∀ j, q ≤ j → j < p' → isf A j)) (μ := fun _ g' => A 0 4 - (g'.1 13 4).toNatClampNeg) ?_ zN _ _ ⟨q, 0, Nat.le_refl _, q2, rfl, rfl, rfl, ⟨fun _ => rfl, fun z => by omega, fun z => by omega, by omega⟩, fun j z1 z2 => by omega⟩ (by rw [p_zN]; omega)
    rintro rc a g' ⟨p', V, e1, e2, rfl, rfl, e3, e4, e5⟩ ih
    have hV := e4.2.2.2
    have fin : ¬ isf A p' → wp (if (st p' (z_wi G 13 5 (-1))).1 13 4 = nI q then (z_b (fX0_blame 1 ((st p' (z_wi G 13 5 (-1))).1 13 4) (st p' (z_wi G 13 5 (-1)))) (fun r110 g110 => (some (r110, g110)))) else (if nI mf < ((st p' (z_wi G 13 5 (-1))).1 13 4) - nI q then (fX0_parseNumber_J131 (nI q) (st p' (z_wi G 13 5 (-1)))) else (if nI V ≤ nI ms then (z_s (z_wi (st p' (z_wi G 13 5 (-1))) 13 5 (nI V)) (fun g142 => (z_b (fX0_skipBlanks g142) (fun _ g146 => (some (0, g146)))))) else (fX0_parseNumber_J131 (nI q) (st p' (z_wi G 13 5 (-1))))))) Q := by
      intro hf
      have hd : dg A q = p' := by rw [← e3, dg_n hf]
      rw [hd] at hF1 hF2 h1
      rw [st_at, st_wi1, p_s]
      try simp (disch := omega) only [p_g, p_b, p_s, p_gin, p_gblt, p_eqL, p_leL, p_Lle, p_ltL, p_Llt, p_addL, p_subL, p_mulL, p_LmulL, p_eq, p_le, p_lt, p_add, p_sub, p_mul, p_clamp, if_pos, if_neg]
      by_cases c1 : p' = q
      · rw [if_pos c1]
        subst c1
        exact wp_some (hF1 h rfl _)
      · rw [if_neg c1]
        by_cases c2 : mf < p' - q
        · rw [if_pos c2]
          exact wp_some (hF2 h c1 V e4 (Or.inl c2) _)
        · rw [if_neg c2]
          by_cases c3 : V ≤ ms
          · rw [if_pos c3, x_skip hA hX (fun o ho => by rw [p_off (by omega), p_off (by omega)]; exact hK o ho) e2, p_b]
            exact wp_some (h1 h c1 V e4 (by omega))
          · rw [if_neg c3]
            exact wp_some (hF2 h c1 V e4 (Or.inr (by omega)) _)
    have e9 : (st p' (z_wi G 13 5 (-1))).1 9 1 = nI (A 0 4) := by rw [st_off (by decide), hK1 9 (by omega)]; exact hX.1.2.2.2.2.1
    simp only [fX0_parseNumber_B38]
    rw [e9]
    by_cases c1 : A 0 4 ≤ p'
    · rw [if_pos (by rw [st_at, p_le (by omega) (by omega)]; exact c1)]
      exact fin (fun z => by have := z.1; omega)
    · rw [if_neg (by rw [st_at, p_le (by omega) (by omega)]; exact c1), x_hr hA hX hK1 (by omega), p_b, x_isf hA, p_b]
      by_cases c2 : isf A p'
      · have hb : hr A p' = nI (A 10 p') := if_pos c2.1
        have := c2.2.1
        have := c2.2.2
        rw [if_pos c2, if_neg n10, x_hr hA hX hK1 (by omega), p_b, hb, st_at]
        try simp (disch := omega) only [p_g, p_b, p_s, p_gin, p_gblt, p_eqL, p_leL, p_Lle, p_ltL, p_Llt, p_addL, p_subL, p_mulL, p_LmulL, p_eq, p_le, p_lt, p_add, p_sub, p_mul, p_clamp, if_pos, if_neg]
        rw [st_st]
        have hm : (if 100 < V * 10 + A 10 p' - 48 then (100 : Int32) else nI (V * 10 + A 10 p' - 48)) = nI (if 100 < V * 10 + A 10 p' - 48 then 100 else V * 10 + A 10 p' - 48) := by split <;> rfl
        rw [hm]
        refine ih _ _ ⟨p' + 1, _, by omega, by omega, rfl, rfl, by rw [← dg_s c2]; exact e3, ?_, ?_⟩ ?_
        · obtain ⟨v1, v2, v3, v4⟩ := e4
          refine ⟨fun z => by omega, fun z => ?_, fun z => ?_, ?_⟩
          · have : p' = q := by omega
            subst this
            have := v1 rfl
            rw [if_neg (by omega)]; omega
          · have z1 : p' = q + 1 := by omega
            have z2 := v2 z1
            have z3 := (e5 q (Nat.le_refl _) (by omega)).2
            subst z1
            rw [if_neg (by omega)]; omega
          · split <;> omega
        · intro j z1 z2
          by_cases z : j = p'
          · subst z; exact c2
          · exact e5 j z1 (by omega)
        · rw [st_at, st_at, p_clamp (by omega), p_clamp (by omega)]
          omega
      · rw [if_neg c2, if_pos rfl]
        exact fin c2
  · rw [if_neg (fun z => h ((hr_32 hA hc).mp z))]
    exact wp_some (h0 h)
def SR (o w : Nat) (G G' : z_S) : Prop := ∀ a k, ¬ (a = 13 ∧ (k = 4 ∨ k = 5)) → ¬ (a = o ∧ k = w) → G'.1 a k = G.1 a k
theorem SR.SW {o w : Nat} {G G' : z_S} (h : SR o w G G') (ho : o = 17 ∨ o = 18) : SW w G G' := fun a k h1 _ h3 => h a k h1 (by omega)
theorem SR.w5 {o w : Nat} {G : z_S} {x : Int32} : SR o w G (z_wi G 13 5 x) := by
  intro a k h1 _
  rw [p_wi, if_neg]
  rintro ⟨rfl, rfl⟩
  omega
theorem SR.wo {o w : Nat} {G : z_S} {x : Int32} : SR o w G (z_wi G o w x) := by
  intro a k _ h1
  rw [p_wi, if_neg h1]
theorem SR.tr {o w : Nat} {G G' G'' : z_S} (h : SR o w G G') (h' : SR o w G' G'') : SR o w G G'' := fun a k h1 h2 => (h' a k h1 h2).trans (h a k h1 h2)
def NX (o w : Nat) (G : z_S) (s : Nat × Nat × Nat × Nat) (q : Int32 × z_S) : Prop := (s.1 ≠ 0 ∧ ∃ p' G', q = (nI s.1, z_wi (st p' G') 13 1 (nI s.2.1)) ∧ SR o w G G') ∨ (s.1 = 0 ∧ ∃ G', q = (0, st s.2.2.1 G') ∧ SR o w G G' ∧ G'.1 o w = nI s.2.2.2)
theorem nIm1 {n : Nat} (h : n < 2147483648) : ¬ nI n = -1 := by
  intro q
  have := congrArg Int32.toInt q
  rw [p_toInt h] at this
  have e : (-1 : Int32).toInt = -1 := rfl
  omega
theorem x_cost {A : aS} (hA : I_ok A) {g0 : z_S} (hX : R_X A g0) {G : z_S} (hK : KX g0 G) {w p : Nat} (hw : w < 16) (h14 : G.1 14 0 = nI w) (h17 : G.1 17 w = 1) (hp : p ≤ A 0 4) : wp (fX0_parseCost (st p G)) (NX 17 w G (cst A p)) := by
  have hn : A 0 4 ≤ 200 := hA.1.2.2.2.2.2.1
  unfold fX0_parseCost
  apply wp_b
  refine x_num (c := 58) (mf := 2) (ms := 99) hA hX hK (by omega) (by omega) (by omega) hp ?_ ?_ ?_ ?_
  · intro c
    unfold cst
    rw [if_neg c]
    simp only []
    rw [if_pos trivial, st_on (by decide), p_at, if_pos rfl]
    exact wp_some (Or.inr ⟨rfl, _, rfl, SR.w5, by rw [p_off (by decide)]; exact h17⟩)
  · intro c c1 p'
    unfold cst
    rw [if_pos c, if_pos c1]
    simp only []
    rw [if_neg n10]
    exact wp_some (Or.inl ⟨by show ¬ 1 = 0; omega, p', _, rfl, SR.w5⟩)
  · intro c c1 V hV c2 p'
    have c3 : 2 < dg A (sk A (p + 1)) - sk A (p + 1) := by
      rcases c2 with c2 | c2
      · exact c2
      · refine Classical.byContradiction (fun q => ?_)
        have hge := dg_ge (A := A) (p := sk A (p + 1))
        have f1 := dg_f (A := A) (p := sk A (p + 1)) (by omega)
        obtain ⟨v1, v2, v3, v4⟩ := hV
        by_cases z : dg A (sk A (p + 1)) = sk A (p + 1) + 1
        · have := v2 z; have := f1.2; omega
        · have e := dg_s f1
          have f2 := dg_f (A := A) (p := sk A (p + 1) + 1) (by omega)
          have := v3 (by omega); have := f1.2; have := f2.2; omega
    unfold cst
    rw [if_pos c, if_neg c1, if_pos c3]
    simp only []
    rw [if_neg (by decide)]
    exact wp_some (Or.inl ⟨by show ¬ 2 = 0; omega, p', _, rfl, SR.w5⟩)
  · intro c c1 V hV c2
    have hge := dg_ge (A := A) (p := sk A (p + 1))
    have hv : V = val A (sk A (p + 1)) (dg A (sk A (p + 1))) := by
      obtain ⟨v1, v2, v3, v4⟩ := hV
      unfold val
      split
      · rename_i z; exact v2 z
      · exact v3 (by omega)
    have hV4 := hV.2.2.2
    unfold cst
    rw [if_pos c, if_neg c1, if_neg (show ¬ 2 < dg A (sk A (p + 1)) - sk A (p + 1) by omega)]
    simp only []
    rw [if_pos trivial, st_on (by decide), p_at, if_neg (nIm1 (by omega)), st_off (by decide), p_off (by decide), p_off (by decide), h14]
    try simp (disch := omega) only [p_g, p_b, p_s, p_gin, p_gblt, p_eqL, p_leL, p_Lle, p_ltL, p_Llt, p_addL, p_subL, p_mulL, p_LmulL, p_eq, p_le, p_lt, p_add, p_sub, p_mul, p_clamp, if_pos, if_neg]
    rw [st_wi (Or.inl (by decide))]
    exact wp_some (Or.inr ⟨rfl, _, rfl, (SR.w5.tr SR.w5).tr SR.wo, by rw [p_at, hv]⟩)
theorem x_kind {A : aS} (hA : I_ok A) {g0 : z_S} (hX : R_X A g0) {G : z_S} (hK : KX g0 G) {w p : Nat} (hw : w < 16) (h14 : G.1 14 0 = nI w) (h18 : G.1 18 w = 0) (hp : p ≤ A 0 4) : wp (fX0_parseKind (st p G)) (NX 18 w G (knd A p)) := by
  have hn : A 0 4 ≤ 200 := hA.1.2.2.2.2.2.1
  unfold fX0_parseKind
  apply wp_b
  refine x_num (c := 47) (mf := 1) (ms := 3) hA hX hK (by omega) (by omega) (by omega) hp ?_ ?_ ?_ ?_
  · intro c
    unfold knd
    rw [if_neg c]
    simp only []
    rw [if_pos trivial, st_on (by decide), p_at, if_pos rfl]
    exact wp_some (Or.inr ⟨rfl, _, rfl, SR.w5, by rw [p_off (by decide)]; exact h18⟩)
  · intro c c1 p'
    unfold knd
    rw [if_pos c, if_pos c1]
    simp only []
    rw [if_neg n10]
    exact wp_some (Or.inl ⟨by show ¬ 1 = 0; omega, p', _, rfl, SR.w5⟩)
  · intro c c1 V hV c2 p'
    have c3 : 1 < dg A (sk A (p + 1)) - sk A (p + 1) ∨ 51 < A 10 (sk A (p + 1)) := by
      rcases c2 with c2 | c2
      · exact Or.inl c2
      · refine Classical.byContradiction (fun q => ?_)
        have hge := dg_ge (A := A) (p := sk A (p + 1))
        have := hV.2.1 (by omega)
        omega
    unfold knd
    rw [if_pos c, if_neg c1, if_pos c3]
    simp only []
    rw [if_neg (by decide)]
    exact wp_some (Or.inl ⟨by show ¬ 2 = 0; omega, p', _, rfl, SR.w5⟩)
  · intro c c1 V hV c2
    have hge := dg_ge (A := A) (p := sk A (p + 1))
    have f1 := dg_f (A := A) (p := sk A (p + 1)) (by omega)
    have hv := hV.2.1 (by omega)
    have hV4 := hV.2.2.2
    have := f1.2
    unfold knd
    rw [if_pos c, if_neg c1, if_neg (show ¬ (1 < dg A (sk A (p + 1)) - sk A (p + 1) ∨ 51 < A 10 (sk A (p + 1))) by omega)]
    simp only []
    rw [if_pos trivial, st_on (by decide), p_at, if_neg (nIm1 (by omega)), st_off (by decide), p_off (by decide), p_off (by decide), h14]
    try simp (disch := omega) only [p_g, p_b, p_s, p_gin, p_gblt, p_eqL, p_leL, p_Lle, p_ltL, p_Llt, p_addL, p_subL, p_mulL, p_LmulL, p_eq, p_le, p_lt, p_add, p_sub, p_mul, p_clamp, if_pos, if_neg]
    rw [st_wi (Or.inl (by decide))]
    exact wp_some (Or.inr ⟨rfl, _, rfl, (SR.w5.tr SR.w5).tr SR.wo, by rw [p_at, hv]⟩)
theorem ltr_f {A : aS} {w first : Nat} : ∀ t p i r, (ltr A w first t p i r).1 ≤ 5
  | 0, _, _, _ => by show 0 ≤ 5; omega
  | t + 1, p, i, r => by
    rw [ltr]
    split
    · split
      · show 2 ≤ 5; omega
      · split
        · show 5 ≤ 5; omega
        · split
          · show 3 ≤ 5; omega
          · exact ltr_f t _ _ _
    · show 0 ≤ 5; omega
theorem cst_f {A : aS} {p : Nat} : (cst A p).1 ≤ 2 := by
  unfold cst
  split
  · split
    · show 1 ≤ 2; omega
    · split
      · show 2 ≤ 2; omega
      · show 0 ≤ 2; omega
  · show 0 ≤ 2; omega
theorem knd_f {A : aS} {p : Nat} : (knd A p).1 ≤ 2 := by
  unfold knd
  split
  · split
    · show 1 ≤ 2; omega
    · split
      · show 2 ≤ 2; omega
      · show 0 ≤ 2; omega
  · show 0 ≤ 2; omega
def CXp (w : Nat) (G : z_S) (s : PC) (q : Int32 × z_S) : Prop := (s.1 ≠ 0 ∧ ∃ p' G', q = (nI s.1, z_wi (st p' G') 13 1 (nI s.2.1)) ∧ SW w G G') ∨ (s.1 = 0 ∧ ∃ G' G'', q = (0, st s.2.2.1 G') ∧ SW w G G'' ∧ G' = z_wi G'' 14 0 (nI (w + 1)) ∧ TW s.2.2.2 (w + 1) G')
theorem nI0 {n : Nat} (h : n < 2147483648) (h0 : n ≠ 0) : ¬ nI n = 0 := by
  rw [p_eqL h (by omega)]; exact h0
theorem x_cls {A B : aS} (hA : I_ok A) {g0 : z_S} (hX : R_X A g0) {G : z_S} (hK : KX g0 G) {w p : Nat} (hB : BOK A B w) (hT : TW B w G) (hp : p ≤ A 0 4) (hs : sk A p = p) : wp (fX0_parseClause (st p G)) (CXp w G (cls A B w p)) := by
  have hn : A 0 4 ≤ 200 := hA.1.2.2.2.2.2.1
  unfold fX0_parseClause cls
  by_cases hl : isl A p
  · rw [if_pos hl]
    apply wp_b
    refine wp_mono (x_letters hA hX hK hB hT hp hl rfl) ?_
    have hok := ltr_ok (A := A) (w := w) (first := p) 9 p 0 (fun _ => 0)
    have hlf := ltr_f (A := A) (w := w) (first := p) 9 p 0 (fun _ => 0)
    generalize ltr A w p 9 p 0 (fun _ => 0) = s at *
    rintro q (⟨f, pl, p', G', h1, rfl, h2, h3⟩ | ⟨h1, h2, G', rfl, h3, h4, h5, h6, h7⟩)
    · have hf : f < 2147483648 := by omega
      simp only []
      rw [if_neg (nI0 hf h1)]
      unfold fX0_parseClause_J14 fX0_parseClause_J23
      rw [if_neg (nI0 hf h1), if_neg (nI0 hf h1)]
      refine wp_some (Or.inl ?_)
      unfold cls1
      rcases h3 with ⟨k1, k2, k3⟩ | ⟨k1, k2, k3, k4⟩
      · rw [if_neg k1, ← k2, ← k3]
        exact ⟨h1, p', G', rfl, h2⟩
      · rw [if_pos k1, cit_t k2, k3, k4]
        exact ⟨by show ¬ 4 = 0; omega, p', G', rfl, h2⟩
    · obtain ⟨⟨a1, a2⟩, -, a4, a5, a6, a7⟩ := hok h1 hp (by omega) (fun j hj => by omega)
      obtain ⟨n7, n8⟩ := a7 hl (by omega)
      have n4 := a4 (by omega)
      have n6 := a6 hs
      clear a4 a6 a7 hok hlf
      obtain ⟨f, pl, p1, i, r⟩ := s
      simp only [] at h1 h2 h4 h7 a1 a2 a5 n8 n4 n6 ⊢
      subst h1
      rw [if_pos trivial]
      unfold cls1
      simp only []
      rw [if_pos trivial, cit_f h2]
      have hT' := hT.sw hB h3
      apply wp_b
      refine wp_mono (x_cost hA hX (h3.K hK) n7 hT'.1 h5 a2) ?_
      have hco := cst_ok (A := A) (p := p1)
      have hcf := cst_f (A := A) (p := p1)
      generalize cst A p1 = s2 at *
      obtain ⟨f2, pl2, p2, ct⟩ := s2
      rintro q (⟨k1, p', G2, rfl, k2⟩ | ⟨k1, G2, rfl, k2, k3⟩)
      · simp only [] at k1 hcf ⊢
        unfold fX0_parseClause_J14 fX0_parseClause_J23 cls2
        simp only []
        rw [if_neg (nI0 (by omega) k1), if_neg (nI0 (by omega) k1), if_neg k1]
        exact wp_some (Or.inl ⟨k1, p', G2, rfl, h3.tr (k2.SW (Or.inl rfl))⟩)
      · simp only [] at k1 k3 hco ⊢
        subst k1
        obtain ⟨b1, b2, b3, b4⟩ := hco rfl a2 n6
        unfold fX0_parseClause_J14 cls2
        simp only []
        rw [if_pos trivial, if_pos trivial]
        have s3 : SW w G G2 := h3.tr (k2.SW (Or.inl rfl))
        have hT2 := hT.sw hB s3
        apply wp_b
        refine wp_mono (x_kind hA hX (s3.K hK) n7 hT2.1 (by rw [k2 18 w (by omega) (by omega)]; exact h6) b2) ?_
        have hko := knd_ok (A := A) (p := p2)
        have hkf := knd_f (A := A) (p := p2)
        generalize knd A p2 = s4 at *
        obtain ⟨f3, pl3, p3, kd⟩ := s4
        rintro q (⟨m1, p', G3, rfl, m2⟩ | ⟨m1, G3, rfl, m2, m3⟩)
        · simp only [] at m1 hkf ⊢
          unfold fX0_parseClause_J23 cls3
          simp only []
          rw [if_neg (nI0 (by omega) m1), if_neg m1]
          exact wp_some (Or.inl ⟨m1, p', G3, rfl, s3.tr (m2.SW (Or.inr rfl))⟩)
        · simp only [] at m1 m3 hko ⊢
          subst m1
          obtain ⟨d1, d2, d3, d4⟩ := hko rfl b2 b3
          have s5 : SW w G G3 := s3.tr (m2.SW (Or.inr rfl))
          have hT3 := hT.sw hB s5
          unfold fX0_parseClause_J23 cls3
          simp only []
          rw [if_pos trivial, if_pos trivial, x_hr hA hX (s5.K hK) (by omega), p_b]
          by_cases c : p3 < A 0 4 ∧ A 10 p3 = 59
          · rw [if_pos c, if_pos ((hc_59 hA).mpr c), st_at]
            try simp (disch := omega) only [p_g, p_b, p_s, p_gin, p_gblt, p_eqL, p_leL, p_Lle, p_ltL, p_Llt, p_addL, p_subL, p_mulL, p_LmulL, p_eq, p_le, p_lt, p_add, p_sub, p_mul, p_clamp, if_pos, if_neg]
            rw [st_st, st_wi (Or.inl (by decide)), st_off (by decide), hT3.1]
            try simp (disch := omega) only [p_g, p_b, p_s, p_gin, p_gblt, p_eqL, p_leL, p_Lle, p_ltL, p_Llt, p_addL, p_subL, p_mulL, p_LmulL, p_eq, p_le, p_lt, p_add, p_sub, p_mul, p_clamp, if_pos, if_neg]
            refine wp_some (Or.inr ⟨rfl, _, G3, rfl, s5, rfl, by rw [p_at], ?_⟩)
            intro v hv
            unfold TWr
            simp only []
            rw [put_1, put_2, put_3, p_off (by decide), p_off (by decide), p_off (by decide), p_off (by decide)]
            by_cases e : v = w
            · subst e
              rw [if_pos rfl, if_pos rfl, if_pos rfl]
              refine ⟨?_, ?_, m3, fun j hj => ?_⟩
              · rw [m2 16 v (by omega) (by omega), k2 16 v (by omega) (by omega)]; exact h4
              · rw [m2 17 v (by omega) (by omega)]; exact k3
              · rw [put_4 (by omega), if_pos rfl, m2 15 _ (by omega) (by omega), k2 15 _ (by omega) (by omega)]; exact h7 j hj
            · rw [if_neg e, if_neg e, if_neg e]
              have h8 := (hB.2.1 v (by omega)).2.1
              obtain ⟨t1, t2, t3, t4⟩ := hT3.2 v (by omega)
              refine ⟨t1, t2, t3, fun j hj => ?_⟩
              rw [put_4 (by omega), if_neg e]; exact t4 j hj
          · rw [if_neg c, if_neg (fun z => c ((hc_59 hA).mp z)), st_at]
            exact wp_some (Or.inl ⟨by show ¬ 1 = 0; omega, p3, G3, rfl, s5⟩)
  · rw [if_neg hl]
    unfold fX0_parseLetters
    rw [x_hr hA hX hK (by omega), p_b, x_isl hA, p_b, if_neg hl, if_pos rfl, st_at]
    refine wp_some (Or.inl ⟨by show ¬ 1 = 0; omega, p, G, rfl, SW.rf⟩)

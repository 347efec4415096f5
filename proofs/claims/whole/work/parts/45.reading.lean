/-! best, reading, cheapest -/
theorem x_least {A : aS} {b p : Nat} {pv : Int32} {g0 g : z_S} (h : MS A b p pv g0 g) : fX5_leastInAll g = some (eL (GG A (wX A b p) 0 4), g) := by
  unfold fX5_leastInAll
  rw [p_gi (show z_in 4 245 = true by decide), show (4 : Int32).toNatClampNeg = 4 from rfl]
  rw [show g.1 21 4 = eL (GG A (wX A b p) 0 4) from (h.2.2.2.2.2 0 4 (by omega) (by omega)).1]
theorem x_many {A : aS} {b p : Nat} {pv : Int32} {g0 g : z_S} (h : MS A b p pv g0 g) : fX5_manyInAll g = some (eC 1000000000000001 (GG A (wX A b p) 0 4), g) := by
  unfold fX5_manyInAll
  rw [p_gi (show z_in 4 245 = true by decide), show (4 : Int32).toNatClampNeg = 4 from rfl]
  rw [show g.2 22 4 = eC 1000000000000001 (GG A (wX A b p) 0 4) from (h.2.2.2.2.2 0 4 (by omega) (by omega)).2]
theorem x_able {A : aS} (hA : I_ok A) {b p : Nat} {pv : Int32} {g0 g : z_S} (h : MS A b p pv g0 g) : fX5_isReadable g = some (if GG A (wX A b p) 0 4 = none then 0 else 1, g) := by
  unfold fX5_isReadable
  rw [p_gi (show z_in 4 245 = true by decide), show (4 : Int32).toNatClampNeg = 4 from rfl]
  rw [show g.2 22 4 = eC 1000000000000001 (GG A (wX A b p) 0 4) from (h.2.2.2.2.2 0 4 (by omega) (by omega)).2]
  have hb := gbd_G hA (wX_ok hA b p) _ 0 4 (Nat.le_refl _)
  cases hG : GG A (wX A b p) 0 4 with
  | none => rw [if_pos (by decide), if_pos rfl]
  | some q =>
    rw [hG] at hb
    have := (hb q rfl).2.2
    rw [if_neg, if_neg (fun h => by cases h)]
    show ¬ lN (min 1000000000000001 q.2) ≤ 0
    rw [show (0 : Int64) = lN 0 from rfl, p_JLe (by omega) (by omega)]
    omega
theorem o_best (v : Int32) : Op0 (fX10_best v) (fX11_best v) := by
  refine op_wp (fun A gx gm hA hX hM => ?_)
  have xm : ∀ (b : Nat) (f : z_S → Option (Int32 × z_S)) (r : Int32), b ≤ 3 → (∀ g1, MS A b 0 (-1) gx g1 → f g1 = some (r, g1)) → wp (z_b (fX5_measure (nI b) (-1) gx) (fun _ g => f g)) (fun q => q.1 = r ∧ R_X A q.2 ∧ Cs A A gx q.2) := by
    intro b f r hb hf
    apply wp_b
    refine wp_mono (x_measure hA hX (b := b) (p := 0) (pv := -1) (by omega) (by omega) (fun h => by omega)) ?_
    rintro ⟨u, g1⟩ h
    have h' : MS A b 0 (-1) gx g1 := h
    show wp (f g1) _
    rw [hf g1 h']
    exact wp_some ⟨rfl, h'.rx hA hX, h'.cs⟩
  have mm : ∀ (f : z_S → Option (Int32 × z_S)) (r : Int32), (∀ g1, MR A gm g1 → f g1 = some (r, g1)) → wp (z_b (fX11_findReadings gm) (fun _ g => f g)) (fun q => q.1 = r ∧ R_M A q.2) := by
    intro f r hf
    apply wp_b
    refine wp_mono (m_find hA hM) ?_
    rintro ⟨u, g1⟩ h
    have h' : MR A gm g1 := h
    show wp (f g1) _
    rw [hf g1 h']
    exact wp_some ⟨rfl, h'.rm hM⟩
  unfold fX10_best fX11_best
  by_cases h : 0 ≤ v.toInt ∧ v.toInt ≤ 3
  · rw [m_yes (b := 0) (c := 3) h, p_b, if_neg n10]
    obtain ⟨n, -, h2, rfl⟩ := p_rng (a := 0) (b := 3) (by decide) h
    have ho := gokG_all hA _ 0 4 (Nat.le_refl _)
    unfold gokG at ho
    rcases (show n = 0 ∨ n = 1 ∨ n = 2 ∨ n = 3 by omega) with rfl | rfl | rfl | rfl
    · refine ⟨eM (GG A (wX A 1 0) 0 4), A, hA, ?_, ?_⟩
      · rw [if_pos (by decide)]
        refine xm 1 _ _ (by omega) (fun g1 h1 => ?_)
        rw [x_able hA h1, p_b]
        cases hG : GG A (wX A 1 0) 0 4 with
        | none => rfl
        | some q => rw [if_neg (fun h => by cases h), x_least h1, p_b, hG]; rfl
      · refine mm _ _ (fun g1 h1 => ?_)
        rw [p_l0, p_l4, m_cell, p_b, if_pos rfl]
        try simp (disch := omega) only [p_g, p_b, p_s, p_gin, p_gblt, p_eqL, p_leL, p_Lle, p_ltL, p_Llt, p_addL, p_subL, p_mulL, p_LmulL, p_eq, p_le, p_lt, p_add, p_sub, p_mul, p_clamp, if_pos, if_neg]
        rw [show (5 : Nat) * 0 + 4 = 5 * 0 + 4 from rfl, (h1.2.2 0 4 (by omega) (by omega)).2.1]
    · refine ⟨match GG A (wX A 1 0) 0 4 with
        | none => 0
        | some q => if q.2 ≤ 1000000000 then nI q.2 else -1005, A, hA, ?_, ?_⟩
      · rw [if_neg (by decide), if_pos (by decide)]
        refine xm 1 _ _ (by omega) (fun g1 h1 => ?_)
        rw [x_many h1, p_b, x_many h1, p_b]
        cases hG : GG A (wX A 1 0) 0 4 with
        | none => rfl
        | some q =>
          show (if lN (min 1000000000000001 q.2) ≤ 1000000000 then _ else _) = _
          simp (disch := omega) only [p_Lge]
          by_cases hq : q.2 ≤ 1000000000
          · rw [if_pos (by omega), if_pos hq]
            show some ((lN (min 1000000000000001 q.2)).toInt32, g1) = _
            rw [p_Li, show min 1000000000000001 q.2 = q.2 by omega]
          · rw [if_neg (by omega), if_neg hq]
      · refine mm _ _ (fun g1 h1 => ?_)
        rw [p_l0, p_l4, m_cell, p_b, if_neg (by decide), if_pos (by decide)]
        try simp (disch := omega) only [p_g, p_b, p_s, p_gin, p_gblt, p_eqL, p_leL, p_Lle, p_ltL, p_Llt, p_addL, p_subL, p_mulL, p_LmulL, p_eq, p_le, p_lt, p_add, p_sub, p_mul, p_clamp, if_pos, if_neg]
        rw [(h1.2.2 0 4 (by omega) (by omega)).2.2.1]
        cases hG : GG A (wX A 1 0) 0 4 with
        | none => rfl
        | some q =>
          show (if lN (min 2000000000000000 q.2) ≤ 1000000000 then _ else _) = _
          simp (disch := omega) only [p_Lge]
          by_cases hq : q.2 ≤ 1000000000
          · rw [if_pos (by omega), if_pos hq]
            show some ((lN (min 2000000000000000 q.2)).toInt32, g1) = _
            rw [p_Li, show min 2000000000000000 q.2 = q.2 by omega]
          · rw [if_neg (by omega), if_neg hq]
    · refine ⟨eM (GG A (wX A 2 0) 0 4), A, hA, ?_, ?_⟩
      · rw [if_neg (by decide), if_neg (by decide), if_pos (by decide)]
        refine xm 2 _ _ (by omega) (fun g1 h1 => ?_)
        rw [x_able hA h1, p_b]
        cases hG : GG A (wX A 2 0) 0 4 with
        | none => rfl
        | some q => rw [if_neg (fun h => by cases h), x_least h1, p_b, hG]; rfl
      · refine mm _ _ (fun g1 h1 => ?_)
        rw [p_l0, p_l4, m_cell, p_b, if_neg (by decide), if_neg (by decide), if_pos (by decide)]
        try simp (disch := omega) only [p_g, p_b, p_s, p_gin, p_gblt, p_eqL, p_leL, p_Lle, p_ltL, p_Llt, p_addL, p_subL, p_mulL, p_LmulL, p_eq, p_le, p_lt, p_add, p_sub, p_mul, p_clamp, if_pos, if_neg]
        rw [(h1.2.2 0 4 (by omega) (by omega)).2.2.2.1]
    · refine ⟨eN (GG A (wX A 3 0) 0 4), A, hA, ?_, ?_⟩
      · rw [if_neg (by decide), if_neg (by decide), if_neg (by decide), if_pos (by decide)]
        refine xm 3 _ _ (by omega) (fun g1 h1 => ?_)
        rw [x_able hA h1, p_b]
        cases hG : GG A (wX A 3 0) 0 4 with
        | none => rfl
        | some q =>
          rw [if_neg (fun h => by cases h), x_least h1, p_b, hG]
          show some (-Int32.ofInt q.1, g1) = some (Int32.ofInt (-q.1), g1)
          rw [Int32.ofInt_neg]
      · refine mm _ _ (fun g1 h1 => ?_)
        rw [p_l0, p_l4, m_cell, p_b, if_neg (by decide), if_neg (by decide), if_neg (by decide)]
        try simp (disch := omega) only [p_g, p_b, p_s, p_gin, p_gblt, p_eqL, p_leL, p_Lle, p_ltL, p_Llt, p_addL, p_subL, p_mulL, p_LmulL, p_eq, p_le, p_lt, p_add, p_sub, p_mul, p_clamp, if_pos, if_neg]
        rw [(h1.2.2 0 4 (by omega) (by omega)).2.2.2.2]
  · rw [m_no (b := 0) (c := 3) h]
    refine ⟨-1002, A, hA, ?_, wp_some ⟨rfl, hM⟩⟩
    have h0 : ¬ v = 0 := fun q => h (by rw [q]; decide)
    have h1 : ¬ v = 1 := fun q => h (by rw [q]; decide)
    have h2 : ¬ v = 2 := fun q => h (by rw [q]; decide)
    have h3 : ¬ v = 3 := fun q => h (by rw [q]; decide)
    rw [if_neg h0, if_neg h1, if_neg h2, if_neg h3]
    exact wp_some ⟨rfl, hX, Cs.rf⟩
/-! the choice of a word: the first whose readings are not passed by -/
def selw (c : Nat → Nat) : Nat → Nat → Nat → Nat × Nat
  | 0, w, left => (w, left)
  | k + 1, w, left => if left < c w then (w, left) else selw c k (w + 1) (left - c w)
theorem selw_spec {c : Nat → Nat} : ∀ k w left, left < sm (fun i => c (w + i)) k → w ≤ (selw c k w left).1 ∧ (selw c k w left).1 < w + k ∧ (selw c k w left).2 < c (selw c k w left).1 ∧ (selw c k w left).2 ≤ left
  | 0, w, left, h => by simp [sm] at h
  | k + 1, w, left, h => by
    show w ≤ (if left < c w then (w, left) else selw c k (w + 1) (left - c w)).1 ∧ _
    by_cases hc : left < c w
    · rw [selw, if_pos hc]
      exact ⟨Nat.le_refl _, by omega, hc, Nat.le_refl _⟩
    · have hs : ∀ n, sm (fun i => c (w + i)) (n + 1) = c w + sm (fun i => c (w + 1 + i)) n := by
        intro n
        induction n with
        | zero => simp [sm]
        | succ n ih =>
          rw [sm, ih, sm]
          have : w + (n + 1) = w + 1 + n := by omega
          rw [this]; omega
      rw [hs] at h
      have ih := selw_spec (c := c) k (w + 1) (left - c w) (by omega)
      rw [selw, if_neg hc]
      exact ⟨by omega, by omega, ih.2.2.1, by omega⟩
/-- how many readings go on with w -/
noncomputable def c0 (A : aS) (x a w : Nat) : Nat := match gw A (wX A 0 0) x a w with
  | none => 0
  | some q => q.2
noncomputable def cN (A : aS) (x a : Nat) : Nat := match GG A (wX A 0 0) x a with
  | none => 0
  | some q => q.2
theorem gf_cnt {f : Nat → Option (Int × Nat)} : ∀ n, (∀ i, i < n → ∀ q, f i = some q → q.1 = 0) → (match gf f n with
    | none => 0
    | some q => q.2) = sm (fun i => match f i with
    | none => 0
    | some q => q.2) n ∧ ∀ q, gf f n = some q → q.1 = 0
  | 0, _ => ⟨rfl, fun q h => by cases h⟩
  | n + 1, h => by
    obtain ⟨h1, h2⟩ := gf_cnt (f := f) n (fun i hi => h i (by omega))
    have h3 := h n (by omega)
    rw [gf, sm, ← h1]
    cases hg : gf f n with
    | none =>
      cases hf : f n with
      | none => exact ⟨rfl, fun q h => by cases h⟩
      | some q => exact ⟨by show q.2 = 0 + q.2; omega, fun r hr => by cases hr; exact h3 q hf⟩
    | some p =>
      cases hf : f n with
      | none => exact ⟨rfl, fun r hr => by cases hr; exact h2 p hg⟩
      | some q =>
        have e1 := h2 p hg
        have e2 := h3 q hf
        simp only [gadd]
        rw [if_neg (by omega), if_pos (by omega)]
        exact ⟨rfl, fun r hr => by cases hr; exact e1⟩
theorem GG0_zero {A : aS} (hA : I_ok A) {x a : Nat} : ∀ q, GG A (wX A 0 0) x a = some q → q.1 = 0 := by
  intro q hq
  have := gokG_all hA _ x a (Nat.le_refl _)
  unfold gokG at this
  rcases this with ⟨h0, -⟩ | ⟨q0, q1, q2, q3, h0, h1, h2, h3, h4, -⟩
  · rw [h0] at hq; cases hq
  · rw [h0] at hq; cases hq; exact h4
theorem gw0_zero {A : aS} (hA : I_ok A) {x a w : Nat} : ∀ q, gw A (wX A 0 0) x a w = some q → q.1 = 0 := by
  intro q hq
  unfold gw at hq
  by_cases c : rok A a w x
  · rw [cit_t c] at hq
    cases hG : GG A (wX A 0 0) (x + A 1 w) (A 3 w) with
    | none => rw [hG] at hq; cases hq
    | some r =>
      rw [hG] at hq; cases hq
      have := GG0_zero hA r hG
      show r.1 + wX A 0 0 w (x + A 1 w) = 0
      rw [wX0]; omega
  · rw [cit_f c] at hq; cases hq
theorem cN_step {A : aS} (hA : I_ok A) {x a : Nat} (hx : x < A 0 2) : cN A x a = sm (c0 A x a) (A 0 1) := by
  unfold cN
  rw [GG_step hA hx]
  exact (gf_cnt (A 0 1) (fun i _ q hq => gw0_zero hA q hq)).1
theorem c0_next {A : aS} {x a w : Nat} (h : 0 < c0 A x a w) : rok A a w x ∧ c0 A x a w = cN A (x + A 1 w) (A 3 w) := by
  unfold c0 cN at *
  unfold gw at *
  by_cases c : rok A a w x
  · rw [cit_t c] at *
    refine ⟨c, ?_⟩
    cases GG A (wX A 0 0) (x + A 1 w) (A 3 w) <;> rfl
  · rw [cit_f c] at h
    simp at h
/-- the j-th word of a reading -/
noncomputable def rdw (A : aS) : Nat → Nat → Nat → Nat → Nat → Int32
  | 0, _, _, _, _ => -1
  | n + 1, j, x, a, left => if A 0 2 ≤ x then -1 else
    if j = 0 then nI (selw (c0 A x a) (A 0 1) 0 left).1 else rdw A n (j - 1) (x + A 1 (selw (c0 A x a) (A 0 1) 0 left).1) (A 3 (selw (c0 A x a) (A 0 1) 0 left).1) (selw (c0 A x a) (A 0 1) 0 left).2
theorem sel_ok {A : aS} (hA : I_ok A) {x a left : Nat} (hx : x < A 0 2) (hl : left < cN A x a) : (selw (c0 A x a) (A 0 1) 0 left).1 < A 0 1 ∧ (selw (c0 A x a) (A 0 1) 0 left).2 ≤ left ∧ rok A a (selw (c0 A x a) (A 0 1) 0 left).1 x ∧ (selw (c0 A x a) (A 0 1) 0 left).2 < cN A (x + A 1 (selw (c0 A x a) (A 0 1) 0 left).1) (A 3 (selw (c0 A x a) (A 0 1) 0 left).1) := by
  rw [cN_step hA hx] at hl
  have h := selw_spec (c := c0 A x a) (A 0 1) 0 left (by
    rw [sm_congr (h := c0 A x a) _ (fun i _ => by rw [Nat.zero_add])]
    exact hl)
  have h2 := c0_next (A := A) (x := x) (a := a) (w := (selw (c0 A x a) (A 0 1) 0 left).1) (by omega)
  refine ⟨by omega, h.2.2.2, h2.1, ?_⟩
  rw [← h2.2]
  exact h.2.2.1
theorem x_choose {A : aS} (hA : I_ok A) {gs g : z_S} (hX : R_X A gs) (hm : MS A 0 0 (-1) gs g) {x a left : Nat} (hx : x < A 0 2) (ha : a ≤ 4) (hleft : left ≤ 1000000000000000) (h8 : g.2 19 8 = lN left) (hl : left < cN A x a) : wp (fX5_choose (nI x) (nI a) g) (fun q => q.1 = nI (selw (c0 A x a) (A 0 1) 0 left).1 ∧ q.2 = z_wl g 19 8 (q.2.2 19 8) ∧ q.2.2 19 8 = lN (selw (c0 A x a) (A 0 1) 0 left).2) := by
  have hn := hA.1.2.2.1
  have hd := hA.1.2.2.2.1
  unfold fX5_choose
  try simp (disch := omega) only [p_g, p_b, p_s, p_gin, p_gblt, p_eqL, p_leL, p_Lle, p_ltL, p_Llt, p_addL, p_subL, p_mulL, p_LmulL, p_eq, p_le, p_lt, p_add, p_sub, p_mul, p_clamp, if_pos, if_neg]
  rw [show x * 5 + a = 5 * x + a by omega, (hm.2.2.2.2.2 x a (by omega) ha).1]
  cases hG : GG A (wX A 0 0) x a with
  | none => unfold cN at hl; rw [hG] at hl; simp at hl
  | some q0 =>
    have hq0 := GG0_zero hA q0 hG
    refine wp_loop (P := fun s g' => ∃ (w l : Nat), w ≤ A 0 1 ∧ s = (nI x, nI a, eL (some q0), nI w) ∧ g' = z_wl g 19 8 (lN l) ∧ l ≤ left ∧ selw (c0 A x a) (A 0 1 - w) w l = selw (c0 A x a) (A 0 1) 0 left ∧ l < sm (fun i => c0 A x a (w + i)) (A 0 1 - w)) (μ := fun s _ => A 0 1 - s.2.2.2.toNatClampNeg) ?_ zN _ _ ⟨0, left, by omega, rfl, ?_, Nat.le_refl _, rfl, ?_⟩ (by show A 0 1 - _ < zN; rw [p_zN]; omega)
    · rintro rc s g' ⟨w, l, hw, rfl, rfl, hll, hsel, hls⟩ ih
      have hX' : R_X A (z_wl g 19 8 (lN l)) := (hm.rx hA hX).lg rfl
      simp only [fX5_choose_B14]
      rw [hX'.1.2.1]
      try simp (disch := omega) only [p_g, p_b, p_s, p_gin, p_gblt, p_eqL, p_leL, p_Lle, p_ltL, p_Llt, p_addL, p_subL, p_mulL, p_LmulL, p_eq, p_le, p_lt, p_add, p_sub, p_mul, p_clamp, if_pos, if_neg]
      by_cases hlt : A 0 1 ≤ w
      · exfalso
        rw [show A 0 1 - w = 0 by omega] at hls
        simp [sm] at hls
      · have hw' : w < A 0 1 := by omega
        obtain ⟨m, hmm⟩ : ∃ m, A 0 1 - w = m + 1 := ⟨A 0 1 - w - 1, by omega⟩
        rw [if_neg hlt, x_wfrom hA hX' (b := 0) (p := 0) (by omega) (by omega) hm.2.2.1 (fun h => by omega) hx ha hw' (hm.2.2.2.2.1 x hx) (fun y c h1 h2 h3 => by
          have := hm.2.2.2.2.2 y c h2 h3
          exact ⟨this.1, by rw [p_Loff (by decide)]; exact this.2⟩), p_b]
        have hdec : A 0 1 - (nI (w + 1)).toNatClampNeg < A 0 1 - (nI w).toNatClampNeg := by
          rw [p_clamp (by omega), p_clamp (by omega)]
          omega
        have hs : ∀ n, sm (fun i => c0 A x a (w + i)) (n + 1) = c0 A x a w + sm (fun i => c0 A x a (w + 1 + i)) n := by
          intro n
          induction n with
          | zero => simp [sm]
          | succ n ih =>
            rw [sm, ih, sm]
            have : w + (n + 1) = w + 1 + n := by omega
            rw [this]; omega
        rw [hmm, hs] at hls
        rw [hmm, selw] at hsel
        have hm2 : A 0 1 - (w + 1) = m := by omega
        cases hgw : gw A (wX A 0 0) x a w with
        | none =>
          have hc0 : c0 A x a w = 0 := by unfold c0; rw [hgw]
          rw [if_pos (by decide)]
          rw [hc0, if_neg (by omega), Nat.sub_zero] at hsel
          refine ih _ _ ⟨w + 1, l, by omega, rfl, rfl, hll, by rw [hm2]; exact hsel, by rw [hm2]; omega⟩ hdec
        | some q =>
          have hc0 : c0 A x a w = q.2 := by unfold c0; rw [hgw]
          have hq := gw0_zero hA q hgw
          have hbd := gbd_gw hA (wX_ok hA 0 0) (x := x) (a := a) (by omega) hw' q hgw
          have hrok : rok A a w x ∧ q.2 = cN A (x + A 1 w) (A 3 w) := by
            have := c0_next (A := A) (x := x) (a := a) (w := w) (by rw [hc0]; omega)
            rw [hc0] at this
            exact this
          have hst := hrok.1.2.1
          obtain ⟨w1, w2, w3, w4, -⟩ := hA.2.1 w hw'
          rw [if_neg (by show ¬ (1000000000 : Int32) ≤ Int32.ofInt q.1; rw [hq]; decide), if_pos (by show Int32.ofInt q.1 ≤ Int32.ofInt q0.1; rw [hq, hq0]; decide), x_behind hA hX' (by omega) hw', p_b, p_gin (by omega) (by omega), p_clamp (by omega)]
          have hmany : (z_wl g 19 8 (lN l)).2 22 (5 * (x + A 1 w) + A 3 w) = lN (min 1000000000000001 q.2) := by
            rw [p_Loff (by decide), (hm.2.2.2.2.2 (x + A 1 w) (A 3 w) hst (by omega)).2, hrok.2]
            unfold cN
            cases GG A (wX A 0 0) (x + A 1 w) (A 3 w) <;> rfl
          rw [hmany, p_Lat]
          rw [hc0] at hsel hls
          by_cases hlq : l < q.2
          · rw [if_neg (by rw [p_JLe (by omega) (by omega)]; omega)]
            rw [if_pos hlq] at hsel
            refine wp_some ⟨?_, ?_, ?_⟩
            · rw [← hsel]
            · rw [p_Lat]
            · rw [p_Lat, ← hsel]
          · rw [if_pos (by rw [p_JLe (by omega) (by omega)]; omega), p_Lsub (by omega)]
            rw [if_neg hlq] at hsel
            refine ih _ _ ⟨w + 1, l - q.2, by omega, rfl, ?_, by omega, by rw [hm2]; exact hsel, by rw [hm2]; omega⟩ hdec
            rw [show min 1000000000000001 q.2 = q.2 by omega]
            show z_wl (z_wl g 19 8 (lN l)) 19 8 (lN (l - q.2)) = z_wl g 19 8 (lN (l - q.2))
            apply Prod.ext
            · rfl
            · funext o k
              rw [p_wl, p_wl, p_wl]
              split <;> rfl
    · show g = z_wl g 19 8 (lN left)
      apply Prod.ext
      · rfl
      · funext o k
        rw [p_wl]
        by_cases c : o = 19 ∧ k = 8
        · rw [if_pos c, c.1, c.2, h8]
        · rw [if_neg c]
    · rw [cN_step hA hx] at hl
      rw [Nat.sub_zero, sm_congr (h := c0 A x a) _ (fun i _ => by rw [Nat.zero_add])]
      exact hl

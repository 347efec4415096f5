/-! within: the reference -/
theorem p_step {α β : Type} {body : (α → z_S → Option β) → α → z_S → Option β} {a : α} {g : z_S} : z_loop body zN a g = body (z_loop body 999999) a g := by
  rw [show zN = 999999 + 1 from rfl]
  rfl
theorem m_bg {A : aS} (hA : I_ok A) {g : z_S} (hM : R_M A g) {e v w : Nat} (he : e ≤ 1) (hv : v < A 0 1) (hw : w < A 0 1) {b acc : Int32} (hb : (b = 1 ∧ v ≠ w ∧ A 1 v ≤ A 1 w) ∨ (b = 0 ∧ ¬ bg A e v w)) (k : Int32 → Int32 → Int32 → Int32 → Int32 → z_S → Option (Int32 × z_S)) : z_loop (fX11_within_B101 k) zN (nI e, acc, nI v, nI w, b, 0) g = k (nI e) acc (nI v) (nI w) (nI (ci (bg A e v w))) g := by
  have hn : A 0 1 ≤ 16 := hA.1.2.2.1
  have hk := hA.1.2.1
  obtain ⟨v1, v2, -⟩ := hA.2.1 v hv
  obtain ⟨w1, w2, -⟩ := hA.2.1 w hw
  refine p_loop (P := fun a g' => ∃ (i : Nat) (b : Int32), i ≤ A 1 v ∧ a = (nI e, acc, nI v, nI w, b, nI i) ∧ g' = g ∧ ((b = 1 ∧ v ≠ w ∧ A 1 v ≤ A 1 w ∧ ∀ j, j < i → A 4 (8 * v + j) = A 4 (8 * w + ((if e = 0 then 0 else A 1 w - A 1 v) + j))) ∨ (b = 0 ∧ ¬ bg A e v w))) (μ := fun a _ => A 1 v - a.2.2.2.2.2.toNatClampNeg) ?_ zN _ _ ⟨0, b, by omega, rfl, rfl, ?_⟩ (by show A 1 v - _ < zN; rw [p_zN]; omega)
  · rintro rc a g' ⟨i, b, hi, rfl, rfl, q⟩ ih
    simp only [fX11_within_B101]
    rw [(p_clamp (n := v) (by omega)), (hM.2.1 v hv).1]
    try simp (disch := omega) only [p_g, p_b, p_s, p_gin, p_gblt, p_eqL, p_leL, p_Lle, p_ltL, p_Llt, p_addL, p_subL, p_mulL, p_LmulL, p_eq, p_le, p_lt, p_add, p_sub, p_mul, p_clamp, if_pos, if_neg]
    rcases q with ⟨rfl, hne, hle, q⟩ | ⟨rfl, q⟩
    · by_cases hlt : A 1 v ≤ i
      · rw [if_pos hlt, ci_t (dist_bg hA hv hw hne hle (fun j hj => q j (by omega)))]
        rfl
      · rw [if_neg hlt, if_neg n10, (hM.2.1 v hv).2.2.2 i (by omega), (hM.2.1 w hw).1]
        have h2 : A 4 (8 * v + i) < A 0 0 := (hA.2.1 v hv).2.2.2.2 i (by omega)
        have h3 : A 4 (8 * w + ((if e = 0 then 0 else A 1 w - A 1 v) + i)) < A 0 0 := (hA.2.1 w hw).2.2.2.2 _ (by split <;> omega)
        have key : ∀ o, o = (if e = 0 then 0 else A 1 w - A 1 v) + i → fX11_within_J164 rc (nI e) acc (nI v) (nI w) (nI i) (nI o) (nI (8 * w)) (nI (A 4 (8 * v + i))) g' = k (nI e) acc (nI v) (nI w) (nI (ci (bg A e v w))) g' := by
          intro o ho
          have ho8 : o < A 1 w := by rw [ho]; split <;> omega
          unfold fX11_within_J164
          rw [p_add]
          try simp (disch := omega) only [p_g, p_b, p_s, p_gin, p_gblt, p_eqL, p_leL, p_Lle, p_ltL, p_Llt, p_addL, p_subL, p_mulL, p_LmulL, p_eq, p_le, p_lt, p_add, p_sub, p_mul, p_clamp, if_pos, if_neg]
          rw [(hM.2.1 w hw).2.2.2 o ho8, ho]
          try simp (disch := omega) only [p_g, p_b, p_s, p_gin, p_gblt, p_eqL, p_leL, p_Lle, p_ltL, p_Llt, p_addL, p_subL, p_mulL, p_LmulL, p_eq, p_le, p_lt, p_add, p_sub, p_mul, p_clamp, if_pos, if_neg]
          by_cases hq : A 4 (8 * v + i) = A 4 (8 * w + ((if e = 0 then 0 else A 1 w - A 1 v) + i))
          · rw [if_pos hq]
            refine ih _ _ ⟨i + 1, 1, by omega, rfl, rfl, Or.inl ⟨rfl, hne, hle, fun j hj => ?_⟩⟩ ?_
            · by_cases hji : j = i
              · subst hji; exact hq
              · exact q j (by omega)
            · show _ - (nI (_ + 1)).toNatClampNeg < _ - (nI _).toNatClampNeg
              rw [p_clamp (by omega), p_clamp (by omega)]
              omega
          · rw [if_neg hq]
            refine ih _ _ ⟨i + 1, 0, by omega, rfl, rfl, Or.inr ⟨rfl, fun h => hq (h.2 i (by omega)).symm⟩⟩ ?_
            show _ - (nI (_ + 1)).toNatClampNeg < _ - (nI _).toNatClampNeg
            rw [p_clamp (by omega), p_clamp (by omega)]
            omega
        by_cases h0 : e = 0
        · rw [if_pos h0]
          exact key i (by rw [if_pos h0]; omega)
        · rw [if_neg h0]
          try simp (disch := omega) only [p_g, p_b, p_s, p_gin, p_gblt, p_eqL, p_leL, p_Lle, p_ltL, p_Llt, p_addL, p_subL, p_mulL, p_LmulL, p_eq, p_le, p_lt, p_add, p_sub, p_mul, p_clamp, if_pos, if_neg]
          exact key _ (by rw [if_neg h0])
    · rw [ci_f q, if_pos rfl]
      by_cases hlt : A 1 v ≤ i
      · rw [if_pos hlt]; rfl
      · rw [if_neg hlt]; rfl
  · rcases hb with ⟨h1, h2, h3⟩ | h
    · exact Or.inl ⟨h1, h2, h3, fun j hj => by omega⟩
    · exact Or.inr h
theorem m_pairs {A : aS} (hA : I_ok A) {g : z_S} (hM : R_M A g) {e : Nat} (he : e ≤ 1) : z_loop fX11_within_B20 zN (nI e, 0, 0) g = some (nI (sm (fun v => sm (fun w => ci (bg A e v w)) (A 0 1)) (A 0 1)), g) := by
  have hn : A 0 1 ≤ 16 := hA.1.2.2.1
  have hin : ∀ v n, n ≤ 16 → sm (fun w => ci (bg A e v w)) n ≤ n := fun v n _ => sm_one n (fun i _ => ci_le _)
  have hout : ∀ n, n ≤ 16 → sm (fun v => sm (fun w => ci (bg A e v w)) (A 0 1)) n ≤ n * 16 := fun n _ => sm_le n (fun i _ => Nat.le_trans (hin i _ hn) hn)
  refine p_loop (P := fun a g' => ∃ v, v ≤ A 0 1 ∧ a = (nI e, nI (sm (fun v => sm (fun w => ci (bg A e v w)) (A 0 1)) v), nI v) ∧ g' = g) (μ := fun a _ => A 0 1 - a.2.2.toNatClampNeg) ?_ zN _ _ ⟨0, by omega, rfl, rfl⟩ (by show A 0 1 - _ < zN; rw [p_zN]; omega)
  rintro rc a g' ⟨v, hv, rfl, rfl⟩ ih
  simp only [fX11_within_B20]
  rw [hM.1.2.1]
  try simp (disch := omega) only [p_g, p_b, p_s, p_gin, p_gblt, p_eqL, p_leL, p_Lle, p_ltL, p_Llt, p_addL, p_subL, p_mulL, p_LmulL, p_eq, p_le, p_lt, p_add, p_sub, p_mul, p_clamp, if_pos, if_neg]
  by_cases hlt : A 0 1 ≤ v
  · have : v = A 0 1 := by omega
    subst this
    rw [if_pos hlt]
  · rw [if_neg hlt]
    have hv' : v < A 0 1 := by omega
    obtain ⟨v1, v2, -⟩ := hA.2.1 v hv'
    unfold fX11_within_J47
    rw [show fX11_one 0 g' = some (0, g') from rfl, p_b, show nI (sm (fun v => sm (fun w => ci (bg A e v w)) (A 0 1)) v) + 0 = nI (sm (fun v => sm (fun w => ci (bg A e v w)) (A 0 1)) v) by rw [show (0 : Int32) = nI 0 from rfl, p_add]; rfl]
    refine p_loop (P := fun a g'' => ∃ w, w ≤ A 0 1 ∧ a = (nI e, nI (sm (fun v => sm (fun w => ci (bg A e v w)) (A 0 1)) v + sm (fun w => ci (bg A e v w)) w), nI v, nI w) ∧ g'' = g') (μ := fun a _ => A 0 1 - a.2.2.2.toNatClampNeg) ?_ zN _ _ ⟨0, by omega, rfl, rfl⟩ (by show A 0 1 - _ < zN; rw [p_zN]; omega)
    rintro rc2 a g'' ⟨w, hw, rfl, rfl⟩ ih2
    simp only [fX11_within_B55]
    rw [hM.1.2.1]
    try simp (disch := omega) only [p_g, p_b, p_s, p_gin, p_gblt, p_eqL, p_leL, p_Lle, p_ltL, p_Llt, p_addL, p_subL, p_mulL, p_LmulL, p_eq, p_le, p_lt, p_add, p_sub, p_mul, p_clamp, if_pos, if_neg]
    by_cases hlw : A 0 1 ≤ w
    · have : w = A 0 1 := by omega
      subst this
      rw [if_pos hlw]
      refine ih _ _ ⟨v + 1, by omega, rfl, rfl⟩ ?_
      show _ - (nI (_ + 1)).toNatClampNeg < _ - (nI _).toNatClampNeg
      rw [p_clamp (by omega), p_clamp (by omega)]
      omega
    · have hw' : w < A 0 1 := by omega
      obtain ⟨w1, w2, -⟩ := hA.2.1 w hw'
      rw [if_neg hlw, (hM.2.1 v hv').1, (hM.2.1 w hw').1]
      have hdec : A 0 1 - (nI (w + 1)).toNatClampNeg < A 0 1 - (nI w).toNatClampNeg := by
        rw [p_clamp (by omega), p_clamp (by omega)]
        omega
      have key : z_b (fX11_one (nI (ci (bg A e v w))) g'') (fun r185 g185 => (rc2 (nI e, (nI (sm (fun v => sm (fun w => ci (bg A e v w)) (A 0 1)) v + sm (fun w => ci (bg A e v w)) w) + r185), nI v, (nI w + 1)) g185)) = some (nI (sm (fun v => sm (fun w => ci (bg A e v w)) (A 0 1)) (A 0 1)), g'') := by
        rw [m_one (ci_le _), p_b]
        try simp (disch := omega) only [p_g, p_b, p_s, p_gin, p_gblt, p_eqL, p_leL, p_Lle, p_ltL, p_Llt, p_addL, p_subL, p_mulL, p_LmulL, p_eq, p_le, p_lt, p_add, p_sub, p_mul, p_clamp, if_pos, if_neg]
        refine ih2 _ _ ⟨w + 1, by omega, ?_, rfl⟩ hdec
        rw [sm, Nat.add_assoc]
      by_cases hvw : v = w
      · rw [if_pos hvw, m_bg hA hM he hv' hw' (Or.inr ⟨rfl, fun h => by have := h.1; rw [hvw] at this; omega⟩)]
        exact key
      · rw [if_neg hvw]
        try simp (disch := omega) only [p_g, p_b, p_s, p_gin, p_gblt, p_eqL, p_leL, p_Lle, p_ltL, p_Llt, p_addL, p_subL, p_mulL, p_LmulL, p_eq, p_le, p_lt, p_add, p_sub, p_mul, p_clamp, if_pos, if_neg]
        by_cases hs : A 1 w < A 1 v
        · rw [if_pos hs, m_bg hA hM he hv' hw' (Or.inr ⟨rfl, fun h => by have := h.1; omega⟩)]
          exact key
        · rw [if_neg hs, m_bg hA hM he hv' hw' (Or.inl ⟨rfl, hvw, by omega⟩)]
          exact key
theorem m_cntHid {A : aS} (hA : I_ok A) {g : z_S} (hM : R_M A g) : z_loop fX11_within_B20 zN (nI 2, 0, 0) g = some (nI (sm (fun v => ci (hid A v)) (A 0 1)), g) := by
  have hn : A 0 1 ≤ 16 := hA.1.2.2.1
  have hin : ∀ n, n ≤ 16 → sm (fun v => ci (hid A v)) n ≤ n := fun n _ => sm_one n (fun i _ => ci_le _)
  refine p_loop (P := fun a g' => ∃ v, v ≤ A 0 1 ∧ a = (nI 2, nI (sm (fun v => ci (hid A v)) v), nI v) ∧ g' = g) (μ := fun a _ => A 0 1 - a.2.2.toNatClampNeg) ?_ zN _ _ ⟨0, by omega, rfl, rfl⟩ (by show A 0 1 - _ < zN; rw [p_zN]; omega)
  rintro rc a g' ⟨v, hv, rfl, rfl⟩ ih
  simp only [fX11_within_B20]
  rw [hM.1.2.1]
  try simp (disch := omega) only [p_g, p_b, p_s, p_gin, p_gblt, p_eqL, p_leL, p_Lle, p_ltL, p_Llt, p_addL, p_subL, p_mulL, p_LmulL, p_eq, p_le, p_lt, p_add, p_sub, p_mul, p_clamp, if_pos, if_neg]
  by_cases hlt : A 0 1 ≤ v
  · have : v = A 0 1 := by omega
    subst this
    rw [if_pos hlt]
  · rw [if_neg hlt, m_hid hA hM (by omega), p_b]
    have key : ∀ c : Nat, c ≤ 1 → c = ci (hid A v) → fX11_within_J47 rc (nI 2) (nI v) (nI c) (nI (sm (fun v => ci (hid A v)) v)) g' = some (nI (sm (fun v => ci (hid A v)) (A 0 1)), g') := by
      intro c hc1 hc
      unfold fX11_within_J47
      rw [m_one hc1, p_b, p_add]
      rw [p_step]
      simp only [fX11_within_B55]
      rw [if_pos (by decide : (2 : Int32) ≤ nI 2)]
      rw [show (∀ z : Option (Int32 × z_S), (if g'.1 0 1 ≤ 0 then z else z) = z) from fun z => by split <;> rfl]
      try simp (disch := omega) only [p_g, p_b, p_s, p_gin, p_gblt, p_eqL, p_leL, p_Lle, p_ltL, p_Llt, p_addL, p_subL, p_mulL, p_LmulL, p_eq, p_le, p_lt, p_add, p_sub, p_mul, p_clamp, if_pos, if_neg]
      refine ih _ _ ⟨v + 1, by omega, ?_, rfl⟩ ?_
      · rw [sm, hc]
      · show _ - (nI (_ + 1)).toNatClampNeg < _ - (nI _).toNatClampNeg
        rw [p_clamp (by omega), p_clamp (by omega)]
        omega
    by_cases hh : hid A v
    · rw [ci_t hh]
      exact key 1 (by omega) (ci_t hh).symm
    · rw [ci_f hh]
      exact key 0 (by omega) (ci_f hh).symm
theorem o_within (v : Int32) : Op0 (fX10_within v) (fX11_within v) := by
  intro A gx gm hA hX hM
  unfold fX10_within fX11_within
  by_cases h : 0 ≤ v.toInt ∧ v.toInt ≤ 2
  · rw [m_yes (b := 0) (c := 2) h, p_b, if_neg n10]
    obtain ⟨n, -, h2, rfl⟩ := p_rng (a := 0) (b := 2) (by decide) h
    rcases (show n = 0 ∨ n = 1 ∨ n = 2 by omega) with rfl | rfl | rfl
    · refine ⟨_, gx, gm, A, ?_, m_pairs hA hM (e := 0) (by omega), hA, hX, hM, Cs.rf⟩
      rw [if_pos (by decide), show (1 : Int32) = nI (1 - 0) from rfl, x_pairs hA hX (e := 0) (by omega), p_b]
    · refine ⟨_, gx, gm, A, ?_, m_pairs hA hM (e := 1) (by omega), hA, hX, hM, Cs.rf⟩
      rw [if_neg (by decide), if_pos (by decide), show (0 : Int32) = nI (1 - 1) from rfl, x_pairs hA hX (e := 1) (by omega), p_b]
    · refine ⟨_, gx, gm, A, ?_, m_cntHid hA hM, hA, hX, hM, Cs.rf⟩
      rw [if_neg (by decide), if_neg (by decide), if_pos (by decide), x_cntHid hA hX, p_b]
  · rw [m_no (b := 0) (c := 2) h]
    refine ⟨-1002, gx, gm, A, ?_, rfl, hA, hX, hM, Cs.rf⟩
    have h0 : ¬ v = 0 := fun q => h (by rw [q]; decide)
    have h1 : ¬ v = 1 := fun q => h (by rw [q]; decide)
    have h2 : ¬ v = 2 := fun q => h (by rw [q]; decide)
    rw [if_neg h0, if_neg h1, if_neg h2]

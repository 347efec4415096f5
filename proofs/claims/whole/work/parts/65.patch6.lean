/-! patched: the reference takes letters; both sides -/
theorem m_tkJ {A : aS} (hA : I_ok A) {g : z_S} (hM : R_M A g) {d : Nat} {s : pS} (hd : d < 80000) {c w i : Nat} (hw : w < A 0 1) (hi2 : i < A 1 w) {s0 s1 : Int64} (h1 : RVM (d + 1) (s1 + s0) (pa (s.2 w i) (ow A c w i))) {u : Nat} (h32 : RVM (d + 1) (g.2 32 (A 3 w)) u) (h33 : i + 1 < A 1 w → RVM (d + 1) (g.2 33 (8 * w + (i + 1))) (pa (s.2 w (i + 1)) (ms A 2))) {Q : Unit × z_S → Prop} {rc : Int32 × Int32 × Int32 → z_S → Option (Unit × z_S)}
    (hk1 : ∀ z, i + 1 < A 1 w → RVM (d + 1) z ((pM A c s).2 w (i + 1)) → wp (rc (nI c, nI w, nI (i + 1)) (z_wl g 33 (8 * w + (i + 1)) z)) Q) (hk2 : ∀ z, i + 1 = A 1 w → RVM (d + 1) z (min u (pa (s.2 w i) (ow A c w i))) → wp (rc (nI c, nI w, nI (i + 1)) (z_wl g 32 (A 3 w) z)) Q) : wp (fX11_takeDrafted_J121 rc (nI c) (nI w) (nI i) s0 s1 g) Q := by
  have hn := hA.1.2.2.1
  obtain ⟨w1, w2, w3, w4, -⟩ := hA.2.1 w hw
  unfold fX11_takeDrafted_J121
  try simp (disch := omega) only [p_g, p_b, p_s, p_gin, p_gblt, p_eqL, p_leL, p_Lle, p_ltL, p_Llt, p_addL, p_subL, p_mulL, p_LmulL, p_eq, p_le, p_lt, p_add, p_sub, p_mul, p_clamp, if_pos, if_neg]
  rw [(hM.2.1 w hw).1]
  try simp (disch := omega) only [p_g, p_b, p_s, p_gin, p_gblt, p_eqL, p_leL, p_Lle, p_ltL, p_Llt, p_addL, p_subL, p_mulL, p_LmulL, p_eq, p_le, p_lt, p_add, p_sub, p_mul, p_clamp, if_pos, if_neg]
  by_cases c1 : A 1 w ≤ i + 1
  · rw [if_pos c1, (hM.2.1 w hw).2.2.1]
    try simp (disch := omega) only [p_g, p_b, p_s, p_gin, p_gblt, p_eqL, p_leL, p_Lle, p_ltL, p_Llt, p_addL, p_subL, p_mulL, p_LmulL, p_eq, p_le, p_lt, p_add, p_sub, p_mul, p_clamp, if_pos, if_neg]
    rw [m_least, p_b]
    try simp (disch := omega) only [p_g, p_b, p_s, p_gin, p_gblt, p_eqL, p_leL, p_Lle, p_ltL, p_Llt, p_addL, p_subL, p_mulL, p_LmulL, p_eq, p_le, p_lt, p_add, p_sub, p_mul, p_clamp, if_pos, if_neg]
    exact hk2 _ (by omega) (RVM.min h32 h1 (by omega))
  · rw [if_neg c1]
    try simp (disch := omega) only [p_g, p_b, p_s, p_gin, p_gblt, p_eqL, p_leL, p_Lle, p_ltL, p_Llt, p_addL, p_subL, p_mulL, p_LmulL, p_eq, p_le, p_lt, p_add, p_sub, p_mul, p_clamp, if_pos, if_neg]
    rw [m_least, p_b]
    try simp (disch := omega) only [p_g, p_b, p_s, p_gin, p_gblt, p_eqL, p_leL, p_Lle, p_ltL, p_Llt, p_addL, p_subL, p_mulL, p_LmulL, p_eq, p_le, p_lt, p_add, p_sub, p_mul, p_clamp, if_pos, if_neg]
    have ep : (pM A c s).2 w (i + 1) = min (pa (s.2 w (i + 1)) (ms A 2)) (pa (s.2 w i) (ow A c w i)) := by
      show (if i + 1 < A 1 w then (if i + 1 = 0 then _ else _) else pC) = _
      rw [if_pos (by omega), if_neg (by omega), Nat.add_sub_cancel]
    have := hk1 _ (by omega) (by rw [ep]; exact RVM.min (h33 (by omega)) h1 (by omega))
    rw [show 8 * w + (i + 1) = 8 * w + i + 1 by omega] at this
    exact this
theorem m_tk2 {A : aS} (hA : I_ok A) {g : z_S} (hM : R_M A g) {d : Nat} {s : pS} (hd : d < 80000) {c w : Nat} (hc : c < 8) (hw : w < A 0 1) {u : Nat} (h32 : RVM (d + 1) (g.2 32 (A 3 w)) u) (h31 : ∀ i, i < A 1 w → RVM d (g.2 31 (8 * w + i)) (s.2 w i)) (h33 : ∀ i, i < A 1 w → RVM (d + 1) (g.2 33 (8 * w + i)) (pa (s.2 w i) (ms A 2))) {Q : Unit × z_S → Prop} (k : Int32 → Int32 → z_S → Option (Unit × z_S)) (hk : ∀ g', g'.1 = g.1 → g'.2 31 = g.2 31 → (∀ j, (j < 8 * w ∨ 8 * w + A 1 w ≤ j) → g'.2 33 j = g.2 33 j) → (∀ a, a ≠ A 3 w → g'.2 32 a = g.2 32 a) → RVM (d + 1) (g'.2 32 (A 3 w)) (min u (pa (s.2 w (A 1 w - 1)) (ow A c w (A 1 w - 1)))) → (∀ i, i < A 1 w → RVM (d + 1) (g'.2 33 (8 * w + i)) ((pM A c s).2 w i)) → wp (k (nI c) (nI w) g') Q) : wp (z_loop (fX11_takeDrafted_B76 k) zN (nI c, nI w, 0) g) Q := by
  have hn := hA.1.2.2.1
  obtain ⟨w1, w2, w3, w4, w5⟩ := hA.2.1 w hw
  have hk8 := hA.1.2.1
  have h6 := hA.2.2.2.1 0 (by omega)
  have ep0 : (pM A c s).2 w 0 = pa (s.2 w 0) (ms A 2) := by
    show (if 0 < A 1 w then (if 0 = 0 then _ else _) else pC) = _
    rw [if_pos (by omega), if_pos rfl]
  refine wp_loop (P := fun t g' => ∃ i, i ≤ A 1 w ∧ t = (nI c, nI w, nI i) ∧ g'.1 = g.1 ∧ g'.2 31 = g.2 31 ∧ (∀ j, (j < 8 * w ∨ 8 * w + A 1 w ≤ j) → g'.2 33 j = g.2 33 j) ∧ (∀ j, j ≤ i → j < A 1 w → RVM (d + 1) (g'.2 33 (8 * w + j)) ((pM A c s).2 w j)) ∧ (∀ j, i < j → j < A 1 w → g'.2 33 (8 * w + j) = g.2 33 (8 * w + j)) ∧ (i < A 1 w → g'.2 32 = g.2 32) ∧ (i = A 1 w → (∀ a, a ≠ A 3 w → g'.2 32 a = g.2 32 a) ∧ RVM (d + 1) (g'.2 32 (A 3 w)) (min u (pa (s.2 w (A 1 w - 1)) (ow A c w (A 1 w - 1)))))) (μ := fun t _ => A 1 w - t.2.2.toNatClampNeg) ?_ zN _ _ ⟨0, by omega, rfl, rfl, rfl, fun _ _ => rfl, fun j h1 h2 => by rw [show j = 0 by omega, ep0]; exact h33 0 (by omega), fun _ _ _ => rfl, fun _ => rfl, fun q => by omega⟩ (by show A 1 w - _ < zN; rw [p_zN]; omega)
  rintro rc t g1 ⟨i, hi, rfl, e1, e2, e3, e4, e5, e6, e7⟩ ih
  have hM1 := hM.same e1
  simp only [fX11_takeDrafted_B76]
  try simp (disch := omega) only [p_g, p_b, p_s, p_gin, p_gblt, p_eqL, p_leL, p_Lle, p_ltL, p_Llt, p_addL, p_subL, p_mulL, p_LmulL, p_eq, p_le, p_lt, p_add, p_sub, p_mul, p_clamp, if_pos, if_neg]
  rw [(hM1.2.1 w hw).1]
  try simp (disch := omega) only [p_g, p_b, p_s, p_gin, p_gblt, p_eqL, p_leL, p_Lle, p_ltL, p_Llt, p_addL, p_subL, p_mulL, p_LmulL, p_eq, p_le, p_lt, p_add, p_sub, p_mul, p_clamp, if_pos, if_neg]
  by_cases h5 : A 1 w ≤ i
  · have : i = A 1 w := by omega
    subst this
    rw [if_pos h5]
    obtain ⟨q1, q2⟩ := e7 rfl
    exact hk g1 e1 e2 e3 q1 q2 (fun j hj => e4 j (by omega) hj)
  · rw [if_neg h5]
    try simp (disch := omega) only [p_g, p_b, p_s, p_gin, p_gblt, p_eqL, p_leL, p_Lle, p_ltL, p_Llt, p_addL, p_subL, p_mulL, p_LmulL, p_eq, p_le, p_lt, p_add, p_sub, p_mul, p_clamp, if_pos, if_neg]
    have hiw : i < A 1 w := by omega
    have hs4 := w5 i hiw
    have e32 := e6 hiw
    rw [(hM1.2.1 w hw).2.2.2 i hiw]
    have hdec : A 1 w - (nI (i + 1)).toNatClampNeg < A 1 w - (nI i).toNatClampNeg := by
      rw [p_clamp (by omega), p_clamp (by omega)]
      omega
    have go : ∀ s0, RVM (d + 1) (g1.2 31 (8 * w + i) + s0) (pa (s.2 w i) (ow A c w i)) → wp (fX11_takeDrafted_J121 rc (nI c) (nI w) (nI i) s0 (g1.2 31 (8 * w + i)) g1) Q := by
      intro s0 hs0
      refine m_tkJ (u := u) hA hM1 hd hw hiw hs0 (by rw [e32]; exact h32) (fun q => by rw [e5 _ (by omega) q]; exact h33 _ q) ?_ ?_
      · intro z q hz
        refine ih _ _ ⟨i + 1, by omega, rfl, e1, ?_, ?_, ?_, ?_, fun _ => ?_, fun q => by omega⟩ hdec
        · rw [p_Loff (by decide)]; exact e2
        · intro j hj; rw [p_Lon (by omega)]; exact e3 j hj
        · intro j h1 h2
          by_cases q : j = i + 1
          · subst q; rw [p_Lat]; exact hz
          · rw [p_Lon (by omega)]; exact e4 j (by omega) h2
        · intro j h1 h2; rw [p_Lon (by omega)]; exact e5 j (by omega) h2
        · rw [p_Loff (by decide)]; exact e32
      · intro z q hz
        refine ih _ _ ⟨i + 1, by omega, rfl, e1, ?_, ?_, ?_, ?_, fun _ => by omega, fun _ => ⟨?_, ?_⟩⟩ hdec
        · rw [p_Loff (by decide)]; exact e2
        · intro j hj; rw [p_Loff (by decide)]; exact e3 j hj
        · intro j h1 h2; rw [p_Loff (by decide)]; exact e4 j (by omega) h2
        · intro j h1 h2; omega
        · intro a ha; rw [p_Lon ha, e32]
        · rw [p_Lat, show A 1 w - 1 = i by omega]; exact hz
    have hcur : RVM d (g1.2 31 (8 * w + i)) (s.2 w i) := by rw [e2]; exact h31 i hiw
    by_cases q : A 4 (8 * w + i) = c
    · rw [if_pos (by rw [q])]
      refine go 0 ?_
      rw [show ow A c w i = 0 from if_pos q]
      exact hcur.add0 (by omega)
    · rw [if_neg (by rw [p_eq (by omega) (by omega)]; exact q), m_mis0 hA hM1, p_b]
      refine go _ ?_
      rw [show ow A c w i = ms A 0 from if_neg q]
      exact hcur.add h6 (e := 1) (by omega) (by omega)
theorem m_take {A : aS} (hA : I_ok A) {g : z_S} (hM : R_M A g) {d : Nat} {s : pS} (hP : PM A d s g) (hd : d < 80000) {c : Nat} (hc : c < 8) : wp (fX11_takeDrafted (nI c) g) (fun q => q.2.1 = g.1 ∧ PM A (d + 1) (pM A c s) q.2) := by
  have hn := hA.1.2.2.1
  have h6 := hA.2.2.2.1 2 (by omega)
  have hms : ms A 2 = A 6 2 * 1048576 + 1 := rfl
  unfold fX11_takeDrafted
  refine wp_loop (P := fun t g' => ∃ a, a ≤ 5 ∧ t = (nI c, nI a) ∧ g'.1 = g.1 ∧ g'.2 30 = g.2 30 ∧ g'.2 31 = g.2 31 ∧ (∀ b, b < a → RVM (d + 1) (g'.2 32 b) (pa (s.1 b) (ms A 2)))) (μ := fun t _ => 5 - t.2.toNatClampNeg) ?_ zN _ _ ⟨0, by omega, rfl, rfl, rfl, rfl, fun b h => by omega⟩ (by show 5 - _ < zN; rw [p_zN]; omega)
  rintro rc t g1 ⟨a, ha, rfl, e1, e2, e3, e4⟩ ih
  have hM1 := hM.same e1
  simp only [fX11_takeDrafted_B2]
  try simp (disch := omega) only [p_g, p_b, p_s, p_gin, p_gblt, p_eqL, p_leL, p_Lle, p_ltL, p_Llt, p_addL, p_subL, p_mulL, p_LmulL, p_eq, p_le, p_lt, p_add, p_sub, p_mul, p_clamp, if_pos, if_neg]
  by_cases h5 : 4 < a
  · rw [if_pos h5]
    refine wp_loop (P := fun t g' => ∃ x, x ≤ 136 ∧ t = (nI c, nI x) ∧ g'.1 = g.1 ∧ g'.2 31 = g.2 31 ∧ g'.2 32 = g1.2 32 ∧ (∀ j, j < x → g'.2 33 j = g.2 31 j + lN (A 6 2 * 100000 + 1))) (μ := fun t _ => 136 - t.2.toNatClampNeg) ?_ zN _ _ ⟨0, by omega, rfl, e1, e3, rfl, fun b h => by omega⟩ (by show 136 - _ < zN; rw [p_zN]; omega)
    rintro rc2 t g2 ⟨x, hx, rfl, f1, f2, f3, f4⟩ ih2
    have hM2 := hM.same f1
    simp only [fX11_takeDrafted_B33]
    try simp (disch := omega) only [p_g, p_b, p_s, p_gin, p_gblt, p_eqL, p_leL, p_Lle, p_ltL, p_Llt, p_addL, p_subL, p_mulL, p_LmulL, p_eq, p_le, p_lt, p_add, p_sub, p_mul, p_clamp, if_pos, if_neg]
    by_cases hx5 : 136 ≤ x
    · rw [if_pos hx5]
      refine wp_loop (P := fun t g' => ∃ w, w ≤ A 0 1 ∧ t = (nI c, nI w) ∧ g'.1 = g.1 ∧ g'.2 31 = g.2 31 ∧ (∀ a, a ≤ 4 → RVM (d + 1) (g'.2 32 a) (bl A c s a w)) ∧ (∀ v i, v < w → i < A 1 v → RVM (d + 1) (g'.2 33 (8 * v + i)) ((pM A c s).2 v i)) ∧ (∀ v i, w ≤ v → v < A 0 1 → i < A 1 v → RVM (d + 1) (g'.2 33 (8 * v + i)) (pa (s.2 v i) (ms A 2)))) (μ := fun t _ => A 0 1 - t.2.toNatClampNeg) ?_ zN _ _ ⟨0, by omega, rfl, f1, f2, ?_, fun v i h => by omega, ?_⟩ (by show A 0 1 - _ < zN; rw [p_zN]; omega)
      · rintro rc3 t g3 ⟨w, hw, rfl, k1, k2, k3, k4, k5⟩ ih3
        have hM3 := hM.same k1
        simp only [fX11_takeDrafted_B66]
        rw [hM3.1.2.1]
        try simp (disch := omega) only [p_g, p_b, p_s, p_gin, p_gblt, p_eqL, p_leL, p_Lle, p_ltL, p_Llt, p_addL, p_subL, p_mulL, p_LmulL, p_eq, p_le, p_lt, p_add, p_sub, p_mul, p_clamp, if_pos, if_neg]
        by_cases hwe : A 0 1 ≤ w
        · have : w = A 0 1 := by omega
          subst this
          rw [if_pos hwe]
          refine wp_loop (P := fun t g' => ∃ a, a ≤ 5 ∧ t = nI a ∧ g'.1 = g.1 ∧ g'.2 32 = g3.2 32 ∧ g'.2 33 = g3.2 33 ∧ (∀ b, b < a → g'.2 30 b = g3.2 32 b)) (μ := fun t _ => 5 - t.toNatClampNeg) ?_ zN _ _ ⟨0, by omega, rfl, k1, rfl, rfl, fun b h => by omega⟩ (by show 5 - _ < zN; rw [p_zN]; omega)
          rintro rc4 t g4 ⟨a4, ha4, rfl, l1, l2, l3, l4⟩ ih4
          simp only [fX11_takeDrafted_B211]
          try simp (disch := omega) only [p_g, p_b, p_s, p_gin, p_gblt, p_eqL, p_leL, p_Lle, p_ltL, p_Llt, p_addL, p_subL, p_mulL, p_LmulL, p_eq, p_le, p_lt, p_add, p_sub, p_mul, p_clamp, if_pos, if_neg]
          by_cases h45 : 4 < a4
          · rw [if_pos h45]
            refine wp_loop (P := fun t g' => ∃ x, x ≤ 136 ∧ t = nI x ∧ g'.1 = g.1 ∧ g'.2 30 = g4.2 30 ∧ g'.2 33 = g3.2 33 ∧ (∀ j, j < x → g'.2 31 j = g3.2 33 j)) (μ := fun t _ => 136 - t.toNatClampNeg) ?_ zN _ _ ⟨0, by omega, rfl, l1, rfl, l3, fun b h => by omega⟩ (by show 136 - _ < zN; rw [p_zN]; omega)
            rintro rc5 t g5 ⟨x5, hx5, rfl, n1, n2, n3, n4⟩ ih5
            simp only [fX11_takeDrafted_B236]
            try simp (disch := omega) only [p_g, p_b, p_s, p_gin, p_gblt, p_eqL, p_leL, p_Lle, p_ltL, p_Llt, p_addL, p_subL, p_mulL, p_LmulL, p_eq, p_le, p_lt, p_add, p_sub, p_mul, p_clamp, if_pos, if_neg]
            by_cases hxx : 136 ≤ x5
            · rw [if_pos hxx]
              refine wp_some ⟨n1, fun a ha => ?_, fun v i hv hi => ?_⟩
              · rw [n2, l4 a (by omega)]; exact k3 a ha
              · have := (hA.2.1 v hv).2.1
                rw [n4 _ (by omega)]; exact k4 v i hv hi
            · rw [if_neg hxx]
              refine ih5 _ _ ⟨x5 + 1, by omega, rfl, n1, ?_, ?_, ?_⟩ ?_
              · rw [p_Loff (by decide)]; exact n2
              · rw [p_Loff (by decide)]; exact n3
              · intro j hj
                by_cases q : j = x5
                · subst q; rw [p_Lat, n3]
                · rw [p_Lon q]; exact n4 j (by omega)
              · show _ - (nI (_ + 1)).toNatClampNeg < _ - (nI _).toNatClampNeg
                rw [p_clamp (by omega), p_clamp (by omega)]
                omega
          · rw [if_neg h45]
            refine ih4 _ _ ⟨a4 + 1, by omega, rfl, l1, ?_, ?_, ?_⟩ ?_
            · rw [p_Loff (by decide)]; exact l2
            · rw [p_Loff (by decide)]; exact l3
            · intro j hj
              by_cases q : j = a4
              · subst q; rw [p_Lat, l2]
              · rw [p_Lon q]; exact l4 j (by omega)
            · show _ - (nI (_ + 1)).toNatClampNeg < _ - (nI _).toNatClampNeg
              rw [p_clamp (by omega), p_clamp (by omega)]
              omega
        · have hw' : w < A 0 1 := by omega
          obtain ⟨w1, w2, w3, w4, w5⟩ := hA.2.1 w hw'
          rw [if_neg hwe]
          refine m_tk2 (s := s) hA hM3 hd hc hw' (k3 (A 3 w) (by omega)) (fun i hi => by rw [k2]; exact hP.2 w i hw' hi) (fun i hi => k5 w i (Nat.le_refl _) hw' hi) _ ?_
          intro g4 b1 b2 b3 b4 b5 b6
          try simp (disch := omega) only [p_g, p_b, p_s, p_gin, p_gblt, p_eqL, p_leL, p_Lle, p_ltL, p_Llt, p_addL, p_subL, p_mulL, p_LmulL, p_eq, p_le, p_lt, p_add, p_sub, p_mul, p_clamp, if_pos, if_neg]
          refine ih3 _ _ ⟨w + 1, by omega, rfl, b1.trans k1, b2.trans k2, ?_, ?_, ?_⟩ ?_
          · intro a ha
            rw [bl]
            by_cases q : a = A 3 w
            · subst q; rw [if_pos rfl]; exact b5
            · rw [if_neg q, b4 a q]; exact k3 a ha
          · intro v i hv hi
            by_cases q : v = w
            · subst q; exact b6 i hi
            · have := (hA.2.1 v (by omega)).2.1
              rw [b3 _ (by omega)]; exact k4 v i (by omega) hi
          · intro v i h1 h2 h3
            rw [b3 _ (by omega)]; exact k5 v i (by omega) h2 h3
          · show _ - (nI (_ + 1)).toNatClampNeg < _ - (nI _).toNatClampNeg
            rw [p_clamp (by omega), p_clamp (by omega)]
            omega
      · intro a2 ha2
        rw [f3]; exact e4 a2 (by omega)
      · intro v i _ hv hi
        have := (hA.2.1 v hv).2.1
        rw [f4 _ (by omega)]
        exact (hP.2 v i hv hi).add h6 (e := 1) (by omega) (by omega)
    · rw [if_neg hx5, m_mis2 hA hM2, p_b]
      refine ih2 _ _ ⟨x + 1, by omega, rfl, f1, ?_, ?_, ?_⟩ ?_
      · rw [p_Loff (by decide)]; exact f2
      · rw [p_Loff (by decide)]; exact f3
      · intro j hj
        by_cases q : j = x
        · subst q; rw [p_Lat, f2]
        · rw [p_Lon q]; exact f4 j (by omega)
      · show _ - (nI (_ + 1)).toNatClampNeg < _ - (nI _).toNatClampNeg
        rw [p_clamp (by omega), p_clamp (by omega)]
        omega
  · rw [if_neg h5, m_mis2 hA hM1, p_b]
    refine ih _ _ ⟨a + 1, by omega, rfl, e1, ?_, ?_, ?_⟩ ?_
    · rw [p_Loff (by decide)]; exact e2
    · rw [p_Loff (by decide)]; exact e3
    · intro b hb
      by_cases q : b = a
      · subst q
        rw [p_Lat, e2]
        exact (hP.1 b (by omega)).add h6 (e := 1) (by omega) (by omega)
      · rw [p_Lon q]; exact e4 b (by omega)
    · show _ - (nI (_ + 1)).toNatClampNeg < _ - (nI _).toNatClampNeg
      rw [p_clamp (by omega), p_clamp (by omega)]
      omega
theorem pM_S4 {A : aS} (hA : I_ok A) {c : Nat} {s : pS} : pS4 A (pM A c s) := by
  intro w hw
  have e : (pM A c s).2 w (A 1 w) = pC := by
    show (if A 1 w < A 1 w then _ else pC) = _
    rw [if_neg (by omega)]
  rw [e]
  exact pM_bd.1 _ (by have := (hA.2.1 w hw).2.2.2.1; omega)
theorem p0_S4 {A : aS} (hA : I_ok A) : pS4 A p0 := fun w hw => (p0_bd (A := A)).1 (A 3 w) (by have := (hA.2.1 w hw).2.2.2.1; omega)
theorem m_pmin {A : aS} {g : z_S} {d : Nat} {r : pS} (hP : PM A d r g) (hd : d < 90000) {v1 : Int32} {Q : Int32 × z_S → Prop} (k : Int32 → Int64 → z_S → Option (Int32 × z_S)) (hk : ∀ y, RVM d y (pmn r 5) → wp (k v1 y g) Q) : wp (z_loop (fX11_patched_B110 k) zN (v1, 1000000000000, 0) g) Q := by
  refine wp_loop (P := fun t g' => ∃ a y, a ≤ 5 ∧ t = (v1, y, nI a) ∧ RVM d y (pmn r a) ∧ g' = g) (μ := fun t _ => 5 - t.2.2.toNatClampNeg) ?_ zN _ _ ⟨0, _, by omega, rfl, RVM_far, rfl⟩ (by show 5 - _ < zN; rw [p_zN]; omega)
  rintro rc t g1 ⟨a, y, ha, rfl, e2, rfl⟩ ih
  simp only [fX11_patched_B110]
  try simp (disch := omega) only [p_g, p_b, p_s, p_gin, p_gblt, p_eqL, p_leL, p_Lle, p_ltL, p_Llt, p_addL, p_subL, p_mulL, p_LmulL, p_eq, p_le, p_lt, p_add, p_sub, p_mul, p_clamp, if_pos, if_neg]
  by_cases h5 : 4 < a
  · have : a = 5 := by omega
    subst this
    rw [if_pos h5]
    exact hk y e2
  · rw [if_neg h5, m_least, p_b]
    refine ih _ _ ⟨a + 1, _, by omega, rfl, ?_, rfl⟩ ?_
    · rw [pmn, Nat.min_comm]
      exact RVM.min e2 (hP.1 a (by omega)) (by omega)
    · show _ - (nI (_ + 1)).toNatClampNeg < _ - (nI _).toNatClampNeg
      rw [p_clamp (by omega), p_clamp (by omega)]
      omega
theorem m_patch {A : aS} (hA : I_ok A) {g : z_S} (hM : R_M A g) {v1 : Int32} (hv : 0 ≤ v1.toInt ∧ v1.toInt ≤ 1) {Q : Int32 × z_S → Prop} (hk : ∀ y r g', g'.1 = g.1 → seqM A (A 0 2) r → RVM 80000 y (pmn r 5) → wp (if v1 = 0 then (some ((y / 100000).toInt32, g')) else (some ((y - y / 100000 * 100000).toInt32, g'))) Q) : wp (fX11_patched v1 g) Q := by
  have hn := hA.1.2.2.1
  have hd48 : A 0 2 ≤ 48 := hA.1.2.2.2.1
  have hk8 := hA.1.2.1
  unfold fX11_patched
  rw [m_yes (b := 0) (c := 1) hv, p_b, if_neg n10]
  refine wp_loop (P := fun t g' => ∃ a, a ≤ 5 ∧ t = (v1, nI a) ∧ g'.1 = g.1 ∧ (∀ b, b < a → g'.2 30 b = if b = 4 then 0 else 1000000000000)) (μ := fun t _ => 5 - t.2.toNatClampNeg) ?_ zN _ _ ⟨0, by omega, rfl, rfl, fun b h => by omega⟩ (by show 5 - _ < zN; rw [p_zN]; omega)
  rintro rc t g1 ⟨a, ha, rfl, e1, e3⟩ ih
  simp only [fX11_patched_B16]
  try simp (disch := omega) only [p_g, p_b, p_s, p_gin, p_gblt, p_eqL, p_leL, p_Lle, p_ltL, p_Llt, p_addL, p_subL, p_mulL, p_LmulL, p_eq, p_le, p_lt, p_add, p_sub, p_mul, p_clamp, if_pos, if_neg]
  by_cases h5 : 4 < a
  · rw [if_pos h5]
    refine wp_loop (P := fun t g' => ∃ x, x ≤ 136 ∧ t = (v1, nI x) ∧ g'.1 = g.1 ∧ g'.2 30 = g1.2 30 ∧ (∀ j, j < x → g'.2 31 j = 1000000000000)) (μ := fun t _ => 136 - t.2.toNatClampNeg) ?_ zN _ _ ⟨0, by omega, rfl, e1, rfl, fun b h => by omega⟩ (by show 136 - _ < zN; rw [p_zN]; omega)
    rintro rc2 t g2 ⟨x, hx, rfl, f1, f2, f3⟩ ih2
    simp only [fX11_patched_B47]
    try simp (disch := omega) only [p_g, p_b, p_s, p_gin, p_gblt, p_eqL, p_leL, p_Lle, p_ltL, p_Llt, p_addL, p_subL, p_mulL, p_LmulL, p_eq, p_le, p_lt, p_add, p_sub, p_mul, p_clamp, if_pos, if_neg]
    by_cases hx5 : 136 ≤ x
    · rw [if_pos hx5]
      have hP : PM A 0 p0 g2 := by
        refine ⟨fun a ha => ?_, fun w i hw hi => ?_⟩
        · rw [f2, e3 a (by omega)]
          show RVM 0 _ (if a = 4 then 0 else pC)
          split
          · exact RVM_0
          · exact RVM_far
        · have := (hA.2.1 w hw).2.1
          rw [f3 _ (by omega)]; exact RVM_far
      apply wp_b
      refine wp_mono (m_settle hA (hM.same f1) p0_bd (p0_S4 hA) hP (by omega) (by show (if (4 : Nat) = 4 then 0 else pC) ≤ _; rw [if_pos rfl]; omega)) ?_
      rintro ⟨u, g3⟩ ⟨b1, r0, b3, b4⟩
      simp only [] at b1 b4 ⊢
      refine wp_loop (P := fun t g' => ∃ x, x ≤ A 0 2 ∧ t = (v1, nI x) ∧ g'.1 = g.1 ∧ ∃ r, seqM A x r ∧ PM A (1440 + 1441 * x) r g') (μ := fun t _ => A 0 2 - t.2.toNatClampNeg) ?_ zN _ _ ⟨0, by omega, rfl, b1.trans f1, r0, b3, b4.mono (by omega)⟩ (by show A 0 2 - _ < zN; rw [p_zN]; omega)
      rintro rc3 t g4 ⟨x, hx, rfl, c1, r, c2, c3⟩ ih3
      have hM4 := hM.same c1
      simp only [fX11_patched_B75]
      rw [hM4.1.2.2.1]
      try simp (disch := omega) only [p_g, p_b, p_s, p_gin, p_gblt, p_eqL, p_leL, p_Lle, p_ltL, p_Llt, p_addL, p_subL, p_mulL, p_LmulL, p_eq, p_le, p_lt, p_add, p_sub, p_mul, p_clamp, if_pos, if_neg]
      by_cases hxe : A 0 2 ≤ x
      · have : x = A 0 2 := by omega
        subst this
        rw [if_pos hxe]
        refine m_pmin c3 (by omega) _ ?_
        intro y hy
        exact hk y r g4 c1 c2 (hy.mono (by omega))
      · rw [if_neg hxe]
        try simp (disch := omega) only [p_g, p_b, p_s, p_gin, p_gblt, p_eqL, p_leL, p_Lle, p_ltL, p_Llt, p_addL, p_subL, p_mulL, p_LmulL, p_eq, p_le, p_lt, p_add, p_sub, p_mul, p_clamp, if_pos, if_neg]
        have hl := hA.2.2.2.2.1 x (by omega)
        rw [hM4.2.2.2.2.1 x (by omega)]
        apply wp_b
        refine wp_mono (m_take hA hM4 c3 (by omega) (by omega : A 7 x < 8)) ?_
        rintro ⟨u, g5⟩ ⟨d1, d3⟩
        simp only [] at d1 d3 ⊢
        apply wp_b
        have h44 : (pM A (A 7 x) r).1 4 ≤ 10000000000 := by
          have e : (pM A (A 7 x) r).1 4 = bl A (A 7 x) r 4 (A 0 1) := rfl
          have h4 := (bl_le (A := A) (c := A 7 x) (s := r) (k := 4) (A 0 1)).1
          have := seqM_4 hA x r c2
          have := ms_le hA (j := 2) (by omega)
          rw [e]; unfold pa at h4; omega
        refine wp_mono (m_settle hA (hM.same (d1.trans c1)) pM_bd (pM_S4 hA) d3 (by omega) h44) ?_
        rintro ⟨u, g6⟩ ⟨k1, r6, k3, k4⟩
        simp only [] at k1 k4 ⊢
        try simp (disch := omega) only [p_g, p_b, p_s, p_gin, p_gblt, p_eqL, p_leL, p_Lle, p_ltL, p_Llt, p_addL, p_subL, p_mulL, p_LmulL, p_eq, p_le, p_lt, p_add, p_sub, p_mul, p_clamp, if_pos, if_neg]
        refine ih3 _ _ ⟨x + 1, by omega, rfl, (k1.trans d1).trans c1, r6, ⟨r, c2, k3⟩, k4.mono (by omega)⟩ ?_
        show _ - (nI (_ + 1)).toNatClampNeg < _ - (nI _).toNatClampNeg
        rw [p_clamp (by omega), p_clamp (by omega)]
        omega
    · rw [if_neg hx5]
      refine ih2 _ _ ⟨x + 1, by omega, rfl, f1, ?_, ?_⟩ ?_
      · rw [p_Loff (by decide)]; exact f2
      · intro j hj
        by_cases q : j = x
        · subst q; rw [p_Lat]
        · rw [p_Lon q]; exact f3 j (by omega)
      · show _ - (nI (_ + 1)).toNatClampNeg < _ - (nI _).toNatClampNeg
        rw [p_clamp (by omega), p_clamp (by omega)]
        omega
  · rw [if_neg h5]
    have step : ∀ z, z = (if a = 4 then (0 : Int64) else 1000000000000) → wp (rc (v1, nI (a + 1)) (z_wl g1 30 a z)) Q := by
      intro z hz
      refine ih _ _ ⟨a + 1, by omega, rfl, e1, ?_⟩ ?_
      · intro b hb
        by_cases q : b = a
        · subst q; rw [p_Lat]; exact hz
        · rw [p_Lon q]; exact e3 b (by omega)
      · show _ - (nI (_ + 1)).toNatClampNeg < _ - (nI _).toNatClampNeg
        rw [p_clamp (by omega), p_clamp (by omega)]
        omega
    by_cases h4 : a = 4
    · rw [if_pos h4]
      try simp (disch := omega) only [p_g, p_b, p_s, p_gin, p_gblt, p_eqL, p_leL, p_Lle, p_ltL, p_Llt, p_addL, p_subL, p_mulL, p_LmulL, p_eq, p_le, p_lt, p_add, p_sub, p_mul, p_clamp, if_pos, if_neg]
      exact step _ (by rw [if_pos h4])
    · rw [if_neg h4]
      try simp (disch := omega) only [p_g, p_b, p_s, p_gin, p_gblt, p_eqL, p_leL, p_Lle, p_ltL, p_Llt, p_addL, p_subL, p_mulL, p_LmulL, p_eq, p_le, p_lt, p_add, p_sub, p_mul, p_clamp, if_pos, if_neg]
      exact step _ (by rw [if_neg h4])
theorem p_Lshr20 {a : Nat} (h : a < 9223372036854775808) : lN a >>> ((20 : Int32).toInt64 &&& 63) = lN (a / 1048576) := by
  apply Int64.toInt_inj.mp
  have hD : (((20 : Int32).toInt64 &&& 63).toBitVec.smod 64).toNat = 20 := by decide
  show ((lN a).toBitVec.sshiftRight (((20 : Int32).toInt64 &&& 63).toBitVec.smod 64).toNat).toInt = _
  rw [hD, BitVec.toInt_sshiftRight]
  show (lN a).toInt >>> 20 = _
  have h2 : a / 1048576 ≤ a := Nat.div_le_self _ _
  rw [p_Ltoint h, p_Ltoint (by omega), Int.shiftRight_eq_div_pow]
  rfl
theorem p_Land20 {a : Nat} (h : a < 9223372036854775808) : lN a &&& 1048575 = lN (a % 1048576) := by
  apply Int64.toBitVec_inj.mp
  apply BitVec.eq_of_toNat_eq
  rw [Int64.toBitVec_and, BitVec.toNat_and]
  have e1 : (1048575 : Int64).toBitVec.toNat = 2 ^ 20 - 1 := by decide
  rw [e1, Nat.and_two_pow_sub_one_eq_mod]
  show (BitVec.ofNat 64 a).toNat % 2 ^ 20 = (BitVec.ofNat 64 (a % 1048576)).toNat
  rw [BitVec.toNat_ofNat, BitVec.toNat_ofNat]
  omega
theorem o_patched (v : Int32) : Op0 (fX10_patched v) (fX11_patched v) := by
  refine op_wp (fun A gx gm hA hX hM => ?_)
  by_cases hv : 0 ≤ v.toInt ∧ v.toInt ≤ 1
  · obtain ⟨q, e, b1, r, b2, b3⟩ := x_patch hA hX
    obtain ⟨y, gx'⟩ := q
    simp only [] at b1 b3
    have hC := pC_eq
    have h48 : A 0 2 ≤ 48 := hA.1.2.2.2.1
    have hfin : pmn r 5 < pC := by
      have := pmn_le (r := r) 5 4 (by omega)
      have := seqX_4 hA _ r b2
      omega
    obtain ⟨x, rfl, hx2, hx3⟩ := b3
    have hx : x = pmn r 5 := by omega
    refine ⟨if v = 0 then nI (x / 1048576) else nI (x % 1048576), A, hA, ?_, ?_⟩
    · unfold fX10_patched
      rw [if_neg (by simp only [Int32.lt_iff_toInt_lt, Int32.le_iff_toInt_le, t_0, t_1, t_2, t_3, t_4, t_6, t_8, t_10, t_20, t_24, t_40, t_99]; omega), if_pos (by simp only [Int32.lt_iff_toInt_lt, Int32.le_iff_toInt_le, t_0, t_1, t_2, t_3, t_4, t_6, t_8, t_10, t_20, t_24, t_40, t_99]; omega), e, p_b, p_Lshr20 (by omega), p_Land20 (by omega), p_Li, p_Li]
      by_cases h0 : v = 0
      · rw [if_pos h0, if_pos h0]
        exact wp_some ⟨rfl, hX.same b1, Cs.ag (fun o _ => by rw [b1])⟩
      · rw [if_neg h0, if_neg h0]
        exact wp_some ⟨rfl, hX.same b1, Cs.ag (fun o _ => by rw [b1])⟩
    · refine m_patch hA hM hv ?_
      intro y' r' g' k1 k2 k3
      have hpe := pmn_eq (seq_eq hA _ r r' b2 k2) 5 (Nat.le_refl _)
      rw [← hpe] at k3
      obtain ⟨x', rfl, ⟨q1, -, -⟩ | ⟨s, c, q1, q2, q3, q4⟩⟩ := k3
      · omega
      · have t1 : x / 1048576 = s := by omega
        have t2 : x % 1048576 = c := by omega
        have t3 : x' / 100000 = s := by omega
        have t4 : x' % 100000 = c := by omega
        rw [show (100000 : Int64) = lN 100000 from rfl, pk_lRem (by omega) (by omega) (by omega), pk_lDiv (by omega) (by omega) (by omega), p_Li, p_Li, t1, t2, t3, t4]
        by_cases h0 : v = 0
        · rw [if_pos h0, if_pos h0]; exact wp_some ⟨rfl, hM.same k1⟩
        · rw [if_neg h0, if_neg h0]; exact wp_some ⟨rfl, hM.same k1⟩
  · refine ⟨-1002, A, hA, ?_, ?_⟩
    · unfold fX10_patched
      by_cases h1 : v < 0
      · rw [if_pos h1]; exact wp_some ⟨rfl, hX, Cs.rf⟩
      · rw [if_neg h1, if_neg]
        · exact wp_some ⟨rfl, hX, Cs.rf⟩
        · simp only [Int32.lt_iff_toInt_lt, Int32.le_iff_toInt_le, t_0, t_1, t_2, t_3, t_4, t_6, t_8, t_10, t_20, t_24, t_40, t_99] at *
          omega
    · unfold fX11_patched
      rw [m_no (b := 0) (c := 1) hv]
      exact wp_some ⟨rfl, hM⟩

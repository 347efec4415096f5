/-! end: both sides -/
theorem wp_gin {β : Type} {i n : Nat} {x : Option β} {Q : β → Prop} (h : i < n) (h2 : i < 2147483648) (hx : wp x Q) : wp (z_g (z_in (nI i) n) x) Q := by rw [p_gin h h2]; exact hx
theorem eC_pos {A : aS} (hA : I_ok A) {y c : Nat} : eC 2000000000000000 (GG A (wX A 0 0) y c) ≤ 0 ↔ ¬ fin A y c := by
  have hb := gbd_G hA (wX_ok hA 0 0) _ y c (Nat.le_refl _)
  unfold fin
  cases hG : GG A (wX A 0 0) y c with
  | none => exact ⟨fun _ q => q rfl, fun _ => by show lN 0 ≤ lN 0; rw [p_JLe (by omega) (by omega)]; omega⟩
  | some q =>
    rw [hG] at hb
    have := (hb q rfl).2.2
    refine ⟨fun h => ?_, fun h => absurd (fun q => by cases q) h⟩
    have h' : lN (min 2000000000000000 q.2) ≤ lN 0 := h
    rw [p_JLe (by omega) (by omega)] at h'
    omega
def Dn (x a w : Nat) (x' a' w' : Nat) : Prop := x' < x ∨ (x' = x ∧ (a' < a ∨ (a' = a ∧ w' < w)))
def Ex (A : aS) (x a w : Nat) (P : Nat → Nat → Nat → Prop) : Prop := ∃ x' a' w', Dn x a w x' a' w' ∧ Rc A x' a' ∧ gst A x' a' w' ∧ P x' a' w'
theorem Ex_s {A : aS} {x a w : Nat} {P : Nat → Nat → Nat → Prop} : Ex A x a (w + 1) P ↔ Ex A x a w P ∨ (Rc A x a ∧ gst A x a w ∧ P x a w) := by
  constructor
  · rintro ⟨x', a', w', h1, h2, h3, h4⟩
    by_cases e : x' = x ∧ a' = a ∧ w' = w
    · obtain ⟨rfl, rfl, rfl⟩ := e
      exact Or.inr ⟨h2, h3, h4⟩
    · refine Or.inl ⟨x', a', w', ?_, h2, h3, h4⟩
      unfold Dn at *
      omega
  · rintro (⟨x', a', w', h1, h2, h3, h4⟩ | ⟨h2, h3, h4⟩)
    · refine ⟨x', a', w', ?_, h2, h3, h4⟩
      unfold Dn at *
      omega
    · refine ⟨x, a, w, ?_, h2, h3, h4⟩
      unfold Dn
      omega
theorem Ex_no {A : aS} {x a w : Nat} {P : Nat → Nat → Nat → Prop} (h : ¬ (Rc A x a ∧ gst A x a w)) : Ex A x a (w + 1) P = Ex A x a w P := propext (Ex_s.trans ⟨fun q => q.resolve_right (fun q => h ⟨q.1, q.2.1⟩), Or.inl⟩)
theorem Ex_row {A : aS} {x a w : Nat} {P : Nat → Nat → Nat → Prop} (h : A 0 1 ≤ w ∨ ¬ Rc A x a) : Ex A x (a + 1) 0 P = Ex A x a w P := by
  apply propext
  constructor
  · rintro ⟨x', a', w', h1, h2, h3, h4⟩
    refine ⟨x', a', w', ?_, h2, h3, h4⟩
    have := h3.1
    unfold Dn at *
    rcases h with h | h
    · omega
    · by_cases e : x' = x ∧ a' = a
      · obtain ⟨rfl, rfl⟩ := e
        exact absurd h2 h
      · omega
  · rintro ⟨x', a', w', h1, h2, h3, h4⟩
    refine ⟨x', a', w', ?_, h2, h3, h4⟩
    unfold Dn at *
    omega
theorem Ex_col {A : aS} (hA : I_ok A) {x a : Nat} {P : Nat → Nat → Nat → Prop} (h : 4 < a) : Ex A (x + 1) 0 0 P = Ex A x a 0 P := by
  apply propext
  constructor
  · rintro ⟨x', a', w', h1, h2, h3, h4⟩
    refine ⟨x', a', w', ?_, h2, h3, h4⟩
    have := Rc_le hA h2
    unfold Dn at *
    omega
  · rintro ⟨x', a', w', h1, h2, h3, h4⟩
    refine ⟨x', a', w', ?_, h2, h3, h4⟩
    unfold Dn at *
    omega
theorem Ex_0 {A : aS} {P : Nat → Nat → Nat → Prop} : ¬ Ex A 0 0 0 P := fun ⟨x', a', w', h1, _⟩ => by unfold Dn at h1; omega
def Mt (A : aS) (x a w y c : Nat) : Prop := (y = 0 ∧ c = 4) ∨ Ex A x a w (fun x' _ w' => y = x' + A 1 w' ∧ c = A 3 w')
def Of (A : aS) (p x a w : Nat) : Prop := Ex A x a w (fun x' _ w' => x' < p ∧ p < x' + A 1 w')
theorem Mt_rc {A : aS} (hA : I_ok A) {x a w y c : Nat} (hy : y ≤ x) : Mt A x a w y c ↔ Rc A y c := by
  constructor
  · rintro (⟨rfl, rfl⟩ | ⟨x', a', w', h1, h2, h3, rfl, rfl⟩)
    · exact Rc.base
    · exact Rc.step h2 h3
  · intro h
    rcases h.cas with ⟨rfl, rfl⟩ | ⟨x', a', w', h2, h3, rfl, rfl⟩
    · exact Or.inl ⟨rfl, rfl⟩
    · refine Or.inr ⟨x', a', w', ?_, h2, h3, rfl, rfl⟩
      have := gst_len hA h3
      unfold Dn
      omega
def SE (A : aS) (p x a w : Nat) (g0 g : z_S) (ov : Int32) : Prop := ov = nI (ci (Of A p x a w)) ∧ (∀ y c, y ≤ 48 → c ≤ 4 → g.1 20 (5 * y + c) = nI (ci (Mt A x a w y c))) ∧ (∀ o, o ≠ 20 → g.1 o = g0.1 o) ∧ g.2 = g0.2
theorem m_end {A : aS} (hA : I_ok A) {gm g0 : z_S} (hM : R_M A gm) (hR : MR A gm g0) {p : Nat} (hp : p ≤ A 0 2) {Q : Int32 × z_S → Prop} (k : Int32 → Int32 → z_S → Option (Int32 × z_S))
    (hk : ∀ g, SE A p (A 0 2) 0 0 g0 g (nI (ci (Of A p (A 0 2) 0 0))) → wp (k (nI p) (nI (ci (Of A p (A 0 2) 0 0))) g) Q) : wp (z_loop (fX11_end_B24 (fun (v1 : Int32) (g : z_S) => z_loop (fX11_end_B61 k) zN (v1, 0, 0) g)) zN (nI p, 0) g0) Q := by
  have hn := hA.1.2.2.1
  have hd := hA.1.2.2.2.1
  refine wp_loop (P := fun s g' => ∃ i, i ≤ 245 ∧ s = (nI p, nI i) ∧ (∀ j, j < i → g'.1 20 j = nI (if j = 4 then 1 else 0)) ∧ (∀ o, o ≠ 20 → g'.1 o = g0.1 o) ∧ g'.2 = g0.2) (μ := fun s _ => 245 - s.2.toNatClampNeg) ?_ zN _ _ ⟨0, by omega, rfl, fun j h => by omega, fun _ _ => rfl, rfl⟩ (by show 245 - _ < zN; rw [p_zN]; omega)
  rintro rc s g1 ⟨i, hi, rfl, e1, e2, e3⟩ ih
  simp only [fX11_end_B24]
  try simp (disch := omega) only [p_g, p_b, p_s, p_gin, p_gblt, p_eqL, p_leL, p_Lle, p_ltL, p_Llt, p_addL, p_subL, p_mulL, p_LmulL, p_eq, p_le, p_lt, p_add, p_sub, p_mul, p_clamp, if_pos, if_neg]
  by_cases hli : 245 ≤ i
  · rw [if_pos hli]
    refine wp_loop (P := fun s g' => ∃ x ov, x ≤ A 0 2 ∧ s = (nI p, ov, nI x) ∧ SE A p x 0 0 g0 g' ov) (μ := fun s _ => A 0 2 - s.2.2.toNatClampNeg) ?_ zN _ _ ⟨0, 0, by omega, rfl, ?_⟩ (by show A 0 2 - _ < zN; rw [p_zN]; omega)
    · rintro rc2 s g2 ⟨x, ov, hx, rfl, h2⟩ ih2
      have h9 : g2.1 0 9 = nI (A 0 2) := by rw [h2.2.2.1 0 (by omega), hR.1 0 (by omega) (by omega) (by omega)]; exact hM.1.2.2.1
      simp only [fX11_end_B61]
      rw [h9]
      try simp (disch := omega) only [p_g, p_b, p_s, p_gin, p_gblt, p_eqL, p_leL, p_Lle, p_ltL, p_Llt, p_addL, p_subL, p_mulL, p_LmulL, p_eq, p_le, p_lt, p_add, p_sub, p_mul, p_clamp, if_pos, if_neg]
      by_cases hlx : A 0 2 ≤ x
      · have : x = A 0 2 := by omega
        subst this
        rw [if_pos hlx]
        have hov := h2.1
        subst hov
        exact hk g2 h2
      · rw [if_neg hlx]
        refine wp_loop (P := fun s g' => ∃ a ov, a ≤ 5 ∧ s = (nI p, ov, nI x, nI a) ∧ SE A p x a 0 g0 g' ov) (μ := fun s _ => 5 - s.2.2.2.toNatClampNeg) ?_ zN _ _ ⟨0, ov, by omega, rfl, h2⟩ (by show 5 - _ < zN; rw [p_zN]; omega)
        rintro rc3 s g3 ⟨a, ov3, ha, rfl, h3⟩ ih3
        simp only [fX11_end_B72]
        try simp (disch := omega) only [p_g, p_b, p_s, p_gin, p_gblt, p_eqL, p_leL, p_Lle, p_ltL, p_Llt, p_addL, p_subL, p_mulL, p_LmulL, p_eq, p_le, p_lt, p_add, p_sub, p_mul, p_clamp, if_pos, if_neg]
        by_cases hla : 4 < a
        · rw [if_pos hla]
          refine ih2 _ _ ⟨x + 1, ov3, by omega, rfl, ?_⟩ ?_
          · unfold SE Of Mt at h3 ⊢
            rw [Ex_col hA hla]
            refine ⟨h3.1, fun y c h1 h2 => ?_, h3.2.2⟩
            rw [Ex_col hA hla]
            exact h3.2.1 y c h1 h2
          · show _ - (nI (_ + 1)).toNatClampNeg < _ - (nI _).toNatClampNeg
            rw [p_clamp (by omega), p_clamp (by omega)]
            omega
        · rw [if_neg hla]
          refine wp_loop (P := fun s g' => ∃ w ov, w ≤ A 0 1 ∧ s = (nI p, ov, nI x, nI a, nI w) ∧ SE A p x a w g0 g' ov) (μ := fun s _ => A 0 1 - s.2.2.2.2.toNatClampNeg) ?_ zN _ _ ⟨0, ov3, by omega, rfl, h3⟩ (by show A 0 1 - _ < zN; rw [p_zN]; omega)
          rintro rc4 s g4 ⟨w, ov4, hw, rfl, h4⟩ ih4
          have hM4 : R_M A g4 := R_M.ag (hR.rm hM) (fun o ho => h4.2.2.1 o (by omega))
          have done : (A 0 1 ≤ w ∨ ¬ Rc A x a) → wp (rc3 (nI p, ov4, nI x, nI (a + 1)) g4) Q := by
            intro hc
            refine ih3 _ _ ⟨a + 1, ov4, by omega, rfl, ?_⟩ ?_
            · unfold SE Of Mt at h4 ⊢
              rw [Ex_row hc]
              refine ⟨h4.1, fun y c h1 h2 => ?_, h4.2.2⟩
              rw [Ex_row hc]
              exact h4.2.1 y c h1 h2
            · show _ - (nI (_ + 1)).toNatClampNeg < _ - (nI _).toNatClampNeg
              rw [p_clamp (by omega), p_clamp (by omega)]
              omega
          simp only [fX11_end_B81]
          rw [hM4.1.2.1]
          try simp (disch := omega) only [p_g, p_b, p_s, p_gin, p_gblt, p_eqL, p_leL, p_Lle, p_ltL, p_Llt, p_addL, p_subL, p_mulL, p_LmulL, p_eq, p_le, p_lt, p_add, p_sub, p_mul, p_clamp, if_pos, if_neg]
          by_cases hlw : A 0 1 ≤ w
          · rw [if_pos hlw]
            exact done (Or.inl hlw)
          · have hw' : w < A 0 1 := by omega
            obtain ⟨w1, w2, w3, w4, -⟩ := hA.2.1 w hw'
            rw [if_neg hlw, m_cell, p_b]
            try simp (disch := omega) only [p_g, p_b, p_s, p_gin, p_gblt, p_eqL, p_leL, p_Lle, p_ltL, p_Llt, p_addL, p_subL, p_mulL, p_LmulL, p_eq, p_le, p_lt, p_add, p_sub, p_mul, p_clamp, if_pos, if_neg]
            rw [h4.2.1 x a (by omega) (by omega)]
            by_cases hr : Rc A x a
            · have hdec : A 0 1 - (nI (w + 1)).toNatClampNeg < A 0 1 - (nI w).toNatClampNeg := by
                rw [p_clamp (by omega), p_clamp (by omega)]
                omega
              have skip : ¬ gst A x a w → wp (rc4 (nI p, ov4, nI x, nI a, nI (w + 1)) g4) Q := by
                intro hno
                refine ih4 _ _ ⟨w + 1, ov4, by omega, rfl, ?_⟩ hdec
                unfold SE Of Mt at h4 ⊢
                rw [Ex_no (fun q => hno q.2)]
                refine ⟨h4.1, fun y c h1 h2 => ?_, h4.2.2⟩
                rw [Ex_no (fun q => hno q.2)]
                exact h4.2.1 y c h1 h2
              rw [if_neg (fun q => (p_cieq.mp q) ((Mt_rc hA (Nat.le_refl _)).mpr hr)), m_may hA hM4 (by omega) hw', p_b]
              by_cases hmay : may A a w
              · rw [if_neg (fun q => (p_cieq.mp q) hmay), m_stands hA hM4 (by omega) hw', p_b]
                by_cases hs : stR (A 7) (A 0 2) A x w
                · have hst := hs.1
                  rw [if_neg (fun q => (p_cieq.mp q) hs)]
                  try simp (disch := omega) only [p_g, p_b, p_s, p_gin, p_gblt, p_eqL, p_leL, p_Lle, p_ltL, p_Llt, p_addL, p_subL, p_mulL, p_LmulL, p_eq, p_le, p_lt, p_add, p_sub, p_mul, p_clamp, if_pos, if_neg]
                  rw [(hM4.2.1 w hw').1, (hM4.2.1 w hw').2.2.1, p_add, m_cell, p_b]
                  try simp (disch := omega) only [p_g, p_b, p_s, p_gin, p_gblt, p_eqL, p_leL, p_Lle, p_ltL, p_Llt, p_addL, p_subL, p_mulL, p_LmulL, p_eq, p_le, p_lt, p_add, p_sub, p_mul, p_clamp, if_pos, if_neg]
                  have h15 : g4.2 15 (5 * (x + A 1 w) + A 3 w) = eC 2000000000000000 (GG A (wX A 0 0) (x + A 1 w) (A 3 w)) := by
                    rw [h4.2.2.2]
                    exact (hR.2.2 (x + A 1 w) (A 3 w) hst (by omega)).1
                  rw [h15]
                  by_cases hf : fin A (x + A 1 w) (A 3 w)
                  · have hg : gst A x a w := ⟨hw', ⟨hmay, hs⟩, hf⟩
                    rw [if_neg (fun q => (eC_pos hA).mp q hf), (hM4.2.1 w hw').1, (hM4.2.1 w hw').2.2.1, p_add, m_cell, p_b]
                    try simp (disch := omega) only [p_g, p_b, p_s, p_gin, p_gblt, p_eqL, p_leL, p_Lle, p_ltL, p_Llt, p_addL, p_subL, p_mulL, p_LmulL, p_eq, p_le, p_lt, p_add, p_sub, p_mul, p_clamp, if_pos, if_neg]
                    rw [p_off (by decide), (hM4.2.1 w hw').1]
                    try simp (disch := omega) only [p_g, p_b, p_s, p_gin, p_gblt, p_eqL, p_leL, p_Lle, p_ltL, p_Llt, p_addL, p_subL, p_mulL, p_LmulL, p_eq, p_le, p_lt, p_add, p_sub, p_mul, p_clamp, if_pos, if_neg]
                    have next : ∀ ov5, ov5 = nI (ci (Of A p x a (w + 1))) → wp (rc4 (nI p, ov5, nI x, nI a, nI (w + 1)) (z_wi g4 20 (5 * (x + A 1 w) + A 3 w) (1 &&& 1))) Q := by
                      intro ov5 h5
                      refine ih4 _ _ ⟨w + 1, ov5, by omega, rfl, h5, fun y c h1 h2 => ?_, fun o ho => by rw [p_off ho]; exact h4.2.2.1 o ho, h4.2.2.2⟩ hdec
                      by_cases e : y = x + A 1 w ∧ c = A 3 w
                      · obtain ⟨rfl, rfl⟩ := e
                        rw [p_at, show ci (Mt A x a (w + 1) (x + A 1 w) (A 3 w)) = 1 from ci_t (Or.inr (Ex_s.mpr (Or.inr ⟨hr, hg, rfl, rfl⟩)))]; rfl
                      · rw [p_on (by omega), h4.2.1 y c h1 h2]
                        have : Mt A x a (w + 1) y c = Mt A x a w y c := by
                          apply propext
                          unfold Mt
                          rw [Ex_s]
                          exact ⟨fun q => q.elim Or.inl (fun q => Or.inr (q.resolve_right (fun q => e q.2.2))), fun q => q.elim Or.inl (fun q => Or.inr (Or.inl q))⟩
                        rw [this]
                    have hov := h4.1
                    by_cases ho : Of A p x a w
                    · rw [ci_t ho] at hov
                      subst hov
                      rw [if_neg (by decide)]
                      exact next _ (by rw [show ci (Of A p x a (w + 1)) = 1 from ci_t (Ex_s.mpr (Or.inl ho))]; rfl)
                    · rw [ci_f ho] at hov
                      subst hov
                      rw [if_pos (by decide)]
                      by_cases c1 : p ≤ x
                      · rw [if_pos c1]
                        refine next _ ?_
                        rw [show ci (Of A p x a (w + 1)) = 0 from ci_f (fun q => (Ex_s.mp q).elim ho (fun q => by have := q.2.2; omega))]; rfl
                      · rw [if_neg c1]
                        by_cases c2 : x + A 1 w ≤ p
                        · rw [if_pos c2]
                          refine next _ ?_
                          rw [show ci (Of A p x a (w + 1)) = 0 from ci_f (fun q => (Ex_s.mp q).elim ho (fun q => by have := q.2.2; omega))]; rfl
                        · rw [if_neg c2]
                          refine next _ ?_
                          rw [show ci (Of A p x a (w + 1)) = 1 from ci_t (Ex_s.mpr (Or.inr ⟨hr, hg, by omega, by omega⟩))]; rfl
                  · rw [if_pos ((eC_pos hA).mpr hf)]
                    exact skip (fun q => hf q.2.2)
                · rw [if_pos (p_cieq.mpr hs)]
                  exact skip (fun q => hs q.2.1.2)
              · rw [if_pos (p_cieq.mpr hmay)]
                exact skip (fun q => hmay q.2.1.1)
            · rw [if_pos (p_cieq.mpr (fun q => hr ((Mt_rc hA (Nat.le_refl _)).mp q)))]
              exact done (Or.inr hr)
    · refine ⟨by rw [show Of A p 0 0 0 = False from propext ⟨fun q => Ex_0 q, False.elim⟩, ci_f id]; rfl, fun y c h1 h2 => ?_, e2, e3⟩
      rw [e1 _ (by omega)]
      by_cases e : y = 0 ∧ c = 4
      · rw [if_pos (by omega), show ci (Mt A 0 0 0 y c) = 1 from ci_t (Or.inl e)]
      · rw [if_neg (by omega), show ci (Mt A 0 0 0 y c) = 0 from ci_f (fun q => q.elim e Ex_0)]
  · rw [if_neg hli, show fX11_cell 0 4 g1 = some (nI (5 * 0 + 4), g1) from m_cell (x := 0) (a := 4), p_b]
    try simp (disch := omega) only [p_g, p_b, p_s, p_gin, p_gblt, p_eqL, p_leL, p_Lle, p_ltL, p_Llt, p_addL, p_subL, p_mulL, p_LmulL, p_eq, p_le, p_lt, p_add, p_sub, p_mul, p_clamp, if_pos, if_neg]
    have nx : ∀ v, v = nI (if i = 4 then 1 else 0) → wp (rc (nI p, nI (i + 1)) (z_wi g1 20 i v)) Q := by
      intro v hv
      refine ih _ _ ⟨i + 1, by omega, rfl, fun j hj => ?_, fun o ho => by rw [p_off ho]; exact e2 o ho, e3⟩ ?_
      · by_cases e : j = i
        · subst e; rw [p_at, hv]
        · rw [p_on e]; exact e1 j (by omega)
      · show _ - (nI (_ + 1)).toNatClampNeg < _ - (nI _).toNatClampNeg
        rw [p_clamp (by omega), p_clamp (by omega)]
        omega
    by_cases h4 : i = 4
    · rw [if_pos (by omega)]
      exact nx _ (by rw [if_pos h4]; rfl)
    · rw [if_neg (by omega)]
      exact nx _ (by rw [if_neg h4]; rfl)
theorem o_end (v : Int32) : Op0 (fX10_end v) (fX11_end v) := by
  refine op_wp (fun A gx gm hA hX hM => ?_)
  have hd := hA.1.2.2.2.1
  unfold fX10_end fX11_end
  rw [hX.1.2.2.1, hM.1.2.2.1, p_iL (by omega)]
  have hc : (lN (A 0 2)).toInt = (A 0 2 : Int) := p_Ltoint (by omega)
  by_cases h : 0 ≤ v.toInt ∧ v.toInt ≤ (A 0 2 : Int)
  · rw [m_yes (b := 0) (c := lN (A 0 2)) (by rw [hc]; exact h), p_b, if_neg n10]
    obtain ⟨p, -, hp, rfl⟩ := p_rng (a := 0) (b := A 0 2) (by omega) h
    have hfi : ∀ b, GG A (wX A b p) 0 4 = none ↔ ¬ fin A 0 4 := fun b => by
      rw [← GG_fin hA (wt := wX A b p)]
      exact ⟨fun q h => h q, fun q => Classical.byContradiction q⟩
    rw [if_neg (p_neg (by omega))]
    try simp (disch := omega) only [p_g, p_b, p_s, p_gin, p_gblt, p_eqL, p_leL, p_Lle, p_ltL, p_Llt, p_addL, p_subL, p_mulL, p_LmulL, p_eq, p_le, p_lt, p_add, p_sub, p_mul, p_clamp, if_pos, if_neg]
    refine ⟨aE A p, A, hA, ?_, ?_⟩
    · apply wp_b
      refine wp_mono (x_measure hA hX (b := 4) (p := p) (pv := nI p) (by omega) (by omega) (fun _ => rfl)) ?_
      rintro ⟨u, g1⟩ h1
      have h1' : MS A 4 p (nI p) gx g1 := h1
      have hX1 := h1'.rx hA hX
      simp only []
      rw [x_able hA h1', p_b]
      unfold aE
      by_cases hf : fin A 0 4
      · rw [cit_t hf, if_neg (fun q => (hfi 4).mp q hf), if_neg (by decide)]
        try simp (disch := omega) only [p_g, p_b, p_s, p_gin, p_gblt, p_eqL, p_leL, p_Lle, p_ltL, p_Llt, p_addL, p_subL, p_mulL, p_LmulL, p_eq, p_le, p_lt, p_add, p_sub, p_mul, p_clamp, if_pos, if_neg]
        by_cases hp0 : p = 0
        · rw [if_pos hp0, if_pos hp0]
          exact wp_some ⟨rfl, hX1, h1'.cs⟩
        · rw [if_neg hp0, if_neg hp0, x_least h1', p_b]
          cases hG : GG A (wX A 4 p) 0 4 with
          | none => exact absurd hf ((hfi 4).mp hG)
          | some q =>
            have k4 := GG_4 hA hp _ 0 4 q (Nat.le_refl _) (by omega) hG
            show wp (if Int32.ofInt q.1 ≤ 0 then _ else _) _
            have i4 : Int32.ofInt q.1 ≤ 0 ↔ q.1 ≤ 0 := iI_le (b := 0) (by omega) (by omega) (by omega) (by omega)
            by_cases ho : Ov A p 0 4
            · rw [cit_t ho, if_pos (i4.mpr (by have := k4.2.mpr ho; omega))]
              apply wp_b
              refine wp_mono (x_measure hA hX1 (b := 5) (p := p) (pv := nI p) (by omega) (by omega) (fun _ => rfl)) ?_
              rintro ⟨u, g2⟩ h2
              have h2' : MS A 5 p (nI p) g1 g2 := h2
              have hX2 := h2'.rx hA hX1
              have hcs : Cs A A gx g2 := Cs.ag (fun o ho => (h2'.1 o (by omega) (by omega) (by omega)).trans (h1'.1 o (by omega) (by omega) (by omega)))
              simp only []
              rw [x_least h2', p_b]
              cases hG5 : GG A (wX A 5 p) 0 4 with
              | none => exact absurd hf ((hfi 5).mp hG5)
              | some r =>
                have k5 := GG_5 hA hp _ 0 4 r (Nat.le_refl _) (by omega) hG5
                have i5 : 0 ≤ Int32.ofInt r.1 ↔ 0 ≤ r.1 := iI_le (a := 0) (by omega) (by omega) (by omega) (by omega)
                show wp (if 0 ≤ Int32.ofInt r.1 then _ else _) _
                by_cases he : En A p 0 4
                · rw [cit_t he, if_neg (fun z => by have := i5.mp z; have := k5.2.mpr he; omega)]
                  exact wp_some ⟨rfl, hX2, hcs⟩
                · rw [cit_f he, if_pos (i5.mpr (by rcases k5.1 with q | q; omega; exact absurd (k5.2.mp q) he))]
                  exact wp_some ⟨rfl, hX2, hcs⟩
            · rw [cit_f ho, if_neg (fun z => by have := i4.mp z; rcases k4.1 with q | q; exact absurd (k4.2.mp q) ho; omega)]
              exact wp_some ⟨rfl, hX1, h1'.cs⟩
      · rw [cit_f hf, if_pos ((hfi 4).mpr hf), if_pos rfl]
        exact wp_some ⟨rfl, hX1, h1'.cs⟩
    · apply wp_b
      refine wp_mono (m_find hA hM) ?_
      rintro ⟨u, g0⟩ h0
      have hR : MR A gm g0 := h0
      simp only []
      refine m_end hA hM hR hp _ (fun g1 h1 => ?_)
      have hov : Of A p (A 0 2) 0 0 ↔ Ov A p 0 4 := by
        constructor
        · rintro ⟨x', a', w', -, q1, q2, q3⟩
          exact Wy_back q1 (Wy.here q2 q3)
        · intro q
          obtain ⟨x', a', w', q1, q2, q3⟩ := Wy_rc q Rc.base
          exact ⟨x', a', w', Or.inl (by omega), q1, q2, q3⟩
      refine wp_loop (P := fun s g' => ∃ a, a ≤ 5 ∧ s = (nI p, nI (ci (Of A p (A 0 2) 0 0)), nI (ci (∃ c, c < a ∧ Rc A p c ∧ fin A p c)), nI a) ∧ g' = g1) (μ := fun s _ => 5 - s.2.2.2.toNatClampNeg) ?_ zN _ _ ⟨0, by omega, by rw [ci_f (c := ∃ c, c < 0 ∧ Rc A p c ∧ fin A p c) (fun ⟨c, q, _⟩ => by omega)]; rfl, rfl⟩ (by show 5 - _ < zN; rw [p_zN]; omega)
      rintro rc s g2 ⟨a, ha, rfl, rfl⟩ ih
      have hM2 : R_M A g2 := R_M.ag (hR.rm hM) (fun o ho => h1.2.2.1 o (by omega))
      simp only [fX11_end_B230]
      try simp (disch := omega) only [p_g, p_b, p_s, p_gin, p_gblt, p_eqL, p_leL, p_Lle, p_ltL, p_Llt, p_addL, p_subL, p_mulL, p_LmulL, p_eq, p_le, p_lt, p_add, p_sub, p_mul, p_clamp, if_pos, if_neg]
      by_cases hla : 4 < a
      · have : a = 5 := by omega
        subst this
        rw [if_pos hla]
        unfold aE
        by_cases hp0 : p = 0
        · subst hp0
          have e1 : (∃ c, c < 5 ∧ Rc A 0 c ∧ fin A 0 c) ↔ fin A 0 4 := by
            constructor
            · rintro ⟨c, q1, q2, q3⟩
              rcases q2.cas with ⟨-, rfl⟩ | ⟨x', a', w', q4, q5, q6, -⟩
              · exact q3
              · have := gst_len hA q5; omega
            · intro q
              exact ⟨4, by omega, Rc.base, q⟩
          have e2 : ¬ Of A 0 (A 0 2) 0 0 := fun ⟨x', a', w', _, q1, q2, q3⟩ => by omega
          rw [show (∃ c, c < 5 ∧ Rc A 0 c ∧ fin A 0 c) = fin A 0 4 from propext e1]
          by_cases hf : fin A 0 4
          · rw [if_neg (fun q => p_cieq.mp q hf), if_pos (p_cieq.mpr e2), cit_t hf, if_pos rfl]
            exact wp_some ⟨rfl, hM2⟩
          · rw [if_pos (p_cieq.mpr hf), cit_f hf]
            exact wp_some ⟨rfl, hM2⟩
        · rw [show (∃ c, c < 5 ∧ Rc A p c ∧ fin A p c) = En A p 0 4 from propext (En_iff hA (by omega)).symm, show Of A p (A 0 2) 0 0 = Ov A p 0 4 from propext hov]
          by_cases hf : fin A 0 4
          · rw [cit_t hf, if_neg hp0]
            have hoe := fin_OvEn hA hp _ 0 4 (Nat.le_refl _) (by omega) hf
            by_cases ho : Ov A p 0 4
            · rw [cit_t ho]
              by_cases he : En A p 0 4
              · rw [cit_t he, if_neg (fun q => p_cieq.mp q he), if_neg (fun q => p_cieq.mp q ho)]
                exact wp_some ⟨rfl, hM2⟩
              · rw [cit_f he, if_pos (p_cieq.mpr he)]
                exact wp_some ⟨rfl, hM2⟩
            · rw [cit_f ho, if_neg (fun q => p_cieq.mp q (hoe.resolve_left ho)), if_pos (p_cieq.mpr ho)]
              exact wp_some ⟨rfl, hM2⟩
          · have he : ¬ En A p 0 4 := fun q => by
              obtain ⟨w, q1, -⟩ := q.cas
              have := gst_len hA q1
              exact hf ((fin_step hA (by omega)).mpr ⟨w, q1⟩)
            rw [cit_f hf, if_pos (p_cieq.mpr he)]
            exact wp_some ⟨rfl, hM2⟩
      · rw [if_neg hla]
        have nx : ∀ v, v = nI (ci (∃ c, c < a + 1 ∧ Rc A p c ∧ fin A p c)) → wp (rc (nI p, nI (ci (Of A p (A 0 2) 0 0)), v, nI (a + 1)) g2) (fun q => q.1 = aE A p ∧ R_M A q.2) := by
          intro v hv
          subst hv
          refine ih _ _ ⟨a + 1, by omega, rfl, rfl⟩ ?_
          show _ - (nI (_ + 1)).toNatClampNeg < _ - (nI _).toNatClampNeg
          rw [p_clamp (by omega), p_clamp (by omega)]
          omega
        have hs : (∃ c, c < a + 1 ∧ Rc A p c ∧ fin A p c) ↔ (∃ c, c < a ∧ Rc A p c ∧ fin A p c) ∨ (Rc A p a ∧ fin A p a) := by
          constructor
          · rintro ⟨c, q1, q2⟩
            by_cases e : c = a
            · subst e; exact Or.inr q2
            · exact Or.inl ⟨c, by omega, q2⟩
          · rintro (⟨c, q1, q2⟩ | q)
            · exact ⟨c, by omega, q2⟩
            · exact ⟨a, by omega, q⟩
        by_cases h3 : ∃ c, c < a ∧ Rc A p c ∧ fin A p c
        · rw [if_neg (fun q => p_cieq.mp q h3)]
          exact nx _ (by rw [ci_t (hs.mpr (Or.inl h3))]; rfl)
        · rw [if_pos (p_cieq.mpr h3), m_cell, p_b]
          try simp (disch := omega) only [p_g, p_b, p_s, p_gin, p_gblt, p_eqL, p_leL, p_Lle, p_ltL, p_Llt, p_addL, p_subL, p_mulL, p_LmulL, p_eq, p_le, p_lt, p_add, p_sub, p_mul, p_clamp, if_pos, if_neg]
          rw [h1.2.1 p a (by omega) (by omega)]
          by_cases hr : Rc A p a
          · rw [if_neg (fun q => p_cieq.mp q ((Mt_rc hA hp).mpr hr)), m_cell, p_b]
            try simp (disch := omega) only [p_g, p_b, p_s, p_gin, p_gblt, p_eqL, p_leL, p_Lle, p_ltL, p_Llt, p_addL, p_subL, p_mulL, p_LmulL, p_eq, p_le, p_lt, p_add, p_sub, p_mul, p_clamp, if_pos, if_neg]
            have h15 : g2.2 15 (5 * p + a) = eC 2000000000000000 (GG A (wX A 0 0) p a) := by
              rw [h1.2.2.2]
              exact (hR.2.2 p a hp (by omega)).1
            rw [h15]
            by_cases hf : fin A p a
            · rw [if_neg (fun q => (eC_pos hA).mp q hf)]
              exact nx _ (by rw [ci_t (hs.mpr (Or.inr ⟨hr, hf⟩))]; rfl)
            · rw [if_pos ((eC_pos hA).mpr hf)]
              exact nx _ (by rw [ci_f (fun q => (hs.mp q).elim h3 (fun q => hf q.2))]; rfl)
          · rw [if_pos (p_cieq.mpr (fun q => hr ((Mt_rc hA hp).mp q)))]
            exact nx _ (by rw [ci_f (fun q => (hs.mp q).elim h3 (fun q => hr q.1))]; rfl)
  · rw [m_no (b := 0) (c := lN (A 0 2)) (by rw [hc]; exact h)]
    refine ⟨-1002, A, hA, ?_, wp_some ⟨rfl, hM⟩⟩
    by_cases h1 : v < 0
    · rw [if_pos h1]; exact wp_some ⟨rfl, hX, Cs.rf⟩
    · rw [if_neg h1, if_neg]
      · exact wp_some ⟨rfl, hX, Cs.rf⟩
      · rw [p_leI (by omega)]
        simp only [Int32.lt_iff_toInt_lt, Int32.le_iff_toInt_le, t_0, t_1, t_2, t_3, t_4, t_6, t_8, t_10, t_20, t_24, t_40, t_99] at *
        omega

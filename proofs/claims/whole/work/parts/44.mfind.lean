/-! the reference's findReadings -/
theorem R_M.ag {A : aS} {g g' : z_S} (hM : R_M A g) (h : ∀ o, o ≤ 10 → g'.1 o = g.1 o) : R_M A g' := by
  obtain ⟨⟨m1, m2, m3, m4, m5, m6⟩, mB, mC, mD, mE, mF, mG⟩ := hM
  refine ⟨⟨?_, ?_, ?_, ?_, ?_, ?_⟩, ?_, ?_, ?_, ?_, ?_, ?_⟩ <;> simp (disch := omega) only [h] <;> assumption
theorem m_cell {x a : Nat} {g : z_S} : fX11_cell (nI x) (nI a) g = some (nI (5 * x + a), g) := by
  unfold fX11_cell
  try simp (disch := omega) only [p_g, p_b, p_s, p_gin, p_gblt, p_eqL, p_leL, p_Lle, p_ltL, p_Llt, p_addL, p_subL, p_mulL, p_LmulL, p_eq, p_le, p_lt, p_add, p_sub, p_mul, p_clamp, if_pos, if_neg]
theorem m_begin {g : z_S} {i e : Nat} (hi : i < 245) (he : e ≤ 1) : fX11_beginCell (nI i) (nI e) g = some ((), z_wi (z_wi (z_wl (z_wi (z_wl g 15 i (lN e)) 16 i (if e = 0 then -1 else 0)) 17 i (lN e)) 18 i (if e = 0 then -1 else 0)) 19 i (if e = 0 then -1 else 0)) := by
  unfold fX11_beginCell fX11_beginCell_J25 fX11_beginCell_J51
  simp only [m_one he]
  rcases (show e = 0 ∨ e = 1 by omega) with rfl | rfl
  · try simp (disch := omega) only [p_g, p_b, p_s, p_gin, p_gblt, p_eqL, p_leL, p_Lle, p_ltL, p_Llt, p_addL, p_subL, p_mulL, p_LmulL, p_eq, p_le, p_lt, p_add, p_sub, p_mul, p_clamp, if_pos, if_neg]
    rfl
  · try simp (disch := omega) only [p_g, p_b, p_s, p_gin, p_gblt, p_eqL, p_leL, p_Lle, p_ltL, p_Llt, p_addL, p_subL, p_mulL, p_LmulL, p_eq, p_le, p_lt, p_add, p_sub, p_mul, p_clamp, if_pos, if_neg]
    rfl
def MR (A : aS) (g g' : z_S) : Prop := (∀ o, o ≠ 16 → o ≠ 18 → o ≠ 19 → g'.1 o = g.1 o) ∧ (∀ o, o ≠ 15 → o ≠ 17 → g'.2 o = g.2 o) ∧ ∀ y c, y ≤ A 0 2 → c ≤ 4 → TabO g' (5 * y + c) (GG A (wX A 0 0) y c) (GG A (wX A 1 0) y c) (GG A (wX A 2 0) y c) (GG A (wX A 3 0) y c)
theorem MR.rm {A : aS} {g g' : z_S} (hM : R_M A g) (h : MR A g g') : R_M A g' := R_M.ag hM (fun o ho => h.1 o (by omega) (by omega) (by omega))
theorem m_find {A : aS} (hA : I_ok A) {g : z_S} (hM : R_M A g) : wp (fX11_findReadings g) (fun q => MR A g q.2) := by
  have hn := hA.1.2.2.1
  have hd := hA.1.2.2.2.1
  unfold fX11_findReadings
  rw [hM.1.2.2.1]
  refine wp_loop (P := fun s g' => ∃ m, m ≤ A 0 2 + 1 ∧ s = (if m = 0 then -1 else nI (m - 1)) ∧ (∀ o, o ≠ 16 → o ≠ 18 → o ≠ 19 → g'.1 o = g.1 o) ∧ (∀ o, o ≠ 15 → o ≠ 17 → g'.2 o = g.2 o) ∧ ∀ y c, m ≤ y → y ≤ A 0 2 → c ≤ 4 → TabO g' (5 * y + c) (GG A (wX A 0 0) y c) (GG A (wX A 1 0) y c) (GG A (wX A 2 0) y c) (GG A (wX A 3 0) y c)) (μ := fun s _ => if s < 0 then 0 else s.toNatClampNeg + 1) ?_ zN _ _ ⟨A 0 2 + 1, Nat.le_refl _, by rw [if_neg (by omega)]; rfl, fun _ _ _ _ => rfl, fun _ _ _ => rfl, fun y c h1 h2 => by omega⟩ (by
    show (if nI (A 0 2) < 0 then 0 else (nI (A 0 2)).toNatClampNeg + 1) < zN
    rw [if_neg (p_neg (by omega)), p_clamp (by omega), p_zN]; omega)
  rintro rc s g1 ⟨m, hm, rfl, e1, e2, e3⟩ ih
  simp only [fX11_findReadings_B5]
  by_cases hm0 : m = 0
  · subst hm0
    rw [if_pos rfl, if_pos (by decide)]
    exact wp_some ⟨e1, e2, fun y c h1 h2 => e3 y c (by omega) h1 h2⟩
  · obtain ⟨x, rfl⟩ : ∃ x, m = x + 1 := ⟨m - 1, by omega⟩
    rw [if_neg hm0, Nat.add_sub_cancel, if_neg (p_neg (by omega))]
    refine wp_loop (P := fun s g' => ∃ c, c ≤ 5 ∧ s = (nI x, nI c) ∧ (∀ o, o ≠ 16 → o ≠ 18 → o ≠ 19 → g'.1 o = g.1 o) ∧ (∀ o, o ≠ 15 → o ≠ 17 → g'.2 o = g.2 o) ∧ (∀ y c, x < y → y ≤ A 0 2 → c ≤ 4 → TabO g' (5 * y + c) (GG A (wX A 0 0) y c) (GG A (wX A 1 0) y c) (GG A (wX A 2 0) y c) (GG A (wX A 3 0) y c)) ∧ ∀ c', c' < c → TabO g' (5 * x + c') (GG A (wX A 0 0) x c') (GG A (wX A 1 0) x c') (GG A (wX A 2 0) x c') (GG A (wX A 3 0) x c')) (μ := fun s _ => 5 - s.2.toNatClampNeg) ?_ zN _ _ ⟨0, by omega, rfl, e1, e2, fun y c h1 h2 h3 => e3 y c (by omega) h2 h3, fun c' h => by omega⟩ (by show 5 - _ < zN; rw [p_zN]; omega)
    rintro rc2 s g2 ⟨c, hc, rfl, f1, f2, f3, f4⟩ ih2
    have hM2 : R_M A g2 := R_M.ag hM (fun o ho => f1 o (by omega) (by omega) (by omega))
    simp only [fX11_findReadings_B11]
    try simp (disch := omega) only [p_g, p_b, p_s, p_gin, p_gblt, p_eqL, p_leL, p_Lle, p_ltL, p_Llt, p_addL, p_subL, p_mulL, p_LmulL, p_eq, p_le, p_lt, p_add, p_sub, p_mul, p_clamp, if_pos, if_neg]
    by_cases hlc : 4 < c
    · have : c = 5 := by omega
      subst this
      rw [if_pos hlc]
      refine ih _ _ ⟨x, by omega, ?_, f1, f2, ?_⟩ ?_
      · by_cases hx0 : x = 0
        · subst hx0; rfl
        · rw [if_neg hx0, p_m1 (by omega)]
      · intro y c q1 q2 q3
        by_cases hyx : y = x
        · subst hyx; exact f4 c (by omega)
        · exact f3 y c (by omega) q2 q3
      · rw [if_neg hm0, Nat.add_sub_cancel, if_neg (p_neg (by omega)), p_clamp (by omega)]
        by_cases hx0 : x = 0
        · subst hx0; rw [if_pos (by decide)]; omega
        · rw [p_m1 (by omega), if_neg (p_neg (by omega)), p_clamp (by omega)]; omega
    · rw [if_neg hlc, m_cell, p_b, hM2.1.2.2.1]
      have hi : 5 * x + c < 245 := by omega
      have key : ∀ e, e ≤ 1 → (e = 1 ↔ x = A 0 2) → wp (fX11_findReadings_J37 rc2 (nI x) (nI c) (nI (5 * x + c)) (nI e) (nI (5 * x + c)) g2) (fun q => MR A g q.2) := by
        intro e he hex
        unfold fX11_findReadings_J37
        rw [m_begin hi he, p_b]
        generalize hg3 : z_wi (z_wi (z_wl (z_wi (z_wl g2 15 (5 * x + c) (lN e)) 16 (5 * x + c) (if e = 0 then -1 else 0)) 17 (5 * x + c) (lN e)) 18 (5 * x + c) (if e = 0 then -1 else 0)) 19 (5 * x + c) (if e = 0 then -1 else 0) = g3
        have k1 : ∀ o, o ≠ 16 → o ≠ 18 → o ≠ 19 → g3.1 o = g2.1 o := by
          intro o h1 h2 h3
          rw [← hg3, p_off h3, p_off h2, p_wl1, p_off h1, p_wl1]
        have k2 : ∀ o, o ≠ 15 → o ≠ 17 → g3.2 o = g2.2 o := by
          intro o h1 h2
          rw [← hg3, p_wi2, p_wi2, p_Loff h2, p_wi2, p_Loff h1]
        have k3 : ∀ o k, k ≠ 5 * x + c → g3.1 o k = g2.1 o k := by
          intro o k hk
          rw [← hg3, p_wi, if_neg (fun z => hk z.2), p_wi, if_neg (fun z => hk z.2), p_wl1, p_wi, if_neg (fun z => hk z.2), p_wl1]
        have k4 : ∀ o k, k ≠ 5 * x + c → g3.2 o k = g2.2 o k := by
          intro o k hk
          rw [← hg3, p_wi2, p_wi2, p_wl, if_neg (fun z => hk z.2), p_wi2, p_wl, if_neg (fun z => hk z.2)]
        have k5 : TabO g3 (5 * x + c) (if e = 0 then none else some (0, 1)) (if e = 0 then none else some (0, 1)) (if e = 0 then none else some (0, 1)) (if e = 0 then none else some (0, 1)) := by
          rcases (show e = 0 ∨ e = 1 by omega) with rfl | rfl
          · rw [if_pos rfl]
            refine ⟨?_, ?_, ?_, ?_, ?_⟩ <;> rw [← hg3] <;> simp (disch := decide) only [p_wi2, p_wl1, p_off, p_at, p_Loff, p_Lat] <;> rfl
          · rw [if_neg (by decide)]
            refine ⟨?_, ?_, ?_, ?_, ?_⟩ <;> rw [← hg3] <;> simp (disch := decide) only [p_wi2, p_wl1, p_off, p_at, p_Loff, p_Lat] <;> rfl
        have tabK : ∀ (g4 : z_S), (∀ o k, k ≠ 5 * x + c → g4.1 o k = g2.1 o k) → (∀ o k, k ≠ 5 * x + c → g4.2 o k = g2.2 o k) → ∀ j o0 o1 o2 o3, j ≠ 5 * x + c → TabO g2 j o0 o1 o2 o3 → TabO g4 j o0 o1 o2 o3 := by
          intro g4 h1 h2 j o0 o1 o2 o3 hj ht
          exact ⟨by rw [h2 _ _ hj]; exact ht.1, by rw [h1 _ _ hj]; exact ht.2.1, by rw [h2 _ _ hj]; exact ht.2.2.1, by rw [h1 _ _ hj]; exact ht.2.2.2.1, by rw [h1 _ _ hj]; exact ht.2.2.2.2⟩
        have exitK : ∀ (g4 : z_S), (∀ o, o ≠ 16 → o ≠ 18 → o ≠ 19 → g4.1 o = g2.1 o) → (∀ o, o ≠ 15 → o ≠ 17 → g4.2 o = g2.2 o) → (∀ o k, k ≠ 5 * x + c → g4.1 o k = g2.1 o k) → (∀ o k, k ≠ 5 * x + c → g4.2 o k = g2.2 o k) → TabO g4 (5 * x + c) (GG A (wX A 0 0) x c) (GG A (wX A 1 0) x c) (GG A (wX A 2 0) x c) (GG A (wX A 3 0) x c) → wp (rc2 (nI x, nI (c + 1)) g4) (fun q => MR A g q.2) := by
          intro g4 h1 h2 h3 h4 h5
          refine ih2 _ _ ⟨c + 1, by omega, rfl, fun o a1 a2 a3 => (h1 o a1 a2 a3).trans (f1 o a1 a2 a3), fun o a1 a2 => (h2 o a1 a2).trans (f2 o a1 a2), ?_, ?_⟩ ?_
          · intro y c2 q1 q2 q3
            exact tabK g4 h3 h4 _ _ _ _ _ (by omega) (f3 y c2 q1 q2 q3)
          · intro c2 q1
            by_cases hcc : c2 = c
            · subst hcc; exact h5
            · exact tabK g4 h3 h4 _ _ _ _ _ (by omega) (f4 c2 (by omega))
          · show _ - (nI (_ + 1)).toNatClampNeg < _ - (nI _).toNatClampNeg
            rw [p_clamp (by omega), p_clamp (by omega)]
            omega
        by_cases hx : x = A 0 2
        · have he1 : e = 1 := hex.mpr hx
          subst he1
          rw [if_neg (by decide)] at k5
          rw [p_step]
          simp only [fX11_findReadings_B43]
          rw [k1 0 (by decide) (by decide) (by decide), hM2.1.2.2.1, hM2.1.2.1]
          have e9 : ∀ z z' : Option (Unit × z_S), (if nI (A 0 1) ≤ 0 then z else if nI (A 0 2) ≤ nI x then z else z') = z := by
            intro z z'
            rw [hx, if_pos (Int32.le_refl _)]
            split <;> rfl
          rw [e9, p_addL]
          refine exitK g3 k1 k2 k3 k4 ?_
          rw [GG_end (by omega), GG_end (by omega), GG_end (by omega), GG_end (by omega)]
          exact k5
        · have he0 : e = 0 := by
            rcases (show e = 0 ∨ e = 1 by omega) with h | h
            · exact h
            · exact absurd (hex.mp h) hx
          subst he0
          rw [if_pos rfl] at k5
          have hxl : x < A 0 2 := by omega
          refine wp_loop (P := fun s g' => ∃ w, w ≤ A 0 1 ∧ s = (nI x, nI c, nI (5 * x + c), nI w) ∧ (∀ o, o ≠ 16 → o ≠ 18 → o ≠ 19 → g'.1 o = g2.1 o) ∧ (∀ o, o ≠ 15 → o ≠ 17 → g'.2 o = g2.2 o) ∧ (∀ o k, k ≠ 5 * x + c → g'.1 o k = g2.1 o k) ∧ (∀ o k, k ≠ 5 * x + c → g'.2 o k = g2.2 o k) ∧ TabO g' (5 * x + c) (gf (gw A (wX A 0 0) x c) w) (gf (gw A (wX A 1 0) x c) w) (gf (gw A (wX A 2 0) x c) w) (gf (gw A (wX A 3 0) x c) w)) (μ := fun s _ => A 0 1 - s.2.2.2.toNatClampNeg) ?_ zN _ _ ⟨0, by omega, rfl, k1, k2, k3, k4, k5⟩ (by show A 0 1 - _ < zN; rw [p_zN]; omega)
          rintro rc3 s g4 ⟨w, hw, rfl, h1, h2, h3, h4, h5⟩ ih3
          have hM4 : R_M A g4 := R_M.ag hM2 (fun o ho => h1 o (by omega) (by omega) (by omega))
          simp only [fX11_findReadings_B43]
          rw [hM4.1.2.1, hM4.1.2.2.1]
          try simp (disch := omega) only [p_g, p_b, p_s, p_gin, p_gblt, p_eqL, p_leL, p_Lle, p_ltL, p_Llt, p_addL, p_subL, p_mulL, p_LmulL, p_eq, p_le, p_lt, p_add, p_sub, p_mul, p_clamp, if_pos, if_neg]
          by_cases hlw : A 0 1 ≤ w
          · have : w = A 0 1 := by omega
            subst this
            rw [if_pos hlw]
            refine exitK g4 h1 h2 h3 h4 ?_
            rw [GG_step hA hxl, GG_step hA hxl, GG_step hA hxl, GG_step hA hxl]
            exact h5
          · have hw' : w < A 0 1 := by omega
            obtain ⟨w1, w2, w3, w4, -⟩ := hA.2.1 w hw'
            rw [if_neg hlw, m_may hA hM4 (by omega) hw', p_b]
            have hdec : A 0 1 - (nI (w + 1)).toNatClampNeg < A 0 1 - (nI w).toNatClampNeg := by
              rw [p_clamp (by omega), p_clamp (by omega)]
              omega
            have skip : ¬ rok A c w x → wp (rc3 (nI x, nI c, nI (5 * x + c), nI (w + 1)) g4) (fun q => MR A g q.2) := by
              intro hno
              refine ih3 _ _ ⟨w + 1, by omega, rfl, h1, h2, h3, h4, ?_⟩ hdec
              have z : ∀ b, gf (gw A (wX A b 0) x c) (w + 1) = gf (gw A (wX A b 0) x c) w := by
                intro b
                rw [gf]
                unfold gw
                rw [cit_f hno]
                cases gf (fun w => cit (rok A c w x) (gsh (wX A b 0 w (x + A 1 w)) (GG A (wX A b 0) (x + A 1 w) (A 3 w))) none) w <;> rfl
              rw [z, z, z, z]
              exact h5
            by_cases hmay : may A c w
            · rw [if_neg (fun q => (p_cieq.mp q) hmay), m_stands hA hM4 (by omega) hw', p_b]
              by_cases hs : stR (A 7) (A 0 2) A x w
              · have hs1 := hs.1
                rw [if_neg (fun q => (p_cieq.mp q) hs), (hM4.2.1 w hw').1, (hM4.2.1 w hw').2.2.1]
                try simp (disch := omega) only [p_g, p_b, p_s, p_gin, p_gblt, p_eqL, p_leL, p_Lle, p_ltL, p_Llt, p_addL, p_subL, p_mulL, p_LmulL, p_eq, p_le, p_lt, p_add, p_sub, p_mul, p_clamp, if_pos, if_neg]
                rw [m_cell, p_b]
                apply wp_b
                have hj : 5 * (x + A 1 w) + A 3 w < 245 := by omega
                have hgo : gok (A 0 2 - x) (gf (gw A (wX A 0 0) x c) w) (gf (gw A (wX A 1 0) x c) w) (gf (gw A (wX A 2 0) x c) w) (gf (gw A (wX A 3 0) x c) w) := gok_f _ (fun i hi => gok_gw hA hxl (by omega) (fun y c2 _ => gokG_all hA _ y c2 (Nat.le_refl _)))
                have hgn : gok (A 0 2 - x - 1) (GG A (wX A 0 0) (x + A 1 w) (A 3 w)) (GG A (wX A 1 0) (x + A 1 w) (A 3 w)) (GG A (wX A 2 0) (x + A 1 w) (A 3 w)) (GG A (wX A 3 0) (x + A 1 w) (A 3 w)) := by
                  have := gokG_all hA _ (x + A 1 w) (A 3 w) (Nat.le_refl _)
                  unfold gokG at this
                  rcases this with h | ⟨q0, q1, q2, q3, a0, a1, a2, a3, a4, a5, a6, a7, a8, a9, a10, a11, a12⟩
                  · exact Or.inl h
                  · exact Or.inr ⟨q0, q1, q2, q3, a0, a1, a2, a3, a4, a5, a6, by omega, a8, a9, by omega, a11, by omega⟩
                have hTn : TabO g4 (5 * (x + A 1 w) + A 3 w) (GG A (wX A 0 0) (x + A 1 w) (A 3 w)) (GG A (wX A 1 0) (x + A 1 w) (A 3 w)) (GG A (wX A 2 0) (x + A 1 w) (A 3 w)) (GG A (wX A 3 0) (x + A 1 w) (A 3 w)) := tabK g4 h3 h4 _ _ _ _ _ (by omega) (f3 (x + A 1 w) (A 3 w) (by omega) hs1 (by omega))
                refine wp_mono (wp_addWord (co := A 2 w) hi hj (by omega) (by omega) (by omega) (hM4.2.1 w hw').2.1 w3 h5 hTn hgo hgn) ?_
                rintro ⟨u, g5⟩ ⟨r1, r2, r3, r4, r5⟩
                simp only [] at r1 r2 r3 r4 r5 ⊢
                try simp (disch := omega) only [p_g, p_b, p_s, p_gin, p_gblt, p_eqL, p_leL, p_Lle, p_ltL, p_Llt, p_addL, p_subL, p_mulL, p_LmulL, p_eq, p_le, p_lt, p_add, p_sub, p_mul, p_clamp, if_pos, if_neg]
                refine ih3 _ _ ⟨w + 1, by omega, rfl, fun o a1 a2 a3 => (r2 o a1 a2 a3).trans (h1 o a1 a2 a3), fun o a1 a2 => (r4 o a1 a2).trans (h2 o a1 a2), fun o k hk => (r3 o k hk).trans (h3 o k hk), fun o k hk => (r5 o k hk).trans (h4 o k hk), ?_⟩ hdec
                have z : ∀ b, gf (gw A (wX A b 0) x c) (w + 1) = gadd (gf (gw A (wX A b 0) x c) w) (gsh (wX A b 0 w (x + A 1 w)) (GG A (wX A b 0) (x + A 1 w) (A 3 w))) := by
                  intro b
                  rw [gf]
                  congr 1
                  unfold gw
                  rw [cit_t ⟨hmay, hs⟩]
                rw [z, z, z, z, wX0, wX1, wX2, wX3]
                exact r1
              · rw [if_pos (p_cieq.mpr hs)]
                try simp (disch := omega) only [p_g, p_b, p_s, p_gin, p_gblt, p_eqL, p_leL, p_Lle, p_ltL, p_Llt, p_addL, p_subL, p_mulL, p_LmulL, p_eq, p_le, p_lt, p_add, p_sub, p_mul, p_clamp, if_pos, if_neg]
                exact skip (fun h => hs h.2)
            · rw [if_pos (p_cieq.mpr hmay)]
              try simp (disch := omega) only [p_g, p_b, p_s, p_gin, p_gblt, p_eqL, p_leL, p_Lle, p_ltL, p_Llt, p_addL, p_subL, p_mulL, p_LmulL, p_eq, p_le, p_lt, p_add, p_sub, p_mul, p_clamp, if_pos, if_neg]
              exact skip (fun h => hmay h.1)
      by_cases hx : x = A 0 2
      · rw [if_pos (by rw [hx])]
        exact key 1 (by omega) ⟨fun _ => hx, fun _ => rfl⟩
      · rw [if_neg (by rw [p_eq (by omega) (by omega)]; exact hx)]
        exact key 0 (by omega) ⟨fun h => by omega, fun h => absurd h hx⟩
/-! readings, best -/
theorem GG_none {A : aS} (hA : I_ok A) {x a : Nat} {b : Nat} (hb : b ≤ 3) : GG A (wX A b 0) x a = none ↔ GG A (wX A 0 0) x a = none := by
  have := gokG_all hA _ x a (Nat.le_refl _)
  unfold gokG at this
  rcases this with ⟨h0, h1, h2, h3⟩ | ⟨q0, q1, q2, q3, h0, h1, h2, h3, -⟩
  · rcases (show b = 0 ∨ b = 1 ∨ b = 2 ∨ b = 3 by omega) with rfl | rfl | rfl | rfl <;> simp [h0, h1, h2, h3]
  · rcases (show b = 0 ∨ b = 1 ∨ b = 2 ∨ b = 3 by omega) with rfl | rfl | rfl | rfl <;> simp [h0, h1, h2, h3]
theorem o_readings : Op0 fX10_readings fX11_readings := by
  refine op_wp (fun A gx gm hA hX hM => ?_)
  refine ⟨match GG A (wX A 0 0) 0 4 with
    | none => lN 0
    | some q => if q.2 ≤ 1000000000000000 then lN q.2 else -1005, A, hA, ?_, ?_⟩
  · unfold fX10_readings
    apply wp_b
    refine wp_mono (x_measure hA hX (b := 0) (p := 0) (pv := -1) (by omega) (by omega) (fun h => by omega)) ?_
    rintro ⟨u, g1⟩ h
    have h' : MS A 0 0 (-1) gx g1 := h
    have hX1 := h'.rx hA hX
    have hT := (h'.2.2.2.2.2 0 4 (by omega) (by omega)).2
    simp only []
    unfold fX5_manyInAll
    rw [p_gi (show z_in 4 245 = true by decide), p_b, show (4 : Int32).toNatClampNeg = 4 from rfl, show (4 : Nat) = 5 * 0 + 4 from rfl, hT]
    cases hG : GG A (wX A 0 0) 0 4 with
    | none => exact wp_eq (if_pos (by decide)) (wp_some ⟨rfl, hX1, h'.cs⟩)
    | some q =>
      show wp (if lN (min 1000000000000001 q.2) ≤ 1000000000000000 then _ else _) _
      simp (disch := omega) only [p_Lge]
      by_cases hq : q.2 ≤ 1000000000000000
      · rw [if_pos (by omega)]
        refine wp_some ⟨?_, hX1, h'.cs⟩
        show lN (min _ q.2) = _
        rw [if_pos hq]; congr 1; omega
      · rw [if_neg (by omega)]
        refine wp_some ⟨?_, hX1, h'.cs⟩
        show _ = if _ then _ else _
        rw [if_neg hq]
  · unfold fX11_readings
    apply wp_b
    refine wp_mono (m_find hA hM) ?_
    rintro ⟨u, g1⟩ h
    have h' : MR A gm g1 := h
    have hM1 := h'.rm hM
    have hT := (h'.2.2 0 4 (by omega) (by omega)).1
    simp only []
    rw [p_l0, p_l4, m_cell, p_b]
    try simp (disch := omega) only [p_g, p_b, p_s, p_gin, p_gblt, p_eqL, p_leL, p_Lle, p_ltL, p_Llt, p_addL, p_subL, p_mulL, p_LmulL, p_eq, p_le, p_lt, p_add, p_sub, p_mul, p_clamp, if_pos, if_neg]
    rw [m_cell, p_b]
    try simp (disch := omega) only [p_g, p_b, p_s, p_gin, p_gblt, p_eqL, p_leL, p_Lle, p_ltL, p_Llt, p_addL, p_subL, p_mulL, p_LmulL, p_eq, p_le, p_lt, p_add, p_sub, p_mul, p_clamp, if_pos, if_neg]
    rw [hT]
    cases hG : GG A (wX A 0 0) 0 4 with
    | none => exact wp_eq (if_pos (by decide)) (wp_some ⟨rfl, hM1⟩)
    | some q =>
      show wp (if lN (min 2000000000000000 q.2) ≤ 1000000000000000 then _ else _) _
      simp (disch := omega) only [p_Lge]
      by_cases hq : q.2 ≤ 1000000000000000
      · rw [if_pos (by omega)]
        refine wp_some ⟨?_, hM1⟩
        show lN (min _ q.2) = _
        rw [if_pos hq]; congr 1; omega
      · rw [if_neg (by omega)]
        refine wp_some ⟨?_, hM1⟩
        show _ = if _ then _ else _
        rw [if_neg hq]

/-! reading THE TEXT: both sides -/
theorem m_rw {A B : aS} (hA : I_ok A) {g0 G : z_S} (hM : R_M A g0) (hK : KN g0 G) {w p : Nat} (hB : BOK A B w) (hT : TN B w G) (h16 : G.1 0 16 = 0) (hp : p ≤ A 0 4) (hsp : sk A p = p) : wp (fX11_readWord (mt p G)) (RMp w G (cls A B w p)) := by
  have hn : A 0 4 ≤ 200 := hA.1.2.2.2.2.2.1
  have hk8 := hA.1.2.1
  have hw16 := hB.1
  unfold fX11_readWord
  show wp (z_b (fX11_here (mt p G)) (fun r1 g1 => (z_g (z_in (g1.1 0 22) 17) (z_s (z_wi g1 12 (g1.1 0 22).toNatClampNeg 0) (fun g21 => (z_g (z_in (g1.1 0 22) 17) (z_s (z_wi g21 13 (g1.1 0 22).toNatClampNeg 1) (fun g28 => (z_g (z_in (g1.1 0 22) 17) (z_s (z_wi g28 14 (g1.1 0 22).toNatClampNeg 0) (fun g35 => (z_b (fX11_takeLetter (g1.1 0 22) g35) (fun r38 g38 => (z_loop (fX11_readWord_B43 k83d) zN ((g1.1 0 22), (g1.1 0 15), r38) g38)))))))))))))) _
  rw [m_hr hA hM hK hp, hsp, p_b, mt_on (by decide), hT.1, mt_at]
  try simp (disch := omega) only [p_g, p_b, p_s, p_gin, p_gblt, p_eqL, p_leL, p_Lle, p_ltL, p_Llt, p_addL, p_subL, p_mulL, p_LmulL, p_eq, p_le, p_lt, p_add, p_sub, p_mul, p_clamp, if_pos, if_neg]
  rw [mt_wi (Or.inl (by decide)), mt_wi (Or.inl (by decide)), mt_wi (Or.inl (by decide))]
  have s0 : SN w G (z_wi (z_wi (z_wi G 12 w 0) 13 w 1) 14 w 0) := ((SN.w (by omega)).tr (SN.w (by omega))).tr (SN.w (by omega))
  have c16 : (z_wi (z_wi (z_wi G 12 w 0) 13 w 1) 14 w 0).1 0 16 = 0 := by rw [p_off (by decide), p_off (by decide), p_off (by decide)]; exact h16
  have c17 : (z_wi (z_wi (z_wi G 12 w 0) 13 w 1) 14 w 0).1 0 17 = G.1 0 17 := by rw [p_off (by decide), p_off (by decide), p_off (by decide)]
  have c12 : (z_wi (z_wi (z_wi G 12 w 0) 13 w 1) 14 w 0).1 12 w = nI 0 := by rw [p_off (by decide), p_off (by decide), p_at]; rfl
  have c13 : (z_wi (z_wi (z_wi G 12 w 0) 13 w 1) 14 w 0).1 13 w = 1 := by rw [p_off (by decide), p_at]
  have c14 : (z_wi (z_wi (z_wi G 12 w 0) 13 w 1) 14 w 0).1 14 w = 0 := by rw [p_at]
  generalize z_wi (z_wi (z_wi G 12 w 0) 13 w 1) 14 w 0 = G0 at *
  have bad : ∀ f pl p' G', f < 100 → f ≠ 0 → SN w G G' → (cls A B w p).1 = f → (cls A B w p).2.1 = pl → wp (z_loop (fX11_readWord_B43 k83d) zN (nI w, nI p, 0) (flt f pl (mt p' G'))) (RMp w G (cls A B w p)) := by
    intro f pl p' G' hf hf0 hs e1 e2
    show wp (fX11_readWord_B43 k83d (z_loop (fX11_readWord_B43 k83d) 999999) (nI w, nI p, 0) (flt f pl (mt p' G'))) _
    simp only [fX11_readWord_B43]
    rw [if_pos trivial, k83_F (f0 hf hf0)]
    exact wp_some (Or.inl ⟨by rw [e1]; exact hf0, p', G', by rw [e1, e2], hs⟩)
  rw [m_tl hA hM (s0.K hK) c16 hw16 (by omega) hp hsp c12]
  by_cases c : isl A p
  · have ec : cls A B w p = cls1 A B w p (ltr A w p 9 p 0 (fun _ => 0)) := if_pos c
    rw [if_pos c]
    by_cases c1 : A 0 0 ≤ A 10 p - 97
    · rw [if_pos c1, p_b]
      refine bad 2 p p G0 (by omega) (by omega) s0 ?_ ?_ <;> (rw [ec, ltr, if_pos c, if_pos c1]; rfl)
    by_cases c2 : 16 ≤ w
    · rw [if_neg c1, if_pos c2, p_b]
      refine bad 5 p p G0 (by omega) (by omega) s0 ?_ ?_ <;> (rw [ec, ltr, if_pos c, if_neg c1, if_pos c2]; rfl)
    rw [if_neg c1, if_neg c2, if_neg (by omega), p_b]
    have el : ltr A w p 9 p 0 (fun _ => 0) = ltr A w p (9 - 1) (sk A (p + 1)) 1 (up (fun _ => 0) 0 (A 10 p - 97)) := by
      rw [ltr, if_pos c, if_neg c1, if_neg c2, if_neg (by omega)]
    have hok := ltr_ok (A := A) (w := w) (first := p) 9 p 0 (fun _ => 0)
    have hlf := ltr_f (A := A) (w := w) (first := p) 9 p 0 (fun _ => 0)
    generalize hs : ltr A w p 9 p 0 (fun _ => 0) = s at *
    have s1 : SN w G (z_wi (z_wi G0 11 (8 * w + 0) (nI (A 10 p - 97))) 12 w (nI (0 + 1))) := (s0.tr (SN.w (by omega))).tr (SN.w (by omega))
    have hw : w < 16 := by omega
    refine m_lts (i0 := 1) hA hM (s1.K hK) hw (by have := c.1; omega) (by omega) el.symm ?_ ?_ ?_ ?_ ?_ ?_
    · rw [p_off (by decide), p_off (by decide)]; exact c16
    · rw [p_at]
    · intro j hj
      rw [p_off (by decide), show j = 0 by omega, p_at]
      rfl
    · rw [p_off (by decide), p_off (by decide), p_off (by decide), p_off (by decide)]; exact ⟨c13, c14⟩
    · intro G' p' hf s2
      rw [k83_F (f0 (by omega) hf)]
      refine wp_some (Or.inl ?_)
      rw [ec]
      unfold cls1
      rw [if_neg hf]
      exact ⟨hf, p', G', rfl, s1.tr s2⟩
    · intro hf G' s2 k16 k17 k12 k134 k11
      obtain ⟨⟨a1, a2⟩, -, a4, a5, a6, a7⟩ := hok hf hp (by omega) (fun j hj => by omega)
      have a4 := a4 (by omega)
      have a6 := a6 hsp
      have s3 := s1.tr s2
      have k17' : G'.1 0 17 = G.1 0 17 := by rw [k17, p_off (by decide), p_off (by decide), c17]
      unfold k83d
      rw [ec]
      unfold cls1
      rw [if_pos hf]
      refine m_again hA hw hB (hT.sn hB s3) a4 k16 k12 k11 (fun j hj => by have := a5 j hj; omega) ?_ ?_
      · intro ha
        rw [cit_t ha, k128_F (f0 (by omega) (by omega))]
        exact wp_some (Or.inl ⟨by show ¬ 4 = 0; omega, _, G', rfl, s3⟩)
      · intro ha
        rw [cit_f ha]
        exact m_k128 hA hM hK hw hB hT a4 a2 a6 s3 k16 k17' k12 k134.1 k134.2 k11
  · rw [if_neg c, p_b]
    have ec : cls A B w p = (1, p, 0, B) := if_neg c
    exact bad 1 p p G0 (by omega) (by omega) s0 (by rw [ec]) (by rw [ec])
theorem m_copy {g : z_S} {w : Nat} (hw : w ≤ 16) (h01 : g.1 0 1 = nI w) {L : Nat → Nat} (hL : ∀ v, v < w → g.1 12 v = nI (L v) ∧ L v ≤ 8) : wp (z_loop fX11_read_B71 zN 0 g) (fun q => q.1 = nI w ∧ (∀ o, o = 0 ∨ 4 < o → q.2.1 o = g.1 o) ∧ (∀ v, v < w → q.2.1 2 v = g.1 12 v ∧ q.2.1 3 v = g.1 13 v ∧ q.2.1 4 v = g.1 14 v ∧ ∀ j, j < L v → q.2.1 1 (8 * v + j) = g.1 11 (8 * v + j))) := by
  refine wp_loop (P := fun a g' => ∃ v, v ≤ w ∧ a = nI v ∧ (∀ o, o = 0 ∨ 4 < o → g'.1 o = g.1 o) ∧ (∀ u, u < v → g'.1 2 u = g.1 12 u ∧ g'.1 3 u = g.1 13 u ∧ g'.1 4 u = g.1 14 u ∧ ∀ j, j < L u → g'.1 1 (8 * u + j) = g.1 11 (8 * u + j))) (μ := fun a _ => w - a.toNatClampNeg) ?_ zN _ _ ⟨0, by omega, rfl, fun _ _ => rfl, fun u h => by omega⟩ (by show w - _ < zN; rw [p_zN]; omega)
  rintro rc a g1 ⟨v, hv, rfl, e1, e2⟩ ih
  simp only [fX11_read_B71]
  rw [e1 0 (by omega), h01]
  try simp (disch := omega) only [p_g, p_b, p_s, p_gin, p_gblt, p_eqL, p_leL, p_Lle, p_ltL, p_Llt, p_addL, p_subL, p_mulL, p_LmulL, p_eq, p_le, p_lt, p_add, p_sub, p_mul, p_clamp, if_pos, if_neg]
  by_cases c : w ≤ v
  · have : v = w := by omega
    subst this
    rw [if_pos c]
    exact wp_some ⟨rfl, e1, e2⟩
  · have hv' : v < w := by omega
    rw [if_neg c]
    try simp (disch := omega) only [p_g, p_b, p_s, p_gin, p_gblt, p_eqL, p_leL, p_Lle, p_ltL, p_Llt, p_addL, p_subL, p_mulL, p_LmulL, p_eq, p_le, p_lt, p_add, p_sub, p_mul, p_clamp, if_pos, if_neg]
    simp (disch := omega) only [p_off, e1]
    obtain ⟨l1, l2⟩ := hL v hv'
    refine wp_loop (P := fun a g' => ∃ x, x ≤ L v ∧ a = (nI v, nI x) ∧ (∀ o, o = 0 ∨ 4 < o → g'.1 o = g.1 o) ∧ (g'.1 2 v = g.1 12 v ∧ g'.1 3 v = g.1 13 v ∧ g'.1 4 v = g.1 14 v ∧ ∀ j, j < x → g'.1 1 (8 * v + j) = g.1 11 (8 * v + j)) ∧ (∀ u, u < v → g'.1 2 u = g.1 12 u ∧ g'.1 3 u = g.1 13 u ∧ g'.1 4 u = g.1 14 u ∧ ∀ j, j < L u → g'.1 1 (8 * u + j) = g.1 11 (8 * u + j))) (μ := fun a _ => L v - a.2.toNatClampNeg) ?_ zN _ _ ⟨0, by omega, rfl, ?_, ⟨?_, ?_, ?_, fun j h => by omega⟩, ?_⟩ (by show L v - _ < zN; rw [p_zN]; omega)
    · rintro rc2 a g2 ⟨x, hx, rfl, f1, f2, f3⟩ ih2
      simp only [fX11_read_B117]
      try simp (disch := omega) only [p_g, p_b, p_s, p_gin, p_gblt, p_eqL, p_leL, p_Lle, p_ltL, p_Llt, p_addL, p_subL, p_mulL, p_LmulL, p_eq, p_le, p_lt, p_add, p_sub, p_mul, p_clamp, if_pos, if_neg]
      rw [f2.1, l1]
      try simp (disch := omega) only [p_g, p_b, p_s, p_gin, p_gblt, p_eqL, p_leL, p_Lle, p_ltL, p_Llt, p_addL, p_subL, p_mulL, p_LmulL, p_eq, p_le, p_lt, p_add, p_sub, p_mul, p_clamp, if_pos, if_neg]
      by_cases c2 : L v ≤ x
      · have : x = L v := by omega
        subst this
        rw [if_pos c2]
        refine ih _ _ ⟨v + 1, by omega, rfl, f1, fun u hu => ?_⟩ ?_
        · by_cases z : u = v
          · subst z; exact f2
          · exact f3 u (by omega)
        · show _ - (nI (_ + 1)).toNatClampNeg < _ - (nI _).toNatClampNeg
          rw [p_clamp (by omega), p_clamp (by omega)]
          omega
      · rw [if_neg c2, f1 11 (by omega)]
        refine ih2 _ _ ⟨x + 1, by omega, rfl, ?_, ⟨?_, ?_, ?_, ?_⟩, ?_⟩ ?_
        · intro o ho; rw [p_off (by omega)]; exact f1 o ho
        · rw [p_off (by decide)]; exact f2.1
        · rw [p_off (by decide)]; exact f2.2.1
        · rw [p_off (by decide)]; exact f2.2.2.1
        · intro j hj
          by_cases z : j = x
          · subst z; rw [p_at]
          · rw [p_on (by omega)]; exact f2.2.2.2 j (by omega)
        · intro u hu
          obtain ⟨t1, t2, t3, t4⟩ := f3 u hu
          have := (hL u (by omega)).2
          refine ⟨?_, ?_, ?_, fun j hj => ?_⟩
          · rw [p_off (by decide)]; exact t1
          · rw [p_off (by decide)]; exact t2
          · rw [p_off (by decide)]; exact t3
          · rw [p_on (by omega)]; exact t4 j hj
        · show _ - (nI (_ + 1)).toNatClampNeg < _ - (nI _).toNatClampNeg
          rw [p_clamp (by omega), p_clamp (by omega)]
          omega
    · intro o ho
      rw [p_off (by omega), p_off (by omega), p_off (by omega)]; exact e1 o ho
    · rw [p_off (by decide), p_off (by decide), p_at]
    · rw [p_off (by decide), p_at]
    · rw [p_at]
    · intro u hu
      obtain ⟨t1, t2, t3, t4⟩ := e2 u hu
      refine ⟨?_, ?_, ?_, fun j hj => ?_⟩
      · rw [p_off (by decide), p_off (by decide), p_on (by omega)]; exact t1
      · rw [p_off (by decide), p_on (by omega), p_off (by decide)]; exact t2
      · rw [p_on (by omega), p_off (by decide), p_off (by decide)]; exact t3
      · rw [p_off (by decide), p_off (by decide), p_off (by decide)]; exact t4 j hj
theorem m_read {A : aS} (hA : I_ok A) {g : z_S} (hM : R_M A g) {s : PC} (hs : prs A 17 0 (sk A 0) (fun _ _ => 0) = s) : wp (fX11_read g) (fun q => q.1 = rdR s ∧ R_M (rdA A s) q.2) := by
  have hn : A 0 4 ≤ 200 := hA.1.2.2.2.2.2.1
  have h3 : A 0 3 ≤ 4 := hA.1.2.2.2.2.1
  unfold fX11_read
  rw [p_s, p_s, p_s, p_s]
  have e0 : z_wi (z_wi (z_wi (z_wi g 0 15 0) 0 16 0) 0 17 (-1)) 0 22 0 = mt 0 (z_wi (z_wi (z_wi g 0 16 0) 0 17 (-1)) 0 22 0) := by
    show z_wi (z_wi (z_wi (mt 0 g) 0 16 0) 0 17 (-1)) 0 22 0 = _
    rw [mt_wi (Or.inr (by decide)), mt_wi (Or.inr (by decide)), mt_wi (Or.inr (by decide))]
  rw [e0]
  have hK0 : KN g (z_wi (z_wi (z_wi g 0 16 0) 0 17 (-1)) 0 22 0) := ⟨fun o ho => by rw [p_off (by omega), p_off (by omega), p_off (by omega)], fun k h1 h2 h3 h4 => by rw [p_on h4, p_on h3, p_on h2]⟩
  refine wp_loopN (P := fun m _ g' => (m = 0 ∧ s.1 ≠ 0 ∧ s.1 ≤ 5 ∧ KN g g' ∧ g'.1 0 16 = nI s.1 ∧ g'.1 0 17 = nI s.2.1) ∨ (∃ w p B G, m = 18 - w ∧ w ≤ 16 ∧ p ≤ A 0 4 ∧ g' = mt p G ∧ KN g G ∧ TN B w G ∧ BOK A B w ∧ G.1 0 16 = 0 ∧ G.1 0 17 = -1 ∧ prs A (17 - w) w (sk A p) B = s)) ?_ zN 18 _ _ (Or.inr ⟨0, 0, fun _ _ => 0, _, rfl, by omega, by omega, rfl, hK0, ⟨by rw [p_at]; rfl, fun v h => by omega⟩, ⟨by omega, fun v h => by omega, fun u v _ h => by omega⟩, by rw [p_on (by decide), p_on (by decide), p_at], by rw [p_on (by decide), p_at], hs⟩) (by rw [p_zN]; omega)
  rintro rc m a g' (⟨rfl, h1, h2, hK, h16, h17⟩ | ⟨w, p, B, G, rfl, hw, hp, rfl, hK, hT, hB, h16, h17, e⟩) ih
  · simp only [fX11_read_B20]
    rw [h16, if_neg (nI0 (by omega) h1), p_s, p_on (by decide), h16, if_neg (by rw [p_leL (by omega) (by omega)]; omega)]
    refine wp_some ⟨?_, ?_⟩
    · unfold rdR; rw [if_neg h1]
    · have hK1 := hK.1
      have hK2 := hK.2
      obtain ⟨⟨m1, m2, m3, m4, m5, m6⟩, mB, mC, mD, mE, mF, mG⟩ := hM
      refine ⟨⟨?_, ?_, ?_, ?_, ?_, ?_⟩, ?_, ?_, ?_, ?_, ?_, ?_⟩ <;> (try simp (disch := (first | assumption | omega)) only [rdf0, rdf04, rdf05, rdfo, p_off, p_on, p_at, hK1, hK2]) <;> (try assumption) <;> (try rfl)
      intro i hi; omega
  · have m16 : ∀ p, (mt p G).1 0 16 = 0 := fun p => by rw [mt_on (by decide)]; exact h16
    have hq := sk_le (A := A) hp
    obtain ⟨t, ht⟩ : ∃ t, 17 - w = t + 1 := ⟨16 - w, by omega⟩
    rw [ht, prs] at e
    simp only [fX11_read_B20]
    rw [if_pos (m16 p), m_hr hA hM hK hp, p_b]
    have hqs : sk A (sk A p) = sk A p := sk_sk
    generalize sk A p = q at *
    by_cases c : q < A 0 4
    · rw [if_pos c] at e
      rw [hr_at c, if_neg (p_neg (by have := hA.2.2.2.2.2.2.1 q c; omega))]
      apply wp_b
      refine wp_mono (m_rw hA hM hK hB hT h16 hq hqs) ?_
      obtain ⟨hf, hfp⟩ := cls_f (A := A) (B := B) (w := w) hq hqs
      have hok := cls_ok (A := A) (B := B) (w := w) (p := q)
      generalize cls A B w q = u at *
      rintro ⟨z, g2⟩ (⟨k1, p', G', k0, k2⟩ | ⟨k1, G', G'', k0, k2, k3, k4, k5, k6⟩)
      · rw [if_neg k1] at e
        simp only [] at k0 ⊢
        subst k0
        subst e
        exact ih 0 _ _ (Or.inl ⟨rfl, k1, hf, ((k2.tr SN.mt).tr SN.flt).K hK, flt_f, flt_p⟩) (by omega)
      · rw [if_pos k1] at e
        simp only [] at k0 ⊢
        subst k0
        obtain ⟨b1, b2, b3⟩ := hok k1 hB hq hqs
        have := b3.1
        have hK' : KN g G' := by
          have := k2.K hK
          refine ⟨fun o ho => ?_, fun k z1 z2 z3 z4 => ?_⟩
          · rw [k3, p_off (by omega)]; exact this.1 o ho
          · rw [k3, p_on z4]; exact this.2 k z1 z2 z3 z4
        exact ih (18 - (w + 1)) _ _ (Or.inr ⟨w + 1, _, _, G', rfl, by omega, b2, rfl, hK', k4, b3, by rw [k3, p_on (by decide)]; exact k5, by rw [k3, p_on (by decide), k6]; exact h17, by rw [show 17 - (w + 1) = t by omega]; exact e⟩) (by omega)
    · rw [if_neg c] at e
      subst e
      rw [show hr A q = -1 from if_neg c, if_pos (by decide), p_s, p_on (by decide), m16 q, if_pos (by decide), p_s, p_on (by decide), mt_on (by decide), hT.1]
      have hK1 := hK.1
      have hK2 := hK.2
      refine wp_mono (m_copy (L := B 1) (g := z_wi (z_wi (mt q G) 0 14 0) 0 1 (nI w)) hw p_at (fun v hv => ⟨by rw [p_off (by decide), p_off (by decide), mt_off (by decide)]; exact (hT.2 v hv).1, (hB.2.1 v hv).2.1⟩)) ?_
      rintro ⟨z, g2⟩ ⟨k1, k2, k3⟩
      simp only [] at k1 k2 k3 ⊢
      subst k1
      refine ⟨rfl, ?_⟩
      have k2' : ∀ o, 4 < o → g2.1 o = G.1 o := fun o ho => by rw [k2 o (by omega), p_off (by omega), p_off (by omega), mt_off (by omega)]
      have k20 : ∀ k, k ≠ 1 → k ≠ 14 → k ≠ 15 → g2.1 0 k = G.1 0 k := fun k z1 z2 z3 => by rw [k2 0 (by omega), p_on z1, p_on z2, mt_on z3]
      have hr0 : (0, 0, w, B).1 = 0 := rfl
      obtain ⟨⟨m1, m2, m3, m4, m5, m6⟩, mB, mC, mD, mE, mF, mG⟩ := hM
      refine ⟨⟨?_, ?_, ?_, ?_, ?_, ?_⟩, ?_, ?_, ?_, ?_, ?_, ?_⟩ <;> (try simp (disch := (first | rfl | assumption | omega)) only [rdo0, rdo01, rdo04, rdo05, rdow, rdoo, k2', k20, hK1, hK2]) <;> (try assumption) <;> (try rfl)
      · rw [k2 0 (by omega), p_at]
      · rw [k2 0 (by omega), p_on (by decide), p_at]; rfl
      · intro v hv
        obtain ⟨t1, t2, t3, t4⟩ := hT.2 v hv
        obtain ⟨c1, c2, c3, c4⟩ := k3 v hv
        rw [p_off (by decide), p_off (by decide), mt_off (by decide)] at c1 c2 c3
        refine ⟨c1.trans t1, c2.trans t2, c3.trans t3, fun i hi => ?_⟩
        rw [c4 i hi, p_off (by decide), p_off (by decide), mt_off (by decide)]
        exact t4 i hi
      · intro i hi; omega
theorem o_read : Op0 fX10_read fX11_read := by
  refine op_wp (fun A gx gm hA hX hM => ?_)
  obtain ⟨h1, h2⟩ := x_read hA hX (s := prs A 17 0 (sk A 0) (fun _ _ => 0)) rfl
  exact ⟨_, _, I_rd hA h1, h2, m_read hA hM rfl⟩

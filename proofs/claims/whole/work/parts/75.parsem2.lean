/-! reading THE TEXT: the reference's numbers, words -/
def VQ (A : aS) (q p V : Nat) : Prop := (p = q → V = 0) ∧ (p = q + 1 → V = A 10 q - 48) ∧ (p = q + 2 → V = 10 * (A 10 q - 48) + (A 10 (q + 1) - 48)) ∧ V ≤ 999
theorem hr_at {A : aS} {p : Nat} (h : p < A 0 4) : hr A p = nI (A 10 p) := if_pos h
theorem m_f1 {g : z_S} (h : g.1 0 16 = 0) {v : Nat} : fX11_want 0 1 (nI v) g = some (0, flt 1 v g) := m_w0 h (f := 1) (by omega) (by omega)
theorem m_f2 {g : z_S} (h : g.1 0 16 = 0) {v : Nat} : fX11_want 0 2 (nI v) g = some (0, flt 2 v g) := m_w0 h (f := 2) (by omega) (by omega)
theorem m_tc {A : aS} (hA : I_ok A) {g0 G : z_S} (hM : R_M A g0) (hK : KN g0 G) (h16 : G.1 0 16 = 0) {p q : Nat} (hp : p ≤ A 0 4) (hq : sk A p = q) {Q : Int32 × z_S → Prop} (hF1 : dg A q = q → Q (0, flt 1 q (mt q G))) (hF2 : dg A q ≠ q → 2 < dg A q - q → ∀ v p', Q (v, flt 2 q (mt p' G))) (hG : dg A q ≠ q → ¬ 2 < dg A q - q → Q (nI (val A q (dg A q)), mt (dg A q) G)) : wp (fX11_takeCost (mt p G)) Q := by
  have hn : A 0 4 ≤ 200 := hA.1.2.2.2.2.2.1
  have q2 := sk_le (A := A) hp
  rw [hq] at q2
  have m16 : ∀ p, (mt p G).1 0 16 = 0 := fun p => by rw [mt_on (by decide)]; exact h16
  unfold fX11_takeCost
  rw [m_hr hA hM hK hp, hq, p_b, m_isf hA, p_b, mt_at]
  by_cases c0 : isf A q
  · rw [if_pos c0, m_w1 (m16 q), p_b, if_neg n10]
    refine wp_loop (P := fun a g' => ∃ p' V, q ≤ p' ∧ p' ≤ A 0 4 ∧ a = (nI q, nI V) ∧ g' = mt p' G ∧ dg A p' = dg A q ∧ VQ A q p' V ∧ (∀ j, q ≤ j → j < p' → isf A j)) (μ := fun _ g' => A 0 4 - (g'.1 0 15).toNatClampNeg) ?_ zN _ _ ⟨q, 0, Nat.le_refl _, q2, rfl, rfl, rfl, ⟨fun _ => rfl, fun z => by omega, fun z => by omega, by omega⟩, fun j z1 z2 => by omega⟩ (by rw [p_zN]; omega)
    rintro rc a g' ⟨p', V, e1, e2, rfl, rfl, e3, e4, e5⟩ ih
    have hV := e4.2.2.2
    have fin : ¬ isf A p' → wp (if 3 ≤ (mt p' G).1 0 15 - nI q then (fX11_takeCost_J127 (nI q) (nI V) 0 (mt p' G)) else (fX11_takeCost_J127 (nI q) (nI V) 1 (mt p' G))) Q := by
      intro hf
      have hd : dg A q = p' := by rw [← e3, dg_n hf]
      have hne : p' ≠ q := fun z => by subst z; exact hf c0
      rw [hd] at hF2 hG
      rw [mt_at]
      try simp (disch := omega) only [p_g, p_b, p_s, p_gin, p_gblt, p_eqL, p_leL, p_Lle, p_ltL, p_Llt, p_addL, p_subL, p_mulL, p_LmulL, p_eq, p_le, p_lt, p_add, p_sub, p_mul, p_clamp, if_pos, if_neg]
      unfold fX11_takeCost_J127
      by_cases c1 : 3 ≤ p' - q
      · rw [if_pos c1, m_f2 (m16 p'), p_b]
        exact wp_some (hF2 hne (by omega) _ _)
      · rw [if_neg c1, m_w1 (m16 p'), p_b]
        have hv : V = val A q p' := by
          obtain ⟨v1, v2, v3, v4⟩ := e4
          unfold val
          split
          · rename_i z; exact v2 z
          · exact v3 (by omega)
        rw [hv]
        exact wp_some (hG hne (by omega))
    simp only [fX11_takeCost_B37]
    rw [hK.t14 hM]
    by_cases c1 : A 0 4 ≤ p'
    · rw [if_pos (by rw [mt_at, p_le (by omega) (by omega)]; exact c1)]
      exact fin (fun z => by have := z.1; omega)
    · rw [if_neg (by rw [mt_at, p_le (by omega) (by omega)]; exact c1)]
      have e10 : (mt p' G).1 10 ((mt p' G).1 0 15).toNatClampNeg = hr A p' := by
        rw [mt_at, p_clamp (by omega), hK.t10 hM (by omega), hr_at (by omega)]
      rw [e10, m_isf hA, p_b]
      rw [show z_in ((mt p' G).1 0 15) 200 = true by rw [mt_at, p_in (by omega)]; exact decide_eq_true (by omega), p_g]
      by_cases c2 : isf A p'
      · have := c2.2.1
        have := c2.2.2
        rw [if_pos c2, if_neg n10, e10, hr_at c2.1, p_g]
        unfold fX11_takeCost_J97
        rw [mt_at]
        try simp (disch := omega) only [p_g, p_b, p_s, p_gin, p_gblt, p_eqL, p_leL, p_Lle, p_ltL, p_Llt, p_addL, p_subL, p_mulL, p_LmulL, p_eq, p_le, p_lt, p_add, p_sub, p_mul, p_clamp, if_pos, if_neg]
        rw [mt_mt]
        have hdec : A 0 4 - ((mt (p' + 1) G).1 0 15).toNatClampNeg < A 0 4 - ((mt p' G).1 0 15).toNatClampNeg := by
          rw [mt_at, mt_at, p_clamp (by omega), p_clamp (by omega)]
          omega
        have h5 : ∀ j, q ≤ j → j < p' + 1 → isf A j := by
          intro j z1 z2
          by_cases z : j = p'
          · subst z; exact c2
          · exact e5 j z1 (by omega)
        obtain ⟨v1, v2, v3, v4⟩ := e4
        by_cases c3 : V ≤ 99
        · rw [if_pos c3]
          refine ih _ _ ⟨p' + 1, _, by omega, by omega, rfl, rfl, by rw [← dg_s c2]; exact e3, ⟨fun z => by omega, fun z => ?_, fun z => ?_, by omega⟩, h5⟩ hdec
          · have : p' = q := by omega
            subst this
            have := v1 rfl
            omega
          · have z1 : p' = q + 1 := by omega
            have z2 := v2 z1
            have z3 := (e5 q (Nat.le_refl _) (by omega)).2
            subst z1
            omega
        · rw [if_neg c3]
          refine ih _ _ ⟨p' + 1, _, by omega, by omega, rfl, rfl, by rw [← dg_s c2]; exact e3, ⟨fun z => by omega, fun z => ?_, fun z => ?_, by omega⟩, h5⟩ hdec
          · have := v1 (by omega); omega
          · have z1 : p' = q + 1 := by omega
            have z2 := v2 z1
            have z3 := (e5 q (Nat.le_refl _) (by omega)).2
            omega
      · rw [if_neg c2, if_pos rfl]
        exact fin c2
  · rw [if_neg c0, m_f1 (m16 q), p_b, if_pos rfl]
    exact wp_some (hF1 (dg_n c0))
theorem m_J311 {A : aS} (hA : I_ok A) {g0 G : z_S} (hM : R_M A g0) (hK : KN g0 G) (h16 : G.1 0 16 = 0) {p q w : Nat} (hp : p ≤ A 0 4) (hq : sk A p = q) (hw : G.1 0 22 = nI w) : fX11_readWord_J311 (mt p G) = some ((), if q < A 0 4 ∧ A 10 q = 59 then mt (q + 1) (z_wi G 0 22 (nI (w + 1))) else flt 1 q (mt q G)) := by
  have hn : A 0 4 ≤ 200 := hA.1.2.2.2.2.2.1
  have q2 := sk_le (A := A) hp
  rw [hq] at q2
  have m16 : ∀ p, (mt p G).1 0 16 = 0 := fun p => by rw [mt_on (by decide)]; exact h16
  unfold fX11_readWord_J311
  rw [if_pos (m16 p), m_hr hA hM hK hp, hq, p_b]
  unfold fX11_readWord_J335
  by_cases c : q < A 0 4 ∧ A 10 q = 59
  · rw [if_pos ((hc_59 hA).mpr c), if_pos c, m_w1 (m16 q), p_b, if_neg n10, p_s, mt_at, p_addL, mt_mt, p_s, mt_on (by decide), hw, p_addL, mt_wi (Or.inr (by decide))]
  · rw [if_neg (fun z => c ((hc_59 hA).mp z)), if_neg c, mt_at, m_f1 (m16 q), p_b, if_pos rfl]
theorem m_J311F {g : z_S} (h : ¬ g.1 0 16 = 0) : fX11_readWord_J311 g = some ((), g) := by
  unfold fX11_readWord_J311
  rw [if_neg h]
def SM (o w : Nat) (G G' : z_S) : Prop := ∀ a k, ¬ (a = o ∧ k = w) → G'.1 a k = G.1 a k
theorem SM.rf {o w : Nat} {G : z_S} : SM o w G G := fun _ _ _ => rfl
theorem SM.wo {o w : Nat} {G : z_S} {x : Int32} : SM o w G (z_wi G o w x) := fun a k h => by rw [p_wi, if_neg h]
theorem SM.SN {o w : Nat} {G G' : z_S} (h : SM o w G G') (ho : o = 13 ∨ o = 14) : SN w G G' := fun a k _ _ h3 => h a k (by omega)
theorem f0 {f pl : Nat} {g : z_S} (hf : f < 100) (h : f ≠ 0) : ¬ (flt f pl g).1 0 16 = 0 := by
  rw [flt_f]; exact nI0 (by omega) h
theorem m_J164 {A : aS} (hA : I_ok A) {g0 G : z_S} (hM : R_M A g0) (hK : KN g0 G) (h16 : G.1 0 16 = 0) {p q w : Nat} (hw : w < 16) (hp : p ≤ A 0 4) (hq : sk A p = q) (h14 : G.1 14 w = 0) {Q : Unit × z_S → Prop} (hF : (knd A q).1 ≠ 0 → ∀ p' G', SM 14 w G G' → Q ((), flt (knd A q).1 (knd A q).2.1 (mt p' G'))) (hG : (knd A q).1 = 0 → ∀ p' G', p' ≤ A 0 4 → sk A p' = (knd A q).2.2.1 → SM 14 w G G' → G'.1 14 w = nI (knd A q).2.2.2 → wp (fX11_readWord_J311 (mt p' G')) Q) : wp (fX11_readWord_J164 (nI w) (mt p G)) Q := by
  have hn : A 0 4 ≤ 200 := hA.1.2.2.2.2.2.1
  have q2 := sk_le (A := A) hp
  rw [hq] at q2
  have hqs : sk A q = q := by rw [← hq, sk_sk]
  have m16 : ∀ p, (mt p G).1 0 16 = 0 := fun p => by rw [mt_on (by decide)]; exact h16
  unfold fX11_readWord_J164
  rw [if_pos (m16 p), m_hr hA hM hK hp, hq, p_b]
  unfold knd at hF hG
  by_cases c : q < A 0 4 ∧ A 10 q = 47
  · rw [if_pos ((hc_47 hA).mpr c), p_s, mt_at, p_addL, mt_mt, m_hr hA hM hK (by omega), p_b, m_isf hA, p_b, mt_at]
    rw [if_pos c] at hF hG
    have q3 := sk_le (A := A) (p := q + 1) c.1
    generalize sk A (q + 1) = r at *
    by_cases c0 : isf A r
    · rw [if_pos c0, m_w1 (m16 r), p_b, if_neg n10, hr_at c0.1]
      have hb := c0.2
      have hne0 : ¬ dg A r = r := by have := dg_ge (A := A) (p := r + 1); rw [dg_s c0]; omega
      rw [if_neg hne0] at hF hG
      refine wp_loop (P := fun a g' => ∃ p', r ≤ p' ∧ p' ≤ A 0 4 ∧ a = (nI (A 10 r), nI w, nI r) ∧ g' = mt p' G ∧ dg A p' = dg A r) (μ := fun _ g' => A 0 4 - (g'.1 0 15).toNatClampNeg) ?_ zN _ _ ⟨r, Nat.le_refl _, q3, rfl, rfl, rfl⟩ (by rw [p_zN]; omega)
      rintro rc a g' ⟨p', e1, e2, rfl, rfl, e3⟩ ih
      have fin : ¬ isf A p' → wp (z_g (z_in (nI w) 17) (z_s (z_wi (mt p' G) 14 (nI w).toNatClampNeg (nI (A 10 r) - 48)) (fun g279 => (if g279.1 0 15 = nI r + 1 then (if 52 ≤ nI (A 10 r) then (fX11_readWord_J303 (nI r) 0 g279) else (fX11_readWord_J303 (nI r) 1 g279)) else (fX11_readWord_J303 (nI r) 0 g279))))) Q := by
        intro hf
        have hd : dg A r = p' := by rw [← e3, dg_n hf]
        rw [hd] at hF hG
        have := hb.1
        try simp (disch := omega) only [p_g, p_b, p_s, p_gin, p_gblt, p_eqL, p_leL, p_Lle, p_ltL, p_Llt, p_addL, p_subL, p_mulL, p_LmulL, p_eq, p_le, p_lt, p_add, p_sub, p_mul, p_clamp, if_pos, if_neg]
        rw [mt_wi (Or.inl (by decide)), mt_at]
        try simp (disch := omega) only [p_g, p_b, p_s, p_gin, p_gblt, p_eqL, p_leL, p_Lle, p_ltL, p_Llt, p_addL, p_subL, p_mulL, p_LmulL, p_eq, p_le, p_lt, p_add, p_sub, p_mul, p_clamp, if_pos, if_neg]
        have g16 : (mt p' (z_wi G 14 w (nI (A 10 r - 48)))).1 0 16 = 0 := by rw [mt_on (by decide), p_off (by decide)]; exact h16
        have bad : 1 < p' - r ∨ 51 < A 10 r → wp (fX11_readWord_J303 (nI r) 0 (mt p' (z_wi G 14 w (nI (A 10 r - 48))))) Q := by
          intro hbad
          rw [if_pos hbad] at hF
          unfold fX11_readWord_J303
          rw [m_f2 g16, p_b, m_J311F (f0 (by omega) (by omega))]
          exact wp_some (hF (by show ¬ 2 = 0; omega) _ _ SM.wo)
        by_cases c1 : p' = r + 1
        · rw [if_pos c1]
          by_cases c2 : 52 ≤ A 10 r
          · rw [if_pos c2]; exact bad (Or.inr (by omega))
          · rw [if_neg c2]
            rw [if_neg (by omega)] at hG
            unfold fX11_readWord_J303
            rw [m_w1 g16, p_b]
            exact hG rfl p' _ e2 rfl SM.wo (by rw [p_at])
        · rw [if_neg c1]
          exact bad (Or.inl (by omega))
      simp only [fX11_readWord_B224]
      rw [hK.t14 hM]
      by_cases c1 : A 0 4 ≤ p'
      · rw [if_pos (by rw [mt_at, p_le (by omega) (by omega)]; exact c1)]
        exact fin (fun z => by have := z.1; omega)
      · rw [if_neg (by rw [mt_at, p_le (by omega) (by omega)]; exact c1)]
        have e10 : (mt p' G).1 10 ((mt p' G).1 0 15).toNatClampNeg = hr A p' := by
          rw [mt_at, p_clamp (by omega), hK.t10 hM (by omega), hr_at (by omega)]
        rw [e10, m_isf hA, p_b]
        rw [show z_in ((mt p' G).1 0 15) 200 = true by rw [mt_at, p_in (by omega)]; exact decide_eq_true (by omega), p_g]
        by_cases c2 : isf A p'
        · rw [if_pos c2, if_neg n10, p_s, mt_at, p_addL, mt_mt]
          refine ih _ _ ⟨p' + 1, by omega, by omega, rfl, rfl, by rw [← dg_s c2]; exact e3⟩ ?_
          rw [mt_at, mt_at, p_clamp (by omega), p_clamp (by omega)]
          omega
        · rw [if_neg c2, if_pos rfl]
          exact fin c2
    · rw [if_neg c0, m_f1 (m16 r), p_b, if_pos rfl, m_J311F (f0 (by omega) (by omega))]
      rw [if_pos (dg_n c0)] at hF
      exact wp_some (hF (by show ¬ 1 = 0; omega) _ _ SM.rf)
  · rw [if_neg (fun z => c ((hc_47 hA).mp z))]
    rw [if_neg c] at hG
    exact hG rfl q G q2 hqs SM.rf (by rw [h14]; rfl)
theorem m_J164F {g : z_S} {v : Int32} (h : ¬ g.1 0 16 = 0) : fX11_readWord_J164 v g = some ((), g) := by
  unfold fX11_readWord_J164
  rw [if_neg h, m_J311F h]
theorem flt_wi {f pl p o k : Nat} {g : z_S} {x : Int32} (h : o ≠ 0) : z_wi (flt f pl (mt p g)) o k x = flt f pl (mt p (z_wi g o k x)) := by
  unfold flt
  rw [wi_comm (g := z_wi (mt p g) 0 16 (nI f)) (o := 0) (k := 17) (o' := o) (k' := k) (x := nI pl) (y := x) (Or.inl (Ne.symm h)), wi_comm (g := mt p g) (o := 0) (k := 16) (o' := o) (k' := k) (x := nI f) (y := x) (Or.inl (Ne.symm h)), mt_wi (Or.inl h)]
def k128d (v2 : Int32) (g : z_S) : Option (Unit × z_S) := if g.1 0 16 = 0 then (z_b (fX11_here g) (fun r136 g136 => (if r136 = 58 then (z_s (z_wi g136 0 15 ((g136.1 0 15) + 1)) (fun g151 => (z_b (fX11_takeCost g151) (fun r160 g160 => (z_g (z_in v2 17) (z_s (z_wi g160 13 (v2).toNatClampNeg r160) (fun g163 => (fX11_readWord_J164 v2 g163)))))))) else (fX11_readWord_J164 v2 g136)))) else (fX11_readWord_J164 v2 g)
def k83d (v2 v3 : Int32) (g : z_S) : Option (Unit × z_S) := z_loop (fX11_readWord_B86 k128d) zN (v2, v3, 0) g
theorem k128_F {g : z_S} {v : Int32} (h : ¬ g.1 0 16 = 0) : k128d v g = some ((), g) := by
  unfold k128d
  rw [if_neg h, m_J164F h]
theorem k83_F {g : z_S} {w first : Nat} (h : ¬ g.1 0 16 = 0) : k83d (nI w) (nI first) g = some ((), g) := by
  unfold k83d
  rw [m_agF h, k128_F h]
def RMp (w : Nat) (G : z_S) (s : PC) (q : Unit × z_S) : Prop := (s.1 ≠ 0 ∧ ∃ p' G', q.2 = flt s.1 s.2.1 (mt p' G') ∧ SN w G G') ∨ (s.1 = 0 ∧ ∃ G' G'', q.2 = mt s.2.2.1 G' ∧ SN w G G'' ∧ G' = z_wi G'' 0 22 (nI (w + 1)) ∧ TN s.2.2.2 (w + 1) G' ∧ G''.1 0 16 = 0 ∧ G''.1 0 17 = G.1 0 17)
theorem m_k128 {A B : aS} (hA : I_ok A) {g0 G G1 : z_S} (hM : R_M A g0) (hK : KN g0 G) {w i p : Nat} {r : Nat → Nat} (hw : w < 16) (hB : BOK A B w) (hT : TN B w G) (hi : i ≤ 8) (hp : p ≤ A 0 4) (hsp : sk A p = p) (s1 : SN w G G1) (h16 : G1.1 0 16 = 0) (h17 : G1.1 0 17 = G.1 0 17) (h12 : G1.1 12 w = nI i) (h13 : G1.1 13 w = 1) (h14 : G1.1 14 w = 0) (h11 : ∀ j, j < i → G1.1 11 (8 * w + j) = nI (r j)) : wp (k128d (nI w) (mt p G1)) (RMp w G (cls2 A B w i r (cst A p))) := by
  have hn : A 0 4 ≤ 200 := hA.1.2.2.2.2.2.1
  have hK1 := s1.K hK
  have m16 : ∀ p, (mt p G1).1 0 16 = 0 := fun p => by rw [mt_on (by decide)]; exact h16
  -- behind the cost
  have tail : ∀ p2 ct G2, p2 ≤ A 0 4 → SM 13 w G1 G2 → G2.1 13 w = nI ct → wp (fX11_readWord_J164 (nI w) (mt p2 G2)) (RMp w G (cls3 A B w i ct r (knd A (sk A p2)))) := by
    intro p2 ct G2 hp2 s2 k13
    have s3 : SN w G G2 := s1.tr (s2.SN (Or.inl rfl))
    have k16 : G2.1 0 16 = 0 := by rw [s2 0 16 (by omega)]; exact h16
    have k17 : G2.1 0 17 = G.1 0 17 := by rw [s2 0 17 (by omega)]; exact h17
    have hq2 := sk_le (A := A) hp2
    have hko := knd_ok (A := A) (p := sk A p2)
    refine m_J164 hA hM (s3.K hK) k16 hw hp2 rfl (by rw [s2 14 w (by omega)]; exact h14) ?_ ?_
    · intro hf p' G' s4
      unfold cls3
      rw [if_neg hf]
      exact Or.inl ⟨hf, p', G', rfl, s3.tr (s4.SN (Or.inr rfl))⟩
    · intro hf p' G' hp' hs' s4 k14
      obtain ⟨d1, d2, d3, d4⟩ := hko hf hq2 sk_sk
      have s5 : SN w G G' := s3.tr (s4.SN (Or.inr rfl))
      have hT' := hT.sn hB s5
      rw [m_J311 hA hM (s5.K hK) (by rw [s4 0 16 (by omega)]; exact k16) hp' hs' hT'.1]
      unfold cls3
      rw [if_pos hf]
      by_cases c : (knd A (sk A p2)).2.2.1 < A 0 4 ∧ A 10 (knd A (sk A p2)).2.2.1 = 59
      · rw [if_pos c, if_pos c]
        refine wp_some (Or.inr ⟨rfl, _, G', rfl, s5, rfl, ⟨by rw [p_at], ?_⟩, by rw [s4 0 16 (by omega)]; exact k16, by rw [s4 0 17 (by omega)]; exact k17⟩)
        intro v hv
        unfold TNr
        simp only []
        rw [put_1, put_2, put_3, p_off (by decide), p_off (by decide), p_off (by decide), p_off (by decide)]
        by_cases e : v = w
        · subst e
          rw [if_pos rfl, if_pos rfl, if_pos rfl]
          refine ⟨?_, ?_, k14, fun j hj => ?_⟩
          · rw [s4 12 v (by omega), s2 12 v (by omega)]; exact h12
          · rw [s4 13 v (by omega)]; exact k13
          · rw [put_4 (by omega), if_pos rfl, s4 11 _ (by omega), s2 11 _ (by omega)]; exact h11 j hj
        · rw [if_neg e, if_neg e, if_neg e]
          have h8 := (hB.2.1 v (by omega)).2.1
          obtain ⟨t1, t2, t3, t4⟩ := hT'.2 v (by omega)
          refine ⟨t1, t2, t3, fun j hj => ?_⟩
          rw [put_4 (by omega), if_neg e]; exact t4 j hj
      · rw [if_neg c, if_neg c]
        exact wp_some (Or.inl ⟨by show ¬ 1 = 0; omega, _, G', rfl, s5⟩)
  unfold k128d
  rw [if_pos (m16 p), m_hr hA hM hK1 hp, hsp, p_b]
  unfold cls2 cst
  by_cases c : p < A 0 4 ∧ A 10 p = 58
  · rw [if_pos ((hc_58 hA).mpr c), p_s, mt_at, p_addL, mt_mt, if_pos c]
    apply wp_b
    have q3 := sk_le (A := A) (p := p + 1) c.1
    refine m_tc hA hM hK1 h16 (by omega) rfl ?_ ?_ ?_
    · intro hd
      rw [if_pos hd]
      simp only []
      try simp (disch := omega) only [p_g, p_b, p_s, p_gin, p_gblt, p_eqL, p_leL, p_Lle, p_ltL, p_Llt, p_addL, p_subL, p_mulL, p_LmulL, p_eq, p_le, p_lt, p_add, p_sub, p_mul, p_clamp, if_pos, if_neg]
      rw [m_J164F (by rw [p_off (by decide)]; exact f0 (by omega) (by omega))]
      refine wp_some (Or.inl ⟨by show ¬ 1 = 0; omega, sk A (p + 1), z_wi G1 13 w 0, ?_, s1.tr (SN.w (by omega))⟩)
      exact flt_wi (by decide)
    · intro hd h2 v p'
      rw [if_neg hd, if_pos h2]
      simp only []
      try simp (disch := omega) only [p_g, p_b, p_s, p_gin, p_gblt, p_eqL, p_leL, p_Lle, p_ltL, p_Llt, p_addL, p_subL, p_mulL, p_LmulL, p_eq, p_le, p_lt, p_add, p_sub, p_mul, p_clamp, if_pos, if_neg]
      rw [m_J164F (by rw [p_off (by decide)]; exact f0 (by omega) (by omega))]
      refine wp_some (Or.inl ⟨by show ¬ 2 = 0; omega, p', z_wi G1 13 w v, ?_, s1.tr (SN.w (by omega))⟩)
      exact flt_wi (by decide)
    · intro hd h2
      rw [if_neg hd, if_neg h2]
      simp only []
      try simp (disch := omega) only [p_g, p_b, p_s, p_gin, p_gblt, p_eqL, p_leL, p_Lle, p_ltL, p_Llt, p_addL, p_subL, p_mulL, p_LmulL, p_eq, p_le, p_lt, p_add, p_sub, p_mul, p_clamp, if_pos, if_neg]
      rw [if_pos trivial, mt_wi (Or.inl (by decide))]
      exact tail _ _ _ (dg_le q3) SM.wo (by rw [p_at])
  · rw [if_neg (fun z => c ((hc_58 hA).mp z)), if_neg c]
    simp only []
    rw [if_pos trivial]
    have := tail p 1 G1 hp SM.rf (by rw [h13]; rfl)
    rw [hsp] at this
    exact this

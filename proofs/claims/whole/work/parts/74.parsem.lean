/-! reading THE TEXT: the reference -/
def mt (p : Nat) (g : z_S) : z_S := z_wi g 0 15 (nI p)
theorem mt_at {p : Nat} {g : z_S} : (mt p g).1 0 15 = nI p := p_at
theorem mt_off {p : Nat} {g : z_S} {o : Nat} (h : o ≠ 0) : (mt p g).1 o = g.1 o := p_off h
theorem mt_on {p : Nat} {g : z_S} {k : Nat} (h : k ≠ 15) : (mt p g).1 0 k = g.1 0 k := p_on h
theorem mt_mt {p q : Nat} {g : z_S} : z_wi (mt p g) 0 15 (nI q) = mt q g := wi_wi
theorem mt_wi {p : Nat} {g : z_S} {o k : Nat} {x : Int32} (h : o ≠ 0 ∨ k ≠ 15) : z_wi (mt p g) o k x = mt p (z_wi g o k x) := wi_comm (by omega)
def KN (g0 g : z_S) : Prop := (∀ o, (1 ≤ o ∧ o ≤ 10) ∨ 14 < o → g.1 o = g0.1 o) ∧ ∀ k, k ≠ 15 → k ≠ 16 → k ≠ 17 → k ≠ 22 → g.1 0 k = g0.1 0 k
def SN (w : Nat) (G G' : z_S) : Prop := ∀ o k, ¬ (o = 0 ∧ (k = 15 ∨ k = 16 ∨ k = 17)) → ¬ (o = 11 ∧ 8 * w ≤ k ∧ k < 8 * w + 8) → ¬ ((o = 12 ∨ o = 13 ∨ o = 14) ∧ k = w) → G'.1 o k = G.1 o k
theorem SN.rf {w : Nat} {G : z_S} : SN w G G := fun _ _ _ _ _ => rfl
theorem SN.tr {w : Nat} {G G' G'' : z_S} (h : SN w G G') (h' : SN w G' G'') : SN w G G'' := fun o k a b c => (h' o k a b c).trans (h o k a b c)
theorem SN.K {w : Nat} {g0 G G' : z_S} (h : SN w G G') (hK : KN g0 G) : KN g0 G' := by
  refine ⟨fun o ho => ?_, fun k h1 h2 h3 h4 => ?_⟩
  · rw [← hK.1 o ho]
    funext k
    exact h o k (by omega) (by omega) (by omega)
  · rw [← hK.2 k h1 h2 h3 h4]
    exact h 0 k (by omega) (by omega) (by omega)
theorem SN.w {w : Nat} {G : z_S} {o k : Nat} {x : Int32} (h : (o = 0 ∧ (k = 15 ∨ k = 16 ∨ k = 17)) ∨ (o = 11 ∧ 8 * w ≤ k ∧ k < 8 * w + 8) ∨ ((o = 12 ∨ o = 13 ∨ o = 14) ∧ k = w)) : SN w G (z_wi G o k x) := by
  intro a j h1 h2 h3
  rw [p_wi, if_neg]
  rintro ⟨rfl, rfl⟩
  omega
theorem SN.mt {w p : Nat} {G : z_S} : SN w G (mt p G) := SN.w (Or.inl ⟨rfl, Or.inl rfl⟩)
def TNr (B : aS) (G : z_S) (v : Nat) : Prop := G.1 12 v = nI (B 1 v) ∧ G.1 13 v = nI (B 2 v) ∧ G.1 14 v = nI (B 3 v) ∧ ∀ j, j < B 1 v → G.1 11 (8 * v + j) = nI (B 4 (8 * v + j))
def TN (B : aS) (w : Nat) (G : z_S) : Prop := G.1 0 22 = nI w ∧ ∀ v, v < w → TNr B G v
theorem TN.sn {A B : aS} {w : Nat} {G G' : z_S} (hB : BOK A B w) (h : TN B w G) (hs : SN w G G') : TN B w G' := by
  refine ⟨by rw [hs 0 22 (by omega) (by omega) (by omega)]; exact h.1, fun v hv => ?_⟩
  obtain ⟨a1, a2, a3, a4⟩ := h.2 v hv
  have h8 := (hB.2.1 v hv).2.1
  refine ⟨?_, ?_, ?_, fun j hj => ?_⟩
  · rw [hs 12 v (by omega) (by omega) (by omega)]; exact a1
  · rw [hs 13 v (by omega) (by omega) (by omega)]; exact a2
  · rw [hs 14 v (by omega) (by omega) (by omega)]; exact a3
  · rw [hs 11 _ (by omega) (by omega) (by omega)]; exact a4 j hj
theorem KN.t14 {A : aS} {g0 g : z_S} (hM : R_M A g0) (hK : KN g0 g) {p : Nat} : (mt p g).1 0 14 = nI (A 0 4) := by
  rw [mt_on (by decide), hK.2 14 (by omega) (by omega) (by omega) (by omega)]; exact hM.1.2.2.2.2.1
theorem KN.t10 {A : aS} {g0 g : z_S} (hM : R_M A g0) (hK : KN g0 g) {p i : Nat} (hi : i < A 0 4) : (mt p g).1 10 i = nI (A 10 i) := by
  rw [mt_off (by decide), hK.1 10 (by omega)]; exact hM.2.2.2.2.2.2 i hi
theorem m_hrL {A : aS} (hA : I_ok A) {g0 g : z_S} (hM : R_M A g0) (hK : KN g0 g) {p : Nat} (hp : p ≤ A 0 4) : z_loop (fX11_here_B0 (fun (g : z_S) => if g.1 0 14 ≤ g.1 0 15 then (some ((-1), g)) else (z_g (z_in (g.1 0 15) 200) (some (g.1 10 (g.1 0 15).toNatClampNeg, g))))) zN () (mt p g) = some (hr A (sk A p), mt (sk A p) g) := by
  have hn : A 0 4 ≤ 200 := hA.1.2.2.2.2.2.1
  refine p_loop (P := fun _ g' => ∃ q, q ≤ A 0 4 ∧ g' = mt q g ∧ sk A q = sk A p) (μ := fun _ g' => A 0 4 - (g'.1 0 15).toNatClampNeg) ?_ zN _ _ ⟨p, hp, rfl, rfl⟩ (by rw [p_zN]; omega)
  rintro rc a g' ⟨q, hq, rfl, e⟩ ih
  simp only [fX11_here_B0]
  rw [mt_at, hK.t14 hM]
  try simp (disch := omega) only [p_g, p_b, p_s, p_gin, p_gblt, p_eqL, p_leL, p_Lle, p_ltL, p_Llt, p_addL, p_subL, p_mulL, p_LmulL, p_eq, p_le, p_lt, p_add, p_sub, p_mul, p_clamp, if_pos, if_neg]
  by_cases h : A 0 4 ≤ q
  · rw [if_pos h, ← e, sk_e h]
    unfold hr
    rw [if_neg (by omega)]
  · rw [if_neg h, hK.t10 hM (by omega)]
    have hb := hA.2.2.2.2.2.2.1 q (by omega)
    try simp (disch := omega) only [p_g, p_b, p_s, p_gin, p_gblt, p_eqL, p_leL, p_Lle, p_ltL, p_Llt, p_addL, p_subL, p_mulL, p_LmulL, p_eq, p_le, p_lt, p_add, p_sub, p_mul, p_clamp, if_pos, if_neg]
    by_cases h32 : A 10 q = 32
    · rw [if_pos h32, mt_mt]
      refine ih _ _ ⟨q + 1, by omega, rfl, by rw [← sk_s (by omega) h32]; exact e⟩ ?_
      rw [mt_at, mt_at, p_clamp (by omega), p_clamp (by omega)]
      omega
    · rw [if_neg h32, ← e, sk_n (by omega) h32]
      unfold hr
      rw [if_pos (by omega)]
theorem m_hr {A : aS} (hA : I_ok A) {g0 g : z_S} (hM : R_M A g0) (hK : KN g0 g) {p : Nat} (hp : p ≤ A 0 4) : fX11_here (mt p g) = some (hr A (sk A p), mt (sk A p) g) := by
  have hn : A 0 4 ≤ 200 := hA.1.2.2.2.2.2.1
  unfold fX11_here
  rw [mt_at, hK.t14 hM]
  try simp (disch := omega) only [p_g, p_b, p_s, p_gin, p_gblt, p_eqL, p_leL, p_Lle, p_ltL, p_Llt, p_addL, p_subL, p_mulL, p_LmulL, p_eq, p_le, p_lt, p_add, p_sub, p_mul, p_clamp, if_pos, if_neg]
  by_cases h : A 0 4 ≤ p
  · rw [if_pos h, sk_e h]
    unfold hr
    rw [if_neg (by omega)]
  · rw [if_neg h, hK.t10 hM (by omega)]
    have hb := hA.2.2.2.2.2.2.1 p (by omega)
    try simp (disch := omega) only [p_g, p_b, p_s, p_gin, p_gblt, p_eqL, p_leL, p_Lle, p_ltL, p_Llt, p_addL, p_subL, p_mulL, p_LmulL, p_eq, p_le, p_lt, p_add, p_sub, p_mul, p_clamp, if_pos, if_neg]
    by_cases h32 : A 10 p = 32
    · rw [if_pos h32, mt_mt, m_hrL hA hM hK (by omega), sk_s (by omega) h32]
    · rw [if_neg h32, sk_n (by omega) h32]
      unfold hr
      rw [if_pos (by omega)]
theorem m_isl {A : aS} (hA : I_ok A) {p : Nat} {g : z_S} : fX11_in (hr A p).toInt64 97 104 g = some (if isl A p then 1 else 0, g) := by
  rw [m_ini]
  have e1 : (97 : Int64).toInt = 97 := rfl
  have e2 : (104 : Int64).toInt = 104 := rfl
  rw [e1, e2]
  unfold hr
  by_cases h : p < A 0 4
  · have := hA.2.2.2.2.2.2.1 p h
    rw [if_pos h, p_toInt (by omega)]
    by_cases c : isl A p
    · rw [if_pos c, if_pos ⟨by have := c.2.1; omega, by have := c.2.2; omega⟩]
    · rw [if_neg c, if_neg (fun q => c ⟨h, by omega, by omega⟩)]
  · have e : (-1 : Int32).toInt = -1 := rfl
    rw [if_neg h, e, if_neg (by omega), if_neg (fun q => h q.1)]
theorem m_isf {A : aS} (hA : I_ok A) {p : Nat} {g : z_S} : fX11_in (hr A p).toInt64 48 57 g = some (if isf A p then 1 else 0, g) := by
  rw [m_ini]
  have e1 : (48 : Int64).toInt = 48 := rfl
  have e2 : (57 : Int64).toInt = 57 := rfl
  rw [e1, e2]
  unfold hr
  by_cases h : p < A 0 4
  · have := hA.2.2.2.2.2.2.1 p h
    rw [if_pos h, p_toInt (by omega)]
    by_cases c : isf A p
    · rw [if_pos c, if_pos ⟨by have := c.2.1; omega, by have := c.2.2; omega⟩]
    · rw [if_neg c, if_neg (fun q => c ⟨h, by omega, by omega⟩)]
  · have e : (-1 : Int32).toInt = -1 := rfl
    rw [if_neg h, e, if_neg (by omega), if_neg (fun q => h q.1)]
def flt (f pl : Nat) (g : z_S) : z_S := z_wi (z_wi g 0 16 (nI f)) 0 17 (nI pl)
theorem flt_f {f pl : Nat} {g : z_S} : (flt f pl g).1 0 16 = nI f := by unfold flt; rw [p_on (by decide), p_at]
theorem flt_p {f pl : Nat} {g : z_S} : (flt f pl g).1 0 17 = nI pl := by unfold flt; rw [p_at]
theorem SN.flt {w f pl : Nat} {G : z_S} : SN w G (flt f pl G) := (SN.w (Or.inl ⟨rfl, Or.inr (Or.inl rfl)⟩)).tr (SN.w (Or.inl ⟨rfl, Or.inr (Or.inr rfl)⟩))
theorem m_w1 {g : z_S} (h : g.1 0 16 = 0) (f v : Int32) : fX11_want 1 f v g = some (1, g) := by
  unfold fX11_want fX11_want_J21
  rw [if_neg n10, if_pos h]
theorem m_w0 {g : z_S} (h : g.1 0 16 = 0) {f v : Nat} (hf : f < 100) (h0 : f ≠ 0) : fX11_want 0 (nI f) (nI v) g = some (0, flt f v g) := by
  unfold fX11_want fX11_want_J21
  rw [if_pos rfl, if_pos h, p_s, p_s, p_on (by decide), p_at, if_neg (nI0 (by omega) h0)]
  rfl
theorem m_J147 {f pl : Nat} {g : z_S} (hf : f < 100) (h0 : f ≠ 0) : fX11_takeLetter_J147 (flt f pl g) = some (0, flt f pl g) := by
  unfold fX11_takeLetter_J147
  rw [flt_f, if_neg (nI0 (by omega) h0)]
theorem m_tl {A : aS} (hA : I_ok A) {g0 G : z_S} (hM : R_M A g0) (hK : KN g0 G) (h16 : G.1 0 16 = 0) {w i p : Nat} (hw : w ≤ 16) (hi : i ≤ 8) (hp : p ≤ A 0 4) (hsp : sk A p = p) (h12 : G.1 12 w = nI i) : fX11_takeLetter (nI w) (mt p G) = if isl A p then (if A 0 0 ≤ A 10 p - 97 then some (0, flt 2 p (mt p G)) else if 16 ≤ w then some (0, flt 5 p (mt p G)) else if 8 ≤ i then some (0, flt 3 p (mt p G)) else some (1, mt (p + 1) (z_wi (z_wi G 11 (8 * w + i) (nI (A 10 p - 97))) 12 w (nI (i + 1))))) else some (0, flt 1 p (mt p G)) := by
  have hn : A 0 4 ≤ 200 := hA.1.2.2.2.2.2.1
  have hk8 := hA.1.2.1
  have m16 : (mt p G).1 0 16 = 0 := by rw [mt_on (by decide)]; exact h16
  unfold fX11_takeLetter
  rw [m_hr hA hM hK hp, hsp, p_b, m_isl hA, p_b, mt_at]
  by_cases c : isl A p
  · rw [if_pos c, if_pos c, m_w1 m16, p_b, if_neg n10, mt_on (by decide), hK.2 0 (by omega) (by omega) (by omega) (by omega), hM.1.1, show hr A p = nI (A 10 p) from if_pos c.1]
    have := c.2.1
    have := c.2.2
    try simp (disch := omega) only [p_g, p_b, p_s, p_gin, p_gblt, p_eqL, p_leL, p_Lle, p_ltL, p_Llt, p_addL, p_subL, p_mulL, p_LmulL, p_eq, p_le, p_lt, p_add, p_sub, p_mul, p_clamp, if_pos, if_neg]
    unfold fX11_takeLetter_J45
    by_cases c1 : A 0 0 ≤ A 10 p - 97
    · rw [if_pos c1, if_pos c1, mt_at]
      have := m_w0 m16 (f := 2) (v := p) (by omega) (by omega)
      rw [show (nI 2 : Int32) = 2 from rfl] at this
      rw [this, p_b, if_pos rfl, m_J147 (by omega) (by omega)]
    · rw [if_neg c1, if_neg c1, m_w1 m16, p_b, if_neg n10]
      unfold fX11_takeLetter_J68
      try simp (disch := omega) only [p_g, p_b, p_s, p_gin, p_gblt, p_eqL, p_leL, p_Lle, p_ltL, p_Llt, p_addL, p_subL, p_mulL, p_LmulL, p_eq, p_le, p_lt, p_add, p_sub, p_mul, p_clamp, if_pos, if_neg]
      by_cases c2 : 16 ≤ w
      · rw [if_pos c2, if_pos c2, mt_at]
        have := m_w0 m16 (f := 5) (v := p) (by omega) (by omega)
        rw [show (nI 5 : Int32) = 5 from rfl] at this
        rw [this, p_b, if_pos rfl, m_J147 (by omega) (by omega)]
      · rw [if_neg c2, if_neg c2, m_w1 m16, p_b, if_neg n10, mt_off (by decide), h12]
        try simp (disch := omega) only [p_g, p_b, p_s, p_gin, p_gblt, p_eqL, p_leL, p_Lle, p_ltL, p_Llt, p_addL, p_subL, p_mulL, p_LmulL, p_eq, p_le, p_lt, p_add, p_sub, p_mul, p_clamp, if_pos, if_neg]
        unfold fX11_takeLetter_J96
        by_cases c3 : 8 ≤ i
        · rw [if_pos c3, if_pos c3, mt_at]
          have := m_w0 m16 (f := 3) (v := p) (by omega) (by omega)
          rw [show (nI 3 : Int32) = 3 from rfl] at this
          rw [this, p_b, if_pos rfl, m_J147 (by omega) (by omega)]
        · rw [if_neg c3, if_neg c3, m_w1 m16, p_b, if_neg n10, mt_off (by decide), p_clamp (n := w) (by omega), h12]
          try simp (disch := omega) only [p_g, p_b, p_s, p_gin, p_gblt, p_eqL, p_leL, p_Lle, p_ltL, p_Llt, p_addL, p_subL, p_mulL, p_LmulL, p_eq, p_le, p_lt, p_add, p_sub, p_mul, p_clamp, if_pos, if_neg]
          rw [mt_wi (Or.inl (by decide)), mt_off (by decide), p_off (by decide), h12, mt_wi (Or.inl (by decide)), mt_at]
          try simp (disch := omega) only [p_g, p_b, p_s, p_gin, p_gblt, p_eqL, p_leL, p_Lle, p_ltL, p_Llt, p_addL, p_subL, p_mulL, p_LmulL, p_eq, p_le, p_lt, p_add, p_sub, p_mul, p_clamp, if_pos, if_neg]
          rw [mt_mt]
          unfold fX11_takeLetter_J147
          rw [mt_on (by decide), p_off (by decide), p_off (by decide), if_pos h16]
  · rw [if_neg c, if_neg c]
    have := m_w0 m16 (f := 1) (v := p) (by omega) (by omega)
    rw [show (nI 1 : Int32) = 1 from rfl] at this
    rw [this, p_b, if_pos rfl, m_J147 (by omega) (by omega)]
/-- letters, one behind the other -/
theorem m_lts {A : aS} (hA : I_ok A) {g0 : z_S} (hM : R_M A g0) {G : z_S} (hK : KN g0 G) {w first p0 i0 : Nat} (hw : w < 16) (hp0 : p0 ≤ A 0 4) (hi0 : i0 ≤ 8) {r0 : Nat → Nat} {s : PR} (hs : ltr A w first (9 - i0) (sk A p0) i0 r0 = s) (h16 : G.1 0 16 = 0) (h12 : G.1 12 w = nI i0) (hr0 : ∀ j, j < i0 → G.1 11 (8 * w + j) = nI (r0 j)) (h14 : G.1 13 w = 1 ∧ G.1 14 w = 0) {Q : Unit × z_S → Prop} {k83 : Int32 → Int32 → z_S → Option (Unit × z_S)}
    (hF : ∀ G' p', s.1 ≠ 0 → SN w G G' → wp (k83 (nI w) (nI first) (flt s.1 s.2.1 (mt p' G'))) Q) (hG : s.1 = 0 → ∀ G', SN w G G' → G'.1 0 16 = 0 → G'.1 0 17 = G.1 0 17 → G'.1 12 w = nI s.2.2.2.1 → (G'.1 13 w = 1 ∧ G'.1 14 w = 0) → (∀ j, j < s.2.2.2.1 → G'.1 11 (8 * w + j) = nI (s.2.2.2.2 j)) → wp (k83 (nI w) (nI first) (mt s.2.2.1 G')) Q) : wp (z_loop (fX11_readWord_B43 k83) zN (nI w, nI first, 1) (mt p0 G)) Q := by
  have hn : A 0 4 ≤ 200 := hA.1.2.2.2.2.2.1
  have hk8 := hA.1.2.1
  refine wp_loopN (P := fun m a g' => (m = 0 ∧ a = (nI w, nI first, 0) ∧ wp (k83 (nI w) (nI first) g') Q) ∨ (∃ p i r G1, m = 10 - i ∧ i ≤ 8 ∧ p ≤ A 0 4 ∧ a = (nI w, nI first, 1) ∧ g' = mt p G1 ∧ SN w G G1 ∧ G1.1 0 16 = 0 ∧ G1.1 0 17 = G.1 0 17 ∧ G1.1 12 w = nI i ∧ (G1.1 13 w = 1 ∧ G1.1 14 w = 0) ∧ (∀ j, j < i → G1.1 11 (8 * w + j) = nI (r j)) ∧ ltr A w first (9 - i) (sk A p) i r = s)) ?_ zN (10 - i0) _ _ (Or.inr ⟨p0, i0, r0, G, rfl, hi0, hp0, rfl, rfl, SN.rf, h16, rfl, h12, h14, hr0, hs⟩) (by rw [p_zN]; omega)
  rintro rc m a g' (⟨rfl, rfl, h⟩ | ⟨p, i, r, G1, rfl, hi, hp, rfl, rfl, e1, e2, e17, e3, e4, e5, e6⟩) ih
  · simp only [fX11_readWord_B43]
    rw [if_pos trivial]
    exact h
  · have hK1 := e1.K hK
    obtain ⟨t, ht⟩ : ∃ t, 9 - i = t + 1 := ⟨8 - i, by omega⟩
    have e6' := e6
    rw [ht, ltr] at e6
    simp only [fX11_readWord_B43]
    rw [if_neg n10, m_hr hA hM hK1 hp, p_b, m_isl hA, p_b]
    have hq := sk_le (A := A) hp
    generalize hqq : sk A p = q at *
    have hqs : sk A q = q := by rw [← hqq, sk_sk]
    by_cases c : isl A q
    · rw [if_pos c] at e6
      rw [if_pos c, if_neg n10, m_tl hA hM hK1 e2 (by omega) hi hq hqs e3, if_pos c]
      by_cases c1 : A 0 0 ≤ A 10 q - 97
      · rw [if_pos c1] at e6
        rw [if_pos c1, p_b, if_pos rfl]
        subst e6
        exact ih 0 _ _ (Or.inl ⟨rfl, rfl, hF G1 q (by show ¬ 2 = 0; omega) e1⟩) (by omega)
      rw [if_neg c1] at e6
      rw [if_neg (by omega)] at e6
      rw [if_neg c1, if_neg (by omega)]
      by_cases c3 : 8 ≤ i
      · rw [if_pos c3] at e6
        rw [if_pos c3, p_b, if_pos rfl]
        subst e6
        exact ih 0 _ _ (Or.inl ⟨rfl, rfl, hF G1 q (by show ¬ 3 = 0; omega) e1⟩) (by omega)
      rw [if_neg c3] at e6
      rw [if_neg c3, p_b, if_neg n10]
      have hq1 : q + 1 ≤ A 0 4 := c.1
      refine ih (10 - (i + 1)) _ _ (Or.inr ⟨q + 1, i + 1, up r i (A 10 q - 97), _, rfl, by omega, hq1, rfl, rfl, (e1.tr (SN.w (by omega))).tr (SN.w (by omega)), ?_, ?_, by rw [p_at], ?_, ?_, by rw [show 9 - (i + 1) = t by omega]; exact e6⟩) (by omega)
      · rw [p_off (by decide), p_off (by decide)]; exact e2
      · rw [p_off (by decide), p_off (by decide)]; exact e17
      · rw [p_off (by decide), p_off (by decide), p_off (by decide), p_off (by decide)]; exact e4
      · intro j hj
        rw [p_off (by decide)]
        unfold up
        by_cases z : j = i
        · subst z; rw [p_at, if_pos rfl]
        · rw [p_on (by omega), if_neg z]; exact e5 j (by omega)
    · rw [if_neg c] at e6
      rw [if_neg c, if_pos rfl]
      subst e6
      exact ih 0 _ _ (Or.inl ⟨rfl, rfl, hG rfl G1 e1 e2 e17 e3 e4 e5⟩) (by omega)
theorem m_like {g : z_S} {v w l i : Nat} {a r : Nat → Nat} (hv : v < 16) (hw : w < 16) (hl : l ≤ 8) (hi : i ≤ 8) (h1 : g.1 12 v = nI l) (h2 : g.1 12 w = nI i) (h3 : ∀ j, j < l → g.1 11 (8 * v + j) = nI (a j)) (h4 : ∀ j, j < i → g.1 11 (8 * w + j) = nI (r j)) (h5 : ∀ j, j < l → a j < 256) (h6 : ∀ j, j < i → r j < 256) : fX11_isNewLike (nI v) (nI w) g = some (nI (ci (l = i ∧ ∀ j, j < i → a j = r j)), g) := by
  generalize hT : ci (l = i ∧ ∀ j, j < i → a j = r j) = T
  unfold fX11_isNewLike
  try simp (disch := omega) only [p_g, p_b, p_s, p_gin, p_gblt, p_eqL, p_leL, p_Lle, p_ltL, p_Llt, p_addL, p_subL, p_mulL, p_LmulL, p_eq, p_le, p_lt, p_add, p_sub, p_mul, p_clamp, if_pos, if_neg]
  rw [h1, h2]
  try simp (disch := omega) only [p_g, p_b, p_s, p_gin, p_gblt, p_eqL, p_leL, p_Lle, p_ltL, p_Llt, p_addL, p_subL, p_mulL, p_LmulL, p_eq, p_le, p_lt, p_add, p_sub, p_mul, p_clamp, if_pos, if_neg]
  have g1 : ((1 : Int32) &&& 1 == 1) = true := by decide
  have g0 : ((0 : Int32) &&& 1 == 0) = true := by decide
  have hz : ∀ j, j ≤ i → ¬ (l = i ∧ ∀ j, j < i → a j = r j) → z_loop fX11_isNewLike_B24 zN (nI v, nI w, 0, nI j) g = some (nI T, g) := by
    intro j hj hno
    show fX11_isNewLike_B24 (z_loop fX11_isNewLike_B24 999999) (nI v, nI w, 0, nI j) g = _
    simp only [fX11_isNewLike_B24]
    try simp (disch := omega) only [p_g, p_b, p_s, p_gin, p_gblt, p_eqL, p_leL, p_Lle, p_ltL, p_Llt, p_addL, p_subL, p_mulL, p_LmulL, p_eq, p_le, p_lt, p_add, p_sub, p_mul, p_clamp, if_pos, if_neg]
    rw [h2, ← hT, ci_f hno]
    try simp (disch := omega) only [p_g, p_b, p_s, p_gin, p_gblt, p_eqL, p_leL, p_Lle, p_ltL, p_Llt, p_addL, p_subL, p_mulL, p_LmulL, p_eq, p_le, p_lt, p_add, p_sub, p_mul, p_clamp, if_pos, if_neg]
    rw [g0]
    split <;> rfl
  by_cases c : l = i
  · subst c
    rw [if_pos rfl]
    refine p_loop (P := fun s g' => ∃ j b, j ≤ l ∧ s = (nI v, nI w, nI b, nI j) ∧ g' = g ∧ ((b = 1 ∧ ∀ q, q < j → a q = r q) ∨ (b = 0 ∧ ¬ (l = l ∧ ∀ j, j < l → a j = r j)))) (μ := fun s _ => l - s.2.2.2.toNatClampNeg) ?_ zN _ _ ⟨0, 1, by omega, rfl, rfl, Or.inl ⟨rfl, fun q h => by omega⟩⟩ (by show l - _ < zN; rw [p_zN]; omega)
    rintro rc s g' ⟨j, b, hj, rfl, rfl, e⟩ ih
    simp only [fX11_isNewLike_B24]
    try simp (disch := omega) only [p_g, p_b, p_s, p_gin, p_gblt, p_eqL, p_leL, p_Lle, p_ltL, p_Llt, p_addL, p_subL, p_mulL, p_LmulL, p_eq, p_le, p_lt, p_add, p_sub, p_mul, p_clamp, if_pos, if_neg]
    rw [h2]
    try simp (disch := omega) only [p_g, p_b, p_s, p_gin, p_gblt, p_eqL, p_leL, p_Lle, p_ltL, p_Llt, p_addL, p_subL, p_mulL, p_LmulL, p_eq, p_le, p_lt, p_add, p_sub, p_mul, p_clamp, if_pos, if_neg]
    rcases e with ⟨rfl, e⟩ | ⟨rfl, e⟩
    · by_cases hlt : l ≤ j
      · rw [if_pos hlt, show ((nI 1) &&& 1 == nI 1) = true from g1, ← hT, ci_t ⟨rfl, fun q hq => e q (by omega)⟩]; rfl
      · have a5 := h5 j (by omega)
        have a6 := h6 j (by omega)
        rw [if_neg hlt, if_neg (by decide), h3 j (by omega), h4 j (by omega)]
        try simp (disch := omega) only [p_g, p_b, p_s, p_gin, p_gblt, p_eqL, p_leL, p_Lle, p_ltL, p_Llt, p_addL, p_subL, p_mulL, p_LmulL, p_eq, p_le, p_lt, p_add, p_sub, p_mul, p_clamp, if_pos, if_neg]
        by_cases he : a j = r j
        · rw [if_pos he]
          refine ih _ _ ⟨j + 1, 1, by omega, rfl, rfl, Or.inl ⟨rfl, fun q hq => ?_⟩⟩ ?_
          · by_cases z : q = j
            · subst z; exact he
            · exact e q (by omega)
          · show _ - (nI (_ + 1)).toNatClampNeg < _ - (nI _).toNatClampNeg
            rw [p_clamp (by omega), p_clamp (by omega)]
            omega
        · rw [if_neg he]
          refine ih _ _ ⟨j + 1, 0, by omega, rfl, rfl, Or.inr ⟨rfl, fun h => he (h.2 j (by omega))⟩⟩ ?_
          show _ - (nI (_ + 1)).toNatClampNeg < _ - (nI _).toNatClampNeg
          rw [p_clamp (by omega), p_clamp (by omega)]
          omega
    · rw [← hT, ci_f e, show ((nI 0) &&& 1 == nI 0) = true from g0]
      split
      · rfl
      · rw [if_pos rfl]; rfl
  · rw [if_neg c]
    exact hz 0 (by omega) (fun h => c h.1)
theorem m_again {A B : aS} (hA : I_ok A) {G : z_S} {w i first p : Nat} {r : Nat → Nat} (hw : w < 16) (hB : BOK A B w) (hT : TN B w G) (hi : i ≤ 8) (h16 : G.1 0 16 = 0) (h2 : G.1 12 w = nI i) (h4 : ∀ j, j < i → G.1 11 (8 * w + j) = nI (r j)) (h6 : ∀ j, j < i → r j < 256) {Q : Unit × z_S → Prop} {k128 : Int32 → z_S → Option (Unit × z_S)} (hF : agn B w i r → wp (k128 (nI w) (flt 4 first (mt p G))) Q) (hG : ¬ agn B w i r → wp (k128 (nI w) (mt p G)) Q) : wp (z_loop (fX11_readWord_B86 k128) zN (nI w, nI first, 0) (mt p G)) Q := by
  have hk8 := hA.1.2.1
  have m16 : (mt p G).1 0 16 = 0 := by rw [mt_on (by decide)]; exact h16
  refine wp_loop (P := fun s g' => ∃ v, v ≤ w ∧ s = (nI w, nI first, nI v) ∧ ((g' = mt p G ∧ ∀ u, u < v → ¬ (B 1 u = i ∧ ∀ j, j < i → B 4 (8 * u + j) = r j)) ∨ (g' = flt 4 first (mt p G) ∧ agn B w i r))) (μ := fun s _ => w - s.2.2.toNatClampNeg) ?_ zN _ _ ⟨0, by omega, rfl, Or.inl ⟨rfl, fun q h => by omega⟩⟩ (by show w - _ < zN; rw [p_zN]; omega)
  rintro rc s g' ⟨v, hv, rfl, e⟩ ih
  simp only [fX11_readWord_B86]
  try simp (disch := omega) only [p_g, p_b, p_s, p_gin, p_gblt, p_eqL, p_leL, p_Lle, p_ltL, p_Llt, p_addL, p_subL, p_mulL, p_LmulL, p_eq, p_le, p_lt, p_add, p_sub, p_mul, p_clamp, if_pos, if_neg]
  rcases e with ⟨rfl, e⟩ | ⟨rfl, e⟩
  · by_cases hlt : w ≤ v
    · rw [if_pos hlt]
      refine hG ?_
      rintro ⟨u, q1, q2⟩
      exact e u (by omega) q2
    · have hv' : v < w := by omega
      obtain ⟨b1, b2, b3, b4, b5⟩ := hB.2.1 v hv'
      obtain ⟨t1, t2, t3, t4⟩ := hT.2 v hv'
      rw [if_neg hlt, if_pos m16, m_like (g := mt p G) (v := v) (w := w) (l := B 1 v) (i := i) (a := fun j => B 4 (8 * v + j)) (r := r) (by omega) hw b2 hi (by rw [mt_off (by decide)]; exact t1) (by rw [mt_off (by decide)]; exact h2) (fun j hj => by rw [mt_off (by decide)]; exact t4 j hj) (fun j hj => by rw [mt_off (by decide)]; exact h4 j hj) (fun j hj => by have := b5 j hj; show B 4 (8 * v + j) < 256; omega) h6, p_b]
      unfold fX11_readWord_J115
      by_cases c : B 1 v = i ∧ ∀ j, j < i → B 4 (8 * v + j) = r j
      · rw [ci_t c, if_neg nI10]
        have := m_w0 m16 (f := 4) (v := first) (by omega) (by omega)
        rw [show (nI 4 : Int32) = 4 from rfl] at this
        rw [this, p_b, p_addL]
        refine ih _ _ ⟨v + 1, by omega, rfl, Or.inr ⟨rfl, v, hv', c⟩⟩ ?_
        show _ - (nI (_ + 1)).toNatClampNeg < _ - (nI _).toNatClampNeg
        rw [p_clamp (by omega), p_clamp (by omega)]
        omega
      · rw [ci_f c, if_pos nI00, m_w1 m16, p_b, p_addL]
        refine ih _ _ ⟨v + 1, by omega, rfl, Or.inl ⟨rfl, fun u hu => ?_⟩⟩ ?_
        · by_cases z : u = v
          · subst z; exact c
          · exact e u (by omega)
        · show _ - (nI (_ + 1)).toNatClampNeg < _ - (nI _).toNatClampNeg
          rw [p_clamp (by omega), p_clamp (by omega)]
          omega
  · rw [flt_f, if_neg (show ¬ nI 4 = 0 by decide)]
    split
    · exact hF e
    · exact hF e
theorem m_agF {g : z_S} {w first : Nat} (h : ¬ g.1 0 16 = 0) {k128 : Int32 → z_S → Option (Unit × z_S)} : z_loop (fX11_readWord_B86 k128) zN (nI w, nI first, 0) g = k128 (nI w) g := by
  show fX11_readWord_B86 k128 (z_loop (fX11_readWord_B86 k128) 999999) (nI w, nI first, 0) g = _
  simp only [fX11_readWord_B86]
  rw [if_neg h]
  split <;> rfl

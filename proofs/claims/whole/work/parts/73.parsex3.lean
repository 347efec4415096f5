/-! reading THE TEXT: the class, as a whole -/
theorem ltr_p {A : aS} {w first : Nat} (hf : first ≤ A 0 4) : ∀ t p i r, p ≤ A 0 4 → (ltr A w first t p i r).2.1 ≤ A 0 4
  | 0, p, _, _, _ => by show 0 ≤ A 0 4; omega
  | t + 1, p, i, r, hp => by
    rw [ltr]
    by_cases c : isl A p
    · rw [if_pos c]
      by_cases c1 : A 0 0 ≤ A 10 p - 97
      · rw [if_pos c1]; exact hp
      rw [if_neg c1]
      by_cases c2 : 16 ≤ w
      · rw [if_pos c2]; exact hf
      rw [if_neg c2]
      by_cases c3 : 8 ≤ i
      · rw [if_pos c3]; exact hp
      rw [if_neg c3]
      exact ltr_p hf t _ _ _ (sk_le c.1)
    · rw [if_neg c]; show 0 ≤ A 0 4; omega
theorem cst_p {A : aS} {p : Nat} : (cst A p).2.1 ≤ A 0 4 := by
  unfold cst
  by_cases c : p < A 0 4 ∧ A 10 p = 58
  · rw [if_pos c]
    have := sk_le (A := A) (p := p + 1) c.1
    split
    · exact this
    · split
      · exact this
      · show 0 ≤ A 0 4; omega
  · rw [if_neg c]; show 0 ≤ A 0 4; omega
theorem knd_p {A : aS} {p : Nat} : (knd A p).2.1 ≤ A 0 4 := by
  unfold knd
  by_cases c : p < A 0 4 ∧ A 10 p = 47
  · rw [if_pos c]
    have := sk_le (A := A) (p := p + 1) c.1
    split
    · exact this
    · split
      · exact this
      · show 0 ≤ A 0 4; omega
  · rw [if_neg c]; show 0 ≤ A 0 4; omega
theorem cls_f {A B : aS} {w p : Nat} (hp : p ≤ A 0 4) (hs : sk A p = p) : (cls A B w p).1 ≤ 5 ∧ (cls A B w p).2.1 ≤ A 0 4 := by
  unfold cls
  by_cases c : isl A p
  · rw [if_pos c]
    have hok := ltr_ok (A := A) (w := w) (first := p) 9 p 0 (fun _ => 0)
    have hlf := ltr_f (A := A) (w := w) (first := p) 9 p 0 (fun _ => 0)
    have hlp := ltr_p (A := A) (w := w) hp 9 p 0 (fun _ => 0) hp
    generalize ltr A w p 9 p 0 (fun _ => 0) = s at *
    unfold cls1
    by_cases c1 : s.1 = 0
    · rw [if_pos c1]
      obtain ⟨⟨a1, a2⟩, -, -, -, a6, -⟩ := hok c1 hp (by omega) (fun j hj => by omega)
      have a6 := a6 hs
      by_cases c2 : agn B w s.2.2.2.1 s.2.2.2.2
      · rw [cit_t c2]; exact ⟨by show 4 ≤ 5; omega, hp⟩
      rw [cit_f c2]
      have hco := cst_ok (A := A) (p := s.2.2.1)
      have hcf := cst_f (A := A) (p := s.2.2.1)
      have hcp := cst_p (A := A) (p := s.2.2.1)
      generalize cst A s.2.2.1 = t at *
      unfold cls2
      by_cases c3 : t.1 = 0
      · rw [if_pos c3]
        obtain ⟨b1, b2, b3, b4⟩ := hco c3 a2 a6
        have hko := knd_ok (A := A) (p := t.2.2.1)
        have hkf := knd_f (A := A) (p := t.2.2.1)
        have hkp := knd_p (A := A) (p := t.2.2.1)
        generalize knd A t.2.2.1 = u at *
        unfold cls3
        by_cases c4 : u.1 = 0
        · rw [if_pos c4]
          obtain ⟨d1, d2, d3, d4⟩ := hko c4 b2 b3
          split
          · exact ⟨by show 0 ≤ 5; omega, by show 0 ≤ A 0 4; omega⟩
          · exact ⟨by show 1 ≤ 5; omega, d2⟩
        · rw [if_neg c4]; exact ⟨by show u.1 ≤ 5; omega, hkp⟩
      · rw [if_neg c3]; exact ⟨by show t.1 ≤ 5; omega, hcp⟩
    · rw [if_neg c1]; exact ⟨hlf, hlp⟩
  · rw [if_neg c]; exact ⟨by show 1 ≤ 5; omega, hp⟩
theorem TW.st {B : aS} {w p : Nat} {G : z_S} (h : TW B w G) : TW B w (st p G) := by
  refine ⟨by rw [st_off (by decide)]; exact h.1, fun v hv => ?_⟩
  unfold TWr
  rw [st_off (by decide), st_off (by decide), st_off (by decide), st_off (by decide)]
  exact h.2 v hv
theorem KX.st {g0 G : z_S} {p : Nat} (h : KX g0 G) : KX g0 (st p G) := fun o ho => by rw [st_off (by omega)]; exact h o ho
/-- the end of a reading -/
def EX (A : aS) (g0 : z_S) (s : PC) (q : Int32 × z_S) : Prop := KX g0 q.2 ∧ ((s.1 ≠ 0 ∧ s.1 ≤ 5 ∧ s.2.1 ≤ 200 ∧ q.1 = nI s.1 ∧ q.2.1 13 1 = nI s.2.1) ∨ (s.1 = 0 ∧ q.1 = 0 ∧ q.2.1 13 1 = -1 ∧ BOK A s.2.2.2 s.2.2.1 ∧ TW s.2.2.2 s.2.2.1 q.2))
theorem x_parse {A : aS} (hA : I_ok A) {g : z_S} (hX : R_X A g) {s : PC} (hs : prs A 17 0 (sk A 0) (fun _ _ => 0) = s) : wp (fX0_parse g) (EX A g s) := by
  have hn : A 0 4 ≤ 200 := hA.1.2.2.2.2.2.1
  unfold fX0_parse
  rw [p_s, p_s, p_s]
  have e0 : z_wi (z_wi (z_wi g 13 1 (-1)) 14 0 0) 13 4 0 = st 0 (z_wi (z_wi g 13 1 (-1)) 14 0 0) := rfl
  have hK0 : KX g (z_wi (z_wi g 13 1 (-1)) 14 0 0) := fun o ho => by rw [p_off (by omega), p_off (by omega)]
  rw [e0, x_skip hA hX hK0 (by omega), p_b]
  refine wp_loop (P := fun a g' => ∃ w p B G, w ≤ 16 ∧ p ≤ A 0 4 ∧ sk A p = p ∧ a = nI w ∧ g' = st p G ∧ KX g G ∧ TW B w G ∧ BOK A B w ∧ G.1 13 1 = -1 ∧ prs A (17 - w) w p B = s) (μ := fun a _ => 17 - a.toNatClampNeg) ?_ zN _ _ ⟨0, sk A 0, fun _ _ => 0, _, by omega, sk_le (by omega), sk_sk, rfl, rfl, hK0, ⟨by rw [p_at]; rfl, fun v h => by omega⟩, ⟨by omega, fun v h => by omega, fun u v _ h => by omega⟩, by rw [p_off (by decide), p_at], hs⟩ (by show 17 - _ < zN; rw [p_zN]; omega)
  rintro rc a g' ⟨w, p, B, G, hw, hp, hsp, rfl, rfl, hK, hT, hB, h13, e⟩ ih
  obtain ⟨t, ht⟩ : ∃ t, 17 - w = t + 1 := ⟨16 - w, by omega⟩
  rw [ht, prs] at e
  simp only [fX0_parse_B24]
  rw [if_neg (by rw [p_Llt (by omega) (by omega)]; omega), st_at, st_off (by decide), hK 9 (by omega), hX.1.2.2.2.2.1]
  try simp (disch := omega) only [p_g, p_b, p_s, p_gin, p_gblt, p_eqL, p_leL, p_Lle, p_ltL, p_Llt, p_addL, p_subL, p_mulL, p_LmulL, p_eq, p_le, p_lt, p_add, p_sub, p_mul, p_clamp, if_pos, if_neg]
  by_cases c : A 0 4 ≤ p
  · rw [if_neg (by omega)] at e
    rw [if_pos c]
    subst e
    exact wp_some ⟨hK.st, Or.inr ⟨rfl, rfl, by rw [st_on (by decide)]; exact h13, hB, hT.st⟩⟩
  · rw [if_pos (by omega)] at e
    rw [if_neg c]
    apply wp_b
    refine wp_mono (x_cls hA hX hK hB hT hp hsp) ?_
    obtain ⟨hf, hfp⟩ := cls_f (A := A) (B := B) (w := w) hp hsp
    have hok := cls_ok (A := A) (B := B) (w := w) (p := p)
    generalize cls A B w p = u at *
    rintro q (⟨k1, p', G', rfl, k2⟩ | ⟨k1, G', G'', rfl, k2, k3, k4⟩)
    · rw [if_neg k1] at e
      simp only []
      rw [if_neg (nI0 (by omega) k1)]
      subst e
      refine wp_some ⟨fun o ho => ?_, Or.inl ⟨k1, hf, by show u.2.1 ≤ 200; omega, rfl, by rw [p_at]⟩⟩
      show (z_wi (st p' G') 13 1 (nI u.2.1)).1 o = g.1 o
      rw [p_off (by omega), st_off (by omega)]
      exact (k2.K hK) o ho
    · rw [if_pos k1] at e
      obtain ⟨b1, b2, b3⟩ := hok k1 hB hp hsp
      simp only []
      rw [if_pos trivial]
      have hK' : KX g G' := fun o ho => by rw [k3, p_off (by omega)]; exact (k2.K hK) o ho
      rw [x_skip hA hX hK' b2, p_b]
      try simp (disch := omega) only [p_g, p_b, p_s, p_gin, p_gblt, p_eqL, p_leL, p_Lle, p_ltL, p_Llt, p_addL, p_subL, p_mulL, p_LmulL, p_eq, p_le, p_lt, p_add, p_sub, p_mul, p_clamp, if_pos, if_neg]
      have := b3.1
      refine ih _ _ ⟨w + 1, _, _, G', by omega, sk_le b2, sk_sk, rfl, rfl, hK', k4, b3, ?_, by rw [show 17 - (w + 1) = t by omega]; exact e⟩ ?_
      · rw [k3, p_off (by decide), k2 13 1 (by omega) (by omega) (by omega)]; exact h13
      · show _ - (nI (_ + 1)).toNatClampNeg < _ - (nI _).toNatClampNeg
        rw [p_clamp (by omega), p_clamp (by omega)]
        omega
theorem x_become {g : z_S} {w : Nat} (hw : w ≤ 16) (h14 : g.1 14 0 = nI w) : wp (fX9_become_4_14 g) (fun q => (∀ o, o < 4 ∨ 8 < o → q.2.1 o = g.1 o) ∧ q.2.1 4 0 = nI w ∧ (∀ v, v < w → q.2.1 6 v = g.1 16 v ∧ q.2.1 7 v = g.1 17 v ∧ q.2.1 8 v = g.1 18 v) ∧ ∀ j, j < w * 8 → q.2.1 5 j = g.1 15 j) := by
  unfold fX9_become_4_14
  rw [p_s]
  refine wp_loop (P := fun a g' => ∃ v, v ≤ w ∧ a = nI v ∧ (∀ o, o < 4 ∨ 8 < o → g'.1 o = g.1 o) ∧ g'.1 4 0 = nI w ∧ (∀ u, u < v → g'.1 6 u = g.1 16 u ∧ g'.1 7 u = g.1 17 u ∧ g'.1 8 u = g.1 18 u)) (μ := fun a _ => w - a.toNatClampNeg) ?_ zN _ _ ⟨0, by omega, rfl, fun o ho => by rw [p_off (by omega)], by rw [p_at]; exact h14, fun u h => by omega⟩ (by show w - _ < zN; rw [p_zN]; omega)
  rintro rc a g1 ⟨v, hv, rfl, e1, e2, e3⟩ ih
  simp only [fX9_become_4_14_B10]
  rw [e2]
  try simp (disch := omega) only [p_g, p_b, p_s, p_gin, p_gblt, p_eqL, p_leL, p_Lle, p_ltL, p_Llt, p_addL, p_subL, p_mulL, p_LmulL, p_eq, p_le, p_lt, p_add, p_sub, p_mul, p_clamp, if_pos, if_neg]
  by_cases c : w ≤ v
  · have : v = w := by omega
    subst this
    rw [if_pos c]
    refine wp_loop (P := fun a g' => ∃ i, i ≤ v * 8 ∧ a = nI i ∧ (∀ o, o < 4 ∨ 8 < o → g'.1 o = g.1 o) ∧ g'.1 4 0 = nI v ∧ (∀ u, u < v → g'.1 6 u = g.1 16 u ∧ g'.1 7 u = g.1 17 u ∧ g'.1 8 u = g.1 18 u) ∧ ∀ j, j < i → g'.1 5 j = g.1 15 j) (μ := fun a _ => v * 8 - a.toNatClampNeg) ?_ zN _ _ ⟨0, by omega, rfl, e1, e2, e3, fun u h => by omega⟩ (by show v * 8 - _ < zN; rw [p_zN]; omega)
    rintro rc2 a g2 ⟨i, hi, rfl, f1, f2, f3, f4⟩ ih2
    simp only [fX9_become_4_14_B62]
    rw [f2]
    try simp (disch := omega) only [p_g, p_b, p_s, p_gin, p_gblt, p_eqL, p_leL, p_Lle, p_ltL, p_Llt, p_addL, p_subL, p_mulL, p_LmulL, p_eq, p_le, p_lt, p_add, p_sub, p_mul, p_clamp, if_pos, if_neg]
    by_cases c2 : v * 8 ≤ i
    · rw [if_pos c2]
      exact wp_some ⟨f1, f2, f3, fun j hj => f4 j (by omega)⟩
    · rw [if_neg c2]
      try simp (disch := omega) only [p_g, p_b, p_s, p_gin, p_gblt, p_eqL, p_leL, p_Lle, p_ltL, p_Llt, p_addL, p_subL, p_mulL, p_LmulL, p_eq, p_le, p_lt, p_add, p_sub, p_mul, p_clamp, if_pos, if_neg]
      refine ih2 _ _ ⟨i + 1, by omega, rfl, ?_, ?_, ?_, ?_⟩ ?_
      · intro o ho; rw [p_off (by omega)]; exact f1 o ho
      · rw [p_off (by decide)]; exact f2
      · intro u hu; rw [p_off (by decide), p_off (by decide), p_off (by decide)]; exact f3 u hu
      · intro j hj
        by_cases q : j = i
        · subst q; rw [p_at, f1 15 (by omega)]
        · rw [p_on q]; exact f4 j (by omega)
      · show _ - (nI (_ + 1)).toNatClampNeg < _ - (nI _).toNatClampNeg
        rw [p_clamp (by omega), p_clamp (by omega)]
        omega
  · rw [if_neg c]
    try simp (disch := omega) only [p_g, p_b, p_s, p_gin, p_gblt, p_eqL, p_leL, p_Lle, p_ltL, p_Llt, p_addL, p_subL, p_mulL, p_LmulL, p_eq, p_le, p_lt, p_add, p_sub, p_mul, p_clamp, if_pos, if_neg]
    refine ih _ _ ⟨v + 1, by omega, rfl, ?_, ?_, ?_⟩ ?_
    · intro o ho; rw [p_off (by omega), p_off (by omega), p_off (by omega)]; exact e1 o ho
    · rw [p_off (by decide), p_off (by decide), p_off (by decide)]; exact e2
    · intro u hu
      by_cases q : u = v
      · subst q
        simp (disch := omega) only [p_off, p_at, e1]
        exact ⟨trivial, trivial, trivial⟩
      · simp (disch := omega) only [p_off, p_on]
        exact e3 u (by omega)
    · show _ - (nI (_ + 1)).toNatClampNeg < _ - (nI _).toNatClampNeg
      rw [p_clamp (by omega), p_clamp (by omega)]
      omega
/-- what a reading makes of the state -/
noncomputable def rdA (A : aS) (s : PC) : aS := fun a j => if s.1 = 0 then (if a = 0 then (if j = 1 then s.2.2.1 else if j = 4 then 0 else if j = 5 then 0 else A 0 j) else if a ≤ 4 then s.2.2.2 a j else A a j) else (if a = 0 then (if j = 4 then 0 else if j = 5 then s.2.1 + 1 else A 0 j) else A a j)
theorem rdf {A : aS} {s : PC} (h : s.1 ≠ 0) (a j : Nat) : rdA A s a j = if a = 0 then (if j = 4 then 0 else if j = 5 then s.2.1 + 1 else A 0 j) else A a j := if_neg h
theorem rdo {A : aS} {s : PC} (h : s.1 = 0) (a j : Nat) : rdA A s a j = if a = 0 then (if j = 1 then s.2.2.1 else if j = 4 then 0 else if j = 5 then 0 else A 0 j) else if a ≤ 4 then s.2.2.2 a j else A a j := if_pos h
theorem rdf0 {A : aS} {s : PC} (h : s.1 ≠ 0) {j : Nat} (h4 : j ≠ 4) (h5 : j ≠ 5) : rdA A s 0 j = A 0 j := by rw [rdf h, if_pos rfl, if_neg h4, if_neg h5]
theorem rdf04 {A : aS} {s : PC} (h : s.1 ≠ 0) : rdA A s 0 4 = 0 := by rw [rdf h, if_pos rfl, if_pos rfl]
theorem rdf05 {A : aS} {s : PC} (h : s.1 ≠ 0) : rdA A s 0 5 = s.2.1 + 1 := by rw [rdf h, if_pos rfl, if_neg (by omega), if_pos rfl]
theorem rdfo {A : aS} {s : PC} (h : s.1 ≠ 0) {a : Nat} (h0 : a ≠ 0) : rdA A s a = A a := by
  funext j
  rw [rdf h, if_neg h0]
theorem rdo0 {A : aS} {s : PC} (h : s.1 = 0) {j : Nat} (h1 : j ≠ 1) (h4 : j ≠ 4) (h5 : j ≠ 5) : rdA A s 0 j = A 0 j := by rw [rdo h, if_pos rfl, if_neg h1, if_neg h4, if_neg h5]
theorem rdo01 {A : aS} {s : PC} (h : s.1 = 0) : rdA A s 0 1 = s.2.2.1 := by rw [rdo h, if_pos rfl, if_pos rfl]
theorem rdo04 {A : aS} {s : PC} (h : s.1 = 0) : rdA A s 0 4 = 0 := by rw [rdo h, if_pos rfl, if_neg (by omega), if_pos rfl]
theorem rdo05 {A : aS} {s : PC} (h : s.1 = 0) : rdA A s 0 5 = 0 := by rw [rdo h, if_pos rfl, if_neg (by omega), if_neg (by omega), if_pos rfl]
theorem rdow {A : aS} {s : PC} (h : s.1 = 0) {a : Nat} (h0 : a ≠ 0) (h4 : a ≤ 4) : rdA A s a = s.2.2.2 a := by
  funext j
  rw [rdo h, if_neg h0, if_pos h4]
theorem rdoo {A : aS} {s : PC} (h : s.1 = 0) {a : Nat} (h4 : 4 < a) : rdA A s a = A a := by
  funext j
  rw [rdo h, if_neg (by omega), if_neg (by omega)]
theorem I_rd {A : aS} (hA : I_ok A) {s : PC} (h : (s.1 ≠ 0 ∧ s.2.1 ≤ 200) ∨ (s.1 = 0 ∧ BOK A s.2.2.2 s.2.2.1)) : I_ok (rdA A s) := by
  obtain ⟨⟨a1, a2, a3, a4, a5, a6, a7⟩, aB, aC, aD, aE, aF, aG, aH⟩ := hA
  rcases h with ⟨h, h1⟩ | ⟨h, h1⟩
  · refine ⟨⟨?_, ?_, ?_, ?_, ?_, ?_, ?_⟩, ?_, ?_, ?_, ?_, ?_, ?_, ?_⟩ <;> (try simp (disch := (first | assumption | omega)) only [rdf0, rdf04, rdf05, rdfo]) <;> (try assumption) <;> (try omega)
  · obtain ⟨b1, b2, b3⟩ := h1
    refine ⟨⟨?_, ?_, ?_, ?_, ?_, ?_, ?_⟩, ?_, ?_, ?_, ?_, ?_, ?_, ?_⟩ <;> (try simp (disch := (first | assumption | omega)) only [rdo0, rdo01, rdo04, rdo05, rdow, rdoo]) <;> (try assumption) <;> (try omega)
noncomputable def rdR (s : PC) : Int32 := if s.1 = 0 then nI s.2.2.1 else -10 - nI s.1
theorem x_read {A : aS} (hA : I_ok A) {g : z_S} (hX : R_X A g) {s : PC} (hs : prs A 17 0 (sk A 0) (fun _ _ => 0) = s) : ((s.1 ≠ 0 ∧ s.2.1 ≤ 200) ∨ (s.1 = 0 ∧ BOK A s.2.2.2 s.2.2.1)) ∧ wp (fX10_read g) (fun q => q.1 = rdR s ∧ R_X (rdA A s) q.2 ∧ Cs A (rdA A s) g q.2) := by
  obtain ⟨⟨v, g1⟩, e, hK, h⟩ := x_parse hA hX hs
  simp only [] at hK h
  have h3 : A 0 3 ≤ 4 := hA.1.2.2.2.2.1
  have hK' : ∀ o, o < 13 ∨ 18 < o → g1.1 o = g.1 o := hK
  rcases h with ⟨h1, h2, h3', rfl, h5⟩ | ⟨h1, rfl, h3', h4, h5⟩
  · refine ⟨Or.inl ⟨h1, h3'⟩, ?_⟩
    unfold fX10_read
    rw [e, p_b, p_s, if_neg (nI0 (by omega) h1)]
    refine wp_some ⟨?_, ?_, ?_⟩
    · unfold rdR; rw [if_neg h1]
    · obtain ⟨⟨x1, x2, x3, x4, x5, x6⟩, xB, xC, xD, xE, xF, xG, xH, xI, xJ⟩ := hX
      refine ⟨⟨?_, ?_, ?_, ?_, ?_, ?_⟩, ?_, ?_, ?_, ?_, ?_, ?_, ?_, ?_, ?_⟩ <;> (try simp (disch := (first | assumption | omega)) only [rdf0, rdf04, rdf05, rdfo, p_off, p_on, p_at, hK']) <;> (try assumption) <;> (try rfl)
      intro i hi; omega
    · right
      refine ⟨⟨?_, ?_, ?_, ?_⟩, ⟨?_, ?_, ?_⟩, ⟨?_, ?_, ?_⟩, ?_⟩ <;> (try simp (disch := (first | assumption | omega)) only [rdf0, rdfo, p_off, hK'])
      intro c k1 k2 k3
      exact rdfo h1 (by omega)
  · refine ⟨Or.inr ⟨h1, h4⟩, ?_⟩
    unfold fX10_read
    rw [e, p_b, p_s, if_pos rfl]
    have hw16 := h4.1
    apply wp_b
    refine wp_mono (x_become (g := z_wi g1 9 1 0) hw16 (by rw [p_off (by decide)]; exact h5.1)) ?_
    rintro ⟨u, g2⟩ ⟨b1, b2, b3, b4⟩
    simp only [] at b1 b2 b3 b4 ⊢
    obtain ⟨g3, e3, rfl⟩ := x_forget g2
    rw [e3, p_b]
    have b1' : ∀ o, o < 4 ∨ 8 < o → o ≠ 9 → g2.1 o = g1.1 o := fun o ho h9 => by rw [b1 o ho, p_off h9]
    refine wp_some ⟨?_, ?_, ?_⟩
    · unfold rdR
      rw [if_pos h1]
      simp (disch := omega) only [p_off]
      exact b2
    · obtain ⟨⟨x1, x2, x3, x4, x5, x6⟩, xB, xC, xD, xE, xF, xG, xH, xI, xJ⟩ := hX
      refine ⟨⟨?_, ?_, ?_, ?_, ?_, ?_⟩, ?_, ?_, ?_, ?_, ?_, ?_, ?_, ?_, ?_⟩ <;> (try simp (disch := (first | assumption | omega)) only [rdo0, rdo01, rdo04, rdo05, rdow, rdoo, p_off, p_on, p_at, b1', hK']) <;> (try assumption) <;> (try rfl)
      · rw [b1 9 (by omega), p_at]; rfl
      · intro w hw
        obtain ⟨t1, t2, t3, t4⟩ := h5.2 w hw
        obtain ⟨c1, c2, c3⟩ := b3 w hw
        have h8 := (h4.2.1 w hw).2.1
        rw [p_off (by decide)] at c1 c2 c3
        refine ⟨c1.trans t1, c2.trans t2, c3.trans t3, fun i hi => ?_⟩
        rw [b4 _ (by omega), p_off (by decide)]
        exact t4 i hi
      · intro l hl
        rw [p_off (a := 35 + 2 * l) (by omega), p_off (a := 35 + 2 * l) (by omega), b1' (35 + 2 * l) (by omega) (by omega), hK (35 + 2 * l) (by omega)]
        exact xF l hl
      · intro i hi; omega
    · left
      simp [Fgt, p_wi]

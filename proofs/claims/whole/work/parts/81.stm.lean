/-! states of knowing: the reference -/
def mk (L : Nat → Nat) (w i : Nat) : Nat := if i = L w then 0 else 8 * w + i
def FN (g g' : z_S) : Prop := g'.1 = g.1 ∧ ∀ o k, ¬ (o = 0 ∧ (k = 35 ∨ k = 36)) → g'.2 o k = g.2 o k
theorem FN.rf {g : z_S} : FN g g := ⟨rfl, fun _ _ _ => rfl⟩
theorem FN.tr {g g' g'' : z_S} (h : FN g g') (h' : FN g' g'') : FN g g'' := ⟨h'.1.trans h.1, fun o k q => (h'.2 o k q).trans (h.2 o k q)⟩
theorem FN.w {g : z_S} {k : Nat} {x : Int64} (h : k = 35 ∨ k = 36) : FN g (z_wl g 0 k x) := by
  refine ⟨rfl, fun o j q => ?_⟩
  rw [p_wl, if_neg]
  rintro ⟨rfl, rfl⟩
  exact q ⟨rfl, h⟩
theorem bt_orl {a b c : Int64} {k : Nat} : bt (a ||| c) b k = (bt a b k || bt c 0 k) := by
  have e : (0 : Int64).toBitVec = 0#64 := rfl
  unfold bt
  split
  · rw [Int64.toBitVec_or, BitVec.getLsbD_or]
  · rw [e, BitVec.getLsbD_zero, Bool.or_false]
theorem bt_orh {a b c : Int64} {k : Nat} : bt a (b ||| c) k = (bt a b k || bt 0 c k) := by
  have e : (0 : Int64).toBitVec = 0#64 := rfl
  unfold bt
  split
  · rw [e, BitVec.getLsbD_zero, Bool.or_false]
  · rw [Int64.toBitVec_or, BitVec.getLsbD_or]
theorem NR_lo {p : Stt} {a b : Int64} {j : Nat} (h : NR p a b) (hj : j < 64) : NR (fun i => p i ∨ i = j) (a ||| ((1 : Int64) <<< ((nI j).toInt64 &&& 63))) b := by
  intro k hk
  rw [bt_orl, bt_one_lo hj hk, Bool.or_eq_true, h k hk, decide_eq_true_iff]
theorem NR_hi {p : Stt} {a b : Int64} {j : Nat} (h : NR p a b) (hj : j < 64) : NR (fun i => p i ∨ i = j + 64) a (b ||| ((1 : Int64) <<< ((nI j).toInt64 &&& 63))) := by
  intro k hk
  rw [bt_orh, bt_one_hi hj hk, Bool.or_eq_true, h k hk, decide_eq_true_iff]
theorem NR_0 {p : Stt} {a b : Int64} (h : NR p a b) : NR (fun i => p i ∨ i = 0) (a ||| 1) b := by
  have := NR_lo (j := 0) h (by omega)
  have e : (1 : Int64) <<< ((nI 0).toInt64 &&& 63) = 1 := by decide
  rwa [e] at this
theorem m_mark {A : aS} (hA : I_ok A) {g : z_S} (hM : R_M A g) {w i : Nat} (hw : w < A 0 1) (hi : 1 ≤ i) (hi2 : i ≤ A 1 w) {p : Stt} (hp : NR p (g.2 0 35) (g.2 0 36)) : wp (fX11_mark (nI w) (nI i) g) (fun q => FN g q.2 ∧ NR (fun j => p j ∨ j = mk (A 1) w i) (q.2.2 0 35) (q.2.2 0 36)) := by
  have hn := hA.1.2.2.1
  have h8 := (hA.2.1 w hw).2.1
  unfold fX11_mark mk
  try simp (disch := omega) only [p_g, p_b, p_s, p_gin, p_gblt, p_eqL, p_leL, p_Lle, p_ltL, p_Llt, p_addL, p_subL, p_mulL, p_LmulL, p_eq, p_le, p_lt, p_add, p_sub, p_mul, p_clamp, if_pos, if_neg]
  rw [(hM.2.1 w hw).1]
  try simp (disch := omega) only [p_g, p_b, p_s, p_gin, p_gblt, p_eqL, p_leL, p_Lle, p_ltL, p_Llt, p_addL, p_subL, p_mulL, p_LmulL, p_eq, p_le, p_lt, p_add, p_sub, p_mul, p_clamp, if_pos, if_neg]
  by_cases c : i = A 1 w
  · rw [if_pos c, if_pos c]
    refine wp_some ⟨FN.w (Or.inl rfl), ?_⟩
    rw [p_Lat, p_Lon (by decide)]
    exact NR_0 hp
  · rw [if_neg c, if_neg c]
    by_cases c8 : 8 ≤ w
    · rw [if_pos c8]
      try simp (disch := omega) only [p_g, p_b, p_s, p_gin, p_gblt, p_eqL, p_leL, p_Lle, p_ltL, p_Llt, p_addL, p_subL, p_mulL, p_LmulL, p_eq, p_le, p_lt, p_add, p_sub, p_mul, p_clamp, if_pos, if_neg]
      refine wp_some ⟨FN.w (Or.inr rfl), ?_⟩
      rw [p_Lat, p_Lon (by decide)]
      have := NR_hi (j := 8 * (w - 8) + i) hp (by omega)
      rw [show 8 * (w - 8) + i + 64 = 8 * w + i by omega] at this
      exact this
    · rw [if_neg c8]
      refine wp_some ⟨FN.w (Or.inl rfl), ?_⟩
      rw [p_Lat, p_Lon (by decide)]
      exact NR_lo (j := 8 * w + i) hp (by omega)
theorem bit_1 {x : Int64} : x &&& 1 = 1 ↔ x.toBitVec.getLsbD 0 = true := by
  have e : (1 : Int64).toBitVec = 1#64 := rfl
  rw [← Int64.toBitVec_inj, Int64.toBitVec_and, e]
  constructor
  · intro h
    have := congrArg (fun v => v.getLsbD 0) h
    simpa using this
  · intro h
    apply BitVec.eq_of_getLsbD_eq
    intro i hi
    rw [BitVec.getLsbD_and, BitVec.getLsbD_one]
    by_cases h0 : i = 0
    · subst h0; rw [h]; simp
    · simp; omega
theorem bit_D {x : Int64} {D : Nat} (hD : D < 64) : ((x >>> ((nI D).toInt64 &&& 63)) &&& 1 = 1) ↔ x.toBitVec.getLsbD D = true := by
  have e : ∀ D, D < 64 → (((nI D).toInt64 &&& 63).toBitVec.smod 64).toNat = D := by decide +kernel
  rw [bit_1]
  show (x.toBitVec.sshiftRight (((nI D).toInt64 &&& 63).toBitVec.smod 64).toNat).getLsbD 0 = true ↔ _
  rw [e D hD, BitVec.getLsbD_sshiftRight]
  simp [hD]
theorem m_isM {A : aS} (hA : I_ok A) {g : z_S} {s w i : Nat} (hs : s < 2001) (hw : w < A 0 1) (hi : i < 8) {p : Stt} (hp : NR p (g.2 21 s) (g.2 22 s)) : fX11_isMarked (nI s) (nI w) (nI i) g = some (nI (ci (p (8 * w + i))), g) := by
  have hn := hA.1.2.2.1
  have e7 : nI w &&& 7 = nI (w % 8) := pk_andN (by omega) 3 (by decide)
  have key : ∀ x : Int64, (x.toBitVec.getLsbD (8 * (w % 8) + i) = true ↔ p (8 * w + i)) → fX11_isMarked_J21 (nI w) (nI i) x g = some (nI (ci (p (8 * w + i))), g) := by
    intro x hx
    unfold fX11_isMarked_J21
    rw [e7]
    try simp (disch := omega) only [p_g, p_b, p_s, p_gin, p_gblt, p_eqL, p_leL, p_Lle, p_ltL, p_Llt, p_addL, p_subL, p_mulL, p_LmulL, p_eq, p_le, p_lt, p_add, p_sub, p_mul, p_clamp, if_pos, if_neg]
    by_cases c : p (8 * w + i)
    · rw [if_pos ((bit_D (by omega)).mpr (hx.mpr c)), ci_t c]; rfl
    · rw [if_neg (fun q => c (hx.mp ((bit_D (by omega)).mp q))), ci_f c]; rfl
  unfold fX11_isMarked
  try simp (disch := omega) only [p_g, p_b, p_s, p_gin, p_gblt, p_eqL, p_leL, p_Lle, p_ltL, p_Llt, p_addL, p_subL, p_mulL, p_LmulL, p_eq, p_le, p_lt, p_add, p_sub, p_mul, p_clamp, if_pos, if_neg]
  have hb := hp (8 * w + i) (by omega)
  by_cases c : 8 ≤ w
  · rw [if_pos c]
    refine key _ ?_
    rw [bt_hi (by omega)] at hb
    rw [show 8 * (w % 8) + i = 8 * w + i - 64 by omega]
    exact hb
  · rw [if_neg c]
    refine key _ ?_
    rw [bt_lo (by omega)] at hb
    rw [show 8 * (w % 8) + i = 8 * w + i by omega]
    exact hb
def sti (L S : Nat → Nat) (p : Stt) (c w m : Nat) : Stt := fun j => stp w L S p c j ∨ ∃ i, i < m ∧ S (8 * w + i) = c ∧ p (ix w i) ∧ j = mk L w (i + 1)
theorem sti_0 {L S : Nat → Nat} {p : Stt} {c w : Nat} : sti L S p c w 0 = stp w L S p c := by
  funext j
  refine propext ⟨fun h => h.elim (fun q => q) (fun ⟨i, q, _⟩ => by omega), fun h => Or.inl h⟩
theorem sti_y {L S : Nat → Nat} {p : Stt} {c w m : Nat} (h : S (8 * w + m) = c ∧ p (ix w m)) : (fun j => sti L S p c w m j ∨ j = mk L w (m + 1)) = sti L S p c w (m + 1) := by
  funext j
  refine propext ⟨?_, ?_⟩
  · rintro ((q | ⟨i, q1, q2⟩) | q)
    · exact Or.inl q
    · exact Or.inr ⟨i, by omega, q2⟩
    · exact Or.inr ⟨m, by omega, h.1, h.2, q⟩
  · rintro (q | ⟨i, q1, q2, q3, q4⟩)
    · exact Or.inl (Or.inl q)
    · by_cases e : i = m
      · subst e; exact Or.inr q4
      · exact Or.inl (Or.inr ⟨i, by omega, q2, q3, q4⟩)
theorem sti_n {L S : Nat → Nat} {p : Stt} {c w m : Nat} (h : ¬ (S (8 * w + m) = c ∧ p (ix w m))) : sti L S p c w m = sti L S p c w (m + 1) := by
  funext j
  refine propext ⟨?_, ?_⟩
  · rintro (q | ⟨i, q1, q2⟩)
    · exact Or.inl q
    · exact Or.inr ⟨i, by omega, q2⟩
  · rintro (q | ⟨i, q1, q2, q3, q4⟩)
    · exact Or.inl q
    · by_cases e : i = m
      · subst e; exact absurd ⟨q2, q3⟩ h
      · exact Or.inr ⟨i, by omega, q2, q3, q4⟩
theorem sti_L {L S : Nat → Nat} {p : Stt} {c w : Nat} (h1 : 1 ≤ L w) : sti L S p c w (L w) = stp (w + 1) L S p c := by
  funext j
  refine propext ⟨?_, ?_⟩
  · rintro ((⟨q1, v, q2, q3⟩ | ⟨v, i, q1, q2⟩) | ⟨i, q1, q2, q3, q4⟩)
    · exact Or.inl ⟨q1, v, by omega, q3⟩
    · exact Or.inr ⟨v, i, by omega, q2⟩
    · unfold mk at q4
      by_cases e : i + 1 = L w
      · rw [if_pos e] at q4
        refine Or.inl ⟨q4, w, by omega, ?_⟩
        rw [show L w - 1 = i by omega]
        exact ⟨q2, q3⟩
      · rw [if_neg e] at q4
        exact Or.inr ⟨w, i, by omega, by omega, q4, q2, q3⟩
  · rintro (⟨q1, v, q2, q3, q4⟩ | ⟨v, i, q1, q2, q3, q4, q5⟩)
    · by_cases e : v = w
      · subst e
        refine Or.inr ⟨L v - 1, by omega, q3, q4, ?_⟩
        unfold mk
        rw [if_pos (by omega)]; exact q1
      · exact Or.inl (Or.inl ⟨q1, v, by omega, q3, q4⟩)
    · by_cases e : v = w
      · subst e
        refine Or.inr ⟨i, by omega, q4, q5, ?_⟩
        unfold mk
        rw [if_neg (by omega)]; exact q3
      · exact Or.inl (Or.inr ⟨v, i, by omega, q2, q3, q4, q5⟩)
theorem stp_0 {L S : Nat → Nat} {p : Stt} {c : Nat} : stp 0 L S p c = pNon := by
  funext j
  refine propext ⟨?_, fun h => absurd h (fun z => z)⟩
  rintro (⟨_, v, q, _⟩ | ⟨v, i, q, _⟩) <;> omega
theorem m_goW {A : aS} (hA : I_ok A) {g0 : z_S} (hM : R_M A g0) {s c w : Nat} (hs : s < 2001) (hc : c < 8) (hw : w < A 0 1) {p : Stt} {v3 : Int32} {k : Int32 → Int32 → Int32 → Int32 → z_S → Option (Unit × z_S)} {Q : Unit × z_S → Prop} (hp : NR p (g0.2 21 s) (g0.2 22 s)) (hk : ∀ g', FN g0 g' → NR (stp (w + 1) (A 1) (A 4) p c) (g'.2 0 35) (g'.2 0 36) → wp (k (nI s) (nI c) v3 (nI w) g') Q) {g : z_S} (hg : FN g0 g) (hN : NR (sti (A 1) (A 4) p c w 1) (g.2 0 35) (g.2 0 36)) : wp (z_loop (fX11_goOn_B69 k) zN (nI s, nI c, v3, nI w, 1) g) Q := by
  have hn := hA.1.2.2.1
  have hk8 := hA.1.2.1
  obtain ⟨w1, w2, -, -, w5⟩ := hA.2.1 w hw
  refine wp_loop (P := fun a g' => ∃ i, 1 ≤ i ∧ i ≤ A 1 w ∧ a = (nI s, nI c, v3, nI w, nI i) ∧ FN g0 g' ∧ NR (sti (A 1) (A 4) p c w i) (g'.2 0 35) (g'.2 0 36)) (μ := fun a _ => A 1 w - a.2.2.2.2.toNatClampNeg) ?_ zN _ _ ⟨1, by omega, w1, rfl, hg, hN⟩ (by show A 1 w - _ < zN; rw [p_zN]; omega)
  rintro rc a g1 ⟨i, hi1, hi2, rfl, e1, e2⟩ ih
  have hM1 := hM.same e1.1
  simp only [fX11_goOn_B69]
  try simp (disch := omega) only [p_g, p_b, p_s, p_gin, p_gblt, p_eqL, p_leL, p_Lle, p_ltL, p_Llt, p_addL, p_subL, p_mulL, p_LmulL, p_eq, p_le, p_lt, p_add, p_sub, p_mul, p_clamp, if_pos, if_neg]
  rw [(hM1.2.1 w hw).1]
  try simp (disch := omega) only [p_g, p_b, p_s, p_gin, p_gblt, p_eqL, p_leL, p_Lle, p_ltL, p_Llt, p_addL, p_subL, p_mulL, p_LmulL, p_eq, p_le, p_lt, p_add, p_sub, p_mul, p_clamp, if_pos, if_neg]
  by_cases c1 : A 1 w ≤ i
  · have : i = A 1 w := by omega
    subst this
    rw [if_pos c1]
    rw [sti_L w1] at e2
    exact hk g1 e1 e2
  · rw [if_neg c1, m_isM hA hs hw (by omega) (p := p) (by rw [e1.2 21 s (by omega), e1.2 22 s (by omega)]; exact hp), p_b]
    have hix : ix w i = 8 * w + i := by unfold ix; rw [if_neg (by omega)]
    have hdec : A 1 w - (nI (i + 1)).toNatClampNeg < A 1 w - (nI i).toNatClampNeg := by
      rw [p_clamp (by omega), p_clamp (by omega)]
      omega
    by_cases c2 : p (8 * w + i)
    · rw [if_neg (fun q => (p_cieq.mp q) c2)]
      try simp (disch := omega) only [p_g, p_b, p_s, p_gin, p_gblt, p_eqL, p_leL, p_Lle, p_ltL, p_Llt, p_addL, p_subL, p_mulL, p_LmulL, p_eq, p_le, p_lt, p_add, p_sub, p_mul, p_clamp, if_pos, if_neg]
      have h4 := w5 i (by omega)
      rw [(hM1.2.1 w hw).2.2.2 i (by omega)]
      try simp (disch := omega) only [p_g, p_b, p_s, p_gin, p_gblt, p_eqL, p_leL, p_Lle, p_ltL, p_Llt, p_addL, p_subL, p_mulL, p_LmulL, p_eq, p_le, p_lt, p_add, p_sub, p_mul, p_clamp, if_pos, if_neg]
      by_cases c3 : A 4 (8 * w + i) = c
      · rw [if_pos c3]
        apply wp_b
        refine wp_mono (m_mark hA hM1 hw (by omega : 1 ≤ i + 1) (by omega) e2) ?_
        rintro ⟨u, g2⟩ ⟨b1, b2⟩
        simp only [] at b1 b2 ⊢
        rw [sti_y ⟨c3, by rw [hix]; exact c2⟩] at b2
        exact ih _ _ ⟨i + 1, by omega, by omega, rfl, e1.tr b1, b2⟩ hdec
      · rw [if_neg c3]
        rw [sti_n (fun q => c3 q.1)] at e2
        exact ih _ _ ⟨i + 1, by omega, by omega, rfl, e1, e2⟩ hdec
    · rw [if_pos (p_cieq.mpr c2)]
      try simp (disch := omega) only [p_g, p_b, p_s, p_gin, p_gblt, p_eqL, p_leL, p_Lle, p_ltL, p_Llt, p_addL, p_subL, p_mulL, p_LmulL, p_eq, p_le, p_lt, p_add, p_sub, p_mul, p_clamp, if_pos, if_neg]
      rw [sti_n (fun q => c2 (by rw [← hix]; exact q.2))] at e2
      exact ih _ _ ⟨i + 1, by omega, by omega, rfl, e1, e2⟩ hdec
theorem m_goOn {A : aS} (hA : I_ok A) {g : z_S} (hM : R_M A g) {s c : Nat} (hs : s < 2001) (hc : c < 8) {p : Stt} (hp : NR p (g.2 21 s) (g.2 22 s)) : wp (fX11_goOn (nI s) (nI c) g) (fun q => FN g q.2 ∧ NR (stp (A 0 1) (A 1) (A 4) p c) (q.2.2 0 35) (q.2.2 0 36)) := by
  have hn := hA.1.2.2.1
  have hk8 := hA.1.2.1
  unfold fX11_goOn
  rw [p_s, p_s]
  have h0 : FN g (z_wl (z_wl g 0 35 0) 0 36 0) := (FN.w (Or.inl rfl)).tr (FN.w (Or.inr rfl))
  have hN0 : NR pNon ((z_wl (z_wl g 0 35 0) 0 36 0).2 0 35) ((z_wl (z_wl g 0 35 0) 0 36 0).2 0 36) := by
    rw [p_Lon (by decide), p_Lat, p_Lat]; exact NR_non
  generalize z_wl (z_wl g 0 35 0) 0 36 0 = g0 at *
  try simp (disch := omega) only [p_g, p_b, p_s, p_gin, p_gblt, p_eqL, p_leL, p_Lle, p_ltL, p_Llt, p_addL, p_subL, p_mulL, p_LmulL, p_eq, p_le, p_lt, p_add, p_sub, p_mul, p_clamp, if_pos, if_neg]
  have go : ∀ v, (v = (1 : Int32) ∧ p 0) ∨ (v = 0 ∧ ¬ p 0) → wp (z_loop fX11_goOn_B32 zN (nI s, nI c, v, 0) g0) (fun q => FN g q.2 ∧ NR (stp (A 0 1) (A 1) (A 4) p c) (q.2.2 0 35) (q.2.2 0 36)) := by
    intro v hv
    refine wp_loop (P := fun a g' => ∃ w, w ≤ A 0 1 ∧ a = (nI s, nI c, v, nI w) ∧ FN g g' ∧ NR (stp w (A 1) (A 4) p c) (g'.2 0 35) (g'.2 0 36)) (μ := fun a _ => A 0 1 - a.2.2.2.toNatClampNeg) ?_ zN _ _ ⟨0, by omega, rfl, h0, by rw [stp_0]; exact hN0⟩ (by show A 0 1 - _ < zN; rw [p_zN]; omega)
    rintro rc a g1 ⟨w, hw, rfl, e1, e2⟩ ih
    have hM1 := hM.same e1.1
    simp only [fX11_goOn_B32]
    rw [hM1.1.2.1]
    try simp (disch := omega) only [p_g, p_b, p_s, p_gin, p_gblt, p_eqL, p_leL, p_Lle, p_ltL, p_Llt, p_addL, p_subL, p_mulL, p_LmulL, p_eq, p_le, p_lt, p_add, p_sub, p_mul, p_clamp, if_pos, if_neg]
    by_cases c1 : A 0 1 ≤ w
    · have : w = A 0 1 := by omega
      subst this
      rw [if_pos c1]
      exact wp_some ⟨e1, e2⟩
    · have hw' : w < A 0 1 := by omega
      obtain ⟨w1, w2, -, -, w5⟩ := hA.2.1 w hw'
      have h4 := w5 0 (by omega)
      rw [if_neg c1]
      have p1 : NR p (g1.2 21 s) (g1.2 22 s) := by rw [e1.2 21 s (by omega), e1.2 22 s (by omega)]; exact hp
      have fin : ∀ g2, FN g1 g2 → NR (sti (A 1) (A 4) p c w 1) (g2.2 0 35) (g2.2 0 36) → wp (z_loop (fX11_goOn_B69 (fun (v1 : Int32) (v2 : Int32) (v3 : Int32) (v4 : Int32) (g : z_S) => rc (v1, v2, v3, (v4 + 1)) g)) zN (nI s, nI c, v, nI w, 1) g2) (fun q => FN g q.2 ∧ NR (stp (A 0 1) (A 1) (A 4) p c) (q.2.2 0 35) (q.2.2 0 36)) := by
        intro g2 f1 f2
        refine m_goW hA hM1 hs hc hw' p1 ?_ f1 f2
        intro g3 k1 k2
        try simp (disch := omega) only [p_g, p_b, p_s, p_gin, p_gblt, p_eqL, p_leL, p_Lle, p_ltL, p_Llt, p_addL, p_subL, p_mulL, p_LmulL, p_eq, p_le, p_lt, p_add, p_sub, p_mul, p_clamp, if_pos, if_neg]
        refine ih _ _ ⟨w + 1, by omega, rfl, e1.tr k1, k2⟩ ?_
        show _ - (nI (_ + 1)).toNatClampNeg < _ - (nI _).toNatClampNeg
        rw [p_clamp (by omega), p_clamp (by omega)]
        omega
      have hix : ix w 0 = 0 := rfl
      rcases hv with ⟨rfl, hv⟩ | ⟨rfl, hv⟩
      · rw [if_neg n10]
        try simp (disch := omega) only [p_g, p_b, p_s, p_gin, p_gblt, p_eqL, p_leL, p_Lle, p_ltL, p_Llt, p_addL, p_subL, p_mulL, p_LmulL, p_eq, p_le, p_lt, p_add, p_sub, p_mul, p_clamp, if_pos, if_neg]
        have e8 : (hM1.2.1 w hw').2.2.2 0 (by omega) = (hM1.2.1 w hw').2.2.2 0 (by omega) := rfl
        have hl := (hM1.2.1 w hw').2.2.2 0 (by omega)
        rw [Nat.add_zero] at hl h4
        rw [hl]
        try simp (disch := omega) only [p_g, p_b, p_s, p_gin, p_gblt, p_eqL, p_leL, p_Lle, p_ltL, p_Llt, p_addL, p_subL, p_mulL, p_LmulL, p_eq, p_le, p_lt, p_add, p_sub, p_mul, p_clamp, if_pos, if_neg]
        by_cases c3 : A 4 (8 * w) = c
        · rw [if_pos c3]
          apply wp_b
          refine wp_mono (m_mark (i := 1) hA hM1 hw' (by omega) w1 (p := stp w (A 1) (A 4) p c) e2) ?_
          rintro ⟨u, g2⟩ ⟨b1, b2⟩
          simp only [] at b1 b2 ⊢
          refine fin g2 b1 ?_
          have := sti_y (L := A 1) (S := A 4) (p := p) (c := c) (w := w) (m := 0) ⟨c3, by rw [hix]; exact hv⟩
          rw [sti_0] at this
          rw [← this]
          exact b2
        · rw [if_neg c3]
          refine fin g1 FN.rf ?_
          rw [← sti_n (fun q => c3 q.1), sti_0]
          exact e2
      · rw [if_pos rfl]
        refine fin g1 FN.rf ?_
        rw [← sti_n (fun q => hv (by rw [← hix]; exact q.2)), sti_0]
        exact e2
  have hb := hp 0 (by omega)
  rw [bt_lo (by omega)] at hb
  rw [h0.2 21 s (by omega)]
  by_cases c0 : p 0
  · rw [if_pos (bit_1.mpr (hb.mpr c0))]
    exact go 1 (Or.inl ⟨rfl, c0⟩)
  · rw [if_neg (fun q => c0 (hb.mp (bit_1.mp q)))]
    exact go 0 (Or.inr ⟨rfl, c0⟩)

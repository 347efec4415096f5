/-! the reference's tables of readings -/
def eM (o : Option (Int × Nat)) : Int32 := match o with
  | none => -1
  | some q => Int32.ofInt q.1
def eN (o : Option (Int × Nat)) : Int32 := match o with
  | none => -1
  | some q => Int32.ofInt (-q.1)
theorem iI_lt {a b : Int} (h1 : -5000 ≤ a) (h2 : a ≤ 5000) (h3 : -5000 ≤ b) (h4 : b ≤ 5000) : Int32.ofInt a < Int32.ofInt b ↔ a < b := by
  rw [Int32.lt_iff_toInt_lt, iI_toInt h1 h2, iI_toInt h3 h4]
theorem iI_le {a b : Int} (h1 : -5000 ≤ a) (h2 : a ≤ 5000) (h3 : -5000 ≤ b) (h4 : b ≤ 5000) : Int32.ofInt a ≤ Int32.ofInt b ↔ a ≤ b := by
  rw [Int32.le_iff_toInt_le, iI_toInt h1 h2, iI_toInt h3 h4]
theorem iI_1 (a : Int) : Int32.ofInt a + 1 = Int32.ofInt (a + 1) := iI_add a 1
theorem iI_0 : (0 : Int32) = Int32.ofInt 0 := rfl
theorem iI_m1 : (-1 : Int32) = Int32.ofInt (-1) := rfl
theorem m_J196 {g : z_S} {i j : Nat} {a b : Int} (hi : i < 245) (hj : j < 245) (s0 : Int32) (ha : g.1 19 j = Int32.ofInt a) (hb : g.1 19 i = Int32.ofInt b) (a1 : -1 ≤ a) (a2 : a ≤ 4900) (b1 : -1 ≤ b) (b2 : b ≤ 4900) : fX11_addWord_J196 (nI i) (nI j) s0 (nI i) g = some ((), z_wi (z_wi g 18 i s0) 19 i (Int32.ofInt (max b (a + 1)))) := by
  unfold fX11_addWord_J196
  try simp (disch := omega) only [p_g, p_b, p_s, p_gin, p_gblt, p_eqL, p_leL, p_Lle, p_ltL, p_Llt, p_addL, p_subL, p_mulL, p_LmulL, p_eq, p_le, p_lt, p_add, p_sub, p_mul, p_clamp, if_pos, if_neg]
  rw [p_off (by decide), ha, hb, iI_1]
  have hc := iI_le (a := a + 1) (b := b) (by omega) (by omega) (by omega) (by omega)
  by_cases c : a + 1 ≤ b
  · rw [if_pos (hc.mpr c), show max b (a + 1) = b by omega]
  · rw [if_neg (fun z => c (hc.mp z)), show max b (a + 1) = a + 1 by omega]
theorem m_J148 {g : z_S} {i j : Nat} {a b c d : Int} (hi : i < 245) (hj : j < 245) (ha : g.1 19 j = Int32.ofInt a) (hb : g.1 19 i = Int32.ofInt b) (a1 : -1 ≤ a) (a2 : a ≤ 4900) (b1 : -1 ≤ b) (b2 : b ≤ 4900) (hc : g.1 18 j = Int32.ofInt c) (hd : g.1 18 i = Int32.ofInt d) (c1 : -1 ≤ c) (c2 : c ≤ 4900) (d1 : -1 ≤ d) (d2 : d ≤ 4900) : fX11_addWord_J148 (nI i) (nI j) g = some ((), z_wi (z_wi g 18 i (Int32.ofInt (if d < 0 ∨ c + 1 < d then c + 1 else d))) 19 i (Int32.ofInt (max b (a + 1)))) := by
  unfold fX11_addWord_J148 fX11_addWord_J179
  simp only [m_J196 hi hj _ ha hb a1 a2 b1 b2]
  try simp (disch := omega) only [p_g, p_b, p_s, p_gin, p_gblt, p_eqL, p_leL, p_Lle, p_ltL, p_Llt, p_addL, p_subL, p_mulL, p_LmulL, p_eq, p_le, p_lt, p_add, p_sub, p_mul, p_clamp, if_pos, if_neg]
  rw [hc, hd, iI_1, iI_0]
  have k1 := iI_lt (a := d) (b := 0) (by omega) (by omega) (by omega) (by omega)
  have k2 := iI_le (a := d) (b := c + 1) (by omega) (by omega) (by omega) (by omega)
  by_cases q1 : d < 0
  · rw [if_pos (k1.mpr q1), if_pos (Or.inl q1)]
  · rw [if_neg (fun z => q1 (k1.mp z))]
    by_cases q2 : d ≤ c + 1
    · rw [if_pos (k2.mpr q2), if_neg (show ¬ (d < 0 ∨ c + 1 < d) by omega)]
    · rw [if_neg (fun z => q2 (k2.mp z)), if_pos (show d < 0 ∨ c + 1 < d by omega)]
/-- the reference's five tables at a place -/
def TabO (g : z_S) (i : Nat) (o0 o1 o2 o3 : Option (Int × Nat)) : Prop := g.2 15 i = eC 2000000000000000 o0 ∧ g.1 16 i = eM o1 ∧ g.2 17 i = eC 2000000000000000 o1 ∧ g.1 18 i = eM o2 ∧ g.1 19 i = eN o3
/-- the four are there together, with sound bounds -/
def gok (d : Nat) (o0 o1 o2 o3 : Option (Int × Nat)) : Prop := (o0 = none ∧ o1 = none ∧ o2 = none ∧ o3 = none) ∨ ∃ q0 q1 q2 q3, o0 = some q0 ∧ o1 = some q1 ∧ o2 = some q2 ∧ o3 = some q3 ∧ q0.1 = 0 ∧ 1 ≤ q0.2 ∧ 0 ≤ q1.1 ∧ q1.1 ≤ 99 * d ∧ 1 ≤ q1.2 ∧ 0 ≤ q2.1 ∧ q2.1 ≤ d ∧ q3.1 ≤ 0 ∧ -(d : Int) ≤ q3.1
theorem wp_addWord {g : z_S} {i j w d : Nat} {o0 o1 o2 o3 n0 n1 n2 n3 : Option (Int × Nat)} {co : Nat} (hi : i < 245) (hj : j < 245) (hij : i ≠ j) (hd : d ≤ 48) (hw : w < 17) (hco : g.1 3 w = nI co) (hco2 : co ≤ 99) (hT : TabO g i o0 o1 o2 o3) (hN : TabO g j n0 n1 n2 n3) (ho : gok d o0 o1 o2 o3) (hn : gok (d - 1) n0 n1 n2 n3) : wp (fX11_addWord (nI i) (nI w) (nI j) g) (fun q => TabO q.2 i (gadd o0 (gsh 0 n0)) (gadd o1 (gsh co n1)) (gadd o2 (gsh 1 n2)) (gadd o3 (gsh (-1) n3)) ∧ (∀ o, o ≠ 16 → o ≠ 18 → o ≠ 19 → q.2.1 o = g.1 o) ∧ (∀ o k, k ≠ i → q.2.1 o k = g.1 o k) ∧ (∀ o, o ≠ 15 → o ≠ 17 → q.2.2 o = g.2 o) ∧ ∀ o k, k ≠ i → q.2.2 o k = g.2 o k) := by
  obtain ⟨t1, t2, t3, t4, t5⟩ := hT
  obtain ⟨u1, u2, u3, u4, u5⟩ := hN
  unfold fX11_addWord
  try simp (disch := omega) only [p_g, p_b, p_s, p_gin, p_gblt, p_eqL, p_leL, p_Lle, p_ltL, p_Llt, p_addL, p_subL, p_mulL, p_LmulL, p_eq, p_le, p_lt, p_add, p_sub, p_mul, p_clamp, if_pos, if_neg]
  rcases hn with ⟨rfl, rfl, rfl, rfl⟩ | ⟨q0, q1, q2, q3, rfl, rfl, rfl, rfl, e0, e1, e2, e3, e4, e5, e6, e7, e8⟩
  · rw [u1, if_pos (by decide)]
    refine wp_some ⟨⟨?_, ?_, ?_, ?_, ?_⟩, fun _ _ _ _ => rfl, fun _ _ _ => rfl, fun _ _ _ => rfl, fun _ _ _ => rfl⟩
    · rw [show gadd o0 (gsh 0 none) = o0 by cases o0 <;> rfl]; exact t1
    · rw [show gadd o1 (gsh co none) = o1 by cases o1 <;> rfl]; exact t2
    · rw [show gadd o1 (gsh co none) = o1 by cases o1 <;> rfl]; exact t3
    · rw [show gadd o2 (gsh 1 none) = o2 by cases o2 <;> rfl]; exact t4
    · rw [show gadd o3 (gsh (-1) none) = o3 by cases o3 <;> rfl]; exact t5
  · have hd1 : 1 ≤ d ∨ d = 0 := by omega
    have v1 : g.2 15 j = lN (min 2000000000000000 q0.2) := u1
    have v2 : g.1 16 j = Int32.ofInt q1.1 := u2
    have v3 : g.2 17 j = lN (min 2000000000000000 q1.2) := u3
    have v4 : g.1 18 j = Int32.ofInt q2.1 := u4
    have v5 : g.1 19 j = Int32.ofInt (-q3.1) := u5
    have hcc : g.1 3 w + g.1 16 j = Int32.ofInt (q1.1 + co) := by rw [hco, v2, iI_n, iI_add, Int.add_comm]
    have hmin : 1 ≤ min 2000000000000000 q0.2 := by omega
    rw [v1, if_neg (by rw [show (0 : Int64) = lN 0 from rfl, p_JLe (by omega) (by omega)]; omega)]
    -- the four of the place itself, as numbers
    obtain ⟨c0, b1, m1, b2, b3, w1, w2, w3, w4, w5, s0, s1, s2, s3, s4, s5, s6, hg0, hg1, hg1c, hg2, hg3⟩ : ∃ (c0 : Nat) (b1 : Int) (m1 : Nat) (b2 b3 : Int), g.2 15 i = lN c0 ∧ g.1 16 i = Int32.ofInt b1 ∧ g.2 17 i = lN m1 ∧ g.1 18 i = Int32.ofInt b2 ∧ g.1 19 i = Int32.ofInt b3 ∧ c0 ≤ 2000000000000000 ∧ m1 ≤ 2000000000000000 ∧ (-1 ≤ b1 ∧ b1 ≤ 99 * d) ∧ (-1 ≤ b2 ∧ b2 ≤ d) ∧ (-1 ≤ b3 ∧ b3 ≤ d) ∧ (b1 < 0 ↔ o1 = none) ∧ (b2 < 0 ↔ o1 = none) ∧ eC 2000000000000000 (gadd o0 (gsh 0 (some q0))) = lN (min 2000000000000000 (c0 + min 2000000000000000 q0.2)) ∧ eM (gadd o1 (gsh co (some q1))) = Int32.ofInt (if b1 < 0 ∨ q1.1 + co < b1 then q1.1 + co else b1) ∧ eC 2000000000000000 (gadd o1 (gsh co (some q1))) = lN (if b1 < 0 ∨ q1.1 + co < b1 then min 2000000000000000 q1.2 else if q1.1 + co = b1 then min 2000000000000000 (m1 + min 2000000000000000 q1.2) else m1) ∧ eM (gadd o2 (gsh 1 (some q2))) = Int32.ofInt (if b2 < 0 ∨ q2.1 + 1 < b2 then q2.1 + 1 else b2) ∧ eN (gadd o3 (gsh (-1) (some q3))) = Int32.ofInt (max b3 (-q3.1 + 1)) := by
      rcases ho with ⟨rfl, rfl, rfl, rfl⟩ | ⟨p0, p1, p2, p3, rfl, rfl, rfl, rfl, f0, f1, f2, f3, f4, f5, f6, f7, f8⟩
      · refine ⟨0, -1, 0, -1, -1, t1, t2.trans iI_m1, t3, t4.trans iI_m1, t5.trans iI_m1, by omega, by omega, by omega, by omega, by omega, ⟨fun _ => rfl, fun _ => by omega⟩, ⟨fun _ => rfl, fun _ => by omega⟩, ?_, ?_, ?_, ?_, ?_⟩
        · show lN (min _ q0.2) = _
          congr 1; omega
        · rw [if_pos (by omega)]; rfl
        · rw [if_pos (by omega)]; rfl
        · rw [if_pos (by omega)]; rfl
        · show Int32.ofInt (-(q3.1 + -1)) = _
          congr 1; omega
      · refine ⟨min 2000000000000000 p0.2, p1.1, min 2000000000000000 p1.2, p2.1, -p3.1, t1, t2, t3, t4, t5, by omega, by omega, by omega, by omega, by omega, ⟨fun _ => by omega, fun h => by cases h⟩, ⟨fun _ => by omega, fun h => by cases h⟩, ?_, ?_, ?_, ?_, ?_⟩
        · simp only [gsh, gadd]
          rw [if_neg (show ¬ (q0.1 + 0 < p0.1) by omega), if_pos (show q0.1 + 0 = p0.1 by omega)]
          show lN (min _ (p0.2 + q0.2)) = _
          congr 1; omega
        · simp only [gsh, gadd]
          by_cases k1 : q1.1 + co < p1.1
          · rw [if_pos k1, if_pos (Or.inr k1)]; rfl
          · rw [if_neg k1, if_neg (show ¬ (p1.1 < 0 ∨ q1.1 + (co : Int) < p1.1) by omega)]
            by_cases k2 : q1.1 + co = p1.1
            · rw [if_pos k2]; rfl
            · rw [if_neg k2]; rfl
        · simp only [gsh, gadd]
          by_cases k1 : q1.1 + co < p1.1
          · rw [if_pos k1, if_pos (Or.inr k1)]; rfl
          · rw [if_neg k1, if_neg (show ¬ (p1.1 < 0 ∨ q1.1 + (co : Int) < p1.1) by omega)]
            by_cases k2 : q1.1 + co = p1.1
            · rw [if_pos k2, if_pos k2]
              show lN (min _ (p1.2 + q1.2)) = _
              congr 1; omega
            · rw [if_neg k2, if_neg k2]; rfl
        · simp only [gsh, gadd]
          by_cases k1 : q2.1 + 1 < p2.1
          · rw [if_pos k1, if_pos (Or.inr k1)]; rfl
          · rw [if_neg k1, if_neg (show ¬ (p2.1 < 0 ∨ q2.1 + 1 < p2.1) by omega)]
            by_cases k2 : q2.1 + 1 = p2.1
            · rw [if_pos k2]; rfl
            · rw [if_neg k2]; rfl
        · simp only [gsh, gadd]
          by_cases k1 : q3.1 + -1 < p3.1
          · rw [if_pos k1]
            show Int32.ofInt (-(q3.1 + -1)) = _
            congr 1; omega
          · rw [if_neg k1]
            by_cases k2 : q3.1 + -1 = p3.1
            · rw [if_pos k2]
              show Int32.ofInt (-p3.1) = _
              congr 1; omega
            · rw [if_neg k2]
              show Int32.ofInt (-p3.1) = _
              congr 1; omega
    have key : wp (fX11_addWord_J48 (nI i) (nI w) (nI j) (lN (min 2000000000000000 (c0 + min 2000000000000000 q0.2))) (nI i) g) (fun q => TabO q.2 i (gadd o0 (gsh 0 (some q0))) (gadd o1 (gsh co (some q1))) (gadd o2 (gsh 1 (some q2))) (gadd o3 (gsh (-1) (some q3))) ∧ (∀ o, o ≠ 16 → o ≠ 18 → o ≠ 19 → q.2.1 o = g.1 o) ∧ (∀ o k, k ≠ i → q.2.1 o k = g.1 o k) ∧ (∀ o, o ≠ 15 → o ≠ 17 → q.2.2 o = g.2 o) ∧ ∀ o k, k ≠ i → q.2.2 o k = g.2 o k) := by
      have fin : ∀ (g3 : z_S), g3.1 18 = g.1 18 → g3.1 19 = g.1 19 → g3.2 15 i = eC 2000000000000000 (gadd o0 (gsh 0 (some q0))) → g3.1 16 i = eM (gadd o1 (gsh co (some q1))) → g3.2 17 i = eC 2000000000000000 (gadd o1 (gsh co (some q1))) → (∀ o, o ≠ 16 → g3.1 o = g.1 o) → (∀ o k, k ≠ i → g3.1 o k = g.1 o k) → (∀ o, o ≠ 15 → o ≠ 17 → g3.2 o = g.2 o) → (∀ o k, k ≠ i → g3.2 o k = g.2 o k) → wp (fX11_addWord_J148 (nI i) (nI j) g3) (fun q => TabO q.2 i (gadd o0 (gsh 0 (some q0))) (gadd o1 (gsh co (some q1))) (gadd o2 (gsh 1 (some q2))) (gadd o3 (gsh (-1) (some q3))) ∧ (∀ o, o ≠ 16 → o ≠ 18 → o ≠ 19 → q.2.1 o = g.1 o) ∧ (∀ o k, k ≠ i → q.2.1 o k = g.1 o k) ∧ (∀ o, o ≠ 15 → o ≠ 17 → q.2.2 o = g.2 o) ∧ ∀ o k, k ≠ i → q.2.2 o k = g.2 o k) := by
        intro g3 r1 r2 r3 r4 r5 r6 r7 r8 r9
        rw [m_J148 (a := -q3.1) (b := b3) (c := q2.1) (d := b2) hi hj (by rw [r2]; exact v5) (by rw [r2]; exact w5) (by omega) (by omega) (by omega) (by omega) (by rw [r1]; exact v4) (by rw [r1]; exact w4) (by omega) (by omega) (by omega) (by omega)]
        refine wp_some ⟨⟨r3, ?_, r5, ?_, ?_⟩, ?_, ?_, r8, r9⟩
        · rw [p_off (by decide), p_off (by decide)]; exact r4
        · rw [p_off (by decide), p_at, hg2]
        · rw [p_at, hg3]
        · intro o h1 h2 h3
          rw [p_off h3, p_off h2]; exact r6 o h1
        · intro o k hk
          rw [p_wi, p_wi, if_neg (fun z => hk z.2), if_neg (fun z => hk z.2)]
          exact r7 o k hk
      unfold fX11_addWord_J48
      try simp (disch := omega) only [p_g, p_b, p_s, p_gin, p_gblt, p_eqL, p_leL, p_Lle, p_ltL, p_Llt, p_addL, p_subL, p_mulL, p_LmulL, p_eq, p_le, p_lt, p_add, p_sub, p_mul, p_clamp, if_pos, if_neg]
      rw [p_wl1, hcc, w2, iI_0]
      have l1 := iI_lt (a := b1) (b := 0) (by omega) (by omega) (by omega) (by omega)
      have l2 := iI_le (a := b1) (b := q1.1 + co) (by omega) (by omega) (by omega) (by omega)
      have l3 := iI_inj (a := q1.1 + co) (b := b1) (by omega) (by omega) (by omega) (by omega)
      have j84 : (b1 < 0 ∨ q1.1 + co < b1) → wp (fX11_addWord_J84 (nI i) (nI j) (Int32.ofInt (q1.1 + co)) (z_wl g 15 i (lN (min 2000000000000000 (c0 + min 2000000000000000 q0.2))))) (fun q => TabO q.2 i (gadd o0 (gsh 0 (some q0))) (gadd o1 (gsh co (some q1))) (gadd o2 (gsh 1 (some q2))) (gadd o3 (gsh (-1) (some q3))) ∧ (∀ o, o ≠ 16 → o ≠ 18 → o ≠ 19 → q.2.1 o = g.1 o) ∧ (∀ o k, k ≠ i → q.2.1 o k = g.1 o k) ∧ (∀ o, o ≠ 15 → o ≠ 17 → q.2.2 o = g.2 o) ∧ ∀ o k, k ≠ i → q.2.2 o k = g.2 o k) := by
        intro hcase
        unfold fX11_addWord_J84 fX11_addWord_J99
        try simp (disch := omega) only [p_g, p_b, p_s, p_gin, p_gblt, p_eqL, p_leL, p_Lle, p_ltL, p_Llt, p_addL, p_subL, p_mulL, p_LmulL, p_eq, p_le, p_lt, p_add, p_sub, p_mul, p_clamp, if_pos, if_neg]
        rw [p_wl1, p_at, if_pos rfl, p_Lat, p_Lon (Ne.symm hij), p_wi2, p_Loff (by decide), v3, show (0 : Int64) = lN 0 from rfl, p_Ladd]
        simp (disch := omega) only [p_Lge]
        rw [if_pos (by omega), Nat.zero_add]
        refine fin _ ?_ ?_ ?_ ?_ ?_ ?_ ?_ ?_ ?_
        · rw [p_wl1, p_wl1, p_off (by decide)]; rfl
        · rw [p_wl1, p_wl1, p_off (by decide)]; rfl
        · rw [p_Loff (by decide), p_Loff (by decide), p_wi2, p_Lat, hg0]
        · rw [p_wl1, p_wl1, p_at, hg1, if_pos hcase]
        · rw [p_Lat, hg1c, if_pos hcase]
        · intro o h1
          rw [p_wl1, p_wl1, p_off h1]; rfl
        · intro o k hk
          rw [p_wl1, p_wl1, p_wi, if_neg (fun z => hk z.2)]; rfl
        · intro o h1 h2
          rw [p_Loff h2, p_Loff h2, p_wi2, p_Loff h1]
        · intro o k hk
          rw [p_wl, if_neg (fun z => hk z.2), p_wl, if_neg (fun z => hk z.2), p_wi2, p_wl, if_neg (fun z => hk z.2)]
      by_cases hb : b1 < 0
      · rw [if_pos (l1.mpr hb)]; exact j84 (Or.inl hb)
      · rw [if_neg (fun z => hb (l1.mp z))]
        by_cases hc : b1 ≤ q1.1 + co
        · rw [if_pos (l2.mpr hc)]
          unfold fX11_addWord_J99
          try simp (disch := omega) only [p_g, p_b, p_s, p_gin, p_gblt, p_eqL, p_leL, p_Lle, p_ltL, p_Llt, p_addL, p_subL, p_mulL, p_LmulL, p_eq, p_le, p_lt, p_add, p_sub, p_mul, p_clamp, if_pos, if_neg]
          rw [p_wl1, w2]
          by_cases heq : q1.1 + co = b1
          · rw [if_pos (l3.mpr heq), p_Loff (by decide), w3, v3, p_Ladd]
            simp (disch := omega) only [p_Lge]
            have hcase : eC 2000000000000000 (gadd o1 (gsh co (some q1))) = lN (min 2000000000000000 (m1 + min 2000000000000000 q1.2)) := by
              rw [hg1c, if_neg (by omega), if_pos heq]
            have fin2 : ∀ v, v = lN (min 2000000000000000 (m1 + min 2000000000000000 q1.2)) → wp (fX11_addWord_J148 (nI i) (nI j) (z_wl (z_wl g 15 i (lN (min 2000000000000000 (c0 + min 2000000000000000 q0.2)))) 17 i v)) (fun q => TabO q.2 i (gadd o0 (gsh 0 (some q0))) (gadd o1 (gsh co (some q1))) (gadd o2 (gsh 1 (some q2))) (gadd o3 (gsh (-1) (some q3))) ∧ (∀ o, o ≠ 16 → o ≠ 18 → o ≠ 19 → q.2.1 o = g.1 o) ∧ (∀ o k, k ≠ i → q.2.1 o k = g.1 o k) ∧ (∀ o, o ≠ 15 → o ≠ 17 → q.2.2 o = g.2 o) ∧ ∀ o k, k ≠ i → q.2.2 o k = g.2 o k) := by
              intro v hv
              refine fin _ rfl rfl ?_ ?_ ?_ (fun _ _ => rfl) (fun _ _ _ => rfl) ?_ ?_
              · rw [p_Loff (by decide), p_Lat, hg0]
              · rw [p_wl1, p_wl1, w2, hg1, if_neg (by omega)]
              · rw [p_Lat, hcase, hv]
              · intro o h1 h2
                rw [p_Loff h2, p_Loff h1]
              · intro o k hk
                rw [p_wl, if_neg (fun z => hk z.2), p_wl, if_neg (fun z => hk z.2)]
            by_cases hs : m1 + min 2000000000000000 q1.2 ≤ 2000000000000000
            · rw [if_pos hs]
              exact fin2 _ (by congr 1; omega)
            · rw [if_neg hs]
              exact fin2 _ (by rw [show min 2000000000000000 (m1 + min 2000000000000000 q1.2) = 2000000000000000 by omega]; rfl)
          · rw [if_neg (fun z => heq (l3.mp z))]
            refine fin _ rfl rfl ?_ ?_ ?_ (fun _ _ => rfl) (fun _ _ _ => rfl) ?_ ?_
            · rw [p_Lat, hg0]
            · rw [p_wl1, w2, hg1, if_neg (by omega)]
            · rw [p_Loff (by decide), w3, hg1c, if_neg (by omega), if_neg heq]
            · intro o h1 h2
              rw [p_Loff h1]
            · intro o k hk
              rw [p_wl, if_neg (fun z => hk z.2)]
        · rw [if_neg (fun z => hc (l2.mp z))]; exact j84 (Or.inr (by omega))
    rw [w1, p_Ladd]
    simp (disch := omega) only [p_Lge]
    by_cases hs : c0 + min 2000000000000000 q0.2 ≤ 2000000000000000
    · rw [if_pos hs, show lN (c0 + min 2000000000000000 q0.2) = lN (min 2000000000000000 (c0 + min 2000000000000000 q0.2)) by congr 1; omega]
      exact key
    · rw [if_neg hs, show (2000000000000000 : Int64) = lN (min 2000000000000000 (c0 + min 2000000000000000 q0.2)) by rw [show min 2000000000000000 (c0 + min 2000000000000000 q0.2) = 2000000000000000 by omega]; rfl]
      exact key
theorem wX0 {A : aS} {p w e : Nat} : wX A 0 p w e = 0 := rfl
theorem wX1 {A : aS} {p w e : Nat} : wX A 1 p w e = (A 2 w : Int) := rfl
theorem wX2 {A : aS} {p w e : Nat} : wX A 2 p w e = 1 := rfl
theorem wX3 {A : aS} {p w e : Nat} : wX A 3 p w e = -1 := rfl
theorem gok_add {d : Nat} {o0 o1 o2 o3 n0 n1 n2 n3 : Option (Int × Nat)} (ho : gok d o0 o1 o2 o3) (hn : gok d n0 n1 n2 n3) : gok d (gadd o0 n0) (gadd o1 n1) (gadd o2 n2) (gadd o3 n3) := by
  rcases hn with ⟨rfl, rfl, rfl, rfl⟩ | ⟨q0, q1, q2, q3, rfl, rfl, rfl, rfl, e0, e1, e2, e3, e4, e5, e6, e7, e8⟩
  · rcases ho with ⟨rfl, rfl, rfl, rfl⟩ | ⟨p0, p1, p2, p3, rfl, rfl, rfl, rfl, f⟩
    · exact Or.inl ⟨rfl, rfl, rfl, rfl⟩
    · exact Or.inr ⟨p0, p1, p2, p3, rfl, rfl, rfl, rfl, f⟩
  · rcases ho with ⟨rfl, rfl, rfl, rfl⟩ | ⟨p0, p1, p2, p3, rfl, rfl, rfl, rfl, f0, f1, f2, f3, f4, f5, f6, f7, f8⟩
    · exact Or.inr ⟨q0, q1, q2, q3, rfl, rfl, rfl, rfl, e0, e1, e2, e3, e4, e5, e6, e7, e8⟩
    · right
      have h0 : ∃ r, gadd (some p0) (some q0) = some r ∧ r.1 = 0 ∧ 1 ≤ r.2 := by
        simp only [gadd]
        rw [if_neg (show ¬ (q0.1 < p0.1) by omega), if_pos (show q0.1 = p0.1 by omega)]
        exact ⟨_, rfl, f0, by show 1 ≤ p0.2 + q0.2; omega⟩
      have h1 : ∃ r, gadd (some p1) (some q1) = some r ∧ 0 ≤ r.1 ∧ r.1 ≤ 99 * d ∧ 1 ≤ r.2 := by
        simp only [gadd]
        by_cases k1 : q1.1 < p1.1
        · rw [if_pos k1]; exact ⟨_, rfl, by omega, by omega, by omega⟩
        · rw [if_neg k1]
          by_cases k2 : q1.1 = p1.1
          · rw [if_pos k2]; exact ⟨_, rfl, f2, f3, by show 1 ≤ p1.2 + q1.2; omega⟩
          · rw [if_neg k2]; exact ⟨_, rfl, by omega, by omega, by omega⟩
      have h2 : ∃ r, gadd (some p2) (some q2) = some r ∧ 0 ≤ r.1 ∧ r.1 ≤ d := by
        simp only [gadd]
        by_cases k1 : q2.1 < p2.1
        · rw [if_pos k1]; exact ⟨_, rfl, by omega, by omega⟩
        · rw [if_neg k1]
          by_cases k2 : q2.1 = p2.1
          · rw [if_pos k2]; exact ⟨_, rfl, f5, f6⟩
          · rw [if_neg k2]; exact ⟨_, rfl, by omega, by omega⟩
      have h3 : ∃ r, gadd (some p3) (some q3) = some r ∧ r.1 ≤ 0 ∧ -(d : Int) ≤ r.1 := by
        simp only [gadd]
        by_cases k1 : q3.1 < p3.1
        · rw [if_pos k1]; exact ⟨_, rfl, by omega, by omega⟩
        · rw [if_neg k1]
          by_cases k2 : q3.1 = p3.1
          · rw [if_pos k2]; exact ⟨_, rfl, f7, f8⟩
          · rw [if_neg k2]; exact ⟨_, rfl, by omega, by omega⟩
      obtain ⟨r0, a1, a2, a3⟩ := h0
      obtain ⟨r1, b1, b2, b3, b4⟩ := h1
      obtain ⟨r2, c1, c2, c3⟩ := h2
      obtain ⟨r3, d1, d2, d3⟩ := h3
      exact ⟨r0, r1, r2, r3, a1, b1, c1, d1, a2, a3, b2, b3, b4, c2, c3, d2, d3⟩
theorem gok_sh {d e co : Nat} {o0 o1 o2 o3 : Option (Int × Nat)} (ho : gok d o0 o1 o2 o3) (hde : d + 1 ≤ e) (hco : co ≤ 99) : gok e (gsh 0 o0) (gsh co o1) (gsh 1 o2) (gsh (-1) o3) := by
  rcases ho with ⟨rfl, rfl, rfl, rfl⟩ | ⟨p0, p1, p2, p3, rfl, rfl, rfl, rfl, f0, f1, f2, f3, f4, f5, f6, f7, f8⟩
  · exact Or.inl ⟨rfl, rfl, rfl, rfl⟩
  · refine Or.inr ⟨_, _, _, _, rfl, rfl, rfl, rfl, ?_, f1, ?_, ?_, f4, ?_, ?_, ?_, ?_⟩
    · show p0.1 + 0 = 0; omega
    · show 0 ≤ p1.1 + (co : Int); omega
    · show p1.1 + (co : Int) ≤ _; omega
    · show 0 ≤ p2.1 + 1; omega
    · show p2.1 + 1 ≤ _; omega
    · show p3.1 + -1 ≤ 0; omega
    · show _ ≤ p3.1 + -1; omega
theorem gok_none {d : Nat} : gok d none none none none := Or.inl ⟨rfl, rfl, rfl, rfl⟩
theorem gok_f {d : Nat} {f0 f1 f2 f3 : Nat → Option (Int × Nat)} : ∀ n, (∀ i, i < n → gok d (f0 i) (f1 i) (f2 i) (f3 i)) → gok d (gf f0 n) (gf f1 n) (gf f2 n) (gf f3 n)
  | 0, _ => gok_none
  | n + 1, h => gok_add (gok_f n (fun i hi => h i (by omega))) (h n (by omega))
def gokG (A : aS) (x a : Nat) : Prop := gok (A 0 2 - x) (GG A (wX A 0 0) x a) (GG A (wX A 1 0) x a) (GG A (wX A 2 0) x a) (GG A (wX A 3 0) x a)
theorem gok_gw {A : aS} (hA : I_ok A) {x a w : Nat} (hx : x < A 0 2) (hw : w < A 0 1) (h : ∀ y c, x < y → gokG A y c) : gok (A 0 2 - x) (gw A (wX A 0 0) x a w) (gw A (wX A 1 0) x a w) (gw A (wX A 2 0) x a w) (gw A (wX A 3 0) x a w) := by
  have h1 := (hA.2.1 w hw).1
  have h2 := (hA.2.1 w hw).2.2.1
  unfold gw
  by_cases c : rok A a w x
  · rw [cit_t c, cit_t c, cit_t c, cit_t c, wX0, wX1, wX2, wX3]
    have hc := c.2.1
    exact gok_sh (h (x + A 1 w) (A 3 w) (by omega)) (by omega) h2
  · rw [cit_f c, cit_f c, cit_f c, cit_f c]
    exact gok_none
theorem gokG_all {A : aS} (hA : I_ok A) : ∀ n x a, A 0 2 - x ≤ n → gokG A x a
  | 0, x, a, h => by
    unfold gokG
    rw [GG_end (by omega), GG_end (by omega), GG_end (by omega), GG_end (by omega)]
    exact Or.inr ⟨_, _, _, _, rfl, rfl, rfl, rfl, rfl, Nat.le_refl _, Int.le_refl _, by show (0 : Int) ≤ _; omega, Nat.le_refl _, Int.le_refl _, by show (0 : Int) ≤ _; omega, Int.le_refl _, by show _ ≤ (0 : Int); omega⟩
  | n + 1, x, a, h => by
    by_cases hx : x < A 0 2
    · unfold gokG
      rw [GG_step hA hx, GG_step hA hx, GG_step hA hx, GG_step hA hx]
      exact gok_f _ (fun w hw => gok_gw hA hx hw (fun y c hy => gokG_all hA n y c (by omega)))
    · exact gokG_all hA 0 x a (by omega)

/-! THE NEW WORD: the reference's search -/
theorem R_M_Ap {A : aS} (hA : I_ok A) {g : z_S} (hM : R_M A g) {c n : Nat} {r : Nat → Nat} (hn8 : n ≤ 8) (hL : LW (A 0 1) n r g) (h3 : g.1 3 (A 0 1) = nI c) : R_M (Ap A c n r) (z_wi g 0 1 (nI (A 0 1 + 1))) := by
  obtain ⟨⟨m1, m2, m3, m4, m5, m6⟩, mB, mC, mD, mE, mF, mG⟩ := hM
  refine ⟨⟨?_, ?_, ?_, ?_, ?_, ?_⟩, ?_, ?_, ?_, ?_, ?_, ?_⟩ <;> (try simp (disch := omega) only [Ap_01, Ap_0, Ap_o, p_off, p_on, p_at]) <;> (try assumption)
  intro w hw
  rw [Ap_1, Ap_2, Ap_3]
  by_cases e : w = A 0 1
  · subst e
    rw [if_pos rfl, if_pos rfl, if_pos rfl]
    refine ⟨hL.1, h3, hL.2.1, fun i hi => ?_⟩
    rw [Ap_4 (by omega), if_pos rfl, trw_lt hi]; exact hL.2.2 i hi
  · rw [if_neg e, if_neg e, if_neg e]
    obtain ⟨q1, q2, q3, q4⟩ := mB w (by omega)
    have h8 := (hA.2.1 w (by omega)).2.1
    refine ⟨q1, q2, q3, fun i hi => ?_⟩
    rw [Ap_4 (by omega), if_neg e]; exact q4 i hi
theorem tot_le {A : aS} (hA : I_ok A) : tot A ≤ 9504 := by
  have h3 : A 0 3 ≤ 4 := hA.1.2.2.2.2.1
  have := sm_le (c := 2376) (f := fun l => SL A l 0 4) (A 0 3) (fun l hl => SL_le hA hl)
  unfold tot
  have : A 0 3 * 2376 ≤ 4 * 2376 := Nat.mul_le_mul_right _ h3
  omega
theorem tot_Ap {A : aS} (hA : I_ok A) {c n : Nat} {r : Nat → Nat} (hP : I_ok (Ap A c n r)) : tot (Ap A c n r) ≤ tot A := by
  unfold tot
  rw [Ap_0 (by omega)]
  have : ∀ m, sm (fun l => SL (Ap A c n r) l 0 4) m ≤ sm (fun l => SL A l 0 4) m := by
    intro m
    induction m with
    | zero => exact Nat.le_refl _
    | succ m ih =>
      rw [sm, sm]
      have : SL (Ap A c n r) m 0 4 ≤ SL A m 0 4 := by
        unfold SL
        rw [Ap_o (by omega), Ap_o (by omega)]
        exact SS_Ap_le hA hP _ 0 4 (Nat.le_refl _)
      omega
  exact this _
theorem Spr_c {A : aS} {c b k : Nat} {P P' : Nat → Nat → Nat → Prop} (h : ∀ l x n k', CT A l x n k' → (P l x n ↔ P' l x n)) (hb : BST A c (Spr A P) b k) : BST A c (Spr A P') b k := by
  refine BST_congr (fun k' => ⟨?_, ?_⟩) hb
  · rintro ⟨l, x, n, q, w⟩
    exact ⟨l, x, n, (h l x n k' w).mp q, w⟩
  · rintro ⟨l, x, n, q, w⟩
    exact ⟨l, x, n, (h l x n k' w).mpr q, w⟩
/-- the best so far, as the reference holds it -/
def RB (b k : Nat) (g : z_S) : Prop := g.1 0 51 = nI b ∧ b ≤ 9504 ∧ (0 < b → ∃ m s, 2 ≤ m ∧ m ≤ 5 ∧ (∀ j, j < m → s j < 8) ∧ k = cdr m s ∧ g.1 0 50 = nI m ∧ ∀ j, j < m → g.1 36 j = nI (s j))
theorem m_try {A : aS} (hA : I_ok A) {g : z_S} (hM : R_M A g) (h16 : A 0 1 < 16) {c n : Nat} {r : Nat → Nat} (hc : c ≤ 99) (hn : 2 ≤ n) (hn5 : n ≤ 5) (hr : ∀ j, j < n → r j < A 0 0) (ha : ¬ agn A (A 0 1) n r) (hL : LW (A 0 1) n r g) (h3 : g.1 3 (A 0 1) = nI c) {b k : Nat} (hB : RB b k g) {S : Nat → Prop} (hS : BST A c S b k) : wp (fX11_tryWord (nI n) (nI (tot A)) g) (fun q => KF (A 0 1) g q.2 ∧ q.2.1 3 = g.1 3 ∧ ∃ b' k', RB b' k' q.2 ∧ BST A c (fun k' => S k' ∨ k' = cdr n r) b' k') := by
  have hk8 := hA.1.2.1
  have hP := I_Ap hA h16 (by omega : 1 ≤ n) (by omega) hc hr ha
  have hr8 : ∀ j, j < n → r j < 8 := fun j hj => by have := hr j hj; omega
  have ht := tot_le hA
  have htp := tot_Ap hA hP
  have hg : gC A c (cdr n r) = tot A - tot (Ap A c n r) := gC_cdr hr8 hn5
  unfold fX11_tryWord
  rw [hM.1.2.1, p_s]
  rw [p_addL]
  apply wp_b
  refine wp_mono (m_totals hP (R_M_Ap hA hM (by omega) hL h3)) ?_
  rintro ⟨t, g1⟩ ⟨a1, a2, a3⟩
  simp only [] at a1 a2 a3 ⊢
  have a1 : t = nI (tot (Ap A c n r)) := a1
  subst a1
  rw [p_s, a2 0 (by omega), p_at, p_subL (by omega), Nat.add_sub_cancel, p_sub htp]
  have f1 : ∀ o, o ≠ 34 → (z_wi g1 0 1 (nI (A 0 1))).1 o = g.1 o := by
    intro o ho
    by_cases z : o = 0
    · subst z
      funext j
      by_cases y : j = 1
      · subst y; rw [p_at]; exact hM.1.2.1.symm
      · rw [p_on y, a2 0 (by omega), p_on y]
    · rw [p_off z, a2 o ho, p_off z]
  generalize z_wi g1 0 1 (nI (A 0 1)) = g2 at *
  rw [f1 0 (by omega), hB.1]
  have hkf : KF (A 0 1) g g2 := ⟨fun o z1 z2 => f1 o (by omega), fun k hk => by rw [f1 0 (by omega)], fun k hk => by rw [f1 2 (by omega), f1 3 (by omega), f1 4 (by omega)]; exact ⟨rfl, rfl, rfl⟩, fun k hk => by rw [f1 1 (by omega)]⟩
  have hstep := BST_step (d := cdr n r) hS
  rw [hg] at hstep
  obtain ⟨q1, q2, q3⟩ := hB
  try simp (disch := omega) only [p_g, p_b, p_s, p_gin, p_gblt, p_eqL, p_leL, p_Lle, p_ltL, p_Llt, p_addL, p_subL, p_mulL, p_LmulL, p_eq, p_le, p_lt, p_add, p_sub, p_mul, p_clamp, if_pos, if_neg]
  have keep : ¬ (b < tot A - tot (Ap A c n r) ∨ (tot A - tot (Ap A c n r) = b ∧ 0 < b ∧ cdr n r < k)) → wp (some ((), g2)) (fun q => KF (A 0 1) g q.2 ∧ q.2.1 3 = g.1 3 ∧ ∃ b' k', RB b' k' q.2 ∧ BST A c (fun k' => S k' ∨ k' = cdr n r) b' k') := by
    intro z
    rw [if_neg z, if_neg z] at hstep
    refine wp_some ⟨hkf, f1 3 (by omega), b, k, ⟨by rw [f1 0 (by omega)]; exact q1, q2, fun y => ?_⟩, hstep⟩
    rw [f1 0 (by omega), f1 36 (by omega)]
    exact q3 y
  have upd : (b < tot A - tot (Ap A c n r) ∨ (tot A - tot (Ap A c n r) = b ∧ 0 < b ∧ cdr n r < k)) → wp (fX11_tryWord_J55 (nI n) (nI (tot A - tot (Ap A c n r))) g2) (fun q => KF (A 0 1) g q.2 ∧ q.2.1 3 = g.1 3 ∧ ∃ b' k', RB b' k' q.2 ∧ BST A c (fun k' => S k' ∨ k' = cdr n r) b' k') := by
    intro z
    rw [if_pos z, if_pos z] at hstep
    unfold fX11_tryWord_J55
    rw [p_s, p_s]
    refine wp_loop (P := fun a g' => ∃ i, i ≤ n ∧ a = (nI n, nI i) ∧ (∀ o, o ≠ 0 → o ≠ 36 → g'.1 o = g2.1 o) ∧ (∀ j, j ≠ 50 → j ≠ 51 → g'.1 0 j = g2.1 0 j) ∧ g'.1 0 51 = nI (tot A - tot (Ap A c n r)) ∧ g'.1 0 50 = nI n ∧ ∀ j, j < i → g'.1 36 j = nI (r j)) (μ := fun a _ => n - a.2.toNatClampNeg) ?_ zN _ _ ⟨0, by omega, rfl, fun o z1 z2 => by rw [p_off z1, p_off z1], fun j z1 z2 => by rw [p_on z1, p_on z2], by rw [p_on (by decide), p_at], by rw [p_at], fun j h => by omega⟩ (by show n - _ < zN; rw [p_zN]; omega)
    rintro rc a g3 ⟨i, hi, rfl, e1, e2, e3, e4, e5⟩ ih
    simp only [fX11_tryWord_B68]
    rw [e2 1 (by omega) (by omega), f1 0 (by omega), hM.1.2.1]
    try simp (disch := omega) only [p_g, p_b, p_s, p_gin, p_gblt, p_eqL, p_leL, p_Lle, p_ltL, p_Llt, p_addL, p_subL, p_mulL, p_LmulL, p_eq, p_le, p_lt, p_add, p_sub, p_mul, p_clamp, if_pos, if_neg]
    by_cases ci' : n ≤ i
    · rw [if_pos ci']
      refine wp_some ⟨hkf.tr ⟨fun o z1 z2 => e1 o (by omega) (by omega), fun k hk => e2 k (by omega) (by omega), fun k hk => ?_, fun k hk => by rw [e1 1 (by omega) (by omega)]⟩, ?_, tot A - tot (Ap A c n r), cdr n r, ⟨e3, Nat.le_trans (Nat.sub_le _ _) ht, fun _ => ⟨n, r, hn, hn5, hr8, rfl, e4, fun j hj => e5 j (by omega)⟩⟩, hstep⟩
      · rw [e1 2 (by omega) (by omega), e1 3 (by omega) (by omega), e1 4 (by omega) (by omega)]; exact ⟨rfl, rfl, rfl⟩
      · rw [e1 3 (by omega) (by omega)]; exact f1 3 (by omega)
    · rw [if_neg ci']
      try simp (disch := omega) only [p_g, p_b, p_s, p_gin, p_gblt, p_eqL, p_leL, p_Lle, p_ltL, p_Llt, p_addL, p_subL, p_mulL, p_LmulL, p_eq, p_le, p_lt, p_add, p_sub, p_mul, p_clamp, if_pos, if_neg]
      rw [e1 1 (by omega) (by omega), f1 1 (by omega), hL.2.2 i (by omega)]
      refine ih _ _ ⟨i + 1, by omega, rfl, fun o z1 z2 => by rw [p_off z2]; exact e1 o z1 z2, fun j z1 z2 => by rw [p_off (by decide)]; exact e2 j z1 z2, by rw [p_off (by decide)]; exact e3, by rw [p_off (by decide)]; exact e4, fun j hj => ?_⟩ ?_
      · by_cases y : j = i
        · subst y; rw [p_at]
        · rw [p_on y]; exact e5 j (by omega)
      · show _ - (nI (_ + 1)).toNatClampNeg < _ - (nI _).toNatClampNeg
        rw [p_clamp (by omega), p_clamp (by omega)]
        omega
  by_cases c1 : b < tot A - tot (Ap A c n r)
  · rw [if_pos c1]; exact upd (Or.inl c1)
  · rw [if_neg c1]
    by_cases c2 : tot A - tot (Ap A c n r) ≤ 0
    · rw [if_pos c2]; exact keep (by omega)
    · rw [if_neg c2]
      by_cases c3 : tot A - tot (Ap A c n r) = b
      · rw [if_pos c3]
        obtain ⟨m, s, m1, m2, m3, m4, m5, m6⟩ := q3 (by omega)
        rw [m_ahead (A := A) (r := r) (s := s) (m := m) (by rw [f1 0 (by omega)]; exact hM.1.2.1) h16 hr8 m3 hn5 m2 (fun j hj => by rw [f1 1 (by omega)]; exact hL.2.2 j hj) (by rw [f1 0 (by omega)]; exact m5) (fun j hj => by rw [f1 36 (by omega)]; exact m6 j hj), p_b]
        by_cases c4 : cdr n r < cdr m s
        · rw [if_neg (fun q => (p_cieq.mp q) c4)]
          exact upd (Or.inr ⟨c3, by omega, by rw [m4]; exact c4⟩)
        · rw [if_pos (p_cieq.mpr c4)]
          exact keep (fun q => by rw [m4] at q; omega)
      · rw [if_neg c3]; exact keep (by omega)
theorem m_fresh {A : aS} (hA : I_ok A) {g : z_S} (hM : R_M A g) (h16 : A 0 1 < 16) {c : Nat} (hc : c ≤ 99) {v : Int32} (hv : 0 ≤ v.toInt ∧ v.toInt ≤ 6) : wp (fX11_fresh (nI c) v g) (fun q => R_M A q.2 ∧ ∃ b k, BST A c (Sal A) b k ∧ q.1 = ansF b k v) := by
  have h3 : A 0 3 ≤ 4 := hA.1.2.2.2.2.1
  have hk8 := hA.1.2.1
  have ht := tot_le hA
  unfold fX11_fresh
  rw [m_yes (x := nI c) (b := 0) (c := 99) ⟨by rw [p_toInt (by omega)]; show (0 : Int) ≤ c; omega, by rw [p_toInt (by omega)]; show (c : Int) ≤ 99; omega⟩, p_b, if_neg n10, m_yes (b := 0) (c := 6) hv, p_b, if_neg n10, hM.1.2.1, if_neg (by rw [p_eqL (by omega) (by omega)]; omega)]
  apply wp_b
  refine wp_mono (m_totals hA hM) ?_
  rintro ⟨t, g1⟩ ⟨a1, a2, a3⟩
  simp only [] at a1 a2 a3 ⊢
  have a1 : t = nI (tot A) := a1
  subst a1
  rw [p_s, p_s, p_on (by decide), p_on (by decide), a2 0 (by omega), hM.1.2.1]
  try simp (disch := omega) only [p_g, p_b, p_s, p_gin, p_gblt, p_eqL, p_leL, p_Lle, p_ltL, p_Llt, p_addL, p_subL, p_mulL, p_LmulL, p_eq, p_le, p_lt, p_add, p_sub, p_mul, p_clamp, if_pos, if_neg]
  have hK0 : KF (A 0 1) g (z_wi (z_wi (z_wi g1 0 51 0) 0 50 0) 3 (A 0 1) (nI c)) := by
    refine ⟨fun o z1 z2 => ?_, fun k hk => ?_, fun k hk => ⟨?_, ?_, ?_⟩, fun k hk => ?_⟩
    · rw [p_off (by omega), p_off (by omega), p_off (by omega), a2 o (by omega)]
    · rw [p_off (by decide), p_on (by omega), p_on (by omega), a2 0 (by omega)]
    · rw [p_off (by decide), p_off (by decide), p_off (by decide), a2 2 (by omega)]
    · rw [p_on (by omega), p_off (by decide), p_off (by decide), a2 3 (by omega)]
    · rw [p_off (by decide), p_off (by decide), p_off (by decide), a2 4 (by omega)]
    · rw [p_off (by decide), p_off (by decide), p_off (by decide), a2 1 (by omega)]
  have hB0 : RB 0 0 (z_wi (z_wi (z_wi g1 0 51 0) 0 50 0) 3 (A 0 1) (nI c)) := ⟨by rw [p_off (by decide), p_on (by decide), p_at]; rfl, by omega, fun z => by omega⟩
  have h30 : (z_wi (z_wi (z_wi g1 0 51 0) 0 50 0) 3 (A 0 1) (nI c)).1 3 (A 0 1) = nI c := by rw [p_at]
  generalize z_wi (z_wi (z_wi g1 0 51 0) 0 50 0) 3 (A 0 1) (nI c) = g2 at *
  have row8 : ∀ l x n, l < A 0 3 → x + n ≤ A 8 l → ∀ j, j < n → rwf A l x j < A 0 0 := fun l x n hl hx j hj => (hA.2.2.2.2.2.1 l hl).2.2 (x + j) (by omega)
  refine wp_loop (P := fun a g' => ∃ l b k, l ≤ A 0 3 ∧ a = (v, nI (tot A), nI l) ∧ KF (A 0 1) g g' ∧ g'.1 3 (A 0 1) = nI c ∧ RB b k g' ∧ BST A c (Spr A (fun l' _ _ => l' < l)) b k) (μ := fun a _ => A 0 3 - a.2.2.toNatClampNeg) ?_ zN _ _ ⟨0, 0, 0, by omega, rfl, hK0, h30, hB0, BST_0 (fun k ⟨l, x, n, q, _⟩ => by omega)⟩ (by show A 0 3 - _ < zN; rw [p_zN]; omega)
  rintro rc a g3 ⟨l, b, k, hl, rfl, e1, e2, e3, e4⟩ ih
  have hM3 := e1.M hA hM
  simp only [fX11_fresh_B69]
  rw [hM3.1.2.2.2.1]
  have hcl := p_le (a := A 0 3) (b := l) (by omega) (by omega)
  by_cases cl : A 0 3 ≤ l
  · rw [if_pos (hcl.mpr cl)]
    have hSal : BST A c (Sal A) b k := Spr_c (fun l' x' n' k' w => ⟨fun _ => trivial, fun _ => by have := w.1; omega⟩) e4
    obtain ⟨q1, q2, q3⟩ := e3
    rw [q1]
    by_cases b0 : b = 0
    · rw [if_pos (by rw [b0]; rfl)]
      refine wp_some ⟨hM3, b, k, hSal, ?_⟩
      unfold ansF; rw [if_pos b0]
    · rw [if_neg (nI0 (by omega) b0)]
      obtain ⟨m, s, m1, m2, m3, m4, m5, m6⟩ := q3 (by omega)
      have ok : ∀ r, r = ansF b k v → wp (some (r, g3)) (fun q => R_M A q.2 ∧ ∃ b k, BST A c (Sal A) b k ∧ q.1 = ansF b k v) := fun r hr => wp_some ⟨hM3, b, k, hSal, hr⟩
      by_cases v0 : v = 0
      · rw [if_pos v0]
        exact ok _ (by unfold ansF; rw [if_neg b0, if_pos v0])
      · rw [if_neg v0]
        by_cases v1 : v = 1
        · rw [if_pos v1, m5]
          exact ok _ (by unfold ansF; rw [if_neg b0, if_neg v0, if_pos v1, m4, lenC_cdr m3 m2])
        · rw [if_neg v1, m5]
          obtain ⟨i, i1, i2, rfl⟩ : ∃ i, 2 ≤ i ∧ i ≤ 6 ∧ v = nI i := by
            obtain ⟨i, -, h2, rfl⟩ := p_rng (a := 0) (b := 6) (by decide) hv
            refine ⟨i, ?_, h2, rfl⟩
            have : i ≠ 0 := fun z => v0 (by rw [z]; rfl)
            have : i ≠ 1 := fun z => v1 (by rw [z]; rfl)
            omega
          have ea : ansF b k (nI i) = if dgC k (i - 2) = 0 then -1 else nI (dgC k (i - 2) - 1) := by
            unfold ansF
            rw [if_neg b0, if_neg v0, if_neg v1, p_subL (by omega), p_clamp (by omega)]
          try simp (disch := omega) only [p_g, p_b, p_s, p_gin, p_gblt, p_eqL, p_leL, p_Lle, p_ltL, p_Llt, p_addL, p_subL, p_mulL, p_LmulL, p_eq, p_le, p_lt, p_add, p_sub, p_mul, p_clamp, if_pos, if_neg]
          have hdk : dgC k (i - 2) = dgi m s (i - 2) := by rw [m4, dgC_cdr m3 (by omega)]
          rw [hdk] at ea
          unfold dgi at ea
          by_cases cm : m ≤ i - 2
          · rw [if_pos cm]
            refine ok _ ?_
            rw [ea, if_pos (by rw [if_neg (by omega)])]
          · rw [if_neg cm]
            try simp (disch := omega) only [p_g, p_b, p_s, p_gin, p_gblt, p_eqL, p_leL, p_Lle, p_ltL, p_Llt, p_addL, p_subL, p_mulL, p_LmulL, p_eq, p_le, p_lt, p_add, p_sub, p_mul, p_clamp, if_pos, if_neg]
            rw [m6 _ (by omega)]
            refine ok _ ?_
            rw [ea, if_neg (by rw [if_pos (by omega)]; omega), if_pos (by omega), Nat.add_sub_cancel]
  · rw [if_neg (fun q => cl (hcl.mp q))]
    have hl' : l < A 0 3 := by omega
    obtain ⟨l1, l2, l3⟩ := hA.2.2.2.2.2.1 l hl'
    refine wp_loop (P := fun a g' => ∃ x b k, x ≤ A 8 l ∧ a = (v, nI (tot A), nI l, nI x) ∧ KF (A 0 1) g g' ∧ g'.1 3 (A 0 1) = nI c ∧ RB b k g' ∧ BST A c (Spr A (fun l' x' _ => l' < l ∨ (l' = l ∧ x' < x))) b k) (μ := fun a _ => A 8 l - a.2.2.2.toNatClampNeg) ?_ zN _ _ ⟨0, b, k, by omega, rfl, e1, e2, e3, Spr_c (fun l' x' n' k' w => ⟨fun q => Or.inl q, fun q => q.elim (fun z => z) (fun z => by omega)⟩) e4⟩ (by show A 8 l - _ < zN; rw [p_zN]; omega)
    rintro rc2 a g4 ⟨x, b2, k2, hx, rfl, f1, f2, f3, f4⟩ ih2
    have hM4 := f1.M hA hM
    simp only [fX11_fresh_B81]
    rw [p_clamp (n := l) (by omega), (hM4.2.2.2.2.2.1 l hl').1]
    try simp (disch := omega) only [p_g, p_b, p_s, p_gin, p_gblt, p_eqL, p_leL, p_Lle, p_ltL, p_Llt, p_addL, p_subL, p_mulL, p_LmulL, p_eq, p_le, p_lt, p_add, p_sub, p_mul, p_clamp, if_pos, if_neg]
    by_cases cx : A 8 l ≤ x
    · rw [if_pos cx]
      refine ih _ _ ⟨l + 1, b2, k2, by omega, rfl, f1, f2, f3, Spr_c (fun l' x' n' k' w => ?_) f4⟩ ?_
      · obtain ⟨w1, w2, w3, w4, -⟩ := w
        constructor
        · intro q; omega
        · intro q
          by_cases z : l' < l
          · exact Or.inl z
          · have hll : l' = l := by omega
            subst hll
            exact Or.inr ⟨rfl, by omega⟩
      · show _ - (nI (_ + 1)).toNatClampNeg < _ - (nI _).toNatClampNeg
        rw [p_clamp (by omega), p_clamp (by omega)]
        omega
    · rw [if_neg cx]
      refine wp_loop (P := fun a g' => ∃ n b k, 2 ≤ n ∧ n ≤ 6 ∧ a = (v, nI (tot A), nI l, nI x, nI n) ∧ KF (A 0 1) g g' ∧ g'.1 3 (A 0 1) = nI c ∧ RB b k g' ∧ BST A c (Spr A (fun l' x' n' => l' < l ∨ (l' = l ∧ (x' < x ∨ (x' = x ∧ n' < n))))) b k) (μ := fun a _ => 6 - a.2.2.2.2.toNatClampNeg) ?_ zN _ _ ⟨2, b2, k2, by omega, by omega, rfl, f1, f2, f3, Spr_c (fun l' x' n' k' w => by have := w.2.1; omega) f4⟩ (by show 6 - _ < zN; rw [p_zN]; omega)
      rintro rc3 a g5 ⟨n, b3, k3, hn, hn6, rfl, d1, d2, d3, d4⟩ ih3
      have hM5 := d1.M hA hM
      simp only [fX11_fresh_B96]
      rw [p_clamp (n := l) (by omega), (hM5.2.2.2.2.2.1 l hl').1]
      try simp (disch := omega) only [p_g, p_b, p_s, p_gin, p_gblt, p_eqL, p_leL, p_Lle, p_ltL, p_Llt, p_addL, p_subL, p_mulL, p_LmulL, p_eq, p_le, p_lt, p_add, p_sub, p_mul, p_clamp, if_pos, if_neg]
      have next : (∀ n', n ≤ n' → n' ≤ 5 → ¬ x + n' ≤ A 8 l) → wp (rc2 (v, nI (tot A), nI l, nI (x + 1)) g5) (fun q => R_M A q.2 ∧ ∃ b k, BST A c (Sal A) b k ∧ q.1 = ansF b k v) := by
        intro hno
        refine ih2 _ _ ⟨x + 1, b3, k3, by omega, rfl, d1, d2, d3, Spr_c (fun l' x' n' k' w => ?_) d4⟩ ?_
        · obtain ⟨w1, w2, w3, w4, -⟩ := w
          constructor
          · intro q; omega
          · rintro (q | ⟨q1, q2⟩)
            · exact Or.inl q
            · subst q1
              refine Or.inr ⟨rfl, ?_⟩
              by_cases z : x' < x
              · exact Or.inl z
              · have hxx : x' = x := by omega
                subst hxx
                refine Or.inr ⟨rfl, ?_⟩
                exact Classical.byContradiction (fun y => hno n' (by omega) w3 w4)
        · show _ - (nI (_ + 1)).toNatClampNeg < _ - (nI _).toNatClampNeg
          rw [p_clamp (by omega), p_clamp (by omega)]
          omega
      by_cases c6 : 6 ≤ n
      · rw [if_pos c6]
        exact next (fun n' z1 z2 => by omega)
      · rw [if_neg c6]
        by_cases c8 : A 8 l < x + n
        · rw [if_pos c8]
          exact next (fun n' z1 z2 z3 => by omega)
        · rw [if_neg c8]
          have hdec : 6 - (nI (n + 1)).toNatClampNeg < 6 - (nI n).toNatClampNeg := by
            rw [p_clamp (by omega), p_clamp (by omega)]
            omega
          have hr := row8 l x n hl' (by omega)
          apply wp_b
          refine wp_mono (m_layW hA hM5 h16 hl' (by omega) hn (by omega)) ?_
          rintro ⟨r0, g6⟩ ⟨j1, j2, j3, j4⟩
          simp only [] at j1 j2 j3 j4 ⊢
          subst j4
          have hRB : RB b3 k3 g6 := by
            obtain ⟨y1, y2, y3⟩ := d3
            exact ⟨by rw [j2 0 (by omega) (by omega) (by omega)]; exact y1, y2, fun z => by rw [j2 0 (by omega) (by omega) (by omega), j2 36 (by omega) (by omega) (by omega)]; exact y3 z⟩
          have h3c : g6.1 3 (A 0 1) = nI c := by rw [j2 3 (by omega) (by omega) (by omega)]; exact d2
          by_cases ca : agn A (A 0 1) n (rwf A l x)
          · rw [ci_f (fun q => q ca), if_pos nI00]
            refine ih3 _ _ ⟨n + 1, b3, k3, by omega, by omega, rfl, d1.tr j1, h3c, hRB, Spr_c (fun l' x' n' k' w => ?_) d4⟩ hdec
            constructor
            · intro q; omega
            · intro q
              by_cases z : l' = l ∧ x' = x ∧ n' = n
              · obtain ⟨rfl, rfl, rfl⟩ := z
                exact absurd ca w.2.2.2.2.2
              · omega
          · rw [ci_t ca, if_neg nI10]
            apply wp_b
            refine wp_mono (m_try hA (j1.M hA hM5) h16 hc hn (by omega) hr ca j3 h3c hRB d4) ?_
            rintro ⟨u, g7⟩ ⟨i1, i2, b', k', i3, i4⟩
            simp only [] at i1 i2 i3 ⊢
            refine ih3 _ _ ⟨n + 1, b', k', by omega, by omega, rfl, (d1.tr j1).tr i1, by rw [i2]; exact h3c, i3, BST_congr (fun k' => ⟨?_, ?_⟩) i4⟩ hdec
            · rintro (⟨l', x', n', q, w⟩ | q)
              · exact ⟨l', x', n', by omega, w⟩
              · exact ⟨l, x, n, by omega, hl', hn, by omega, by omega, q, ca⟩
            · rintro ⟨l', x', n', q, w⟩
              by_cases z : l' = l ∧ x' = x ∧ n' = n
              · obtain ⟨rfl, rfl, rfl⟩ := z
                exact Or.inr w.2.2.2.2.1
              · exact Or.inl ⟨l', x', n', by omega, w⟩

/-! states of knowing: the class finds and keeps -/
theorem hN_ex : ∃ f : Int64 → Int64 → Nat, ∀ a b : Int64, f a b < 1024 ∧ (((((a ^^^ (b * 31)) * (-7046029254386353131)).toUInt64 >>> ((54 : Int32).toInt64.toUInt64 &&& Int64.toUInt64 63)).toInt64).toInt32) &&& 1023 = nI (f a b) := by
  have key : ∀ x : Int32, (x &&& 1023).toNatClampNeg < 1024 ∧ x &&& 1023 = nI (x &&& 1023).toNatClampNeg := by
    intro x
    obtain ⟨j, h1, h2⟩ := pk_andE x (m := 1023) 10 (by decide)
    rw [h2, p_clamp (by omega)]
    exact ⟨by omega, rfl⟩
  exact ⟨fun a b => ((((((a ^^^ (b * 31)) * (-7046029254386353131)).toUInt64 >>> ((54 : Int32).toInt64.toUInt64 &&& Int64.toUInt64 63)).toInt64).toInt32) &&& 1023).toNatClampNeg, fun a b => key _⟩
noncomputable def hN : Int64 → Int64 → Nat := hN_ex.choose
theorem hN_e (a b : Int64) : hN a b < 1024 ∧ (((((a ^^^ (b * 31)) * (-7046029254386353131)).toUInt64 >>> ((54 : Int32).toInt64.toUInt64 &&& Int64.toUInt64 63)).toInt64).toInt32) &&& 1023 = nI (hN a b) := hN_ex.choose_spec a b
theorem x_head {g : z_S} : fX4_head_60 g = some (nI (hN (g.2 60 0) (g.2 60 1)), g) := by
  unfold fX4_head_60
  rw [(hN_e _ _).2]
noncomputable def lst (P : Nat → Prop) : Nat → Int32
  | 0 => -1
  | k + 1 => cit (P k) (nI k) (lst P k)
theorem lst_congr {P P' : Nat → Prop} : ∀ k, (∀ t, t < k → (P t ↔ P' t)) → lst P k = lst P' k
  | 0, _ => rfl
  | k + 1, h => by
    rw [lst, lst, lst_congr k (fun t ht => h t (by omega))]
    have := h k (by omega)
    by_cases c : P k
    · rw [cit_t c, cit_t (this.mp c)]
    · rw [cit_f c, cit_f (fun q => c (this.mpr q))]
theorem lst_v {P : Nat → Prop} : ∀ k, (lst P k = -1 ∧ ∀ t, t < k → ¬ P t) ∨ ∃ t, t < k ∧ P t ∧ lst P k = nI t ∧ ∀ u, t < u → u < k → ¬ P u
  | 0 => Or.inl ⟨rfl, fun t h => by omega⟩
  | k + 1 => by
    rw [lst]
    by_cases c : P k
    · rw [cit_t c]
      exact Or.inr ⟨k, by omega, c, rfl, fun u h1 h2 => by omega⟩
    · rw [cit_f c]
      rcases lst_v (P := P) k with ⟨h1, h2⟩ | ⟨t, h1, h2, h3, h4⟩
      · refine Or.inl ⟨h1, fun t ht => ?_⟩
        by_cases z : t = k
        · subst z; exact c
        · exact h2 t (by omega)
      · refine Or.inr ⟨t, by omega, h2, h3, fun u k1 k2 => ?_⟩
        by_cases z : u = k
        · subst z; exact c
        · exact h4 u k1 (by omega)
/-- the class's states -/
def BX (A : aS) (σ : BS) (g : z_S) : Prop := g.1 47 2 = nI σ.2.2.2.2 ∧ (∀ t, t < σ.2.2.2.2 → CR (A 0 1) (A 1) (σ.1 t) (g.2 48 t) (g.2 49 t)) ∧ (∀ h, h < 1024 → g.1 50 h = lst (fun t => hN (g.2 48 t) (g.2 49 t) = h) σ.2.2.2.2) ∧ (∀ t, t < σ.2.2.2.2 → g.1 51 t = lst (fun u => hN (g.2 48 u) (g.2 49 u) = hN (g.2 48 t) (g.2 49 t)) t)
def BP (σ : BS) (g : z_S) : Prop := ∀ t, t < σ.2.2.2.2 → 1 ≤ σ.2.2.2.1 t → g.1 52 t = nI (σ.2.1 t) ∧ g.1 53 t = nI (σ.2.2.1 t)
theorem BX.ag {A : aS} {σ : BS} {g g' : z_S} (h : BX A σ g) (h1 : g'.1 47 2 = g.1 47 2) (h2 : g'.1 50 = g.1 50) (h3 : g'.1 51 = g.1 51) (h4 : g'.2 48 = g.2 48) (h5 : g'.2 49 = g.2 49) : BX A σ g' := by
  unfold BX at *
  rw [h1, h2, h3, h4, h5]
  exact h
theorem x_find {A : aS} (hA : I_ok A) (hn0 : 0 < A 0 1) {σ : BS} (hN2 : σ.2.2.2.2 ≤ 2000) (hV : ∀ t, t < σ.2.2.2.2 → Vd (A 0 1) (A 1) (σ.1 t)) {g : z_S} (hB : BX A σ g) {y : Stt} (hy : Vd (A 0 1) (A 1) y) (hC : CR (A 0 1) (A 1) y (g.2 60 0) (g.2 60 1)) : wp (fX1_find g) (fun q => q.2 = g ∧ ((q.1 = -1 ∧ ¬ seen σ y) ∨ ∃ t, t < σ.2.2.2.2 ∧ σ.1 t = y ∧ q.1 = nI t)) := by
  have hL := LO_A hA
  obtain ⟨h1, h2, h3, h4⟩ := hB
  unfold fX1_find
  rw [x_head, p_b]
  have hh := (hN_e (g.2 60 0) (g.2 60 1)).1
  have hinj : ∀ t, t < σ.2.2.2.2 → ((g.2 48 t = g.2 60 0 ∧ g.2 49 t = g.2 60 1) ↔ σ.1 t = y) := fun t ht => CR_inj hL hn0 (hV t ht) hy (h2 t ht) hC
  generalize hhh : hN (g.2 60 0) (g.2 60 1) = h at *
  try simp (disch := omega) only [p_g, p_b, p_s, p_gin, p_gblt, p_eqL, p_leL, p_Lle, p_ltL, p_Llt, p_addL, p_subL, p_mulL, p_LmulL, p_eq, p_le, p_lt, p_add, p_sub, p_mul, p_clamp, if_pos, if_neg]
  rw [h3 h hh]
  refine wp_loop (P := fun a g' => ∃ k sn, k ≤ σ.2.2.2.2 ∧ sn + k ≤ σ.2.2.2.2 ∧ a = (lst (fun t => hN (g.2 48 t) (g.2 49 t) = h) k, nI sn) ∧ g' = g ∧ ∀ t, k ≤ t → t < σ.2.2.2.2 → σ.1 t ≠ y) (μ := fun a _ => 2001 - a.2.toNatClampNeg) ?_ zN _ _ ⟨σ.2.2.2.2, 0, by omega, by omega, rfl, rfl, fun t z1 z2 => by omega⟩ (by show 2001 - _ < zN; rw [p_zN]; omega)
  rintro rc a g' ⟨k, sn, hk, hsn, rfl, rfl, e⟩ ih
  simp only [fX1_find_B15]
  try simp (disch := omega) only [p_g, p_b, p_s, p_gin, p_gblt, p_eqL, p_leL, p_Lle, p_ltL, p_Llt, p_addL, p_subL, p_mulL, p_LmulL, p_eq, p_le, p_lt, p_add, p_sub, p_mul, p_clamp, if_pos, if_neg]
  have none : (∀ t, t < k → ¬ hN (g'.2 48 t) (g'.2 49 t) = h) → wp (some ((-1 : Int32), g')) (fun q => q.2 = g' ∧ ((q.1 = -1 ∧ ¬ seen σ y) ∨ ∃ t, t < σ.2.2.2.2 ∧ σ.1 t = y ∧ q.1 = nI t)) := by
    intro q
    refine wp_some ⟨rfl, Or.inl ⟨rfl, ?_⟩⟩
    rintro ⟨t, z1, z2⟩
    by_cases z : k ≤ t
    · exact e t z z1 z2
    · obtain ⟨q1, q2⟩ := (hinj t z1).mpr z2
      exact q t (by omega) (by rw [q1, q2]; exact hhh)
  by_cases c : 2000 ≤ sn
  · rw [if_pos c]
    exact none (fun t ht => by omega)
  · rw [if_neg c]
    rcases lst_v (P := fun t => hN (g'.2 48 t) (g'.2 49 t) = h) k with ⟨k1, k2⟩ | ⟨t, k1, k2, k3, k4⟩
    · rw [k1, if_pos rfl]
      exact none k2
    · rw [k3, if_neg (nIm1 (by omega))]
      try simp (disch := omega) only [p_g, p_b, p_s, p_gin, p_gblt, p_eqL, p_leL, p_Lle, p_ltL, p_Llt, p_addL, p_subL, p_mulL, p_LmulL, p_eq, p_le, p_lt, p_add, p_sub, p_mul, p_clamp, if_pos, if_neg]
      have next : σ.1 t ≠ y → wp (fX1_find_J63 rc (nI t) (nI sn) g') (fun q => q.2 = g' ∧ ((q.1 = -1 ∧ ¬ seen σ y) ∨ ∃ t, t < σ.2.2.2.2 ∧ σ.1 t = y ∧ q.1 = nI t)) := by
        intro hne
        unfold fX1_find_J63
        try simp (disch := omega) only [p_g, p_b, p_s, p_gin, p_gblt, p_eqL, p_leL, p_Lle, p_ltL, p_Llt, p_addL, p_subL, p_mulL, p_LmulL, p_eq, p_le, p_lt, p_add, p_sub, p_mul, p_clamp, if_pos, if_neg]
        rw [h4 t (by omega), k2]
        refine ih _ _ ⟨t, sn + 1, by omega, by omega, rfl, rfl, fun u z1 z2 => ?_⟩ ?_
        · by_cases z : u = t
          · subst z; exact hne
          · by_cases y2 : k ≤ u
            · exact e u y2 z2
            · intro q
              obtain ⟨q1, q2⟩ := (hinj u z2).mpr q
              exact k4 u (by omega) (by omega) (by rw [q1, q2]; exact hhh)
        · show _ - (nI (_ + 1)).toNatClampNeg < _ - (nI _).toNatClampNeg
          rw [p_clamp (by omega), p_clamp (by omega)]
          omega
      by_cases c1 : g'.2 48 t = g'.2 60 0
      · rw [if_pos c1]
        by_cases c2 : g'.2 49 t = g'.2 60 1
        · rw [if_pos c2]
          exact wp_some ⟨rfl, Or.inr ⟨t, by omega, (hinj t (by omega)).mp ⟨c1, c2⟩, rfl⟩⟩
        · rw [if_neg c2]
          exact next (fun q => c2 ((hinj t (by omega)).mpr q).2)
      · rw [if_neg c1]
        exact next (fun q => c1 ((hinj t (by omega)).mpr q).1)
theorem x_keep {A : aS} {σ : BS} (hN2 : σ.2.2.2.2 < 2000) {g : z_S} (hB : BX A σ g) {y : Stt} (hC : CR (A 0 1) (A 1) y (g.2 60 0) (g.2 60 1)) {s c : Nat} : wp (fX1_keep g) (fun q => BX A (badd σ y s c) q.2 ∧ (∀ o, o ≠ 47 → o ≠ 50 → o ≠ 51 → q.2.1 o = g.1 o) ∧ (∀ o, o ≠ 48 → o ≠ 49 → q.2.2 o = g.2 o)) := by
  obtain ⟨T, F, Bb, D, N⟩ := σ
  obtain ⟨h1, h2, h3, h4⟩ := hB
  simp only [] at hN2 h1 h2 h3 h4
  unfold fX1_keep
  have hh := (hN_e (g.2 60 0) (g.2 60 1)).1
  simp (disch := omega) only [x_head, p_off, p_on, p_wi2, p_wl1, p_Loff, h1, p_g, p_b, p_s, p_gin, p_gblt, p_eqL, p_leL, p_Lle, p_ltL, p_Llt, p_addL, p_subL, p_mulL, p_LmulL, p_eq, p_le, p_lt, p_add, p_sub, p_mul, p_clamp, if_pos, if_neg]
  refine wp_some ⟨⟨?_, fun t ht => ?_, fun h hlt => ?_, fun t ht => ?_⟩, fun o z1 z2 z3 => ?_, fun o z1 z2 => ?_⟩
  · rw [p_at]; rfl
  · have ht : t < N + 1 := ht
    show CR _ _ (if t = N then y else T t) _ _
    by_cases z : t = N
    · subst z
      simp (disch := omega) only [if_true, p_wi2, p_Loff, p_Lat]
      exact hC
    · simp (disch := omega) only [if_neg, p_wi2, p_Loff, p_Lon]
      exact h2 t (by omega)
  · have hH : ∀ t, t < N → ((hN ((z_wl (z_wl g 48 N (g.2 60 0)) 49 N (g.2 60 1)).2 48 t) ((z_wl (z_wl g 48 N (g.2 60 0)) 49 N (g.2 60 1)).2 49 t) = h) ↔ hN (g.2 48 t) (g.2 49 t) = h) := by
      intro t ht
      simp (disch := omega) only [p_Loff, p_Lon]
    have hHN : hN ((z_wl (z_wl g 48 N (g.2 60 0)) 49 N (g.2 60 1)).2 48 N) ((z_wl (z_wl g 48 N (g.2 60 0)) 49 N (g.2 60 1)).2 49 N) = hN (g.2 60 0) (g.2 60 1) := by
      simp (disch := omega) only [p_Loff, p_Lat]
    show _ = lst _ (N + 1)
    simp (disch := omega) only [p_wi2]
    rw [lst, lst_congr N hH]
    by_cases z : hN (g.2 60 0) (g.2 60 1) = h
    · rw [cit_t (hHN.trans z), p_off (by decide), ← z, p_at]
    · rw [cit_f (fun q => z (hHN.symm.trans q)), p_off (by decide), p_on (fun q => z q.symm), p_off (by decide)]
      exact h3 h hlt
  · have ht : t < N + 1 := ht
    simp (disch := omega) only [p_wi2]
    rw [p_off (by decide), p_off (by decide)]
    by_cases z : t = N
    · subst z
      rw [p_at]
      show g.1 50 _ = _
      rw [h3 _ hh]
      refine lst_congr t (fun u hu => ?_)
      simp (disch := omega) only [p_Loff, p_Lon, p_Lat]
    · rw [p_on z]
      show g.1 51 t = _
      rw [h4 t (by omega)]
      refine lst_congr t (fun u hu => ?_)
      simp (disch := omega) only [p_Loff, p_Lon]
  · simp (disch := omega) only [p_off, p_wl1]
  · simp (disch := omega) only [p_wi2, p_Loff]
theorem lst_0 {P : Nat → Prop} : lst P 0 = -1 := by rw [lst]
def e0 (y : Stt) : BS := (fun _ => y, fun _ => 0, fun _ => 0, fun _ => 0, 0)
theorem e0_n {y : Stt} : (e0 y).2.2.2.2 = 0 := rfl
theorem BX_e0 {A : aS} {y : Stt} {g : z_S} (h1 : g.1 47 2 = nI 0) (h2 : ∀ k, k < 1024 → g.1 50 k = -1) : BX A (e0 y) g := by
  unfold BX
  rw [e0_n]
  refine ⟨h1, fun t ht => by omega, fun k hk => ?_, fun t ht => by omega⟩
  rw [lst_0]; exact h2 k hk
theorem b0_1 {y : Stt} {t : Nat} : (b0 y).1 t = y := rfl
theorem b0_n {y : Stt} : (b0 y).2.2.2.2 = 1 := rfl
theorem ea_n {y : Stt} : (badd (e0 y) y 0 0).2.2.2.2 = 1 := rfl
theorem ea_1 {y : Stt} {t : Nat} : (badd (e0 y) y 0 0).1 t = y := by
  show (if t = 0 then y else y) = y
  split <;> rfl
theorem BX_b0 {A : aS} {y : Stt} {g : z_S} (h : BX A (badd (e0 y) y 0 0) g) : BX A (b0 y) g := by
  unfold BX at *
  rw [ea_n] at h
  rw [b0_n]
  obtain ⟨q1, q2, q3, q4⟩ := h
  refine ⟨q1, fun t ht => ?_, q3, q4⟩
  have := q2 t ht
  rw [ea_1] at this
  rw [b0_1]; exact this
theorem x_begin2 {A : aS} {g g1 : z_S} {y : Stt} (hC : CR (A 0 1) (A 1) y (g.2 60 0) (g.2 60 1)) (e1 : ∀ o, o ≠ 50 → g1.1 o = g.1 o) (e2 : g1.2 = g.2) (e3 : ∀ k, k < 1024 → g1.1 50 k = -1) : wp (z_s (z_wi g1 47 2 0) (fun g24 => (z_b (fX1_keep g24) (fun _ g28 => (some ((), g28)))))) (fun q => BX A (b0 y) q.2 ∧ (∀ o, o ≠ 47 → o ≠ 50 → o ≠ 51 → q.2.1 o = g.1 o) ∧ (∀ o, o ≠ 48 → o ≠ 49 → q.2.2 o = g.2 o)) := by
  rw [p_s]
  apply wp_b
  have hB0 : BX A (e0 y) (z_wi g1 47 2 0) := BX_e0 (by rw [p_at]; rfl) (fun k hk => by rw [p_off (by decide)]; exact e3 k hk)
  refine wp_mono (x_keep (s := 0) (c := 0) (by rw [e0_n]; omega) hB0 (y := y) (by rw [p_wi2, e2]; exact hC)) ?_
  rintro ⟨u, g2⟩ ⟨k1, k2, k3⟩
  simp only [] at k1 k2 k3 ⊢
  refine wp_some ⟨?_, fun o z1 z2 z3 => ?_, fun o z1 z2 => ?_⟩
  · exact BX_b0 k1
  · rw [k2 o z1 z2 z3, p_off z1]; exact e1 o z2
  · rw [k3 o z1 z2, p_wi2, e2]
theorem x_begin {A : aS} {g : z_S} {y : Stt} (hC : CR (A 0 1) (A 1) y (g.2 60 0) (g.2 60 1)) : wp (fX1_begin g) (fun q => BX A (b0 y) q.2 ∧ (∀ o, o ≠ 47 → o ≠ 50 → o ≠ 51 → q.2.1 o = g.1 o) ∧ (∀ o, o ≠ 48 → o ≠ 49 → q.2.2 o = g.2 o)) := by
  unfold fX1_begin
  obtain ⟨M, hM⟩ : ∃ M : Nat, M = 1024 := ⟨_, rfl⟩
  refine wp_loop (P := fun a g' => ∃ h, h ≤ M ∧ a = nI h ∧ (∀ o, o ≠ 50 → g'.1 o = g.1 o) ∧ g'.2 = g.2 ∧ ∀ k, k < h → g'.1 50 k = -1) (μ := fun a _ => M - a.toNatClampNeg) ?_ zN _ _ ⟨0, by omega, rfl, fun _ _ => rfl, rfl, fun k h => by omega⟩ (by rw [p_zN]; omega)
  rintro rc a g1 ⟨h, hh, rfl, e1, e2, e3⟩ ih
  simp only [fX1_begin_B2]
  have hL : (1024 : Int32) ≤ nI h ↔ 1024 ≤ h := p_le (a := 1024) (b := h) (by omega) (by omega)
  by_cases c : 1024 ≤ h
  · rw [if_pos (hL.mpr c)]
    exact x_begin2 hC e1 e2 (fun k hk => e3 k (by omega))
  · rw [if_neg (fun q => c (hL.mp q))]
    try simp (disch := omega) only [p_g, p_b, p_s, p_gin, p_gblt, p_eqL, p_leL, p_Lle, p_ltL, p_Llt, p_addL, p_subL, p_mulL, p_LmulL, p_eq, p_le, p_lt, p_add, p_sub, p_mul, p_clamp, if_pos, if_neg]
    refine ih _ _ ⟨h + 1, by omega, rfl, fun o ho => ?_, e2, fun k hk => ?_⟩ ?_
    · rw [p_off ho]; exact e1 o ho
    · by_cases z : k = h
      · subst z; rw [p_at]
      · rw [p_on z]; exact e3 k (by omega)
    · show _ - (nI (_ + 1)).toNatClampNeg < _ - (nI _).toNatClampNeg
      rw [p_clamp (by omega), p_clamp (by omega)]
      omega
theorem x_any {A : aS} (hA : I_ok A) {g : z_S} (hY : YL A g) : wp (fX1_beAnywhere g) (fun q => q.2.1 = g.1 ∧ (∀ o, o ≠ 60 → q.2.2 o = g.2 o) ∧ CR (A 0 1) (A 1) (pAll (A 0 1) (A 1)) (q.2.2 60 0) (q.2.2 60 1)) := by
  have hk8 := hA.1.2.1
  unfold fX1_beAnywhere fX4_empty_60
  rw [p_s, p_s, p_b]
  refine wp_loop (P := fun a g' => ∃ c, c ≤ 8 ∧ a = nI c ∧ g'.1 = g.1 ∧ (∀ o, o ≠ 60 → g'.2 o = g.2 o) ∧ ∀ k, k < 128 → (bt (g'.2 60 0) (g'.2 60 1) k = true ↔ ∃ d, d < c ∧ bt (g.2 56 d) (g.2 57 d) k = true)) (μ := fun a _ => 8 - a.toNatClampNeg) ?_ zN _ _ ⟨0, by omega, rfl, rfl, fun o ho => by rw [p_Loff ho, p_Loff ho], fun k hk => ?_⟩ (by show 8 - _ < zN; rw [p_zN]; omega)
  · rintro rc a g1 ⟨c, hc, rfl, e1, e2, e3⟩ ih
    simp only [fX1_beAnywhere_B9]
    try simp (disch := omega) only [p_g, p_b, p_s, p_gin, p_gblt, p_eqL, p_leL, p_Lle, p_ltL, p_Llt, p_addL, p_subL, p_mulL, p_LmulL, p_eq, p_le, p_lt, p_add, p_sub, p_mul, p_clamp, if_pos, if_neg]
    by_cases c8 : 8 ≤ c
    · have : c = 8 := by omega
      subst this
      rw [if_pos c8]
      refine wp_some ⟨e1, e2, fun k hk => ?_⟩
      show bt (g1.2 60 0) (g1.2 60 1) k = true ↔ _
      rw [e3 k hk]
      constructor
      · rintro ⟨d, q1, q2⟩
        rcases (hY.2 d q1 k hk).mp q2 with ⟨v, i, r1, r2, r3, r4⟩ | ⟨i, r1, _⟩
        · refine ⟨v, i, r1, r2, r3, ?_⟩
          unfold ix pAll
          split
          · exact Or.inl rfl
          · exact Or.inr ⟨v, i, r1, by omega, r2, rfl⟩
        · omega
      · rintro ⟨v, i, r1, r2, r3, r4⟩
        have h4 := (hA.2.1 v r1).2.2.2.2 i r2
        exact ⟨A 4 (8 * v + i), by omega, (hY.2 _ (by omega) k hk).mpr (Or.inl ⟨v, i, r1, r2, r3, rfl⟩)⟩
    · rw [if_neg c8]
      refine ih _ _ ⟨c + 1, by omega, rfl, e1, fun o ho => ?_, fun k hk => ?_⟩ ?_
      · rw [p_Loff ho, p_Loff ho]; exact e2 o ho
      · simp (disch := omega) only [p_Loff, p_Lon, p_Lat]
        rw [bt_or, Bool.or_eq_true, e3 k hk, e2 56 (by omega), e2 57 (by omega)]
        constructor
        · rintro (⟨d, q1, q2⟩ | q)
          · exact ⟨d, by omega, q2⟩
          · exact ⟨c, by omega, q⟩
        · rintro ⟨d, q1, q2⟩
          by_cases z : d = c
          · subst z; exact Or.inr q2
          · exact Or.inl ⟨d, by omega, q2⟩
      · show _ - (nI (_ + 1)).toNatClampNeg < _ - (nI _).toNatClampNeg
        rw [p_clamp (by omega), p_clamp (by omega)]
        omega
  · rw [p_Lon (by decide), p_Lat, p_Lat, bt_0]
    exact ⟨fun q => by simp at q, fun ⟨d, q, _⟩ => by omega⟩
theorem x_like {A : aS} (hA : I_ok A) (hn0 : 0 < A 0 1) {g : z_S} (hY : YL A g) {y : Stt} (hy : Vd (A 0 1) (A 1) y) (hC : CR (A 0 1) (A 1) y (g.2 60 0) (g.2 60 1)) : fX4_isLike_60_58 g = some (nI (ci (y = pEnd)), g) := by
  have hi := CR_inj (LO_A hA) hn0 hy Vd_end hC (CR_first hA hY)
  unfold fX4_isLike_60_58
  by_cases c : y = pEnd
  · obtain ⟨q1, q2⟩ := hi.mpr c
    rw [if_pos q1, if_pos q2, ci_t c]; rfl
  · rw [ci_f c]
    by_cases z1 : g.2 60 0 = g.2 58 0
    · rw [if_pos z1, if_neg (fun z2 => c (hi.mp ⟨z1, z2⟩))]; rfl
    · rw [if_neg z1]; rfl
theorem x_empty {A : aS} (hA : I_ok A) (hn0 : 0 < A 0 1) {g : z_S} {y : Stt} (hy : Vd (A 0 1) (A 1) y) (hC : CR (A 0 1) (A 1) y (g.2 60 0) (g.2 60 1)) : fX4_isEmpty_60 g = some (nI (ci (y = pNon)), g) := by
  have hi := CR_inj (LO_A hA) hn0 hy Vd_non hC CR_non
  unfold fX4_isEmpty_60
  by_cases c : y = pNon
  · obtain ⟨q1, q2⟩ := hi.mpr c
    rw [if_pos q1, if_pos q2, ci_t c]; rfl
  · rw [ci_f c]
    by_cases z1 : g.2 60 0 = 0
    · rw [if_pos z1, if_neg (fun z2 => c (hi.mp ⟨z1, z2⟩))]; rfl
    · rw [if_neg z1]; rfl
theorem p_loop1 {α β : Type} {body : (α → z_S → Option β) → α → z_S → Option β} {a : α} {g : z_S} : z_loop body zN a g = body (z_loop body 999999) a g := rfl

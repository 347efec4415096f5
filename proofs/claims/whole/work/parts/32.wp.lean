/-! a function comes to an end with Q -/
def wp {β : Type} (x : Option β) (Q : β → Prop) : Prop := ∃ q, x = some q ∧ Q q
theorem wp_some {β : Type} {q : β} {Q : β → Prop} (h : Q q) : wp (some q) Q := ⟨q, rfl, h⟩
theorem wp_eq {β : Type} {x y : Option β} {Q : β → Prop} (e : x = y) (h : wp y Q) : wp x Q := e ▸ h
theorem wp_mono {β : Type} {x : Option β} {Q Q' : β → Prop} (h : wp x Q) (hQ : ∀ q, Q q → Q' q) : wp x Q' := by
  obtain ⟨q, e, h⟩ := h
  exact ⟨q, e, hQ q h⟩
theorem wp_b {α β : Type} {x : Option (α × z_S)} {f : α → z_S → Option β} {Q : β → Prop} (h : wp x (fun q => wp (f q.1 q.2) Q)) : wp (z_b x f) Q := by
  obtain ⟨q, e, h⟩ := h
  rw [e]
  exact h
theorem wp_g {β : Type} {b : Bool} {x : Option β} {Q : β → Prop} (hb : b = true) (h : wp x Q) : wp (z_g b x) Q := by
  rw [hb]
  exact h
theorem wp_ite {β : Type} {c : Prop} {d : Decidable c} {x y : Option β} {Q : β → Prop} (h1 : c → wp x Q) (h2 : ¬ c → wp y Q) : wp (if c then x else y) Q := by
  by_cases h : c
  · rw [if_pos h]; exact h1 h
  · rw [if_neg h]; exact h2 h
theorem wp_loop {α β : Type} {body : (α → z_S → Option β) → α → z_S → Option β} (P : α → z_S → Prop) (μ : α → z_S → Nat) {Q : β → Prop}
    (h : ∀ (rc : α → z_S → Option β) (a : α) (g : z_S), P a g → (∀ a' g', P a' g' → μ a' g' < μ a g → wp (rc a' g') Q) → wp (body rc a g) Q) : ∀ (n : Nat) (a : α) (g : z_S), P a g → μ a g < n → wp (z_loop body n a g) Q := by
  intro n
  induction n with
  | zero => intro a g _ hm; omega
  | succ n ih =>
    intro a g hP hm
    show wp (body (z_loop body n) a g) Q
    exact h _ a g hP (fun a' g' hP' hm' => ih a' g' hP' (by omega))
/-- both sides come to the same answer -/
theorem op_wp {α : Type} {fx fm : z_S → Option (α × z_S)} (h : ∀ (A : aS) (gx gm : z_S), I_ok A → R_X A gx → R_M A gm → ∃ (r : α) (A' : aS), I_ok A' ∧ wp (fx gx) (fun q => q.1 = r ∧ R_X A' q.2 ∧ Cs A A' gx q.2) ∧ wp (fm gm) (fun q => q.1 = r ∧ R_M A' q.2)) : Op0 fx fm := by
  intro A gx gm hA hX hM
  obtain ⟨r, A', h1, ⟨q, e, h2, h3, h4⟩, ⟨q', e', h5, h6⟩⟩ := h A gx gm hA hX hM
  refine ⟨r, q.2, q'.2, A', ?_, ?_, h1, h3, h6, h4⟩
  · rw [e, ← h2]
  · rw [e', ← h5]
/-- a letter more in the draft -/
def apush (A : aS) (a : Nat) : aS := aw (aw A 7 (A 0 2) a) 0 2 (A 0 2 + 1)
theorem apush_2 {A : aS} {a : Nat} : apush A a 0 2 = A 0 2 + 1 := aw_at
theorem apush_0 {A : aS} {a j : Nat} (h : j ≠ 2) : apush A a 0 j = A 0 j := by
  unfold apush
  rw [aw_on h, aw_off (by decide)]
theorem apush_o {A : aS} {a c : Nat} (h : c ≠ 0) (h7 : c ≠ 7) : apush A a c = A c := by
  unfold apush
  rw [aw_off h, aw_off h7]
theorem apush_7 {A : aS} {a j : Nat} : apush A a 7 j = if j = A 0 2 then a else A 7 j := by
  unfold apush
  rw [aw_off (by decide), aw_e]
  simp
theorem I_push {A : aS} {a : Nat} (hA : I_ok A) (h : A 0 2 < 48) (ha : a < A 0 0) : I_ok (apush A a) := by
  obtain ⟨⟨a1, a2, a3, a4, a5, a6, a7⟩, aB, aC, aD, aE, aF, aG, aH⟩ := hA
  refine ⟨⟨?_, ?_, ?_, ?_, ?_, ?_, ?_⟩, ?_, ?_, ?_, ?_, ?_, ?_, ?_⟩ <;> (try simp (disch := omega) only [apush_2, apush_0, apush_o]) <;> (try assumption) <;> (try omega)
  intro i hi
  rw [apush_7]
  split
  · exact ha
  · exact aE i (by omega)
theorem RM_push {A : aS} {g : z_S} {a : Nat} (hM : R_M A g) : R_M (apush A a) (z_wi (z_wi g 7 (A 0 2) (nI a)) 0 9 (nI (A 0 2 + 1))) := by
  obtain ⟨⟨m1, m2, m3, m4, m5, m6⟩, mB, mC, mD, mE, mF, mG⟩ := hM
  refine ⟨⟨?_, ?_, ?_, ?_, ?_, ?_⟩, ?_, ?_, ?_, ?_, ?_, ?_⟩ <;> (try simp (disch := omega) only [apush_2, apush_0, apush_o, p_off, p_on, p_at]) <;> (try assumption) <;> (try rfl)
  intro i hi
  rw [apush_7, p_wi]
  by_cases h : i = A 0 2
  · subst h; simp
  · rw [if_neg (by omega), if_neg h]
    exact mE i (by omega)
theorem RX_push {A : aS} {g : z_S} {a : Nat} (hA : I_ok A) (hX : R_X A g) : R_X (apush A a) (z_wi (z_wi g 12 (A 0 2) (nI a)) 11 1 (nI (A 0 2 + 1))) := by
  obtain ⟨⟨x1, x2, x3, x4, x5, x6⟩, xB, xC, xD, xE, xF, xG, xH, xI, xJ⟩ := hX
  refine ⟨⟨?_, ?_, ?_, ?_, ?_, ?_⟩, ?_, ?_, ?_, ?_, ?_, ?_, ?_, ?_, ?_⟩ <;> (try simp (disch := omega) only [apush_2, apush_0, apush_o, p_off, p_on, p_at]) <;> (try assumption) <;> (try rfl)
  intro i hi
  rw [apush_7, p_wi]
  by_cases h : i = A 0 2
  · subst h; simp
  · rw [if_neg (by omega), if_neg h]
    exact xE i (by omega)
theorem Cs_push {A : aS} {g : z_S} {a : Nat} {x y : Int32} : Cs A (apush A a) g (z_wi (z_wi g 12 (A 0 2) x) 11 1 y) := by
  right
  refine ⟨⟨?_, ?_, ?_, ?_⟩, ⟨?_, ?_, ?_⟩, ⟨?_, ?_, ?_⟩, ?_⟩ <;> (try simp (disch := omega) only [apush_0, p_off, p_on, p_at])
  intro c h1 h2 h3
  exact apush_o (by omega) h3
theorem Cs.trans {A B C : aS} {g g1 g2 : z_S} (h1 : Cs A B g g1) (h2 : Cs B C g1 g2) (hF : Fgt g1 → Fgt g2 ∨ (g2.1 43 = g1.1 43 ∧ g2.1 45 = g1.1 45 ∧ g2.1 26 3 = g1.1 26 3)) : Cs A C g g2 := by
  rcases h1 with h1 | ⟨⟨a1, a2, a3, a4⟩, ⟨a5, a6, a7⟩, ⟨a8, a9, a10⟩, a11⟩
  · left
    rcases hF h1 with h | ⟨e1, e2, e3⟩
    · exact h
    · exact ⟨by rw [e1]; exact h1.1, by rw [e2]; exact h1.2.1, by rw [e3]; exact h1.2.2⟩
  · rcases h2 with h2 | ⟨⟨b1, b2, b3, b4⟩, ⟨b5, b6, b7⟩, ⟨b8, b9, b10⟩, b11⟩
    · exact Or.inl h2
    · exact Or.inr ⟨⟨b1.trans a1, b2.trans a2, b3.trans a3, b4.trans a4⟩, ⟨b5.trans a5, b6.trans a6, b7.trans a7⟩, ⟨b8.trans a8, b9.trans a9, b10.trans a10⟩, fun c h1 h2 h3 => (b11 c h1 h2 h3).trans (a11 c h1 h2 h3)⟩
theorem x_put11 {A : aS} {g : z_S} (hA : I_ok A) (hX : R_X A g) (h : A 0 2 < 48) (a : Nat) : fX6_put_11 (nI a) g = some ((), z_wi (z_wi g 12 (A 0 2) (nI a)) 11 1 (nI (A 0 2 + 1))) := by
  unfold fX6_put_11
  rw [hX.1.2.2.1]
  simp (disch := omega) only [p_g, p_b, p_s, p_gin, p_gblt, p_eqL, p_leL, p_Lle, p_ltL, p_Llt, p_addL, p_subL, p_mulL, p_LmulL, p_eq, p_le, p_lt, p_add, p_sub, p_mul, p_clamp, if_pos, if_neg]
  rw [p_off (by decide), hX.1.2.2.1]
  simp (disch := omega) only [p_g, p_b, p_s, p_gin, p_gblt, p_eqL, p_leL, p_Lle, p_ltL, p_Llt, p_addL, p_subL, p_mulL, p_LmulL, p_eq, p_le, p_lt, p_add, p_sub, p_mul, p_clamp, if_pos, if_neg]
theorem o_letter (v : Int32) : Op0 (fX10_letter v) (fX11_letter v) := by
  refine op_wp (fun A gx gm hA hX hM => ?_)
  have hk : A 0 0 ≤ 8 := hA.1.2.1
  have hk2 : 2 ≤ A 0 0 := hA.1.1
  unfold fX10_letter fX11_letter
  rw [hX.1.1, hM.1.1, hX.1.2.2.1]
  by_cases h : 0 ≤ v.toInt ∧ v.toInt < (A 0 0 : Int)
  · rw [m_yes (b := 0) ⟨h.1, by rw [p_64, p_pred (by omega)]; omega⟩]
    obtain ⟨j, -, h2, rfl⟩ := p_rng (a := 0) (b := A 0 0) (by omega) ⟨h.1, by omega⟩
    have hj : j < A 0 0 := by rw [p_toInt (by omega)] at h; omega
    rw [p_b, if_neg n10, hM.1.2.2.1]
    have hd : A 0 2 ≤ 48 := hA.1.2.2.2.1
    by_cases h48 : A 0 2 = 48
    · refine ⟨-1004, A, hA, ?_, ?_⟩
      · simp (disch := omega) only [p_g, p_b, p_s, p_gin, p_gblt, p_eqL, p_leL, p_Lle, p_ltL, p_Llt, p_addL, p_subL, p_mulL, p_LmulL, p_eq, p_le, p_lt, p_add, p_sub, p_mul, p_clamp, if_pos, if_neg]
        exact wp_some ⟨rfl, hX, Cs.rf⟩
      · simp (disch := omega) only [p_g, p_b, p_s, p_gin, p_gblt, p_eqL, p_leL, p_Lle, p_ltL, p_Llt, p_addL, p_subL, p_mulL, p_LmulL, p_eq, p_le, p_lt, p_add, p_sub, p_mul, p_clamp, if_pos, if_neg]
        exact wp_some ⟨rfl, hM⟩
    · refine ⟨nI (A 0 2 + 1), apush A j, I_push hA (by omega) hj, ?_, ?_⟩
      · simp (disch := omega) only [p_g, p_b, p_s, p_gin, p_gblt, p_eqL, p_leL, p_Lle, p_ltL, p_Llt, p_addL, p_subL, p_mulL, p_LmulL, p_eq, p_le, p_lt, p_add, p_sub, p_mul, p_clamp, if_pos, if_neg]
        rw [x_put11 hA hX (by omega), p_b, p_at]
        exact wp_some ⟨rfl, RX_push hA hX, Cs_push⟩
      · simp (disch := omega) only [p_g, p_b, p_s, p_gin, p_gblt, p_eqL, p_leL, p_Lle, p_ltL, p_Llt, p_addL, p_subL, p_mulL, p_LmulL, p_eq, p_le, p_lt, p_add, p_sub, p_mul, p_clamp, if_pos, if_neg]
        rw [p_at, p_off (a := 0) (o := 7) (by decide), hM.1.2.2.1]
        simp (disch := omega) only [p_g, p_b, p_s, p_gin, p_gblt, p_eqL, p_leL, p_Lle, p_ltL, p_Llt, p_addL, p_subL, p_mulL, p_LmulL, p_eq, p_le, p_lt, p_add, p_sub, p_mul, p_clamp, if_pos, if_neg]
        exact wp_some ⟨rfl, RM_push hM⟩
  · rw [m_no (b := 0) (fun q => h ⟨q.1, by rw [p_64, p_pred (by omega)] at q; omega⟩)]
    refine ⟨-1002, A, hA, ?_, wp_some ⟨rfl, hM⟩⟩
    by_cases h1 : v < 0
    · rw [if_pos h1]; exact wp_some ⟨rfl, hX, Cs.rf⟩
    · rw [if_neg h1, if_neg]
      · exact wp_some ⟨rfl, hX, Cs.rf⟩
      · rw [p_ltI (by omega)]
        simp only [Int32.lt_iff_toInt_lt, Int32.le_iff_toInt_le, t_0, t_1, t_2, t_3, t_4, t_6, t_8, t_10, t_20, t_24, t_40, t_99] at h1
        omega
def Aap (A : aS) (w : Nat) : Nat → aS
  | 0 => A
  | i + 1 => apush (Aap A w i) (A 4 (8 * w + i))
theorem Aap_2 {A : aS} {w : Nat} : ∀ i, Aap A w i 0 2 = A 0 2 + i
  | 0 => rfl
  | i + 1 => by rw [Aap, apush_2, Aap_2 i]; omega
theorem Aap_0 {A : aS} {w j : Nat} (h : j ≠ 2) : ∀ i, Aap A w i 0 j = A 0 j
  | 0 => rfl
  | i + 1 => by rw [Aap, apush_0 h, Aap_0 h i]
theorem Aap_o {A : aS} {w c : Nat} (h : c ≠ 0) (h7 : c ≠ 7) : ∀ i, Aap A w i c = A c
  | 0 => rfl
  | i + 1 => by rw [Aap, apush_o h h7, Aap_o h h7 i]
theorem I_ap {A : aS} {w : Nat} (hA : I_ok A) (hw : w < A 0 1) : ∀ i, i ≤ A 1 w → A 0 2 + i ≤ 48 → I_ok (Aap A w i)
  | 0, _, _ => hA
  | i + 1, h1, h2 => I_push (I_ap hA hw i (by omega) (by omega)) (by rw [Aap_2]; omega) (by rw [Aap_0 (by decide)]; exact (hA.2.1 w hw).2.2.2.2 i (by omega))
theorem x_sign {A : aS} {g : z_S} (hA : I_ok A) (hX : R_X A g) {w i : Nat} (hw : w < A 0 1) (hi : i < A 1 w) : fX9_sign_4 (nI w) (nI i) g = some (nI (A 4 (8 * w + i)), g) := by
  have := hA.1.2.2.1
  have := (hA.2.1 w hw).2.1
  unfold fX9_sign_4
  simp (disch := omega) only [p_g, p_b, p_s, p_gin, p_gblt, p_eqL, p_leL, p_Lle, p_ltL, p_Llt, p_addL, p_subL, p_mulL, p_LmulL, p_eq, p_le, p_lt, p_add, p_sub, p_mul, p_clamp, if_pos, if_neg]
  rw [Nat.mul_comm, (hX.2.1 w hw).2.2.2 i hi]
theorem o_append (v : Int32) : Op0 (fX10_append v) (fX11_append v) := by
  refine op_wp (fun A gx gm hA hX hM => ?_)
  have hn : A 0 1 ≤ 16 := hA.1.2.2.1
  have hd : A 0 2 ≤ 48 := hA.1.2.2.2.1
  unfold fX10_append fX11_append
  rw [m_noWord hA hM, x_has hA hX, p_b, p_b]
  by_cases h : 0 ≤ v.toInt ∧ v.toInt < (A 0 1 : Int)
  · rw [if_pos h, if_pos h, if_neg n10, if_pos rfl]
    obtain ⟨w, -, h2, rfl⟩ := p_rng (a := 0) (b := A 0 1) (by omega) ⟨h.1, by omega⟩
    have hw : w < A 0 1 := by rw [p_toInt (by omega)] at h; omega
    obtain ⟨b1, b2, b3, b4, b5⟩ := hA.2.1 w hw
    simp (disch := omega) only [p_g, p_b, p_s, p_gin, p_gblt, p_eqL, p_leL, p_Lle, p_ltL, p_Llt, p_addL, p_subL, p_mulL, p_LmulL, p_eq, p_le, p_lt, p_add, p_sub, p_mul, p_clamp, if_pos, if_neg]
    rw [hX.1.2.2.1, hM.1.2.2.1, (hX.2.1 w hw).1, (hM.2.1 w hw).1]
    simp (disch := omega) only [p_g, p_b, p_s, p_gin, p_gblt, p_eqL, p_leL, p_Lle, p_ltL, p_Llt, p_addL, p_subL, p_mulL, p_LmulL, p_eq, p_le, p_lt, p_add, p_sub, p_mul, p_clamp, if_pos, if_neg]
    by_cases h48 : A 0 2 + A 1 w ≤ 48
    · rw [if_pos h48, if_pos h48]
      refine ⟨nI (A 0 2 + A 1 w), Aap A w (A 1 w), I_ap hA hw _ (Nat.le_refl _) h48, ?_, ?_⟩
      · refine wp_loop (P := fun a g => ∃ i, i ≤ A 1 w ∧ a = (nI w, nI i) ∧ R_X (Aap A w i) g ∧ Cs A (Aap A w i) gx g) (μ := fun a _ => A 1 w - a.2.toNatClampNeg) ?_ zN _ _ ⟨0, by omega, rfl, hX, Cs.rf⟩ (by show A 1 w - _ < zN; rw [p_zN]; omega)
        rintro rc a g ⟨i, hi, rfl, hg, hc⟩ ih
        have hA' := I_ap hA hw i hi (by omega)
        have hw' : w < Aap A w i 0 1 := by rw [Aap_0 (by decide)]; exact hw
        have e1 : Aap A w i 1 = A 1 := Aap_o (by decide) (by decide) i
        have e4 : Aap A w i 4 = A 4 := Aap_o (by decide) (by decide) i
        have e2 := Aap_2 (A := A) (w := w) i
        simp only [fX10_append_B43]
        simp (disch := omega) only [p_g, p_b, p_s, p_gin, p_gblt, p_eqL, p_leL, p_Lle, p_ltL, p_Llt, p_addL, p_subL, p_mulL, p_LmulL, p_eq, p_le, p_lt, p_add, p_sub, p_mul, p_clamp, if_pos, if_neg]
        rw [(hg.2.1 w hw').1, e1]
        simp (disch := omega) only [p_g, p_b, p_s, p_gin, p_gblt, p_eqL, p_leL, p_Lle, p_ltL, p_Llt, p_addL, p_subL, p_mulL, p_LmulL, p_eq, p_le, p_lt, p_add, p_sub, p_mul, p_clamp, if_pos, if_neg]
        by_cases hlt : A 1 w ≤ i
        · have : i = A 1 w := by omega
          subst this
          rw [if_pos hlt, hg.1.2.2.1, e2]
          exact wp_some ⟨rfl, hg, hc⟩
        · rw [if_neg hlt, x_sign hA' hg hw' (by rw [e1]; omega), p_b, e4, x_put11 hA' hg (by omega), p_b]
          refine ih _ _ ⟨i + 1, by omega, rfl, RX_push hA' hg, ?_⟩ ?_
          · refine Cs.trans hc Cs_push (fun _ => Or.inr ⟨?_, ?_, ?_⟩) <;> simp (disch := omega) only [p_off]
          · show A 1 w - (nI (i + 1)).toNatClampNeg < A 1 w - (nI i).toNatClampNeg
            rw [p_clamp (by omega), p_clamp (by omega)]
            omega
      · refine wp_loop (P := fun a g => ∃ i, i ≤ A 1 w ∧ a = (nI w, nI i) ∧ R_M (Aap A w i) g) (μ := fun a _ => A 1 w - a.2.toNatClampNeg) ?_ zN _ _ ⟨0, by omega, rfl, hM⟩ (by show A 1 w - _ < zN; rw [p_zN]; omega)
        rintro rc a g ⟨i, hi, rfl, hg⟩ ih
        have hA' := I_ap hA hw i hi (by omega)
        have hw' : w < Aap A w i 0 1 := by rw [Aap_0 (by decide)]; exact hw
        have e1 : Aap A w i 1 = A 1 := Aap_o (by decide) (by decide) i
        have e4 : Aap A w i 4 = A 4 := Aap_o (by decide) (by decide) i
        have e2 := Aap_2 (A := A) (w := w) i
        simp only [fX11_append_B34]
        simp (disch := omega) only [p_g, p_b, p_s, p_gin, p_gblt, p_eqL, p_leL, p_Lle, p_ltL, p_Llt, p_addL, p_subL, p_mulL, p_LmulL, p_eq, p_le, p_lt, p_add, p_sub, p_mul, p_clamp, if_pos, if_neg]
        rw [(hg.2.1 w hw').1, e1]
        simp (disch := omega) only [p_g, p_b, p_s, p_gin, p_gblt, p_eqL, p_leL, p_Lle, p_ltL, p_Llt, p_addL, p_subL, p_mulL, p_LmulL, p_eq, p_le, p_lt, p_add, p_sub, p_mul, p_clamp, if_pos, if_neg]
        by_cases hlt : A 1 w ≤ i
        · have : i = A 1 w := by omega
          subst this
          rw [if_pos hlt, hg.1.2.2.1, e2]
          exact wp_some ⟨rfl, hg⟩
        · rw [if_neg hlt, hg.1.2.2.1, e2, (hg.2.1 w hw').2.2.2 i (by rw [e1]; omega), e4]
          simp (disch := omega) only [p_g, p_b, p_s, p_gin, p_gblt, p_eqL, p_leL, p_Lle, p_ltL, p_Llt, p_addL, p_subL, p_mulL, p_LmulL, p_eq, p_le, p_lt, p_add, p_sub, p_mul, p_clamp, if_pos, if_neg]
          rw [p_off (by decide), hg.1.2.2.1, e2]
          simp (disch := omega) only [p_g, p_b, p_s, p_gin, p_gblt, p_eqL, p_leL, p_Lle, p_ltL, p_Llt, p_addL, p_subL, p_mulL, p_LmulL, p_eq, p_le, p_lt, p_add, p_sub, p_mul, p_clamp, if_pos, if_neg]
          refine ih _ _ ⟨i + 1, by omega, rfl, ?_⟩ ?_
          · have := RM_push (a := A 4 (8 * w + i)) hg
            rw [e2] at this
            exact this
          · show A 1 w - (nI (i + 1)).toNatClampNeg < A 1 w - (nI i).toNatClampNeg
            rw [p_clamp (by omega), p_clamp (by omega)]
            omega
    · rw [if_neg h48, if_neg h48]
      exact ⟨-1004, A, hA, wp_some ⟨rfl, hX, Cs.rf⟩, wp_some ⟨rfl, hM⟩⟩
  · rw [if_neg h, if_neg h, if_pos rfl, if_neg n10]
    exact ⟨-1001, A, hA, wp_some ⟨rfl, hX, Cs.rf⟩, wp_some ⟨rfl, hM⟩⟩
/-- a byte more in the text -/
def tpush (A : aS) (a : Nat) : aS := aw (aw A 10 (A 0 4) a) 0 4 (A 0 4 + 1)
theorem tpush_4 {A : aS} {a : Nat} : tpush A a 0 4 = A 0 4 + 1 := aw_at
theorem tpush_0 {A : aS} {a j : Nat} (h : j ≠ 4) : tpush A a 0 j = A 0 j := by
  unfold tpush
  rw [aw_on h, aw_off (by decide)]
theorem tpush_o {A : aS} {a c : Nat} (h : c ≠ 0) (h7 : c ≠ 10) : tpush A a c = A c := by
  unfold tpush
  rw [aw_off h, aw_off h7]
theorem tpush_10 {A : aS} {a j : Nat} : tpush A a 10 j = if j = A 0 4 then a else A 10 j := by
  unfold tpush
  rw [aw_off (by decide), aw_e]
  simp
theorem I_tpush {A : aS} {a : Nat} (hA : I_ok A) (h : A 0 4 < 200) (ha : a < 256) : I_ok (tpush A a) := by
  obtain ⟨⟨a1, a2, a3, a4, a5, a6, a7⟩, aB, aC, aD, aE, aF, aG, aH⟩ := hA
  refine ⟨⟨?_, ?_, ?_, ?_, ?_, ?_, ?_⟩, ?_, ?_, ?_, ?_, ?_, ?_, ?_⟩ <;> (try simp (disch := omega) only [tpush_4, tpush_0, tpush_o]) <;> (try assumption) <;> (try omega)
  intro i hi
  rw [tpush_10]
  split
  · exact ha
  · exact aG i (by omega)
theorem RM_tpush {A : aS} {g : z_S} {a : Nat} (hM : R_M A g) : R_M (tpush A a) (z_wi (z_wi g 10 (A 0 4) (nI a)) 0 14 (nI (A 0 4 + 1))) := by
  obtain ⟨⟨m1, m2, m3, m4, m5, m6⟩, mB, mC, mD, mE, mF, mG⟩ := hM
  refine ⟨⟨?_, ?_, ?_, ?_, ?_, ?_⟩, ?_, ?_, ?_, ?_, ?_, ?_⟩ <;> (try simp (disch := omega) only [tpush_4, tpush_0, tpush_o, p_off, p_on, p_at]) <;> (try assumption) <;> (try rfl)
  intro i hi
  rw [tpush_10, p_wi]
  by_cases h : i = A 0 4
  · subst h; simp
  · rw [if_neg (by omega), if_neg h]
    exact mG i (by omega)
theorem RX_tpush {A : aS} {g : z_S} {a : Nat} (hX : R_X A g) : R_X (tpush A a) (z_wi (z_wi g 10 (A 0 4) (nI a)) 9 1 (nI (A 0 4 + 1))) := by
  obtain ⟨⟨x1, x2, x3, x4, x5, x6⟩, xB, xC, xD, xE, xF, xG, xH, xI, xJ⟩ := hX
  refine ⟨⟨?_, ?_, ?_, ?_, ?_, ?_⟩, ?_, ?_, ?_, ?_, ?_, ?_, ?_, ?_, ?_⟩ <;> (try simp (disch := omega) only [tpush_4, tpush_0, tpush_o, p_off, p_on, p_at]) <;> (try assumption) <;> (try rfl)
  intro i hi
  rw [tpush_10, p_wi]
  by_cases h : i = A 0 4
  · subst h; simp
  · rw [if_neg (by omega), if_neg h]
    exact xG i (by omega)
theorem Cs_tpush {A : aS} {g : z_S} {a : Nat} {x y : Int32} : Cs A (tpush A a) g (z_wi (z_wi g 10 (A 0 4) x) 9 1 y) := by
  right
  refine ⟨⟨?_, ?_, ?_, ?_⟩, ⟨?_, ?_, ?_⟩, ⟨?_, ?_, ?_⟩, ?_⟩ <;> (try simp (disch := omega) only [tpush_0, p_off, p_on, p_at])
  intro c h1 h2 h3
  exact tpush_o (by omega) (by omega)
theorem byte_mask (x : Int32) : ∃ b : Nat, b < 256 ∧ x &&& 255 = nI b := by
  have h : (x &&& 255).toBitVec.toNat < 256 := by
    rw [Int32.toBitVec_and, BitVec.toNat_and]
    have : (255 : Int32).toBitVec.toNat = 2 ^ 8 - 1 := by decide
    rw [this, Nat.and_two_pow_sub_one_eq_mod]
    omega
  refine ⟨(x &&& 255).toBitVec.toNat, h, ?_⟩
  apply Int32.toBitVec_inj.mp
  apply BitVec.eq_of_toNat_eq
  show _ = (BitVec.ofNat 32 _).toNat
  rw [BitVec.toNat_ofNat, Nat.mod_eq_of_lt (by omega)]
theorem byte_255 (i : Nat) : (255#64).getLsbD i = decide (i < 8) := by
  by_cases h : i < 64
  · have : ∀ k, k < 64 → (255#64).getLsbD k = decide (k < 8) := by decide
    exact this i h
  · rw [BitVec.getLsbD_of_ge _ _ (by omega)]
    simp; omega
theorem byte_255' (i : Nat) : (255#32).getLsbD i = decide (i < 8) := by
  by_cases h : i < 32
  · have : ∀ k, k < 32 → (255#32).getLsbD k = decide (k < 8) := by decide
    exact this i h
  · rw [BitVec.getLsbD_of_ge _ _ (by omega)]
    simp; omega
theorem byte_key (v : Int64) (D : Int64) (E : UInt64) (n : Nat) (hn : n ≤ 56) (hD : (D.toBitVec.smod 64).toNat = n) (hE : E.toNat % 64 = n) : ((v >>> D) &&& 255).toInt32 = (v.toUInt64 >>> E).toInt64.toInt32 &&& 255 := by
  apply Int32.toBitVec_inj.mp
  apply BitVec.eq_of_getLsbD_eq
  intro i hi
  have e1 : (255 : Int64).toBitVec = 255#64 := rfl
  have e2 : (255 : Int32).toBitVec = 255#32 := rfl
  rw [Int32.toBitVec_and, Int64.toBitVec_toInt32, Int64.toBitVec_toInt32, Int64.toBitVec_and, e1, e2, Int64.toBitVec_shiftRight]
  show (BitVec.signExtend 32 (v.toBitVec.sshiftRight (D.toBitVec.smod 64).toNat &&& 255#64)).getLsbD i = _
  rw [hD]
  have e3 : (v.toUInt64 >>> E).toInt64.toBitVec = v.toBitVec >>> n := by
    show (v.toUInt64 >>> E).toBitVec = _
    rw [UInt64.toBitVec_shiftRight]
    show v.toBitVec >>> (E.toBitVec % 64) = _
    apply BitVec.eq_of_toNat_eq
    show v.toBitVec.toNat >>> (E.toBitVec % 64).toNat = (v.toBitVec >>> n).toNat
    rw [BitVec.toNat_ushiftRight, BitVec.toNat_umod]
    show v.toBitVec.toNat >>> (E.toNat % 64) = _
    rw [hE]
  rw [e3]
  simp only [BitVec.getLsbD_signExtend, BitVec.getLsbD_and, byte_255, byte_255', BitVec.getLsbD_sshiftRight, BitVec.getLsbD_ushiftRight]
  by_cases h8 : i < 8
  · simp [h8, hi, show i < 64 by omega, show n + i < 64 by omega]
  · simp [h8]
    intro q1 q2
    omega
/-- the byte that both sides take -/
theorem feed_byte (v : Int64) (j : Nat) (hj : j < 8) : ∃ b : Nat, b < 256 ∧ ((v.toUInt64 >>> ((8 * nI j).toInt64.toUInt64 &&& Int64.toUInt64 63)).toInt64).toInt32 &&& 255 = nI b ∧ ((v >>> ((8 * nI j).toInt64 &&& 63)) &&& 255).toInt32 = nI b := by
  obtain ⟨b, h1, h2⟩ := byte_mask ((v.toUInt64 >>> ((8 * nI j).toInt64.toUInt64 &&& Int64.toUInt64 63)).toInt64).toInt32
  refine ⟨b, h1, h2, ?_⟩
  rw [← h2]
  refine byte_key v _ _ (8 * j) (by omega) ?_ ?_
  · rcases (show j = 0 ∨ j = 1 ∨ j = 2 ∨ j = 3 ∨ j = 4 ∨ j = 5 ∨ j = 6 ∨ j = 7 by omega) with rfl | rfl | rfl | rfl | rfl | rfl | rfl | rfl <;> decide
  · rcases (show j = 0 ∨ j = 1 ∨ j = 2 ∨ j = 3 ∨ j = 4 ∨ j = 5 ∨ j = 6 ∨ j = 7 by omega) with rfl | rfl | rfl | rfl | rfl | rfl | rfl | rfl <;> decide
def fby (v : Int64) (j : Nat) : Nat := ((v >>> ((8 * nI j).toInt64 &&& 63)) &&& 255).toInt32.toNatClampNeg
theorem fby_m (v : Int64) {j : Nat} (hj : j < 8) : fby v j < 256 ∧ ((v.toUInt64 >>> ((8 * nI j).toInt64.toUInt64 &&& Int64.toUInt64 63)).toInt64).toInt32 &&& 255 = nI (fby v j) ∧ ((v >>> ((8 * nI j).toInt64 &&& 63)) &&& 255).toInt32 = nI (fby v j) := by
  obtain ⟨b, h1, h2, h3⟩ := feed_byte v j hj
  have : fby v j = b := by
    unfold fby
    rw [h3, p_clamp (by omega)]
  rw [this]
  exact ⟨h1, h2, h3⟩
def Afd (A : aS) (v : Int64) (n : Nat) : Nat → aS
  | 0 => A
  | t + 1 => tpush (Afd A v n t) (fby v (n - 1 - t))
theorem Afd_4 {A : aS} {v : Int64} {n : Nat} : ∀ t, Afd A v n t 0 4 = A 0 4 + t
  | 0 => rfl
  | t + 1 => by rw [Afd, tpush_4, Afd_4 t]; omega
theorem I_fd {A : aS} {v : Int64} {n : Nat} (hA : I_ok A) (hn : n ≤ 8) : ∀ t, t ≤ n → A 0 4 + t ≤ 200 → I_ok (Afd A v n t)
  | 0, _, _ => hA
  | t + 1, h1, h2 => I_tpush (I_fd hA hn t (by omega) (by omega)) (by rw [Afd_4]; omega) (fby_m v (by omega)).1
theorem x_put9 {A : aS} {g : z_S} (hX : R_X A g) (h : A 0 4 < 200) (a : Nat) : fX6_put_9 (nI a) g = some ((), z_wi (z_wi g 10 (A 0 4) (nI a)) 9 1 (nI (A 0 4 + 1))) := by
  unfold fX6_put_9
  rw [hX.1.2.2.2.2.1]
  simp (disch := omega) only [p_g, p_b, p_s, p_gin, p_gblt, p_eqL, p_leL, p_Lle, p_ltL, p_Llt, p_addL, p_subL, p_mulL, p_LmulL, p_eq, p_le, p_lt, p_add, p_sub, p_mul, p_clamp, if_pos, if_neg]
  rw [p_off (by decide), hX.1.2.2.2.2.1]
  simp (disch := omega) only [p_g, p_b, p_s, p_gin, p_gblt, p_eqL, p_leL, p_Lle, p_ltL, p_Llt, p_addL, p_subL, p_mulL, p_LmulL, p_eq, p_le, p_lt, p_add, p_sub, p_mul, p_clamp, if_pos, if_neg]
theorem o_feed (v : Int32) (b : Int64) : Op0 (fX10_feed v b) (fX11_feed v b) := by
  refine op_wp (fun A gx gm hA hX hM => ?_)
  have ht : A 0 4 ≤ 200 := hA.1.2.2.2.2.2.1
  unfold fX10_feed fX11_feed
  by_cases h : 1 ≤ v.toInt ∧ v.toInt ≤ 8
  · rw [m_yes (b := 1) (c := 8) h, p_b, if_neg n10]
    obtain ⟨n, h1, h2, rfl⟩ := p_rng (a := 1) (b := 8) (by decide) h
    rw [hX.1.2.2.2.2.1, hM.1.2.2.2.2.1]
    simp (disch := omega) only [p_g, p_b, p_s, p_gin, p_gblt, p_eqL, p_leL, p_Lle, p_ltL, p_Llt, p_addL, p_subL, p_mulL, p_LmulL, p_eq, p_le, p_lt, p_add, p_sub, p_mul, p_clamp, if_pos, if_neg]
    by_cases hf : A 0 4 + n ≤ 200
    · rw [if_pos hf, if_pos hf]
      refine ⟨nI (A 0 4 + n), Afd A b n n, I_fd hA h2 _ (Nat.le_refl _) hf, ?_, ?_⟩
      · refine wp_loop (P := fun a g => ∃ t, t ≤ n ∧ a = (b, if t = n then -1 else nI (n - 1 - t)) ∧ R_X (Afd A b n t) g ∧ Cs A (Afd A b n t) gx g) (μ := fun a _ => if a.2 < 0 then 0 else a.2.toNatClampNeg + 1) ?_ zN _ _ ⟨0, by omega, by rw [if_neg (by omega)]; rfl, hX, Cs.rf⟩ ?_
        · rintro rc a g ⟨t, hi, rfl, hg, hc⟩ ih
          have hA' := I_fd (v := b) hA h2 t hi (by omega)
          have e4 := Afd_4 (A := A) (v := b) (n := n) t
          simp only [fX10_feed_B39]
          by_cases hlt : t = n
          · subst hlt
            rw [if_pos rfl, if_pos (by decide), hg.1.2.2.2.2.1, e4]
            exact wp_some ⟨rfl, hg, hc⟩
          · rw [if_neg hlt, if_neg (p_neg (by omega)), (fby_m b (by omega)).2.1, x_put9 hg (by omega), p_b]
            refine ih _ _ ⟨t + 1, by omega, ?_, RX_tpush hg, ?_⟩ ?_
            · by_cases hl : t + 1 = n
              · rw [if_pos hl, show n - 1 - t = 0 by omega]; rfl
              · rw [if_neg hl, p_m1 (by omega)]; rfl
            · refine Cs.trans hc Cs_tpush (fun _ => Or.inr ⟨?_, ?_, ?_⟩) <;> simp (disch := omega) only [p_off]
            · simp only []
              rw [if_neg hlt, if_neg (p_neg (by omega)), p_clamp (by omega)]
              by_cases hl : t + 1 = n
              · rw [show n - 1 - t = 0 by omega]; rw [if_pos (by decide)]; omega
              · rw [p_m1 (by omega), if_neg (p_neg (by omega)), p_clamp (by omega)]; omega
        · show (if nI (n - 1) < 0 then 0 else (nI (n - 1)).toNatClampNeg + 1) < zN
          rw [if_neg (p_neg (by omega)), p_clamp (by omega), p_zN]; omega
      · refine wp_loop (P := fun a g => ∃ t, t ≤ n ∧ a = (b, if t = n then -1 else nI (n - 1 - t)) ∧ R_M (Afd A b n t) g) (μ := fun a _ => if a.2 < 0 then 0 else a.2.toNatClampNeg + 1) ?_ zN _ _ ⟨0, by omega, by rw [if_neg (by omega)]; rfl, hM⟩ ?_
        · rintro rc a g ⟨t, hi, rfl, hg⟩ ih
          have hA' := I_fd (v := b) hA h2 t hi (by omega)
          have e4 := Afd_4 (A := A) (v := b) (n := n) t
          simp only [fX11_feed_B37]
          by_cases hlt : t = n
          · subst hlt
            rw [if_pos rfl, if_pos (by decide), hg.1.2.2.2.2.1, e4]
            exact wp_some ⟨rfl, hg⟩
          · rw [if_neg hlt, if_neg (p_neg (by omega)), (fby_m b (by omega)).2.2, hg.1.2.2.2.2.1]
            simp (disch := omega) only [p_g, p_b, p_s, p_gin, p_gblt, p_eqL, p_leL, p_Lle, p_ltL, p_Llt, p_addL, p_subL, p_mulL, p_LmulL, p_eq, p_le, p_lt, p_add, p_sub, p_mul, p_clamp, if_pos, if_neg]
            rw [p_off (by decide), hg.1.2.2.2.2.1, p_addL]
            refine ih _ _ ⟨t + 1, by omega, ?_, RM_tpush hg⟩ ?_
            · by_cases hl : t + 1 = n
              · rw [if_pos hl, show n - 1 - t = 0 by omega]; rfl
              · rw [if_neg hl, p_m1 (by omega)]; rfl
            · simp only []
              rw [if_neg hlt, if_neg (p_neg (by omega)), p_clamp (by omega)]
              by_cases hl : t + 1 = n
              · rw [show n - 1 - t = 0 by omega]; rw [if_pos (by decide)]; omega
              · rw [p_m1 (by omega), if_neg (p_neg (by omega)), p_clamp (by omega)]; omega
        · show (if nI (n - 1) < 0 then 0 else (nI (n - 1)).toNatClampNeg + 1) < zN
          rw [if_neg (p_neg (by omega)), p_clamp (by omega), p_zN]; omega
    · rw [if_neg hf, if_neg hf]
      exact ⟨-1004, A, hA, wp_some ⟨rfl, hX, Cs.rf⟩, wp_some ⟨rfl, hM⟩⟩
  · rw [m_no (b := 1) (c := 8) h]
    refine ⟨-1002, A, hA, ?_, wp_some ⟨rfl, hM⟩⟩
    by_cases h1 : v < 1
    · rw [if_pos h1]; exact wp_some ⟨rfl, hX, Cs.rf⟩
    · rw [if_neg h1, if_neg]
      · exact wp_some ⟨rfl, hX, Cs.rf⟩
      · simp only [Int32.lt_iff_toInt_lt, Int32.le_iff_toInt_le, t_0, t_1, t_2, t_3, t_4, t_6, t_8, t_10, t_20, t_24, t_40, t_99] at *
        omega

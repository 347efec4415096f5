/-! the easy calls: both sides at once -/
def Fgt (g : z_S) : Prop := g.1 43 1 = 0 ∧ g.1 45 1 = 0 ∧ g.1 26 3 = -1
/-- what was found by long searches is forgotten, or as it was, and nothing changed that it hangs on -/
def Cs (A A' : aS) (g g' : z_S) : Prop := Fgt g' ∨ ((g'.1 43 = g.1 43 ∧ g'.1 44 = g.1 44 ∧ g'.1 45 = g.1 45 ∧ g'.1 46 = g.1 46) ∧ (g'.1 26 3 = g.1 26 3 ∧ g'.1 26 4 = g.1 26 4 ∧ g'.1 26 5 = g.1 26 5) ∧ (A' 0 0 = A 0 0 ∧ A' 0 1 = A 0 1 ∧ A' 0 3 = A 0 3) ∧ ∀ c, 1 ≤ c → c ≤ 9 → c ≠ 7 → A' c = A c)
theorem Cs.rf {A : aS} {g : z_S} : Cs A A g g := Or.inr ⟨⟨rfl, rfl, rfl, rfl⟩, ⟨rfl, rfl, rfl⟩, ⟨rfl, rfl, rfl⟩, fun _ _ _ _ => rfl⟩
def Op0 {α : Type} (fx fm : z_S → Option (α × z_S)) : Prop := ∀ (A : aS) (gx gm : z_S), I_ok A → R_X A gx → R_M A gm → ∃ (r : α) (gx' gm' : z_S) (A' : aS), fx gx = some (r, gx') ∧ fm gm = some (r, gm') ∧ I_ok A' ∧ R_X A' gx' ∧ R_M A' gm' ∧ Cs A A' gx gx'
theorem p_rng {x : Int32} {a b : Nat} (hb : b < 2147483648) (h : (a : Int) ≤ x.toInt ∧ x.toInt ≤ (b : Int)) : ∃ j : Nat, a ≤ j ∧ j ≤ b ∧ x = nI j := by
  refine ⟨x.toInt.toNat, by omega, by omega, ?_⟩
  apply Int32.toInt_inj.mp
  rw [p_toInt (by omega)]
  omega
theorem x_forget (g : z_S) : ∃ g', fX10_forgetFound g = some ((), g') ∧ g' = z_wi (z_wi (z_wi g 43 1 0) 45 1 0) 26 3 (-1) := ⟨_, rfl, rfl⟩
theorem m_yes {x : Int32} {b c : Int64} {g : z_S} (h : b.toInt ≤ x.toInt ∧ x.toInt ≤ c.toInt) : fX11_in x.toInt64 b c g = some (1, g) := by rw [m_ini, if_pos h]
theorem m_no {x : Int32} {b c : Int64} {g : z_S} (h : ¬ (b.toInt ≤ x.toInt ∧ x.toInt ≤ c.toInt)) : fX11_in x.toInt64 b c g = some (0, g) := by rw [m_ini, if_neg h]
theorem p_ltI {x : Int32} {n : Nat} (h : n < 2147483648) : x < nI n ↔ x.toInt < n := by rw [Int32.lt_iff_toInt_lt, p_toInt h]
theorem p_leI {x : Int32} {n : Nat} (h : n < 2147483648) : x ≤ nI n ↔ x.toInt ≤ n := by rw [Int32.le_iff_toInt_le, p_toInt h]
theorem p_Ilt {x : Int32} {n : Nat} (h : n < 2147483648) : nI n < x ↔ (n : Int) < x.toInt := by rw [Int32.lt_iff_toInt_lt, p_toInt h]
theorem p_Ile {x : Int32} {n : Nat} (h : n < 2147483648) : nI n ≤ x ↔ (n : Int) ≤ x.toInt := by rw [Int32.le_iff_toInt_le, p_toInt h]
theorem p_pred {n : Nat} (h : n < 2147483648) : (nI n - 1).toInt = (n : Int) - 1 := by
  cases n with
  | zero => rfl
  | succ m => rw [nI_pred, p_toInt (by omega)]; omega
theorem p_64 {x : Int32} : x.toInt64.toInt = x.toInt := Int32.toInt_toInt64 x
theorem p_off {g : z_S} {o k a : Nat} {x : Int32} (h : a ≠ o) : (z_wi g o k x).1 a = g.1 a := (z_wi_off a h).1
theorem p_on {g : z_S} {o k j : Nat} {x : Int32} (h : j ≠ k) : (z_wi g o k x).1 o j = g.1 o j := by rw [p_wi, if_neg (fun q => h q.2)]
theorem p_at {g : z_S} {o k : Nat} {x : Int32} : (z_wi g o k x).1 o k = x := by rw [p_wi, if_pos ⟨rfl, rfl⟩]
theorem p_Loff {g : z_S} {o k a : Nat} {x : Int64} (h : a ≠ o) : (z_wl g o k x).2 a = g.2 a := (z_wl_off a h).2
theorem p_Lon {g : z_S} {o k j : Nat} {x : Int64} (h : j ≠ k) : (z_wl g o k x).2 o j = g.2 o j := by rw [p_wl, if_neg (fun q => h q.2)]
theorem p_Lat {g : z_S} {o k : Nat} {x : Int64} : (z_wl g o k x).2 o k = x := by rw [p_wl, if_pos ⟨rfl, rfl⟩]
theorem aw_off {A : aS} {c i v a : Nat} (h : a ≠ c) : aw A c i v a = A a := by
  funext j
  rw [aw_e, if_neg (fun q => h q.1)]
theorem aw_on {A : aS} {c i v j : Nat} (h : j ≠ i) : aw A c i v c j = A c j := by rw [aw_e, if_neg (fun q => h q.2)]
theorem aw_at {A : aS} {c i v : Nat} : aw A c i v c i = v := by rw [aw_e, if_pos ⟨rfl, rfl⟩]
theorem n10 : ¬ (1 : Int32) = 0 := by decide
theorem t_0 : (0 : Int32).toInt = 0 := rfl
theorem t_1 : (1 : Int32).toInt = 1 := rfl
theorem t_2 : (2 : Int32).toInt = 2 := rfl
theorem t_3 : (3 : Int32).toInt = 3 := rfl
theorem t_4 : (4 : Int32).toInt = 4 := rfl
theorem t_6 : (6 : Int32).toInt = 6 := rfl
theorem t_8 : (8 : Int32).toInt = 8 := rfl
theorem t_10 : (10 : Int32).toInt = 10 := rfl
theorem t_20 : (20 : Int32).toInt = 20 := rfl
theorem t_24 : (24 : Int32).toInt = 24 := rfl
theorem t_40 : (40 : Int32).toInt = 40 := rfl
theorem t_99 : (99 : Int32).toInt = 99 := rfl
theorem o_letters (v : Int32) : Op0 (fX10_letters v) (fX11_letters v) := by
  intro A gx gm hA hX hM
  unfold fX10_letters fX11_letters
  by_cases h : 2 ≤ v.toInt ∧ v.toInt ≤ 8
  · rw [m_yes (b := 2) (c := 8) h]
    obtain ⟨j, h1, h2, rfl⟩ := p_rng (a := 2) (b := 8) (by decide) h
    refine ⟨nI j, z_wi (z_wi (z_wi (z_wi (z_wi (z_wi (z_wi gx 1 0 (nI j)) 4 0 0) 26 0 0) 11 1 0) 43 1 0) 45 1 0) 26 3 (-1), z_wi (z_wi (z_wi (z_wi gm 0 0 (nI j)) 0 1 0) 0 10 0) 0 9 0, aw (aw (aw (aw A 0 0 j) 0 1 0) 0 3 0) 0 2 0, ?_, rfl, ?_, ?_, ?_, ?_⟩
    · rw [if_neg (by rw [p_l2, p_lt (by omega) (by omega)]; omega), if_pos (by rw [p_l8, p_le (by omega) (by omega)]; omega)]
      rfl
    · obtain ⟨⟨a1, a2, a3, a4, a5, a6, a7⟩, aB, aC, aD, aE, aF, aG, aH⟩ := hA
      refine ⟨⟨?_, ?_, ?_, ?_, ?_, ?_, ?_⟩, ?_, ?_, ?_, ?_, ?_, ?_, ?_⟩ <;> (try simp (disch := omega) only [aw_off, aw_on, aw_at]) <;> (try assumption) <;> (try omega)
      all_goals (intros; omega)
    · obtain ⟨⟨x1, x2, x3, x4, x5, x6⟩, xB, xC, xD, xE, xF, xG, xH, xI, xJ⟩ := hX
      refine ⟨⟨?_, ?_, ?_, ?_, ?_, ?_⟩, ?_, ?_, ?_, ?_, ?_, ?_, ?_, ?_, ?_⟩ <;> (try simp (disch := omega) only [aw_off, aw_on, aw_at, p_off, p_on, p_at]) <;> (try assumption) <;> (try rfl)
      all_goals (intros; omega)
    · obtain ⟨⟨m1, m2, m3, m4, m5, m6⟩, mB, mC, mD, mE, mF, mG⟩ := hM
      refine ⟨⟨?_, ?_, ?_, ?_, ?_, ?_⟩, ?_, ?_, ?_, ?_, ?_, ?_⟩ <;> (try simp (disch := omega) only [aw_off, aw_on, aw_at, p_off, p_on, p_at]) <;> (try assumption) <;> (try rfl)
      all_goals (intros; omega)
    · left
      simp [Fgt, p_wi]
  · rw [m_no (b := 2) (c := 8) h]
    refine ⟨-1002, gx, gm, A, ?_, rfl, hA, hX, hM, Cs.rf⟩
    repeat' split
    all_goals first | rfl | (exfalso; simp only [Int32.lt_iff_toInt_lt, Int32.le_iff_toInt_le, t_0, t_1, t_2, t_3, t_4, t_6, t_8, t_10, t_20, t_24, t_40, t_99] at *; omega)
theorem o_fault : Op0 fX10_fault fX11_fault := by
  intro A gx gm hA hX hM
  refine ⟨a_pl (A 0 5), gx, gm, A, ?_, ?_, hA, hX, hM, Cs.rf⟩
  · unfold fX10_fault; rw [hX.1.2.2.2.2.2]
  · unfold fX11_fault; rw [hM.1.2.2.2.2.2]
theorem o_count (v : Int32) : Op0 (fX10_count v) (fX11_count v) := by
  intro A gx gm hA hX hM
  unfold fX10_count fX11_count
  rw [hX.1.1, hX.1.2.1, hX.1.2.2.1, hX.1.2.2.2.1, hX.1.2.2.2.2.1, hM.1.1, hM.1.2.1, hM.1.2.2.1, hM.1.2.2.2.1, hM.1.2.2.2.2.1]
  refine ⟨if v = 0 then nI (A 0 0) else if v = 1 then nI (A 0 1) else if v = 2 then nI (A 0 2) else if v = 3 then nI (A 0 4) else if v = 4 then nI (A 0 3) else -1002, gx, gm, A, ?_, ?_, hA, hX, hM, Cs.rf⟩
  · repeat' split
    all_goals first | rfl | (exfalso; simp_all)
  · repeat' split
    all_goals first | rfl | (exfalso; simp_all)
theorem o_clear : Op0 fX10_clear fX11_clear := by
  intro A gx gm hA hX hM
  refine ⟨nI (A 0 2), z_wi gx 11 1 0, z_wi gm 0 9 0, aw A 0 2 0, ?_, ?_, ?_, ?_, ?_, ?_⟩
  · unfold fX10_clear; rw [hX.1.2.2.1]; rfl
  · unfold fX11_clear; rw [hM.1.2.2.1]; rfl
  · obtain ⟨⟨a1, a2, a3, a4, a5, a6, a7⟩, aB, aC, aD, aE, aF, aG, aH⟩ := hA
    refine ⟨⟨?_, ?_, ?_, ?_, ?_, ?_, ?_⟩, ?_, ?_, ?_, ?_, ?_, ?_, ?_⟩ <;> (try simp (disch := omega) only [aw_off, aw_on, aw_at]) <;> (try assumption) <;> (try omega)
    all_goals (intros; omega)
  · obtain ⟨⟨x1, x2, x3, x4, x5, x6⟩, xB, xC, xD, xE, xF, xG, xH, xI, xJ⟩ := hX
    refine ⟨⟨?_, ?_, ?_, ?_, ?_, ?_⟩, ?_, ?_, ?_, ?_, ?_, ?_, ?_, ?_, ?_⟩ <;> (try simp (disch := omega) only [aw_off, aw_on, aw_at, p_off, p_on, p_at]) <;> (try assumption) <;> (try rfl)
    all_goals (intros; omega)
  · obtain ⟨⟨m1, m2, m3, m4, m5, m6⟩, mB, mC, mD, mE, mF, mG⟩ := hM
    refine ⟨⟨?_, ?_, ?_, ?_, ?_, ?_⟩, ?_, ?_, ?_, ?_, ?_, ?_⟩ <;> (try simp (disch := omega) only [aw_off, aw_on, aw_at, p_off, p_on, p_at]) <;> (try assumption) <;> (try rfl)
    all_goals (intros; omega)
  · right
    refine ⟨⟨?_, ?_, ?_, ?_⟩, ⟨?_, ?_, ?_⟩, ⟨?_, ?_, ?_⟩, ?_⟩ <;> (try simp (disch := omega) only [aw_off, aw_on, aw_at, p_off, p_on, p_at])
    all_goals (intro c h1 h2 h3; simp (disch := omega) only [aw_off])
theorem o_drop : Op0 fX10_drop fX11_drop := by
  intro A gx gm hA hX hM
  refine ⟨nI (A 0 3), z_wi (z_wi (z_wi (z_wi gx 26 0 0) 43 1 0) 45 1 0) 26 3 (-1), z_wi gm 0 10 0, aw A 0 3 0, ?_, ?_, ?_, ?_, ?_, ?_⟩
  · unfold fX10_drop; rw [hX.1.2.2.2.1]; rfl
  · unfold fX11_drop; rw [hM.1.2.2.2.1]; rfl
  · obtain ⟨⟨a1, a2, a3, a4, a5, a6, a7⟩, aB, aC, aD, aE, aF, aG, aH⟩ := hA
    refine ⟨⟨?_, ?_, ?_, ?_, ?_, ?_, ?_⟩, ?_, ?_, ?_, ?_, ?_, ?_, ?_⟩ <;> (try simp (disch := omega) only [aw_off, aw_on, aw_at]) <;> (try assumption) <;> (try omega)
    all_goals (intros; omega)
  · obtain ⟨⟨x1, x2, x3, x4, x5, x6⟩, xB, xC, xD, xE, xF, xG, xH, xI, xJ⟩ := hX
    refine ⟨⟨?_, ?_, ?_, ?_, ?_, ?_⟩, ?_, ?_, ?_, ?_, ?_, ?_, ?_, ?_, ?_⟩ <;> (try simp (disch := omega) only [aw_off, aw_on, aw_at, p_off, p_on, p_at]) <;> (try assumption) <;> (try rfl)
    all_goals (intros; omega)
  · obtain ⟨⟨m1, m2, m3, m4, m5, m6⟩, mB, mC, mD, mE, mF, mG⟩ := hM
    refine ⟨⟨?_, ?_, ?_, ?_, ?_, ?_⟩, ?_, ?_, ?_, ?_, ?_, ?_⟩ <;> (try simp (disch := omega) only [aw_off, aw_on, aw_at, p_off, p_on, p_at]) <;> (try assumption) <;> (try rfl)
    all_goals (intros; omega)
  · left
    simp [Fgt, p_wi]
theorem o_price (w v : Int32) : Op0 (fX10_price w v) (fX11_price w v) := by
  intro A gx gm hA hX hM
  unfold fX10_price fX11_price
  by_cases h : 0 ≤ w.toInt ∧ w.toInt ≤ 2
  · rw [m_yes (b := 0) (c := 2) h]
    obtain ⟨i, -, h2, rfl⟩ := p_rng (a := 0) (b := 2) (by decide) h
    by_cases h' : 0 ≤ v.toInt ∧ v.toInt ≤ 99
    · obtain ⟨j, -, h4, rfl⟩ := p_rng (a := 0) (b := 99) (by decide) h'
      refine ⟨nI (A 6 i), z_wi (z_wi (z_wi (z_wi gx 3 i (nI j)) 43 1 0) 45 1 0) 26 3 (-1), z_wi gm 6 i (nI j), aw A 6 i j, ?_, ?_, ?_, ?_, ?_, ?_⟩
      · rw [if_neg (p_neg (by omega)), p_l3, if_neg (by rw [p_le (by omega) (by omega)]; omega), if_neg (p_neg (by omega)), p_l99, if_pos (by rw [p_le (by omega) (by omega)]; omega)]
        rw [p_in (by omega), decide_eq_true (by omega : i < 3), p_g, p_g, p_clamp (by omega), hX.2.2.2.1 i (by omega)]
        rfl
      · rw [p_b, if_neg (by decide), m_yes (b := 0) (c := 99) h', p_b, if_neg (by decide)]
        rw [p_in (by omega), decide_eq_true (by omega : i < 3), p_g, p_g, p_clamp (by omega), hM.2.2.2.1 i (by omega)]
        rfl
      · obtain ⟨⟨a1, a2, a3, a4, a5, a6, a7⟩, aB, aC, aD, aE, aF, aG, aH⟩ := hA
        refine ⟨⟨?_, ?_, ?_, ?_, ?_, ?_, ?_⟩, ?_, ?_, ?_, ?_, ?_, ?_, ?_⟩ <;> (try simp (disch := omega) only [aw_off, aw_on, aw_at]) <;> (try assumption) <;> (try omega)
        intro q hq
        rw [aw_e]
        split
        · omega
        · exact aD q hq
      · obtain ⟨⟨x1, x2, x3, x4, x5, x6⟩, xB, xC, xD, xE, xF, xG, xH, xI, xJ⟩ := hX
        refine ⟨⟨?_, ?_, ?_, ?_, ?_, ?_⟩, ?_, ?_, ?_, ?_, ?_, ?_, ?_, ?_, ?_⟩ <;> (try simp (disch := omega) only [aw_off, aw_on, aw_at, p_off, p_on, p_at]) <;> (try assumption) <;> (try rfl)
        · intro q hq
          rw [aw_e, p_wi]
          by_cases hqi : q = i
          · subst hqi; simp
          · rw [if_neg (by omega), if_neg (by omega)]
            exact xD q hq
        · intro l hl
          have hl4 : l < 4 := Nat.lt_of_lt_of_le hl hA.1.2.2.2.2.1
          simp (disch := omega) only [aw_off, aw_on, aw_at, p_off, p_on, p_at]
          exact xF l hl
      · obtain ⟨⟨m1, m2, m3, m4, m5, m6⟩, mB, mC, mD, mE, mF, mG⟩ := hM
        refine ⟨⟨?_, ?_, ?_, ?_, ?_, ?_⟩, ?_, ?_, ?_, ?_, ?_, ?_⟩ <;> (try simp (disch := omega) only [aw_off, aw_on, aw_at, p_off, p_on, p_at]) <;> (try assumption) <;> (try rfl)
        intro q hq
        rw [aw_e, p_wi]
        by_cases hqi : q = i
        · subst hqi; simp
        · rw [if_neg (by omega), if_neg (by omega)]
          exact mD q hq
      · left
        simp [Fgt, p_wi]
    · refine ⟨-1002, gx, gm, A, ?_, ?_, hA, hX, hM, Cs.rf⟩
      · rw [if_neg (p_neg (by omega)), if_neg (by rw [p_l3, p_le (by omega) (by omega)]; omega)]
        repeat' split
        all_goals first | rfl | (exfalso; simp only [Int32.lt_iff_toInt_lt, Int32.le_iff_toInt_le, t_0, t_1, t_2, t_3, t_4, t_6, t_8, t_10, t_20, t_24, t_40, t_99] at *; omega)
      · rw [p_b, if_neg (by decide), m_no (b := 0) (c := 99) h']
        rfl
  · rw [m_no (b := 0) (c := 2) h]
    refine ⟨-1002, gx, gm, A, ?_, rfl, hA, hX, hM, Cs.rf⟩
    repeat' split
    all_goals first | rfl | (exfalso; simp only [Int32.lt_iff_toInt_lt, Int32.le_iff_toInt_le, t_0, t_1, t_2, t_3, t_4, t_6, t_8, t_10, t_20, t_24, t_40, t_99] at *; omega)
/-- a word's number, or none -/
theorem m_noWord {A : aS} {g : z_S} (hA : I_ok A) (hM : R_M A g) (v : Int32) : fX11_noWord v g = some (if 0 ≤ v.toInt ∧ v.toInt < (A 0 1 : Int) then 0 else 1, g) := by
  have hn : A 0 1 ≤ 16 := hA.1.2.2.1
  unfold fX11_noWord
  rw [hM.1.2.1]
  by_cases h : 0 ≤ v.toInt ∧ v.toInt < (A 0 1 : Int)
  · rw [m_yes (b := 0) ⟨h.1, by rw [p_64, p_pred (by omega)]; omega⟩, p_b, if_neg n10, if_pos h]
  · rw [m_no (b := 0) (fun q => h ⟨q.1, by rw [p_64, p_pred (by omega)] at q; omega⟩), p_b, if_pos rfl, if_neg h]
theorem x_has {A : aS} {g : z_S} (hA : I_ok A) (hX : R_X A g) (v : Int32) : fX9_has_4 v g = some (if 0 ≤ v.toInt ∧ v.toInt < (A 0 1 : Int) then 1 else 0, g) := by
  have hn : A 0 1 ≤ 16 := hA.1.2.2.1
  unfold fX9_has_4
  rw [hX.1.2.1]
  by_cases h : 0 ≤ v.toInt ∧ v.toInt < (A 0 1 : Int)
  · obtain ⟨j, -, h2, rfl⟩ := p_rng (a := 0) (b := A 0 1) (by omega) ⟨h.1, by omega⟩
    rw [if_neg (p_neg (by omega)), if_neg, if_pos h]
    rw [p_Ile (by omega)]
    omega
  · rw [if_neg h]
    by_cases h1 : v < 0
    · rw [if_pos h1]
    · rw [if_neg h1, if_pos]
      rw [Int32.lt_iff_toInt_lt, t_0] at h1
      rw [p_Ile (by omega)]
      omega
theorem o_word (w v : Int32) : Op0 (fX10_word w v) (fX11_word w v) := by
  intro A gx gm hA hX hM
  unfold fX10_word fX11_word
  rw [m_noWord hA hM, x_has hA hX, p_b, p_b]
  have hn : A 0 1 ≤ 16 := hA.1.2.2.1
  by_cases h : 0 ≤ w.toInt ∧ w.toInt < (A 0 1 : Int)
  · rw [if_pos h, if_pos h, if_neg (by decide), if_pos rfl]
    obtain ⟨j, -, h2, rfl⟩ := p_rng (a := 0) (b := A 0 1) (by omega) ⟨h.1, by omega⟩
    have hj : j < A 0 1 := by rw [p_toInt (by omega)] at h; omega
    obtain ⟨b1, b2, b3, b4, b5⟩ := hA.2.1 j hj
    obtain ⟨c1, c2, c3, c4⟩ := hX.2.1 j hj
    obtain ⟨d1, d2, d3, d4⟩ := hM.2.1 j hj
    by_cases h' : 0 ≤ v.toInt ∧ v.toInt ≤ 10
    · rw [m_yes (b := 0) (c := 10) h', p_b, if_neg n10]
      obtain ⟨i, -, h4, rfl⟩ := p_rng (a := 0) (b := 10) (by decide) h'
      rw [if_neg (p_neg (by omega)), if_pos (by rw [p_l10, p_le (by omega) (by omega)]; omega)]
      simp (disch := omega) only [p_g, p_b, p_s, p_gin, p_gblt, p_eqL, p_leL, p_Lle, p_ltL, p_Llt, p_addL, p_subL, p_mulL, p_LmulL, p_eq, p_le, p_lt, p_add, p_sub, p_mul, p_clamp, c1, c2, c3, d1, d2, d3]
      by_cases i0 : i = 0
      · exact ⟨nI (A 2 j), gx, gm, A, by rw [if_pos i0], by rw [if_pos i0], hA, hX, hM, Cs.rf⟩
      by_cases i1 : i = 1
      · exact ⟨nI (A 3 j), gx, gm, A, by rw [if_neg i0, if_pos i1], by rw [if_neg i0, if_pos i1], hA, hX, hM, Cs.rf⟩
      by_cases i2 : i = 2
      · exact ⟨nI (A 1 j), gx, gm, A, by rw [if_neg i0, if_neg i1, if_pos i2], by rw [if_neg i0, if_neg i1, if_pos i2], hA, hX, hM, Cs.rf⟩
      rw [if_neg i0, if_neg i1, if_neg i2, if_neg i0, if_neg i1, if_neg i2]
      by_cases i3 : A 1 j ≤ i - 3
      · exact ⟨-1, gx, gm, A, by rw [if_pos i3], by rw [if_pos i3], hA, hX, hM, Cs.rf⟩
      · refine ⟨nI (A 4 (8 * j + (i - 3))), gx, gm, A, ?_, ?_, hA, hX, hM, Cs.rf⟩
        · rw [if_neg i3]
          unfold fX9_sign_4
          simp (disch := omega) only [p_g, p_b, p_s, p_gin, p_gblt, p_eqL, p_leL, p_Lle, p_ltL, p_Llt, p_addL, p_subL, p_mulL, p_LmulL, p_eq, p_le, p_lt, p_add, p_sub, p_mul, p_clamp]
          rw [Nat.mul_comm, c4 _ (by omega)]
        · rw [if_neg i3]
          rw [show 8 * j + i - 3 = 8 * j + (i - 3) by omega, d4 _ (by omega)]
    · rw [m_no (b := 0) (c := 10) h']
      refine ⟨-1002, gx, gm, A, ?_, rfl, hA, hX, hM, Cs.rf⟩
      by_cases h1 : v < 0
      · rw [if_pos h1]
      · rw [if_neg h1, if_neg]
        simp only [Int32.lt_iff_toInt_lt, Int32.le_iff_toInt_le, t_0, t_1, t_2, t_3, t_4, t_6, t_8, t_10, t_20, t_24, t_40, t_99] at *
        omega
  · rw [if_neg h, if_neg h, if_pos rfl, if_neg (by decide)]
    exact ⟨-1001, gx, gm, A, rfl, rfl, hA, hX, hM, Cs.rf⟩
theorem x_may {A : aS} {g : z_S} (hA : I_ok A) (hX : R_X A g) {a j : Nat} (ha : a ≤ 4) (hj : j < 4) : fX7_mayCome (nI a) (nI j) g = some (nI (if a = 4 then 1 else A 5 (4 * a + j)), g) := by
  unfold fX7_mayCome
  simp (disch := omega) only [p_g, p_b, p_s, p_gin, p_gblt, p_eqL, p_leL, p_Lle, p_ltL, p_Llt, p_addL, p_subL, p_mulL, p_LmulL, p_eq, p_le, p_lt, p_add, p_sub, p_mul, p_clamp]
  by_cases h : a = 4
  · rw [if_pos h, if_pos h]; rfl
  · have := hA.2.2.1 (4 * a + j) (by omega)
    rw [if_neg h, if_neg h]
    rw [show a * 4 + j = 4 * a + j by omega, hX.2.2.1 _ (by omega)]
    simp (disch := omega) only [p_g, p_b, p_s, p_gin, p_gblt, p_eqL, p_leL, p_Lle, p_ltL, p_Llt, p_addL, p_subL, p_mulL, p_LmulL, p_eq, p_le, p_lt, p_add, p_sub, p_mul, p_clamp]
    rcases (show A 5 (4 * a + j) = 0 ∨ A 5 (4 * a + j) = 1 by omega) with h | h <;> rw [h] <;> rfl
theorem m_one {a : Nat} {g : z_S} (h : a ≤ 1) : fX11_one (nI a) g = some (nI a, g) := by
  unfold fX11_one
  simp (disch := omega) only [p_g, p_b, p_s, p_gin, p_gblt, p_eqL, p_leL, p_Lle, p_ltL, p_Llt, p_addL, p_subL, p_mulL, p_LmulL, p_eq, p_le, p_lt, p_add, p_sub, p_mul, p_clamp]
  rcases (show a = 0 ∨ a = 1 by omega) with h | h <;> rw [h] <;> rfl
theorem o_follows (a b c : Int32) (hc : c = 0 ∨ c = 1) : Op0 (fX10_follows a b c) (fX11_follows a b c) := by
  intro A gx gm hA hX hM
  unfold fX10_follows fX11_follows
  by_cases h : 0 ≤ a.toInt ∧ a.toInt ≤ 3
  · rw [m_yes (b := 0) (c := 3) h]
    obtain ⟨i, -, h2, rfl⟩ := p_rng (a := 0) (b := 3) (by decide) h
    by_cases h' : 0 ≤ b.toInt ∧ b.toInt ≤ 3
    · obtain ⟨j, -, h4, rfl⟩ := p_rng (a := 0) (b := 3) (by decide) h'
      obtain ⟨t, ht, rfl⟩ : ∃ t, t ≤ 1 ∧ c = nI t := by
        rcases hc with rfl | rfl
        · exact ⟨0, by omega, rfl⟩
        · exact ⟨1, by omega, rfl⟩
      have h5 := hA.2.2.1 (4 * i + j) (by omega)
      have hb : nI t &&& 1 = nI t := by rcases (show t = 0 ∨ t = 1 by omega) with rfl | rfl <;> decide
      refine ⟨nI (A 5 (4 * i + j)), z_wi (z_wi (z_wi (z_wi gx 2 (4 * i + j) (nI (1 - t))) 43 1 0) 45 1 0) 26 3 (-1), z_wi gm 5 (4 * i + j) (nI t), aw A 5 (4 * i + j) t, ?_, ?_, ?_, ?_, ?_, ?_⟩
      · simp (disch := omega) only [p_g, p_b, p_s, p_gin, p_gblt, p_eqL, p_leL, p_Lle, p_ltL, p_Llt, p_addL, p_subL, p_mulL, p_LmulL, p_eq, p_le, p_lt, p_add, p_sub, p_mul, p_clamp, if_pos, if_neg]
        rw [x_may hA hX (by omega) (by omega), p_b, if_neg (by omega : ¬ i = 4)]
        have key : ∀ v4, fX10_follows_J39 (nI i) (nI j) (nI t) v4 gx = some (v4, z_wi (z_wi (z_wi (z_wi gx 2 (4 * i + j) (nI (1 - t))) 43 1 0) 45 1 0) 26 3 (-1)) := by
          intro v4
          unfold fX10_follows_J39
          unfold fX10_follows_J62
          simp (disch := omega) only [p_g, p_b, p_s, p_gin, p_gblt, p_eqL, p_leL, p_Lle, p_ltL, p_Llt, p_addL, p_subL, p_mulL, p_LmulL, p_eq, p_le, p_lt, p_add, p_sub, p_mul, p_clamp]
          rw [show i * 4 + j = 4 * i + j by omega]
          rcases (show t = 0 ∨ t = 1 by omega) with rfl | rfl <;> rfl
        rcases (show A 5 (4 * i + j) = 0 ∨ A 5 (4 * i + j) = 1 by omega) with h | h <;> rw [h] <;> exact key _
      · rw [p_b, if_neg n10, m_yes (b := 0) (c := 3) h', p_b, if_neg n10]
        simp (disch := omega) only [p_g, p_b, p_s, p_gin, p_gblt, p_eqL, p_leL, p_Lle, p_ltL, p_Llt, p_addL, p_subL, p_mulL, p_LmulL, p_eq, p_le, p_lt, p_add, p_sub, p_mul, p_clamp]
        rw [hM.2.2.1 _ (by omega), m_one h5, hb]
        rfl
      · obtain ⟨⟨a1, a2, a3, a4, a5, a6, a7⟩, aB, aC, aD, aE, aF, aG, aH⟩ := hA
        refine ⟨⟨?_, ?_, ?_, ?_, ?_, ?_, ?_⟩, ?_, ?_, ?_, ?_, ?_, ?_, ?_⟩ <;> (try simp (disch := omega) only [aw_off, aw_on, aw_at]) <;> (try assumption) <;> (try omega)
        intro q hq
        rw [aw_e]
        split
        · omega
        · exact aC q hq
      · obtain ⟨⟨x1, x2, x3, x4, x5, x6⟩, xB, xC, xD, xE, xF, xG, xH, xI, xJ⟩ := hX
        refine ⟨⟨?_, ?_, ?_, ?_, ?_, ?_⟩, ?_, ?_, ?_, ?_, ?_, ?_, ?_, ?_, ?_⟩ <;> (try simp (disch := omega) only [aw_off, aw_on, aw_at, p_off, p_on, p_at]) <;> (try assumption) <;> (try rfl)
        · intro q hq
          rw [aw_e, p_wi]
          by_cases hqi : q = 4 * i + j
          · subst hqi; simp
          · rw [if_neg (by omega), if_neg (by omega)]
            exact xC q hq
        · intro l hl
          have hl4 : l < 4 := Nat.lt_of_lt_of_le hl hA.1.2.2.2.2.1
          simp (disch := omega) only [aw_off, aw_on, aw_at, p_off, p_on, p_at]
          exact xF l hl
      · obtain ⟨⟨m1, m2, m3, m4, m5, m6⟩, mB, mC, mD, mE, mF, mG⟩ := hM
        refine ⟨⟨?_, ?_, ?_, ?_, ?_, ?_⟩, ?_, ?_, ?_, ?_, ?_, ?_⟩ <;> (try simp (disch := omega) only [aw_off, aw_on, aw_at, p_off, p_on, p_at]) <;> (try assumption) <;> (try rfl)
        intro q hq
        rw [aw_e, p_wi]
        by_cases hqi : q = 4 * i + j
        · subst hqi; simp
        · rw [if_neg (by omega), if_neg (by omega)]
          exact mC q hq
      · left
        simp [Fgt, p_wi]
    · refine ⟨-1002, gx, gm, A, ?_, ?_, hA, hX, hM, Cs.rf⟩
      · rw [if_neg (p_neg (by omega)), if_neg (by rw [p_l4, p_le (by omega) (by omega)]; omega)]
        repeat' split
        all_goals first | rfl | (exfalso; simp only [Int32.lt_iff_toInt_lt, Int32.le_iff_toInt_le, t_0, t_1, t_2, t_3, t_4, t_6, t_8, t_10, t_20, t_24, t_40, t_99] at *; omega)
      · rw [p_b, if_neg n10, m_no (b := 0) (c := 3) h']
        rfl
  · rw [m_no (b := 0) (c := 3) h]
    refine ⟨-1002, gx, gm, A, ?_, rfl, hA, hX, hM, Cs.rf⟩
    repeat' split
    all_goals first | rfl | (exfalso; simp only [Int32.lt_iff_toInt_lt, Int32.le_iff_toInt_le, t_0, t_1, t_2, t_3, t_4, t_6, t_8, t_10, t_20, t_24, t_40, t_99] at *; omega)

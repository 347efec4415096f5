/-! numbers, and what is said of functions over the compact state -/
theorem p_toInt {n : Nat} (h : n < 2147483648) : (nI n).toInt = (n : Int) := nI_toInt (by simpa using h)
theorem p_clamp {n : Nat} (h : n < 2147483648) : (nI n).toNatClampNeg = n := nI_clamp (by simpa using h)
theorem p_le {a b : Nat} (ha : a < 2147483648) (hb : b < 2147483648) : nI a ≤ nI b ↔ a ≤ b := nI_leI (by simpa using ha) (by simpa using hb)
theorem p_lt {a b : Nat} (ha : a < 2147483648) (hb : b < 2147483648) : nI a < nI b ↔ a < b := nI_ltI (by simpa using ha) (by simpa using hb)
theorem p_eq {a b : Nat} (ha : a < 2147483648) (hb : b < 2147483648) : nI a = nI b ↔ a = b := nI_eq (by simpa using ha) (by simpa using hb)
theorem p_in {i n : Nat} (h : i < 2147483648) : z_in (nI i) n = decide (i < n) := by
  unfold z_in
  rw [p_toInt h]
  simp
theorem p_b {α β : Type} {r : α} {g : z_S} {f : α → z_S → Option β} : z_b (some (r, g)) f = f r g := rfl
theorem p_g {β : Type} {x : Option β} : z_g true x = x := rfl
theorem p_gi {β : Type} {b : Bool} {x : Option β} (h : b = true) : z_g b x = x := by rw [h]; rfl
theorem p_s {β : Type} {a : z_S} {f : z_S → Option β} : z_s a f = f a := rfl
theorem p_wi {g : z_S} {o k : Nat} {x : Int32} {a j : Nat} : (z_wi g o k x).1 a j = if a = o ∧ j = k then x else g.1 a j := rfl
theorem p_wi2 {g : z_S} {o k : Nat} {x : Int32} : (z_wi g o k x).2 = g.2 := rfl
theorem p_wl {g : z_S} {o k : Nat} {x : Int64} {a j : Nat} : (z_wl g o k x).2 a j = if a = o ∧ j = k then x else g.2 a j := rfl
theorem p_wl1 {g : z_S} {o k : Nat} {x : Int64} : (z_wl g o k x).1 = g.1 := rfl
theorem p_add (a b : Nat) : nI a + nI b = nI (a + b) := nI_add a b
theorem p_sub {a b : Nat} (h : b ≤ a) : nI a - nI b = nI (a - b) := pk_sub h
theorem p_mul (a b : Nat) : nI a * nI b = nI (a * b) := pk_mul a b
theorem p_m1 {n : Nat} (h : 0 < n) : nI n + (-1) = nI (n - 1) := by
  obtain ⟨m, rfl⟩ : ∃ m, n = m + 1 := ⟨n - 1, by omega⟩
  rw [pk_m1]; rfl
theorem p_l0 : (0 : Int32) = nI 0 := rfl
theorem p_l1 : (1 : Int32) = nI 1 := rfl
theorem p_l2 : (2 : Int32) = nI 2 := rfl
theorem p_l3 : (3 : Int32) = nI 3 := rfl
theorem p_l4 : (4 : Int32) = nI 4 := rfl
theorem p_l5 : (5 : Int32) = nI 5 := rfl
theorem p_l6 : (6 : Int32) = nI 6 := rfl
theorem p_l8 : (8 : Int32) = nI 8 := rfl
theorem p_l9 : (9 : Int32) = nI 9 := rfl
theorem p_l10 : (10 : Int32) = nI 10 := rfl
theorem p_l12 : (12 : Int32) = nI 12 := rfl
theorem p_l16 : (16 : Int32) = nI 16 := rfl
theorem p_l17 : (17 : Int32) = nI 17 := rfl
theorem p_l24 : (24 : Int32) = nI 24 := rfl
theorem p_l48 : (48 : Int32) = nI 48 := rfl
theorem p_l99 : (99 : Int32) = nI 99 := rfl
theorem p_l200 : (200 : Int32) = nI 200 := rfl
theorem p_gin {β : Type} {i n : Nat} {x : Option β} (h : i < n) (h2 : i < 2147483648) : z_g (z_in (nI i) n) x = x := by rw [p_in h2, decide_eq_true h]; rfl
theorem p_gblt {β : Type} {i n : Nat} {x : Option β} (h : i < n) : z_g (Nat.blt i n) x = x := by rw [Nat.blt_eq.mpr h]; rfl
theorem p_eqL {a n : Nat} (ha : a < 2147483648) (hn : (OfNat.ofNat n : Nat) < 2147483648) : nI a = (no_index (OfNat.ofNat n) : Int32) ↔ a = OfNat.ofNat n := p_eq (b := n) ha hn
theorem p_leL {a n : Nat} (ha : a < 2147483648) (hn : (OfNat.ofNat n : Nat) < 2147483648) : nI a ≤ (no_index (OfNat.ofNat n) : Int32) ↔ a ≤ OfNat.ofNat n := p_le (b := n) ha hn
theorem p_Lle {a n : Nat} (ha : a < 2147483648) (hn : (OfNat.ofNat n : Nat) < 2147483648) : (no_index (OfNat.ofNat n) : Int32) ≤ nI a ↔ OfNat.ofNat n ≤ a := p_le (a := n) hn ha
theorem p_ltL {a n : Nat} (ha : a < 2147483648) (hn : (OfNat.ofNat n : Nat) < 2147483648) : nI a < (no_index (OfNat.ofNat n) : Int32) ↔ a < OfNat.ofNat n := p_lt (b := n) ha hn
theorem p_Llt {a n : Nat} (ha : a < 2147483648) (hn : (OfNat.ofNat n : Nat) < 2147483648) : (no_index (OfNat.ofNat n) : Int32) < nI a ↔ OfNat.ofNat n < a := p_lt (a := n) hn ha
theorem p_addL {a n : Nat} : nI a + (no_index (OfNat.ofNat n) : Int32) = nI (a + OfNat.ofNat n) := p_add a n
theorem p_subL {a n : Nat} (h : OfNat.ofNat n ≤ a) : nI a - (no_index (OfNat.ofNat n) : Int32) = nI (a - OfNat.ofNat n) := p_sub (b := n) h
theorem p_mulL {a n : Nat} : nI a * (no_index (OfNat.ofNat n) : Int32) = nI (a * OfNat.ofNat n) := p_mul a n
theorem p_LmulL {a n : Nat} : (no_index (OfNat.ofNat n) : Int32) * nI a = nI (OfNat.ofNat n * a) := p_mul n a
theorem p_neg {n : Nat} (h : n < 2147483648) : ¬ nI n < 0 := by
  rw [Int32.lt_iff_toInt_lt, p_toInt h]
  have : (0 : Int32).toInt = 0 := rfl
  omega
theorem p_pos {n : Nat} (h : n < 2147483648) : 0 ≤ nI n := by
  rw [Int32.le_iff_toInt_le, p_toInt h]
  have : (0 : Int32).toInt = 0 := rfl
  omega
/-- an int below a bound, or not -/
theorem p_cases (x : Int32) : x < 0 ∨ ∃ n : Nat, n < 2147483648 ∧ x = nI n := by
  by_cases h : x < 0
  · exact Or.inl h
  · obtain ⟨j, hj, e⟩ := nI_of h
    exact Or.inr ⟨j, by simpa using hj, e⟩
theorem p_loop {α β : Type} {body : (α → z_S → Option β) → α → z_S → Option β} {P : α → z_S → Prop} {μ : α → z_S → Nat} {R : Option β}
    (h : ∀ (rc : α → z_S → Option β) (a : α) (g : z_S), P a g → (∀ a' g', P a' g' → μ a' g' < μ a g → rc a' g' = R) → body rc a g = R) : ∀ (n : Nat) (a : α) (g : z_S), P a g → μ a g < n → z_loop body n a g = R := by
  intro n
  induction n with
  | zero => intro a g _ hm; omega
  | succ n ih =>
    intro a g hP hm
    show body (z_loop body n) a g = R
    exact h _ a g hP (fun a' g' hP' hm' => ih a' g' hP' (by omega))
theorem p_zN : zN = 1000000 := rfl
/-- longs -/
theorem p_Ltoint {n : Nat} (h : n < 9223372036854775808) : (lN n).toInt = (n : Int) := by
  unfold lN
  rw [Int64.toInt_ofNat']
  have hs : Int64.size = 18446744073709551616 := rfl
  rw [hs]
  exact Int.bmod_eq_of_le (by omega) (by omega)
theorem p_JLe {a b : Nat} (ha : a < 9223372036854775808) (hb : b < 9223372036854775808) : lN a ≤ lN b ↔ a ≤ b := by
  rw [Int64.le_iff_toInt_le, p_Ltoint ha, p_Ltoint hb]; omega
theorem p_JLt {a b : Nat} (ha : a < 9223372036854775808) (hb : b < 9223372036854775808) : lN a < lN b ↔ a < b := by
  rw [Int64.lt_iff_toInt_lt, p_Ltoint ha, p_Ltoint hb]; omega
theorem p_Leq {a b : Nat} (ha : a < 9223372036854775808) (hb : b < 9223372036854775808) : lN a = lN b ↔ a = b := by
  constructor
  · intro h
    have := congrArg Int64.toInt h
    rw [p_Ltoint ha, p_Ltoint hb] at this
    omega
  · intro h; rw [h]
theorem p_Ladd (a b : Nat) : lN a + lN b = lN (a + b) := lN_add a b
theorem p_Lsub {a b : Nat} (h : b ≤ a) : lN a - lN b = lN (a - b) := lN_sub h
theorem p_Lmul (a b : Nat) : lN a * lN b = lN (a * b) := lN_mul a b
theorem p_iL {n : Nat} (h : n < 2147483648) : (nI n).toInt64 = lN n := nI_l (by simpa using h)
theorem p_Li (n : Nat) : (lN n).toInt32 = nI n := lN_i n
theorem p_L0 : (0 : Int64) = lN 0 := rfl
theorem p_L1 : (1 : Int64) = lN 1 := rfl
theorem p_Lcases (x : Int64) : x < 0 ∨ ∃ n : Nat, n < 9223372036854775808 ∧ x = lN n := by
  by_cases h : x < 0
  · exact Or.inl h
  · right
    rw [Int64.lt_iff_toInt_lt] at h
    have h0 : (0 : Int64).toInt = 0 := rfl
    have hu := Int64.toInt_lt x
    refine ⟨x.toInt.toNat, by omega, ?_⟩
    apply Int64.toInt_inj.mp
    rw [p_Ltoint (by omega)]
    omega
/-- the reference's test of a range -/
theorem m_in (a b c : Int64) (g : z_S) : fX11_in a b c g = some (if b ≤ a ∧ a ≤ c then 1 else 0, g) := by
  unfold fX11_in
  by_cases h1 : a < b
  · rw [if_pos h1, if_neg]
    rw [Int64.lt_iff_toInt_lt] at h1
    rw [Int64.le_iff_toInt_le]
    omega
  · rw [if_neg h1]
    by_cases h2 : c < a
    · rw [if_pos h2, if_neg]
      rw [Int64.lt_iff_toInt_lt] at h2
      rw [Int64.le_iff_toInt_le, Int64.le_iff_toInt_le]
      omega
    · rw [if_neg h2, if_pos]
      rw [Int64.lt_iff_toInt_lt] at h1 h2
      rw [Int64.le_iff_toInt_le, Int64.le_iff_toInt_le]
      omega
theorem m_ini (x : Int32) (b c : Int64) (g : z_S) : fX11_in x.toInt64 b c g = some (if b.toInt ≤ x.toInt ∧ x.toInt ≤ c.toInt then 1 else 0, g) := by
  rw [m_in]
  simp only [Int64.le_iff_toInt_le, Int32.toInt_toInt64]
/-- the abstract state: 0 numbers (letters, words, draft, lines, text, fault place + 1), 1 lengths, 2 costs, 3 kinds, 4 letters of words (8w+i), 5 follows (4i+j), 6 prices, 7 draft, 8 lengths of lines, 9 letters of lines (24l+x), 10 text -/
abbrev aS : Type := Nat → Nat → Nat
def aw (A : aS) (c i v : Nat) : aS := fun a j => if a = c ∧ j = i then v else A a j
theorem aw_e {A : aS} {c i v a j : Nat} : aw A c i v a j = if a = c ∧ j = i then v else A a j := rfl
def I_ok (A : aS) : Prop :=
  (2 ≤ A 0 0 ∧ A 0 0 ≤ 8 ∧ A 0 1 ≤ 16 ∧ A 0 2 ≤ 48 ∧ A 0 3 ≤ 4 ∧ A 0 4 ≤ 200 ∧ A 0 5 ≤ 201) ∧
  (∀ w, w < A 0 1 → 1 ≤ A 1 w ∧ A 1 w ≤ 8 ∧ A 2 w ≤ 99 ∧ A 3 w ≤ 3 ∧ ∀ i, i < A 1 w → A 4 (8 * w + i) < A 0 0) ∧
  (∀ i, i < 16 → A 5 i ≤ 1) ∧ (∀ i, i < 3 → A 6 i ≤ 99) ∧ (∀ i, i < A 0 2 → A 7 i < A 0 0) ∧
  (∀ l, l < A 0 3 → 1 ≤ A 8 l ∧ A 8 l ≤ 24 ∧ ∀ x, x < A 8 l → A 9 (24 * l + x) < A 0 0) ∧ (∀ i, i < A 0 4 → A 10 i < 256) ∧
  (∀ v w, v < w → w < A 0 1 → ¬ (A 1 v = A 1 w ∧ ∀ i, i < A 1 v → A 4 (8 * v + i) = A 4 (8 * w + i)))
/-- a fault's place: none is 0 -/
def a_pl (n : Nat) : Int32 := match n with
  | 0 => -1
  | k + 1 => nI k
def R_M (A : aS) (g : z_S) : Prop :=
  (g.1 0 0 = nI (A 0 0) ∧ g.1 0 1 = nI (A 0 1) ∧ g.1 0 9 = nI (A 0 2) ∧ g.1 0 10 = nI (A 0 3) ∧ g.1 0 14 = nI (A 0 4) ∧ g.1 0 17 = a_pl (A 0 5)) ∧
  (∀ w, w < A 0 1 → g.1 2 w = nI (A 1 w) ∧ g.1 3 w = nI (A 2 w) ∧ g.1 4 w = nI (A 3 w) ∧ ∀ i, i < A 1 w → g.1 1 (8 * w + i) = nI (A 4 (8 * w + i))) ∧
  (∀ i, i < 16 → g.1 5 i = nI (A 5 i)) ∧ (∀ i, i < 3 → g.1 6 i = nI (A 6 i)) ∧ (∀ i, i < A 0 2 → g.1 7 i = nI (A 7 i)) ∧
  (∀ l, l < A 0 3 → g.1 9 l = nI (A 8 l) ∧ ∀ x, x < A 8 l → g.1 8 (24 * l + x) = nI (A 9 (24 * l + x))) ∧ (∀ i, i < A 0 4 → g.1 10 i = nI (A 10 i))
def R_X (A : aS) (g : z_S) : Prop :=
  (g.1 1 0 = nI (A 0 0) ∧ g.1 4 0 = nI (A 0 1) ∧ g.1 11 1 = nI (A 0 2) ∧ g.1 26 0 = nI (A 0 3) ∧ g.1 9 1 = nI (A 0 4) ∧ g.1 13 1 = a_pl (A 0 5)) ∧
  (∀ w, w < A 0 1 → g.1 6 w = nI (A 1 w) ∧ g.1 7 w = nI (A 2 w) ∧ g.1 8 w = nI (A 3 w) ∧ ∀ i, i < A 1 w → g.1 5 (8 * w + i) = nI (A 4 (8 * w + i))) ∧
  (∀ i, i < 16 → g.1 2 i = nI (1 - A 5 i)) ∧ (∀ i, i < 3 → g.1 3 i = nI (A 6 i)) ∧ (∀ i, i < A 0 2 → g.1 12 i = nI (A 7 i)) ∧
  (∀ l, l < A 0 3 → g.1 (34 + 2 * l) 1 = nI (A 8 l) ∧ ∀ x, x < A 8 l → g.1 (35 + 2 * l) x = nI (A 9 (24 * l + x))) ∧ (∀ i, i < A 0 4 → g.1 10 i = nI (A 10 i)) ∧
  g.1 43 0 = 1 ∧ g.1 45 0 = 0 ∧ g.1 26 15 = 0

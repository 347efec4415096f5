/-! readings: the least weight and how many have it, exactly -/
def gadd (a b : Option (Int × Nat)) : Option (Int × Nat) := match a, b with
  | a, none => a
  | none, some q => some q
  | some p, some q => if q.1 < p.1 then some q else if q.1 = p.1 then some (p.1, p.2 + q.2) else some p
def gsh (d : Int) (a : Option (Int × Nat)) : Option (Int × Nat) := match a with
  | none => none
  | some p => some (p.1 + d, p.2)
def gf (f : Nat → Option (Int × Nat)) : Nat → Option (Int × Nat)
  | 0 => none
  | n + 1 => gadd (gf f n) (f n)
theorem gf_congr {f h : Nat → Option (Int × Nat)} : ∀ n, (∀ i, i < n → f i = h i) → gf f n = gf h n
  | 0, _ => rfl
  | n + 1, e => by rw [gf, gf, gf_congr n (fun i hi => e i (by omega)), e n (by omega)]
def rok (A : aS) (a w x : Nat) : Prop := may A a w ∧ stR (A 7) (A 0 2) A x w
noncomputable def cit {α : Type} (c : Prop) (x y : α) : α := @ite _ c (Classical.propDecidable c) x y
theorem cit_t {α : Type} {c : Prop} {x y : α} (h : c) : cit c x y = x := if_pos h
theorem cit_f {α : Type} {c : Prop} {x y : α} (h : ¬ c) : cit c x y = y := if_neg h
noncomputable def gN (A : aS) (wt : Nat → Nat → Int) : Nat → Nat → Nat → Option (Int × Nat)
  | 0 => fun _ _ => some (0, 1)
  | n + 1 => fun x a => if x < A 0 2 then gf (fun w => cit (rok A a w x) (gsh (wt w (x + A 1 w)) (gN A wt n (x + A 1 w) (A 3 w))) none) (A 0 1) else some (0, 1)
theorem gN_fuel {A : aS} (hA : I_ok A) {wt : Nat → Nat → Int} : ∀ n m x a, A 0 2 - x ≤ n → A 0 2 - x ≤ m → gN A wt n x a = gN A wt m x a
  | 0, 0, _, _, _, _ => rfl
  | 0, m + 1, x, a, h, _ => by
    show some (0, 1) = if x < A 0 2 then _ else _
    rw [if_neg (by omega)]
  | n + 1, 0, x, a, _, h => by
    show (if x < A 0 2 then _ else _) = some (0, 1)
    rw [if_neg (by omega)]
  | n + 1, m + 1, x, a, h1, h2 => by
    show (if x < A 0 2 then _ else _) = if x < A 0 2 then _ else _
    by_cases hx : x < A 0 2
    · rw [if_pos hx, if_pos hx]
      refine gf_congr _ (fun w hw => ?_)
      have := (hA.2.1 w hw).1
      rw [gN_fuel hA n m (x + A 1 w) (A 3 w) (by omega) (by omega)]
    · rw [if_neg hx, if_neg hx]
noncomputable def GG (A : aS) (wt : Nat → Nat → Int) (x a : Nat) : Option (Int × Nat) := gN A wt (A 0 2 - x) x a
/-- the word w, taken at x behind a -/
noncomputable def gw (A : aS) (wt : Nat → Nat → Int) (x a w : Nat) : Option (Int × Nat) := cit (rok A a w x) (gsh (wt w (x + A 1 w)) (GG A wt (x + A 1 w) (A 3 w))) none
theorem GG_end {A : aS} {wt : Nat → Nat → Int} {x a : Nat} (h : A 0 2 ≤ x) : GG A wt x a = some (0, 1) := by
  unfold GG
  rw [show A 0 2 - x = 0 by omega]
  rfl
theorem GG_step {A : aS} (hA : I_ok A) {wt : Nat → Nat → Int} {x a : Nat} (h : x < A 0 2) : GG A wt x a = gf (gw A wt x a) (A 0 1) := by
  unfold GG
  obtain ⟨n, hn⟩ : ∃ n, A 0 2 - x = n + 1 := ⟨A 0 2 - x - 1, by omega⟩
  rw [hn]
  show (if x < A 0 2 then _ else _) = _
  rw [if_pos h]
  refine gf_congr _ (fun w hw => ?_)
  have := (hA.2.1 w hw).1
  unfold gw GG
  rw [gN_fuel hA n (A 0 2 - (x + A 1 w)) (x + A 1 w) (A 3 w) (by omega) (by omega)]
/-- weights between -1 and 99 -/
def wtok (A : aS) (wt : Nat → Nat → Int) : Prop := ∀ w e, w < A 0 1 → -1 ≤ wt w e ∧ wt w e ≤ 99
def gbd (d : Nat) (o : Option (Int × Nat)) : Prop := ∀ q, o = some q → -(d : Int) ≤ q.1 ∧ q.1 ≤ 99 * d ∧ 1 ≤ q.2
theorem gbd_add {d : Nat} {a b : Option (Int × Nat)} (ha : gbd d a) (hb : gbd d b) : gbd d (gadd a b) := by
  intro q hq
  cases a with
  | none =>
    cases b with
    | none => cases hq
    | some p => exact hb q hq
  | some p =>
    cases b with
    | none => exact ha q hq
    | some r =>
      have h1 := ha p rfl
      have h2 := hb r rfl
      simp only [gadd] at hq
      by_cases c1 : r.1 < p.1
      · rw [if_pos c1] at hq; cases hq; exact h2
      · rw [if_neg c1] at hq
        by_cases c2 : r.1 = p.1
        · rw [if_pos c2] at hq
          cases hq
          exact ⟨h1.1, h1.2.1, by show 1 ≤ p.2 + r.2; omega⟩
        · rw [if_neg c2] at hq; cases hq; exact h1
theorem gbd_f {d : Nat} {f : Nat → Option (Int × Nat)} : ∀ n, (∀ i, i < n → gbd d (f i)) → gbd d (gf f n)
  | 0, _ => fun q hq => by cases hq
  | n + 1, h => gbd_add (gbd_f n (fun i hi => h i (by omega))) (h n (by omega))
theorem gbd_sh {d e : Nat} {s : Int} {a : Option (Int × Nat)} (ha : gbd d a) (h : d + 1 ≤ e) (h1 : -1 ≤ s) (h2 : s ≤ 99) : gbd e (gsh s a) := by
  intro q hq
  cases a with
  | none => cases hq
  | some p =>
    have := ha p rfl
    cases hq
    refine ⟨?_, ?_, this.2.2⟩
    · show -(e : Int) ≤ p.1 + s; omega
    · show p.1 + s ≤ 99 * (e : Int); omega
theorem gbd_G {A : aS} (hA : I_ok A) {wt : Nat → Nat → Int} (hw : wtok A wt) : ∀ n x a, A 0 2 - x ≤ n → gbd (A 0 2 - x) (GG A wt x a)
  | 0, x, a, h => by
    rw [GG_end (by omega)]
    intro q hq; cases hq
    exact ⟨by show -_ ≤ (0 : Int); omega, by show (0 : Int) ≤ _; omega, by show 1 ≤ 1; omega⟩
  | n + 1, x, a, h => by
    by_cases hx : x < A 0 2
    · rw [GG_step hA hx]
      refine gbd_f _ (fun w hww => ?_)
      have h1 := (hA.2.1 w hww).1
      unfold gw
      by_cases c : rok A a w x
      · rw [cit_t c]
        have hc := c.2.1
        exact gbd_sh (gbd_G hA hw n (x + A 1 w) (A 3 w) (by omega)) (by omega) (hw w _ hww).1 (hw w _ hww).2
      · rw [cit_f c]
        intro q hq; cases hq
    · rw [GG_end (by omega)]
      intro q hq; cases hq
      exact ⟨by show -_ ≤ (0 : Int); omega, by show (0 : Int) ≤ _; omega, by show 1 ≤ 1; omega⟩
theorem gbd_gw {A : aS} (hA : I_ok A) {wt : Nat → Nat → Int} (hw : wtok A wt) {x a w : Nat} (hx : x ≤ A 0 2) (hww : w < A 0 1) : gbd (A 0 2 - x) (gw A wt x a w) := by
  have h1 := (hA.2.1 w hww).1
  unfold gw
  by_cases c : rok A a w x
  · rw [cit_t c]
    have hc := c.2.1
    exact gbd_sh (gbd_G hA hw _ (x + A 1 w) (A 3 w) (Nat.le_refl _)) (by omega) (hw w _ hww).1 (hw w _ hww).2
  · rw [cit_f c]
    intro q hq; cases hq
/-- how the class holds it -/
def eL (o : Option (Int × Nat)) : Int32 := match o with
  | none => nI 1000000000
  | some q => Int32.ofInt q.1
def eC (c : Nat) (o : Option (Int × Nat)) : Int64 := match o with
  | none => lN 0
  | some q => lN (min c q.2)
theorem iI_toInt {z : Int} (h1 : -5000 ≤ z) (h2 : z ≤ 5000) : (Int32.ofInt z).toInt = z := by
  rw [Int32.toInt_ofInt]
  have hs : Int32.size = 4294967296 := rfl
  rw [hs]
  exact Int.bmod_eq_of_le (by omega) (by omega)
theorem iI_add (a b : Int) : Int32.ofInt a + Int32.ofInt b = Int32.ofInt (a + b) := by rw [Int32.ofInt_add]
theorem iI_n (n : Nat) : nI n = Int32.ofInt n := by
  unfold nI
  rw [Int32.ofInt_eq_ofNat]
theorem iI_inj {a b : Int} (h1 : -5000 ≤ a) (h2 : a ≤ 5000) (h3 : -5000 ≤ b) (h4 : b ≤ 5000) : Int32.ofInt a = Int32.ofInt b ↔ a = b := by
  constructor
  · intro h
    have := congrArg Int32.toInt h
    rwa [iI_toInt h1 h2, iI_toInt h3 h4] at this
  · intro h; rw [h]

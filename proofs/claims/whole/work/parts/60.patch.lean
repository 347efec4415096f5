/-! patched: least prices, by rounds -/
theorem pC_ex : ∃ n : Nat, n = 1152921504606846976 := ⟨_, rfl⟩
noncomputable def pC : Nat := pC_ex.choose
theorem pC_eq : pC = 1152921504606846976 := pC_ex.choose_spec
noncomputable def pa (v m : Nat) : Nat := min pC (v + m)
def ms (A : aS) (j : Nat) : Nat := A 6 j * 1048576 + 1
def co (A : aS) (w : Nat) : Nat := A 2 w * 1048576
abbrev pS : Type := (Nat → Nat) × (Nat → Nat → Nat)
noncomputable def bgn (A : aS) (b : Nat → Nat) (w init : Nat) : Nat → Nat
  | 0 => init
  | a + 1 => cit (may A a w) (min (pa (b a) (co A w)) (bgn A b w init a)) (bgn A b w init a)
noncomputable def row (f : Nat → Nat) (m : Nat) : Nat → Nat
  | 0 => f 0
  | i + 1 => min (pa (row f m i) m) (f (i + 1))
noncomputable def prw (A : aS) (s : pS) (w : Nat) : Nat → Nat := row (fun i => if i = 0 then bgn A s.1 w (s.2 w 0) 5 else s.2 w i) (ms A 1)
noncomputable def pst (A : aS) (w : Nat) (s : pS) : pS := (fun k => if k = A 3 w then min (s.1 k) (prw A s w (A 1 w)) else s.1 k, fun v i => if v = w then prw A s w i else s.2 v i)
noncomputable def prn (A : aS) : Nat → pS → pS
  | 0, s => s
  | w + 1, s => pst A w (prn A w s)
def ple (A : aS) (p s : pS) : Prop := (∀ a, a ≤ 4 → p.1 a ≤ s.1 a) ∧ ∀ w i, w < A 0 1 → i ≤ A 1 w → p.2 w i ≤ s.2 w i
def pbd (A : aS) (s : pS) : Prop := (∀ a, a ≤ 4 → s.1 a ≤ pC) ∧ ∀ w i, w < A 0 1 → i ≤ A 1 w → s.2 w i ≤ pC
/-- the ways within a word and out of it are closed -/
def pch (A : aS) (s : pS) : Prop := ∀ w, w < A 0 1 → (∀ i, i < A 1 w → s.2 w (i + 1) ≤ s.2 w i + ms A 1) ∧ s.1 (A 3 w) ≤ s.2 w (A 1 w)
def pcl (A : aS) (s : pS) : Prop := pch A s ∧ ∀ w a, w < A 0 1 → a ≤ 4 → may A a w → s.2 w 0 ≤ s.1 a + co A w
theorem bgn_le {A : aS} {b : Nat → Nat} {w init : Nat} : ∀ k, bgn A b w init k ≤ init ∧ ∀ a, a < k → may A a w → bgn A b w init k ≤ pa (b a) (co A w)
  | 0 => ⟨Nat.le_refl _, fun a h => by omega⟩
  | k + 1 => by
    obtain ⟨h1, h2⟩ := bgn_le (A := A) (b := b) (w := w) (init := init) k
    rw [bgn]
    by_cases c : may A k w
    · rw [cit_t c]
      refine ⟨by omega, fun a ha hm => ?_⟩
      by_cases e : a = k
      · subst e; omega
      · have := h2 a (by omega) hm; omega
    · rw [cit_f c]
      refine ⟨h1, fun a ha hm => ?_⟩
      by_cases e : a = k
      · subst e; exact absurd hm c
      · exact h2 a (by omega) hm
theorem bgn_in {A : aS} {b : Nat → Nat} {w init : Nat} : ∀ k, bgn A b w init k = init ∨ ∃ a, a < k ∧ may A a w ∧ bgn A b w init k = pa (b a) (co A w)
  | 0 => Or.inl rfl
  | k + 1 => by
    have h := bgn_in (A := A) (b := b) (w := w) (init := init) k
    rw [bgn]
    by_cases c : may A k w
    · rw [cit_t c]
      by_cases q : pa (b k) (co A w) ≤ bgn A b w init k
      · exact Or.inr ⟨k, by omega, c, by omega⟩
      · rw [Nat.min_eq_right (by omega)]
        rcases h with h | ⟨a, h1, h2, h3⟩
        · exact Or.inl h
        · exact Or.inr ⟨a, by omega, h2, h3⟩
    · rw [cit_f c]
      rcases h with h | ⟨a, h1, h2, h3⟩
      · exact Or.inl h
      · exact Or.inr ⟨a, by omega, h2, h3⟩
theorem prw_0 {A : aS} {s : pS} {w : Nat} : prw A s w 0 = bgn A s.1 w (s.2 w 0) 5 := rfl
theorem prw_s {A : aS} {s : pS} {w i : Nat} : prw A s w (i + 1) = min (pa (prw A s w i) (ms A 1)) (s.2 w (i + 1)) := rfl
theorem prw_le {A : aS} {s : pS} {w : Nat} : ∀ i, prw A s w i ≤ s.2 w i
  | 0 => by rw [prw_0]; exact (bgn_le 5).1
  | i + 1 => by rw [prw_s]; omega
theorem pst_1 {A : aS} {s : pS} {w k : Nat} : (pst A w s).1 k = if k = A 3 w then min (s.1 k) (prw A s w (A 1 w)) else s.1 k := rfl
theorem pst_2 {A : aS} {s : pS} {w v i : Nat} : (pst A w s).2 v i = if v = w then prw A s w i else s.2 v i := rfl
theorem pst_le1 {A : aS} {s : pS} {w k : Nat} : (pst A w s).1 k ≤ s.1 k := by
  rw [pst_1]; split <;> omega
theorem pst_le2 {A : aS} {s : pS} {w v i : Nat} : (pst A w s).2 v i ≤ s.2 v i := by
  rw [pst_2]; split
  · rename_i h; subst h; exact prw_le i
  · omega
theorem prn_le {A : aS} {s : pS} : ∀ w, (∀ k, (prn A w s).1 k ≤ s.1 k) ∧ ∀ v i, (prn A w s).2 v i ≤ s.2 v i
  | 0 => ⟨fun _ => Nat.le_refl _, fun _ _ => Nat.le_refl _⟩
  | w + 1 => by
    obtain ⟨h1, h2⟩ := prn_le (A := A) (s := s) w
    exact ⟨fun k => Nat.le_trans pst_le1 (h1 k), fun v i => Nat.le_trans pst_le2 (h2 v i)⟩
theorem prn_row {A : aS} {s : pS} : ∀ w v i, w ≤ v → (prn A w s).2 v i = s.2 v i
  | 0, v, i, _ => rfl
  | w + 1, v, i, h => by rw [prn, pst_2, if_neg (by omega)]; exact prn_row w v i (by omega)
theorem prn_keep {A : aS} {s : pS} {w v i : Nat} (h : v < w) : ∀ k, (prn A (w + k) s).2 v i = (prn A w s).2 v i
  | 0 => rfl
  | k + 1 => by
    show (pst A (w + k) (prn A (w + k) s)).2 v i = _
    rw [pst_2, if_neg (by omega)]
    exact prn_keep h k
theorem prn_at {A : aS} {s : pS} {w n i : Nat} (h : w < n) : (prn A n s).2 w i = prw A (prn A w s) w i := by
  have := prn_keep (A := A) (s := s) (i := i) (show w < w + 1 by omega) (n - (w + 1))
  rw [show w + 1 + (n - (w + 1)) = n by omega] at this
  rw [this, prn, pst_2, if_pos rfl]
/-- every closed point below stays below -/
theorem pst_sound {A : aS} {p s : pS} {w : Nat} (hp : pcl A p) (hb : pbd A p) (h : ple A p s) (hw : w < A 0 1) (hk : A 3 w ≤ 4) : ple A p (pst A w s) := by
  obtain ⟨h1, h2⟩ := hp.1 w hw
  have hr : ∀ i, i ≤ A 1 w → p.2 w i ≤ prw A s w i := by
    intro i
    induction i with
    | zero =>
      intro _
      rw [prw_0]
      rcases bgn_in (A := A) (b := s.1) (w := w) (init := s.2 w 0) 5 with e | ⟨a, e1, e2, e3⟩
      · rw [e]; exact h.2 w 0 hw (by omega)
      · rw [e3]
        have := hp.2 w a hw (by omega) e2
        have := h.1 a (by omega)
        have := hb.2 w 0 hw (by omega)
        unfold pa; omega
    | succ i ih =>
      intro hi
      rw [prw_s]
      have := ih (by omega)
      have := h1 i (by omega)
      have := h.2 w (i + 1) hw hi
      have := hb.2 w (i + 1) hw hi
      unfold pa; omega
  constructor
  · intro a ha
    rw [pst_1]
    have := h.1 a ha
    split
    · rename_i e
      subst e
      have := hr (A 1 w) (Nat.le_refl _)
      omega
    · exact this
  · intro v i hv hi
    rw [pst_2]
    split
    · rename_i e; subst e; exact hr i hi
    · exact h.2 v i hv hi
theorem prn_sound {A : aS} (hA : I_ok A) {p s : pS} (hp : pcl A p) (hb : pbd A p) (h : ple A p s) : ∀ w, w ≤ A 0 1 → ple A p (prn A w s)
  | 0, _ => h
  | w + 1, hw => pst_sound hp hb (prn_sound hA hp hb h w (by omega)) (by omega) (by have := (hA.2.1 w (by omega)).2.2.2.1; omega)
theorem pbd_le {A : aS} {p s : pS} (hb : pbd A s) (h : ple A p s) : pbd A p := ⟨fun a ha => Nat.le_trans (h.1 a ha) (hb.1 a ha), fun w i hw hi => Nat.le_trans (h.2 w i hw hi) (hb.2 w i hw hi)⟩
theorem prn_ple {A : aS} {s : pS} (w : Nat) : ple A (prn A w s) s := ⟨fun a _ => (prn_le w).1 a, fun v i _ _ => (prn_le w).2 v i⟩
/-- something moved within the first n words -/
def mvd (A : aS) (s : pS) (n : Nat) : Prop := ∃ w, w < n ∧ prw A (prn A w s) w (A 1 w) < (prn A w s).1 (A 3 w)
theorem mvd_s {A : aS} {s : pS} {n : Nat} : mvd A s (n + 1) ↔ mvd A s n ∨ prw A (prn A n s) n (A 1 n) < (prn A n s).1 (A 3 n) := by
  constructor
  · rintro ⟨w, h1, h2⟩
    by_cases e : w = n
    · subst e; exact Or.inr h2
    · exact Or.inl ⟨w, by omega, h2⟩
  · rintro (⟨w, h1, h2⟩ | h)
    · exact ⟨w, by omega, h2⟩
    · exact ⟨n, by omega, h⟩
theorem mvd_no {A : aS} {s : pS} : ∀ n, ¬ mvd A s n → (prn A n s).1 = s.1
  | 0, _ => rfl
  | n + 1, h => by
    have h1 := mvd_no n (fun q => h (mvd_s.mpr (Or.inl q)))
    have h2 : ¬ prw A (prn A n s) n (A 1 n) < (prn A n s).1 (A 3 n) := fun q => h (mvd_s.mpr (Or.inr q))
    funext k
    rw [prn, pst_1, h1]
    split
    · rename_i e; subst e; rw [h1] at h2; omega
    · rfl
/-- after a round the ways within words are closed -/
theorem prn_ch {A : aS} {s : pS} : ∀ n, n ≤ A 0 1 → ∀ w, w < n → (∀ i, i < A 1 w → (prn A n s).2 w (i + 1) ≤ (prn A n s).2 w i + ms A 1) ∧ (prn A n s).1 (A 3 w) ≤ (prn A n s).2 w (A 1 w)
  | 0, _, w, h => by omega
  | n + 1, hn, w, h => by
    by_cases e : w = n
    · subst e
      refine ⟨fun i hi => ?_, ?_⟩
      · rw [prn_at (by omega), prn_at (by omega), prw_s]
        unfold pa; omega
      · rw [prn_at (by omega), prn, pst_1, if_pos rfl]
        omega
    · obtain ⟨h1, h2⟩ := prn_ch (A := A) (s := s) n (by omega) w (by omega)
      refine ⟨fun i hi => ?_, ?_⟩
      · rw [prn, pst_2, pst_2, if_neg e, if_neg e]; exact h1 i hi
      · rw [prn, pst_2, if_neg e]; exact Nat.le_trans pst_le1 h2
theorem rnd_ch {A : aS} {s : pS} : pch A (prn A (A 0 1) s) := fun w hw => prn_ch _ (Nat.le_refl _) w hw
theorem rnd_cl {A : aS} {s : pS} (h : ¬ mvd A s (A 0 1)) : pcl A (prn A (A 0 1) s) := by
  refine ⟨rnd_ch, fun w a hw ha hm => ?_⟩
  rw [prn_at hw, prw_0, mvd_no _ h]
  have e : (prn A w s).1 = s.1 := mvd_no w (fun ⟨v, q1, q2⟩ => h ⟨v, by omega, q2⟩)
  have := (bgn_le (A := A) (b := (prn A w s).1) (w := w) (init := (prn A w s).2 w 0) 5).2 a (by omega) hm
  rw [e] at this
  unfold pa at this
  rw [e]
  omega
/-- a row that was closed and is entered anew -/
theorem prw_new {A : aS} {s : pS} {w : Nat} (h : ∀ i, i < A 1 w → s.2 w (i + 1) ≤ s.2 w i + ms A 1) (hb : ∀ i, i ≤ A 1 w → s.2 w i ≤ pC) : ∀ i, i ≤ A 1 w → prw A s w i = s.2 w i ∨ prw A s w i = prw A s w 0 + i * ms A 1
  | 0, _ => Or.inr (by omega)
  | i + 1, hi => by
    rw [prw_s]
    have := h i (by omega)
    have := hb (i + 1) hi
    have hm : (i + 1) * ms A 1 = i * ms A 1 + ms A 1 := Nat.succ_mul _ _
    rcases prw_new h hb i (by omega) with e | e
    · left; rw [e]; unfold pa; omega
    · rw [e]
      by_cases q : prw A s w 0 + i * ms A 1 + ms A 1 ≤ s.2 w (i + 1)
      · right; unfold pa; omega
      · left; unfold pa; omega
def pin (A : aS) (s : pS) (T n : Nat) : Prop := pch A s ∧ (∀ w a, w < A 0 1 → a ≤ 4 → may A a w → s.1 a < T → s.2 w 0 ≤ s.1 a + co A w) ∧ n ≤ sm (fun a => ci (s.1 a < T)) 5
theorem pin_5 {A : aS} {s : pS} {T n : Nat} (h : pin A s T n) : n ≤ 5 := by
  have := sm_one (f := fun a => ci (s.1 a < T)) 5 (fun i _ => ci_le _)
  have := h.2.2
  omega
theorem sm_grow {f h : Nat → Nat} (hf : ∀ a, f a ≤ h a) {a0 : Nat} (h0 : f a0 = 0) (h1 : h a0 = 1) : ∀ n, a0 < n → sm f n + 1 ≤ sm h n
  | 0, q => by omega
  | n + 1, q => by
    rw [sm, sm]
    have hg : ∀ m, sm f m ≤ sm h m := by
      intro m
      induction m with
      | zero => exact Nat.le_refl _
      | succ m ih => rw [sm, sm]; have := hf m; omega
    by_cases e : a0 = n
    · subst e; have := hg a0; omega
    · have := sm_grow hf h0 h1 n (by omega); have := hf n; omega
theorem pin_step {A : aS} (hA : I_ok A) {s : pS} {T n : Nat} (hb : pbd A s) (h : pin A s T n) (hn : ¬ pcl A s) : ∃ T', pin A (prn A (A 0 1) s) T' (n + 1) := by
  obtain ⟨h1, h2, h3⟩ := h
  have hm1 : 1 ≤ ms A 1 := by unfold ms; omega
  -- the least that is open
  have hex : ∃ v, ∃ w a, w < A 0 1 ∧ a ≤ 4 ∧ may A a w ∧ s.1 a + co A w < s.2 w 0 ∧ s.1 a = v := by
    refine Classical.byContradiction (fun hc => hn ⟨h1, fun w a hw ha hm => ?_⟩)
    refine Classical.byContradiction (fun q => hc ⟨s.1 a, w, a, hw, ha, hm, by omega, rfl⟩)
  have hmin : ∀ k, (∃ v, v ≤ k ∧ ∃ w a, w < A 0 1 ∧ a ≤ 4 ∧ may A a w ∧ s.1 a + co A w < s.2 w 0 ∧ s.1 a = v) → ∃ v, (∃ w a, w < A 0 1 ∧ a ≤ 4 ∧ may A a w ∧ s.1 a + co A w < s.2 w 0 ∧ s.1 a = v) ∧ ∀ w a, w < A 0 1 → a ≤ 4 → may A a w → s.1 a + co A w < s.2 w 0 → v ≤ s.1 a := by
    intro k
    induction k with
    | zero =>
      rintro ⟨v, q1, q2⟩
      exact ⟨v, q2, fun w a _ _ _ _ => by omega⟩
    | succ k ih =>
      rintro ⟨v, q1, q2⟩
      by_cases c : ∃ v, v ≤ k ∧ ∃ w a, w < A 0 1 ∧ a ≤ 4 ∧ may A a w ∧ s.1 a + co A w < s.2 w 0 ∧ s.1 a = v
      · exact ih c
      · refine ⟨v, q2, fun w a hw ha hm hq => ?_⟩
        refine Classical.byContradiction (fun q => c ⟨s.1 a, by omega, w, a, hw, ha, hm, hq, rfl⟩)
  obtain ⟨v, ⟨w0, a0, k1, k2, k3, k4, k5⟩, hv⟩ := hmin hex.choose ⟨hex.choose, Nat.le_refl _, hex.choose_spec⟩
  have hTv : T ≤ v := by
    refine Classical.byContradiction (fun q => ?_)
    have := h2 w0 a0 k1 k2 k3 (by omega)
    omega
  -- along the round
  have key : ∀ m, m ≤ A 0 1 → (∀ w, w < A 0 1 → (prn A m s).1 (A 3 w) ≤ (prn A m s).2 w (A 1 w)) ∧ ∀ a, a ≤ 4 → (prn A m s).1 a = s.1 a ∨ (v < (prn A m s).1 a ∧ (prn A m s).1 a < s.1 a) := by
    intro m
    induction m with
    | zero => exact fun _ => ⟨fun w hw => (h1 w hw).2, fun a _ => Or.inl rfl⟩
    | succ m ih =>
      intro hm
      obtain ⟨i1, i2⟩ := ih (by omega)
      have hmn : m < A 0 1 := by omega
      obtain ⟨l1, l2, -, l4, -⟩ := hA.2.1 m hmn
      have hrow : ∀ i, (prn A m s).2 m i = s.2 m i := fun i => prn_row m m i (Nat.le_refl _)
      refine ⟨fun w hw => ?_, fun a ha => ?_⟩
      · rw [prn, pst_2]
        split
        · rename_i e; subst e; rw [pst_1, if_pos rfl]; omega
        · exact Nat.le_trans pst_le1 (i1 w hw)
      · rw [prn, pst_1]
        split
        · rename_i e
          subst e
          by_cases q : prw A (prn A m s) m (A 1 m) < (prn A m s).1 (A 3 m)
          · rw [Nat.min_eq_right (by omega)]
            right
            have q2 := i1 m hmn
            have q3 := (prn_le (A := A) (s := s) m).1 (A 3 m)
            refine ⟨?_, by omega⟩
            have hnew := prw_new (A := A) (s := prn A m s) (w := m) (fun i hi => by rw [hrow, hrow]; exact (h1 m hmn).1 i hi) (fun i hi => by rw [hrow]; exact hb.2 m i hmn hi)
            rcases hnew (A 1 m) (Nat.le_refl _) with e | e
            · omega
            · have q4 : 1 * 1 ≤ A 1 m * ms A 1 := Nat.mul_le_mul l1 hm1
              rcases bgn_in (A := A) (b := (prn A m s).1) (w := m) (init := (prn A m s).2 m 0) 5 with f | ⟨a, f1, f2, f3⟩
              · -- entered as before: no news
                exfalso
                have hold : ∀ i, i ≤ A 1 m → prw A (prn A m s) m i = (prn A m s).2 m i := by
                  intro i
                  induction i with
                  | zero => intro _; rw [prw_0]; exact f
                  | succ i ihi =>
                    intro hi
                    rw [prw_s, ihi (by omega), hrow, hrow]
                    have := (h1 m hmn).1 i (by omega)
                    have := hb.2 m (i + 1) hmn hi
                    unfold pa; omega
                have := hold (A 1 m) (Nat.le_refl _)
                omega
              · have hq : prw A (prn A m s) m 0 = pa ((prn A m s).1 a) (co A m) := f3
                have hlt : prw A (prn A m s) m 0 < pC := by
                  have := hb.1 (A 3 m) (by omega)
                  omega
                have hav : v ≤ (prn A m s).1 a := by
                  rcases i2 a (by omega) with z | z
                  · rw [z]
                    by_cases d : s.1 a + co A m < s.2 m 0
                    · exact hv m a hmn (by omega) f2 d
                    · exfalso
                      have hle := (bgn_le (A := A) (b := (prn A m s).1) (w := m) (init := (prn A m s).2 m 0) 5).1
                      rw [z] at hq
                      have hq0 : prw A (prn A m s) m 0 = (prn A m s).2 m 0 := by
                        rw [prw_0] at hq ⊢
                        rw [hrow] at hle ⊢
                        unfold pa at hq
                        rw [prw_0] at hlt
                        rw [hrow] at hlt hq
                        omega
                      have hold : ∀ i, i ≤ A 1 m → prw A (prn A m s) m i = (prn A m s).2 m i := by
                        intro i
                        induction i with
                        | zero => intro _; exact hq0
                        | succ i ihi =>
                          intro hi
                          rw [prw_s, ihi (by omega), hrow, hrow]
                          have := (h1 m hmn).1 i (by omega)
                          have := hb.2 m (i + 1) hmn hi
                          unfold pa; omega
                      have := hold (A 1 m) (Nat.le_refl _)
                      omega
                  · omega
                unfold pa at hq
                omega
          · rw [Nat.min_eq_left (by omega)]
            exact i2 _ ha
        · exact i2 a ha
  have hkeep : ∀ m a, m ≤ A 0 1 → a ≤ 4 → (prn A (A 0 1) s).1 a ≤ v → (prn A m s).1 a = s.1 a := by
    intro m a hm ha hq
    rcases (key m hm).2 a ha with e | e
    · exact e
    · exfalso
      rcases (key _ (Nat.le_refl _)).2 a ha with e2 | e2
      · omega
      · omega
  refine ⟨v + 1, rnd_ch, fun w a hw ha hm hq => ?_, ?_⟩
  · rw [prn_at hw, prw_0]
    have := (bgn_le (A := A) (b := (prn A w s).1) (w := w) (init := (prn A w s).2 w 0) 5).2 a (by omega) hm
    rw [hkeep w a (by omega) ha (by omega)] at this
    rw [hkeep _ a (Nat.le_refl _) ha (by omega)]
    unfold pa at this
    omega
  · refine Nat.le_trans (Nat.add_le_add_right h3 1) (sm_grow (a0 := a0) ?_ ?_ ?_ 5 (by omega))
    · intro a
      by_cases c : s.1 a < T
      · rw [ci_t c]
        have := (prn_le (A := A) (s := s) (A 0 1)).1 a
        rw [ci_t (by omega)]
        omega
      · rw [ci_f c]; omega
    · rw [ci_f (by omega)]
    · have := (prn_le (A := A) (s := s) (A 0 1)).1 a0
      rw [ci_t (by omega)]
theorem pin_all {A : aS} {s : pS} {T : Nat} (h : pin A s T 5) : pcl A s := by
  have hs : ∀ a, a ≤ 4 → s.1 a < T := by
    intro a ha
    refine Classical.byContradiction (fun q => ?_)
    have h3 := h.2.2
    have e : ∀ n, n ≤ 5 → a < n → sm (fun a => ci (s.1 a < T)) n + 1 ≤ n := by
      intro n
      induction n with
      | zero => intro _ h; omega
      | succ n ih =>
        intro hn hl
        rw [sm]
        by_cases c : a = n
        · subst c
          have := sm_one (f := fun a => ci (s.1 a < T)) a (fun i _ => ci_le _)
          rw [ci_f q]; omega
        · have := ih (by omega) (by omega)
          have := ci_le (s.1 n < T)
          omega
    have := e 5 (by omega) (by omega)
    omega
  exact ⟨h.1, fun w a hw ha hm => h.2.1 w a hw ha hm (hs a ha)⟩
theorem cl_still {A : aS} (hA : I_ok A) {s : pS} (hb : pbd A s) (h : pcl A s) : ¬ mvd A s (A 0 1) := by
  rintro ⟨w, hw, hq⟩
  have h1 := prn_sound hA h hb ⟨fun _ _ => Nat.le_refl _, fun _ _ _ _ => Nat.le_refl _⟩ (w + 1) (by omega)
  have h2 := h1.2 w (A 1 w) hw (Nat.le_refl _)
  rw [prn, pst_2, if_pos rfl] at h2
  have h3 := (prn_le (A := A) (s := s) w).1 (A 3 w)
  have h4 := (h.1 w hw).2
  omega

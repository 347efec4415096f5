/-! end -/
theorem gf_least {f : Nat → Option (Int × Nat)} : ∀ n, (∀ q, gf f n = some q → (∃ i r, i < n ∧ f i = some r ∧ r.1 = q.1) ∧ ∀ i r, i < n → f i = some r → q.1 ≤ r.1) ∧ (gf f n = none ↔ ∀ i, i < n → f i = none)
  | 0 => ⟨fun q h => (by cases h), fun _ i h => (by omega), fun _ => rfl⟩
  | n + 1 => by
    obtain ⟨h1, h2⟩ := gf_least (f := f) n
    rw [gf]
    cases hg : gf f n with
    | none =>
      have h3 := h2.mp hg
      cases hf : f n with
      | none =>
        refine ⟨fun q h => (by cases h), fun _ i hi => ?_, fun _ => rfl⟩
        by_cases e : i = n
        · rw [e]; exact hf
        · exact h3 i (by omega)
      | some r =>
        refine ⟨fun q h => ?_, fun h => (by cases h), fun h => ?_⟩
        · cases h
          refine ⟨⟨n, r, by omega, hf, rfl⟩, fun i r' hi hr => ?_⟩
          by_cases e : i = n
          · subst e; rw [hf] at hr; cases hr; omega
          · rw [h3 i (by omega)] at hr; cases hr
        · have := h n (by omega)
          rw [hf] at this; cases this
    | some p =>
      obtain ⟨⟨i0, r0, a1, a2, a3⟩, a4⟩ := h1 p hg
      cases hf : f n with
      | none =>
        refine ⟨fun q h => ?_, fun h => (by cases h), fun h => ?_⟩
        · cases h
          refine ⟨⟨i0, r0, by omega, a2, a3⟩, fun i r' hi hr => ?_⟩
          by_cases e : i = n
          · subst e; rw [hf] at hr; cases hr
          · exact a4 i r' (by omega) hr
        · have := h i0 (by omega)
          rw [a2] at this; cases this
      | some r =>
        have hall : ∀ q : Int × Nat, q.1 ≤ p.1 → q.1 ≤ r.1 → ∀ i r', i < n + 1 → f i = some r' → q.1 ≤ r'.1 := by
          intro q q1 q2 i r' hi hr
          by_cases e : i = n
          · subst e; rw [hf] at hr; cases hr; exact q2
          · have := a4 i r' (by omega) hr; omega
        refine ⟨fun q h => ?_, fun h => ?_, fun h => ?_⟩
        · simp only [gadd] at h
          by_cases c1 : r.1 < p.1
          · rw [if_pos c1] at h; cases h
            exact ⟨⟨n, r, by omega, hf, rfl⟩, hall _ (by omega) (by omega)⟩
          · rw [if_neg c1] at h
            by_cases c2 : r.1 = p.1
            · rw [if_pos c2] at h; cases h
              exact ⟨⟨i0, r0, by omega, a2, a3⟩, hall _ (by show p.1 ≤ _; omega) (by show p.1 ≤ _; omega)⟩
            · rw [if_neg c2] at h; cases h
              exact ⟨⟨i0, r0, by omega, a2, a3⟩, hall _ (by omega) (by omega)⟩
        · simp only [gadd] at h
          split at h
          · cases h
          · split at h <;> cases h
        · have := h i0 (by omega)
          rw [a2] at this; cases this
def fin (A : aS) (x a : Nat) : Prop := GG A (wX A 0 0) x a ≠ none
theorem gw_none {A : aS} {wt : Nat → Nat → Int} {x a w : Nat} : gw A wt x a w = none ↔ ¬ (rok A a w x ∧ GG A wt (x + A 1 w) (A 3 w) ≠ none) := by
  unfold gw
  by_cases c : rok A a w x
  · rw [cit_t c]
    cases h : GG A wt (x + A 1 w) (A 3 w) with
    | none => exact ⟨fun _ q => q.2 rfl, fun _ => rfl⟩
    | some q => exact ⟨fun h => (by cases h), fun h => absurd ⟨c, fun q => by cases q⟩ h⟩
  · rw [cit_f c]
    exact ⟨fun _ q => c q.1, fun _ => rfl⟩
theorem gw_some {A : aS} {wt : Nat → Nat → Int} {x a w : Nat} {q : Int × Nat} (h : gw A wt x a w = some q) : rok A a w x ∧ ∃ r, GG A wt (x + A 1 w) (A 3 w) = some r ∧ q.1 = r.1 + wt w (x + A 1 w) := by
  unfold gw at h
  by_cases c : rok A a w x
  · rw [cit_t c] at h
    cases hG : GG A wt (x + A 1 w) (A 3 w) with
    | none => rw [hG] at h; cases h
    | some r => rw [hG] at h; cases h; exact ⟨c, r, rfl, rfl⟩
  · rw [cit_f c] at h; cases h
theorem GG_any {A : aS} (hA : I_ok A) (wt wt' : Nat → Nat → Int) : ∀ n x a, A 0 2 - x ≤ n → (GG A wt x a = none ↔ GG A wt' x a = none)
  | 0, x, a, h => by rw [GG_end (by omega), GG_end (by omega)]
  | n + 1, x, a, h => by
    by_cases hx : x < A 0 2
    · rw [GG_step hA hx, GG_step hA hx, (gf_least _).2, (gf_least _).2]
      have : ∀ i, i < A 0 1 → (gw A wt x a i = none ↔ gw A wt' x a i = none) := by
        intro i hi
        have := (hA.2.1 i hi).1
        rw [gw_none, gw_none, ne_eq, ne_eq, GG_any hA wt wt' n (x + A 1 i) (A 3 i) (by omega)]
      exact ⟨fun q i hi => (this i hi).mp (q i hi), fun q i hi => (this i hi).mpr (q i hi)⟩
    · rw [GG_end (by omega), GG_end (by omega)]
theorem GG_fin {A : aS} (hA : I_ok A) {wt : Nat → Nat → Int} {x a : Nat} : GG A wt x a ≠ none ↔ fin A x a := by
  unfold fin
  rw [ne_eq, ne_eq, GG_any hA wt (wX A 0 0) _ x a (Nat.le_refl _)]
/-- a step that can be finished -/
def gst (A : aS) (x a w : Nat) : Prop := w < A 0 1 ∧ rok A a w x ∧ fin A (x + A 1 w) (A 3 w)
theorem gst_len {A : aS} (hA : I_ok A) {x a w : Nat} (h : gst A x a w) : x < x + A 1 w ∧ x + A 1 w ≤ A 0 2 ∧ A 3 w ≤ 3 := by
  obtain ⟨w1, w2, w3, w4, -⟩ := hA.2.1 w h.1
  exact ⟨by omega, h.2.1.2.1, w4⟩
theorem fin_step {A : aS} (hA : I_ok A) {x a : Nat} (hx : x < A 0 2) : fin A x a ↔ ∃ w, gst A x a w := by
  unfold fin
  rw [GG_step hA hx, ne_eq, (gf_least _).2]
  constructor
  · intro h
    refine Classical.byContradiction (fun hc => h (fun i hi => ?_))
    rw [gw_none]
    exact fun q => hc ⟨i, hi, q.1, q.2⟩
  · rintro ⟨w, h1, h2, h3⟩ h
    have := h w h1
    rw [gw_none] at this
    exact this ⟨h2, h3⟩
/-- reached from the beginning -/
def Rc (A : aS) (y c : Nat) : Prop := ∀ P : Nat → Nat → Prop, P 0 4 → (∀ x a w, P x a → gst A x a w → P (x + A 1 w) (A 3 w)) → P y c
theorem Rc.base {A : aS} : Rc A 0 4 := fun _ h _ => h
theorem Rc.step {A : aS} {x a w : Nat} (h : Rc A x a) (hg : gst A x a w) : Rc A (x + A 1 w) (A 3 w) := fun P h1 h2 => h2 x a w (h P h1 h2) hg
theorem Rc.cas {A : aS} {y c : Nat} (h : Rc A y c) : (y = 0 ∧ c = 4) ∨ ∃ x a w, Rc A x a ∧ gst A x a w ∧ y = x + A 1 w ∧ c = A 3 w := by
  refine h (fun y c => (y = 0 ∧ c = 4) ∨ ∃ x a w, Rc A x a ∧ gst A x a w ∧ y = x + A 1 w ∧ c = A 3 w) (Or.inl ⟨rfl, rfl⟩) (fun x a w hp hg => Or.inr ⟨x, a, w, ?_, hg, rfl, rfl⟩)
  rcases hp with ⟨rfl, rfl⟩ | ⟨x', a', w', h1, h2, rfl, rfl⟩
  · exact Rc.base
  · exact Rc.step h1 h2
theorem Rc_le {A : aS} (hA : I_ok A) {x a : Nat} (h : Rc A x a) : x ≤ A 0 2 ∧ a ≤ 4 := by
  rcases h.cas with ⟨rfl, rfl⟩ | ⟨x', a', w', h1, h2, rfl, rfl⟩
  · exact ⟨by omega, by omega⟩
  · have := gst_len hA h2
    exact ⟨by omega, by omega⟩
/-- a reading over p, a reading with an end at p: H at a step, or later -/
def Wy (A : aS) (H : Nat → Nat → Prop) (x a : Nat) : Prop := ∀ P : Nat → Nat → Prop, (∀ x a w, gst A x a w → H x (x + A 1 w) → P x a) → (∀ x a w, gst A x a w → P (x + A 1 w) (A 3 w) → P x a) → P x a
theorem Wy.here {A : aS} {H : Nat → Nat → Prop} {x a w : Nat} (h : gst A x a w) (h2 : H x (x + A 1 w)) : Wy A H x a := fun P q1 _ => q1 x a w h h2
theorem Wy.later {A : aS} {H : Nat → Nat → Prop} {x a w : Nat} (h : gst A x a w) (h2 : Wy A H (x + A 1 w) (A 3 w)) : Wy A H x a := fun P q1 q2 => q2 x a w h (h2 P q1 q2)
theorem Wy.cas {A : aS} {H : Nat → Nat → Prop} {x a : Nat} (h : Wy A H x a) : ∃ w, gst A x a w ∧ (H x (x + A 1 w) ∨ Wy A H (x + A 1 w) (A 3 w)) := by
  refine h (fun x a => ∃ w, gst A x a w ∧ (H x (x + A 1 w) ∨ Wy A H (x + A 1 w) (A 3 w))) (fun x a w h1 h2 => ⟨w, h1, Or.inl h2⟩) (fun x a w h1 hp => ⟨w, h1, Or.inr ?_⟩)
  obtain ⟨w', h3, h4 | h4⟩ := hp
  · exact Wy.here h3 h4
  · exact Wy.later h3 h4
theorem Wy_rc {A : aS} {H : Nat → Nat → Prop} {x a : Nat} (h : Wy A H x a) (hr : Rc A x a) : ∃ x' a' w', Rc A x' a' ∧ gst A x' a' w' ∧ H x' (x' + A 1 w') := 
  h (fun x a => Rc A x a → ∃ x' a' w', Rc A x' a' ∧ gst A x' a' w' ∧ H x' (x' + A 1 w')) (fun x a w h1 h2 hr => ⟨x, a, w, hr, h1, h2⟩) (fun x a w h1 ih hr => ih (Rc.step hr h1)) hr
theorem Wy_back {A : aS} {H : Nat → Nat → Prop} {x a : Nat} (hr : Rc A x a) (h : Wy A H x a) : Wy A H 0 4 :=
  hr (fun x a => Wy A H x a → Wy A H 0 4) (fun h => h) (fun x a w ih hg h => ih (Wy.later hg h)) h
def Ov (A : aS) (p x a : Nat) : Prop := Wy A (fun x e => x < p ∧ p < e) x a
def En (A : aS) (p x a : Nat) : Prop := Wy A (fun _ e => e = p) x a
theorem Ov_lt {A : aS} {p x a : Nat} (h : Ov A p x a) : x < p := h (fun x _ => x < p) (fun x a w _ h2 => h2.1) (fun x a w _ h2 => by omega)
theorem En_lt {A : aS} (hA : I_ok A) {p x a : Nat} (h : En A p x a) : x < p := h (fun x _ => x < p) (fun x a w h1 h2 => by have := gst_len hA h1; omega) (fun x a w _ h2 => by omega)
theorem En_iff {A : aS} (hA : I_ok A) {p : Nat} (hp : 0 < p) : En A p 0 4 ↔ ∃ c, c < 5 ∧ Rc A p c ∧ fin A p c := by
  constructor
  · intro h
    obtain ⟨x, a, w, h1, h2, h3⟩ := Wy_rc h Rc.base
    have h4 := Rc.step h1 h2
    have := Rc_le hA h4
    refine ⟨A 3 w, by omega, ?_⟩
    rw [← h3]
    exact ⟨h4, h2.2.2⟩
  · rintro ⟨c, -, h1, h2⟩
    rcases h1.cas with ⟨h, -⟩ | ⟨x', a', w', h3, h4, h5, -⟩
    · omega
    · exact Wy_back h3 (Wy.here h4 h5.symm)
theorem fin_OvEn {A : aS} (hA : I_ok A) {p : Nat} (hp : p ≤ A 0 2) : ∀ n x a, p - x ≤ n → x < p → fin A x a → Ov A p x a ∨ En A p x a
  | 0, x, a, h, hx, hf => by omega
  | n + 1, x, a, h, hx, hf => by
    obtain ⟨w, hw⟩ := (fin_step hA (by omega)).mp hf
    have hl := gst_len hA hw
    by_cases c1 : p < x + A 1 w
    · exact Or.inl (Wy.here hw ⟨hx, c1⟩)
    · by_cases c2 : x + A 1 w = p
      · exact Or.inr (Wy.here hw c2)
      · rcases fin_OvEn hA hp n (x + A 1 w) (A 3 w) (by omega) (by omega) hw.2.2 with q | q
        · exact Or.inl (Wy.later hw q)
        · exact Or.inr (Wy.later hw q)
theorem wX4 {A : aS} {p w e : Nat} : wX A 4 p w e = if e = p then 1 else 0 := rfl
theorem wX5 {A : aS} {p w e : Nat} : wX A 5 p w e = if e = p then -1 else 0 := rfl
theorem GG_late {A : aS} (hA : I_ok A) {p b : Nat} (hb : b = 4 ∨ b = 5) : ∀ n x a q, A 0 2 - x ≤ n → p ≤ x → GG A (wX A b p) x a = some q → q.1 = 0
  | 0, x, a, q, h, hx, hG => by rw [GG_end (by omega)] at hG; cases hG; rfl
  | n + 1, x, a, q, h, hx, hG => by
    by_cases hxe : x < A 0 2
    · rw [GG_step hA hxe] at hG
      obtain ⟨⟨w, r, h1, h2, h3⟩, -⟩ := (gf_least _).1 q hG
      obtain ⟨h4, r', h5, h6⟩ := gw_some h2
      have := (hA.2.1 w h1).1
      have := GG_late hA hb n (x + A 1 w) (A 3 w) r' (by omega) (by omega) h5
      have e : wX A b p w (x + A 1 w) = 0 := by
        rcases hb with rfl | rfl
        · rw [wX4, if_neg (by omega)]
        · rw [wX5, if_neg (by omega)]
      omega
    · rw [GG_end (by omega)] at hG; cases hG; rfl
theorem GG_4 {A : aS} (hA : I_ok A) {p : Nat} (hp : p ≤ A 0 2) : ∀ n x a q, A 0 2 - x ≤ n → x < p → GG A (wX A 4 p) x a = some q → (q.1 = 0 ∨ q.1 = 1) ∧ (q.1 = 0 ↔ Ov A p x a)
  | 0, x, a, q, h, hx, hG => by omega
  | n + 1, x, a, q, h, hx, hG => by
    rw [GG_step hA (by omega)] at hG
    have key : ∀ w r, w < A 0 1 → gw A (wX A 4 p) x a w = some r → gst A x a w ∧ (r.1 = 0 ∨ r.1 = 1) ∧ (r.1 = 0 ↔ p < x + A 1 w ∨ Ov A p (x + A 1 w) (A 3 w)) := by
      intro w r hw hr
      obtain ⟨h4, r', h5, h6⟩ := gw_some hr
      have hg : gst A x a w := ⟨hw, h4, (GG_fin hA).mp (fun q => by rw [q] at h5; cases h5)⟩
      have hl := gst_len hA hg
      refine ⟨hg, ?_⟩
      rw [wX4] at h6
      by_cases c1 : x + A 1 w < p
      · have := GG_4 hA hp n (x + A 1 w) (A 3 w) r' (by omega) c1 h5
        rw [if_neg (by omega)] at h6
        rw [show r.1 = r'.1 by omega]
        exact ⟨this.1, this.2.trans ⟨Or.inr, fun q => q.resolve_left (by omega)⟩⟩
      · have := GG_late hA (Or.inl rfl) _ (x + A 1 w) (A 3 w) r' (Nat.le_refl _) (by omega) h5
        by_cases c2 : x + A 1 w = p
        · rw [if_pos c2] at h6
          refine ⟨by omega, fun q => by omega, fun q => ?_⟩
          rcases q with q | q
          · omega
          · have := Ov_lt q; omega
        · rw [if_neg c2] at h6
          exact ⟨by omega, fun q => Or.inl (by omega), fun _ => by omega⟩
    obtain ⟨⟨w, r, h1, h2, h3⟩, hall⟩ := (gf_least _).1 q hG
    have k1 := key w r h1 h2
    refine ⟨by omega, ?_, ?_⟩
    · intro hq
      rcases k1.2.2.mp (by omega) with c | c
      · exact Wy.here k1.1 ⟨hx, c⟩
      · exact Wy.later k1.1 c
    · intro ho
      have fin' : ∀ w, gst A x a w → (p < x + A 1 w ∨ Ov A p (x + A 1 w) (A 3 w)) → q.1 = 0 := by
        intro w' hg hc
        cases hr : gw A (wX A 4 p) x a w' with
        | none =>
          rw [gw_none] at hr
          exact absurd ⟨hg.2.1, (GG_fin hA).mpr hg.2.2⟩ hr
        | some r' =>
          have k2 := key w' r' hg.1 hr
          have := hall w' r' hg.1 hr
          have := k2.2.2.mpr hc
          omega
      obtain ⟨w', h1, h2 | h2⟩ := ho.cas
      · exact fin' _ h1 (Or.inl h2.2)
      · exact fin' _ h1 (Or.inr h2)
theorem GG_5 {A : aS} (hA : I_ok A) {p : Nat} (hp : p ≤ A 0 2) : ∀ n x a q, A 0 2 - x ≤ n → x < p → GG A (wX A 5 p) x a = some q → (q.1 = 0 ∨ q.1 = -1) ∧ (q.1 = -1 ↔ En A p x a)
  | 0, x, a, q, h, hx, hG => by omega
  | n + 1, x, a, q, h, hx, hG => by
    rw [GG_step hA (by omega)] at hG
    have key : ∀ w r, w < A 0 1 → gw A (wX A 5 p) x a w = some r → gst A x a w ∧ (r.1 = 0 ∨ r.1 = -1) ∧ (r.1 = -1 ↔ x + A 1 w = p ∨ En A p (x + A 1 w) (A 3 w)) := by
      intro w r hw hr
      obtain ⟨h4, r', h5, h6⟩ := gw_some hr
      have hg : gst A x a w := ⟨hw, h4, (GG_fin hA).mp (fun q => by rw [q] at h5; cases h5)⟩
      have hl := gst_len hA hg
      refine ⟨hg, ?_⟩
      rw [wX5] at h6
      by_cases c1 : x + A 1 w < p
      · have := GG_5 hA hp n (x + A 1 w) (A 3 w) r' (by omega) c1 h5
        rw [if_neg (by omega)] at h6
        rw [show r.1 = r'.1 by omega]
        exact ⟨this.1, this.2.trans ⟨Or.inr, fun q => q.resolve_left (by omega)⟩⟩
      · have := GG_late hA (Or.inr rfl) _ (x + A 1 w) (A 3 w) r' (Nat.le_refl _) (by omega) h5
        by_cases c2 : x + A 1 w = p
        · rw [if_pos c2] at h6
          exact ⟨by omega, fun q => Or.inl c2, fun q => by omega⟩
        · rw [if_neg c2] at h6
          refine ⟨by omega, fun q => by omega, fun q => ?_⟩
          rcases q with q | q
          · omega
          · have := En_lt hA q; omega
    obtain ⟨⟨w, r, h1, h2, h3⟩, hall⟩ := (gf_least _).1 q hG
    have k1 := key w r h1 h2
    refine ⟨by omega, ?_, ?_⟩
    · intro hq
      rcases k1.2.2.mp (by omega) with c | c
      · exact Wy.here k1.1 c
      · exact Wy.later k1.1 c
    · intro ho
      have fin' : ∀ w, gst A x a w → (x + A 1 w = p ∨ En A p (x + A 1 w) (A 3 w)) → q.1 = -1 := by
        intro w' hg hc
        cases hr : gw A (wX A 5 p) x a w' with
        | none =>
          rw [gw_none] at hr
          exact absurd ⟨hg.2.1, (GG_fin hA).mpr hg.2.2⟩ hr
        | some r' =>
          have k2 := key w' r' hg.1 hr
          have := hall w' r' hg.1 hr
          have := k2.2.2.mpr hc
          omega
      obtain ⟨w', h1, h2 | h2⟩ := ho.cas
      · exact fin' _ h1 (Or.inl h2)
      · exact fin' _ h1 (Or.inr h2)
/-- the answer -/
noncomputable def aE (A : aS) (p : Nat) : Int32 := cit (fin A 0 4) (if p = 0 then 2 else cit (Ov A p 0 4) (cit (En A p 0 4) 1 0) 2) 0

/-! reading THE TEXT: what is told -/
def skp (A : aS) : Nat → Nat → Nat
  | 0, p => p
  | f + 1, p => if A 10 p = 32 then skp A f (p + 1) else p
def sk (A : aS) (p : Nat) : Nat := skp A (A 0 4 - p) p
theorem sk_s {A : aS} {p : Nat} (h : p < A 0 4) (h2 : A 10 p = 32) : sk A p = sk A (p + 1) := by
  unfold sk
  obtain ⟨m, hm⟩ : ∃ m, A 0 4 - p = m + 1 := ⟨A 0 4 - p - 1, by omega⟩
  rw [hm, skp, if_pos h2, show A 0 4 - (p + 1) = m by omega]
theorem sk_n {A : aS} {p : Nat} (h : p < A 0 4) (h2 : ¬ A 10 p = 32) : sk A p = p := by
  unfold sk
  obtain ⟨m, hm⟩ : ∃ m, A 0 4 - p = m + 1 := ⟨A 0 4 - p - 1, by omega⟩
  rw [hm, skp, if_neg h2]
theorem sk_e {A : aS} {p : Nat} (h : A 0 4 ≤ p) : sk A p = p := by
  unfold sk
  rw [show A 0 4 - p = 0 by omega, skp]
theorem skp_b {A : aS} : ∀ f p, p ≤ skp A f p ∧ skp A f p ≤ p + f ∧ (skp A f p < p + f → ¬ A 10 (skp A f p) = 32)
  | 0, p => ⟨Nat.le_refl _, Nat.le_refl _, fun h => absurd h (by show ¬ p < p + 0; omega)⟩
  | f + 1, p => by
    rw [skp]
    by_cases c : A 10 p = 32
    · rw [if_pos c]
      obtain ⟨h1, h2, h3⟩ := skp_b (A := A) f (p + 1)
      exact ⟨by omega, by omega, fun h => h3 (by omega)⟩
    · rw [if_neg c]
      exact ⟨Nat.le_refl _, by omega, fun _ => c⟩
theorem sk_ge {A : aS} {p : Nat} : p ≤ sk A p := (skp_b _ _).1
theorem sk_le {A : aS} {p : Nat} (h : p ≤ A 0 4) : sk A p ≤ A 0 4 := by
  have := (skp_b (A := A) (A 0 4 - p) p).2.1
  unfold sk; omega
theorem sk_sk {A : aS} {p : Nat} : sk A (sk A p) = sk A p := by
  by_cases h : sk A p < A 0 4
  · refine sk_n h ?_
    have hp : p ≤ A 0 4 := by have := sk_ge (A := A) (p := p); omega
    exact (skp_b (A := A) (A 0 4 - p) p).2.2 (by unfold sk at h; omega)
  · exact sk_e (by omega)
/-- the byte at a place -/
def hr (A : aS) (p : Nat) : Int32 := if p < A 0 4 then nI (A 10 p) else -1
abbrev isl (A : aS) (p : Nat) : Prop := p < A 0 4 ∧ 97 ≤ A 10 p ∧ A 10 p ≤ 104
abbrev isf (A : aS) (p : Nat) : Prop := p < A 0 4 ∧ 48 ≤ A 10 p ∧ A 10 p ≤ 57
def dgp (A : aS) : Nat → Nat → Nat
  | 0, p => p
  | f + 1, p => if 48 ≤ A 10 p ∧ A 10 p ≤ 57 then dgp A f (p + 1) else p
/-- the end of the figures -/
def dg (A : aS) (p : Nat) : Nat := dgp A (A 0 4 - p) p
theorem dg_s {A : aS} {p : Nat} (h : isf A p) : dg A p = dg A (p + 1) := by
  unfold dg
  have := h.1
  obtain ⟨m, hm⟩ : ∃ m, A 0 4 - p = m + 1 := ⟨A 0 4 - p - 1, by omega⟩
  rw [hm, dgp, if_pos h.2, show A 0 4 - (p + 1) = m by omega]
theorem dg_n {A : aS} {p : Nat} (h : ¬ isf A p) : dg A p = p := by
  unfold dg
  by_cases c : p < A 0 4
  · obtain ⟨m, hm⟩ : ∃ m, A 0 4 - p = m + 1 := ⟨A 0 4 - p - 1, by omega⟩
    rw [hm, dgp, if_neg (fun q => h ⟨c, q⟩)]
  · rw [show A 0 4 - p = 0 by omega, dgp]
theorem dgp_b {A : aS} : ∀ f p, p ≤ dgp A f p ∧ dgp A f p ≤ p + f
  | 0, p => ⟨Nat.le_refl _, Nat.le_refl _⟩
  | f + 1, p => by
    rw [dgp]
    obtain ⟨h1, h2⟩ := dgp_b (A := A) f (p + 1)
    split
    · exact ⟨by omega, by omega⟩
    · exact ⟨Nat.le_refl _, by omega⟩
theorem dg_ge {A : aS} {p : Nat} : p ≤ dg A p := (dgp_b _ _).1
theorem dg_le {A : aS} {p : Nat} (h : p ≤ A 0 4) : dg A p ≤ A 0 4 := by
  have := (dgp_b (A := A) (A 0 4 - p) p).2
  unfold dg; omega
theorem dg_f {A : aS} {p : Nat} (h : p < dg A p) : isf A p := by
  by_cases c : isf A p
  · exact c
  · rw [dg_n c] at h; omega
/-- fault, its place, the place behind, how many letters, the letters -/
abbrev PR : Type := Nat × Nat × Nat × Nat × (Nat → Nat)
def up (r : Nat → Nat) (i v : Nat) : Nat → Nat := fun j => if j = i then v else r j
def ltr (A : aS) (w first : Nat) : Nat → Nat → Nat → (Nat → Nat) → PR
  | 0, p, i, r => (0, 0, p, i, r)
  | t + 1, p, i, r => if isl A p then (if A 0 0 ≤ A 10 p - 97 then (2, p, p, i, r) else if 16 ≤ w then (5, first, p, i, r) else if 8 ≤ i then (3, p, p, i, r) else ltr A w first t (sk A (p + 1)) (i + 1) (up r i (A 10 p - 97))) else (0, 0, p, i, r)
/-- of a letters' phase that found no fault -/
theorem ltr_ok {A : aS} {w first : Nat} : ∀ t p i r, (ltr A w first t p i r).1 = 0 → p ≤ A 0 4 → i + t ≤ 9 → (∀ j, j < i → r j < A 0 0) → (p ≤ (ltr A w first t p i r).2.2.1 ∧ (ltr A w first t p i r).2.2.1 ≤ A 0 4) ∧ i ≤ (ltr A w first t p i r).2.2.2.1 ∧ (i ≤ 8 → (ltr A w first t p i r).2.2.2.1 ≤ 8) ∧ (∀ j, j < (ltr A w first t p i r).2.2.2.1 → (ltr A w first t p i r).2.2.2.2 j < A 0 0) ∧ (sk A p = p → sk A (ltr A w first t p i r).2.2.1 = (ltr A w first t p i r).2.2.1) ∧ (isl A p → 0 < t → w < 16 ∧ i < (ltr A w first t p i r).2.2.2.1)
  | 0, p, i, r, _, hp, hi, hr => ⟨⟨Nat.le_refl _, hp⟩, Nat.le_refl _, fun h => h, hr, fun h => h, fun _ h => absurd h (by omega)⟩
  | t + 1, p, i, r, h, hp, hi, hr => by
    rw [ltr] at h ⊢
    by_cases c : isl A p
    · rw [if_pos c] at h ⊢
      by_cases c1 : A 0 0 ≤ A 10 p - 97
      · rw [if_pos c1] at h; exact absurd h (by show ¬ 2 = 0; omega)
      rw [if_neg c1] at h ⊢
      by_cases c2 : 16 ≤ w
      · rw [if_pos c2] at h; exact absurd h (by show ¬ 5 = 0; omega)
      rw [if_neg c2] at h ⊢
      by_cases c3 : 8 ≤ i
      · rw [if_pos c3] at h; exact absurd h (by show ¬ 3 = 0; omega)
      rw [if_neg c3] at h ⊢
      have hp1 : p + 1 ≤ A 0 4 := c.1
      have := ltr_ok (A := A) (w := w) (first := first) t (sk A (p + 1)) (i + 1) (up r i (A 10 p - 97)) h (sk_le hp1) (by omega) (fun j hj => by
        unfold up
        split
        · omega
        · exact hr j (by omega))
      obtain ⟨⟨a1, a2⟩, a3, a4, a5, a6, a7⟩ := this
      have := sk_ge (A := A) (p := p + 1)
      exact ⟨⟨by omega, a2⟩, by omega, fun _ => a4 (by omega), a5, fun _ => a6 sk_sk, fun _ _ => ⟨by omega, by omega⟩⟩
    · rw [if_neg c]
      exact ⟨⟨Nat.le_refl _, hp⟩, Nat.le_refl _, fun h => h, hr, fun h => h, fun h => absurd h c⟩
def agn (B : aS) (w i : Nat) (r : Nat → Nat) : Prop := ∃ v, v < w ∧ B 1 v = i ∧ ∀ j, j < i → B 4 (8 * v + j) = r j
def val (A : aS) (q e : Nat) : Nat := if e = q + 1 then A 10 q - 48 else 10 * (A 10 q - 48) + (A 10 (q + 1) - 48)
/-- a cost: fault, its place, the place behind, the cost -/
def cst (A : aS) (p : Nat) : Nat × Nat × Nat × Nat := if p < A 0 4 ∧ A 10 p = 58 then (if dg A (sk A (p + 1)) = sk A (p + 1) then (1, sk A (p + 1), 0, 0) else if 2 < dg A (sk A (p + 1)) - sk A (p + 1) then (2, sk A (p + 1), 0, 0) else (0, 0, sk A (dg A (sk A (p + 1))), val A (sk A (p + 1)) (dg A (sk A (p + 1))))) else (0, 0, p, 1)
def knd (A : aS) (p : Nat) : Nat × Nat × Nat × Nat := if p < A 0 4 ∧ A 10 p = 47 then (if dg A (sk A (p + 1)) = sk A (p + 1) then (1, sk A (p + 1), 0, 0) else if 1 < dg A (sk A (p + 1)) - sk A (p + 1) ∨ 51 < A 10 (sk A (p + 1)) then (2, sk A (p + 1), 0, 0) else (0, 0, sk A (dg A (sk A (p + 1))), A 10 (sk A (p + 1)) - 48)) else (0, 0, p, 0)
theorem cst_ok {A : aS} {p : Nat} (h : (cst A p).1 = 0) (hp : p ≤ A 0 4) (hs : sk A p = p) : p ≤ (cst A p).2.2.1 ∧ (cst A p).2.2.1 ≤ A 0 4 ∧ sk A (cst A p).2.2.1 = (cst A p).2.2.1 ∧ (cst A p).2.2.2 ≤ 99 := by
  unfold cst at h ⊢
  by_cases c : p < A 0 4 ∧ A 10 p = 58
  · rw [if_pos c] at h ⊢
    have h1 := sk_ge (A := A) (p := p + 1)
    have h2 := sk_le (A := A) (p := p + 1) c.1
    have h3 := dg_ge (A := A) (p := sk A (p + 1))
    have h4 := dg_le (A := A) h2
    have h5 := sk_ge (A := A) (p := dg A (sk A (p + 1)))
    by_cases c1 : dg A (sk A (p + 1)) = sk A (p + 1)
    · rw [if_pos c1] at h; exact absurd h (by show ¬ 1 = 0; omega)
    rw [if_neg c1] at h ⊢
    by_cases c2 : 2 < dg A (sk A (p + 1)) - sk A (p + 1)
    · rw [if_pos c2] at h; exact absurd h (by show ¬ 2 = 0; omega)
    rw [if_neg c2] at h ⊢
    refine ⟨?_, sk_le h4, sk_sk, ?_⟩
    · show p ≤ sk A (dg A (sk A (p + 1))); omega
    · show val A _ _ ≤ 99
      have f1 := dg_f (A := A) (p := sk A (p + 1)) (by omega)
      unfold val
      split
      · have := f1.2; omega
      · rename_i c3
        have e := dg_s f1
        have f2 := dg_f (A := A) (p := sk A (p + 1) + 1) (by omega)
        have := f1.2; have := f2.2; omega
  · rw [if_neg c]
    exact ⟨Nat.le_refl _, hp, hs, by show 1 ≤ 99; omega⟩
theorem knd_ok {A : aS} {p : Nat} (h : (knd A p).1 = 0) (hp : p ≤ A 0 4) (hs : sk A p = p) : p ≤ (knd A p).2.2.1 ∧ (knd A p).2.2.1 ≤ A 0 4 ∧ sk A (knd A p).2.2.1 = (knd A p).2.2.1 ∧ (knd A p).2.2.2 ≤ 3 := by
  unfold knd at h ⊢
  by_cases c : p < A 0 4 ∧ A 10 p = 47
  · rw [if_pos c] at h ⊢
    have h1 := sk_ge (A := A) (p := p + 1)
    have h2 := sk_le (A := A) (p := p + 1) c.1
    have h3 := dg_ge (A := A) (p := sk A (p + 1))
    have h4 := dg_le (A := A) h2
    have h5 := sk_ge (A := A) (p := dg A (sk A (p + 1)))
    by_cases c1 : dg A (sk A (p + 1)) = sk A (p + 1)
    · rw [if_pos c1] at h; exact absurd h (by show ¬ 1 = 0; omega)
    rw [if_neg c1] at h ⊢
    by_cases c2 : 1 < dg A (sk A (p + 1)) - sk A (p + 1) ∨ 51 < A 10 (sk A (p + 1))
    · rw [if_pos c2] at h; exact absurd h (by show ¬ 2 = 0; omega)
    rw [if_neg c2] at h ⊢
    refine ⟨?_, sk_le h4, sk_sk, ?_⟩
    · show p ≤ sk A (dg A (sk A (p + 1))); omega
    · show A 10 (sk A (p + 1)) - 48 ≤ 3
      omega
  · rw [if_neg c]
    exact ⟨Nat.le_refl _, hp, hs, by show 0 ≤ 3; omega⟩
/-- a word more -/
def putw (B : aS) (w i c k : Nat) (r : Nat → Nat) : aS := fun a j => if a = 1 ∧ j = w then i else if a = 2 ∧ j = w then c else if a = 3 ∧ j = w then k else if a = 4 ∧ 8 * w ≤ j ∧ j < 8 * w + 8 then r (j - 8 * w) else B a j
/-- a clause: fault, its place, the place behind, the words -/
abbrev PC : Type := Nat × Nat × Nat × aS
noncomputable def cls3 (A B : aS) (w i c : Nat) (r : Nat → Nat) (s : Nat × Nat × Nat × Nat) : PC := if s.1 = 0 then (if s.2.2.1 < A 0 4 ∧ A 10 s.2.2.1 = 59 then (0, 0, s.2.2.1 + 1, putw B w i c s.2.2.2 r) else (1, s.2.2.1, 0, B)) else (s.1, s.2.1, 0, B)
noncomputable def cls2 (A B : aS) (w i : Nat) (r : Nat → Nat) (s : Nat × Nat × Nat × Nat) : PC := if s.1 = 0 then cls3 A B w i s.2.2.2 r (knd A s.2.2.1) else (s.1, s.2.1, 0, B)
noncomputable def cls1 (A B : aS) (w p : Nat) (s : PR) : PC := if s.1 = 0 then cit (agn B w s.2.2.2.1 s.2.2.2.2) (4, p, 0, B) (cls2 A B w s.2.2.2.1 s.2.2.2.2 (cst A s.2.2.1)) else (s.1, s.2.1, 0, B)
noncomputable def cls (A B : aS) (w p : Nat) : PC := if isl A p then cls1 A B w p (ltr A w p 9 p 0 (fun _ => 0)) else (1, p, 0, B)
/-- words told so far are as words must be -/
def BOK (A B : aS) (w : Nat) : Prop := w ≤ 16 ∧ (∀ v, v < w → 1 ≤ B 1 v ∧ B 1 v ≤ 8 ∧ B 2 v ≤ 99 ∧ B 3 v ≤ 3 ∧ ∀ j, j < B 1 v → B 4 (8 * v + j) < A 0 0) ∧ ∀ u v, u < v → v < w → ¬ (B 1 u = B 1 v ∧ ∀ j, j < B 1 u → B 4 (8 * u + j) = B 4 (8 * v + j))
theorem put_1 {B : aS} {w i c k : Nat} {r : Nat → Nat} {v : Nat} : putw B w i c k r 1 v = if v = w then i else B 1 v := by
  unfold putw
  by_cases h : v = w
  · rw [if_pos ⟨rfl, h⟩, if_pos h]
  · rw [if_neg (fun q => h q.2), if_neg (fun q => by omega), if_neg (fun q => by omega), if_neg (fun q => by omega), if_neg h]
theorem put_2 {B : aS} {w i c k : Nat} {r : Nat → Nat} {v : Nat} : putw B w i c k r 2 v = if v = w then c else B 2 v := by
  unfold putw
  by_cases h : v = w
  · rw [if_neg (fun q => by omega), if_pos ⟨rfl, h⟩, if_pos h]
  · rw [if_neg (fun q => by omega), if_neg (fun q => h q.2), if_neg (fun q => by omega), if_neg (fun q => by omega), if_neg h]
theorem put_3 {B : aS} {w i c k : Nat} {r : Nat → Nat} {v : Nat} : putw B w i c k r 3 v = if v = w then k else B 3 v := by
  unfold putw
  by_cases h : v = w
  · rw [if_neg (fun q => by omega), if_neg (fun q => by omega), if_pos ⟨rfl, h⟩, if_pos h]
  · rw [if_neg (fun q => by omega), if_neg (fun q => by omega), if_neg (fun q => h q.2), if_neg (fun q => by omega), if_neg h]
theorem put_4 {B : aS} {w i c k : Nat} {r : Nat → Nat} {v j : Nat} (hj : j < 8) : putw B w i c k r 4 (8 * v + j) = if v = w then r j else B 4 (8 * v + j) := by
  unfold putw
  rw [if_neg (fun q => by omega), if_neg (fun q => by omega), if_neg (fun q => by omega)]
  by_cases h : v = w
  · subst h
    rw [if_pos ⟨rfl, by omega, by omega⟩, if_pos rfl, show 8 * v + j - 8 * v = j by omega]
  · rw [if_neg (fun q => by omega), if_neg h]
theorem BOK_put {A B : aS} {w i c k : Nat} {r : Nat → Nat} (h : BOK A B w) (hw : w < 16) (hi : 1 ≤ i) (hi8 : i ≤ 8) (hc : c ≤ 99) (hk : k ≤ 3) (hr : ∀ j, j < i → r j < A 0 0) (ha : ¬ agn B w i r) : BOK A (putw B w i c k r) (w + 1) := by
  obtain ⟨h1, h2, h3⟩ := h
  refine ⟨by omega, fun v hv => ?_, fun u v huv hv => ?_⟩
  · rw [put_1, put_2, put_3]
    by_cases e : v = w
    · rw [if_pos e, if_pos e, if_pos e]
      refine ⟨hi, hi8, hc, hk, fun j hj => ?_⟩
      rw [put_4 (by omega), if_pos e]; exact hr j hj
    · rw [if_neg e, if_neg e, if_neg e]
      obtain ⟨a1, a2, a3, a4, a5⟩ := h2 v (by omega)
      refine ⟨a1, a2, a3, a4, fun j hj => ?_⟩
      rw [put_4 (by omega), if_neg e]; exact a5 j hj
  · rw [put_1, put_1, if_neg (by omega : ¬ u = w)]
    have hu8 := (h2 u (by omega)).2.1
    by_cases e : v = w
    · rw [if_pos e]
      rintro ⟨q1, q2⟩
      refine ha ⟨u, by omega, q1, fun j hj => ?_⟩
      have := q2 j (by omega)
      rw [put_4 (by omega), put_4 (by omega), if_neg (by omega), if_pos e] at this
      exact this
    · rw [if_neg e]
      rintro ⟨q1, q2⟩
      refine h3 u v huv (by omega) ⟨q1, fun j hj => ?_⟩
      have := q2 j hj
      rw [put_4 (by omega), put_4 (by omega), if_neg (by omega), if_neg e] at this
      exact this
theorem cls_ok {A B : aS} {w p : Nat} (h : (cls A B w p).1 = 0) (hB : BOK A B w) (hp : p ≤ A 0 4) (hs : sk A p = p) : p < (cls A B w p).2.2.1 ∧ (cls A B w p).2.2.1 ≤ A 0 4 ∧ BOK A (cls A B w p).2.2.2 (w + 1) := by
  unfold cls at h ⊢
  by_cases c : isl A p
  · rw [if_pos c] at h ⊢
    have hl := ltr_ok (A := A) (w := w) (first := p) 9 p 0 (fun _ => 0)
    generalize ltr A w p 9 p 0 (fun _ => 0) = s at *
    obtain ⟨f, pl, p1, i, r⟩ := s
    unfold cls1 at h ⊢
    simp only [] at h hl ⊢
    by_cases c1 : f = 0
    · rw [if_pos c1] at h ⊢
      obtain ⟨⟨a1, a2⟩, -, a4, a5, a6, a7⟩ := hl c1 hp (by omega) (fun j hj => by omega)
      obtain ⟨a7, a8⟩ := a7 c (by omega)
      have a4 := a4 (by omega)
      have a6 := a6 hs
      by_cases c2 : agn B w i r
      · rw [cit_t c2] at h; exact absurd h (by show ¬ 4 = 0; omega)
      rw [cit_f c2] at h ⊢
      have hcs := cst_ok (A := A) (p := p1)
      generalize cst A p1 = s2 at *
      obtain ⟨f2, pl2, p2, ct⟩ := s2
      unfold cls2 at h ⊢
      simp only [] at h hcs ⊢
      by_cases c3 : f2 = 0
      · rw [if_pos c3] at h ⊢
        obtain ⟨b1, b2, b3, b4⟩ := hcs c3 a2 a6
        have hkn := knd_ok (A := A) (p := p2)
        generalize knd A p2 = s3 at *
        obtain ⟨f3, pl3, p3, kd⟩ := s3
        unfold cls3 at h ⊢
        simp only [] at h hkn ⊢
        by_cases c4 : f3 = 0
        · rw [if_pos c4] at h ⊢
          obtain ⟨d1, d2, d3, d4⟩ := hkn c4 b2 b3
          by_cases c5 : p3 < A 0 4 ∧ A 10 p3 = 59
          · rw [if_pos c5]
            exact ⟨by show p < p3 + 1; omega, c5.1, BOK_put hB a7 (by omega) a4 b4 d4 a5 c2⟩
          · rw [if_neg c5] at h; exact absurd h (by show ¬ 1 = 0; omega)
        · rw [if_neg c4] at h; exact absurd h c4
      · rw [if_neg c3] at h; exact absurd h c3
    · rw [if_neg c1] at h; exact absurd h c1
  · rw [if_neg c] at h; exact absurd h (by show ¬ 1 = 0; omega)
/-- the whole text, from a place on: fault, its place, how many words, the words -/
noncomputable def prs (A : aS) : Nat → Nat → Nat → aS → PC
  | 0, w, _, B => (0, 0, w, B)
  | t + 1, w, p, B => if p < A 0 4 then (if (cls A B w p).1 = 0 then prs A t (w + 1) (sk A (cls A B w p).2.2.1) (cls A B w p).2.2.2 else ((cls A B w p).1, (cls A B w p).2.1, 0, B)) else (0, 0, w, B)

/-! patched: a letter, and what is the same on both sides -/
noncomputable def ow (A : aS) (c w i : Nat) : Nat := if A 4 (8 * w + i) = c then 0 else ms A 0
noncomputable def pX (A : aS) (c : Nat) (s : pS) : pS := (fun a => pa (s.1 a) (ms A 2), fun w i => if i = 0 then pC else if i < A 1 w then min (pa (s.2 w (i - 1)) (ow A c w (i - 1))) (pa (s.2 w i) (ms A 2)) else pa (s.2 w (i - 1)) (ow A c w (i - 1)))
noncomputable def bl (A : aS) (c : Nat) (s : pS) (k : Nat) : Nat → Nat
  | 0 => pa (s.1 k) (ms A 2)
  | w + 1 => if k = A 3 w then min (bl A c s k w) (pa (s.2 w (A 1 w - 1)) (ow A c w (A 1 w - 1))) else bl A c s k w
noncomputable def pM (A : aS) (c : Nat) (s : pS) : pS := (fun k => bl A c s k (A 0 1), fun w i => if i < A 1 w then (if i = 0 then pa (s.2 w 0) (ms A 2) else min (pa (s.2 w i) (ms A 2)) (pa (s.2 w (i - 1)) (ow A c w (i - 1)))) else pC)
noncomputable def p0 : pS := (fun a => if a = 4 then 0 else pC, fun _ _ => pC)
def pse (A : aS) (s r : pS) : Prop := ple A r s ∧ pcl A r ∧ ∀ p, pcl A p → pbd A p → ple A p s → ple A p r
def peq (A : aS) (s r : pS) : Prop := (∀ a, a ≤ 4 → s.1 a = r.1 a) ∧ ∀ w i, w < A 0 1 → i < A 1 w → s.2 w i = r.2 w i
def Att (A : aS) (s : pS) : Prop := ∀ w, w < A 0 1 → ∃ a, a ≤ 4 ∧ may A a w ∧ pa (s.1 a) (co A w) ≤ s.2 w 0
theorem pa_le (v m : Nat) : pa v m ≤ pC := by unfold pa; omega
theorem pX_bd {A : aS} {c : Nat} {s : pS} : pbd A (pX A c s) := by
  refine ⟨fun a _ => pa_le _ _, fun w i _ _ => ?_⟩
  show (if i = 0 then pC else if i < A 1 w then _ else _) ≤ pC
  have := pa_le (s.2 w (i - 1)) (ow A c w (i - 1))
  split
  · omega
  · split <;> omega
theorem bl_le {A : aS} {c : Nat} {s : pS} {k : Nat} : ∀ n, bl A c s k n ≤ pa (s.1 k) (ms A 2) ∧ ∀ w, w < n → k = A 3 w → bl A c s k n ≤ pa (s.2 w (A 1 w - 1)) (ow A c w (A 1 w - 1))
  | 0 => ⟨Nat.le_refl _, fun w h => by omega⟩
  | n + 1 => by
    obtain ⟨h1, h2⟩ := bl_le (A := A) (c := c) (s := s) (k := k) n
    rw [bl]
    split
    · refine ⟨by omega, fun w hw e => ?_⟩
      by_cases q : w = n
      · subst q; omega
      · have := h2 w (by omega) e; omega
    · rename_i h
      refine ⟨h1, fun w hw e => ?_⟩
      by_cases q : w = n
      · subst q; exact absurd e h
      · exact h2 w (by omega) e
theorem bl_ge {A : aS} {c : Nat} {s : pS} {k v : Nat} : ∀ n, v ≤ pa (s.1 k) (ms A 2) → (∀ w, w < n → k = A 3 w → v ≤ pa (s.2 w (A 1 w - 1)) (ow A c w (A 1 w - 1))) → v ≤ bl A c s k n
  | 0, h, _ => h
  | n + 1, h, h2 => by
    have := bl_ge (A := A) (c := c) (s := s) (k := k) n h (fun w hw e => h2 w (by omega) e)
    rw [bl]
    split
    · rename_i e
      have := h2 n (by omega) e
      omega
    · exact this
theorem pM_bd {A : aS} {c : Nat} {s : pS} : pbd A (pM A c s) := by
  refine ⟨fun a _ => ?_, fun w i _ _ => ?_⟩
  · have := (bl_le (A := A) (c := c) (s := s) (k := a) (A 0 1)).1
    have := pa_le (s.1 a) (ms A 2)
    show bl A c s a (A 0 1) ≤ pC
    omega
  · have := pa_le (s.2 w 0) (ms A 2)
    have := pa_le (s.2 w i) (ms A 2)
    show (if i < A 1 w then (if i = 0 then _ else _) else pC) ≤ pC
    split
    · split <;> omega
    · omega
theorem p0_bd {A : aS} : pbd A p0 := ⟨fun a _ => by show (if a = 4 then 0 else pC) ≤ pC; split <;> omega, fun _ _ _ _ => Nat.le_refl _⟩
theorem Att_of {A : aS} (hA : I_ok A) {s r : pS} (hs : pbd A s) (h : pse A s r) (h0 : ∀ w, w < A 0 1 → s.2 w 0 = pC) : Att A r := by
  intro w hw
  obtain ⟨h1, h2, h3⟩ := h
  have hrb := pbd_le hs h1
  have hl := hA.2.1 w hw
  let p : pS := (r.1, fun v i => if v = w ∧ i = 0 then bgn A r.1 w pC 5 else r.2 v i)
  have e0 : p.2 w 0 = bgn A r.1 w pC 5 := by show (if w = w ∧ 0 = 0 then _ else _) = _; rw [if_pos ⟨rfl, rfl⟩]
  have e1 : ∀ v i, ¬ (v = w ∧ i = 0) → p.2 v i = r.2 v i := fun v i q => by show (if v = w ∧ i = 0 then _ else _) = _; rw [if_neg q]
  have hbg : r.2 w 0 ≤ bgn A r.1 w pC 5 := by
    rcases bgn_in (A := A) (b := r.1) (w := w) (init := pC) 5 with q | ⟨a, q1, q2, q3⟩
    · rw [q]; exact hrb.2 w 0 hw (by omega)
    · rw [q3]
      have := h2.2 w a hw (by omega) q2
      have := hrb.2 w 0 hw (by omega)
      unfold pa; omega
  have hb5 := bgn_le (A := A) (b := r.1) (w := w) (init := pC) 5
  have hp : pcl A p := by
    refine ⟨fun v hv => ?_, fun v a hv ha hm => ?_⟩
    · obtain ⟨q1, q2⟩ := h2.1 v hv
      have hlv := hA.2.1 v hv
      refine ⟨fun i hi => ?_, ?_⟩
      · rw [e1 v (i + 1) (by omega)]
        have := q1 i hi
        by_cases z : v = w ∧ i = 0
        · obtain ⟨rfl, rfl⟩ := z
          rw [e0]; omega
        · rw [e1 v i z]; exact this
      · rw [e1 v (A 1 v) (by omega)]; exact q2
    · by_cases z : v = w
      · subst z
        rw [e0]
        have := hb5.2 a (by omega) hm
        unfold pa at this
        show _ ≤ r.1 a + _
        omega
      · rw [e1 v 0 (by omega)]
        exact h2.2 v a hv ha hm
  have hpb : pbd A p := by
    refine ⟨hrb.1, fun v i hv hi => ?_⟩
    by_cases z : v = w ∧ i = 0
    · obtain ⟨rfl, rfl⟩ := z
      rw [e0]; exact hb5.1
    · rw [e1 v i z]; exact hrb.2 v i hv hi
  have hps : ple A p s := by
    refine ⟨h1.1, fun v i hv hi => ?_⟩
    by_cases z : v = w ∧ i = 0
    · obtain ⟨rfl, rfl⟩ := z
      rw [e0, h0 v hv]; exact hb5.1
    · rw [e1 v i z]; exact h1.2 v i hv hi
  have hq := (h3 p hp hpb hps).2 w 0 hw (by omega)
  rw [e0] at hq
  rcases bgn_in (A := A) (b := r.1) (w := w) (init := pC) 5 with q | ⟨a, q1, q2, q3⟩
  · refine ⟨4, by omega, Or.inl rfl, ?_⟩
    have := pa_le (r.1 4) (co A w)
    omega
  · exact ⟨a, by omega, q2, by omega⟩
theorem pse_eq {A : aS} {s r r' : pS} (hs : pbd A s) (h : pse A s r) (h' : pse A s r') : peq A r r' := by
  have a1 := h.2.2 r' h'.2.1 (pbd_le hs h'.1) h'.1
  have a2 := h'.2.2 r h.2.1 (pbd_le hs h.1) h.1
  refine ⟨fun a ha => ?_, fun w i hw hi => ?_⟩
  · have := a1.1 a ha; have := a2.1 a ha; omega
  · have := a1.2 w i hw (by omega); have := a2.2 w i hw (by omega); omega
/-- the two ways to take a letter come to the same -/
theorem pse_two {A : aS} (hA : I_ok A) {c : Nat} {s s' r r' : pS} (he : peq A s s') (ht : Att A s) (h : pse A (pX A c s) r) (h' : pse A (pM A c s') r') : peq A r r' := by
  obtain ⟨h1, h2, h3⟩ := h
  obtain ⟨k1, k2, k3⟩ := h'
  have hrb := pbd_le pX_bd h1
  have hrb' := pbd_le pM_bd k1
  have X0 : ∀ w, (pX A c s).2 w 0 = pC := fun w => rfl
  have Xm : ∀ w i, 0 < i → i < A 1 w → (pX A c s).2 w i = min (pa (s.2 w (i - 1)) (ow A c w (i - 1))) (pa (s.2 w i) (ms A 2)) := fun w i q1 q2 => by
    show (if i = 0 then pC else if i < A 1 w then _ else _) = _
    rw [if_neg (by omega), if_pos q2]
  have Xl : ∀ w, 0 < A 1 w → (pX A c s).2 w (A 1 w) = pa (s.2 w (A 1 w - 1)) (ow A c w (A 1 w - 1)) := fun w q1 => by
    show (if A 1 w = 0 then pC else if A 1 w < A 1 w then _ else _) = _
    rw [if_neg (by omega), if_neg (by omega)]
  have M0 : ∀ w, 0 < A 1 w → (pM A c s').2 w 0 = pa (s'.2 w 0) (ms A 2) := fun w q => by
    show (if 0 < A 1 w then (if 0 = 0 then _ else _) else pC) = _
    rw [if_pos q, if_pos rfl]
  have Mm : ∀ w i, 0 < i → i < A 1 w → (pM A c s').2 w i = min (pa (s'.2 w i) (ms A 2)) (pa (s'.2 w (i - 1)) (ow A c w (i - 1))) := fun w i q1 q2 => by
    show (if i < A 1 w then (if i = 0 then _ else _) else pC) = _
    rw [if_pos q2, if_neg (by omega)]
  have Ml : ∀ w, (pM A c s').2 w (A 1 w) = pC := fun w => by
    show (if A 1 w < A 1 w then _ else pC) = _
    rw [if_neg (by omega)]
  have up : ple A r (pM A c s') := by
    refine ⟨fun a ha => ?_, fun w i hw hi => ?_⟩
    · refine bl_ge _ ?_ (fun w hw e => ?_)
      · rw [← he.1 a ha]; exact h1.1 a ha
      · subst e
        have hl := hA.2.1 w hw
        have q1 := (h2.1 w hw).2
        have q2 := h1.2 w (A 1 w) hw (Nat.le_refl _)
        rw [Xl w (by omega)] at q2
        rw [← he.2 w (A 1 w - 1) hw (by omega)]
        omega
    · have hl := hA.2.1 w hw
      by_cases c1 : i = A 1 w
      · subst c1; rw [Ml]; exact hrb.2 w _ hw (Nat.le_refl _)
      · by_cases c0 : i = 0
        · subst c0
          obtain ⟨a, t1, t2, t3⟩ := ht w hw
          have q1 := h2.2 w a hw t1 t2
          have q2 : r.1 a ≤ pa (s.1 a) (ms A 2) := h1.1 a t1
          have q3 := hrb.2 w 0 hw (by omega)
          rw [M0 w (by omega), ← he.2 w 0 hw (by omega)]
          unfold pa at *
          omega
        · rw [Mm w i (by omega) (by omega), ← he.2 w i hw (by omega), ← he.2 w (i - 1) hw (by omega)]
          have := h1.2 w i hw hi
          rw [Xm w i (by omega) (by omega)] at this
          omega
  let p : pS := (r'.1, fun w i => if i = A 1 w then r'.1 (A 3 w) else r'.2 w i)
  have e1 : ∀ w, p.2 w (A 1 w) = r'.1 (A 3 w) := fun w => by show (if A 1 w = A 1 w then _ else _) = _; rw [if_pos rfl]
  have e2 : ∀ w i, i ≠ A 1 w → p.2 w i = r'.2 w i := fun w i q => by show (if i = A 1 w then _ else _) = _; rw [if_neg q]
  have hp : pcl A p := by
    refine ⟨fun w hw => ?_, fun w a hw ha hm => ?_⟩
    · obtain ⟨q1, q2⟩ := k2.1 w hw
      refine ⟨fun i hi => ?_, ?_⟩
      · rw [e2 w i (by omega)]
        have := q1 i hi
        by_cases z : i + 1 = A 1 w
        · rw [z, e1]
          rw [z] at this
          omega
        · rw [e2 w _ z]; exact this
      · rw [e1]; exact Nat.le_refl _
    · have hl := hA.2.1 w hw
      rw [e2 w 0 (by omega)]
      exact k2.2 w a hw ha hm
  have hpx : ple A p (pX A c s) := by
    refine ⟨fun a ha => ?_, fun w i hw hi => ?_⟩
    · have q1 : r'.1 a ≤ bl A c s' a (A 0 1) := k1.1 a ha
      have q2 := (bl_le (A := A) (c := c) (s := s') (k := a) (A 0 1)).1
      show r'.1 a ≤ pa (s.1 a) (ms A 2)
      rw [he.1 a ha]
      omega
    · have hl := hA.2.1 w hw
      by_cases c1 : i = A 1 w
      · subst c1
        rw [e1, Xl w (by omega), he.2 w (A 1 w - 1) hw (by omega)]
        have q1 : r'.1 (A 3 w) ≤ bl A c s' (A 3 w) (A 0 1) := k1.1 _ (by omega)
        have q2 := (bl_le (A := A) (c := c) (s := s') (k := A 3 w) (A 0 1)).2 w hw rfl
        omega
      · rw [e2 w i c1]
        by_cases c0 : i = 0
        · subst c0; rw [X0]; exact hrb'.2 w 0 hw hi
        · rw [Xm w i (by omega) (by omega), he.2 w i hw (by omega), he.2 w (i - 1) hw (by omega)]
          have := k1.2 w i hw hi
          rw [Mm w i (by omega) (by omega)] at this
          omega
  have hpb : pbd A p := pbd_le pX_bd hpx
  have a1 := h3 p hp hpb hpx
  have a2 := k3 r h2 hrb up
  refine ⟨fun a ha => ?_, fun w i hw hi => ?_⟩
  · have := a1.1 a ha; have := a2.1 a ha
    show r.1 a = r'.1 a
    have q : r'.1 a ≤ r.1 a := a1.1 a ha
    omega
  · have q1 := a1.2 w i hw (by omega)
    rw [e2 w i (by omega)] at q1
    have := a2.2 w i hw (by omega); omega
theorem ms_le {A : aS} (hA : I_ok A) {j : Nat} (hj : j < 3) : ms A j ≤ 103809025 := by
  have := hA.2.2.2.1 j hj
  unfold ms; omega
theorem co_le {A : aS} (hA : I_ok A) {w : Nat} (hw : w < A 0 1) : co A w ≤ 103809024 := by
  have := (hA.2.1 w hw).2.2.1
  unfold co; omega
/-- a word's end is in sight -/
theorem prw_fin {A : aS} (hA : I_ok A) {s : pS} {w : Nat} (hw : w < A 0 1) (h4 : s.1 4 ≤ 10000000000) : prw A s w (A 1 w) < pC := by
  have h1 := ms_le hA (j := 1) (by omega)
  have h2 := co_le hA hw
  have hl := (hA.2.1 w hw).2.1
  have : ∀ i, prw A s w i ≤ 10000000000 + 103809024 + i * 103809025 := by
    intro i
    induction i with
    | zero =>
      rw [prw_0]
      have := (bgn_le (A := A) (b := s.1) (w := w) (init := s.2 w 0) 5).2 4 (by omega) (Or.inl rfl)
      unfold pa at this; omega
    | succ i ih => rw [prw_s]; unfold pa; omega
  have := this (A 1 w)
  rw [pC_eq]
  omega
/-- how each side holds a price -/
def RVX (d : Nat) (y : Int64) (v : Nat) : Prop := ∃ x : Nat, y = lN x ∧ v = min x pC ∧ x ≤ 1152921504606846976 + d * 134217728
def RVM (d : Nat) (y : Int64) (v : Nat) : Prop := ∃ x : Nat, y = lN x ∧ ((v = pC ∧ 1000000000000 ≤ x ∧ x ≤ 1000000000000 + d * 10000000) ∨ ∃ s c, x = s * 100000 + c ∧ c ≤ d ∧ s ≤ 99 * d ∧ v = s * 1048576 + c)
theorem RVX.mono {d d' : Nat} {y : Int64} {v : Nat} (h : RVX d y v) (hd : d ≤ d') : RVX d' y v := by
  obtain ⟨x, h1, h2, h3⟩ := h
  exact ⟨x, h1, h2, Nat.le_trans h3 (Nat.add_le_add_left (Nat.mul_le_mul_right _ hd) _)⟩
theorem RVM.mono {d d' : Nat} {y : Int64} {v : Nat} (h : RVM d y v) (hd : d ≤ d') : RVM d' y v := by
  obtain ⟨x, h1, ⟨h2, h3, h4⟩ | ⟨s, c, h2, h3, h4, h5⟩⟩ := h
  · exact ⟨x, h1, Or.inl ⟨h2, h3, Nat.le_trans h4 (Nat.add_le_add_left (Nat.mul_le_mul_right _ hd) _)⟩⟩
  · exact ⟨x, h1, Or.inr ⟨s, c, h2, by omega, by omega, h5⟩⟩
theorem RVX.add {d : Nat} {y : Int64} {v p e : Nat} (h : RVX d y v) (hp : p ≤ 99) (he : e ≤ 1) : RVX (d + 1) (y + lN (p * 1048576 + e)) (pa v (p * 1048576 + e)) := by
  obtain ⟨x, h1, h2, h3⟩ := h
  refine ⟨x + (p * 1048576 + e), by rw [h1, p_Ladd], ?_, by omega⟩
  unfold pa; omega
theorem RVM.add {d : Nat} {y : Int64} {v p e : Nat} (h : RVM d y v) (hp : p ≤ 99) (he : e ≤ 1) (hd : d < 90000) : RVM (d + 1) (y + lN (p * 100000 + e)) (pa v (p * 1048576 + e)) := by
  obtain ⟨x, h1, ⟨h2, h3, h4⟩ | ⟨s, c, h2, h3, h4, h5⟩⟩ := h
  · refine ⟨x + (p * 100000 + e), by rw [h1, p_Ladd], Or.inl ⟨?_, by omega, by omega⟩⟩
    rw [h2]; unfold pa; omega
  · refine ⟨x + (p * 100000 + e), by rw [h1, p_Ladd], Or.inr ⟨s + p, c + e, by omega, by omega, by omega, ?_⟩⟩
    have := pC_eq
    unfold pa
    omega
theorem lex_lt {U s c s' c' : Nat} (h : c < U) (h' : c' < U) : s * U + c < s' * U + c' ↔ s < s' ∨ (s = s' ∧ c < c') := by
  constructor
  · intro q
    by_cases z : s < s'
    · exact Or.inl z
    · by_cases e : s = s'
      · subst e; exact Or.inr ⟨rfl, by omega⟩
      · have := Nat.mul_le_mul_right U (show s' + 1 ≤ s by omega)
        rw [Nat.succ_mul] at this
        omega
  · rintro (z | ⟨rfl, z⟩)
    · have := Nat.mul_le_mul_right U (show s + 1 ≤ s' by omega)
      rw [Nat.succ_mul] at this
      omega
    · omega
theorem RVX.lt {d : Nat} {y y' : Int64} {v v' : Nat} (h : RVX d y v) (h' : RVX d y' v') (hd : d < 100000) (hv : v < pC) : y < y' ↔ v < v' := by
  obtain ⟨x, h1, h2, h3⟩ := h
  obtain ⟨x', h1', h2', h3'⟩ := h'
  rw [h1, h1', p_JLt (by omega) (by omega)]
  omega
theorem RVM.lt {d : Nat} {y y' : Int64} {v v' : Nat} (h : RVM d y v) (h' : RVM d y' v') (hd : d < 90000) (hv : v < pC) : y < y' ↔ v < v' := by
  have := pC_eq
  obtain ⟨x, h1, ⟨h2, h3, h4⟩ | ⟨s, c, h2, h3, h4, h5⟩⟩ := h
  · omega
  · obtain ⟨x', h1', ⟨h2', h3', h4'⟩ | ⟨s', c', h2', h3', h4', h5'⟩⟩ := h'
    · rw [h1, h1', p_JLt (by omega) (by omega)]
      omega
    · rw [h1, h1', p_JLt (by omega) (by omega)]
      rw [h2, h2', h5, h5', lex_lt (by omega) (by omega), lex_lt (by omega) (by omega)]
theorem RVX.min {d : Nat} {y y' : Int64} {v v' : Nat} (h : RVX d y v) (h' : RVX d y' v') (hd : d < 100000) : RVX d (if y < y' then y else y') (min v v') := by
  obtain ⟨x, h1, h2, h3⟩ := h
  obtain ⟨x', h1', h2', h3'⟩ := h'
  subst h1
  subst h1'
  by_cases q : x < x'
  · rw [if_pos ((p_JLt (by omega) (by omega)).mpr q)]
    exact ⟨x, rfl, by omega, h3⟩
  · rw [if_neg (fun z => q ((p_JLt (by omega) (by omega)).mp z))]
    exact ⟨x', rfl, by omega, h3'⟩
theorem RVM.min {d : Nat} {y y' : Int64} {v v' : Nat} (h : RVM d y v) (h' : RVM d y' v') (hd : d < 90000) : RVM d (if y' ≤ y then y' else y) (min v v') := by
  have hC := pC_eq
  by_cases hv : v < v'
  · have hlt := (h.lt h' hd (by
      obtain ⟨x', h1', ⟨h2', h3', h4'⟩ | ⟨s', c', h2', h3', h4', h5'⟩⟩ := h'
      · omega
      · omega)).mpr hv
    rw [if_neg (fun q => by rw [Int64.le_iff_toInt_le] at q; rw [Int64.lt_iff_toInt_lt] at hlt; omega), Nat.min_eq_left (by omega)]
    exact h
  · by_cases hc : v' < pC
    · have hle : y' ≤ y := by
        by_cases e : v = v'
        · -- equal: the same number
          subst e
          obtain ⟨x, h1, ⟨h2, h3, h4⟩ | ⟨s, c, h2, h3, h4, h5⟩⟩ := h
          · omega
          · obtain ⟨x', h1', ⟨h2', h3', h4'⟩ | ⟨s', c', h2', h3', h4', h5'⟩⟩ := h'
            · omega
            · rw [h1, h1', p_JLe (by omega) (by omega)]
              have : s = s' := by omega
              omega
        · have := (h'.lt h hd hc).mpr (by omega)
          rw [Int64.lt_iff_toInt_lt] at this
          rw [Int64.le_iff_toInt_le]
          omega
      rw [if_pos hle, Nat.min_eq_right (by omega)]
      exact h'
    · have e1 : v' = pC := by
        obtain ⟨x', h1', ⟨h2', h3', h4'⟩ | ⟨s', c', h2', h3', h4', h5'⟩⟩ := h'
        · exact h2'
        · omega
      have e2 : v = pC := by
        obtain ⟨x, h1, ⟨h2, h3, h4⟩ | ⟨s, c, h2, h3, h4, h5⟩⟩ := h
        · exact h2
        · omega
      rw [e1, e2, Nat.min_self]
      rw [e1] at h'
      rw [e2] at h
      split
      · exact h'
      · exact h
theorem p_shl20 {p : Nat} (h : p ≤ 99) : (nI p).toInt64 <<< ((20 : Int32).toInt64 &&& 63) = lN (p * 1048576) := by
  have : ∀ p, p < 100 → (nI p).toInt64 <<< ((20 : Int32).toInt64 &&& 63) = lN (p * 1048576) := by decide
  exact this p (by omega)

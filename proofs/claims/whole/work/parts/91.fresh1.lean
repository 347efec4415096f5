/-! THE NEW WORD: what is sought -/
def trw (n : Nat) (r : Nat → Nat) : Nat → Nat := fun j => if j < n then r j else 0
/-- the state with a word more -/
def Ap (A : aS) (c n : Nat) (r : Nat → Nat) : aS := aw (putw A (A 0 1) n c 0 (trw n r)) 0 1 (A 0 1 + 1)
theorem Ap_01 {A : aS} {c n : Nat} {r : Nat → Nat} : Ap A c n r 0 1 = A 0 1 + 1 := aw_at
theorem put_0 {B : aS} {w i c k : Nat} {r : Nat → Nat} {a : Nat} (h : a = 0 ∨ 4 < a) : putw B w i c k r a = B a := by
  funext j
  unfold putw
  rw [if_neg (fun q => by omega), if_neg (fun q => by omega), if_neg (fun q => by omega), if_neg (fun q => by omega)]
theorem Ap_0 {A : aS} {c n j : Nat} {r : Nat → Nat} (h : j ≠ 1) : Ap A c n r 0 j = A 0 j := by
  unfold Ap
  rw [aw_on h, put_0 (Or.inl rfl)]
theorem Ap_o {A : aS} {c n a : Nat} {r : Nat → Nat} (h : 4 < a) : Ap A c n r a = A a := by
  unfold Ap
  rw [aw_off (by omega), put_0 (Or.inr h)]
theorem Ap_1 {A : aS} {c n v : Nat} {r : Nat → Nat} : Ap A c n r 1 v = if v = A 0 1 then n else A 1 v := by
  unfold Ap; rw [aw_off (by decide), put_1]
theorem Ap_2 {A : aS} {c n v : Nat} {r : Nat → Nat} : Ap A c n r 2 v = if v = A 0 1 then c else A 2 v := by
  unfold Ap; rw [aw_off (by decide), put_2]
theorem Ap_3 {A : aS} {c n v : Nat} {r : Nat → Nat} : Ap A c n r 3 v = if v = A 0 1 then 0 else A 3 v := by
  unfold Ap; rw [aw_off (by decide), put_3]
theorem Ap_4 {A : aS} {c n v j : Nat} {r : Nat → Nat} (hj : j < 8) : Ap A c n r 4 (8 * v + j) = if v = A 0 1 then trw n r j else A 4 (8 * v + j) := by
  unfold Ap; rw [aw_off (by decide), put_4 hj]
theorem trw_lt {n j : Nat} {r : Nat → Nat} (h : j < n) : trw n r j = r j := if_pos h
theorem I_Ap {A : aS} (hA : I_ok A) {c n : Nat} {r : Nat → Nat} (h16 : A 0 1 < 16) (hn : 1 ≤ n) (hn8 : n ≤ 8) (hc : c ≤ 99) (hr : ∀ j, j < n → r j < A 0 0) (ha : ¬ agn A (A 0 1) n r) : I_ok (Ap A c n r) := by
  obtain ⟨⟨a1, a2, a3, a4, a5, a6, a7⟩, aB, aC, aD, aE, aF, aG, aH⟩ := hA
  refine ⟨⟨?_, ?_, ?_, ?_, ?_, ?_, ?_⟩, ?_, ?_, ?_, ?_, ?_, ?_, ?_⟩ <;> (try simp (disch := omega) only [Ap_01, Ap_0, Ap_o]) <;> (try assumption) <;> (try omega)
  · intro w hw
    rw [Ap_1, Ap_2, Ap_3]
    by_cases e : w = A 0 1
    · rw [if_pos e, if_pos e, if_pos e]
      refine ⟨hn, hn8, hc, by omega, fun i hi => ?_⟩
      rw [Ap_4 (by omega), if_pos e, trw_lt hi]; exact hr i hi
    · rw [if_neg e, if_neg e, if_neg e]
      obtain ⟨b1, b2, b3, b4, b5⟩ := aB w (by omega)
      refine ⟨b1, b2, b3, b4, fun i hi => ?_⟩
      rw [Ap_4 (by omega), if_neg e]; exact b5 i hi
  · intro v w hvw hw
    rw [Ap_1, Ap_1, if_neg (by omega : ¬ v = A 0 1)]
    have hv8 := (aB v (by omega)).2.1
    by_cases e : w = A 0 1
    · rw [if_pos e]
      rintro ⟨q1, q2⟩
      refine ha ⟨v, by omega, q1, fun j hj => ?_⟩
      have := q2 j (by omega)
      rw [Ap_4 (by omega), Ap_4 (by omega), if_neg (by omega), if_pos e, trw_lt hj] at this
      exact this
    · rw [if_neg e]
      rintro ⟨q1, q2⟩
      refine aH v w hvw (by omega) ⟨q1, fun j hj => ?_⟩
      have := q2 j hj
      rw [Ap_4 (by omega), Ap_4 (by omega), if_neg (by omega), if_neg e] at this
      exact this
/-- at each place as before, or the new word -/
theorem sok_old {A : aS} (hA : I_ok A) {c n : Nat} {r dr : Nat → Nat} {len a w x : Nat} (hw : w < A 0 1) : sok (Ap A c n r) dr len a w x ↔ sok A dr len a w x := by
  have h8 := (hA.2.1 w hw).2.1
  have e1 : Ap A c n r 1 w = A 1 w := by rw [Ap_1, if_neg (by omega)]
  have e3 : Ap A c n r 3 w = A 3 w := by rw [Ap_3, if_neg (by omega)]
  have e4 : ∀ i, i < A 1 w → Ap A c n r 4 (8 * w + i) = A 4 (8 * w + i) := fun i hi => by rw [Ap_4 (by omega), if_neg (by omega)]
  unfold sok may stR
  rw [e1, e3, Ap_o (by omega)]
  constructor
  · rintro ⟨q1, q2, q3⟩
    exact ⟨q1, q2, fun i hi => by rw [q3 i hi, e4 i hi]⟩
  · rintro ⟨q1, q2, q3⟩
    exact ⟨q1, q2, fun i hi => by rw [q3 i hi, e4 i hi]⟩
theorem SS_Ap_le {A : aS} (hA : I_ok A) {c n : Nat} {r : Nat → Nat} (hP : I_ok (Ap A c n r)) {dr : Nat → Nat} {len : Nat} : ∀ f x a, len - x ≤ f → SS (Ap A c n r) dr len x a ≤ SS A dr len x a
  | 0, x, a, h => by rw [SS_end (by omega), SS_end (by omega)]; exact Nat.le_refl _
  | f + 1, x, a, h => by
    by_cases hx : x < len
    · rw [SS_step hP hx, SS_step hA hx]
      obtain ⟨l1, l2⟩ := mn_low (f := sw (Ap A c n r) dr len x a) (i := Ap A c n r 6 2 + SS (Ap A c n r) dr len (x + 1) a) (Ap A c n r 0 1)
      rw [Ap_o (a := 6) (by omega)] at l1 l2 ⊢
      rw [Ap_01] at l1 l2 ⊢
      rcases mn_in (f := sw A dr len x a) (i := A 6 2 + SS A dr len (x + 1) a) (A 0 1) with e | ⟨w, hw, e⟩
      · rw [e]
        have := SS_Ap_le hA hP (dr := dr) (len := len) f (x + 1) a (by omega)
        omega
      · generalize mn (sw A dr len x a) (A 6 2 + SS A dr len (x + 1) a) (A 0 1) = V at e ⊢
        unfold sw at e
        by_cases c1 : sok A dr len a w x
        · have w1 := (hA.2.1 w hw).1
          rw [cit_t c1] at e
          have e1 : Ap A c n r 1 w = A 1 w := by rw [Ap_1, if_neg (by omega)]
          have e2 : Ap A c n r 2 w = A 2 w := by rw [Ap_2, if_neg (by omega)]
          have e3 : Ap A c n r 3 w = A 3 w := by rw [Ap_3, if_neg (by omega)]
          have := l2 w (A 2 w + SS (Ap A c n r) dr len (x + A 1 w) (A 3 w)) (by omega) (by
            unfold sw
            rw [cit_t ((sok_old hA hw).mpr c1), e1, e2, e3])
          have h2 := SS_Ap_le hA hP (dr := dr) (len := len) f (x + A 1 w) (A 3 w) (by omega)
          have h3 := Option.some.inj e
          omega
        · rw [cit_f c1] at e; cases e
    · rw [SS_end (by omega), SS_end (by omega)]; exact Nat.le_refl _
theorem SS_Ap_ge {A : aS} (hA : I_ok A) {c n : Nat} {r : Nat → Nat} (hP : I_ok (Ap A c n r)) {dr : Nat → Nat} {len : Nat} (hno : ∀ x, ¬ stR dr len (Ap A c n r) x (A 0 1)) : ∀ f x a, len - x ≤ f → SS A dr len x a ≤ SS (Ap A c n r) dr len x a
  | 0, x, a, h => by rw [SS_end (by omega), SS_end (by omega)]; exact Nat.le_refl _
  | f + 1, x, a, h => by
    by_cases hx : x < len
    · rw [SS_step hP hx, SS_step hA hx]
      obtain ⟨l1, l2⟩ := mn_low (f := sw A dr len x a) (i := A 6 2 + SS A dr len (x + 1) a) (A 0 1)
      rw [Ap_o (a := 6) (by omega), Ap_01]
      rcases mn_in (f := sw (Ap A c n r) dr len x a) (i := A 6 2 + SS (Ap A c n r) dr len (x + 1) a) (A 0 1 + 1) with e | ⟨w, hw, e⟩
      · rw [e]
        have := SS_Ap_ge hA hP hno f (x + 1) a (by omega)
        omega
      · generalize mn (sw (Ap A c n r) dr len x a) (A 6 2 + SS (Ap A c n r) dr len (x + 1) a) (A 0 1 + 1) = V at e ⊢
        unfold sw at e
        by_cases c1 : sok (Ap A c n r) dr len a w x
        · by_cases z : w = A 0 1
          · subst z; exact absurd c1.2 (hno x)
          · have hw' : w < A 0 1 := by omega
            have w1 := (hA.2.1 w hw').1
            rw [cit_t c1] at e
            have e1 : Ap A c n r 1 w = A 1 w := by rw [Ap_1, if_neg (by omega)]
            have e2 : Ap A c n r 2 w = A 2 w := by rw [Ap_2, if_neg (by omega)]
            have e3 : Ap A c n r 3 w = A 3 w := by rw [Ap_3, if_neg (by omega)]
            rw [e1, e2, e3] at e
            have := l2 w (A 2 w + SS A dr len (x + A 1 w) (A 3 w)) hw' (by
              unfold sw
              rw [cit_t ((sok_old hA hw').mp c1)])
            have h2 := SS_Ap_ge hA hP hno f (x + A 1 w) (A 3 w) (by omega)
            have h3 := Option.some.inj e
            omega
        · rw [cit_f c1] at e; cases e
    · rw [SS_end (by omega), SS_end (by omega)]; exact Nat.le_refl _
noncomputable def tot (A : aS) : Nat := sm (fun l => SL A l 0 4) (A 0 3)
/-- a row as a number with a figure of base 9 for each letter -/
def dgi (n : Nat) (r : Nat → Nat) (i : Nat) : Nat := if i < n then r i + 1 else 0
def cdr (n : Nat) (r : Nat → Nat) : Nat := (((dgi n r 0 * 9 + dgi n r 1) * 9 + dgi n r 2) * 9 + dgi n r 3) * 9 + dgi n r 4
def p9 (i : Nat) : Nat := match i with
  | 0 => 6561
  | 1 => 729
  | 2 => 81
  | 3 => 9
  | _ => 1
def dgC (k i : Nat) : Nat := k / p9 i % 9
theorem dgi_le {n : Nat} {r : Nat → Nat} (hr : ∀ j, j < n → r j < 8) (i : Nat) : dgi n r i ≤ 8 := by
  unfold dgi
  split
  · rename_i h; have := hr i h; omega
  · omega
theorem dgC_cdr {n : Nat} {r : Nat → Nat} (hr : ∀ j, j < n → r j < 8) {i : Nat} (hi : i < 5) : dgC (cdr n r) i = dgi n r i := by
  have h0 := dgi_le hr 0
  have h1 := dgi_le hr 1
  have h2 := dgi_le hr 2
  have h3 := dgi_le hr 3
  have h4 := dgi_le hr 4
  unfold dgC cdr
  rcases (show i = 0 ∨ i = 1 ∨ i = 2 ∨ i = 3 ∨ i = 4 by omega) with rfl | rfl | rfl | rfl | rfl
  · show _ / 6561 % 9 = _; omega
  · show _ / 729 % 9 = _; omega
  · show _ / 81 % 9 = _; omega
  · show _ / 9 % 9 = _; omega
  · show _ / 1 % 9 = _; omega
theorem cdr_le {n : Nat} {r : Nat → Nat} (hr : ∀ j, j < n → r j < 8) : cdr n r ≤ 59048 := by
  have h0 := dgi_le hr 0
  have h1 := dgi_le hr 1
  have h2 := dgi_le hr 2
  have h3 := dgi_le hr 3
  have h4 := dgi_le hr 4
  unfold cdr; omega
theorem cdr_pos {n : Nat} {r : Nat → Nat} (hn : 1 ≤ n) : 0 < cdr n r := by
  have h0 : dgi n r 0 = r 0 + 1 := if_pos (by omega)
  unfold cdr; omega
def lenC (k : Nat) : Nat := (if dgC k 0 = 0 then 0 else 1) + (if dgC k 1 = 0 then 0 else 1) + (if dgC k 2 = 0 then 0 else 1) + (if dgC k 3 = 0 then 0 else 1) + (if dgC k 4 = 0 then 0 else 1)
def letC (k i : Nat) : Nat := dgC k i - 1
theorem lenC_cdr {n : Nat} {r : Nat → Nat} (hr : ∀ j, j < n → r j < 8) (hn : n ≤ 5) : lenC (cdr n r) = n := by
  unfold lenC
  rw [dgC_cdr hr (by omega), dgC_cdr hr (by omega), dgC_cdr hr (by omega), dgC_cdr hr (by omega), dgC_cdr hr (by omega)]
  unfold dgi
  rcases (show n = 0 ∨ n = 1 ∨ n = 2 ∨ n = 3 ∨ n = 4 ∨ n = 5 by omega) with rfl | rfl | rfl | rfl | rfl | rfl <;> simp
theorem letC_cdr {n : Nat} {r : Nat → Nat} (hr : ∀ j, j < n → r j < 8) (hn : n ≤ 5) {i : Nat} (hi : i < n) : letC (cdr n r) i = r i := by
  unfold letC
  rw [dgC_cdr hr (by omega)]
  unfold dgi
  rw [if_pos hi]; omega
theorem trw_cdr {n : Nat} {r : Nat → Nat} (hr : ∀ j, j < n → r j < 8) (hn : n ≤ 5) : trw n (letC (cdr n r)) = trw n r := by
  funext j
  unfold trw
  by_cases h : j < n
  · rw [if_pos h, if_pos h, letC_cdr hr hn h]
  · rw [if_neg h, if_neg h]
/-- by how much the total would be less -/
noncomputable def gnA (A : aS) (c n : Nat) (r : Nat → Nat) : Nat := tot A - tot (Ap A c n r)
noncomputable def gC (A : aS) (c k : Nat) : Nat := gnA A c (lenC k) (letC k)
theorem gC_cdr {A : aS} {c n : Nat} {r : Nat → Nat} (hr : ∀ j, j < n → r j < 8) (hn : n ≤ 5) : gC A c (cdr n r) = gnA A c n r := by
  unfold gC
  rw [lenC_cdr hr hn]
  unfold gnA Ap
  rw [trw_cdr hr hn]
def rwf (A : aS) (l x : Nat) : Nat → Nat := fun i => A 9 (24 * l + (x + i))
/-- a row that may be the new word -/
def CT (A : aS) (l x n k : Nat) : Prop := l < A 0 3 ∧ 2 ≤ n ∧ n ≤ 5 ∧ x + n ≤ A 8 l ∧ k = cdr n (rwf A l x) ∧ ¬ agn A (A 0 1) n (rwf A l x)
def Spr (A : aS) (P : Nat → Nat → Nat → Prop) (k : Nat) : Prop := ∃ l x n, P l x n ∧ CT A l x n k
def BST (A : aS) (c : Nat) (S : Nat → Prop) (b k : Nat) : Prop := (b = 0 ∧ ∀ k', S k' → gC A c k' = 0) ∨ (0 < b ∧ S k ∧ gC A c k = b ∧ ∀ k', S k' → gC A c k' < b ∨ (gC A c k' = b ∧ k ≤ k'))
theorem BST_0 {A : aS} {c k : Nat} {S : Nat → Prop} (h : ∀ k', ¬ S k') : BST A c S 0 k := Or.inl ⟨rfl, fun k' q => absurd q (h k')⟩
theorem BST_congr {A : aS} {c b k : Nat} {S S' : Nat → Prop} (h : ∀ k', S k' ↔ S' k') (hb : BST A c S b k) : BST A c S' b k := by
  rcases hb with ⟨h1, h2⟩ | ⟨h1, h2, h3, h4⟩
  · exact Or.inl ⟨h1, fun k' q => h2 k' ((h k').mpr q)⟩
  · exact Or.inr ⟨h1, (h k).mp h2, h3, fun k' q => h4 k' ((h k').mpr q)⟩
theorem BST_step {A : aS} {c b k d : Nat} {S : Nat → Prop} (hb : BST A c S b k) : BST A c (fun k' => S k' ∨ k' = d) (if b < gC A c d ∨ (gC A c d = b ∧ 0 < b ∧ d < k) then gC A c d else b) (if b < gC A c d ∨ (gC A c d = b ∧ 0 < b ∧ d < k) then d else k) := by
  rcases hb with ⟨h1, h2⟩ | ⟨h1, h2, h3, h4⟩
  · subst h1
    by_cases q : 0 < gC A c d
    · rw [if_pos (Or.inl q), if_pos (Or.inl q)]
      refine Or.inr ⟨q, Or.inr rfl, rfl, ?_⟩
      rintro k' (z | z)
      · have := h2 k' z; omega
      · subst z; exact Or.inr ⟨rfl, Nat.le_refl _⟩
    · rw [if_neg (by omega), if_neg (by omega)]
      refine Or.inl ⟨rfl, ?_⟩
      rintro k' (z | z)
      · exact h2 k' z
      · subst z; omega
  · by_cases q : b < gC A c d ∨ (gC A c d = b ∧ 0 < b ∧ d < k)
    · rw [if_pos q, if_pos q]
      refine Or.inr ⟨by omega, Or.inr rfl, rfl, ?_⟩
      rintro k' (z | z)
      · have := h4 k' z; omega
      · subst z; exact Or.inr ⟨rfl, Nat.le_refl _⟩
    · rw [if_neg q, if_neg q]
      refine Or.inr ⟨h1, Or.inl h2, h3, ?_⟩
      rintro k' (z | z)
      · exact h4 k' z
      · subst z; omega
theorem BST_uniq {A : aS} {c b k b' k' : Nat} {S : Nat → Prop} (h : BST A c S b k) (h' : BST A c S b' k') : b = b' ∧ (0 < b → k = k') := by
  rcases h with ⟨h1, h2⟩ | ⟨h1, h2, h3, h4⟩
  · rcases h' with ⟨g1, g2⟩ | ⟨g1, g2, g3, g4⟩
    · exact ⟨by omega, fun z => by omega⟩
    · have := h2 k' g2; omega
  · rcases h' with ⟨g1, g2⟩ | ⟨g1, g2, g3, g4⟩
    · have := g2 k h2; omega
    · have a1 := h4 k' g2
      have a2 := g4 k h2
      exact ⟨by omega, fun _ => by omega⟩
/-- the answers -/
def ansF (b k : Nat) (v : Int32) : Int32 := if b = 0 then -1 else if v = 0 then nI b else if v = 1 then nI (lenC k) else if dgC k (v - 2).toNatClampNeg = 0 then -1 else nI (dgC k (v - 2).toNatClampNeg - 1)
theorem ansF_eq {b k b' k' : Nat} {v : Int32} (h : b = b' ∧ (0 < b → k = k')) : ansF b k v = ansF b' k' v := by
  obtain ⟨rfl, h⟩ := h
  unfold ansF
  by_cases z : b = 0
  · rw [if_pos z, if_pos z]
  · rw [h (by omega)]
def Sal (A : aS) : Nat → Prop := Spr A (fun _ _ _ => True)
/-- of the state only what the sums hang on matters -/
def sim (A B : aS) : Prop := (A 0 0 = B 0 0 ∧ A 0 1 = B 0 1 ∧ A 0 3 = B 0 3) ∧ ∀ c, 1 ≤ c → c ≤ 9 → c ≠ 7 → A c = B c
theorem sN_sim {A B : aS} (h : sim A B) {dr : Nat → Nat} {len : Nat} : ∀ n, sN A dr len n = sN B dr len n
  | 0 => rfl
  | n + 1 => by
    obtain ⟨⟨h0, h1, h3⟩, h2⟩ := h
    funext x a
    show (if x < len then _ else _) = if x < len then _ else _
    rw [sN_sim ⟨⟨h0, h1, h3⟩, h2⟩ n, h1, h2 1 (by omega) (by omega) (by omega), h2 2 (by omega) (by omega) (by omega), h2 3 (by omega) (by omega) (by omega), h2 6 (by omega) (by omega) (by omega)]
    unfold sok may stR
    rw [h2 1 (by omega) (by omega) (by omega), h2 3 (by omega) (by omega) (by omega), h2 4 (by omega) (by omega) (by omega), h2 5 (by omega) (by omega) (by omega)]
theorem tot_sim {A B : aS} (h : sim A B) : tot A = tot B := by
  unfold tot
  rw [h.1.2.2]
  refine sm_congr _ (fun l _ => ?_)
  unfold SL SS
  rw [sN_sim h, h.2 8 (by omega) (by omega) (by omega), h.2 9 (by omega) (by omega) (by omega)]
theorem Ap_sim {A B : aS} (h : sim A B) {c n : Nat} {r : Nat → Nat} : sim (Ap A c n r) (Ap B c n r) := by
  obtain ⟨⟨h0, h1, h3⟩, h2⟩ := h
  refine ⟨⟨?_, ?_, ?_⟩, fun a z1 z2 z3 => ?_⟩
  · rw [Ap_0 (by omega), Ap_0 (by omega)]; exact h0
  · rw [Ap_01, Ap_01, h1]
  · rw [Ap_0 (by omega), Ap_0 (by omega)]; exact h3
  · unfold Ap
    rw [aw_off (by omega), aw_off (by omega)]
    funext j
    unfold putw
    rw [h1, h2 a z1 z2 z3]
theorem BST_sim {A B : aS} (h : sim A B) {c b k : Nat} (hb : BST A c (Sal A) b k) : BST B c (Sal B) b k := by
  have hg : ∀ k, gC A c k = gC B c k := by
    intro k
    unfold gC gnA
    rw [tot_sim h, tot_sim (Ap_sim h)]
  have hS : ∀ k, Sal A k ↔ Sal B k := by
    intro k
    unfold Sal Spr CT agn rwf
    rw [h.1.2.1, h.1.2.2, h.2 1 (by omega) (by omega) (by omega), h.2 4 (by omega) (by omega) (by omega), h.2 8 (by omega) (by omega) (by omega), h.2 9 (by omega) (by omega) (by omega)]
  have h1 := BST_congr hS hb
  unfold BST at h1 ⊢
  simp only [hg] at h1
  exact h1

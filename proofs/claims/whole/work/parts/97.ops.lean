/-! every call: both sides answer alike -/
def CI (A : aS) (g : z_S) : Prop := CF A g ∧ ((g.1 43 1 = 0 ∨ g.1 43 1 = 1) ∧ (g.1 43 1 = 1 → 0 < A 0 1 → CK43 A g)) ∧ ((g.1 45 1 = 0 ∨ g.1 45 1 = 1) ∧ (g.1 45 1 = 1 → 0 < A 0 1 → CK45 A g))
def Op {α : Type} (fx fm : z_S → Option (α × z_S)) : Prop := ∀ (A : aS) (gx gm : z_S), I_ok A → R_X A gx → R_M A gm → CI A gx → ∃ (r : α) (gx' gm' : z_S) (A' : aS), fx gx = some (r, gx') ∧ fm gm = some (r, gm') ∧ I_ok A' ∧ R_X A' gx' ∧ R_M A' gm' ∧ CI A' gx'
theorem CI.cs {A A' : aS} {g g' : z_S} (h : CI A g) (hc : Cs A A' g g') : CI A' g' := by
  rcases hc with ⟨a1, a2, a3⟩ | ⟨⟨c1, c2, c3, c4⟩, ⟨c5, c6, c7⟩, ⟨s0, s1, s3⟩, s9⟩
  · refine ⟨Or.inl a3, ⟨Or.inl a1, fun q => ?_⟩, ⟨Or.inl a2, fun q => ?_⟩⟩
    · rw [a1] at q; exact absurd q (by decide)
    · rw [a2] at q; exact absurd q (by decide)
  · obtain ⟨h1, ⟨h2, h3⟩, ⟨h4, h5⟩⟩ := h
    have hs : sim A A' := ⟨⟨s0.symm, s1.symm, s3.symm⟩, fun c z1 z2 z3 => (s9 c z1 z2 z3).symm⟩
    have e1 : A' 1 = A 1 := s9 1 (by omega) (by omega) (by omega)
    have e4 : A' 4 = A 4 := s9 4 (by omega) (by omega) (by omega)
    refine ⟨?_, ⟨by rw [c1]; exact h2, fun q z => ?_⟩, ⟨by rw [c3]; exact h4, fun q z => ?_⟩⟩
    · rcases h1 with h1 | ⟨c, b, k, k1, k2, ⟨k3, k4, k5⟩, k6⟩
      · exact Or.inl (c5.trans h1)
      · exact Or.inr ⟨c, b, k, k1, c5.trans k2, ⟨c6.trans k3, c7.trans k4, k5⟩, BST_sim hs k6⟩
    · rw [c1] at q
      rw [s1] at z
      have := h3 q z
      unfold CK43 at *
      rw [c1, c2, s0, s1, e1, e4]
      exact this
    · rw [c3] at q
      rw [s1] at z
      have := h5 q z
      unfold CK45 at *
      rw [c3, c4, s0, s1, e1, e4]
      exact this
theorem Op.of {α : Type} {fx fm : z_S → Option (α × z_S)} (h : Op0 fx fm) : Op fx fm := by
  intro A gx gm hA hX hM hC
  obtain ⟨r, gx', gm', A', h1, h2, h3, h4, h5, h6⟩ := h A gx gm hA hX hM
  exact ⟨r, gx', gm', A', h1, h2, h3, h4, h5, hC.cs h6⟩
theorem op_key (v : Int32) : Op (fX10_key v) (fX11_key v) := by
  intro A gx gm hA hX hM hC
  obtain ⟨h1, ⟨h2, h3⟩, ⟨h4, h5⟩⟩ := hC
  obtain ⟨⟨r, g1⟩, e1, k1, k2, k3, k4⟩ := x_part43 hA hX hX.2.2.2.2.2.2.2.1 h2 h3 v
  obtain ⟨⟨r', g2⟩, e2, q1, q2⟩ := m_key hA hM v
  simp only [] at k1 k2 k3 k4 q1 q2
  refine ⟨r, g1, g2, A, ?_, ?_, hA, k2.X hA hX, q2, ?_, ⟨k3, k4⟩, ?_, ?_⟩
  · unfold fX10_key; rw [e1]; rfl
  · rw [e2, q1, k1]
  · rcases h1 with h1 | ⟨c, b, k, y1, y2, ⟨y3, y4, y5⟩, y6⟩
    · exact Or.inl (by rw [k2.1 26 (by omega)]; exact h1)
    · exact Or.inr ⟨c, b, k, y1, by rw [k2.1 26 (by omega)]; exact y2, ⟨by rw [k2.1 26 (by omega)]; exact y3, by rw [k2.1 26 (by omega)]; exact y4, y5⟩, y6⟩
  · rw [k2.1 45 (by omega)]; exact h4
  · intro q z
    rw [k2.1 45 (by omega)] at q
    have := h5 q z
    unfold CK45 at *
    rw [k2.1 45 (by omega), k2.1 46 (by omega)]
    exact this
theorem op_strange (v : Int32) : Op (fX10_strange v) (fX11_strange v) := by
  intro A gx gm hA hX hM hC
  obtain ⟨h1, ⟨h2, h3⟩, ⟨h4, h5⟩⟩ := hC
  obtain ⟨⟨r, g1⟩, e1, k1, k2, k3, k4⟩ := x_part45 hA hX hX.2.2.2.2.2.2.2.2.1 h4 h5 v
  obtain ⟨⟨r', g2⟩, e2, q1, q2⟩ := m_strange hA hM v
  simp only [] at k1 k2 k3 k4 q1 q2
  refine ⟨r, g1, g2, A, ?_, ?_, hA, k2.X hA hX, q2, ?_, ⟨?_, ?_⟩, k3, k4⟩
  · unfold fX10_strange; rw [e1]; rfl
  · rw [e2, q1, k1]
  · rcases h1 with h1 | ⟨c, b, k, y1, y2, ⟨y3, y4, y5⟩, y6⟩
    · exact Or.inl (by rw [k2.1 26 (by omega)]; exact h1)
    · exact Or.inr ⟨c, b, k, y1, by rw [k2.1 26 (by omega)]; exact y2, ⟨by rw [k2.1 26 (by omega)]; exact y3, by rw [k2.1 26 (by omega)]; exact y4, y5⟩, y6⟩
  · rw [k2.1 43 (by omega)]; exact h2
  · intro q z
    rw [k2.1 43 (by omega)] at q
    have := h3 q z
    unfold CK43 at *
    rw [k2.1 43 (by omega), k2.1 44 (by omega)]
    exact this
theorem op_fresh (c v : Int32) : Op (fX10_fresh c v) (fX11_fresh c v) := by
  intro A gx gm hA hX hM hC
  obtain ⟨h1, ⟨h2, h3⟩, ⟨h4, h5⟩⟩ := id hC
  rcases x_fresh hA hX h1 c v with ⟨c', y1, rfl, y3, y4, ⟨⟨r, g1⟩, e1, k1, k2, k3, b, k, k4, k5⟩⟩ | ⟨y1, y2⟩ | ⟨y1, y2, y3, y4⟩
  · obtain ⟨⟨r', g2⟩, e2, q1, b', k', q2, q3⟩ := m_fresh hA hM y4 y1 y3
    simp only [] at k1 k2 k3 k5 q1 q3
    refine ⟨r, g1, g2, A, e1, ?_, hA, k1, q1, k3, ⟨?_, ?_⟩, ?_, ?_⟩
    · rw [e2, q3, k5, ansF_eq (BST_uniq k4 q2)]
    · rw [k2 43 (by omega) (by omega)]; exact h2
    · intro q z
      rw [k2 43 (by omega) (by omega)] at q
      have := h3 q z
      unfold CK43 at *
      rw [k2 43 (by omega) (by omega), k2 44 (by omega) (by omega)]
      exact this
    · rw [k2 45 (by omega) (by omega)]; exact h4
    · intro q z
      rw [k2 45 (by omega) (by omega)] at q
      have := h5 q z
      unfold CK45 at *
      rw [k2 45 (by omega) (by omega), k2 46 (by omega) (by omega)]
      exact this
  · exact ⟨-1002, gx, gm, A, y2, (m_freshO hA hM c v).1 y1, hA, hX, hM, hC⟩
  · exact ⟨-1003, gx, gm, A, y4, (m_freshO hA hM c v).2 y1 y2 y3, hA, hX, hM, hC⟩

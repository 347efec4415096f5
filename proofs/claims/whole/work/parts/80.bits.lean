/-! sets of places as two longs -/
def bt (a b : Int64) (k : Nat) : Bool := if k < 64 then a.toBitVec.getLsbD k else b.toBitVec.getLsbD (k - 64)
theorem bt_lo {a b : Int64} {k : Nat} (h : k < 64) : bt a b k = a.toBitVec.getLsbD k := if_pos h
theorem bt_hi {a b : Int64} {k : Nat} (h : 64 ≤ k) : bt a b k = b.toBitVec.getLsbD (k - 64) := if_neg (by omega)
theorem bt_ext {a b a' b' : Int64} (h : ∀ k, k < 128 → bt a b k = bt a' b' k) : a = a' ∧ b = b' := by
  constructor
  · apply Int64.toBitVec_inj.mp
    apply BitVec.eq_of_getLsbD_eq
    intro i hi
    have := h i (by omega)
    rwa [bt_lo hi, bt_lo hi] at this
  · apply Int64.toBitVec_inj.mp
    apply BitVec.eq_of_getLsbD_eq
    intro i hi
    have := h (i + 64) (by omega)
    rwa [bt_hi (by omega), bt_hi (by omega), Nat.add_sub_cancel] at this
theorem bt_and {a b a' b' : Int64} {k : Nat} : bt (a &&& a') (b &&& b') k = (bt a b k && bt a' b' k) := by
  unfold bt
  split
  · rw [Int64.toBitVec_and, BitVec.getLsbD_and]
  · rw [Int64.toBitVec_and, BitVec.getLsbD_and]
theorem bt_or {a b a' b' : Int64} {k : Nat} : bt (a ||| a') (b ||| b') k = (bt a b k || bt a' b' k) := by
  unfold bt
  split
  · rw [Int64.toBitVec_or, BitVec.getLsbD_or]
  · rw [Int64.toBitVec_or, BitVec.getLsbD_or]
theorem bt_not {a b : Int64} {k : Nat} (hk : k < 128) : bt (a ^^^ (-1)) (b ^^^ (-1)) k = !bt a b k := by
  have e : (-1 : Int64).toBitVec = BitVec.allOnes 64 := by decide
  unfold bt
  split
  · rename_i h
    rw [Int64.toBitVec_xor, BitVec.getLsbD_xor, e, BitVec.getLsbD_allOnes, decide_eq_true h, Bool.xor_true]
  · rw [Int64.toBitVec_xor, BitVec.getLsbD_xor, e, BitVec.getLsbD_allOnes, decide_eq_true (show k - 64 < 64 by omega), Bool.xor_true]
theorem bt_0 {k : Nat} : bt 0 0 k = false := by
  have e : (0 : Int64).toBitVec = 0#64 := rfl
  unfold bt
  split <;> rw [e, BitVec.getLsbD_zero]
theorem bt_z {a b : Int64} : (a = 0 ∧ b = 0) ↔ ∀ k, k < 128 → bt a b k = false := by
  constructor
  · rintro ⟨rfl, rfl⟩ k _
    exact bt_0
  · intro h
    exact bt_ext (fun k hk => by rw [h k hk, bt_0])
theorem s1 {x : Int64} : (x <<< ((1 : Int32).toInt64 &&& 63)).toBitVec = x.toBitVec <<< 1 := by
  rw [Int64.toBitVec_shiftLeft]
  have e : (((1 : Int32).toInt64 &&& 63).toBitVec.smod 64) = BitVec.ofNat 64 1 := by decide
  rw [e, BitVec.shiftLeft_eq']
  rfl
theorem u63 {x : Int64} : ((x.toUInt64 >>> ((63 : Int32).toInt64.toUInt64 &&& Int64.toUInt64 63)).toInt64).toBitVec = x.toBitVec >>> 63 := by
  show (x.toUInt64 >>> ((63 : Int32).toInt64.toUInt64 &&& Int64.toUInt64 63)).toBitVec = _
  rw [UInt64.toBitVec_shiftRight]
  have e : (((63 : Int32).toInt64.toUInt64 &&& Int64.toUInt64 63).toBitVec % 64) = BitVec.ofNat 64 63 := by decide
  rw [e]
  apply BitVec.eq_of_toNat_eq
  show x.toBitVec.toNat >>> (BitVec.ofNat 64 63).toNat = (x.toBitVec >>> 63).toNat
  rw [BitVec.toNat_ushiftRight]
  rfl
theorem bt_sh {a b : Int64} {k : Nat} (hk : k < 128) : bt (a <<< ((1 : Int32).toInt64 &&& 63)) ((b <<< ((1 : Int32).toInt64 &&& 63)) ||| ((a.toUInt64 >>> ((63 : Int32).toInt64.toUInt64 &&& Int64.toUInt64 63)).toInt64)) k = (decide (1 ≤ k) && bt a b (k - 1)) := by
  by_cases h : k < 64
  · rw [bt_lo h, s1, BitVec.getLsbD_shiftLeft, bt_lo (by omega)]
    by_cases h0 : k < 1
    · simp [h0, h, show ¬ 1 ≤ k by omega]
    · simp [h0, h, show 1 ≤ k by omega]
  · rw [bt_hi (by omega), Int64.toBitVec_or, s1, u63, BitVec.getLsbD_or, BitVec.getLsbD_shiftLeft, BitVec.getLsbD_ushiftRight]
    by_cases h64 : k = 64
    · subst h64
      rw [bt_lo (by omega)]
      simp
    · rw [bt_hi (by omega)]
      have h1 : a.toBitVec.getLsbD (63 + (k - 64)) = false := BitVec.getLsbD_of_ge _ _ (by omega)
      rw [h1]
      simp [show k - 64 < 64 by omega, show ¬ k - 64 < 1 by omega, show 1 ≤ k by omega, show k - 64 - 1 = k - 1 - 64 by omega]
theorem one_sh {j : Nat} (hj : j < 64) : ((1 : Int64) <<< ((nI j).toInt64 &&& 63)).toBitVec = BitVec.ofNat 64 (2 ^ j) := by
  have : ∀ j, j < 64 → ((1 : Int64) <<< ((nI j).toInt64 &&& 63)).toBitVec = BitVec.ofNat 64 (2 ^ j) := by decide +kernel
  exact this j hj
theorem one_bt {j k : Nat} (hj : j < 64) (hk : k < 64) : (BitVec.ofNat 64 (2 ^ j)).getLsbD k = decide (k = j) := by
  rw [BitVec.getLsbD_ofNat, Nat.testBit_two_pow]
  simp [hk, eq_comm]
theorem bt_one_lo {j k : Nat} (hj : j < 64) (hk : k < 128) : bt ((1 : Int64) <<< ((nI j).toInt64 &&& 63)) 0 k = decide (k = j) := by
  by_cases h : k < 64
  · rw [bt_lo h, one_sh hj, one_bt hj h]
  · have e : (0 : Int64).toBitVec = 0#64 := rfl
    rw [bt_hi (by omega), e, BitVec.getLsbD_zero]
    simp; omega
theorem bt_one_hi {j k : Nat} (hj : j < 64) (hk : k < 128) : bt 0 ((1 : Int64) <<< ((nI j).toInt64 &&& 63)) k = decide (k = j + 64) := by
  by_cases h : k < 64
  · have e : (0 : Int64).toBitVec = 0#64 := rfl
    rw [bt_lo h, e, BitVec.getLsbD_zero]
    simp; omega
  · rw [bt_hi (by omega), one_sh hj, one_bt hj (by omega)]
    simp; omega
/-- places -/
def ix (w i : Nat) : Nat := if i = 0 then 0 else 8 * w + i
abbrev Stt : Type := Nat → Prop
def CR (n : Nat) (L : Nat → Nat) (p : Stt) (a b : Int64) : Prop := ∀ k, k < 128 → (bt a b k = true ↔ ∃ w i, w < n ∧ i < L w ∧ sm L w + i = k ∧ p (ix w i))
def NR (p : Stt) (a b : Int64) : Prop := ∀ k, k < 128 → (bt a b k = true ↔ p k)
def Vd (n : Nat) (L : Nat → Nat) (p : Stt) : Prop := ∀ j, p j → j = 0 ∨ ∃ w i, w < n ∧ 1 ≤ i ∧ i < L w ∧ j = 8 * w + i
/-- what is held of the words: at most 16, of 1 to 8 letters -/
def LO (n : Nat) (L : Nat → Nat) : Prop := n ≤ 16 ∧ ∀ w, w < n → 1 ≤ L w ∧ L w ≤ 8
theorem sm_mono {L : Nat → Nat} {a : Nat} : ∀ b, a ≤ b → sm L a ≤ sm L b
  | 0, h => by rw [show a = 0 by omega]; exact Nat.le_refl _
  | b + 1, h => by
    by_cases e : a = b + 1
    · subst e; exact Nat.le_refl _
    · have := sm_mono (L := L) (a := a) b (by omega)
      rw [sm]; omega
theorem sm_step {L : Nat → Nat} {a b : Nat} (h : a < b) : sm L a + L a ≤ sm L b := sm_mono (L := L) (a := a + 1) b h
theorem pl_lt {n : Nat} {L : Nat → Nat} (h : LO n L) {w i : Nat} (hw : w < n) (hi : i < L w) : sm L w + i < 128 := by
  have h1 := sm_step (L := L) hw
  have h2 := sm_le (c := 8) (f := L) n (fun i hi => (h.2 i hi).2)
  have := h.1
  omega
theorem pl_inj {n : Nat} {L : Nat → Nat} {w i w' i' : Nat} (hi : i < L w) (hi' : i' < L w') (e : sm L w + i = sm L w' + i') : w = w' ∧ i = i' := by
  rcases Nat.lt_trichotomy w w' with q | q | q
  · have := sm_step (L := L) q; omega
  · subst q; exact ⟨rfl, by omega⟩
  · have := sm_step (L := L) q; omega
theorem ix_inj {n : Nat} {L : Nat → Nat} (h : LO n L) {w i w' i' : Nat} (hw : w < n) (hw' : w' < n) (hi : i < L w) (hi' : i' < L w') (h0 : 1 ≤ i) (e : ix w i = ix w' i') : w = w' ∧ i = i' := by
  have := (h.2 w hw).2
  have := (h.2 w' hw').2
  unfold ix at e
  rw [if_neg (by omega)] at e
  split at e
  · omega
  · omega
theorem ix_lt {n : Nat} {L : Nat → Nat} (h : LO n L) {w i : Nat} (hw : w < n) (hi : i < L w) : ix w i < 128 := by
  have := (h.2 w hw).2
  have := h.1
  unfold ix
  split <;> omega
theorem Vd_128 {n : Nat} {L : Nat → Nat} (h : LO n L) {p : Stt} (hp : Vd n L p) {j : Nat} (hj : p j) : j < 128 := by
  rcases hp j hj with e | ⟨w, i, h1, h2, h3, e⟩
  · omega
  · have := (h.2 w h1).2
    have := h.1
    omega
theorem NR_inj {n : Nat} {L : Nat → Nat} (h : LO n L) {p p' : Stt} {a b a' b' : Int64} (hp : Vd n L p) (hp' : Vd n L p') (r : NR p a b) (r' : NR p' a' b') : (a = a' ∧ b = b') ↔ p = p' := by
  constructor
  · rintro ⟨rfl, rfl⟩
    funext j
    refine propext ⟨fun q => ?_, fun q => ?_⟩
    · have hj := Vd_128 h hp q
      exact (r' j hj).mp ((r j hj).mpr q)
    · have hj := Vd_128 h hp' q
      exact (r j hj).mp ((r' j hj).mpr q)
  · rintro rfl
    refine bt_ext (fun k hk => ?_)
    exact Bool.eq_iff_iff.mpr ((r k hk).trans (r' k hk).symm)
theorem CR_at {n : Nat} {L : Nat → Nat} (h : LO n L) {p : Stt} {a b : Int64} (r : CR n L p a b) {w i : Nat} (hw : w < n) (hi : i < L w) : bt a b (sm L w + i) = true ↔ p (ix w i) := by
  rw [r _ (pl_lt h hw hi)]
  constructor
  · rintro ⟨w', i', h1, h2, h3, h4⟩
    obtain ⟨rfl, rfl⟩ := pl_inj (n := n) h2 hi h3
    exact h4
  · exact fun q => ⟨w, i, hw, hi, rfl, q⟩
theorem CR_inj {n : Nat} {L : Nat → Nat} (h : LO n L) (h0 : 0 < n) {p p' : Stt} {a b a' b' : Int64} (hp : Vd n L p) (hp' : Vd n L p') (r : CR n L p a b) (r' : CR n L p' a' b') : (a = a' ∧ b = b') ↔ p = p' := by
  constructor
  · rintro ⟨rfl, rfl⟩
    have key : ∀ w i, w < n → i < L w → (p (ix w i) ↔ p' (ix w i)) := fun w i hw hi => (CR_at h r hw hi).symm.trans (CR_at h r' hw hi)
    have key0 : p 0 ↔ p' 0 := key 0 0 h0 (h.2 0 h0).1
    have keyi : ∀ w i, w < n → 1 ≤ i → i < L w → (p (8 * w + i) ↔ p' (8 * w + i)) := by
      intro w i hw h1 hi
      have := key w i hw hi
      unfold ix at this
      rwa [if_neg (by omega)] at this
    funext j
    refine propext ⟨fun q => ?_, fun q => ?_⟩
    · rcases hp j q with e | ⟨w, i, h1, h2, h3, e⟩
      · subst e; exact key0.mp q
      · subst e; exact (keyi w i h1 h2 h3).mp q
    · rcases hp' j q with e | ⟨w, i, h1, h2, h3, e⟩
      · subst e; exact key0.mpr q
      · subst e; exact (keyi w i h1 h2 h3).mpr q
  · rintro rfl
    refine bt_ext (fun k hk => ?_)
    exact Bool.eq_iff_iff.mpr ((r k hk).trans (r' k hk).symm)
/-- a letter more -/
def stp (n : Nat) (L S : Nat → Nat) (p : Stt) (c : Nat) : Stt := fun j => (j = 0 ∧ ∃ w, w < n ∧ S (8 * w + (L w - 1)) = c ∧ p (ix w (L w - 1))) ∨ ∃ w i, w < n ∧ i + 1 < L w ∧ j = 8 * w + (i + 1) ∧ S (8 * w + i) = c ∧ p (ix w i)
theorem Vd_stp {n : Nat} {L S : Nat → Nat} {p : Stt} {c : Nat} : Vd n L (stp n L S p c) := by
  rintro j (⟨h, -⟩ | ⟨w, i, h1, h2, h3, -⟩)
  · exact Or.inl h
  · exact Or.inr ⟨w, i + 1, h1, by omega, h2, h3⟩
def pEnd : Stt := fun j => j = 0
def pNon : Stt := fun _ => False
def pAll (n : Nat) (L : Nat → Nat) : Stt := fun j => j = 0 ∨ ∃ w i, w < n ∧ 1 ≤ i ∧ i < L w ∧ j = 8 * w + i
theorem Vd_end {n : Nat} {L : Nat → Nat} : Vd n L pEnd := fun j h => Or.inl h
theorem Vd_non {n : Nat} {L : Nat → Nat} : Vd n L pNon := fun j h => absurd h (fun q => q)
theorem Vd_all {n : Nat} {L : Nat → Nat} : Vd n L (pAll n L) := fun j h => h
theorem NR_end : NR pEnd 1 0 := by
  intro k hk
  have := bt_one_lo (j := 0) (k := k) (by omega) hk
  have e : (1 : Int64) <<< ((nI 0).toInt64 &&& 63) = 1 := by decide
  rw [e] at this
  rw [this]
  exact decide_eq_true_iff
theorem NR_non : NR pNon 0 0 := by
  intro k hk
  rw [bt_0]
  exact ⟨fun q => by simp at q, fun q => absurd q (fun z => z)⟩
theorem CR_non {n : Nat} {L : Nat → Nat} : CR n L pNon 0 0 := by
  intro k hk
  rw [bt_0]
  exact ⟨fun q => by simp at q, fun ⟨w, i, _, _, _, q⟩ => absurd q (fun z => z)⟩

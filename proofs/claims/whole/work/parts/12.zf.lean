/-! words of the functions that the bytecode is turned into -/
def zN : Nat := 1000000
def z_loop {α β : Type} (body : (α → z_S → Option β) → α → z_S → Option β) : Nat → α → z_S → Option β
  | 0 => fun _ _ => none
  | n + 1 => fun a g => body (z_loop body n) a g
def z_g {β : Type} (b : Bool) (x : Option β) : Option β := match b with
  | true => x
  | false => none
def z_s {β : Type} (a : z_S) (f : z_S → Option β) : Option β := f a
def z_b {α β : Type} (x : Option (α × z_S)) (f : α → z_S → Option β) : Option β := match x with
  | some q => f q.1 q.2
  | none => none
def z_in (i : Int32) (n : Nat) : Bool := decide (0 ≤ i.toInt ∧ i.toInt < n)
theorem z_loop_0 {α β : Type} {body : (α → z_S → Option β) → α → z_S → Option β} {a : α} {g : z_S} {q : β} (h : z_loop body 0 a g = some q) : False := by cases h
theorem z_loop_S {α β : Type} {body : (α → z_S → Option β) → α → z_S → Option β} {n : Nat} {a : α} {g : z_S} {q : β} (h : z_loop body (n + 1) a g = some q) : body (z_loop body n) a g = some q := h
theorem z_g_some {β : Type} {b : Bool} {x : Option β} {q : β} (h : z_g b x = some q) : b = true ∧ x = some q := by
  cases b
  · cases h
  · exact ⟨rfl, h⟩
theorem z_s_some {β : Type} {a : z_S} {f : z_S → Option β} {q : β} (h : z_s a f = some q) : ∃ g, g = a ∧ f g = some q := ⟨a, rfl, h⟩
theorem z_b_some {α β : Type} {x : Option (α × z_S)} {f : α → z_S → Option β} {q : β} (h : z_b x f = some q) : ∃ r g, x = some (r, g) ∧ f r g = some q := by
  cases x with
  | none => cases h
  | some p => exact ⟨p.1, p.2, rfl, h⟩
theorem z_it {β : Type} {c : Prop} {d : Decidable c} {x y : Option β} {q : β} (hc : c) (h : (if c then x else y) = some q) : x = some q := by rwa [if_pos hc] at h
theorem z_if {β : Type} {c : Prop} {d : Decidable c} {x y : Option β} {q : β} (hc : ¬ c) (h : (if c then x else y) = some q) : y = some q := by rwa [if_neg hc] at h
theorem z_in_vp {i : Int32} {n : Nat} (h : z_in i n = true) : vp_in i n := vp_in_iff.mpr (of_decide_eq_true h)
theorem z_ret1i {x r : Int32} {g gE : z_S} (h : some (x, g) = some (r, gE)) : some (Value.int x) = some (.int r) := by cases h; rfl
theorem z_ret1l {x r : Int64} {g gE : z_S} (h : some (x, g) = some (r, gE)) : some (Value.long x) = some (.long r) := by cases h; rfl
theorem z_ret2 {α : Type} {x r : α} {g gE : z_S} (h : some (x, g) = some (r, gE)) : g = gE := by cases h; rfl
theorem z_incl {n : Int} {x k : Int32} (h : Int32.ofInt n = k) : x + Int32.ofInt n = x + k := by rw [h]
theorem z_in_ws (l : List Cond) (ps : List Nat) (hp : l = ps.filterMap (fun i => lw_tbl[i]?)) (h : l.all goodWord = true) : ∀ w ∈ l, w ∈ z_T := by
  intro w hw
  have h1 := List.all_eq_true.mp h w hw
  rw [hp] at hw
  obtain ⟨i, -, hi⟩ := List.mem_filterMap.mp hw
  exact z_T_in (List.mem_of_getElem? hi) h1
theorem z_held {i : Int32} (h : z_in i 4 = true) : [34, 36, 38, 40][i.toNatClampNeg]? = some (34 + 2 * i.toNatClampNeg) := by
  have h1 := of_decide_eq_true h
  have h2 : i.toNatClampNeg < 4 := by
    have : i.toNatClampNeg = i.toInt.toNat := rfl
    omega
  rcases (show i.toNatClampNeg = 0 ∨ i.toNatClampNeg = 1 ∨ i.toNatClampNeg = 2 ∨ i.toNatClampNeg = 3 by omega) with q | q | q | q <;> rw [q] <;> rfl
theorem z_tabne {lw hi : Int} {x : Int32} (vs : List Int32) (h1 : vs = (List.range vs.length).map (fun j : Nat => Int32.ofInt (lw + (j : Int)))) (h2 : hi + 1 = lw + vs.length) (hne : ∀ v ∈ vs, ¬ x = v) : x.toInt < lw ∨ hi < x.toInt := by
  rcases (show x.toInt < lw ∨ lw ≤ x.toInt by omega) with h | h
  · exact Or.inl h
  · rcases (show hi < x.toInt ∨ x.toInt ≤ hi by omega) with h' | h'
    · exact Or.inr h'
    · exfalso
      have hj : (x.toInt - lw).toNat < vs.length := by omega
      have hm : Int32.ofInt (lw + ((x.toInt - lw).toNat : Nat)) ∈ vs := by
        rw [h1]
        refine List.mem_map.mpr ⟨(x.toInt - lw).toNat, List.mem_range.mpr (by simpa using hj), rfl⟩
      refine hne _ hm ?_
      have : lw + ((x.toInt - lw).toNat : Nat) = x.toInt := by omega
      rw [this, Int32.ofInt_toInt]
section ZR2
variable {F : z_F} {L : Nat → z_C} {N : Nat} {ad : Nat → Nat} {cc : ByteArray} {own : String} {nl : Nat} {ret : Option FieldType} {fr lo : Nat} {rv : Option Value} {gE : z_S} {pc : Nat} {lv lv' : List (Nat × Value)} {st : List Value} {g : z_S}
theorem z_gw {g1 g0 : z_S} (e : g1 = g0) (K : z_W F L N ad pc lv st g1) : z_W F L N ad pc lv st g0 := e ▸ K
theorem z_ifnn {o : Nat} {off : Int} (tgt : Nat) (C : z_X F L N ad cc own nl ret fr lo rv gE) (hd : decode cc pc = .ok (.ifnonnull off, 3)) (ht : (pc : Int) + off = (tgt : Int)) (K : z_W F L N ad tgt lv st g) : z_W F L N ad pc lv (.ref (ad o) :: st) g := by
  obtain ⟨p, l, e, R, s, m, args, below, meth, c, nL, D, cy, A, Q⟩ := F
  obtain ⟨hnl, ⟨hx, hb, hml, hown, hts⟩, hK, hr, hlk, hN, hA, hR, hQ⟩ := C
  subst hnl
  exact fun H locs ls h1 h2 h3 h4 => lv_ifnonnull hx hb hd ht (K H locs ls h1 h2 h3 h4)
theorem z_aret {o : Nat} {nm : String} (C : z_X F L N ad cc own nl (some (.object nm)) fr lo rv gE) (hv : some (.ref (ad o)) = rv) (hg : g = gE) (hd : decode cc pc = .ok (.areturn, 1)) : z_W F L N ad pc lv [.ref (ad o)] g := by
  subst hg
  obtain ⟨p, l, e, R, s, m, args, below, meth, c, nL, D, cy, A, Q⟩ := F
  obtain ⟨hnl, ⟨hx, hb, hml, hown, hts⟩, hK, hr, hlk, hN, hA, hR, hQ⟩ := C
  subst hnl
  subst hQ
  subst hv
  intro H locs ls h1 h2 h3 h4
  exact W.aret hx hb hr (Or.inl ⟨_, rfl⟩) (Or.inr ⟨_, rfl⟩) (fun t ht hW => ⟨⟨rfl, by rw [ht]; exact h2, va_K.moved hW.alike hK, h3⟩, h4.F ht⟩) h4.2.2 hd hlk
theorem z_callVi {index n : Nat} {o : Nat} {r : Int32} {y : MethodName} {cc' : ByteArray} {nL' fr' lo' : Nat} {ret' : Option FieldType} {As : List Value} {g1 : z_S} {stk : List Value} (rest : List Value) (C : z_X F L N ad cc own nl ret fr lo rv gE) (hw : z_CV own index y cc' nL' ret' n) (ho : z_ok L N o y.cls) (hn : As.length = n) (hrm : fr' + 1 ≤ fr ∧ 8 + (nL' + 11) + lo' ≤ lo) (hst : (rest.map fun v => v.category).sum ≤ 8) (hd : decode cc pc = .ok (.invokevirtual index, 3)) (hs : stk = As.reverse ++ .ref (ad o) :: rest) (M : z_M y cc' nL' ret' fr' lo' L N ad (.ref (ad o) :: As) g (some (.int r)) g1) (K : z_W F L N ad (pc + 3) lv (.int r :: rest) g1) : z_W F L N ad pc lv stk g := z_callV rest C hw ho hn hrm hst hd hs M K
theorem z_callVl {index n : Nat} {o : Nat} {r : Int64} {y : MethodName} {cc' : ByteArray} {nL' fr' lo' : Nat} {ret' : Option FieldType} {As : List Value} {g1 : z_S} {stk : List Value} (rest : List Value) (C : z_X F L N ad cc own nl ret fr lo rv gE) (hw : z_CV own index y cc' nL' ret' n) (ho : z_ok L N o y.cls) (hn : As.length = n) (hrm : fr' + 1 ≤ fr ∧ 8 + (nL' + 11) + lo' ≤ lo) (hst : (rest.map fun v => v.category).sum ≤ 8) (hd : decode cc pc = .ok (.invokevirtual index, 3)) (hs : stk = As.reverse ++ .ref (ad o) :: rest) (M : z_M y cc' nL' ret' fr' lo' L N ad (.ref (ad o) :: As) g (some (.long r)) g1) (K : z_W F L N ad (pc + 3) lv (.long r :: rest) g1) : z_W F L N ad pc lv stk g := z_callV rest C hw ho hn hrm hst hd hs M K
theorem z_callVv {index n : Nat} {o : Nat} {y : MethodName} {cc' : ByteArray} {nL' fr' lo' : Nat} {ret' : Option FieldType} {As : List Value} {g1 : z_S} {stk : List Value} (rest : List Value) (C : z_X F L N ad cc own nl ret fr lo rv gE) (hw : z_CV own index y cc' nL' ret' n) (ho : z_ok L N o y.cls) (hn : As.length = n) (hrm : fr' + 1 ≤ fr ∧ 8 + (nL' + 11) + lo' ≤ lo) (hst : (rest.map fun v => v.category).sum ≤ 8) (hd : decode cc pc = .ok (.invokevirtual index, 3)) (hs : stk = As.reverse ++ .ref (ad o) :: rest) (M : z_M y cc' nL' ret' fr' lo' L N ad (.ref (ad o) :: As) g none g1) (K : z_W F L N ad (pc + 3) lv (rest) g1) : z_W F L N ad pc lv stk g := z_callV rest C hw ho hn hrm hst hd hs M K
theorem z_callSi {index n : Nat} {r : Int32} {y : MethodName} {cc' : ByteArray} {nL' fr' lo' : Nat} {ret' : Option FieldType} {As : List Value} {g1 : z_S} {stk : List Value} (rest : List Value) (C : z_X F L N ad cc own nl ret fr lo rv gE) (hw : z_CS own index y cc' nL' ret' n) (hn : As.length = n) (hrm : fr' + 1 ≤ fr ∧ 8 + (nL' + 11) + lo' ≤ lo) (hst : (rest.map fun v => v.category).sum ≤ 8) (hd : decode cc pc = .ok (.invokestatic index, 3)) (hs : stk = As.reverse ++ rest) (M : z_M y cc' nL' ret' fr' lo' L N ad As g (some (.int r)) g1) (K : z_W F L N ad (pc + 3) lv (.int r :: rest) g1) : z_W F L N ad pc lv stk g := z_callS rest C hw hn hrm hst hd hs M K
theorem z_callSl {index n : Nat} {r : Int64} {y : MethodName} {cc' : ByteArray} {nL' fr' lo' : Nat} {ret' : Option FieldType} {As : List Value} {g1 : z_S} {stk : List Value} (rest : List Value) (C : z_X F L N ad cc own nl ret fr lo rv gE) (hw : z_CS own index y cc' nL' ret' n) (hn : As.length = n) (hrm : fr' + 1 ≤ fr ∧ 8 + (nL' + 11) + lo' ≤ lo) (hst : (rest.map fun v => v.category).sum ≤ 8) (hd : decode cc pc = .ok (.invokestatic index, 3)) (hs : stk = As.reverse ++ rest) (M : z_M y cc' nL' ret' fr' lo' L N ad As g (some (.long r)) g1) (K : z_W F L N ad (pc + 3) lv (.long r :: rest) g1) : z_W F L N ad pc lv stk g := z_callS rest C hw hn hrm hst hd hs M K
theorem z_callSv {index n : Nat} {y : MethodName} {cc' : ByteArray} {nL' fr' lo' : Nat} {ret' : Option FieldType} {As : List Value} {g1 : z_S} {stk : List Value} (rest : List Value) (C : z_X F L N ad cc own nl ret fr lo rv gE) (hw : z_CS own index y cc' nL' ret' n) (hn : As.length = n) (hrm : fr' + 1 ≤ fr ∧ 8 + (nL' + 11) + lo' ≤ lo) (hst : (rest.map fun v => v.category).sum ≤ 8) (hd : decode cc pc = .ok (.invokestatic index, 3)) (hs : stk = As.reverse ++ rest) (M : z_M y cc' nL' ret' fr' lo' L N ad As g none g1) (K : z_W F L N ad (pc + 3) lv (rest) g1) : z_W F L N ad pc lv stk g := z_callS rest C hw hn hrm hst hd hs M K
theorem z_callNi {index n : Nat} {r : Int32} {y : MethodName} {cc' : ByteArray} {nL' fr' lo' : Nat} {ret' : Option FieldType} {As : List Value} {g1 : z_S} {stk : List Value} (rest : List Value) (C : z_X F L N ad cc own nl ret fr lo rv gE) (hw : z_CN own index y cc' nL' ret' n) (hn : As.length = n) (hrm : fr' + 1 ≤ fr ∧ 8 + (nL' + 11) + lo' ≤ lo) (hst : (rest.map fun v => v.category).sum ≤ 8) (hd : decode cc pc = .ok (.invokestatic index, 3)) (hs : stk = As.reverse ++ rest) (M : z_M y cc' nL' ret' fr' lo' L N ad As g (some (.int r)) g1) (K : z_W F L N ad (pc + 3) lv (.int r :: rest) g1) : z_W F L N ad pc lv stk g := z_callN rest C hw hn hrm hst hd hs M K
theorem z_callNl {index n : Nat} {r : Int64} {y : MethodName} {cc' : ByteArray} {nL' fr' lo' : Nat} {ret' : Option FieldType} {As : List Value} {g1 : z_S} {stk : List Value} (rest : List Value) (C : z_X F L N ad cc own nl ret fr lo rv gE) (hw : z_CN own index y cc' nL' ret' n) (hn : As.length = n) (hrm : fr' + 1 ≤ fr ∧ 8 + (nL' + 11) + lo' ≤ lo) (hst : (rest.map fun v => v.category).sum ≤ 8) (hd : decode cc pc = .ok (.invokestatic index, 3)) (hs : stk = As.reverse ++ rest) (M : z_M y cc' nL' ret' fr' lo' L N ad As g (some (.long r)) g1) (K : z_W F L N ad (pc + 3) lv (.long r :: rest) g1) : z_W F L N ad pc lv stk g := z_callN rest C hw hn hrm hst hd hs M K
theorem z_callNv {index n : Nat} {y : MethodName} {cc' : ByteArray} {nL' fr' lo' : Nat} {ret' : Option FieldType} {As : List Value} {g1 : z_S} {stk : List Value} (rest : List Value) (C : z_X F L N ad cc own nl ret fr lo rv gE) (hw : z_CN own index y cc' nL' ret' n) (hn : As.length = n) (hrm : fr' + 1 ≤ fr ∧ 8 + (nL' + 11) + lo' ≤ lo) (hst : (rest.map fun v => v.category).sum ≤ 8) (hd : decode cc pc = .ok (.invokestatic index, 3)) (hs : stk = As.reverse ++ rest) (M : z_M y cc' nL' ret' fr' lo' L N ad As g none g1) (K : z_W F L N ad (pc + 3) lv (rest) g1) : z_W F L N ad pc lv stk g := z_callN rest C hw hn hrm hst hd hs M K
end ZR2

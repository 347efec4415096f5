/-! THE MAKERS' LAYER: y_W, the machine in any world (a list of cells), kC cells and kS slots made so far. The plain rules are those of part 10. -/
def y_N (U : State) : Prop := z_N U ∧ va_Nw (.methodLinkNest RX10 18 yX9_init "RunTogether") U ∧ va_Nw (.methodLinkNest RX0 11 yX9_init "RunTogether") U ∧ va_Nw (.methodLinkNest RX1 45 yX4_init "RunTogether") U ∧ va_AO "RunTogether$Row" U
theorem y_N.warm {s U : State} (hW : s.WarmedH U.vm) (h : y_N s) : y_N U := ⟨z_N.warm hW h.1, va_Nw.warmM hW h.2.1, va_Nw.warmM hW h.2.2.1, va_Nw.warmM hW h.2.2.2.1, va_AO.moved hW.alike h.2.2.2.2⟩
theorem y_N.same {s U : State} (hv : s.vm = U.vm) (h : y_N s) : y_N U := ⟨z_N.same hv h.1, va_Nw.same rfl hv h.2.1, va_Nw.same rfl hv h.2.2.1, va_Nw.same rfl hv h.2.2.2.1, va_AO.moved (hv ▸ Vm.Alike.refl s.vm) h.2.2.2.2⟩
def y_W (F : z_F) (kC kS pc : Nat) (lv : List (Nat × Value)) (st : List Value) (ws : va_W) : Prop := match F with
  | (p, l, e, R, s, m, args, below, meth, c, nL, D, cy, A, Q) => ∀ (H : Heap) (locs : List Loc) (ls : Array Slot), lv_has ls nL lv → va_P D vwCl ws H → va_D A ws → va_S A s.heap H locs →
    W p l e R s m args below meth c H locs kC kS Q (F0 m pc ls st)
def y_X (F : z_F) (cc : ByteArray) (own : String) (nl : Nat) (ret : Option FieldType) (R0 : Room) (cy : Nat → ClassId) : Prop := match F with
  | (p, _, _, R, s, m, args, below, meth, c, nL, D, cy0, A, Q) => nL = nl ∧ cy0 = cy ∧ CallFix p m c cc nL s args (z_T) own ∧ va_K D vwCl (z_tys cy) s ∧ meth.sig.returnType = ret ∧ meth.locks = false ∧ y_N s ∧ (∀ q, s.heap.size ≤ q → A q) ∧ R = R0
/-- it is a maker's body -/
def y_ini (F : z_F) : Prop := match F with
  | (_, _, _, _, _, _, _, _, meth, _, _, _, _, _, _) => meth.name = "<init>"
/-- a method's end: answer and world meet B -/
def y_Q (D : va_G) (cy : Nat → ClassId) (A : Nat → Prop) (B : Option Value → va_W → Prop) : Array Value → State → Outcome → State → Prop := fun _ st oc t =>
  (∃ (rv : Option Value) (w : va_W), oc = .returned rv ∧ B rv w ∧ va_P D vwCl w t.heap ∧ va_K D vwCl (z_tys cy) t ∧ va_D A w) ∧ va_F A st t
def y_E (F : z_F) (mc ms : Nat) (B : Option Value → va_W → Prop) : Prop := match F with
  | (_, _, _, _, s, _, args, below, _, _, _, D, cy, A, Q) => Q = MQ below (y_Q D cy A B) args s mc ms A
/-- a method's contract that makes cells: from the world w0 with these arguments; B: what its answer and its world may be -/
def y_M (y : MethodName) (cc : ByteArray) (nL : Nat) (ret : Option FieldType) (fr lo mc ms : Nat) (as : List Value) (w0 : (Nat → ClassId) → va_W) (B : (Nat → ClassId) → Option Value → va_W → Prop) : Prop :=
  ∀ (l : Launch) (D : va_G) (cy : Nat → ClassId) (sz : Nat), Met l y (.code y cc nL ret :: z_T) { frames := fr, cells := mc, slots := ms, locals := lo }
    (va_Pc as (fun U => U.heap.size = sz ∧ va_P D vwCl (w0 cy) U.heap ∧ va_K D vwCl (z_tys cy) U ∧ va_D (fun _ => True) (w0 cy) ∧ y_N U))
    (y_Q D cy (va_A (w0 cy) sz) (B cy)) mc ms (va_A (w0 cy) sz)
theorem y_enter {y : MethodName} {cc : ByteArray} {nL : Nat} {ret : Option FieldType} {fr lo mc ms : Nat} {as : List Value} {w0 : (Nat → ClassId) → va_W} {B : (Nat → ClassId) → Option Value → va_W → Prop}
    (hy : plainName y.cls = true) (hlen : (lg_sl as).length ≤ nL) (body : ∀ (F : z_F) (cy : Nat → ClassId), y_X F cc y.cls nL ret { frames := fr, cells := mc, slots := ms, locals := lo } cy → (y.name = "<init>" → y_ini F) → y_E F mc ms (B cy) → y_W F 0 0 0 (lv_args 0 as) [] (w0 cy)) : y_M y cc nL ret fr lo mc ms as w0 B := by
  intro l D cy sz
  refine Met.ofW (cc := cc) (maxL := nL) (ret := ret) hy rfl ?_
  intro p e s m args below meth c s₁ B1 hml hv
  obtain ⟨rfl, hsz, hP, hK, hD0, hN⟩ := hv
  have hts := atoms_spec (ws := .code y cc nL ret :: z_T) B1.pre
  have hown : s.vm.findClass y.cls = some m.cls := findClass_of_methodNamed B1.named
  subst hsz
  have hD := hD0.self (sz := s.heap.size)
  rw [lg_entry_eq]
  exact body (p, l, e, _, s, m, as.toArray, below, meth, c, nL, D, cy, va_A (w0 cy) s.heap.size, _) cy ⟨rfl, rfl, ⟨B1.exec, B1.bytes, hml, hown, fun w h => hts w (List.mem_cons_of_mem _ h)⟩, hK, B1.returns, B1.notSynchronized, hN, fun q h => Or.inr h, rfl⟩ (fun h => (name_of_methodNamed B1.named B1.method).1.trans h) rfl s.heap [] _ (lv_entry as hlen) hP hD va_S.rf
section YR
variable {F : z_F} {cc : ByteArray} {own : String} {nl : Nat} {ret : Option FieldType} {R0 : Room} {cy : Nat → ClassId} {kC kS : Nat} {pc : Nat} {lv lv' : List (Nat × Value)} {st : List Value} {g : va_W}
theorem y_ws {g' : va_W} (h : g = g') (K : y_W F kC kS pc lv st g') : y_W F kC kS pc lv st g := h ▸ K
theorem y_wd {k n : Nat} (h1 : kC ≤ k) (h2 : kS ≤ n) (K : y_W F k n pc lv st g) : y_W F kC kS pc lv st g := by
  obtain ⟨p, l, e, R, s, m, args, below, meth, c, nL, D, cy, A, Q⟩ := F
  exact fun H locs ls q1 q2 q3 q4 => W.widen h1 h2 (K H locs ls q1 q2 q3 q4)
theorem y_loc (ks : List Nat) (hl : lv_pick lv ks = lv') (K : y_W F kC kS pc lv' st g) : y_W F kC kS pc lv st g := by
  obtain ⟨p, l, e, R, s, m, args, below, meth, c, nL, D, cy, A, Q⟩ := F
  exact fun H locs ls h1 h2 h3 h4 => K H locs ls (lv_sub h1 ks hl) h2 h3 h4
theorem y_iconst {n : Int} {v : Int32} (C : y_X F cc own nl ret R0 cy) (hd : decode cc pc = .ok (.iconst n, 1)) (hv : Int32.ofInt n = v) (K : y_W F kC kS (pc + 1) lv (.int v :: st) g) : y_W F kC kS pc lv (st) g := by
  obtain ⟨p, l, e, R, s, m, args, below, meth, c, nL, D, cy, A, Q⟩ := F
  obtain ⟨hnl, hcy, ⟨hx, hb, hml, hown, hts⟩, hK, hr, hlk, hN, hA, hR⟩ := C
  subst hnl
  exact fun H locs ls h1 h2 h3 h4 => lv_iconst hx hb hd hv (K H locs ls h1 h2 h3 h4)
theorem y_bipush {n : Int} {v : Int32} (C : y_X F cc own nl ret R0 cy) (hd : decode cc pc = .ok (.bipush n, 2)) (hv : (Int8.ofInt n).toInt32 = v) (K : y_W F kC kS (pc + 2) lv (.int v :: st) g) : y_W F kC kS pc lv (st) g := by
  obtain ⟨p, l, e, R, s, m, args, below, meth, c, nL, D, cy, A, Q⟩ := F
  obtain ⟨hnl, hcy, ⟨hx, hb, hml, hown, hts⟩, hK, hr, hlk, hN, hA, hR⟩ := C
  subst hnl
  exact fun H locs ls h1 h2 h3 h4 => lv_bipush hx hb hd hv (K H locs ls h1 h2 h3 h4)
theorem y_sipush {n : Int} {v : Int32} (C : y_X F cc own nl ret R0 cy) (hd : decode cc pc = .ok (.sipush n, 3)) (hv : (Int16.ofInt n).toInt32 = v) (K : y_W F kC kS (pc + 3) lv (.int v :: st) g) : y_W F kC kS pc lv (st) g := by
  obtain ⟨p, l, e, R, s, m, args, below, meth, c, nL, D, cy, A, Q⟩ := F
  obtain ⟨hnl, hcy, ⟨hx, hb, hml, hown, hts⟩, hK, hr, hlk, hN, hA, hR⟩ := C
  subst hnl
  exact fun H locs ls h1 h2 h3 h4 => lv_sipush hx hb hd hv (K H locs ls h1 h2 h3 h4)
theorem y_lconst {n : Fin 2} {v : Int64} (C : y_X F cc own nl ret R0 cy) (hd : decode cc pc = .ok (.lconst n, 1)) (hv : Int64.ofNat (n : Nat) = v) (K : y_W F kC kS (pc + 1) lv (.long v :: st) g) : y_W F kC kS pc lv (st) g := by
  obtain ⟨p, l, e, R, s, m, args, below, meth, c, nL, D, cy, A, Q⟩ := F
  obtain ⟨hnl, hcy, ⟨hx, hb, hml, hown, hts⟩, hK, hr, hlk, hN, hA, hR⟩ := C
  subst hnl
  exact fun H locs ls h1 h2 h3 h4 => lv_lconst hx hb hd hv (K H locs ls h1 h2 h3 h4)
theorem y_ldc2 {index : Nat} {v : Int64} (C : y_X F cc own nl ret R0 cy) (hd : decode cc pc = .ok (.ldc2_w index, 3)) (hw : Cond.constantLong own index v ∈ z_T) (K : y_W F kC kS (pc + 3) lv (.long v :: st) g) : y_W F kC kS pc lv (st) g := by
  obtain ⟨p, l, e, R, s, m, args, below, meth, c, nL, D, cy, A, Q⟩ := F
  obtain ⟨hnl, hcy, ⟨hx, hb, hml, hown, hts⟩, hK, hr, hlk, hN, hA, hR⟩ := C
  subst hnl
  exact fun H locs ls h1 h2 h3 h4 => lv_ldc2 hx hb hown (hts _ hw) hd (K H locs ls h1 h2 h3 h4)
theorem y_iload_n {k : Fin 4} {i : Nat} {x : Int32} (C : y_X F cc own nl ret R0 cy) (hd : decode cc pc = .ok (.iload_n k, 1)) (hi : (k : Nat) = i) (q : Nat) (hl : lv[q]? = some (i, .int x)) (K : y_W F kC kS (pc + 1) lv (.int x :: st) g) : y_W F kC kS pc lv (st) g := by
  obtain ⟨p, l, e, R, s, m, args, below, meth, c, nL, D, cy, A, Q⟩ := F
  obtain ⟨hnl, hcy, ⟨hx, hb, hml, hown, hts⟩, hK, hr, hlk, hN, hA, hR⟩ := C
  subst hnl
  exact fun H locs ls h1 h2 h3 h4 => lv_iload_n hx hb hd hi (lv_at h1 q hl) (K H locs ls h1 h2 h3 h4)
theorem y_iload {i : Nat} {x : Int32} (C : y_X F cc own nl ret R0 cy) (hd : decode cc pc = .ok (.iload i, 2)) (q : Nat) (hl : lv[q]? = some (i, .int x)) (K : y_W F kC kS (pc + 2) lv (.int x :: st) g) : y_W F kC kS pc lv (st) g := by
  obtain ⟨p, l, e, R, s, m, args, below, meth, c, nL, D, cy, A, Q⟩ := F
  obtain ⟨hnl, hcy, ⟨hx, hb, hml, hown, hts⟩, hK, hr, hlk, hN, hA, hR⟩ := C
  subst hnl
  exact fun H locs ls h1 h2 h3 h4 => lv_iload hx hb hd (lv_at h1 q hl) (K H locs ls h1 h2 h3 h4)
theorem y_lload_n {k : Fin 4} {i : Nat} {x : Int64} (C : y_X F cc own nl ret R0 cy) (hd : decode cc pc = .ok (.lload_n k, 1)) (hi : (k : Nat) = i) (q : Nat) (hl : lv[q]? = some (i, .long x)) (K : y_W F kC kS (pc + 1) lv (.long x :: st) g) : y_W F kC kS pc lv (st) g := by
  obtain ⟨p, l, e, R, s, m, args, below, meth, c, nL, D, cy, A, Q⟩ := F
  obtain ⟨hnl, hcy, ⟨hx, hb, hml, hown, hts⟩, hK, hr, hlk, hN, hA, hR⟩ := C
  subst hnl
  exact fun H locs ls h1 h2 h3 h4 => lv_lload_n hx hb hd hi (lv_at h1 q hl) (K H locs ls h1 h2 h3 h4)
theorem y_aload_n {k : Fin 4} {i : Nat} {x : Nat} (C : y_X F cc own nl ret R0 cy) (hd : decode cc pc = .ok (.aload_n k, 1)) (hi : (k : Nat) = i) (q : Nat) (hl : lv[q]? = some (i, .ref x)) (K : y_W F kC kS (pc + 1) lv (.ref x :: st) g) : y_W F kC kS pc lv (st) g := by
  obtain ⟨p, l, e, R, s, m, args, below, meth, c, nL, D, cy, A, Q⟩ := F
  obtain ⟨hnl, hcy, ⟨hx, hb, hml, hown, hts⟩, hK, hr, hlk, hN, hA, hR⟩ := C
  subst hnl
  exact fun H locs ls h1 h2 h3 h4 => lv_aload_n hx hb hd hi (lv_at h1 q hl) (K H locs ls h1 h2 h3 h4)
theorem y_istore_n {k : Fin 4} {i : Nat} {x : Int32} (C : y_X F cc own nl ret R0 cy) (hd : decode cc pc = .ok (.istore_n k, 1)) (hi : (k : Nat) = i) (hn : i < nl) (lv' : List (Nat × Value)) (hl : (i, Value.int x) :: lv.filter (fun q => !(q.1 == i) && !(q.1 + 1 == i && q.2.category == 2)) = lv') (K : y_W F kC kS (pc + 1) lv' st g) : y_W F kC kS pc lv (.int x :: st) g := by
  obtain ⟨p, l, e, R, s, m, args, below, meth, c, nL, D, cy, A, Q⟩ := F
  obtain ⟨hnl, hcy, ⟨hx, hb, hml, hown, hts⟩, hK, hr, hlk, hN, hA, hR⟩ := C
  subst hnl
  exact fun H locs ls h1 h2 h3 h4 => lv_istore_n hx hb hd hi h1 hn hl (fun ls' h1 => K H locs ls' h1 h2 h3 h4)
theorem y_lstore_n {k : Fin 4} {i : Nat} {x : Int64} (C : y_X F cc own nl ret R0 cy) (hd : decode cc pc = .ok (.lstore_n k, 1)) (hi : (k : Nat) = i) (hn : i + 1 < nl) (lv' : List (Nat × Value)) (hl : (i, Value.long x) :: lv.filter (fun q => !(q.1 == i) && (!(q.1 == i + 1) && !(q.1 + 1 == i && q.2.category == 2))) = lv') (K : y_W F kC kS (pc + 1) lv' st g) : y_W F kC kS pc lv (.long x :: st) g := by
  obtain ⟨p, l, e, R, s, m, args, below, meth, c, nL, D, cy, A, Q⟩ := F
  obtain ⟨hnl, hcy, ⟨hx, hb, hml, hown, hts⟩, hK, hr, hlk, hN, hA, hR⟩ := C
  subst hnl
  exact fun H locs ls h1 h2 h3 h4 => lv_lstore_n hx hb hd hi h1 hn hl (fun ls' h1 => K H locs ls' h1 h2 h3 h4)
theorem y_astore_n {k : Fin 4} {i : Nat} {x : Nat} (C : y_X F cc own nl ret R0 cy) (hd : decode cc pc = .ok (.astore_n k, 1)) (hi : (k : Nat) = i) (hn : i < nl) (lv' : List (Nat × Value)) (hl : (i, Value.ref x) :: lv.filter (fun q => !(q.1 == i) && !(q.1 + 1 == i && q.2.category == 2)) = lv') (K : y_W F kC kS (pc + 1) lv' st g) : y_W F kC kS pc lv (.ref x :: st) g := by
  obtain ⟨p, l, e, R, s, m, args, below, meth, c, nL, D, cy, A, Q⟩ := F
  obtain ⟨hnl, hcy, ⟨hx, hb, hml, hown, hts⟩, hK, hr, hlk, hN, hA, hR⟩ := C
  subst hnl
  exact fun H locs ls h1 h2 h3 h4 => lv_astore_n hx hb hd hi h1 hn hl (fun ls' h1 => K H locs ls' h1 h2 h3 h4)
theorem y_iinc {i : Nat} {n : Int} {x v : Int32} (C : y_X F cc own nl ret R0 cy) (hd : decode cc pc = .ok (.iinc i n, 3)) (hn : i < nl) (q : Nat) (hk : lv[q]? = some (i, .int x)) (hv : x + Int32.ofInt n = v) (lv' : List (Nat × Value)) (hl : (i, Value.int v) :: lv.filter (fun q => !(q.1 == i) && !(q.1 + 1 == i && q.2.category == 2)) = lv') (K : y_W F kC kS (pc + 3) lv' st g) : y_W F kC kS pc lv st g := by
  obtain ⟨p, l, e, R, s, m, args, below, meth, c, nL, D, cy, A, Q⟩ := F
  obtain ⟨hnl, hcy, ⟨hx, hb, hml, hown, hts⟩, hK, hr, hlk, hN, hA, hR⟩ := C
  subst hnl
  exact fun H locs ls h1 h2 h3 h4 => lv_iinc hx hb hd h1 hk hv hn hl (fun ls' h1 => K H locs ls' h1 h2 h3 h4)
theorem y_dup {va : Value} (C : y_X F cc own nl ret R0 cy) (hd : decode cc pc = .ok (.dup, 1)) (hva : va.category = 1) (K : y_W F kC kS (pc + 1) lv (va :: va :: st) g) : y_W F kC kS pc lv (va :: st) g := by
  obtain ⟨p, l, e, R, s, m, args, below, meth, c, nL, D, cy, A, Q⟩ := F
  obtain ⟨hnl, hcy, ⟨hx, hb, hml, hown, hts⟩, hK, hr, hlk, hN, hA, hR⟩ := C
  subst hnl
  exact fun H locs ls h1 h2 h3 h4 => lv_dup hx hb hd hva (K H locs ls h1 h2 h3 h4)
theorem y_iadd {x y : Int32} (C : y_X F cc own nl ret R0 cy) (hd : decode cc pc = .ok (.iadd, 1)) (K : y_W F kC kS (pc + 1) lv (.int (x + y) :: st) g) : y_W F kC kS pc lv (.int y :: .int x :: st) g := by
  obtain ⟨p, l, e, R, s, m, args, below, meth, c, nL, D, cy, A, Q⟩ := F
  obtain ⟨hnl, hcy, ⟨hx, hb, hml, hown, hts⟩, hK, hr, hlk, hN, hA, hR⟩ := C
  subst hnl
  exact fun H locs ls h1 h2 h3 h4 => lv_iadd hx hb hd (K H locs ls h1 h2 h3 h4)
theorem y_isub {x y : Int32} (C : y_X F cc own nl ret R0 cy) (hd : decode cc pc = .ok (.isub, 1)) (K : y_W F kC kS (pc + 1) lv (.int (x - y) :: st) g) : y_W F kC kS pc lv (.int y :: .int x :: st) g := by
  obtain ⟨p, l, e, R, s, m, args, below, meth, c, nL, D, cy, A, Q⟩ := F
  obtain ⟨hnl, hcy, ⟨hx, hb, hml, hown, hts⟩, hK, hr, hlk, hN, hA, hR⟩ := C
  subst hnl
  exact fun H locs ls h1 h2 h3 h4 => lv_isub hx hb hd (K H locs ls h1 h2 h3 h4)
theorem y_iand {x y : Int32} (C : y_X F cc own nl ret R0 cy) (hd : decode cc pc = .ok (.iand, 1)) (K : y_W F kC kS (pc + 1) lv (.int (x &&& y) :: st) g) : y_W F kC kS pc lv (.int y :: .int x :: st) g := by
  obtain ⟨p, l, e, R, s, m, args, below, meth, c, nL, D, cy, A, Q⟩ := F
  obtain ⟨hnl, hcy, ⟨hx, hb, hml, hown, hts⟩, hK, hr, hlk, hN, hA, hR⟩ := C
  subst hnl
  exact fun H locs ls h1 h2 h3 h4 => lv_iand hx hb hd (K H locs ls h1 h2 h3 h4)
theorem y_land {x y : Int64} (C : y_X F cc own nl ret R0 cy) (hd : decode cc pc = .ok (.land, 1)) (K : y_W F kC kS (pc + 1) lv (.long (x &&& y) :: st) g) : y_W F kC kS pc lv (.long y :: .long x :: st) g := by
  obtain ⟨p, l, e, R, s, m, args, below, meth, c, nL, D, cy, A, Q⟩ := F
  obtain ⟨hnl, hcy, ⟨hx, hb, hml, hown, hts⟩, hK, hr, hlk, hN, hA, hR⟩ := C
  subst hnl
  exact fun H locs ls h1 h2 h3 h4 => lv_land hx hb hd (K H locs ls h1 h2 h3 h4)
theorem y_lor {x y : Int64} (C : y_X F cc own nl ret R0 cy) (hd : decode cc pc = .ok (.lor, 1)) (K : y_W F kC kS (pc + 1) lv (.long (x ||| y) :: st) g) : y_W F kC kS pc lv (.long y :: .long x :: st) g := by
  obtain ⟨p, l, e, R, s, m, args, below, meth, c, nL, D, cy, A, Q⟩ := F
  obtain ⟨hnl, hcy, ⟨hx, hb, hml, hown, hts⟩, hK, hr, hlk, hN, hA, hR⟩ := C
  subst hnl
  exact fun H locs ls h1 h2 h3 h4 => lv_lor hx hb hd (K H locs ls h1 h2 h3 h4)
theorem y_lshl {x : Int64} {y : Int32} (C : y_X F cc own nl ret R0 cy) (hd : decode cc pc = .ok (.lshl, 1)) (K : y_W F kC kS (pc + 1) lv (.long (x <<< (y.toInt64 &&& 63)) :: st) g) : y_W F kC kS pc lv (.int y :: .long x :: st) g := by
  obtain ⟨p, l, e, R, s, m, args, below, meth, c, nL, D, cy, A, Q⟩ := F
  obtain ⟨hnl, hcy, ⟨hx, hb, hml, hown, hts⟩, hK, hr, hlk, hN, hA, hR⟩ := C
  subst hnl
  exact fun H locs ls h1 h2 h3 h4 => lv_lshl hx hb hd rfl (K H locs ls h1 h2 h3 h4)
theorem y_i2l {x : Int32} (C : y_X F cc own nl ret R0 cy) (hd : decode cc pc = .ok (.i2l, 1)) (K : y_W F kC kS (pc + 1) lv (.long x.toInt64 :: st) g) : y_W F kC kS pc lv (.int x :: st) g := by
  obtain ⟨p, l, e, R, s, m, args, below, meth, c, nL, D, cy, A, Q⟩ := F
  obtain ⟨hnl, hcy, ⟨hx, hb, hml, hown, hts⟩, hK, hr, hlk, hN, hA, hR⟩ := C
  subst hnl
  exact fun H locs ls h1 h2 h3 h4 => lv_i2l hx hb hd rfl (K H locs ls h1 h2 h3 h4)
theorem y_lcmp {x y : Int64} (C : y_X F cc own nl ret R0 cy) (hd : decode cc pc = .ok (.lcmp, 1)) (K : y_W F kC kS (pc + 1) lv (.int (lg_cmp x y) :: st) g) : y_W F kC kS pc lv (.long y :: .long x :: st) g := by
  obtain ⟨p, l, e, R, s, m, args, below, meth, c, nL, D, cy, A, Q⟩ := F
  obtain ⟨hnl, hcy, ⟨hx, hb, hml, hown, hts⟩, hK, hr, hlk, hN, hA, hR⟩ := C
  subst hnl
  exact fun H locs ls h1 h2 h3 h4 => W.lcmp hx hb hd (K H locs ls h1 h2 h3 h4)
theorem y_goto {off : Int} (tgt : Nat) (C : y_X F cc own nl ret R0 cy) (hd : decode cc pc = .ok (.goto off, 3)) (ht : (pc : Int) + off = (tgt : Int)) (K : y_W F kC kS tgt lv st g) : y_W F kC kS pc lv st g := by
  obtain ⟨p, l, e, R, s, m, args, below, meth, c, nL, D, cy, A, Q⟩ := F
  obtain ⟨hnl, hcy, ⟨hx, hb, hml, hown, hts⟩, hK, hr, hlk, hN, hA, hR⟩ := C
  subst hnl
  exact fun H locs ls h1 h2 h3 h4 => lv_goto hx hb hd ht (K H locs ls h1 h2 h3 h4)
theorem y_icmp_eq {x y : Int32} {off : Int} (tgt : Nat) (C : y_X F cc own nl ret R0 cy) (hd : decode cc pc = .ok (.if_icmp .eq off, 3)) (ht : (pc : Int) + off = (tgt : Int)) (kt : x = y → y_W F kC kS tgt lv st g) (kf : ¬ x = y → y_W F kC kS (pc + 3) lv st g) : y_W F kC kS pc lv (.int y :: .int x :: st) g := by
  obtain ⟨p, l, e, R, s, m, args, below, meth, c, nL, D, cy, A, Q⟩ := F
  obtain ⟨hnl, hcy, ⟨hx, hb, hml, hown, hts⟩, hK, hr, hlk, hN, hA, hR⟩ := C
  subst hnl
  exact fun H locs ls h1 h2 h3 h4 => lv_icmp_eq hx hb hd ht (fun q => kt q H locs ls h1 h2 h3 h4) (fun q => kf q H locs ls h1 h2 h3 h4)
theorem y_if_eq {x : Int32} {off : Int} (tgt : Nat) (C : y_X F cc own nl ret R0 cy) (hd : decode cc pc = .ok (.ifCond .eq off, 3)) (ht : (pc : Int) + off = (tgt : Int)) (kt : x = 0 → y_W F kC kS tgt lv st g) (kf : ¬ x = 0 → y_W F kC kS (pc + 3) lv st g) : y_W F kC kS pc lv (.int x :: st) g := by
  obtain ⟨p, l, e, R, s, m, args, below, meth, c, nL, D, cy, A, Q⟩ := F
  obtain ⟨hnl, hcy, ⟨hx, hb, hml, hown, hts⟩, hK, hr, hlk, hN, hA, hR⟩ := C
  subst hnl
  exact fun H locs ls h1 h2 h3 h4 => lv_if_eq hx hb hd ht (fun q => kt q H locs ls h1 h2 h3 h4) (fun q => kf q H locs ls h1 h2 h3 h4)
theorem y_icmp_lt {x y : Int32} {off : Int} (tgt : Nat) (C : y_X F cc own nl ret R0 cy) (hd : decode cc pc = .ok (.if_icmp .lt off, 3)) (ht : (pc : Int) + off = (tgt : Int)) (kt : x < y → y_W F kC kS tgt lv st g) (kf : ¬ x < y → y_W F kC kS (pc + 3) lv st g) : y_W F kC kS pc lv (.int y :: .int x :: st) g := by
  obtain ⟨p, l, e, R, s, m, args, below, meth, c, nL, D, cy, A, Q⟩ := F
  obtain ⟨hnl, hcy, ⟨hx, hb, hml, hown, hts⟩, hK, hr, hlk, hN, hA, hR⟩ := C
  subst hnl
  exact fun H locs ls h1 h2 h3 h4 => lv_icmp_lt hx hb hd ht (fun q => kt q H locs ls h1 h2 h3 h4) (fun q => kf q H locs ls h1 h2 h3 h4)
theorem y_if_lt {x : Int32} {off : Int} (tgt : Nat) (C : y_X F cc own nl ret R0 cy) (hd : decode cc pc = .ok (.ifCond .lt off, 3)) (ht : (pc : Int) + off = (tgt : Int)) (kt : x < 0 → y_W F kC kS tgt lv st g) (kf : ¬ x < 0 → y_W F kC kS (pc + 3) lv st g) : y_W F kC kS pc lv (.int x :: st) g := by
  obtain ⟨p, l, e, R, s, m, args, below, meth, c, nL, D, cy, A, Q⟩ := F
  obtain ⟨hnl, hcy, ⟨hx, hb, hml, hown, hts⟩, hK, hr, hlk, hN, hA, hR⟩ := C
  subst hnl
  exact fun H locs ls h1 h2 h3 h4 => lv_if_lt hx hb hd ht (fun q => kt q H locs ls h1 h2 h3 h4) (fun q => kf q H locs ls h1 h2 h3 h4)
theorem y_icmp_ge {x y : Int32} {off : Int} (tgt : Nat) (C : y_X F cc own nl ret R0 cy) (hd : decode cc pc = .ok (.if_icmp .ge off, 3)) (ht : (pc : Int) + off = (tgt : Int)) (kt : y ≤ x → y_W F kC kS tgt lv st g) (kf : ¬ y ≤ x → y_W F kC kS (pc + 3) lv st g) : y_W F kC kS pc lv (.int y :: .int x :: st) g := by
  obtain ⟨p, l, e, R, s, m, args, below, meth, c, nL, D, cy, A, Q⟩ := F
  obtain ⟨hnl, hcy, ⟨hx, hb, hml, hown, hts⟩, hK, hr, hlk, hN, hA, hR⟩ := C
  subst hnl
  exact fun H locs ls h1 h2 h3 h4 => lv_icmp_ge hx hb hd ht (fun q => kt q H locs ls h1 h2 h3 h4) (fun q => kf q H locs ls h1 h2 h3 h4)
theorem y_if_ge {x : Int32} {off : Int} (tgt : Nat) (C : y_X F cc own nl ret R0 cy) (hd : decode cc pc = .ok (.ifCond .ge off, 3)) (ht : (pc : Int) + off = (tgt : Int)) (kt : 0 ≤ x → y_W F kC kS tgt lv st g) (kf : ¬ 0 ≤ x → y_W F kC kS (pc + 3) lv st g) : y_W F kC kS pc lv (.int x :: st) g := by
  obtain ⟨p, l, e, R, s, m, args, below, meth, c, nL, D, cy, A, Q⟩ := F
  obtain ⟨hnl, hcy, ⟨hx, hb, hml, hown, hts⟩, hK, hr, hlk, hN, hA, hR⟩ := C
  subst hnl
  exact fun H locs ls h1 h2 h3 h4 => lv_if_ge hx hb hd ht (fun q => kt q H locs ls h1 h2 h3 h4) (fun q => kf q H locs ls h1 h2 h3 h4)
theorem y_icmp_gt {x y : Int32} {off : Int} (tgt : Nat) (C : y_X F cc own nl ret R0 cy) (hd : decode cc pc = .ok (.if_icmp .gt off, 3)) (ht : (pc : Int) + off = (tgt : Int)) (kt : y < x → y_W F kC kS tgt lv st g) (kf : ¬ y < x → y_W F kC kS (pc + 3) lv st g) : y_W F kC kS pc lv (.int y :: .int x :: st) g := by
  obtain ⟨p, l, e, R, s, m, args, below, meth, c, nL, D, cy, A, Q⟩ := F
  obtain ⟨hnl, hcy, ⟨hx, hb, hml, hown, hts⟩, hK, hr, hlk, hN, hA, hR⟩ := C
  subst hnl
  exact fun H locs ls h1 h2 h3 h4 => lv_icmp_gt hx hb hd ht (fun q => kt q H locs ls h1 h2 h3 h4) (fun q => kf q H locs ls h1 h2 h3 h4)
theorem y_if_gt {x : Int32} {off : Int} (tgt : Nat) (C : y_X F cc own nl ret R0 cy) (hd : decode cc pc = .ok (.ifCond .gt off, 3)) (ht : (pc : Int) + off = (tgt : Int)) (kt : 0 < x → y_W F kC kS tgt lv st g) (kf : ¬ 0 < x → y_W F kC kS (pc + 3) lv st g) : y_W F kC kS pc lv (.int x :: st) g := by
  obtain ⟨p, l, e, R, s, m, args, below, meth, c, nL, D, cy, A, Q⟩ := F
  obtain ⟨hnl, hcy, ⟨hx, hb, hml, hown, hts⟩, hK, hr, hlk, hN, hA, hR⟩ := C
  subst hnl
  exact fun H locs ls h1 h2 h3 h4 => lv_if_gt hx hb hd ht (fun q => kt q H locs ls h1 h2 h3 h4) (fun q => kf q H locs ls h1 h2 h3 h4)
theorem y_icmp_le {x y : Int32} {off : Int} (tgt : Nat) (C : y_X F cc own nl ret R0 cy) (hd : decode cc pc = .ok (.if_icmp .le off, 3)) (ht : (pc : Int) + off = (tgt : Int)) (kt : x ≤ y → y_W F kC kS tgt lv st g) (kf : ¬ x ≤ y → y_W F kC kS (pc + 3) lv st g) : y_W F kC kS pc lv (.int y :: .int x :: st) g := by
  obtain ⟨p, l, e, R, s, m, args, below, meth, c, nL, D, cy, A, Q⟩ := F
  obtain ⟨hnl, hcy, ⟨hx, hb, hml, hown, hts⟩, hK, hr, hlk, hN, hA, hR⟩ := C
  subst hnl
  exact fun H locs ls h1 h2 h3 h4 => lv_icmp_le hx hb hd ht (fun q => kt q H locs ls h1 h2 h3 h4) (fun q => kf q H locs ls h1 h2 h3 h4)
theorem y_if_le {x : Int32} {off : Int} (tgt : Nat) (C : y_X F cc own nl ret R0 cy) (hd : decode cc pc = .ok (.ifCond .le off, 3)) (ht : (pc : Int) + off = (tgt : Int)) (kt : x ≤ 0 → y_W F kC kS tgt lv st g) (kf : ¬ x ≤ 0 → y_W F kC kS (pc + 3) lv st g) : y_W F kC kS pc lv (.int x :: st) g := by
  obtain ⟨p, l, e, R, s, m, args, below, meth, c, nL, D, cy, A, Q⟩ := F
  obtain ⟨hnl, hcy, ⟨hx, hb, hml, hown, hts⟩, hK, hr, hlk, hN, hA, hR⟩ := C
  subst hnl
  exact fun H locs ls h1 h2 h3 h4 => lv_if_le hx hb hd ht (fun q => kt q H locs ls h1 h2 h3 h4) (fun q => kf q H locs ls h1 h2 h3 h4)
theorem y_icmp_ne {x y : Int32} {off : Int} (tgt : Nat) (C : y_X F cc own nl ret R0 cy) (hd : decode cc pc = .ok (.if_icmp .ne off, 3)) (ht : (pc : Int) + off = (tgt : Int)) (kt : x = y → y_W F kC kS (pc + 3) lv st g) (kf : ¬ x = y → y_W F kC kS tgt lv st g) : y_W F kC kS pc lv (.int y :: .int x :: st) g := by
  obtain ⟨p, l, e, R, s, m, args, below, meth, c, nL, D, cy, A, Q⟩ := F
  obtain ⟨hnl, hcy, ⟨hx, hb, hml, hown, hts⟩, hK, hr, hlk, hN, hA, hR⟩ := C
  subst hnl
  exact fun H locs ls h1 h2 h3 h4 => lv_icmp_ne hx hb hd ht (fun q => kf q H locs ls h1 h2 h3 h4) (fun q => kt q H locs ls h1 h2 h3 h4)
theorem y_if_ne {x : Int32} {off : Int} (tgt : Nat) (C : y_X F cc own nl ret R0 cy) (hd : decode cc pc = .ok (.ifCond .ne off, 3)) (ht : (pc : Int) + off = (tgt : Int)) (kt : x = 0 → y_W F kC kS (pc + 3) lv st g) (kf : ¬ x = 0 → y_W F kC kS tgt lv st g) : y_W F kC kS pc lv (.int x :: st) g := by
  obtain ⟨p, l, e, R, s, m, args, below, meth, c, nL, D, cy, A, Q⟩ := F
  obtain ⟨hnl, hcy, ⟨hx, hb, hml, hown, hts⟩, hK, hr, hlk, hN, hA, hR⟩ := C
  subst hnl
  exact fun H locs ls h1 h2 h3 h4 => lv_if_ne hx hb hd ht (fun q => kf q H locs ls h1 h2 h3 h4) (fun q => kt q H locs ls h1 h2 h3 h4)
theorem y_lcmp_eq {x y : Int64} {off : Int} (tgt : Nat) (C : y_X F cc own nl ret R0 cy) (hd0 : decode cc pc = .ok (.lcmp, 1)) (hd : decode cc (pc + 1) = .ok (.ifCond .eq off, 3)) (ht : ((pc + 1 : Nat) : Int) + off = (tgt : Int)) (kt : x = y → y_W F kC kS tgt lv st g) (kf : ¬ x = y → y_W F kC kS (pc + 1 + 3) lv st g) : y_W F kC kS pc lv (.long y :: .long x :: st) g :=
  y_lcmp C hd0 (y_if_eq tgt C hd ht (fun q => kt (z_cmp_eq.mp q)) (fun q => kf (fun r => q (z_cmp_eq.mpr r))))
theorem y_lcmp_le {x y : Int64} {off : Int} (tgt : Nat) (C : y_X F cc own nl ret R0 cy) (hd0 : decode cc pc = .ok (.lcmp, 1)) (hd : decode cc (pc + 1) = .ok (.ifCond .le off, 3)) (ht : ((pc + 1 : Nat) : Int) + off = (tgt : Int)) (kt : x ≤ y → y_W F kC kS tgt lv st g) (kf : ¬ x ≤ y → y_W F kC kS (pc + 1 + 3) lv st g) : y_W F kC kS pc lv (.long y :: .long x :: st) g :=
  y_lcmp C hd0 (y_if_le tgt C hd ht (fun q => kt (z_cmp_le.mp q)) (fun q => kf (fun r => q (z_cmp_le.mpr r))))
theorem y_lcmp_ne {x y : Int64} {off : Int} (tgt : Nat) (C : y_X F cc own nl ret R0 cy) (hd0 : decode cc pc = .ok (.lcmp, 1)) (hd : decode cc (pc + 1) = .ok (.ifCond .ne off, 3)) (ht : ((pc + 1 : Nat) : Int) + off = (tgt : Int)) (kt : x = y → y_W F kC kS (pc + 1 + 3) lv st g) (kf : ¬ x = y → y_W F kC kS tgt lv st g) : y_W F kC kS pc lv (.long y :: .long x :: st) g :=
  y_lcmp C hd0 (y_if_ne tgt C hd ht (fun q => kt (z_cmp_eq.mp q)) (fun q => kf (fun r => q (z_cmp_eq.mpr r))))
theorem y_tabIn {dflt lw hi : Int} {offs : Array Int} {len : Nat} {x : Int32} {off : Int} (v : Int32) (tgt : Nat) (C : y_X F cc own nl ret R0 cy) (hd : decode cc pc = .ok (.tableswitch dflt lw hi offs, len)) (hv : x = v) (h1 : ¬ v.toInt < lw) (h2 : ¬ hi < v.toInt) (ho : offs[(v.toInt - lw).toNat]? = some off) (ht : (pc : Int) + off = (tgt : Int)) (K : y_W F kC kS tgt lv st g) : y_W F kC kS pc lv (.int x :: st) g := by
  subst hv
  obtain ⟨p, l, e, R, s, m, args, below, meth, c, nL, D, cy, A, Q⟩ := F
  obtain ⟨hnl, hcy, ⟨hx, hb, hml, hown, hts⟩, hK, hr, hlk, hN, hA, hR⟩ := C
  subst hnl
  exact fun H locs ls q1 q2 q3 q4 => lv_tableIn hx hb hd h1 h2 ho ht (K H locs ls q1 q2 q3 q4)
theorem y_tabOut {dflt lw hi : Int} {offs : Array Int} {len : Nat} {x : Int32} (tgt : Nat) (C : y_X F cc own nl ret R0 cy) (hd : decode cc pc = .ok (.tableswitch dflt lw hi offs, len)) (hv : x.toInt < lw ∨ hi < x.toInt) (ht : (pc : Int) + dflt = (tgt : Int)) (K : y_W F kC kS tgt lv st g) : y_W F kC kS pc lv (.int x :: st) g := by
  obtain ⟨p, l, e, R, s, m, args, below, meth, c, nL, D, cy, A, Q⟩ := F
  obtain ⟨hnl, hcy, ⟨hx, hb, hml, hown, hts⟩, hK, hr, hlk, hN, hA, hR⟩ := C
  subst hnl
  exact fun H locs ls q1 q2 q3 q4 => lv_tableOut hx hb hd hv ht (K H locs ls q1 q2 q3 q4)
theorem y_get {index o ci k a : Nat} {fs : List Value} {v : Value} (C : y_X F cc own nl ret R0 cy) (f : z_FL own index ci k) (he : g[o]? = some (a, .inr (ci, fs))) (hv : fs[k]? = some v) (hd : decode cc pc = .ok (.getfield index, 3)) (K : y_W F kC kS (pc + 3) lv (v :: st) g) : y_W F kC kS pc lv (.ref a :: st) g := by
  obtain ⟨Cn, T, n, f1, f2, f3, f4⟩ := f
  obtain ⟨p, l, e, R, s, m, args, below, meth, c, nL, D, cy, A, Q⟩ := F
  obtain ⟨hnl, hcy, ⟨hx, hb, hml, hown, hts⟩, hK, hr, hlk, hN, hA, hR⟩ := C
  intro H locs ls h1 h2 h3 h4
  exact va_get hx hb hts f2 hown hK h2 o he f1 k f3 (hts _ f4) (fun _ h => h) hv hd (K H locs ls h1 h2 h3 h4)
theorem y_put {index o ci k a : Nat} {ty : FieldType} {fs : List Value} {v : Value} (C : y_X F cc own nl ret R0 cy) (f : z_FP own index ci k ty) (he : g[o]? = some (a, .inr (ci, fs))) (hl : k < fs.length) (hn : narrow ty v = v) (hf : fits ty v = true) (hd : decode cc pc = .ok (.putfield index, 3)) (K : y_W F kC kS (pc + 3) lv st (g.set o (a, .inr (ci, fs.set k v)))) : y_W F kC kS pc lv (v :: .ref a :: st) g := by
  obtain ⟨Cn, T, n, ty0, f1, f2, f3, f4, f5, f6, f7, f8⟩ := f
  obtain ⟨p, l, e, R, s, m, args, below, meth, c, nL, D, cy, A, Q⟩ := F
  obtain ⟨hnl, hcy, ⟨hx, hb, hml, hown, hts⟩, hK, hr, hlk, hN, hA, hR⟩ := C
  intro H locs ls h1 h2 h3 h4
  exact va_put hx hb hts f2 ty0 f5 f6 hown hK h2 h3 h4 o he f1 k f3 (hts _ f4) (fun _ h => h) f7 f8 hn hf hl hd (fun H1 locs1 h2 h3 h4 => K H1 locs1 ls h1 h2 h3 h4)
/-- a final field's row, put in its class's maker -/
def y_FF (own : String) (index ci k : Nat) (ty : FieldType) : Prop := ∃ (Cn : String) (T : u_T) (n : Nat) (ty0 : Nat → FieldType), vwCl[ci]? = some (Cn, T, n) ∧ (∀ w ∈ u_ws Cn T n, w ∈ z_T) ∧ k < n ∧ Cond.fieldLink own index (T k).1 (T k).2.1 (T k).2.2.1 ∈ z_T ∧ (∀ k, k < n → parseFieldDescriptor (T k).2.2.1 = some (ty0 k)) ∧ (∀ a, a < n → ∀ b, b < n → a ≠ b → (T a).2.1 ≠ (T b).2.1) ∧ (T k).2.2.2 = true ∧ (T k).1 = own ∧ parseFieldDescriptor (T k).2.2.1 = some ty
theorem y_putF {index o ci k a : Nat} {ty : FieldType} {fs : List Value} {v : Value} (C : y_X F cc own nl ret R0 cy) (hi : y_ini F) (f : y_FF own index ci k ty) (he : g[o]? = some (a, .inr (ci, fs))) (hl : k < fs.length) (hn : narrow ty v = v) (hf : fits ty v = true) (hd : decode cc pc = .ok (.putfield index, 3)) (K : y_W F kC kS (pc + 3) lv st (g.set o (a, .inr (ci, fs.set k v)))) : y_W F kC kS pc lv (v :: .ref a :: st) g := by
  obtain ⟨Cn, T, n, ty0, f1, f2, f3, f4, f5, f6, f7, f9, f8⟩ := f
  obtain ⟨p, l, e, R, s, m, args, below, meth, c, nL, D, cy, A, Q⟩ := F
  obtain ⟨hnl, hcy, ⟨hx, hb, hml, hown, hts⟩, hK, hr, hlk, hN, hA, hR⟩ := C
  intro H locs ls h1 h2 h3 h4
  exact va_putF hx hb hts f2 ty0 f5 f6 hown hK h2 h3 h4 o he f1 k f3 (hts _ f4) (fun _ h => h) f7 hi f9 f8 hn hf hl hd (fun H1 locs1 h2 h3 h4 => K H1 locs1 ls h1 h2 h3 h4)
theorem y_iald {o a n : Nat} {f : Nat → Int32} {i : Int32} (C : y_X F cc own nl ret R0 cy) (he : g[o]? = some (a, .inl (cy 0, n, .inl f))) (hin : vp_in i n) (hd : decode cc pc = .ok (.iaload, 1)) (K : y_W F kC kS (pc + 1) lv (.int (f i.toNatClampNeg) :: st) g) : y_W F kC kS pc lv (.int i :: .ref a :: st) g := by
  obtain ⟨p, l, e, R, s, m, args, below, meth, c, nL, D, cy, A, Q⟩ := F
  obtain ⟨hnl, hcy, ⟨hx, hb, hml, hown, hts⟩, hK, hr, hlk, hN, hA, hR⟩ := C
  intro H locs ls h1 h2 h3 h4
  exact va_iald hx hb hK h2 o 0 he rfl hin hd (K H locs ls h1 h2 h3 h4)
theorem y_iast {o a n : Nat} {f : Nat → Int32} {i x : Int32} (C : y_X F cc own nl ret R0 cy) (he : g[o]? = some (a, .inl (cy 0, n, .inl f))) (hin : vp_in i n) (hd : decode cc pc = .ok (.iastore, 1)) (K : y_W F kC kS (pc + 1) lv st (g.set o (a, .inl (cy 0, n, .inl (upd f i.toNatClampNeg x))))) : y_W F kC kS pc lv (.int x :: .int i :: .ref a :: st) g := by
  obtain ⟨p, l, e, R, s, m, args, below, meth, c, nL, D, cy, A, Q⟩ := F
  obtain ⟨hnl, hcy, ⟨hx, hb, hml, hown, hts⟩, hK, hr, hlk, hN, hA, hR⟩ := C
  intro H locs ls h1 h2 h3 h4
  exact va_iast hx hb hK h2 h3 h4 o 0 he rfl hin hd (fun H1 locs1 h2 h3 h4 => K H1 locs1 ls h1 h2 h3 h4)
theorem y_zast {o a n : Nat} {f : Nat → Int32} {i x : Int32} (C : y_X F cc own nl ret R0 cy) (he : g[o]? = some (a, .inl (cy 2, n, .inl f))) (hin : vp_in i n) (hd : decode cc pc = .ok (.bastore, 1)) (K : y_W F kC kS (pc + 1) lv st (g.set o (a, .inl (cy 2, n, .inl (upd f i.toNatClampNeg (vp_nar .boolean x)))))) : y_W F kC kS pc lv (.int x :: .int i :: .ref a :: st) g := by
  obtain ⟨p, l, e, R, s, m, args, below, meth, c, nL, D, cy, A, Q⟩ := F
  obtain ⟨hnl, hcy, ⟨hx, hb, hml, hown, hts⟩, hK, hr, hlk, hN, hA, hR⟩ := C
  intro H locs ls h1 h2 h3 h4
  exact va_zast hx hb hK h2 h3 h4 o 2 he rfl hin hd (fun H1 locs1 h2 h3 h4 => K H1 locs1 ls h1 h2 h3 h4)
/-- a row of rows is given a Row -/
theorem y_aast {o ok a v n : Nat} {vs : List Value} {f : Nat → Option Nat} {i : Int32} (C : y_X F cc own nl ret R0 cy) (he : g[o]? = some (a, .inl (cy 3, n, .inr (.inr (.inr (.inr f)))))) (hv : g[ok]? = some (v, .inr (6, vs))) (hin : vp_in i n) (hd : decode cc pc = .ok (.aastore, 1)) (K : y_W F kC kS (pc + 1) lv st (g.set o (a, .inl (cy 3, n, .inr (.inr (.inr (.inr (va_up f i.toNatClampNeg (some v))))))))) : y_W F kC kS pc lv (.ref v :: .int i :: .ref a :: st) g := by
  obtain ⟨p, l, e, R, s, m, args, below, meth, c, nL, D, cy, A, Q⟩ := F
  obtain ⟨hnl, hcy, ⟨hx, hb, hml, hown, hts⟩, hK, hr, hlk, hN, hA, hR⟩ := C
  intro H locs ls h1 h2 h3 h4
  exact va_astq hx hb hK h2 h3 h4 o 3 ok 6 (r := (RX6, TX6, 2)) he rfl hv rfl hin hd (fun H1 locs1 h2 h3 h4 => K H1 locs1 ls h1 h2 h3 h4)
/-- the class of an array is known by its name -/
theorem y_cls {s : State} {D : va_G} {cy : Nat → ClassId} {t : Nat} {ty : FieldType} {cA : ClassId} (ht : (z_tys cy)[t]? = some (cy t, ty)) (hK : va_K D vwCl (z_tys cy) s) (hK1 : va_K D vwCl (z_tys cy ++ [(cA, ty)]) s) (hn : ∀ c, va_RA s c ty → s.vm.findClass ("[" ++ ty.toString) = some c) : cA = cy t := by
  have h1 := hn _ (hK.2 t _ ht).2
  have h2 := hn _ (hK1.2 4 (cA, ty) rfl).2
  exact Option.some.inj (h2.symm.trans h1)
theorem y_newi {n : Int32} {M : Nat} (C : y_X F cc own nl ret R0 cy) (w : Cond.arrayClass .int ∈ z_T) (hn : ¬ n < 0) (hM : n.toNatClampNeg = M) (hb4 : M ≤ 100000) (hc : kC + 1 ≤ R0.cells) (hs : kS + M ≤ R0.slots) (hd : decode cc pc = .ok (.newarray .int, 2)) (K : ∀ q : Nat, y_W F (kC + 1) (kS + M) (pc + 2) lv (.ref q :: st) (g ++ [(q, .inl (cy 0, M, .inl (fun _ => 0)))])) : y_W F kC kS pc lv (.int n :: st) g := by
  obtain ⟨p, l, e, R, s, m, args, below, meth, c, nL, D, cy0, A, Q⟩ := F
  obtain ⟨hnl, hcy, ⟨hx, hb, hml, hown, hts⟩, hK, hr, hlk, hN, hA, hR⟩ := C
  subst hR
  intro H locs ls h1 h2 h3 h4
  refine va_newa (atype := .int) (a0 := (M, .inl (fun _ => 0))) hx hb (hts _ w) rfl hK h2 h3 h4 hA (fun _ => rfl) hn hM (by show M * 4 ≤ _; omega) hc hs hd (fun q cA H1 k1 k2 k3 k4 => ?_)
  have e := y_cls (t := 0) rfl hK k1 (fun _ h => h)
  subst e
  exact K q H1 locs ls h1 k2 k3 k4
theorem y_newl {n : Int32} {M : Nat} (C : y_X F cc own nl ret R0 cy) (w : Cond.arrayClass .long ∈ z_T) (hn : ¬ n < 0) (hM : n.toNatClampNeg = M) (hb4 : M ≤ 100000) (hc : kC + 1 ≤ R0.cells) (hs : kS + M ≤ R0.slots) (hd : decode cc pc = .ok (.newarray .long, 2)) (K : ∀ q : Nat, y_W F (kC + 1) (kS + M) (pc + 2) lv (.ref q :: st) (g ++ [(q, .inl (cy 1, M, .inr (.inl (fun _ => 0))))])) : y_W F kC kS pc lv (.int n :: st) g := by
  obtain ⟨p, l, e, R, s, m, args, below, meth, c, nL, D, cy0, A, Q⟩ := F
  obtain ⟨hnl, hcy, ⟨hx, hb, hml, hown, hts⟩, hK, hr, hlk, hN, hA, hR⟩ := C
  subst hR
  intro H locs ls h1 h2 h3 h4
  refine va_newa (atype := .long) (a0 := (M, .inr (.inl (fun _ => 0)))) hx hb (hts _ w) rfl hK h2 h3 h4 hA (fun _ => rfl) hn hM (by show M * 8 ≤ _; omega) hc hs hd (fun q cA H1 k1 k2 k3 k4 => ?_)
  have e := y_cls (t := 1) rfl hK k1 (fun _ h => h)
  subst e
  exact K q H1 locs ls h1 k2 k3 k4
theorem y_newz {n : Int32} {M : Nat} (C : y_X F cc own nl ret R0 cy) (w : Cond.arrayClass .boolean ∈ z_T) (hn : ¬ n < 0) (hM : n.toNatClampNeg = M) (hb4 : M ≤ 100000) (hc : kC + 1 ≤ R0.cells) (hs : kS + M ≤ R0.slots) (hd : decode cc pc = .ok (.newarray .boolean, 2)) (K : ∀ q : Nat, y_W F (kC + 1) (kS + M) (pc + 2) lv (.ref q :: st) (g ++ [(q, .inl (cy 2, M, .inl (fun _ => 0)))])) : y_W F kC kS pc lv (.int n :: st) g := by
  obtain ⟨p, l, e, R, s, m, args, below, meth, c, nL, D, cy0, A, Q⟩ := F
  obtain ⟨hnl, hcy, ⟨hx, hb, hml, hown, hts⟩, hK, hr, hlk, hN, hA, hR⟩ := C
  subst hR
  intro H locs ls h1 h2 h3 h4
  refine va_newa (atype := .boolean) (a0 := (M, .inl (fun _ => 0))) hx hb (hts _ w) rfl hK h2 h3 h4 hA (fun _ => rfl) hn hM (by show M * 1 ≤ _; omega) hc hs hd (fun q cA H1 k1 k2 k3 k4 => ?_)
  have e := y_cls (t := 2) rfl hK k1 (fun _ h => h)
  subst e
  exact K q H1 locs ls h1 k2 k3 k4
theorem y_newq {index : Nat} {n : Int32} {M : Nat} (C : y_X F cc own nl ret R0 cy) (w : Cond.classLink own index "RunTogether$Row" ∈ z_T) (hn : ¬ n < 0) (hM : n.toNatClampNeg = M) (hb4 : M ≤ 100000) (hc : kC + 1 ≤ R0.cells) (hs : kS + M ≤ R0.slots) (hd : decode cc pc = .ok (.anewarray index, 3)) (K : ∀ q : Nat, y_W F (kC + 1) (kS + M) (pc + 3) lv (.ref q :: st) (g ++ [(q, .inl (cy 3, M, .inr (.inr (.inr (.inr (fun _ => none))))))])) : y_W F kC kS pc lv (.int n :: st) g := by
  obtain ⟨p, l, e, R, s, m, args, below, meth, c, nL, D, cy0, A, Q⟩ := F
  obtain ⟨hnl, hcy, ⟨hx, hb, hml, hown, hts⟩, hK, hr, hlk, hN, hA, hR⟩ := C
  subst hR
  intro H locs ls h1 h2 h3 h4
  refine va_newq hx hb hown (hts _ w) hN.2.2.2.2 hK h2 h3 h4 hA hn hM (by omega) hc hs hd (fun q cA H1 k1 k2 k3 k4 => ?_)
  have e := y_cls (t := 3) rfl hK k1 (fun _ h => va_nmO h rfl)
  subst e
  exact K q H1 locs ls h1 k2 k3 k4
theorem y_rotP {D : va_G} {c : Nat × va_E} {ws : va_W} {H : Heap} (h : va_P D vwCl (ws ++ [c]) H) : va_P D vwCl (c :: ws) H := by
  intro k q hq
  cases k with
  | zero =>
    refine h ws.length q ?_
    rw [List.getElem?_append_right (Nat.le_refl _)]
    simpa using hq
  | succ k =>
    have hk : ws[k]? = some q := hq
    refine h k q ?_
    rw [List.getElem?_append_left (List.getElem?_eq_some_iff.mp hk).1]
    exact hk
theorem y_rotD {A : Nat → Prop} {c : Nat × va_E} {ws : va_W} (h : va_D A (ws ++ [c])) : va_D A (c :: ws) := by
  have at' : ∀ (k : Nat) (q : Nat × va_E), (c :: ws)[k]? = some q → (ws ++ [c])[if k = 0 then ws.length else k - 1]? = some q := by
    intro k q hq
    cases k with
    | zero =>
      rw [if_pos rfl, List.getElem?_append_right (Nat.le_refl _)]
      simpa using hq
    | succ k =>
      have hk : ws[k]? = some q := hq
      rw [if_neg (Nat.succ_ne_zero k), Nat.add_sub_cancel, List.getElem?_append_left (List.getElem?_eq_some_iff.mp hk).1]
      exact hk
  refine ⟨fun i j p q hi hj hpq => ?_, fun k q hk => h.2 _ q (at' k q hk)⟩
  have e := h.1 _ _ p q (at' i p hi) (at' j q hj) hpq
  have li : i < ws.length + 1 := by simpa using (List.getElem?_eq_some_iff.mp hi).1
  have lj : j < ws.length + 1 := by simpa using (List.getElem?_eq_some_iff.mp hj).1
  by_cases h1 : i = 0 <;> by_cases h2 : j = 0
  · omega
  · rw [if_pos h1, if_neg h2] at e; omega
  · rw [if_neg h1, if_pos h2] at e; omega
  · rw [if_neg h1, if_neg h2] at e; omega
/-- a class's rows, for new -/
def y_CN (own : String) (index ci : Nat) (fs : List Value) (n : Nat) : Prop := ∃ (Cn : String) (T : u_T) (ty : Nat → FieldType), vwCl[ci]? = some (Cn, T, n) ∧ (∀ w ∈ u_ws Cn T n, w ∈ z_T) ∧ (∀ k, k < n → parseFieldDescriptor (T k).2.2.1 = some (ty k)) ∧ Cond.classLink own index Cn ∈ z_T ∧ Cond.instantiable Cn n ∈ z_T ∧ Cond.initialized Cn ∈ z_T ∧ (∀ j, j < n → defaultValue (ty j) = vp_V fs j)
/-- new: the new cell comes first -/
theorem y_new {index ci n : Nat} {fs : List Value} (C : y_X F cc own nl ret R0 cy) (w : y_CN own index ci fs n) (hc : kC + 1 ≤ R0.cells) (hs : kS + n ≤ R0.slots) (hd : decode cc pc = .ok (.new index, 3)) (K : ∀ q : Nat, y_W F (kC + 1) (kS + n) (pc + 3) lv (.ref q :: st) ((q, .inr (ci, fs)) :: g)) : y_W F kC kS pc lv st g := by
  obtain ⟨Cn, T, ty, f1, f2, f3, f4, f5, f6, f7⟩ := w
  obtain ⟨p, l, e, R, s, m, args, below, meth, c, nL, D, cy0, A, Q⟩ := F
  obtain ⟨hnl, hcy, ⟨hx, hb, hml, hown, hts⟩, hK, hr, hlk, hN, hA, hR⟩ := C
  subst hR
  intro H locs ls h1 h2 h3 h4
  exact va_new hx hb hts f2 ty f3 hown (hts _ f4) (hts _ f5) (hts _ f6) hK h2 h3 h4 hA f1 f7 hc hs hd (fun q H1 k2 k3 k4 => K q H1 locs ls h1 (y_rotP k2) (y_rotD k3) k4)
theorem y_obj {index a : Nat} (C : y_X F cc own nl ret R0 cy) (w1 : Cond.methodLink own index Lib.objectInit ∈ z_T) (w2 : Cond.instanceMethod Lib.objectInit ∈ z_T) (w3 : Cond.code Lib.objectInit ⟨#[0xb1]⟩ 1 none ∈ z_T) (hf : 1 ≤ R0.frames) (hlo : (st.map fun v => v.category).sum + 12 ≤ R0.locals) (hd : decode cc pc = .ok (.invokespecial index, 3)) (K : y_W F kC kS (pc + 3) lv st g) : y_W F kC kS pc lv (.ref a :: st) g := by
  obtain ⟨p, l, e, R, s, m, args, below, meth, c, nL, D, cy0, A, Q⟩ := F
  obtain ⟨hnl, hcy, ⟨hx, hb, hml, hown, hts⟩, hK, hr, hlk, hN, hA, hR⟩ := C
  subst hR
  intro H locs ls h1 h2 h3 h4
  refine W.objInit hx hb hown (hts _ w1) (hts _ w2) (hts _ w3) rfl (by rw [hml]; exact h1.1) rfl hd hf (by show 2 * 0 + _ + 12 ≤ _; omega) ?_
  exact W.eq (g2 := F0 m (pc + 3) ls st) rfl (K H locs ls h1 h2 h3 h4)
theorem y_mmax {index : Nat} {x y : Int32} (C : y_X F cc own nl ret R0 cy) (w1 : Cond.methodLink own index Lib.Math.max.name ∈ z_T) (w2 : Cond.static Lib.Math.max.name ∈ z_T) (w3 : Cond.initialized "java/lang/Math" ∈ z_T) (w4 : Cond.code Lib.Math.max.name Lib.Math.max.code 2 (some .int) ∈ z_T) (hf : 1 ≤ R0.frames) (hlo : (st.map fun v => v.category).sum + 13 ≤ R0.locals) (hc : kC ≤ R0.cells) (hs : kS ≤ R0.slots) (hd : decode cc pc = .ok (.invokestatic index, 3)) (K : y_W F kC kS (pc + 3) lv (.int (if x < y then y else x) :: st) g) : y_W F kC kS pc lv (.int y :: .int x :: st) g := by
  obtain ⟨p, l, e, R, s, m, args, below, meth, c, nL, D, cy0, A, Q⟩ := F
  obtain ⟨hnl, hcy, ⟨hx, hb, hml, hown, hts⟩, hK, hr, hlk, hN, hA, hR⟩ := C
  subst hnl
  subst hR
  exact fun H locs ls h1 h2 h3 h4 => va_mmax hx hb (hml.trans h1.1.symm) hown (hts _ w1) (hts _ w2) (hts _ w3) (hts _ w4) hf hlo hc hs hd (K H locs ls h1 h2 h3 h4)
theorem y_ifnn {a : Nat} {off : Int} (tgt : Nat) (C : y_X F cc own nl ret R0 cy) (hd : decode cc pc = .ok (.ifnonnull off, 3)) (ht : (pc : Int) + off = (tgt : Int)) (K : y_W F kC kS tgt lv st g) : y_W F kC kS pc lv (.ref a :: st) g := by
  obtain ⟨p, l, e, R, s, m, args, below, meth, c, nL, D, cy0, A, Q⟩ := F
  obtain ⟨hnl, hcy, ⟨hx, hb, hml, hown, hts⟩, hK, hr, hlk, hN, hA, hR⟩ := C
  exact fun H locs ls h1 h2 h3 h4 => lv_ifnonnull hx hb hd ht (K H locs ls h1 h2 h3 h4)
theorem y_ifnnN {off : Int} (C : y_X F cc own nl ret R0 cy) (hd : decode cc pc = .ok (.ifnonnull off, 3)) (K : y_W F kC kS (pc + 3) lv st g) : y_W F kC kS pc lv (.null :: st) g := by
  obtain ⟨p, l, e, R, s, m, args, below, meth, c, nL, D, cy0, A, Q⟩ := F
  obtain ⟨hnl, hcy, ⟨hx, hb, hml, hown, hts⟩, hK, hr, hlk, hN, hA, hR⟩ := C
  exact fun H locs ls h1 h2 h3 h4 => lv_ifnonnullN hx hb hd (K H locs ls h1 h2 h3 h4)
theorem y_vret {mc ms : Nat} {B : Option Value → va_W → Prop} (C : y_X F cc own nl none R0 cy) (E : y_E F mc ms B) (h1 : kC ≤ mc) (h2 : kS ≤ ms) (hB : B none g) (hd : decode cc pc = .ok (.return_, 1)) : y_W F kC kS pc lv [] g := by
  obtain ⟨p, l, e, R, s, m, args, below, meth, c, nL, D, cy0, A, Q⟩ := F
  obtain ⟨hnl, hcy, ⟨hx, hb, hml, hown, hts⟩, hK, hr, hlk, hN, hA, hR⟩ := C
  subst hcy
  have E : Q = MQ below (y_Q D cy0 A B) args s mc ms A := E
  subst E
  intro H locs ls q1 q2 q3 q4
  refine W.widen h1 h2 ?_
  exact W.vret hx hb hr (fun t ht hW => ⟨⟨none, g, rfl, hB, by rw [ht]; exact q2, va_K.moved hW.alike hK, q3⟩, q4.F ht⟩) q4.2.2 hd hlk
theorem y_iret {x : Int32} {mc ms : Nat} {B : Option Value → va_W → Prop} (C : y_X F cc own nl (some .int) R0 cy) (E : y_E F mc ms B) (h1 : kC ≤ mc) (h2 : kS ≤ ms) (hB : B (some (.int x)) g) (hd : decode cc pc = .ok (.ireturn, 1)) : y_W F kC kS pc lv [.int x] g := by
  obtain ⟨p, l, e, R, s, m, args, below, meth, c, nL, D, cy0, A, Q⟩ := F
  obtain ⟨hnl, hcy, ⟨hx, hb, hml, hown, hts⟩, hK, hr, hlk, hN, hA, hR⟩ := C
  subst hcy
  have E : Q = MQ below (y_Q D cy0 A B) args s mc ms A := E
  subst E
  intro H locs ls q1 q2 q3 q4
  refine W.widen h1 h2 ?_
  exact W.iret hx hb hr (fun t ht hW => ⟨⟨_, g, rfl, hB, by rw [ht]; exact q2, va_K.moved hW.alike hK, q3⟩, q4.F ht⟩) q4.2.2 hd hlk
theorem y_lret {x : Int64} {mc ms : Nat} {B : Option Value → va_W → Prop} (C : y_X F cc own nl (some .long) R0 cy) (E : y_E F mc ms B) (h1 : kC ≤ mc) (h2 : kS ≤ ms) (hB : B (some (.long x)) g) (hd : decode cc pc = .ok (.lreturn, 1)) : y_W F kC kS pc lv [.long x] g := by
  obtain ⟨p, l, e, R, s, m, args, below, meth, c, nL, D, cy0, A, Q⟩ := F
  obtain ⟨hnl, hcy, ⟨hx, hb, hml, hown, hts⟩, hK, hr, hlk, hN, hA, hR⟩ := C
  subst hcy
  have E : Q = MQ below (y_Q D cy0 A B) args s mc ms A := E
  subst E
  intro H locs ls q1 q2 q3 q4
  refine W.widen h1 h2 ?_
  exact W.lret hx hb hr (fun t ht hW => ⟨⟨_, g, rfl, hB, by rw [ht]; exact q2, va_K.moved hW.alike hK, q3⟩, q4.F ht⟩) q4.2.2 hd hlk
theorem y_aret {x : Nat} {rt : String} {mc ms : Nat} {B : Option Value → va_W → Prop} (C : y_X F cc own nl (some (.object rt)) R0 cy) (E : y_E F mc ms B) (h1 : kC ≤ mc) (h2 : kS ≤ ms) (hB : B (some (.ref x)) g) (hd : decode cc pc = .ok (.areturn, 1)) : y_W F kC kS pc lv [.ref x] g := by
  obtain ⟨p, l, e, R, s, m, args, below, meth, c, nL, D, cy0, A, Q⟩ := F
  obtain ⟨hnl, hcy, ⟨hx, hb, hml, hown, hts⟩, hK, hr, hlk, hN, hA, hR⟩ := C
  subst hcy
  have E : Q = MQ below (y_Q D cy0 A B) args s mc ms A := E
  subst E
  intro H locs ls q1 q2 q3 q4
  refine W.widen h1 h2 ?_
  exact W.aret hx hb hr (Or.inl ⟨_, rfl⟩) (Or.inr ⟨_, rfl⟩) (fun t ht hW => ⟨⟨_, g, rfl, hB, by rw [ht]; exact q2, va_K.moved hW.alike hK, q3⟩, q4.F ht⟩) q4.2.2 hd hlk
/-- the callee's cells stand first in the caller's world -/
theorem y_first {wc wr : va_W} : (List.range wc.length).map (fun i => (wc ++ wr)[i]?) = wc.map some := by
  apply List.ext_getElem?
  intro i
  by_cases h : i < wc.length
  · have e : (wc ++ wr)[i]? = wc[i]? := List.getElem?_append_left h
    simp [h, e]
  · simp [h]
theorem y_fr {A : Nat → Prop} {wc wr : va_W} {H0 H : Heap} {locs : List Loc} (hD : va_D A (wc ++ wr)) (hS : va_S A H0 H locs) (hA : ∀ q, H0.size ≤ q → A q) : ∀ q, va_A wc H.size q → A q := va_free hD hS hA (List.range wc.length) y_first
theorem y_joined {A0 : Nat → Prop} {D : va_G} {wc wr w1 : va_W} {H H1 : Heap} (hP : va_P D vwCl (wc ++ wr) H) (hD : va_D A0 (wc ++ wr))
    (hk : ∀ q : Nat, q < H.size → ¬ va_A wc H.size q → H1[q]? = H[q]?) (hF : ∀ q, va_A wc H.size q → A0 q) (hP1 : va_P D vwCl w1 H1) (hD1 : va_D (va_A wc H.size) w1) : va_P D vwCl (wr ++ w1) H1 ∧ va_D A0 (wr ++ w1) := by
  have apart : ∀ (k : Nat) (q : Nat × va_E), wr[k]? = some q → q.1 < H.size ∧ ¬ va_A wc H.size q.1 := by
    intro k q hq
    have h2 : (wc ++ wr)[k + wc.length]? = some q := by
      rw [List.getElem?_append_right (by omega), Nat.add_sub_cancel]
      exact hq
    have hl := (hP _ q h2).lt
    refine ⟨hl, fun h => ?_⟩
    rcases h with ⟨k2, e, h⟩ | h
    · have l2 := (List.getElem?_eq_some_iff.mp h).1
      have h4 : (wc ++ wr)[k2]? = some (q.1, e) := by rw [List.getElem?_append_left l2]; exact h
      have := hD.1 _ _ q (q.1, e) h2 h4 rfl
      omega
    · omega
  have hDr : va_D A0 wr := by
    refine ⟨fun i j p q hi hj hpq => ?_, fun k q hq => ?_⟩
    · have h2 : (wc ++ wr)[i + wc.length]? = some p := by rw [List.getElem?_append_right (by omega), Nat.add_sub_cancel]; exact hi
      have h3 : (wc ++ wr)[j + wc.length]? = some q := by rw [List.getElem?_append_right (by omega), Nat.add_sub_cancel]; exact hj
      have := hD.1 _ _ p q h2 h3 hpq
      omega
    · exact hD.2 (k + wc.length) q (by rw [List.getElem?_append_right (by omega), Nat.add_sub_cancel]; exact hq)
  refine ⟨va_P.app (fun k q hq => ?_) hP1, va_D.app hDr (hD1.weaken (fun k q _ h => hF q.1 h)) (fun i j x y hx hy hxy => ?_)⟩
  · have h2 : (wc ++ wr)[k + wc.length]? = some q := by
      rw [List.getElem?_append_right (by omega), Nat.add_sub_cancel]
      exact hq
    obtain ⟨g1, g2⟩ := apart k q hq
    exact (hP _ q h2).kept (hk q.1 g1 g2)
  · exact (apart i x hx).2 (by rw [hxy]; exact hD1.2 j y hy)
theorem y_sub1 {D : va_G} {wc wr : va_W} {H : Heap} (h : va_P D vwCl (wc ++ wr) H) : va_P D vwCl wc H := fun k q hq => h k q (by rw [List.getElem?_append_left (List.getElem?_eq_some_iff.mp hq).1]; exact hq)
theorem y_subD {A : Nat → Prop} {wc wr : va_W} (h : va_D A (wc ++ wr)) : va_D (fun _ => True) wc := ⟨fun i j p q hi hj hpq => h.1 i j p q (by rw [List.getElem?_append_left (List.getElem?_eq_some_iff.mp hi).1]; exact hi) (by rw [List.getElem?_append_left (List.getElem?_eq_some_iff.mp hj).1]; exact hj) hpq, fun _ _ _ => trivial⟩
/-- behind a call: the others' cells, then the callee's -/
theorem y_after {p : Program} {l : Launch} {e : Env} {R : Room} {s : State} {m : MethodId} {args : Array Value} {below : List Frame} {meth : Method} {c : Code} {H : Heap} {locs : List Loc} {Q : State → Prop} {ls : Array Slot} {rest st0 : List Value} {A : Nat → Prop} {D : va_G} {cy : Nat → ClassId} {nL mc ms : Nat} {wc wr : va_W} {Qa : State → Outcome → State → Prop} {B : Option Value → va_W → Prop}
    (hr : va_Run p l e R s m args below meth c H locs kC kS mc ms (F0 m pc ls st0) rest Qa (va_A wc H.size)) (hq : ∀ st0 oc t, Qa st0 oc t → (∃ (rv : Option Value) (w : va_W), oc = .returned rv ∧ B rv w ∧ va_P D vwCl w t.heap ∧ va_D (va_A wc H.size) w) ∧ va_F (va_A wc H.size) st0 t) (h1 : lv_has ls nL lv) (hP : va_P D vwCl (wc ++ wr) H) (hD : va_D A (wc ++ wr)) (hS : va_S A s.heap H locs) (hA : ∀ q, s.heap.size ≤ q → A q)
    (K : ∀ (rv : Option Value) (w : va_W), B rv w → y_W (p, l, e, R, s, m, args, below, meth, c, nL, D, cy, A, Q) (kC + mc) (kS + ms) (pc + 3) lv (rv.toList ++ rest) (wr ++ w)) : W p l e R s m args below meth c H locs kC kS Q (F0 m pc ls st0) := by
  have hf := y_fr hD hS hA
  intro T hT X
  obtain ⟨v, st₀, t, T', LL, h0, X', hL, e1, e2, hqa, stp⟩ := hr T hT X
  obtain ⟨⟨rv, w, hv, hB, hP1, hD1⟩, hz, hk⟩ := hq _ _ _ hqa
  cases hv
  rw [h0] at hz hk
  obtain ⟨j1, j2⟩ := y_joined (H1 := T'.heap) hP hD (fun q z1 z2 => by rw [e1]; exact hk q z1 z2) hf (by rw [e1]; exact hP1) hD1
  obtain ⟨t2, a1, b1⟩ := K _ w hB T'.heap (locs ++ LL) ls h1 j1 j2 ⟨Nat.le_trans hS.1 (by rw [e1]; exact hz), fun q q1 q2 => by rw [e1, hk q (Nat.lt_of_lt_of_le q1 hS.1) (fun z => q2 (hf q z))]; exact hS.2.1 q q1 q2, fun q hq => by
      rcases List.mem_append.mp hq with h | h
      · exact hS.2.2 q h
      · exact hf _ (hL q h)⟩ T' rfl X'
  exact ⟨t2, stp t2 a1, b1⟩
/-- the words of a maker's call -/
def y_CI (own : String) (index : Nat) (y : MethodName) (cc : ByteArray) (nL n : Nat) : Prop := Cond.code y cc nL none ∈ z_T ∧ Cond.methodLink own index y ∈ z_T ∧ Cond.instanceMethod y ∈ z_T ∧ y.name = "<init>" ∧ Cond.initialized y.cls ∈ z_T ∧ (y.cls ≠ "java/lang/invoke/MethodHandle" ∧ y.cls ≠ "java/lang/invoke/VarHandle" ∧ (parseMethodDescriptor y.desc).map (fun d => d.parameters.length) = some n)
def y_CIN (own : String) (index : Nat) (y : MethodName) (cc : ByteArray) (nL n : Nat) : Prop := Cond.code y cc nL none ∈ z_T ∧ (∀ s, y_N s → va_Nw (.methodLinkNest own index y "RunTogether") s) ∧ Cond.instanceMethod y ∈ z_T ∧ y.name = "<init>" ∧ Cond.initialized y.cls ∈ z_T ∧ (y.cls ≠ "java/lang/invoke/MethodHandle" ∧ y.cls ≠ "java/lang/invoke/VarHandle" ∧ (parseMethodDescriptor y.desc).map (fun d => d.parameters.length) = some n)
theorem y_callI {index n a : Nat} {y : MethodName} {cc' : ByteArray} {nL' fr' lo' mc ms : Nat} {As : List Value} {stk : List Value} {w0 : (Nat → ClassId) → va_W} {B : (Nat → ClassId) → Option Value → va_W → Prop} {wr : va_W} (rest : List Value) (C : y_X F cc own nl ret R0 cy) (hw : y_CI own index y cc' nL' n) (hn : As.length = n) (hrm : fr' + 1 ≤ R0.frames ∧ 8 + (nL' + 11) + lo' ≤ R0.locals) (hst : (rest.map fun v => v.category).sum ≤ 8) (hc : kC + mc ≤ R0.cells ∧ kS + ms ≤ R0.slots) (hd : decode cc pc = .ok (.invokespecial index, 3)) (hs : stk = As.reverse ++ .ref a :: rest) (hg : g = w0 cy ++ wr) (M : y_M y cc' nL' none fr' lo' mc ms (.ref a :: As) w0 B) (K : ∀ (rv : Option Value) (w : va_W), B cy rv w → y_W F (kC + mc) (kS + ms) (pc + 3) lv (rv.toList ++ rest) (wr ++ w)) : y_W F kC kS pc lv stk g := by
  subst hs
  subst hg
  obtain ⟨w1, w2, w3, w4, w5, w6⟩ := hw
  obtain ⟨p, l, e, R, s, m, args, below, meth, c, nL, D, cy0, A, Q⟩ := F
  obtain ⟨hnl, hcy, ⟨hx, hb, hml, hown, hts⟩, hK, hr, hlk, hN, hA, hR⟩ := C
  subst hnl
  subst hcy
  subst hR
  intro H locs ls h1 h2 h3 h4
  have cb : CallB R s args own index y cc' nL' none (Cond.code y cc' nL' none :: z_T) { frames := fr', cells := mc, slots := ms, locals := lo' } mc ms n := callB_of n hts (z_good0 w1) rfl rfl rfl (hts _ w5) (hts _ w2) w6 hrm
  refine y_after (D := D) (cy := cy0) (B := B cy0) (va_runI (As := As) (rest := rest) (b := a) ⟨hx, hb, hml, hown, hts⟩ (M l D cy0 H.size) ⟨cb, w4, hts _ w3⟩ ⟨fun a' U gg mk q => ?_, fun U hU hW => ⟨rfl, by rw [hU], by rw [hU]; exact y_sub1 h2, va_K.moved hW.alike hK, y_subD h3, y_N.warm hW hN⟩⟩ rfl hn h1.1 rfl (lv_room hst) hd hc) ?_ h1 h2 h3 h4 hA K
  · obtain ⟨q0, q1, qP, qK, qD, qN⟩ := q
    exact ⟨q0, q1, qP, va_K.moved (u := U) (U := U.calling gg mk a') (Vm.Alike.refl U.vm) qK, qD, y_N.same rfl qN⟩
  · rintro st0 oc t ⟨⟨rv, w, z1, z2, z3, z4, z5⟩, z6⟩
    exact ⟨⟨rv, w, z1, z2, z3, z5⟩, z6⟩
theorem y_callIN {index n a : Nat} {y : MethodName} {cc' : ByteArray} {nL' fr' lo' mc ms : Nat} {As : List Value} {stk : List Value} {w0 : (Nat → ClassId) → va_W} {B : (Nat → ClassId) → Option Value → va_W → Prop} {wr : va_W} (rest : List Value) (C : y_X F cc own nl ret R0 cy) (hw : y_CIN own index y cc' nL' n) (hn : As.length = n) (hrm : fr' + 1 ≤ R0.frames ∧ 8 + (nL' + 11) + lo' ≤ R0.locals) (hst : (rest.map fun v => v.category).sum ≤ 8) (hc : kC + mc ≤ R0.cells ∧ kS + ms ≤ R0.slots) (hd : decode cc pc = .ok (.invokespecial index, 3)) (hs : stk = As.reverse ++ .ref a :: rest) (hg : g = w0 cy ++ wr) (M : y_M y cc' nL' none fr' lo' mc ms (.ref a :: As) w0 B) (K : ∀ (rv : Option Value) (w : va_W), B cy rv w → y_W F (kC + mc) (kS + ms) (pc + 3) lv (rv.toList ++ rest) (wr ++ w)) : y_W F kC kS pc lv stk g := by
  subst hs
  subst hg
  obtain ⟨w1, w2, w3, w4, w5, w6⟩ := hw
  obtain ⟨p, l, e, R, s, m, args, below, meth, c, nL, D, cy0, A, Q⟩ := F
  obtain ⟨hnl, hcy, ⟨hx, hb, hml, hown, hts⟩, hK, hr, hlk, hN, hA, hR⟩ := C
  subst hnl
  subst hcy
  subst hR
  intro H locs ls h1 h2 h3 h4
  have cb := va_cnB (args := args) (own := own) (host := "RunTogether") (index := index) (maxL := nL') (mc := mc) (ms := ms) (y := y) (bytes := cc') (ret := none) (rm := { frames := fr', cells := mc, slots := ms, locals := lo' }) (R := R) n hts (z_good0 w1) rfl rfl rfl (w2 s hN) (hts _ w5) w6 hrm
  refine y_after (D := D) (cy := cy0) (B := B cy0) (va_runIN (As := As) (rest := rest) (b := a) ⟨hx, hb, hml, hown, hts⟩ (M l D cy0 H.size) ⟨cb, w4, hts _ w3⟩ ⟨fun a' U gg mk q => ?_, fun U hU hW => ⟨rfl, by rw [hU], by rw [hU]; exact y_sub1 h2, va_K.moved hW.alike hK, y_subD h3, y_N.warm hW hN⟩⟩ rfl hn h1.1 rfl (lv_room hst) hd hc) ?_ h1 h2 h3 h4 hA K
  · obtain ⟨q0, q1, qP, qK, qD, qN⟩ := q
    exact ⟨q0, q1, qP, va_K.moved (u := U) (U := U.calling gg mk a') (Vm.Alike.refl U.vm) qK, qD, y_N.same rfl qN⟩
  · rintro st0 oc t ⟨⟨rv, w, z1, z2, z3, z4, z5⟩, z6⟩
    exact ⟨⟨rv, w, z1, z2, z3, z5⟩, z6⟩
/-- a method of the object a, of the class of that name, which is among the callee's cells; its contract makes cells -/
theorem y_callV {index n a ix ci : Nat} {fs : List Value} {T : u_T} {tn : Nat} {y : MethodName} {cc' : ByteArray} {nL' fr' lo' mc ms : Nat} {ret' : Option FieldType} {As : List Value} {stk : List Value} {w0 : (Nat → ClassId) → va_W} {B : (Nat → ClassId) → Option Value → va_W → Prop} {wr : va_W} (rest : List Value) (C : y_X F cc own nl ret R0 cy) (hw : z_CV own index y cc' nL' ret' n) (ho : (w0 cy)[ix]? = some (a, .inr (ci, fs))) (hcl : vwCl[ci]? = some (y.cls, T, tn)) (hn : As.length = n) (hrm : fr' + 1 ≤ R0.frames ∧ 8 + (nL' + 11) + lo' ≤ R0.locals) (hst : (rest.map fun v => v.category).sum ≤ 8) (hc : kC + mc ≤ R0.cells ∧ kS + ms ≤ R0.slots) (hd : decode cc pc = .ok (.invokevirtual index, 3)) (hs : stk = As.reverse ++ .ref a :: rest) (hg : g = w0 cy ++ wr) (M : y_M y cc' nL' ret' fr' lo' mc ms (.ref a :: As) w0 B) (K : ∀ (rv : Option Value) (w : va_W), B cy rv w → y_W F (kC + mc) (kS + ms) (pc + 3) lv (rv.toList ++ rest) (wr ++ w)) : y_W F kC kS pc lv stk g := by
  subst hs
  subst hg
  obtain ⟨w1, w2, w3, w4, w5, w6⟩ := hw
  obtain ⟨p, l, e, R, s, m, args, below, meth, c, nL, D, cy0, A, Q⟩ := F
  obtain ⟨hnl, hcy, ⟨hx, hb, hml, hown, hts⟩, hK, hr, hlk, hN, hA, hR⟩ := C
  subst hnl
  subst hcy
  subst hR
  intro H locs ls h1 h2 h3 h4
  have cb : CallB R s args own index y cc' nL' ret' (Cond.code y cc' nL' ret' :: z_T) { frames := fr', cells := mc, slots := ms, locals := lo' } mc ms n := callB_of n hts (z_good0 w1) rfl rfl rfl (hts _ w5) (hts _ w2) w6 hrm
  refine y_after (D := D) (cy := cy0) (B := B cy0) (va_runV (As := As) (rest := rest) (C := y.cls) (b := a) ⟨hx, hb, hml, hown, hts⟩ (M l D cy0 H.size) ⟨cb, hts _ w3, hts _ w4⟩ ⟨fun a' U gg mk q => ?_, va_recv hK (y_sub1 h2) hcl ho, fun U hU hW => ⟨rfl, by rw [hU], by rw [hU]; exact y_sub1 h2, va_K.moved hW.alike hK, y_subD h3, y_N.warm hW hN⟩⟩ rfl hn h1.1 rfl (lv_room hst) hd hc) ?_ h1 h2 h3 h4 hA K
  · obtain ⟨q0, q1, qP, qK, qD, qN⟩ := q
    exact ⟨q0, q1, qP, va_K.moved (u := U) (U := U.calling gg mk a') (Vm.Alike.refl U.vm) qK, qD, y_N.same rfl qN⟩
  · rintro st0 oc t ⟨⟨rv, w, z1, z2, z3, z4, z5⟩, z6⟩
    exact ⟨⟨rv, w, z1, z2, z3, z5⟩, z6⟩
/-- a method whose contract makes no cell -/
theorem y_callZ {index n o : Nat} {L : Nat → z_C} {N : Nat} {ad : Nat → Nat} {g0 g1 : z_S} {y : MethodName} {cc' : ByteArray} {nL' fr' lo' : Nat} {ret' : Option FieldType} {As : List Value} {rv1 : Option Value} {stk : List Value} {wr : va_W} (rest : List Value) (C : y_X F cc own nl ret R0 cy) (hw : z_CV own index y cc' nL' ret' n) (ho : z_ok L N o y.cls) (hn : As.length = n) (hrm : fr' + 1 ≤ R0.frames ∧ 8 + (nL' + 11) + lo' ≤ R0.locals) (hst : (rest.map fun v => v.category).sum ≤ 8) (hc : kC ≤ R0.cells ∧ kS ≤ R0.slots) (hd : decode cc pc = .ok (.invokevirtual index, 3)) (hs : stk = As.reverse ++ .ref (ad o) :: rest) (hg : g = z_w L N ad cy g0 ++ wr) (M : z_M y cc' nL' ret' fr' lo' L N ad (.ref (ad o) :: As) g0 rv1 g1) (K : y_W F kC kS (pc + 3) lv (rv1.toList ++ rest) (wr ++ z_w L N ad cy g1)) : y_W F kC kS pc lv stk g := by
  subst hs
  subst hg
  obtain ⟨w1, w2, w3, w4, w5, w6⟩ := hw
  obtain ⟨hoN, ci, ks, T, nn, hL, hcl⟩ := ho
  obtain ⟨p, l, e, R, s, m, args, below, meth, c, nL, D, cy0, A, Q⟩ := F
  obtain ⟨hnl, hcy, ⟨hx, hb, hml, hown, hts⟩, hK, hr, hlk, hN, hA, hR⟩ := C
  subst hnl
  subst hcy
  subst hR
  intro H locs ls h1 h2 h3 h4
  have he : (z_w L N ad cy0 g0)[o]? = some (ad o, .inr (ci, z_fs ad g0 o ks)) := by rw [z_w_get hoN, hL]; rfl
  have cb : CallB R s args own index y cc' nL' ret' (Cond.code y cc' nL' ret' :: z_T) { frames := fr', cells := 0, slots := 0, locals := lo' } 0 0 n := callB_of n hts (z_good0 w1) rfl rfl rfl (hts _ w5) (hts _ w2) w6 hrm
  refine y_after (D := D) (cy := cy0) (mc := 0) (ms := 0) (B := fun rv w => rv = rv1 ∧ w = z_w L N ad cy0 g1) (va_runV (As := As) (rest := rest) (C := y.cls) (b := ad o) ⟨hx, hb, hml, hown, hts⟩ (M l D cy0 H.size) ⟨cb, hts _ w3, hts _ w4⟩ ⟨fun a' U gg mk q => ?_, va_recv hK (y_sub1 h2) hcl he, fun U hU hW => ⟨rfl, by rw [hU], by rw [hU]; exact y_sub1 h2, va_K.moved hW.alike hK, y_subD h3, z_N.warm hW hN.1⟩⟩ rfl hn h1.1 rfl (lv_room hst) hd hc) ?_ h1 h2 h3 h4 hA ?_
  · obtain ⟨q0, q1, qP, qK, qD, qN⟩ := q
    exact ⟨q0, q1, qP, va_K.moved (u := U) (U := U.calling gg mk a') (Vm.Alike.refl U.vm) qK, qD, z_N.same rfl qN⟩
  · rintro st0 oc t ⟨⟨z1, z3, z4, z5⟩, z6⟩
    exact ⟨⟨rv1, _, z1, ⟨rfl, rfl⟩, z3, z5⟩, z6⟩
  · rintro rv w ⟨rfl, rfl⟩
    exact K
end YR

/-! The compact layer: a world is a fixed layout of cells at addresses ad 0, ad 1, ..; its state is two functions (ints, longs), by cell and place.
z_W: the machine at pc with known locals and stack, in that world, comes to its end. One rule an instruction. -/
abbrev z_S : Type := (Nat → Nat → Int32) × (Nat → Nat → Int64)
abbrev z_C : Type := (Nat × List (Nat × Nat)) ⊕ (Nat × Nat × List Nat)
def z_v (ad : Nat → Nat) (g : z_S) (o k : Nat) (kd : Nat × Nat) : Value := match kd with
  | (0, _) => .int (g.1 o k)
  | (1, _) => .long (g.2 o k)
  | (2, r) => .ref (ad r)
  | _ => .null
def z_fs (ad : Nat → Nat) (g : z_S) (o : Nat) (ks : List (Nat × Nat)) : List Value := ks.mapIdx (fun k kd => z_v ad g o k kd)
def z_ar (ad : Nat → Nat) (g : z_S) (o t : Nat) (rs : List Nat) : (Nat → Int32) ⊕ (Nat → Int64) ⊕ (Nat → UInt32) ⊕ (Nat → UInt64) ⊕ (Nat → Option Nat) := match t with
  | 1 => .inr (.inl (g.2 o))
  | 3 => .inr (.inr (.inr (.inr (fun i => (rs[i]?).map ad))))
  | _ => .inl (g.1 o)
def z_e (ad : Nat → Nat) (cy : Nat → ClassId) (g : z_S) (o : Nat) (d : z_C) : va_E := match d with
  | .inl (ci, ks) => .inr (ci, z_fs ad g o ks)
  | .inr (t, n, rs) => .inl (cy t, n, z_ar ad g o t rs)
def z_w (L : Nat → z_C) (N : Nat) (ad : Nat → Nat) (cy : Nat → ClassId) (g : z_S) : va_W := (List.range N).map (fun o => (ad o, z_e ad cy g o (L o)))
def z_tys (cy : Nat → ClassId) : List (ClassId × FieldType) := [(cy 0, .int), (cy 1, .long), (cy 2, .boolean), (cy 3, .object "RunTogether$Row")]
def z_wi (g : z_S) (o k : Nat) (x : Int32) : z_S := (fun a j => if a = o ∧ j = k then x else g.1 a j, g.2)
def z_wl (g : z_S) (o k : Nat) (x : Int64) : z_S := (g.1, fun a j => if a = o ∧ j = k then x else g.2 a j)
theorem z_w_get {L : Nat → z_C} {N : Nat} {ad : Nat → Nat} {cy : Nat → ClassId} {g : z_S} {o : Nat} (h : o < N) : (z_w L N ad cy g)[o]? = some (ad o, z_e ad cy g o (L o)) := by
  simp [z_w, h]
theorem z_e_congr {ad : Nat → Nat} {cy : Nat → ClassId} {g g' : z_S} {o : Nat} (h1 : g'.1 o = g.1 o) (h2 : g'.2 o = g.2 o) (d : z_C) : z_e ad cy g' o d = z_e ad cy g o d := by
  rcases d with ⟨ci, ks⟩ | ⟨t, n, rs⟩
  · have : z_fs ad g' o ks = z_fs ad g o ks := by
      unfold z_fs
      congr 1
      funext k kd
      rcases kd with ⟨a, b⟩
      unfold z_v
      split <;> simp_all
    simp [z_e, this]
  · have : z_ar ad g' o t rs = z_ar ad g o t rs := by
      unfold z_ar
      split <;> simp_all
    simp [z_e, this]
theorem z_w_set {L : Nat → z_C} {N : Nat} {ad : Nat → Nat} {cy : Nat → ClassId} {g g' : z_S} {o : Nat} {e : va_E} (he : e = z_e ad cy g' o (L o)) (h : ∀ a, a ≠ o → g'.1 a = g.1 a ∧ g'.2 a = g.2 a) : (z_w L N ad cy g).set o (ad o, e) = z_w L N ad cy g' := by
  subst he
  apply List.ext_getElem?
  intro i
  rw [List.getElem?_set]
  by_cases hi : o = i
  · subst hi
    by_cases hN : o < N
    · simp [z_w, hN]
    · simp [z_w, hN]
  · rw [if_neg hi]
    by_cases hN : i < N
    · rw [z_w_get hN, z_w_get hN, z_e_congr (h i (fun q => hi q.symm)).1 (h i (fun q => hi q.symm)).2]
    · simp [z_w, hN]
theorem z_wi_off {g : z_S} {o k : Nat} {x : Int32} : ∀ a, a ≠ o → (z_wi g o k x).1 a = g.1 a ∧ (z_wi g o k x).2 a = g.2 a := by
  intro a h
  refine ⟨?_, rfl⟩
  funext j
  simp [z_wi, h]
theorem z_wl_off {g : z_S} {o k : Nat} {x : Int64} : ∀ a, a ≠ o → (z_wl g o k x).1 a = g.1 a ∧ (z_wl g o k x).2 a = g.2 a := by
  intro a h
  refine ⟨rfl, ?_⟩
  funext j
  simp [z_wl, h]
theorem z_fs_get {ad : Nat → Nat} {g : z_S} {o k : Nat} {ks : List (Nat × Nat)} {kd : Nat × Nat} (h : ks[k]? = some kd) : (z_fs ad g o ks)[k]? = some (z_v ad g o k kd) := by
  simp [z_fs, h]
theorem z_fs_seti {ad : Nat → Nat} {g : z_S} {o k r : Nat} {ks : List (Nat × Nat)} {x : Int32} (h : ks[k]? = some (0, r)) : (z_fs ad g o ks).set k (.int x) = z_fs ad (z_wi g o k x) o ks := by
  apply List.ext_getElem?
  intro i
  rw [List.getElem?_set]
  by_cases hi : k = i
  · subst hi
    rw [if_pos rfl, z_fs_get h]
    have : k < (z_fs ad g o ks).length := by
      have := (List.getElem?_eq_some_iff.mp h).1
      simpa [z_fs] using this
    simp [this, z_v, z_wi]
  · rw [if_neg hi]
    simp only [z_fs, List.getElem?_mapIdx]
    cases hk : ks[i]? with
    | none => rfl
    | some kd =>
      rcases kd with ⟨a, b⟩
      simp only [Option.map_some]
      congr 1
      unfold z_v
      have : ¬ i = k := fun q => hi q.symm
      split <;> simp_all [z_wi]
theorem z_fs_setl {ad : Nat → Nat} {g : z_S} {o k r : Nat} {ks : List (Nat × Nat)} {x : Int64} (h : ks[k]? = some (1, r)) : (z_fs ad g o ks).set k (.long x) = z_fs ad (z_wl g o k x) o ks := by
  apply List.ext_getElem?
  intro i
  rw [List.getElem?_set]
  by_cases hi : k = i
  · subst hi
    rw [if_pos rfl, z_fs_get h]
    have : k < (z_fs ad g o ks).length := by
      have := (List.getElem?_eq_some_iff.mp h).1
      simpa [z_fs] using this
    simp [this, z_v, z_wl]
  · rw [if_neg hi]
    simp only [z_fs, List.getElem?_mapIdx]
    cases hk : ks[i]? with
    | none => rfl
    | some kd =>
      rcases kd with ⟨a, b⟩
      simp only [Option.map_some]
      congr 1
      unfold z_v
      have : ¬ i = k := fun q => hi q.symm
      split <;> simp_all [z_wl]
/-- the words that all methods use -/
def z_T : List Cond := lw_tbl.filter goodWord
theorem z_T_in {w : Cond} (h : w ∈ lw_tbl) (hg : goodWord w = true) : w ∈ z_T := List.mem_filter.mpr ⟨h, hg⟩
theorem z_good {a : Cond} {b : Cond} (h : b ∈ z_T) : GoodIn (a :: z_T) (b :: z_T) := by
  intro w hw
  have : w ∈ z_T := by
    rcases List.mem_cons.mp hw with rfl | hw
    · exact h
    · exact hw
  exact ⟨List.mem_cons_of_mem _ this, good_of_word (List.mem_filter.mp this).2⟩
theorem z_good0 {b : Cond} (h : b ∈ z_T) : GoodIn z_T (b :: z_T) := by
  intro w hw
  have : w ∈ z_T := by
    rcases List.mem_cons.mp hw with rfl | hw
    · exact h
    · exact hw
  exact ⟨this, good_of_word (List.mem_filter.mp this).2⟩
/-- the two calls of a nest mate's private method, outside the makers -/
def z_N (U : State) : Prop := va_Nw (.methodLinkNest RX5 66 yX10_addCapped "RunTogether") U ∧ va_Nw (.methodLinkNest RX2 135 yX10_codeOf "RunTogether") U
theorem z_N.warm {s U : State} (hW : s.WarmedH U.vm) (h : z_N s) : z_N U := ⟨va_Nw.warmM hW h.1, va_Nw.warmM hW h.2⟩
theorem z_N.same {s U : State} (hv : s.vm = U.vm) (h : z_N s) : z_N U := ⟨va_Nw.same rfl hv h.1, va_Nw.same rfl hv h.2⟩
/-- a method's end -/
def z_Q (D : va_G) (cy : Nat → ClassId) (L : Nat → z_C) (N : Nat) (ad : Nat → Nat) (A : Nat → Prop) (rv : Option Value) (g : z_S) : Array Value → State → Outcome → State → Prop := fun _ st oc t =>
  (oc = .returned rv ∧ va_P D vwCl (z_w L N ad cy g) t.heap ∧ va_K D vwCl (z_tys cy) t ∧ va_D A (z_w L N ad cy g)) ∧ va_F A st t
/-- a method's contract: from the state g with these arguments it returns rv and leaves g' -/
def z_M (y : MethodName) (cc : ByteArray) (nL : Nat) (ret : Option FieldType) (fr lo : Nat) (L : Nat → z_C) (N : Nat) (ad : Nat → Nat) (as : List Value) (g : z_S) (rv : Option Value) (g' : z_S) : Prop :=
  ∀ (l : Launch) (D : va_G) (cy : Nat → ClassId) (sz : Nat), Met l y (.code y cc nL ret :: z_T) { frames := fr, cells := 0, slots := 0, locals := lo }
    (va_Pc as (fun U => U.heap.size = sz ∧ va_P D vwCl (z_w L N ad cy g) U.heap ∧ va_K D vwCl (z_tys cy) U ∧ va_D (fun _ => True) (z_w L N ad cy g) ∧ z_N U))
    (z_Q D cy L N ad (va_A (z_w L N ad cy g) sz) rv g') 0 0 (va_A (z_w L N ad cy g) sz)
/-- the fixed things of a walk -/
abbrev z_F : Type := Program × Launch × Env × Room × State × MethodId × Array Value × List Frame × Method × Code × Nat × va_G × (Nat → ClassId) × (Nat → Prop) × (State → Prop)
def z_W (F : z_F) (L : Nat → z_C) (N : Nat) (ad : Nat → Nat) (pc : Nat) (lv : List (Nat × Value)) (st : List Value) (g : z_S) : Prop := match F with
  | (p, l, e, R, s, m, args, below, meth, c, nL, D, cy, A, Q) => ∀ (H : Heap) (locs : List Loc) (ls : Array Slot), lv_has ls nL lv → va_P D vwCl (z_w L N ad cy g) H → va_D A (z_w L N ad cy g) → va_S A s.heap H locs →
    W p l e R s m args below meth c H locs 0 0 Q (F0 m pc ls st)
def z_X (F : z_F) (L : Nat → z_C) (N : Nat) (ad : Nat → Nat) (cc : ByteArray) (own : String) (nl : Nat) (ret : Option FieldType) (fr lo : Nat) (rv : Option Value) (gE : z_S) : Prop := match F with
  | (p, _, _, R, s, m, args, below, meth, c, nL, D, cy, A, Q) => nL = nl ∧ CallFix p m c cc nL s args (z_T) own ∧ va_K D vwCl (z_tys cy) s ∧ meth.sig.returnType = ret ∧ meth.locks = false ∧ z_N s ∧ (∀ q, s.heap.size ≤ q → A q) ∧ R = { frames := fr, cells := 0, slots := 0, locals := lo } ∧ Q = MQ below (z_Q D cy L N ad A rv gE) args s 0 0 A
theorem z_wA {L : Nat → z_C} {N : Nat} {ad : Nat → Nat} {cy : Nat → ClassId} {g g' : z_S} {sz : Nat} : va_A (z_w L N ad cy g) sz = va_A (z_w L N ad cy g') sz := by
  have key : ∀ (g1 g2 : z_S) (q : Nat), va_A (z_w L N ad cy g1) sz q → va_A (z_w L N ad cy g2) sz q := by
    intro g1 g2 q h
    rcases h with ⟨k, e, h⟩ | h
    · left
      by_cases hk : k < N
      · rw [z_w_get hk] at h
        obtain ⟨rfl, rfl⟩ := Prod.mk.inj (Option.some.inj h)
        exact ⟨k, _, z_w_get hk⟩
      · simp [z_w, hk] at h
    · exact Or.inr h
  funext q
  exact propext ⟨key _ _ q, key _ _ q⟩
/-- the walk of a body gives the contract -/
theorem z_enter {y : MethodName} {cc : ByteArray} {nL : Nat} {ret : Option FieldType} {fr lo : Nat} {L : Nat → z_C} {N : Nat} {ad : Nat → Nat} {as : List Value} {g : z_S} {rv : Option Value} {g' : z_S}
    (hy : plainName y.cls = true) (hlen : (lg_sl as).length ≤ nL) (body : ∀ F : z_F, z_X F L N ad cc y.cls nL ret fr lo rv g' → z_W F L N ad 0 (lv_args 0 as) [] g) : z_M y cc nL ret fr lo L N ad as g rv g' := by
  intro l D cy sz
  refine Met.ofW (cc := cc) (maxL := nL) (ret := ret) hy rfl ?_
  intro p e s m args below meth c s₁ B hml hv
  obtain ⟨rfl, hsz, hP, hK, hD0, hN⟩ := hv
  have hts := atoms_spec (ws := .code y cc nL ret :: z_T) B.pre
  have hown : s.vm.findClass y.cls = some m.cls := findClass_of_methodNamed B.named
  subst hsz
  have hD := hD0.self (sz := s.heap.size)
  rw [lg_entry_eq]
  exact body (p, l, e, _, s, m, as.toArray, below, meth, c, nL, D, cy, va_A (z_w L N ad cy g) s.heap.size, _) ⟨rfl, ⟨B.exec, B.bytes, hml, hown, fun w h => hts w (List.mem_cons_of_mem _ h)⟩, hK, B.returns, B.notSynchronized, hN, fun q h => Or.inr h, rfl, rfl⟩ s.heap [] _ (lv_entry as hlen) hP hD va_S.rf
section ZR
variable {F : z_F} {L : Nat → z_C} {N : Nat} {ad : Nat → Nat} {cc : ByteArray} {own : String} {nl : Nat} {ret : Option FieldType} {fr lo : Nat} {rv : Option Value} {gE : z_S} {pc : Nat} {lv lv' : List (Nat × Value)} {st : List Value} {g : z_S}
/-- fewer known locals -/
theorem z_loc (ks : List Nat) (hl : lv_pick lv ks = lv') (K : z_W F L N ad pc lv' st g) : z_W F L N ad pc lv st g := by
  obtain ⟨p, l, e, R, s, m, args, below, meth, c, nL, D, cy, A, Q⟩ := F
  exact fun H locs ls h1 h2 h3 h4 => K H locs ls (lv_sub h1 ks hl) h2 h3 h4
theorem z_iconst {n : Int} {v : Int32} (C : z_X F L N ad cc own nl ret fr lo rv gE) (hd : decode cc pc = .ok (.iconst n, 1)) (hv : Int32.ofInt n = v) (K : z_W F L N ad (pc + 1) lv (.int v :: st) g) : z_W F L N ad pc lv (st) g := by
  obtain ⟨p, l, e, R, s, m, args, below, meth, c, nL, D, cy, A, Q⟩ := F
  obtain ⟨hnl, ⟨hx, hb, hml, hown, hts⟩, hK, hr, hlk, hN, hA, hR, hQ⟩ := C
  subst hnl
  exact fun H locs ls h1 h2 h3 h4 => lv_iconst hx hb hd hv (K H locs ls h1 h2 h3 h4)
theorem z_bipush {n : Int} {v : Int32} (C : z_X F L N ad cc own nl ret fr lo rv gE) (hd : decode cc pc = .ok (.bipush n, 2)) (hv : (Int8.ofInt n).toInt32 = v) (K : z_W F L N ad (pc + 2) lv (.int v :: st) g) : z_W F L N ad pc lv (st) g := by
  obtain ⟨p, l, e, R, s, m, args, below, meth, c, nL, D, cy, A, Q⟩ := F
  obtain ⟨hnl, ⟨hx, hb, hml, hown, hts⟩, hK, hr, hlk, hN, hA, hR, hQ⟩ := C
  subst hnl
  exact fun H locs ls h1 h2 h3 h4 => lv_bipush hx hb hd hv (K H locs ls h1 h2 h3 h4)
theorem z_sipush {n : Int} {v : Int32} (C : z_X F L N ad cc own nl ret fr lo rv gE) (hd : decode cc pc = .ok (.sipush n, 3)) (hv : (Int16.ofInt n).toInt32 = v) (K : z_W F L N ad (pc + 3) lv (.int v :: st) g) : z_W F L N ad pc lv (st) g := by
  obtain ⟨p, l, e, R, s, m, args, below, meth, c, nL, D, cy, A, Q⟩ := F
  obtain ⟨hnl, ⟨hx, hb, hml, hown, hts⟩, hK, hr, hlk, hN, hA, hR, hQ⟩ := C
  subst hnl
  exact fun H locs ls h1 h2 h3 h4 => lv_sipush hx hb hd hv (K H locs ls h1 h2 h3 h4)
theorem z_lconst {n : Fin 2} {v : Int64} (C : z_X F L N ad cc own nl ret fr lo rv gE) (hd : decode cc pc = .ok (.lconst n, 1)) (hv : Int64.ofNat (n : Nat) = v) (K : z_W F L N ad (pc + 1) lv (.long v :: st) g) : z_W F L N ad pc lv (st) g := by
  obtain ⟨p, l, e, R, s, m, args, below, meth, c, nL, D, cy, A, Q⟩ := F
  obtain ⟨hnl, ⟨hx, hb, hml, hown, hts⟩, hK, hr, hlk, hN, hA, hR, hQ⟩ := C
  subst hnl
  exact fun H locs ls h1 h2 h3 h4 => lv_lconst hx hb hd hv (K H locs ls h1 h2 h3 h4)
theorem z_ldc {index : Nat} {v : Int32} (C : z_X F L N ad cc own nl ret fr lo rv gE) (hd : decode cc pc = .ok (.ldc index, 2)) (hw : Cond.constant own index v ∈ z_T) (K : z_W F L N ad (pc + 2) lv (.int v :: st) g) : z_W F L N ad pc lv (st) g := by
  obtain ⟨p, l, e, R, s, m, args, below, meth, c, nL, D, cy, A, Q⟩ := F
  obtain ⟨hnl, ⟨hx, hb, hml, hown, hts⟩, hK, hr, hlk, hN, hA, hR, hQ⟩ := C
  subst hnl
  exact fun H locs ls h1 h2 h3 h4 => lv_ldc hx hb hown (hts _ hw) hd (K H locs ls h1 h2 h3 h4)
theorem z_ldc2 {index : Nat} {v : Int64} (C : z_X F L N ad cc own nl ret fr lo rv gE) (hd : decode cc pc = .ok (.ldc2_w index, 3)) (hw : Cond.constantLong own index v ∈ z_T) (K : z_W F L N ad (pc + 3) lv (.long v :: st) g) : z_W F L N ad pc lv (st) g := by
  obtain ⟨p, l, e, R, s, m, args, below, meth, c, nL, D, cy, A, Q⟩ := F
  obtain ⟨hnl, ⟨hx, hb, hml, hown, hts⟩, hK, hr, hlk, hN, hA, hR, hQ⟩ := C
  subst hnl
  exact fun H locs ls h1 h2 h3 h4 => lv_ldc2 hx hb hown (hts _ hw) hd (K H locs ls h1 h2 h3 h4)
theorem z_iload_n {k : Fin 4} {i : Nat} {x : Int32} (C : z_X F L N ad cc own nl ret fr lo rv gE) (hd : decode cc pc = .ok (.iload_n k, 1)) (hi : (k : Nat) = i) (q : Nat) (hl : lv[q]? = some (i, .int x)) (K : z_W F L N ad (pc + 1) lv (.int x :: st) g) : z_W F L N ad pc lv (st) g := by
  obtain ⟨p, l, e, R, s, m, args, below, meth, c, nL, D, cy, A, Q⟩ := F
  obtain ⟨hnl, ⟨hx, hb, hml, hown, hts⟩, hK, hr, hlk, hN, hA, hR, hQ⟩ := C
  subst hnl
  exact fun H locs ls h1 h2 h3 h4 => lv_iload_n hx hb hd hi (lv_at h1 q hl) (K H locs ls h1 h2 h3 h4)
theorem z_iload {i : Nat} {x : Int32} (C : z_X F L N ad cc own nl ret fr lo rv gE) (hd : decode cc pc = .ok (.iload i, 2)) (q : Nat) (hl : lv[q]? = some (i, .int x)) (K : z_W F L N ad (pc + 2) lv (.int x :: st) g) : z_W F L N ad pc lv (st) g := by
  obtain ⟨p, l, e, R, s, m, args, below, meth, c, nL, D, cy, A, Q⟩ := F
  obtain ⟨hnl, ⟨hx, hb, hml, hown, hts⟩, hK, hr, hlk, hN, hA, hR, hQ⟩ := C
  subst hnl
  exact fun H locs ls h1 h2 h3 h4 => lv_iload hx hb hd (lv_at h1 q hl) (K H locs ls h1 h2 h3 h4)
theorem z_lload_n {k : Fin 4} {i : Nat} {x : Int64} (C : z_X F L N ad cc own nl ret fr lo rv gE) (hd : decode cc pc = .ok (.lload_n k, 1)) (hi : (k : Nat) = i) (q : Nat) (hl : lv[q]? = some (i, .long x)) (K : z_W F L N ad (pc + 1) lv (.long x :: st) g) : z_W F L N ad pc lv (st) g := by
  obtain ⟨p, l, e, R, s, m, args, below, meth, c, nL, D, cy, A, Q⟩ := F
  obtain ⟨hnl, ⟨hx, hb, hml, hown, hts⟩, hK, hr, hlk, hN, hA, hR, hQ⟩ := C
  subst hnl
  exact fun H locs ls h1 h2 h3 h4 => lv_lload_n hx hb hd hi (lv_at h1 q hl) (K H locs ls h1 h2 h3 h4)
theorem z_lload {i : Nat} {x : Int64} (C : z_X F L N ad cc own nl ret fr lo rv gE) (hd : decode cc pc = .ok (.lload i, 2)) (q : Nat) (hl : lv[q]? = some (i, .long x)) (K : z_W F L N ad (pc + 2) lv (.long x :: st) g) : z_W F L N ad pc lv (st) g := by
  obtain ⟨p, l, e, R, s, m, args, below, meth, c, nL, D, cy, A, Q⟩ := F
  obtain ⟨hnl, ⟨hx, hb, hml, hown, hts⟩, hK, hr, hlk, hN, hA, hR, hQ⟩ := C
  subst hnl
  exact fun H locs ls h1 h2 h3 h4 => lv_lload hx hb hd (lv_at h1 q hl) (K H locs ls h1 h2 h3 h4)
theorem z_aload_n {k : Fin 4} {i : Nat} {x : Nat} (C : z_X F L N ad cc own nl ret fr lo rv gE) (hd : decode cc pc = .ok (.aload_n k, 1)) (hi : (k : Nat) = i) (q : Nat) (hl : lv[q]? = some (i, .ref x)) (K : z_W F L N ad (pc + 1) lv (.ref x :: st) g) : z_W F L N ad pc lv (st) g := by
  obtain ⟨p, l, e, R, s, m, args, below, meth, c, nL, D, cy, A, Q⟩ := F
  obtain ⟨hnl, ⟨hx, hb, hml, hown, hts⟩, hK, hr, hlk, hN, hA, hR, hQ⟩ := C
  subst hnl
  exact fun H locs ls h1 h2 h3 h4 => lv_aload_n hx hb hd hi (lv_at h1 q hl) (K H locs ls h1 h2 h3 h4)
theorem z_aload {i : Nat} {x : Nat} (C : z_X F L N ad cc own nl ret fr lo rv gE) (hd : decode cc pc = .ok (.aload i, 2)) (q : Nat) (hl : lv[q]? = some (i, .ref x)) (K : z_W F L N ad (pc + 2) lv (.ref x :: st) g) : z_W F L N ad pc lv (st) g := by
  obtain ⟨p, l, e, R, s, m, args, below, meth, c, nL, D, cy, A, Q⟩ := F
  obtain ⟨hnl, ⟨hx, hb, hml, hown, hts⟩, hK, hr, hlk, hN, hA, hR, hQ⟩ := C
  subst hnl
  exact fun H locs ls h1 h2 h3 h4 => lv_aload hx hb hd (lv_at h1 q hl) (K H locs ls h1 h2 h3 h4)
theorem z_istore_n {k : Fin 4} {i : Nat} {x : Int32} (C : z_X F L N ad cc own nl ret fr lo rv gE) (hd : decode cc pc = .ok (.istore_n k, 1)) (hi : (k : Nat) = i) (hn : i < nl) (lv' : List (Nat × Value)) (hl : (i, Value.int x) :: lv.filter (fun q => !(q.1 == i) && !(q.1 + 1 == i && q.2.category == 2)) = lv') (K : z_W F L N ad (pc + 1) lv' st g) : z_W F L N ad pc lv (.int x :: st) g := by
  obtain ⟨p, l, e, R, s, m, args, below, meth, c, nL, D, cy, A, Q⟩ := F
  obtain ⟨hnl, ⟨hx, hb, hml, hown, hts⟩, hK, hr, hlk, hN, hA, hR, hQ⟩ := C
  subst hnl
  exact fun H locs ls h1 h2 h3 h4 => lv_istore_n hx hb hd hi h1 hn hl (fun ls' h1 => K H locs ls' h1 h2 h3 h4)
theorem z_istore {i : Nat} {x : Int32} (C : z_X F L N ad cc own nl ret fr lo rv gE) (hd : decode cc pc = .ok (.istore i, 2)) (hn : i < nl) (lv' : List (Nat × Value)) (hl : (i, Value.int x) :: lv.filter (fun q => !(q.1 == i) && !(q.1 + 1 == i && q.2.category == 2)) = lv') (K : z_W F L N ad (pc + 2) lv' st g) : z_W F L N ad pc lv (.int x :: st) g := by
  obtain ⟨p, l, e, R, s, m, args, below, meth, c, nL, D, cy, A, Q⟩ := F
  obtain ⟨hnl, ⟨hx, hb, hml, hown, hts⟩, hK, hr, hlk, hN, hA, hR, hQ⟩ := C
  subst hnl
  exact fun H locs ls h1 h2 h3 h4 => lv_istore hx hb hd h1 hn hl (fun ls' h1 => K H locs ls' h1 h2 h3 h4)
theorem z_lstore_n {k : Fin 4} {i : Nat} {x : Int64} (C : z_X F L N ad cc own nl ret fr lo rv gE) (hd : decode cc pc = .ok (.lstore_n k, 1)) (hi : (k : Nat) = i) (hn : i + 1 < nl) (lv' : List (Nat × Value)) (hl : (i, Value.long x) :: lv.filter (fun q => !(q.1 == i) && (!(q.1 == i + 1) && !(q.1 + 1 == i && q.2.category == 2))) = lv') (K : z_W F L N ad (pc + 1) lv' st g) : z_W F L N ad pc lv (.long x :: st) g := by
  obtain ⟨p, l, e, R, s, m, args, below, meth, c, nL, D, cy, A, Q⟩ := F
  obtain ⟨hnl, ⟨hx, hb, hml, hown, hts⟩, hK, hr, hlk, hN, hA, hR, hQ⟩ := C
  subst hnl
  exact fun H locs ls h1 h2 h3 h4 => lv_lstore_n hx hb hd hi h1 hn hl (fun ls' h1 => K H locs ls' h1 h2 h3 h4)
theorem z_lstore {i : Nat} {x : Int64} (C : z_X F L N ad cc own nl ret fr lo rv gE) (hd : decode cc pc = .ok (.lstore i, 2)) (hn : i + 1 < nl) (lv' : List (Nat × Value)) (hl : (i, Value.long x) :: lv.filter (fun q => !(q.1 == i) && (!(q.1 == i + 1) && !(q.1 + 1 == i && q.2.category == 2))) = lv') (K : z_W F L N ad (pc + 2) lv' st g) : z_W F L N ad pc lv (.long x :: st) g := by
  obtain ⟨p, l, e, R, s, m, args, below, meth, c, nL, D, cy, A, Q⟩ := F
  obtain ⟨hnl, ⟨hx, hb, hml, hown, hts⟩, hK, hr, hlk, hN, hA, hR, hQ⟩ := C
  subst hnl
  exact fun H locs ls h1 h2 h3 h4 => lv_lstore hx hb hd h1 hn hl (fun ls' h1 => K H locs ls' h1 h2 h3 h4)
theorem z_astore_n {k : Fin 4} {i : Nat} {x : Nat} (C : z_X F L N ad cc own nl ret fr lo rv gE) (hd : decode cc pc = .ok (.astore_n k, 1)) (hi : (k : Nat) = i) (hn : i < nl) (lv' : List (Nat × Value)) (hl : (i, Value.ref x) :: lv.filter (fun q => !(q.1 == i) && !(q.1 + 1 == i && q.2.category == 2)) = lv') (K : z_W F L N ad (pc + 1) lv' st g) : z_W F L N ad pc lv (.ref x :: st) g := by
  obtain ⟨p, l, e, R, s, m, args, below, meth, c, nL, D, cy, A, Q⟩ := F
  obtain ⟨hnl, ⟨hx, hb, hml, hown, hts⟩, hK, hr, hlk, hN, hA, hR, hQ⟩ := C
  subst hnl
  exact fun H locs ls h1 h2 h3 h4 => lv_astore_n hx hb hd hi h1 hn hl (fun ls' h1 => K H locs ls' h1 h2 h3 h4)
theorem z_astore {i : Nat} {x : Nat} (C : z_X F L N ad cc own nl ret fr lo rv gE) (hd : decode cc pc = .ok (.astore i, 2)) (hn : i < nl) (lv' : List (Nat × Value)) (hl : (i, Value.ref x) :: lv.filter (fun q => !(q.1 == i) && !(q.1 + 1 == i && q.2.category == 2)) = lv') (K : z_W F L N ad (pc + 2) lv' st g) : z_W F L N ad pc lv (.ref x :: st) g := by
  obtain ⟨p, l, e, R, s, m, args, below, meth, c, nL, D, cy, A, Q⟩ := F
  obtain ⟨hnl, ⟨hx, hb, hml, hown, hts⟩, hK, hr, hlk, hN, hA, hR, hQ⟩ := C
  subst hnl
  exact fun H locs ls h1 h2 h3 h4 => lv_astore hx hb hd h1 hn hl (fun ls' h1 => K H locs ls' h1 h2 h3 h4)
theorem z_iinc {i : Nat} {n : Int} {x v : Int32} (C : z_X F L N ad cc own nl ret fr lo rv gE) (hd : decode cc pc = .ok (.iinc i n, 3)) (hn : i < nl) (q : Nat) (hk : lv[q]? = some (i, .int x)) (hv : x + Int32.ofInt n = v) (lv' : List (Nat × Value)) (hl : (i, Value.int v) :: lv.filter (fun q => !(q.1 == i) && !(q.1 + 1 == i && q.2.category == 2)) = lv') (K : z_W F L N ad (pc + 3) lv' st g) : z_W F L N ad pc lv st g := by
  obtain ⟨p, l, e, R, s, m, args, below, meth, c, nL, D, cy, A, Q⟩ := F
  obtain ⟨hnl, ⟨hx, hb, hml, hown, hts⟩, hK, hr, hlk, hN, hA, hR, hQ⟩ := C
  subst hnl
  exact fun H locs ls h1 h2 h3 h4 => lv_iinc hx hb hd h1 hk hv hn hl (fun ls' h1 => K H locs ls' h1 h2 h3 h4)
theorem z_dup {va : Value} (C : z_X F L N ad cc own nl ret fr lo rv gE) (hd : decode cc pc = .ok (.dup, 1)) (hva : va.category = 1) (K : z_W F L N ad (pc + 1) lv (va :: va :: st) g) : z_W F L N ad pc lv (va :: st) g := by
  obtain ⟨p, l, e, R, s, m, args, below, meth, c, nL, D, cy, A, Q⟩ := F
  obtain ⟨hnl, ⟨hx, hb, hml, hown, hts⟩, hK, hr, hlk, hN, hA, hR, hQ⟩ := C
  subst hnl
  exact fun H locs ls h1 h2 h3 h4 => lv_dup hx hb hd hva (K H locs ls h1 h2 h3 h4)
theorem z_dup2 {va vb : Value} (C : z_X F L N ad cc own nl ret fr lo rv gE) (hd : decode cc pc = .ok (.dup2, 1)) (hva : va.category = 1) (hvb : vb.category = 1) (K : z_W F L N ad (pc + 1) lv (va :: vb :: va :: vb :: st) g) : z_W F L N ad pc lv (va :: vb :: st) g := by
  obtain ⟨p, l, e, R, s, m, args, below, meth, c, nL, D, cy, A, Q⟩ := F
  obtain ⟨hnl, ⟨hx, hb, hml, hown, hts⟩, hK, hr, hlk, hN, hA, hR, hQ⟩ := C
  subst hnl
  exact fun H locs ls h1 h2 h3 h4 => lv_dup2_11 hx hb hd hva hvb (K H locs ls h1 h2 h3 h4)
theorem z_dup2L {va : Value} (C : z_X F L N ad cc own nl ret fr lo rv gE) (hd : decode cc pc = .ok (.dup2, 1)) (hva : va.category = 2) (K : z_W F L N ad (pc + 1) lv (va :: va :: st) g) : z_W F L N ad pc lv (va :: st) g := by
  obtain ⟨p, l, e, R, s, m, args, below, meth, c, nL, D, cy, A, Q⟩ := F
  obtain ⟨hnl, ⟨hx, hb, hml, hown, hts⟩, hK, hr, hlk, hN, hA, hR, hQ⟩ := C
  subst hnl
  exact fun H locs ls h1 h2 h3 h4 => lv_dup2_2 hx hb hd hva (K H locs ls h1 h2 h3 h4)
theorem z_pop {va : Value} (C : z_X F L N ad cc own nl ret fr lo rv gE) (hd : decode cc pc = .ok (.pop, 1)) (hva : va.category = 1) (K : z_W F L N ad (pc + 1) lv (st) g) : z_W F L N ad pc lv (va :: st) g := by
  obtain ⟨p, l, e, R, s, m, args, below, meth, c, nL, D, cy, A, Q⟩ := F
  obtain ⟨hnl, ⟨hx, hb, hml, hown, hts⟩, hK, hr, hlk, hN, hA, hR, hQ⟩ := C
  subst hnl
  exact fun H locs ls h1 h2 h3 h4 => lv_pop hx hb hd hva (K H locs ls h1 h2 h3 h4)
theorem z_iadd {x y : Int32} (C : z_X F L N ad cc own nl ret fr lo rv gE) (hd : decode cc pc = .ok (.iadd, 1)) (K : z_W F L N ad (pc + 1) lv (.int (x + y) :: st) g) : z_W F L N ad pc lv (.int y :: .int x :: st) g := by
  obtain ⟨p, l, e, R, s, m, args, below, meth, c, nL, D, cy, A, Q⟩ := F
  obtain ⟨hnl, ⟨hx, hb, hml, hown, hts⟩, hK, hr, hlk, hN, hA, hR, hQ⟩ := C
  subst hnl
  exact fun H locs ls h1 h2 h3 h4 => lv_iadd hx hb hd (K H locs ls h1 h2 h3 h4)
theorem z_isub {x y : Int32} (C : z_X F L N ad cc own nl ret fr lo rv gE) (hd : decode cc pc = .ok (.isub, 1)) (K : z_W F L N ad (pc + 1) lv (.int (x - y) :: st) g) : z_W F L N ad pc lv (.int y :: .int x :: st) g := by
  obtain ⟨p, l, e, R, s, m, args, below, meth, c, nL, D, cy, A, Q⟩ := F
  obtain ⟨hnl, ⟨hx, hb, hml, hown, hts⟩, hK, hr, hlk, hN, hA, hR, hQ⟩ := C
  subst hnl
  exact fun H locs ls h1 h2 h3 h4 => lv_isub hx hb hd (K H locs ls h1 h2 h3 h4)
theorem z_imul {x y : Int32} (C : z_X F L N ad cc own nl ret fr lo rv gE) (hd : decode cc pc = .ok (.imul, 1)) (K : z_W F L N ad (pc + 1) lv (.int (x * y) :: st) g) : z_W F L N ad pc lv (.int y :: .int x :: st) g := by
  obtain ⟨p, l, e, R, s, m, args, below, meth, c, nL, D, cy, A, Q⟩ := F
  obtain ⟨hnl, ⟨hx, hb, hml, hown, hts⟩, hK, hr, hlk, hN, hA, hR, hQ⟩ := C
  subst hnl
  exact fun H locs ls h1 h2 h3 h4 => lv_imul hx hb hd (K H locs ls h1 h2 h3 h4)
theorem z_iand {x y : Int32} (C : z_X F L N ad cc own nl ret fr lo rv gE) (hd : decode cc pc = .ok (.iand, 1)) (K : z_W F L N ad (pc + 1) lv (.int (x &&& y) :: st) g) : z_W F L N ad pc lv (.int y :: .int x :: st) g := by
  obtain ⟨p, l, e, R, s, m, args, below, meth, c, nL, D, cy, A, Q⟩ := F
  obtain ⟨hnl, ⟨hx, hb, hml, hown, hts⟩, hK, hr, hlk, hN, hA, hR, hQ⟩ := C
  subst hnl
  exact fun H locs ls h1 h2 h3 h4 => lv_iand hx hb hd (K H locs ls h1 h2 h3 h4)
theorem z_ior {x y : Int32} (C : z_X F L N ad cc own nl ret fr lo rv gE) (hd : decode cc pc = .ok (.ior, 1)) (K : z_W F L N ad (pc + 1) lv (.int (x ||| y) :: st) g) : z_W F L N ad pc lv (.int y :: .int x :: st) g := by
  obtain ⟨p, l, e, R, s, m, args, below, meth, c, nL, D, cy, A, Q⟩ := F
  obtain ⟨hnl, ⟨hx, hb, hml, hown, hts⟩, hK, hr, hlk, hN, hA, hR, hQ⟩ := C
  subst hnl
  exact fun H locs ls h1 h2 h3 h4 => lv_ior hx hb hd (K H locs ls h1 h2 h3 h4)
theorem z_ineg {x : Int32} (C : z_X F L N ad cc own nl ret fr lo rv gE) (hd : decode cc pc = .ok (.ineg, 1)) (K : z_W F L N ad (pc + 1) lv (.int (-x) :: st) g) : z_W F L N ad pc lv (.int x :: st) g := by
  obtain ⟨p, l, e, R, s, m, args, below, meth, c, nL, D, cy, A, Q⟩ := F
  obtain ⟨hnl, ⟨hx, hb, hml, hown, hts⟩, hK, hr, hlk, hN, hA, hR, hQ⟩ := C
  subst hnl
  exact fun H locs ls h1 h2 h3 h4 => lv_ineg hx hb hd (K H locs ls h1 h2 h3 h4)
theorem z_idiv {x y : Int32} (C : z_X F L N ad cc own nl ret fr lo rv gE) (hd : decode cc pc = .ok (.idiv, 1)) (hne : ¬ y = 0) (K : z_W F L N ad (pc + 1) lv (.int (x / y) :: st) g) : z_W F L N ad pc lv (.int y :: .int x :: st) g := by
  obtain ⟨p, l, e, R, s, m, args, below, meth, c, nL, D, cy, A, Q⟩ := F
  obtain ⟨hnl, ⟨hx, hb, hml, hown, hts⟩, hK, hr, hlk, hN, hA, hR, hQ⟩ := C
  subst hnl
  exact fun H locs ls h1 h2 h3 h4 => lv_idiv hx hb hd hne (K H locs ls h1 h2 h3 h4)
theorem z_irem {x y : Int32} (C : z_X F L N ad cc own nl ret fr lo rv gE) (hd : decode cc pc = .ok (.irem, 1)) (hne : ¬ y = 0) (K : z_W F L N ad (pc + 1) lv (.int (x - x / y * y) :: st) g) : z_W F L N ad pc lv (.int y :: .int x :: st) g := by
  obtain ⟨p, l, e, R, s, m, args, below, meth, c, nL, D, cy, A, Q⟩ := F
  obtain ⟨hnl, ⟨hx, hb, hml, hown, hts⟩, hK, hr, hlk, hN, hA, hR, hQ⟩ := C
  subst hnl
  exact fun H locs ls h1 h2 h3 h4 => lv_irem hx hb hd hne (K H locs ls h1 h2 h3 h4)
theorem z_ladd {x y : Int64} (C : z_X F L N ad cc own nl ret fr lo rv gE) (hd : decode cc pc = .ok (.ladd, 1)) (K : z_W F L N ad (pc + 1) lv (.long (x + y) :: st) g) : z_W F L N ad pc lv (.long y :: .long x :: st) g := by
  obtain ⟨p, l, e, R, s, m, args, below, meth, c, nL, D, cy, A, Q⟩ := F
  obtain ⟨hnl, ⟨hx, hb, hml, hown, hts⟩, hK, hr, hlk, hN, hA, hR, hQ⟩ := C
  subst hnl
  exact fun H locs ls h1 h2 h3 h4 => lv_ladd hx hb hd (K H locs ls h1 h2 h3 h4)
theorem z_lsub {x y : Int64} (C : z_X F L N ad cc own nl ret fr lo rv gE) (hd : decode cc pc = .ok (.lsub, 1)) (K : z_W F L N ad (pc + 1) lv (.long (x - y) :: st) g) : z_W F L N ad pc lv (.long y :: .long x :: st) g := by
  obtain ⟨p, l, e, R, s, m, args, below, meth, c, nL, D, cy, A, Q⟩ := F
  obtain ⟨hnl, ⟨hx, hb, hml, hown, hts⟩, hK, hr, hlk, hN, hA, hR, hQ⟩ := C
  subst hnl
  exact fun H locs ls h1 h2 h3 h4 => lv_lsub hx hb hd (K H locs ls h1 h2 h3 h4)
theorem z_lmul {x y : Int64} (C : z_X F L N ad cc own nl ret fr lo rv gE) (hd : decode cc pc = .ok (.lmul, 1)) (K : z_W F L N ad (pc + 1) lv (.long (x * y) :: st) g) : z_W F L N ad pc lv (.long y :: .long x :: st) g := by
  obtain ⟨p, l, e, R, s, m, args, below, meth, c, nL, D, cy, A, Q⟩ := F
  obtain ⟨hnl, ⟨hx, hb, hml, hown, hts⟩, hK, hr, hlk, hN, hA, hR, hQ⟩ := C
  subst hnl
  exact fun H locs ls h1 h2 h3 h4 => lv_lmul hx hb hd (K H locs ls h1 h2 h3 h4)
theorem z_land {x y : Int64} (C : z_X F L N ad cc own nl ret fr lo rv gE) (hd : decode cc pc = .ok (.land, 1)) (K : z_W F L N ad (pc + 1) lv (.long (x &&& y) :: st) g) : z_W F L N ad pc lv (.long y :: .long x :: st) g := by
  obtain ⟨p, l, e, R, s, m, args, below, meth, c, nL, D, cy, A, Q⟩ := F
  obtain ⟨hnl, ⟨hx, hb, hml, hown, hts⟩, hK, hr, hlk, hN, hA, hR, hQ⟩ := C
  subst hnl
  exact fun H locs ls h1 h2 h3 h4 => lv_land hx hb hd (K H locs ls h1 h2 h3 h4)
theorem z_lor {x y : Int64} (C : z_X F L N ad cc own nl ret fr lo rv gE) (hd : decode cc pc = .ok (.lor, 1)) (K : z_W F L N ad (pc + 1) lv (.long (x ||| y) :: st) g) : z_W F L N ad pc lv (.long y :: .long x :: st) g := by
  obtain ⟨p, l, e, R, s, m, args, below, meth, c, nL, D, cy, A, Q⟩ := F
  obtain ⟨hnl, ⟨hx, hb, hml, hown, hts⟩, hK, hr, hlk, hN, hA, hR, hQ⟩ := C
  subst hnl
  exact fun H locs ls h1 h2 h3 h4 => lv_lor hx hb hd (K H locs ls h1 h2 h3 h4)
theorem z_lxor {x y : Int64} (C : z_X F L N ad cc own nl ret fr lo rv gE) (hd : decode cc pc = .ok (.lxor, 1)) (K : z_W F L N ad (pc + 1) lv (.long (x ^^^ y) :: st) g) : z_W F L N ad pc lv (.long y :: .long x :: st) g := by
  obtain ⟨p, l, e, R, s, m, args, below, meth, c, nL, D, cy, A, Q⟩ := F
  obtain ⟨hnl, ⟨hx, hb, hml, hown, hts⟩, hK, hr, hlk, hN, hA, hR, hQ⟩ := C
  subst hnl
  exact fun H locs ls h1 h2 h3 h4 => lv_lxor hx hb hd (K H locs ls h1 h2 h3 h4)
theorem z_ldiv {x y : Int64} (C : z_X F L N ad cc own nl ret fr lo rv gE) (hd : decode cc pc = .ok (.ldiv, 1)) (hne : ¬ y = 0) (K : z_W F L N ad (pc + 1) lv (.long (x / y) :: st) g) : z_W F L N ad pc lv (.long y :: .long x :: st) g := by
  obtain ⟨p, l, e, R, s, m, args, below, meth, c, nL, D, cy, A, Q⟩ := F
  obtain ⟨hnl, ⟨hx, hb, hml, hown, hts⟩, hK, hr, hlk, hN, hA, hR, hQ⟩ := C
  subst hnl
  exact fun H locs ls h1 h2 h3 h4 => lv_ldiv hx hb hd hne (K H locs ls h1 h2 h3 h4)
theorem z_lrem {x y : Int64} (C : z_X F L N ad cc own nl ret fr lo rv gE) (hd : decode cc pc = .ok (.lrem, 1)) (hne : ¬ y = 0) (K : z_W F L N ad (pc + 1) lv (.long (x - x / y * y) :: st) g) : z_W F L N ad pc lv (.long y :: .long x :: st) g := by
  obtain ⟨p, l, e, R, s, m, args, below, meth, c, nL, D, cy, A, Q⟩ := F
  obtain ⟨hnl, ⟨hx, hb, hml, hown, hts⟩, hK, hr, hlk, hN, hA, hR, hQ⟩ := C
  subst hnl
  exact fun H locs ls h1 h2 h3 h4 => lv_lrem hx hb hd hne (K H locs ls h1 h2 h3 h4)
theorem z_ishl {x y : Int32} (C : z_X F L N ad cc own nl ret fr lo rv gE) (hd : decode cc pc = .ok (.ishl, 1)) (K : z_W F L N ad (pc + 1) lv (.int (x <<< (y &&& 31)) :: st) g) : z_W F L N ad pc lv (.int y :: .int x :: st) g := by
  obtain ⟨p, l, e, R, s, m, args, below, meth, c, nL, D, cy, A, Q⟩ := F
  obtain ⟨hnl, ⟨hx, hb, hml, hown, hts⟩, hK, hr, hlk, hN, hA, hR, hQ⟩ := C
  subst hnl
  exact fun H locs ls h1 h2 h3 h4 => lv_ishl hx hb hd (K H locs ls h1 h2 h3 h4)
theorem z_ishr {x y : Int32} (C : z_X F L N ad cc own nl ret fr lo rv gE) (hd : decode cc pc = .ok (.ishr, 1)) (K : z_W F L N ad (pc + 1) lv (.int (x >>> (y &&& 31)) :: st) g) : z_W F L N ad pc lv (.int y :: .int x :: st) g := by
  obtain ⟨p, l, e, R, s, m, args, below, meth, c, nL, D, cy, A, Q⟩ := F
  obtain ⟨hnl, ⟨hx, hb, hml, hown, hts⟩, hK, hr, hlk, hN, hA, hR, hQ⟩ := C
  subst hnl
  exact fun H locs ls h1 h2 h3 h4 => lv_ishr hx hb hd (K H locs ls h1 h2 h3 h4)
theorem z_lshl {x : Int64} {y : Int32} (C : z_X F L N ad cc own nl ret fr lo rv gE) (hd : decode cc pc = .ok (.lshl, 1)) (K : z_W F L N ad (pc + 1) lv (.long (x <<< (y.toInt64 &&& 63)) :: st) g) : z_W F L N ad pc lv (.int y :: .long x :: st) g := by
  obtain ⟨p, l, e, R, s, m, args, below, meth, c, nL, D, cy, A, Q⟩ := F
  obtain ⟨hnl, ⟨hx, hb, hml, hown, hts⟩, hK, hr, hlk, hN, hA, hR, hQ⟩ := C
  subst hnl
  exact fun H locs ls h1 h2 h3 h4 => lv_lshl hx hb hd rfl (K H locs ls h1 h2 h3 h4)
theorem z_lshr {x : Int64} {y : Int32} (C : z_X F L N ad cc own nl ret fr lo rv gE) (hd : decode cc pc = .ok (.lshr, 1)) (K : z_W F L N ad (pc + 1) lv (.long (x >>> (y.toInt64 &&& 63)) :: st) g) : z_W F L N ad pc lv (.int y :: .long x :: st) g := by
  obtain ⟨p, l, e, R, s, m, args, below, meth, c, nL, D, cy, A, Q⟩ := F
  obtain ⟨hnl, ⟨hx, hb, hml, hown, hts⟩, hK, hr, hlk, hN, hA, hR, hQ⟩ := C
  subst hnl
  exact fun H locs ls h1 h2 h3 h4 => lv_lshr hx hb hd rfl (K H locs ls h1 h2 h3 h4)
theorem z_lushr {x : Int64} {y : Int32} (C : z_X F L N ad cc own nl ret fr lo rv gE) (hd : decode cc pc = .ok (.lushr, 1)) (K : z_W F L N ad (pc + 1) lv (.long ((x.toUInt64 >>> (y.toInt64.toUInt64 &&& Int64.toUInt64 63)).toInt64) :: st) g) : z_W F L N ad pc lv (.int y :: .long x :: st) g := by
  obtain ⟨p, l, e, R, s, m, args, below, meth, c, nL, D, cy, A, Q⟩ := F
  obtain ⟨hnl, ⟨hx, hb, hml, hown, hts⟩, hK, hr, hlk, hN, hA, hR, hQ⟩ := C
  subst hnl
  exact fun H locs ls h1 h2 h3 h4 => lv_lushr hx hb hd rfl (K H locs ls h1 h2 h3 h4)
theorem z_i2l {x : Int32} (C : z_X F L N ad cc own nl ret fr lo rv gE) (hd : decode cc pc = .ok (.i2l, 1)) (K : z_W F L N ad (pc + 1) lv (.long x.toInt64 :: st) g) : z_W F L N ad pc lv (.int x :: st) g := by
  obtain ⟨p, l, e, R, s, m, args, below, meth, c, nL, D, cy, A, Q⟩ := F
  obtain ⟨hnl, ⟨hx, hb, hml, hown, hts⟩, hK, hr, hlk, hN, hA, hR, hQ⟩ := C
  subst hnl
  exact fun H locs ls h1 h2 h3 h4 => lv_i2l hx hb hd rfl (K H locs ls h1 h2 h3 h4)
theorem z_l2i {x : Int64} (C : z_X F L N ad cc own nl ret fr lo rv gE) (hd : decode cc pc = .ok (.l2i, 1)) (K : z_W F L N ad (pc + 1) lv (.int x.toInt32 :: st) g) : z_W F L N ad pc lv (.long x :: st) g := by
  obtain ⟨p, l, e, R, s, m, args, below, meth, c, nL, D, cy, A, Q⟩ := F
  obtain ⟨hnl, ⟨hx, hb, hml, hown, hts⟩, hK, hr, hlk, hN, hA, hR, hQ⟩ := C
  subst hnl
  exact fun H locs ls h1 h2 h3 h4 => lv_l2i hx hb hd rfl (K H locs ls h1 h2 h3 h4)
theorem z_lcmp {x y : Int64} (C : z_X F L N ad cc own nl ret fr lo rv gE) (hd : decode cc pc = .ok (.lcmp, 1)) (K : z_W F L N ad (pc + 1) lv (.int (lg_cmp x y) :: st) g) : z_W F L N ad pc lv (.long y :: .long x :: st) g := by
  obtain ⟨p, l, e, R, s, m, args, below, meth, c, nL, D, cy, A, Q⟩ := F
  obtain ⟨hnl, ⟨hx, hb, hml, hown, hts⟩, hK, hr, hlk, hN, hA, hR, hQ⟩ := C
  subst hnl
  exact fun H locs ls h1 h2 h3 h4 => W.lcmp hx hb hd (K H locs ls h1 h2 h3 h4)
theorem z_goto {off : Int} (tgt : Nat) (C : z_X F L N ad cc own nl ret fr lo rv gE) (hd : decode cc pc = .ok (.goto off, 3)) (ht : (pc : Int) + off = (tgt : Int)) (K : z_W F L N ad tgt lv st g) : z_W F L N ad pc lv st g := by
  obtain ⟨p, l, e, R, s, m, args, below, meth, c, nL, D, cy, A, Q⟩ := F
  obtain ⟨hnl, ⟨hx, hb, hml, hown, hts⟩, hK, hr, hlk, hN, hA, hR, hQ⟩ := C
  subst hnl
  exact fun H locs ls h1 h2 h3 h4 => lv_goto hx hb hd ht (K H locs ls h1 h2 h3 h4)
theorem z_icmp_eq {x y : Int32} {off : Int} (tgt : Nat) (C : z_X F L N ad cc own nl ret fr lo rv gE) (hd : decode cc pc = .ok (.if_icmp .eq off, 3)) (ht : (pc : Int) + off = (tgt : Int)) (kt : x = y → z_W F L N ad tgt lv st g) (kf : ¬ x = y → z_W F L N ad (pc + 3) lv st g) : z_W F L N ad pc lv (.int y :: .int x :: st) g := by
  obtain ⟨p, l, e, R, s, m, args, below, meth, c, nL, D, cy, A, Q⟩ := F
  obtain ⟨hnl, ⟨hx, hb, hml, hown, hts⟩, hK, hr, hlk, hN, hA, hR, hQ⟩ := C
  subst hnl
  exact fun H locs ls h1 h2 h3 h4 => lv_icmp_eq hx hb hd ht (fun q => kt q H locs ls h1 h2 h3 h4) (fun q => kf q H locs ls h1 h2 h3 h4)
theorem z_if_eq {x : Int32} {off : Int} (tgt : Nat) (C : z_X F L N ad cc own nl ret fr lo rv gE) (hd : decode cc pc = .ok (.ifCond .eq off, 3)) (ht : (pc : Int) + off = (tgt : Int)) (kt : x = 0 → z_W F L N ad tgt lv st g) (kf : ¬ x = 0 → z_W F L N ad (pc + 3) lv st g) : z_W F L N ad pc lv (.int x :: st) g := by
  obtain ⟨p, l, e, R, s, m, args, below, meth, c, nL, D, cy, A, Q⟩ := F
  obtain ⟨hnl, ⟨hx, hb, hml, hown, hts⟩, hK, hr, hlk, hN, hA, hR, hQ⟩ := C
  subst hnl
  exact fun H locs ls h1 h2 h3 h4 => lv_if_eq hx hb hd ht (fun q => kt q H locs ls h1 h2 h3 h4) (fun q => kf q H locs ls h1 h2 h3 h4)
theorem z_icmp_lt {x y : Int32} {off : Int} (tgt : Nat) (C : z_X F L N ad cc own nl ret fr lo rv gE) (hd : decode cc pc = .ok (.if_icmp .lt off, 3)) (ht : (pc : Int) + off = (tgt : Int)) (kt : x < y → z_W F L N ad tgt lv st g) (kf : ¬ x < y → z_W F L N ad (pc + 3) lv st g) : z_W F L N ad pc lv (.int y :: .int x :: st) g := by
  obtain ⟨p, l, e, R, s, m, args, below, meth, c, nL, D, cy, A, Q⟩ := F
  obtain ⟨hnl, ⟨hx, hb, hml, hown, hts⟩, hK, hr, hlk, hN, hA, hR, hQ⟩ := C
  subst hnl
  exact fun H locs ls h1 h2 h3 h4 => lv_icmp_lt hx hb hd ht (fun q => kt q H locs ls h1 h2 h3 h4) (fun q => kf q H locs ls h1 h2 h3 h4)
theorem z_if_lt {x : Int32} {off : Int} (tgt : Nat) (C : z_X F L N ad cc own nl ret fr lo rv gE) (hd : decode cc pc = .ok (.ifCond .lt off, 3)) (ht : (pc : Int) + off = (tgt : Int)) (kt : x < 0 → z_W F L N ad tgt lv st g) (kf : ¬ x < 0 → z_W F L N ad (pc + 3) lv st g) : z_W F L N ad pc lv (.int x :: st) g := by
  obtain ⟨p, l, e, R, s, m, args, below, meth, c, nL, D, cy, A, Q⟩ := F
  obtain ⟨hnl, ⟨hx, hb, hml, hown, hts⟩, hK, hr, hlk, hN, hA, hR, hQ⟩ := C
  subst hnl
  exact fun H locs ls h1 h2 h3 h4 => lv_if_lt hx hb hd ht (fun q => kt q H locs ls h1 h2 h3 h4) (fun q => kf q H locs ls h1 h2 h3 h4)
theorem z_icmp_ge {x y : Int32} {off : Int} (tgt : Nat) (C : z_X F L N ad cc own nl ret fr lo rv gE) (hd : decode cc pc = .ok (.if_icmp .ge off, 3)) (ht : (pc : Int) + off = (tgt : Int)) (kt : y ≤ x → z_W F L N ad tgt lv st g) (kf : ¬ y ≤ x → z_W F L N ad (pc + 3) lv st g) : z_W F L N ad pc lv (.int y :: .int x :: st) g := by
  obtain ⟨p, l, e, R, s, m, args, below, meth, c, nL, D, cy, A, Q⟩ := F
  obtain ⟨hnl, ⟨hx, hb, hml, hown, hts⟩, hK, hr, hlk, hN, hA, hR, hQ⟩ := C
  subst hnl
  exact fun H locs ls h1 h2 h3 h4 => lv_icmp_ge hx hb hd ht (fun q => kt q H locs ls h1 h2 h3 h4) (fun q => kf q H locs ls h1 h2 h3 h4)
theorem z_if_ge {x : Int32} {off : Int} (tgt : Nat) (C : z_X F L N ad cc own nl ret fr lo rv gE) (hd : decode cc pc = .ok (.ifCond .ge off, 3)) (ht : (pc : Int) + off = (tgt : Int)) (kt : 0 ≤ x → z_W F L N ad tgt lv st g) (kf : ¬ 0 ≤ x → z_W F L N ad (pc + 3) lv st g) : z_W F L N ad pc lv (.int x :: st) g := by
  obtain ⟨p, l, e, R, s, m, args, below, meth, c, nL, D, cy, A, Q⟩ := F
  obtain ⟨hnl, ⟨hx, hb, hml, hown, hts⟩, hK, hr, hlk, hN, hA, hR, hQ⟩ := C
  subst hnl
  exact fun H locs ls h1 h2 h3 h4 => lv_if_ge hx hb hd ht (fun q => kt q H locs ls h1 h2 h3 h4) (fun q => kf q H locs ls h1 h2 h3 h4)
theorem z_icmp_gt {x y : Int32} {off : Int} (tgt : Nat) (C : z_X F L N ad cc own nl ret fr lo rv gE) (hd : decode cc pc = .ok (.if_icmp .gt off, 3)) (ht : (pc : Int) + off = (tgt : Int)) (kt : y < x → z_W F L N ad tgt lv st g) (kf : ¬ y < x → z_W F L N ad (pc + 3) lv st g) : z_W F L N ad pc lv (.int y :: .int x :: st) g := by
  obtain ⟨p, l, e, R, s, m, args, below, meth, c, nL, D, cy, A, Q⟩ := F
  obtain ⟨hnl, ⟨hx, hb, hml, hown, hts⟩, hK, hr, hlk, hN, hA, hR, hQ⟩ := C
  subst hnl
  exact fun H locs ls h1 h2 h3 h4 => lv_icmp_gt hx hb hd ht (fun q => kt q H locs ls h1 h2 h3 h4) (fun q => kf q H locs ls h1 h2 h3 h4)
theorem z_if_gt {x : Int32} {off : Int} (tgt : Nat) (C : z_X F L N ad cc own nl ret fr lo rv gE) (hd : decode cc pc = .ok (.ifCond .gt off, 3)) (ht : (pc : Int) + off = (tgt : Int)) (kt : 0 < x → z_W F L N ad tgt lv st g) (kf : ¬ 0 < x → z_W F L N ad (pc + 3) lv st g) : z_W F L N ad pc lv (.int x :: st) g := by
  obtain ⟨p, l, e, R, s, m, args, below, meth, c, nL, D, cy, A, Q⟩ := F
  obtain ⟨hnl, ⟨hx, hb, hml, hown, hts⟩, hK, hr, hlk, hN, hA, hR, hQ⟩ := C
  subst hnl
  exact fun H locs ls h1 h2 h3 h4 => lv_if_gt hx hb hd ht (fun q => kt q H locs ls h1 h2 h3 h4) (fun q => kf q H locs ls h1 h2 h3 h4)
theorem z_icmp_le {x y : Int32} {off : Int} (tgt : Nat) (C : z_X F L N ad cc own nl ret fr lo rv gE) (hd : decode cc pc = .ok (.if_icmp .le off, 3)) (ht : (pc : Int) + off = (tgt : Int)) (kt : x ≤ y → z_W F L N ad tgt lv st g) (kf : ¬ x ≤ y → z_W F L N ad (pc + 3) lv st g) : z_W F L N ad pc lv (.int y :: .int x :: st) g := by
  obtain ⟨p, l, e, R, s, m, args, below, meth, c, nL, D, cy, A, Q⟩ := F
  obtain ⟨hnl, ⟨hx, hb, hml, hown, hts⟩, hK, hr, hlk, hN, hA, hR, hQ⟩ := C
  subst hnl
  exact fun H locs ls h1 h2 h3 h4 => lv_icmp_le hx hb hd ht (fun q => kt q H locs ls h1 h2 h3 h4) (fun q => kf q H locs ls h1 h2 h3 h4)
theorem z_if_le {x : Int32} {off : Int} (tgt : Nat) (C : z_X F L N ad cc own nl ret fr lo rv gE) (hd : decode cc pc = .ok (.ifCond .le off, 3)) (ht : (pc : Int) + off = (tgt : Int)) (kt : x ≤ 0 → z_W F L N ad tgt lv st g) (kf : ¬ x ≤ 0 → z_W F L N ad (pc + 3) lv st g) : z_W F L N ad pc lv (.int x :: st) g := by
  obtain ⟨p, l, e, R, s, m, args, below, meth, c, nL, D, cy, A, Q⟩ := F
  obtain ⟨hnl, ⟨hx, hb, hml, hown, hts⟩, hK, hr, hlk, hN, hA, hR, hQ⟩ := C
  subst hnl
  exact fun H locs ls h1 h2 h3 h4 => lv_if_le hx hb hd ht (fun q => kt q H locs ls h1 h2 h3 h4) (fun q => kf q H locs ls h1 h2 h3 h4)
theorem z_icmp_ne {x y : Int32} {off : Int} (tgt : Nat) (C : z_X F L N ad cc own nl ret fr lo rv gE) (hd : decode cc pc = .ok (.if_icmp .ne off, 3)) (ht : (pc : Int) + off = (tgt : Int)) (kt : x = y → z_W F L N ad (pc + 3) lv st g) (kf : ¬ x = y → z_W F L N ad tgt lv st g) : z_W F L N ad pc lv (.int y :: .int x :: st) g := by
  obtain ⟨p, l, e, R, s, m, args, below, meth, c, nL, D, cy, A, Q⟩ := F
  obtain ⟨hnl, ⟨hx, hb, hml, hown, hts⟩, hK, hr, hlk, hN, hA, hR, hQ⟩ := C
  subst hnl
  exact fun H locs ls h1 h2 h3 h4 => lv_icmp_ne hx hb hd ht (fun q => kf q H locs ls h1 h2 h3 h4) (fun q => kt q H locs ls h1 h2 h3 h4)
theorem z_if_ne {x : Int32} {off : Int} (tgt : Nat) (C : z_X F L N ad cc own nl ret fr lo rv gE) (hd : decode cc pc = .ok (.ifCond .ne off, 3)) (ht : (pc : Int) + off = (tgt : Int)) (kt : x = 0 → z_W F L N ad (pc + 3) lv st g) (kf : ¬ x = 0 → z_W F L N ad tgt lv st g) : z_W F L N ad pc lv (.int x :: st) g := by
  obtain ⟨p, l, e, R, s, m, args, below, meth, c, nL, D, cy, A, Q⟩ := F
  obtain ⟨hnl, ⟨hx, hb, hml, hown, hts⟩, hK, hr, hlk, hN, hA, hR, hQ⟩ := C
  subst hnl
  exact fun H locs ls h1 h2 h3 h4 => lv_if_ne hx hb hd ht (fun q => kf q H locs ls h1 h2 h3 h4) (fun q => kt q H locs ls h1 h2 h3 h4)
theorem z_cmp_eq {x y : Int64} : lg_cmp x y = 0 ↔ x = y := by
  unfold lg_cmp
  by_cases h1 : x > y
  · rw [if_pos h1]
    refine ⟨fun h => absurd h (by decide), fun h => ?_⟩
    subst h
    exact absurd h1 (by simp [Int64.lt_iff_toInt_lt])
  · rw [if_neg h1]
    by_cases h2 : x = y
    · simp [h2]
    · rw [if_neg h2]
      exact ⟨fun h => absurd h (by decide), fun h => absurd h h2⟩
theorem z_cmp_gt {x y : Int64} : 0 < lg_cmp x y ↔ y < x := by
  unfold lg_cmp
  by_cases h1 : x > y
  · rw [if_pos h1]
    exact ⟨fun _ => h1, fun _ => by decide⟩
  · rw [if_neg h1]
    by_cases h2 : x = y
    · rw [if_pos h2]
      exact ⟨fun h => absurd h (by decide), fun h => absurd h h1⟩
    · rw [if_neg h2]
      exact ⟨fun h => absurd h (by decide), fun h => absurd h h1⟩
theorem z_cmp_lt {x y : Int64} : lg_cmp x y < 0 ↔ x < y := by
  unfold lg_cmp
  by_cases h1 : x > y
  · rw [if_pos h1]
    refine ⟨fun h => absurd h (by decide), fun h => ?_⟩
    rw [gt_iff_lt, Int64.lt_iff_toInt_lt] at h1
    rw [Int64.lt_iff_toInt_lt] at h
    omega
  · rw [if_neg h1]
    by_cases h2 : x = y
    · subst h2
      rw [if_pos rfl]
      exact ⟨fun h => absurd h (by decide), fun h => absurd h h1⟩
    · rw [if_neg h2]
      refine ⟨fun _ => ?_, fun _ => by decide⟩
      rw [gt_iff_lt, Int64.lt_iff_toInt_lt] at h1
      rw [Int64.lt_iff_toInt_lt]
      have : x.toInt ≠ y.toInt := fun q => h2 (Int64.toInt_inj.mp q)
      omega
theorem z_cmp_ge {x y : Int64} : 0 ≤ lg_cmp x y ↔ y ≤ x := by
  have h := z_cmp_lt (x := x) (y := y)
  rw [Int64.lt_iff_toInt_lt, Int32.lt_iff_toInt_lt] at h
  rw [Int64.le_iff_toInt_le, Int32.le_iff_toInt_le]
  have : (0 : Int32).toInt = 0 := rfl
  omega
theorem z_cmp_le {x y : Int64} : lg_cmp x y ≤ 0 ↔ x ≤ y := by
  have h := z_cmp_gt (x := x) (y := y)
  rw [Int64.lt_iff_toInt_lt, Int32.lt_iff_toInt_lt] at h
  rw [Int64.le_iff_toInt_le, Int32.le_iff_toInt_le]
  have : (0 : Int32).toInt = 0 := rfl
  omega
theorem z_lcmp_eq {x y : Int64} {off : Int} (tgt : Nat) (C : z_X F L N ad cc own nl ret fr lo rv gE) (hd0 : decode cc pc = .ok (.lcmp, 1)) (hd : decode cc (pc + 1) = .ok (.ifCond .eq off, 3)) (ht : ((pc + 1 : Nat) : Int) + off = (tgt : Int)) (kt : x = y → z_W F L N ad tgt lv st g) (kf : ¬ x = y → z_W F L N ad (pc + 1 + 3) lv st g) : z_W F L N ad pc lv (.long y :: .long x :: st) g :=
  z_lcmp C hd0 (z_if_eq tgt C hd ht (fun q => kt (z_cmp_eq.mp q)) (fun q => kf (fun r => q (z_cmp_eq.mpr r))))
theorem z_lcmp_lt {x y : Int64} {off : Int} (tgt : Nat) (C : z_X F L N ad cc own nl ret fr lo rv gE) (hd0 : decode cc pc = .ok (.lcmp, 1)) (hd : decode cc (pc + 1) = .ok (.ifCond .lt off, 3)) (ht : ((pc + 1 : Nat) : Int) + off = (tgt : Int)) (kt : x < y → z_W F L N ad tgt lv st g) (kf : ¬ x < y → z_W F L N ad (pc + 1 + 3) lv st g) : z_W F L N ad pc lv (.long y :: .long x :: st) g :=
  z_lcmp C hd0 (z_if_lt tgt C hd ht (fun q => kt (z_cmp_lt.mp q)) (fun q => kf (fun r => q (z_cmp_lt.mpr r))))
theorem z_lcmp_ge {x y : Int64} {off : Int} (tgt : Nat) (C : z_X F L N ad cc own nl ret fr lo rv gE) (hd0 : decode cc pc = .ok (.lcmp, 1)) (hd : decode cc (pc + 1) = .ok (.ifCond .ge off, 3)) (ht : ((pc + 1 : Nat) : Int) + off = (tgt : Int)) (kt : y ≤ x → z_W F L N ad tgt lv st g) (kf : ¬ y ≤ x → z_W F L N ad (pc + 1 + 3) lv st g) : z_W F L N ad pc lv (.long y :: .long x :: st) g :=
  z_lcmp C hd0 (z_if_ge tgt C hd ht (fun q => kt (z_cmp_ge.mp q)) (fun q => kf (fun r => q (z_cmp_ge.mpr r))))
theorem z_lcmp_gt {x y : Int64} {off : Int} (tgt : Nat) (C : z_X F L N ad cc own nl ret fr lo rv gE) (hd0 : decode cc pc = .ok (.lcmp, 1)) (hd : decode cc (pc + 1) = .ok (.ifCond .gt off, 3)) (ht : ((pc + 1 : Nat) : Int) + off = (tgt : Int)) (kt : y < x → z_W F L N ad tgt lv st g) (kf : ¬ y < x → z_W F L N ad (pc + 1 + 3) lv st g) : z_W F L N ad pc lv (.long y :: .long x :: st) g :=
  z_lcmp C hd0 (z_if_gt tgt C hd ht (fun q => kt (z_cmp_gt.mp q)) (fun q => kf (fun r => q (z_cmp_gt.mpr r))))
theorem z_lcmp_le {x y : Int64} {off : Int} (tgt : Nat) (C : z_X F L N ad cc own nl ret fr lo rv gE) (hd0 : decode cc pc = .ok (.lcmp, 1)) (hd : decode cc (pc + 1) = .ok (.ifCond .le off, 3)) (ht : ((pc + 1 : Nat) : Int) + off = (tgt : Int)) (kt : x ≤ y → z_W F L N ad tgt lv st g) (kf : ¬ x ≤ y → z_W F L N ad (pc + 1 + 3) lv st g) : z_W F L N ad pc lv (.long y :: .long x :: st) g :=
  z_lcmp C hd0 (z_if_le tgt C hd ht (fun q => kt (z_cmp_le.mp q)) (fun q => kf (fun r => q (z_cmp_le.mpr r))))
theorem z_lcmp_ne {x y : Int64} {off : Int} (tgt : Nat) (C : z_X F L N ad cc own nl ret fr lo rv gE) (hd0 : decode cc pc = .ok (.lcmp, 1)) (hd : decode cc (pc + 1) = .ok (.ifCond .ne off, 3)) (ht : ((pc + 1 : Nat) : Int) + off = (tgt : Int)) (kt : x = y → z_W F L N ad (pc + 1 + 3) lv st g) (kf : ¬ x = y → z_W F L N ad tgt lv st g) : z_W F L N ad pc lv (.long y :: .long x :: st) g :=
  z_lcmp C hd0 (z_if_ne tgt C hd ht (fun q => kt (z_cmp_eq.mp q)) (fun q => kf (fun r => q (z_cmp_eq.mpr r))))
theorem z_tabIn {dflt lw hi : Int} {offs : Array Int} {len : Nat} {x : Int32} {off : Int} (v : Int32) (tgt : Nat) (C : z_X F L N ad cc own nl ret fr lo rv gE) (hd : decode cc pc = .ok (.tableswitch dflt lw hi offs, len)) (hv : x = v) (h1 : ¬ v.toInt < lw) (h2 : ¬ hi < v.toInt) (ho : offs[(v.toInt - lw).toNat]? = some off) (ht : (pc : Int) + off = (tgt : Int)) (K : z_W F L N ad tgt lv st g) : z_W F L N ad pc lv (.int x :: st) g := by
  subst hv
  obtain ⟨p, l, e, R, s, m, args, below, meth, c, nL, D, cy, A, Q⟩ := F
  obtain ⟨hnl, ⟨hx, hb, hml, hown, hts⟩, hK, hr, hlk, hN, hA, hR, hQ⟩ := C
  subst hnl
  exact fun H locs ls q1 q2 q3 q4 => lv_tableIn hx hb hd h1 h2 ho ht (K H locs ls q1 q2 q3 q4)
theorem z_tabOut {dflt lw hi : Int} {offs : Array Int} {len : Nat} {x : Int32} (tgt : Nat) (C : z_X F L N ad cc own nl ret fr lo rv gE) (hd : decode cc pc = .ok (.tableswitch dflt lw hi offs, len)) (hv : x.toInt < lw ∨ hi < x.toInt) (ht : (pc : Int) + dflt = (tgt : Int)) (K : z_W F L N ad tgt lv st g) : z_W F L N ad pc lv (.int x :: st) g := by
  obtain ⟨p, l, e, R, s, m, args, below, meth, c, nL, D, cy, A, Q⟩ := F
  obtain ⟨hnl, ⟨hx, hb, hml, hown, hts⟩, hK, hr, hlk, hN, hA, hR, hQ⟩ := C
  subst hnl
  exact fun H locs ls q1 q2 q3 q4 => lv_tableOut hx hb hd hv ht (K H locs ls q1 q2 q3 q4)
theorem z_lookup {dflt : Int} {ps : Array (Int × Int)} {len : Nat} {x : Int32} {off : Int} (tgt : Nat) (C : z_X F L N ad cc own nl ret fr lo rv gE) (hd : decode cc pc = .ok (.lookupswitch dflt ps, len)) (hp : (ps.toList.zip (ps.toList.drop 1)).all (fun (a, next) => a.1 < next.1) = true) (ho : Op.lookupswitch.offset ps.toList dflt x.toInt = off) (ht : (pc : Int) + off = (tgt : Int)) (K : z_W F L N ad tgt lv st g) : z_W F L N ad pc lv (.int x :: st) g := by
  obtain ⟨p, l, e, R, s, m, args, below, meth, c, nL, D, cy, A, Q⟩ := F
  obtain ⟨hnl, ⟨hx, hb, hml, hown, hts⟩, hK, hr, hlk, hN, hA, hR, hQ⟩ := C
  subst hnl
  exact fun H locs ls q1 q2 q3 q4 => lv_lookup hx hb hd hp ho ht (K H locs ls q1 q2 q3 q4)
/-- a field's row of the tables: pool place index of class own names field k of class ci -/
def z_FL (own : String) (index ci k : Nat) : Prop := ∃ (Cn : String) (T : u_T) (n : Nat), vwCl[ci]? = some (Cn, T, n) ∧ (∀ w ∈ u_ws Cn T n, w ∈ z_T) ∧ k < n ∧ Cond.fieldLink own index (T k).1 (T k).2.1 (T k).2.2.1 ∈ z_T
def z_FP (own : String) (index ci k : Nat) (ty : FieldType) : Prop := ∃ (Cn : String) (T : u_T) (n : Nat) (ty0 : Nat → FieldType), vwCl[ci]? = some (Cn, T, n) ∧ (∀ w ∈ u_ws Cn T n, w ∈ z_T) ∧ k < n ∧ Cond.fieldLink own index (T k).1 (T k).2.1 (T k).2.2.1 ∈ z_T ∧ (∀ k, k < n → parseFieldDescriptor (T k).2.2.1 = some (ty0 k)) ∧ (∀ a, a < n → ∀ b, b < n → a ≠ b → (T a).2.1 ≠ (T b).2.1) ∧ (T k).2.2.2 = false ∧ parseFieldDescriptor (T k).2.2.1 = some ty
/-- the layout has at o an object of class ci whose field k is of that kind -/
def z_fk (L : Nat → z_C) (N o ci k : Nat) (kd : Nat × Nat) : Prop := o < N ∧ ∃ ks, L o = .inl (ci, ks) ∧ ks[k]? = some kd
/-- the layout has at o an array of kind t, of length n -/
def z_ak (L : Nat → z_C) (N o t n : Nat) : Prop := o < N ∧ ∃ rs, L o = .inr (t, n, rs)
theorem z_get {index o ci k : Nat} {kd : Nat × Nat} (C : z_X F L N ad cc own nl ret fr lo rv gE) (f : z_FL own index ci k) (ly : z_fk L N o ci k kd) (hd : decode cc pc = .ok (.getfield index, 3)) (K : z_W F L N ad (pc + 3) lv (z_v ad g o k kd :: st) g) : z_W F L N ad pc lv (.ref (ad o) :: st) g := by
  obtain ⟨hoN, ks, hL, hks⟩ := ly
  obtain ⟨Cn, T, n, f1, f2, f3, f4⟩ := f
  obtain ⟨p, l, e, R, s, m, args, below, meth, c, nL, D, cy, A, Q⟩ := F
  obtain ⟨hnl, ⟨hx, hb, hml, hown, hts⟩, hK, hr, hlk, hN, hA, hR, hQ⟩ := C
  subst hnl
  intro H locs ls h1 h2 h3 h4
  have he : (z_w L N ad cy g)[o]? = some (ad o, .inr (ci, z_fs ad g o ks)) := by rw [z_w_get hoN, hL]; rfl
  exact va_get hx hb hts f2 hown hK h2 o he f1 k f3 (hts _ f4) (fun _ h => h) (z_fs_get hks) hd (K H locs ls h1 h2 h3 h4)
theorem z_geti {index o ci k r : Nat} (C : z_X F L N ad cc own nl ret fr lo rv gE) (f : z_FL own index ci k) (ly : z_fk L N o ci k (0, r)) (hd : decode cc pc = .ok (.getfield index, 3)) (K : z_W F L N ad (pc + 3) lv (.int (g.1 o k) :: st) g) : z_W F L N ad pc lv (.ref (ad o) :: st) g := z_get C f ly hd K
theorem z_getl {index o ci k r : Nat} (C : z_X F L N ad cc own nl ret fr lo rv gE) (f : z_FL own index ci k) (ly : z_fk L N o ci k (1, r)) (hd : decode cc pc = .ok (.getfield index, 3)) (K : z_W F L N ad (pc + 3) lv (.long (g.2 o k) :: st) g) : z_W F L N ad pc lv (.ref (ad o) :: st) g := z_get C f ly hd K
theorem z_getr {index o ci k r : Nat} (C : z_X F L N ad cc own nl ret fr lo rv gE) (f : z_FL own index ci k) (ly : z_fk L N o ci k (2, r)) (hd : decode cc pc = .ok (.getfield index, 3)) (K : z_W F L N ad (pc + 3) lv (.ref (ad r) :: st) g) : z_W F L N ad pc lv (.ref (ad o) :: st) g := z_get C f ly hd K
theorem z_puti {index o ci k r : Nat} {ty : FieldType} {x : Int32} (C : z_X F L N ad cc own nl ret fr lo rv gE) (f : z_FP own index ci k ty) (ly : z_fk L N o ci k (0, r)) (hn : narrow ty (.int x) = .int x) (hf : fits ty (.int x) = true) (hd : decode cc pc = .ok (.putfield index, 3)) (K : z_W F L N ad (pc + 3) lv st (z_wi g o k x)) : z_W F L N ad pc lv (.int x :: .ref (ad o) :: st) g := by
  obtain ⟨hoN, ks, hL, hks⟩ := ly
  obtain ⟨Cn, T, n, ty0, f1, f2, f3, f4, f5, f6, f7, f8⟩ := f
  obtain ⟨p, l, e, R, s, m, args, below, meth, c, nL, D, cy, A, Q⟩ := F
  obtain ⟨hnl, ⟨hx, hb, hml, hown, hts⟩, hK, hr, hlk, hN, hA, hR, hQ⟩ := C
  subst hnl
  intro H locs ls h1 h2 h3 h4
  have he : (z_w L N ad cy g)[o]? = some (ad o, .inr (ci, z_fs ad g o ks)) := by rw [z_w_get hoN, hL]; rfl
  have hw : (z_w L N ad cy g).set o (ad o, .inr (ci, (z_fs ad g o ks).set k (.int x))) = z_w L N ad cy (z_wi g o k x) := z_w_set (by rw [hL, z_fs_seti hks]; rfl) z_wi_off
  refine va_put hx hb hts f2 ty0 f5 f6 hown hK h2 h3 h4 o he f1 k f3 (hts _ f4) (fun _ h => h) f7 f8 hn hf ?_ hd (fun H1 locs1 h2 h3 h4 => ?_)
  · have := (List.getElem?_eq_some_iff.mp hks).1
    simpa [z_fs] using this
  · rw [hw] at h2 h3
    exact K H1 locs1 ls h1 h2 h3 h4
theorem z_putl {index o ci k r : Nat} {x : Int64} (C : z_X F L N ad cc own nl ret fr lo rv gE) (f : z_FP own index ci k .long) (ly : z_fk L N o ci k (1, r)) (hd : decode cc pc = .ok (.putfield index, 3)) (K : z_W F L N ad (pc + 3) lv st (z_wl g o k x)) : z_W F L N ad pc lv (.long x :: .ref (ad o) :: st) g := by
  obtain ⟨hoN, ks, hL, hks⟩ := ly
  obtain ⟨Cn, T, n, ty0, f1, f2, f3, f4, f5, f6, f7, f8⟩ := f
  obtain ⟨p, l, e, R, s, m, args, below, meth, c, nL, D, cy, A, Q⟩ := F
  obtain ⟨hnl, ⟨hx, hb, hml, hown, hts⟩, hK, hr, hlk, hN, hA, hR, hQ⟩ := C
  subst hnl
  intro H locs ls h1 h2 h3 h4
  have he : (z_w L N ad cy g)[o]? = some (ad o, .inr (ci, z_fs ad g o ks)) := by rw [z_w_get hoN, hL]; rfl
  have hw : (z_w L N ad cy g).set o (ad o, .inr (ci, (z_fs ad g o ks).set k (.long x))) = z_w L N ad cy (z_wl g o k x) := z_w_set (by rw [hL, z_fs_setl hks]; rfl) z_wl_off
  refine va_put hx hb hts f2 ty0 f5 f6 hown hK h2 h3 h4 o he f1 k f3 (hts _ f4) (fun _ h => h) f7 f8 rfl rfl ?_ hd (fun H1 locs1 h2 h3 h4 => ?_)
  · have := (List.getElem?_eq_some_iff.mp hks).1
    simpa [z_fs] using this
  · rw [hw] at h2 h3
    exact K H1 locs1 ls h1 h2 h3 h4
theorem z_upd {g : z_S} {o k : Nat} {x : Int32} : upd (g.1 o) k x = (z_wi g o k x).1 o := by
  funext j
  by_cases h : j = k <;> simp [upd, z_wi, h]
theorem z_updL {g : z_S} {o k : Nat} {x : Int64} : vp_updL (g.2 o) k x = (z_wl g o k x).2 o := by
  funext j
  by_cases h : j = k <;> simp [vp_updL, z_wl, h]
theorem z_iald {o n : Nat} {i : Int32} (C : z_X F L N ad cc own nl ret fr lo rv gE) (ly : z_ak L N o 0 n) (hin : vp_in i n) (hd : decode cc pc = .ok (.iaload, 1)) (K : z_W F L N ad (pc + 1) lv (.int (g.1 o i.toNatClampNeg) :: st) g) : z_W F L N ad pc lv (.int i :: .ref (ad o) :: st) g := by
  obtain ⟨hoN, rs, hL⟩ := ly
  obtain ⟨p, l, e, R, s, m, args, below, meth, c, nL, D, cy, A, Q⟩ := F
  obtain ⟨hnl, ⟨hx, hb, hml, hown, hts⟩, hK, hr, hlk, hN, hA, hR, hQ⟩ := C
  subst hnl
  intro H locs ls h1 h2 h3 h4
  have he : (z_w L N ad cy g)[o]? = some (ad o, .inl (cy 0, n, .inl (g.1 o))) := by rw [z_w_get hoN, hL]; rfl
  exact va_iald hx hb hK h2 o 0 he rfl hin hd (K H locs ls h1 h2 h3 h4)
theorem z_zald {o n : Nat} {i : Int32} (C : z_X F L N ad cc own nl ret fr lo rv gE) (ly : z_ak L N o 2 n) (hin : vp_in i n) (hd : decode cc pc = .ok (.baload, 1)) (K : z_W F L N ad (pc + 1) lv (.int (g.1 o i.toNatClampNeg) :: st) g) : z_W F L N ad pc lv (.int i :: .ref (ad o) :: st) g := by
  obtain ⟨hoN, rs, hL⟩ := ly
  obtain ⟨p, l, e, R, s, m, args, below, meth, c, nL, D, cy, A, Q⟩ := F
  obtain ⟨hnl, ⟨hx, hb, hml, hown, hts⟩, hK, hr, hlk, hN, hA, hR, hQ⟩ := C
  subst hnl
  intro H locs ls h1 h2 h3 h4
  have he : (z_w L N ad cy g)[o]? = some (ad o, .inl (cy 2, n, .inl (g.1 o))) := by rw [z_w_get hoN, hL]; rfl
  exact va_zald hx hb hK h2 o 2 he rfl hin hd (K H locs ls h1 h2 h3 h4)
theorem z_lald {o n : Nat} {i : Int32} (C : z_X F L N ad cc own nl ret fr lo rv gE) (ly : z_ak L N o 1 n) (hin : vp_in i n) (hd : decode cc pc = .ok (.laload, 1)) (K : z_W F L N ad (pc + 1) lv (.long (g.2 o i.toNatClampNeg) :: st) g) : z_W F L N ad pc lv (.int i :: .ref (ad o) :: st) g := by
  obtain ⟨hoN, rs, hL⟩ := ly
  obtain ⟨p, l, e, R, s, m, args, below, meth, c, nL, D, cy, A, Q⟩ := F
  obtain ⟨hnl, ⟨hx, hb, hml, hown, hts⟩, hK, hr, hlk, hN, hA, hR, hQ⟩ := C
  subst hnl
  intro H locs ls h1 h2 h3 h4
  have he : (z_w L N ad cy g)[o]? = some (ad o, .inl (cy 1, n, .inr (.inl (g.2 o)))) := by rw [z_w_get hoN, hL]; rfl
  exact va_lald hx hb hK h2 o 1 he rfl hin hd (K H locs ls h1 h2 h3 h4)
theorem z_aald {o n r : Nat} {rs : List Nat} {i : Int32} (C : z_X F L N ad cc own nl ret fr lo rv gE) (ho : o < N) (hL : L o = .inr (3, n, rs)) (hr0 : rs[i.toNatClampNeg]? = some r) (hin : vp_in i n) (hd : decode cc pc = .ok (.aaload, 1)) (K : z_W F L N ad (pc + 1) lv (.ref (ad r) :: st) g) : z_W F L N ad pc lv (.int i :: .ref (ad o) :: st) g := by
  obtain ⟨p, l, e, R, s, m, args, below, meth, c, nL, D, cy, A, Q⟩ := F
  obtain ⟨hnl, ⟨hx, hb, hml, hown, hts⟩, hK, hr, hlk, hN, hA, hR, hQ⟩ := C
  subst hnl
  intro H locs ls h1 h2 h3 h4
  have he : (z_w L N ad cy g)[o]? = some (ad o, .inl (cy 3, n, .inr (.inr (.inr (.inr (fun i => (rs[i]?).map ad)))))) := by rw [z_w_get ho, hL]; rfl
  refine va_aldq hx hb hK h2 o 3 he rfl hin hd ?_
  show W p l e R s m args below meth c H locs 0 0 Q (F0 m (pc + 1) ls (va_rf ((rs[i.toNatClampNeg]?).map ad) :: st))
  rw [hr0]
  exact K H locs ls h1 h2 h3 h4
theorem z_alen {o t n : Nat} {v : Int32} (C : z_X F L N ad cc own nl ret fr lo rv gE) (ly : z_ak L N o t n) (ht4 : t < 4) (hv : Int32.ofNat n = v) (hd : decode cc pc = .ok (.arraylength, 1)) (K : z_W F L N ad (pc + 1) lv (.int v :: st) g) : z_W F L N ad pc lv (.ref (ad o) :: st) g := by
  obtain ⟨hoN, rs, hL⟩ := ly
  obtain ⟨p, l, e, R, s, m, args, below, meth, c, nL, D, cy, A, Q⟩ := F
  obtain ⟨hnl, ⟨hx, hb, hml, hown, hts⟩, hK, hr, hlk, hN, hA, hR, hQ⟩ := C
  subst hnl
  intro H locs ls h1 h2 h3 h4
  have he : (z_w L N ad cy g)[o]? = some (ad o, .inl (cy t, n, z_ar ad g o t rs)) := by rw [z_w_get hoN, hL]; rfl
  have hty : ∃ ty, (z_tys cy)[t]? = some (cy t, ty) := by
    rcases (show t = 0 ∨ t = 1 ∨ t = 2 ∨ t = 3 by omega) with rfl | rfl | rfl | rfl <;> exact ⟨_, rfl⟩
  obtain ⟨ty, hty⟩ := hty
  exact va_alen hx hb hK h2 o t he hty hv hd (K H locs ls h1 h2 h3 h4)
theorem z_iast {o n : Nat} {i x : Int32} (C : z_X F L N ad cc own nl ret fr lo rv gE) (ly : z_ak L N o 0 n) (hin : vp_in i n) (hd : decode cc pc = .ok (.iastore, 1)) (K : z_W F L N ad (pc + 1) lv st (z_wi g o i.toNatClampNeg x)) : z_W F L N ad pc lv (.int x :: .int i :: .ref (ad o) :: st) g := by
  obtain ⟨hoN, rs, hL⟩ := ly
  obtain ⟨p, l, e, R, s, m, args, below, meth, c, nL, D, cy, A, Q⟩ := F
  obtain ⟨hnl, ⟨hx, hb, hml, hown, hts⟩, hK, hr, hlk, hN, hA, hR, hQ⟩ := C
  subst hnl
  intro H locs ls h1 h2 h3 h4
  have he : (z_w L N ad cy g)[o]? = some (ad o, .inl (cy 0, n, .inl (g.1 o))) := by rw [z_w_get hoN, hL]; rfl
  have hw : (z_w L N ad cy g).set o (ad o, .inl (cy 0, n, .inl (upd (g.1 o) i.toNatClampNeg x))) = z_w L N ad cy (z_wi g o i.toNatClampNeg x) := z_w_set (by rw [hL, z_upd]; rfl) z_wi_off
  refine va_iast hx hb hK h2 h3 h4 o 0 he rfl hin hd (fun H1 locs1 h2 h3 h4 => ?_)
  rw [hw] at h2 h3
  exact K H1 locs1 ls h1 h2 h3 h4
theorem z_zast {o n : Nat} {i x : Int32} (C : z_X F L N ad cc own nl ret fr lo rv gE) (ly : z_ak L N o 2 n) (hin : vp_in i n) (hd : decode cc pc = .ok (.bastore, 1)) (K : z_W F L N ad (pc + 1) lv st (z_wi g o i.toNatClampNeg (x &&& 1))) : z_W F L N ad pc lv (.int x :: .int i :: .ref (ad o) :: st) g := by
  obtain ⟨hoN, rs, hL⟩ := ly
  obtain ⟨p, l, e, R, s, m, args, below, meth, c, nL, D, cy, A, Q⟩ := F
  obtain ⟨hnl, ⟨hx, hb, hml, hown, hts⟩, hK, hr, hlk, hN, hA, hR, hQ⟩ := C
  subst hnl
  intro H locs ls h1 h2 h3 h4
  have he : (z_w L N ad cy g)[o]? = some (ad o, .inl (cy 2, n, .inl (g.1 o))) := by rw [z_w_get hoN, hL]; rfl
  have hw : (z_w L N ad cy g).set o (ad o, .inl (cy 2, n, .inl (upd (g.1 o) i.toNatClampNeg (vp_nar .boolean x)))) = z_w L N ad cy (z_wi g o i.toNatClampNeg (x &&& 1)) := z_w_set (by rw [hL, z_upd]; rfl) z_wi_off
  refine va_zast hx hb hK h2 h3 h4 o 2 he rfl hin hd (fun H1 locs1 h2 h3 h4 => ?_)
  rw [hw] at h2 h3
  exact K H1 locs1 ls h1 h2 h3 h4
theorem z_last {o n : Nat} {i : Int32} {x : Int64} (C : z_X F L N ad cc own nl ret fr lo rv gE) (ly : z_ak L N o 1 n) (hin : vp_in i n) (hd : decode cc pc = .ok (.lastore, 1)) (K : z_W F L N ad (pc + 1) lv st (z_wl g o i.toNatClampNeg x)) : z_W F L N ad pc lv (.long x :: .int i :: .ref (ad o) :: st) g := by
  obtain ⟨hoN, rs, hL⟩ := ly
  obtain ⟨p, l, e, R, s, m, args, below, meth, c, nL, D, cy, A, Q⟩ := F
  obtain ⟨hnl, ⟨hx, hb, hml, hown, hts⟩, hK, hr, hlk, hN, hA, hR, hQ⟩ := C
  subst hnl
  intro H locs ls h1 h2 h3 h4
  have he : (z_w L N ad cy g)[o]? = some (ad o, .inl (cy 1, n, .inr (.inl (g.2 o)))) := by rw [z_w_get hoN, hL]; rfl
  have hw : (z_w L N ad cy g).set o (ad o, .inl (cy 1, n, .inr (.inl (vp_updL (g.2 o) i.toNatClampNeg x)))) = z_w L N ad cy (z_wl g o i.toNatClampNeg x) := z_w_set (by rw [hL, z_updL]; rfl) z_wl_off
  refine va_last hx hb hK h2 h3 h4 o 1 he rfl hin hd (fun H1 locs1 h2 h3 h4 => ?_)
  rw [hw] at h2 h3
  exact K H1 locs1 ls h1 h2 h3 h4
theorem z_vret (C : z_X F L N ad cc own nl none fr lo rv gE) (hv : none = rv) (hg : g = gE) (hd : decode cc pc = .ok (.return_, 1)) : z_W F L N ad pc lv [] g := by
  subst hg
  obtain ⟨p, l, e, R, s, m, args, below, meth, c, nL, D, cy, A, Q⟩ := F
  obtain ⟨hnl, ⟨hx, hb, hml, hown, hts⟩, hK, hr, hlk, hN, hA, hR, hQ⟩ := C
  subst hnl
  subst hQ
  subst hv
  intro H locs ls h1 h2 h3 h4
  exact W.vret hx hb hr (fun t ht hW => ⟨⟨rfl, by rw [ht]; exact h2, va_K.moved hW.alike hK, h3⟩, h4.F ht⟩) h4.2.2 hd hlk
theorem z_iret {x : Int32} (C : z_X F L N ad cc own nl (some .int) fr lo rv gE) (hv : some (.int x) = rv) (hg : g = gE) (hd : decode cc pc = .ok (.ireturn, 1)) : z_W F L N ad pc lv [.int x] g := by
  subst hg
  obtain ⟨p, l, e, R, s, m, args, below, meth, c, nL, D, cy, A, Q⟩ := F
  obtain ⟨hnl, ⟨hx, hb, hml, hown, hts⟩, hK, hr, hlk, hN, hA, hR, hQ⟩ := C
  subst hnl
  subst hQ
  subst hv
  intro H locs ls h1 h2 h3 h4
  exact W.iret hx hb hr (fun t ht hW => ⟨⟨rfl, by rw [ht]; exact h2, va_K.moved hW.alike hK, h3⟩, h4.F ht⟩) h4.2.2 hd hlk
theorem z_zret {x : Int32} (C : z_X F L N ad cc own nl (some .boolean) fr lo rv gE) (hn : x &&& 1 = x) (hv : some (.int x) = rv) (hg : g = gE) (hd : decode cc pc = .ok (.ireturn, 1)) : z_W F L N ad pc lv [.int x] g := by
  subst hg
  obtain ⟨p, l, e, R, s, m, args, below, meth, c, nL, D, cy, A, Q⟩ := F
  obtain ⟨hnl, ⟨hx, hb, hml, hown, hts⟩, hK, hr, hlk, hN, hA, hR, hQ⟩ := C
  subst hnl
  subst hQ
  subst hv
  intro H locs ls h1 h2 h3 h4
  exact W.zret hx hb hr (show Value.int (x &&& 1) = .int x by rw [hn]) (fun t ht hW => ⟨⟨rfl, by rw [ht]; exact h2, va_K.moved hW.alike hK, h3⟩, h4.F ht⟩) h4.2.2 hd hlk
theorem z_lret {x : Int64} (C : z_X F L N ad cc own nl (some .long) fr lo rv gE) (hv : some (.long x) = rv) (hg : g = gE) (hd : decode cc pc = .ok (.lreturn, 1)) : z_W F L N ad pc lv [.long x] g := by
  subst hg
  obtain ⟨p, l, e, R, s, m, args, below, meth, c, nL, D, cy, A, Q⟩ := F
  obtain ⟨hnl, ⟨hx, hb, hml, hown, hts⟩, hK, hr, hlk, hN, hA, hR, hQ⟩ := C
  subst hnl
  subst hQ
  subst hv
  intro H locs ls h1 h2 h3 h4
  exact W.lret hx hb hr (fun t ht hW => ⟨⟨rfl, by rw [ht]; exact h2, va_K.moved hW.alike hK, h3⟩, h4.F ht⟩) h4.2.2 hd hlk
theorem z_mmin {index : Nat} {x y : Int32} (C : z_X F L N ad cc own nl ret fr lo rv gE) (w1 : Cond.methodLink own index Lib.Math.min.name ∈ z_T) (w2 : Cond.static Lib.Math.min.name ∈ z_T) (w3 : Cond.initialized "java/lang/Math" ∈ z_T) (w4 : Cond.code Lib.Math.min.name Lib.Math.min.code 2 (some .int) ∈ z_T) (hf : 1 ≤ fr) (hlo : (st.map fun v => v.category).sum + 13 ≤ lo) (hd : decode cc pc = .ok (.invokestatic index, 3)) (K : z_W F L N ad (pc + 3) lv (.int (if y < x then y else x) :: st) g) : z_W F L N ad pc lv (.int y :: .int x :: st) g := by
  obtain ⟨p, l, e, R, s, m, args, below, meth, c, nL, D, cy, A, Q⟩ := F
  obtain ⟨hnl, ⟨hx, hb, hml, hown, hts⟩, hK, hr, hlk, hN, hA, hR, hQ⟩ := C
  subst hnl
  subst hR
  exact fun H locs ls h1 h2 h3 h4 => va_mmin hx hb (hml.trans h1.1.symm) hown (hts _ w1) (hts _ w2) (hts _ w3) (hts _ w4) hf hlo (Nat.le_refl _) (Nat.le_refl _) hd (K H locs ls h1 h2 h3 h4)
theorem z_mminl {index : Nat} {x y : Int64} (C : z_X F L N ad cc own nl ret fr lo rv gE) (w1 : Cond.methodLink own index Lib.MathLoose.min_long.x ∈ z_T) (w2 : Cond.static Lib.MathLoose.min_long.x ∈ z_T) (w3 : Cond.initialized "java/lang/Math" ∈ z_T) (w4 : Cond.code Lib.MathLoose.min_long.x Lib.MathLoose.min_long.code 4 (some .long) ∈ z_T) (hf : 1 ≤ fr) (hlo : (st.map fun v => v.category).sum + 15 ≤ lo) (hd : decode cc pc = .ok (.invokestatic index, 3)) (K : z_W F L N ad (pc + 3) lv (.long (if y < x then y else x) :: st) g) : z_W F L N ad pc lv (.long y :: .long x :: st) g := by
  obtain ⟨p, l, e, R, s, m, args, below, meth, c, nL, D, cy, A, Q⟩ := F
  obtain ⟨hnl, ⟨hx, hb, hml, hown, hts⟩, hK, hr, hlk, hN, hA, hR, hQ⟩ := C
  subst hnl
  subst hR
  exact fun H locs ls h1 h2 h3 h4 => va_mmin_long hx hb (hml.trans h1.1.symm) hown (hts _ w1) (hts _ w2) (hts _ w3) (hts _ w4) hf hlo (Nat.le_refl _) (Nat.le_refl _) hd (K H locs ls h1 h2 h3 h4)
/-- behind a call in the same world -/
theorem z_after {p : Program} {l : Launch} {e : Env} {R : Room} {s : State} {m : MethodId} {args : Array Value} {below : List Frame} {meth : Method} {c : Code} {H : Heap} {locs : List Loc} {Q : State → Prop} {ls : Array Slot} {rest st0 : List Value} {a : Array Value} {A : Nat → Prop} {D : va_G} {cy : Nat → ClassId} {rv1 : Option Value} {g1 : z_S} {nL : Nat}
    (hr : va_Run p l e R s m args below meth c H locs 0 0 0 0 (F0 m pc ls st0) rest (z_Q D cy L N ad (va_A (z_w L N ad cy g) H.size) rv1 g1 a) (va_A (z_w L N ad cy g) H.size)) (h1 : lv_has ls nL lv) (hD : va_D A (z_w L N ad cy g)) (hS : va_S A s.heap H locs) (hA : ∀ q, s.heap.size ≤ q → A q)
    (K : z_W (p, l, e, R, s, m, args, below, meth, c, nL, D, cy, A, Q) L N ad (pc + 3) lv (rv1.toList ++ rest) g1) : W p l e R s m args below meth c H locs 0 0 Q (F0 m pc ls st0) := by
  have hf : ∀ q, va_A (z_w L N ad cy g) H.size q → A q := by
    intro q h
    rcases h with ⟨k, e, h⟩ | h
    · exact hD.2 k _ h
    · exact hA q (Nat.le_trans hS.1 h)
  intro T hT X
  obtain ⟨v, st₀, t, T', LL, h0, X', hL, e1, e2, ⟨⟨hv, hP1, hK1, hD1⟩, hz, hk⟩, stp⟩ := hr T hT X
  cases hv
  rw [h0] at hz hk
  obtain ⟨t2, a1, b1⟩ := K T'.heap (locs ++ LL) ls h1 (by rw [e1]; exact hP1) (hD1.weaken (fun _ q _ h => hf q.1 h)) ⟨Nat.le_trans hS.1 (by rw [e1]; exact hz), fun q q1 q2 => by rw [e1, hk q (Nat.lt_of_lt_of_le q1 hS.1) (fun z => q2 (hf q z))]; exact hS.2.1 q q1 q2, fun q hq => by
      rcases List.mem_append.mp hq with h | h
      · exact hS.2.2 q h
      · exact hf _ (hL q h)⟩ T' rfl X'
  exact ⟨t2, stp t2 a1, b1⟩
/-- the words of a call -/
def z_CV (own : String) (index : Nat) (y : MethodName) (cc : ByteArray) (nL : Nat) (ret : Option FieldType) (n : Nat) : Prop := Cond.code y cc nL ret ∈ z_T ∧ Cond.methodLink own index y ∈ z_T ∧ Cond.instanceMethod y ∈ z_T ∧ Cond.selects y.cls y y ∈ z_T ∧ Cond.initialized y.cls ∈ z_T ∧ (y.cls ≠ "java/lang/invoke/MethodHandle" ∧ y.cls ≠ "java/lang/invoke/VarHandle" ∧ (parseMethodDescriptor y.desc).map (fun d => d.parameters.length) = some n)
def z_CS (own : String) (index : Nat) (y : MethodName) (cc : ByteArray) (nL : Nat) (ret : Option FieldType) (n : Nat) : Prop := Cond.code y cc nL ret ∈ z_T ∧ Cond.methodLink own index y ∈ z_T ∧ Cond.static y ∈ z_T ∧ Cond.initialized y.cls ∈ z_T ∧ (y.cls ≠ "java/lang/invoke/MethodHandle" ∧ y.cls ≠ "java/lang/invoke/VarHandle" ∧ (parseMethodDescriptor y.desc).map (fun d => d.parameters.length) = some n)
def z_CN (own : String) (index : Nat) (y : MethodName) (cc : ByteArray) (nL : Nat) (ret : Option FieldType) (n : Nat) : Prop := Cond.code y cc nL ret ∈ z_T ∧ (∀ s, z_N s → va_Nw (.methodLinkNest own index y "RunTogether") s) ∧ Cond.static y ∈ z_T ∧ Cond.initialized y.cls ∈ z_T ∧ (y.cls ≠ "java/lang/invoke/MethodHandle" ∧ y.cls ≠ "java/lang/invoke/VarHandle" ∧ (parseMethodDescriptor y.desc).map (fun d => d.parameters.length) = some n)
/-- an object of the class of that name lies at o -/
def z_ok (L : Nat → z_C) (N o : Nat) (cls : String) : Prop := o < N ∧ ∃ (ci : Nat) (ks : List (Nat × Nat)) (T : u_T) (n : Nat), L o = .inl (ci, ks) ∧ vwCl[ci]? = some (cls, T, n)
theorem z_callV {index n o : Nat} {y : MethodName} {cc' : ByteArray} {nL' fr' lo' : Nat} {ret' : Option FieldType} {As : List Value} {rv1 : Option Value} {g1 : z_S} {stk : List Value} (rest : List Value) (C : z_X F L N ad cc own nl ret fr lo rv gE) (hw : z_CV own index y cc' nL' ret' n) (ho : z_ok L N o y.cls) (hn : As.length = n) (hrm : fr' + 1 ≤ fr ∧ 8 + (nL' + 11) + lo' ≤ lo) (hst : (rest.map fun v => v.category).sum ≤ 8) (hd : decode cc pc = .ok (.invokevirtual index, 3)) (hs : stk = As.reverse ++ .ref (ad o) :: rest) (M : z_M y cc' nL' ret' fr' lo' L N ad (.ref (ad o) :: As) g rv1 g1) (K : z_W F L N ad (pc + 3) lv (rv1.toList ++ rest) g1) : z_W F L N ad pc lv stk g := by
  subst hs
  obtain ⟨w1, w2, w3, w4, w5, w6⟩ := hw
  obtain ⟨hoN, ci, ks, T, nn, hL, hcl⟩ := ho
  obtain ⟨p, l, e, R, s, m, args, below, meth, c, nL, D, cy, A, Q⟩ := F
  obtain ⟨hnl, ⟨hx, hb, hml, hown, hts⟩, hK, hr, hlk, hN, hA, hR, hQ⟩ := C
  subst hnl
  subst hR
  intro H locs ls h1 h2 h3 h4
  have he : (z_w L N ad cy g)[o]? = some (ad o, .inr (ci, z_fs ad g o ks)) := by rw [z_w_get hoN, hL]; rfl
  have cb : CallB { frames := fr, cells := 0, slots := 0, locals := lo } s args own index y cc' nL' ret' (Cond.code y cc' nL' ret' :: z_T) { frames := fr', cells := 0, slots := 0, locals := lo' } 0 0 n := callB_of n hts (z_good0 w1) rfl rfl rfl (hts _ w5) (hts _ w2) w6 hrm
  refine z_after (va_runV (As := As) (rest := rest) (C := y.cls) ⟨hx, hb, hml, hown, hts⟩ (M l D cy H.size) ⟨cb, hts _ w3, hts _ w4⟩ ⟨fun a U gg mk q => ?_, va_recv hK h2 hcl he, fun U hU hW => ⟨rfl, by rw [hU], by rw [hU]; exact h2, va_K.moved hW.alike hK, h3.weaken (fun _ _ _ _ => trivial), z_N.warm hW hN⟩⟩ rfl hn h1.1 rfl (lv_room hst) hd ⟨Nat.le_refl _, Nat.le_refl _⟩) h1 h3 h4 hA K
  obtain ⟨q0, q1, qP, qK, qD, qN⟩ := q
  exact ⟨q0, q1, qP, va_K.moved (u := U) (U := U.calling gg mk a) (Vm.Alike.refl U.vm) qK, qD, z_N.same rfl qN⟩
theorem z_callS {index n : Nat} {y : MethodName} {cc' : ByteArray} {nL' fr' lo' : Nat} {ret' : Option FieldType} {As : List Value} {rv1 : Option Value} {g1 : z_S} {stk : List Value} (rest : List Value) (C : z_X F L N ad cc own nl ret fr lo rv gE) (hw : z_CS own index y cc' nL' ret' n) (hn : As.length = n) (hrm : fr' + 1 ≤ fr ∧ 8 + (nL' + 11) + lo' ≤ lo) (hst : (rest.map fun v => v.category).sum ≤ 8) (hd : decode cc pc = .ok (.invokestatic index, 3)) (hs : stk = As.reverse ++ rest) (M : z_M y cc' nL' ret' fr' lo' L N ad As g rv1 g1) (K : z_W F L N ad (pc + 3) lv (rv1.toList ++ rest) g1) : z_W F L N ad pc lv stk g := by
  subst hs
  obtain ⟨w1, w2, w3, w5, w6⟩ := hw
  obtain ⟨p, l, e, R, s, m, args, below, meth, c, nL, D, cy, A, Q⟩ := F
  obtain ⟨hnl, ⟨hx, hb, hml, hown, hts⟩, hK, hr, hlk, hN, hA, hR, hQ⟩ := C
  subst hnl
  subst hR
  intro H locs ls h1 h2 h3 h4
  have cb : CallB { frames := fr, cells := 0, slots := 0, locals := lo } s args own index y cc' nL' ret' (Cond.code y cc' nL' ret' :: z_T) { frames := fr', cells := 0, slots := 0, locals := lo' } 0 0 n := callB_of n hts (z_good0 w1) rfl rfl rfl (hts _ w5) (hts _ w2) w6 hrm
  refine z_after (va_runS (As := As) (rest := rest) ⟨hx, hb, hml, hown, hts⟩ (M l D cy H.size) ⟨cb, hts _ w3⟩ ⟨fun a U gg mk q => ?_, fun U hU hW => ⟨rfl, by rw [hU], by rw [hU]; exact h2, va_K.moved hW.alike hK, h3.weaken (fun _ _ _ _ => trivial), z_N.warm hW hN⟩⟩ rfl hn h1.1 rfl (lv_room hst) hd ⟨Nat.le_refl _, Nat.le_refl _⟩) h1 h3 h4 hA K
  obtain ⟨q0, q1, qP, qK, qD, qN⟩ := q
  exact ⟨q0, q1, qP, va_K.moved (u := U) (U := U.calling gg mk a) (Vm.Alike.refl U.vm) qK, qD, z_N.same rfl qN⟩
theorem z_callN {index n : Nat} {y : MethodName} {cc' : ByteArray} {nL' fr' lo' : Nat} {ret' : Option FieldType} {As : List Value} {rv1 : Option Value} {g1 : z_S} {stk : List Value} (rest : List Value) (C : z_X F L N ad cc own nl ret fr lo rv gE) (hw : z_CN own index y cc' nL' ret' n) (hn : As.length = n) (hrm : fr' + 1 ≤ fr ∧ 8 + (nL' + 11) + lo' ≤ lo) (hst : (rest.map fun v => v.category).sum ≤ 8) (hd : decode cc pc = .ok (.invokestatic index, 3)) (hs : stk = As.reverse ++ rest) (M : z_M y cc' nL' ret' fr' lo' L N ad As g rv1 g1) (K : z_W F L N ad (pc + 3) lv (rv1.toList ++ rest) g1) : z_W F L N ad pc lv stk g := by
  subst hs
  obtain ⟨w1, w2, w3, w5, w6⟩ := hw
  obtain ⟨p, l, e, R, s, m, args, below, meth, c, nL, D, cy, A, Q⟩ := F
  obtain ⟨hnl, ⟨hx, hb, hml, hown, hts⟩, hK, hr, hlk, hN, hA, hR, hQ⟩ := C
  subst hnl
  subst hR
  intro H locs ls h1 h2 h3 h4
  have cb := va_cnB (args := args) (own := own) (host := "RunTogether") (index := index) (maxL := nL') (mc := 0) (ms := 0) (y := y) (bytes := cc') (ret := ret') (rm := { frames := fr', cells := 0, slots := 0, locals := lo' }) (R := { frames := fr, cells := 0, slots := 0, locals := lo }) n hts (z_good0 w1) rfl rfl rfl (w2 s hN) (hts _ w5) w6 hrm
  refine z_after (va_runSN (As := As) (rest := rest) ⟨hx, hb, hml, hown, hts⟩ (M l D cy H.size) ⟨cb, hts _ w3, trivial⟩ ⟨fun a U gg mk q => ?_, fun U hU hW => ⟨rfl, by rw [hU], by rw [hU]; exact h2, va_K.moved hW.alike hK, h3.weaken (fun _ _ _ _ => trivial), z_N.warm hW hN⟩⟩ rfl hn h1.1 rfl (lv_room hst) hd ⟨Nat.le_refl _, Nat.le_refl _⟩) h1 h3 h4 hA K
  obtain ⟨q0, q1, qP, qK, qD, qN⟩ := q
  exact ⟨q0, q1, qP, va_K.moved (u := U) (U := U.calling gg mk a) (Vm.Alike.refl U.vm) qK, qD, z_N.same rfl qN⟩
end ZR

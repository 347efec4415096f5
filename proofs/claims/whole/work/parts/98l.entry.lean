set_option maxRecDepth 100000 in
set_option maxHeartbeats 4000000 in
theorem whole_start {p : Program} {e : Env} {s : State} {m : MethodId} {below : List Frame} {meth : Method} {c : Code} (l : Launch) {b L : Nat} {xs : Nat → Int32} (hL : L ≤ 2048) (C0 : lw_At p s m meth c b L xs) : W p l e room_1 s m #[Value.ref b] below meth c s.heap [] 0 0 (lw_Z below #[Value.ref b] s) (entryFrame m ([Value.ref b] : List Value).toArray 4) := by
  obtain ⟨hx, hb, hr, hml, hown, hts, hX, hbl, hlocks, hgv⟩ := id C0
  have hts' : ∀ w ∈ z_T, w.before #[Value.ref b] s = true := fun w hw => hts w (List.mem_filter.mp hw).1
  obtain ⟨cX0, iX0, nX0⟩ := u_known (C := RX0) (T := TX0) (N := 6) (n := 6) hts' zin_X0 (hts (.instantiable RX0 6) (List.mem_of_getElem? (i := 200) (by decide +kernel)))
  obtain ⟨cX1, iX1, nX1⟩ := u_known (C := RX1) (T := TX1) (N := 16) (n := 16) hts' zin_X1 (hts (.instantiable RX1 16) (List.mem_of_getElem? (i := 647) (by decide +kernel)))
  obtain ⟨cX2, iX2, nX2⟩ := u_known (C := RX2) (T := TX2) (N := 16) (n := 16) hts' zin_X2 (hts (.instantiable RX2 16) (List.mem_of_getElem? (i := 286) (by decide +kernel)))
  obtain ⟨cX3, iX3, nX3⟩ := u_known (C := RX3) (T := TX3) (N := 5) (n := 5) hts' zin_X3 (hts (.instantiable RX3 5) (List.mem_of_getElem? (i := 264) (by decide +kernel)))
  obtain ⟨cX4, iX4, nX4⟩ := u_known (C := RX4) (T := TX4) (N := 2) (n := 2) hts' zin_X4 (hts (.instantiable RX4 2) (List.mem_of_getElem? (i := 653) (by decide +kernel)))
  obtain ⟨cX5, iX5, nX5⟩ := u_known (C := RX5) (T := TX5) (N := 9) (n := 9) hts' zin_X5 (hts (.instantiable RX5 9) (List.mem_of_getElem? (i := 229) (by decide +kernel)))
  obtain ⟨cX6, iX6, nX6⟩ := u_known (C := RX6) (T := TX6) (N := 2) (n := 2) hts' zin_X6 (hts (.instantiable RX6 2) (List.mem_of_getElem? (i := 174) (by decide +kernel)))
  obtain ⟨cX7, iX7, nX7⟩ := u_known (C := RX7) (T := TX7) (N := 3) (n := 3) hts' zin_X7 (hts (.instantiable RX7 3) (List.mem_of_getElem? (i := 103) (by decide +kernel)))
  obtain ⟨cX8, iX8, nX8⟩ := u_known (C := RX8) (T := TX8) (N := 4) (n := 4) hts' zin_X8 (hts (.instantiable RX8 4) (List.mem_of_getElem? (i := 350) (by decide +kernel)))
  obtain ⟨cX9, iX9, nX9⟩ := u_known (C := RX9) (T := TX9) (N := 5) (n := 5) hts' zin_X9 (hts (.instantiable RX9 5) (List.mem_of_getElem? (i := 128) (by decide +kernel)))
  obtain ⟨cX10, iX10, nX10⟩ := u_known (C := RX10) (T := TX10) (N := 12) (n := 12) hts' zin_X10 (hts (.instantiable RX10 12) (List.mem_of_getElem? (i := 95) (by decide +kernel)))
  obtain ⟨cX11, iX11, nX11⟩ := u_known (C := RX11) (T := TX11) (N := 52) (n := 52) hts' zin_X11 (hts (.instantiable RX11 52) (List.mem_of_getElem? (i := 948) (by decide +kernel)))
  obtain ⟨dC, dI, hKc⟩ : ∃ (dC : Nat → ClassId) (dI : Nat → Nat → Nat), ∀ (k : Nat) (q : vw_C), vwCl[k]? = some q → u_Kn s q.1 q.2.1 q.2.2 (dC k) (dI k) := by
    refine ⟨fun k => match k with | 0 => cX0 | 1 => cX1 | 2 => cX2 | 3 => cX3 | 4 => cX4 | 5 => cX5 | 6 => cX6 | 7 => cX7 | 8 => cX8 | 9 => cX9 | 10 => cX10 | 11 => cX11 | _ => cX0, fun k => match k with | 0 => iX0 | 1 => iX1 | 2 => iX2 | 3 => iX3 | 4 => iX4 | 5 => iX5 | 6 => iX6 | 7 => iX7 | 8 => iX8 | 9 => iX9 | 10 => iX10 | 11 => iX11 | _ => iX0, ?_⟩
    intro k q hq
    match k, hq with
    | 0, hq => cases hq; exact nX0
    | 1, hq => cases hq; exact nX1
    | 2, hq => cases hq; exact nX2
    | 3, hq => cases hq; exact nX3
    | 4, hq => cases hq; exact nX4
    | 5, hq => cases hq; exact nX5
    | 6, hq => cases hq; exact nX6
    | 7, hq => cases hq; exact nX7
    | 8, hq => cases hq; exact nX8
    | 9, hq => cases hq; exact nX9
    | 10, hq => cases hq; exact nX10
    | 11, hq => cases hq; exact nX11
    | k + 12, hq => simp [vwCl] at hq
  obtain ⟨cI, kI, oI, hI1, hI2, hI3⟩ := Cond.arrayClass_spec (hts (.arrayClass .int) (List.mem_of_getElem? (i := 126) (by decide +kernel)))
  obtain ⟨cJ, kJ, oJ, hJ1, hJ2, hJ3⟩ := Cond.arrayClass_spec (hts (.arrayClass .long) (List.mem_of_getElem? (i := 262) (by decide +kernel)))
  obtain ⟨cZ, kZ, oZ, hZ1, hZ2, hZ3⟩ := Cond.arrayClass_spec (hts (.arrayClass .boolean) (List.mem_of_getElem? (i := 125) (by decide +kernel)))
  have hAO := hts (.arrayOver (.object "RunTogether$Row")) (List.mem_of_getElem? (i := 292) (by decide +kernel))
  obtain ⟨oR, cR, kR, hR1, hR2, hR3, hR4, hR5⟩ := Cond.arrayOver_spec hAO
  obtain ⟨cy, hcy0, hcy1, hcy2, hcy3⟩ : ∃ cy : Nat → ClassId, cy 0 = cI ∧ cy 1 = cJ ∧ cy 2 = cZ ∧ cy 3 = cR := ⟨fun k => match k with | 0 => cI | 1 => cJ | 2 => cZ | _ => cR, rfl, rfl, rfl, rfl⟩
  have hK : va_K (dC, dI) vwCl (z_tys cy) s := by
    refine ⟨hKc, ?_⟩
    intro k q hq
    match k, hq with
    | 0, hq => cases hq; rw [hcy0]; exact ⟨fun n z => ⟨fun k h => (by cases h), kI, hI2, oI, hI3⟩, hI1⟩
    | 1, hq => cases hq; rw [hcy1]; exact ⟨fun n z => ⟨fun k h => (by cases h), kJ, hJ2, oJ, hJ3⟩, hJ1⟩
    | 2, hq => cases hq; rw [hcy2]; exact ⟨fun n z => ⟨fun k h => (by cases h), kZ, hZ2, oZ, hZ3⟩, hZ1⟩
    | 3, hq => cases hq; rw [hcy3]; exact ⟨fun n z => ⟨fun k h => (by cases h), kR, hR3, oR, hR4⟩, kR, oR, hR3, hR4, hR1, hR5⟩
    | k + 4, hq => simp [z_tys] at hq
  have hN : y_N s := ⟨⟨(va_Nw.of rfl (hts (.methodLinkNest RX5 66 yX10_addCapped "RunTogether") (List.mem_of_getElem? (i := 567) (by decide +kernel)))), (va_Nw.of rfl (hts (.methodLinkNest RX2 135 yX10_codeOf "RunTogether") (List.mem_of_getElem? (i := 922) (by decide +kernel))))⟩, (va_Nw.of rfl (hts (.methodLinkNest RX10 18 yX9_init "RunTogether") (List.mem_of_getElem? (i := 129) (by decide +kernel)))), (va_Nw.of rfl (hts (.methodLinkNest RX0 11 yX9_init "RunTogether") (List.mem_of_getElem? (i := 206) (by decide +kernel)))), (va_Nw.of rfl (hts (.methodLinkNest RX1 45 yX4_init "RunTogether") (List.mem_of_getElem? (i := 654) (by decide +kernel)))), va_AO.of hAO⟩
  obtain ⟨F, hF⟩ : ∃ F : z_F, F = (p, l, e, room_1, s, m, #[Value.ref b], below, meth, c, 4, (dC, dI), cy, (fun q => s.heap.size ≤ q), lw_Z below #[Value.ref b] s) := ⟨_, rfl⟩
  have C : y_X F cL_law RL 4 ret room_1 cy := by
    rw [hF]
    exact ⟨rfl, rfl, ⟨hx, hb, hml, hown, hts'⟩, hK, hr, hlocks, hN, fun _ h => h, rfl⟩
  have X : l_X F b L xs := by
    rw [hF]
    exact ⟨rfl, rfl, hX, hbl, rfl⟩
  have Wk : y_W F 0 0 0 [(0, .ref b)] [] [] := by
    refine y_new C yn_L_7 (Nat.le_of_ble_eq_true rfl) (Nat.le_of_ble_eq_true rfl) dL_law_0 (fun q => ?_)
    refine y_dup C dL_law_3 rfl ?_
    refine y_callI (a := q) (w0 := fun _ => [(q, .inr (10, [.null, .null, .null, .null, .null, .null, .null, .null, .null, .null, .null, .null]))]) (wr := []) (As := []) [.ref q] C yc_L_9 rfl ⟨by decide, by decide⟩ (Nat.le_of_ble_eq_true rfl) ⟨(Nat.le_of_ble_eq_true rfl), (Nat.le_of_ble_eq_true rfl)⟩ dL_law_4 rfl rfl (mX10_init q) ?_
    intro rv w hB
    obtain ⟨rfl, ad, had, rfl⟩ := x0_B hB
    subst had
    refine y_astore_n C dL_law_7 rfl (by decide) [(1, .ref (ad 0)), (0, .ref b)] rfl ?_
    refine y_new C yn_L_10 (Nat.le_of_ble_eq_true rfl) (Nat.le_of_ble_eq_true rfl) dL_law_8 (fun q => ?_)
    refine y_dup C dL_law_11 rfl ?_
    refine y_callI (a := q) (w0 := fun _ => [(q, .inr (11, [.int 0, .int 0, .null, .null, .null, .null, .null, .null, .null, .int 0, .int 0, .null, .null, .null, .int 0, .int 0, .int 0, .int 0, .null, .null, .null, .null, .int 0, .null, .null, .null, .null, .null, .null, .null, .null, .null, .null, .null, .int 0, .long 0, .long 0, .null, .int 0, .null, .null, .null, .null, .null, .null, .null, .null, .null, .int 0, .null, .int 0, .int 0]))]) (wr := z_w (layX false) (nX false) ad cy gX0) (As := []) [.ref q] C yc_L_12 rfl ⟨by decide, by decide⟩ (Nat.le_of_ble_eq_true rfl) ⟨(Nat.le_of_ble_eq_true rfl), (Nat.le_of_ble_eq_true rfl)⟩ dL_law_12 rfl rfl (mX11_init q) ?_
    intro rv w hB
    obtain ⟨rfl, am, ham, rfl⟩ := m0_B hB
    subst ham
    refine y_astore_n C dL_law_15 rfl (by decide) [(2, .ref (am 0)), (1, .ref (ad 0)), (0, .ref b)] rfl ?_
    refine y_iconst (v := 0) C dL_law_16 (by decide) ?_
    refine y_istore_n C dL_law_17 rfl (by decide) [(3, .int 0), (2, .ref (am 0)), (1, .ref (ad 0)), (0, .ref b)] rfl ?_
    refine y_wd (k := lwC false) (n := lwS false) (Nat.le_of_ble_eq_true rfl) (Nat.le_of_ble_eq_true rfl) ?_
    refine y_loc (lv' := [(0, .ref b), (1, .ref (ad 0)), (2, .ref (am 0)), (3, .int 0)]) [3, 2, 1, 0] rfl ?_
    exact law_loop hL C X (L + 1) 0 false ad am A0 gX0 gM0 0 (Nat.zero_le _) (by omega) rfl A0_ok A0_X A0_M A0_C
  rw [hF] at Wk
  rw [lg_entry_eq]
  exact Wk s.heap [] _ (lv_entry [.ref b] (Nat.le_of_ble_eq_true rfl)) (fun k q h => by simp at h) ⟨fun i j p q h => by simp at h, fun k q h => by simp at h⟩ va_S.rf

theorem inX1_mostFaded : ∀ w ∈ wsX10, w ∈ wsX1_mostFaded := by decide +kernel
set_option maxHeartbeats 8000000 in
set_option maxRecDepth 100000 in
/-- mostFaded -/
theorem c_X1_mostFaded (l : Launch) (D : va_G) (cI cZ cG : ClassId) (h1 : Nat) (a1 : Nat → Nat) (sz : Nat) (hd : Int32) (wk : Nat) (nw : Nat) (ll : Int32) (lw : Int32) (lx : Int32) (lk : Int32) (fa : Nat → Int32) (fz : Nat → Int32) (ho : Nat → Int32) (sd : Nat → Int32) (hw : Nat → Int32) (lo : Nat → Int32) (ti : Nat → Int32) (tl : Nat → Int32) (tt : Nat → Int32) (hwk : wk ≤ 200) (hnw : nw ≤ 24) : Met l yX1_mostFaded wsX1_mostFaded ({ frames := 0, cells := 0, slots := 0, locals := 0 } : Room) (va_Pc [.ref h1, .ref (a1 5)] (PB D (tyL cI cZ cG) (wX1 cI cZ cG h1 a1 hd (nI wk) (nI nw) ll lw lx lk fa fz ho sd hw lo ti tl tt) sz)) (va_Qi (fun (r : Int32) (_ : Unit) => r = oI (mF lo nw)) (fun u => QB D (tyL cI cZ cG) (va_A (wX1 cI cZ cG h1 a1 hd (nI wk) (nI nw) ll lw lx lk fa fz ho sd hw lo ti tl tt) sz) ((fun (_ : Unit) => wX1 cI cZ cG h1 a1 hd (nI wk) (nI nw) ll lw lx lk fa fz ho sd hw lo ti tl tt) u)) (va_A (wX1 cI cZ cG h1 a1 hd (nI wk) (nI nw) ll lw lx lk fa fz ho sd hw lo ti tl tt) sz)) 0 0 (va_A (wX1 cI cZ cG h1 a1 hd (nI wk) (nI nw) ll lw lx lk fa fz ho sd hw lo ti tl tt) sz) := by
  refine K_start (cc := cX1_mostFaded) (maxL := 5) (ret := some .int) (Qc := fun A => va_Qi (fun (r : Int32) (_ : Unit) => r = oI (mF lo nw)) (fun u => QB D (tyL cI cZ cG) A ((fun (_ : Unit) => wX1 cI cZ cG h1 a1 hd (nI wk) (nI nw) ll lw lx lk fa fz ho sd hw lo ti tl tt) u)) A) (by decide) rfl (Nat.le_of_ble_eq_true rfl) ?_
  intro p e s m below meth c ls A hx hb hml hr hts hown hlocks hin hN hP hK hD hA hS hl hsz
  have hl : lv_has ls 5 [(0, .ref h1), (1, .ref (a1 5))] := hl
  have fl48 := hts (.fieldLink RX1 48 "ModelTown$Paint" "walls" "I") (by decide +kernel)
  refine lv_bipush (v := 100) hx hb dX1_mostFaded_0 (by decide) ?_
  refine lv_istore_n (lv' := [(2, .int 100), (0, .ref h1), (1, .ref (a1 5))]) hx hb dX1_mostFaded_2 rfl hl (by decide) rfl (fun ls hl => ?_)
  refine lv_bipush (v := (-6)) hx hb dX1_mostFaded_3 (by decide) ?_
  refine lv_istore_n (lv' := [(3, .int (-6)), (2, .int 100), (0, .ref h1), (1, .ref (a1 5))]) hx hb dX1_mostFaded_5 rfl hl (by decide) rfl (fun ls hl => ?_)
  refine lv_iconst (v := 0) hx hb dX1_mostFaded_6 (by decide) ?_
  refine lv_istore (lv' := [(4, .int 0), (3, .int (-6)), (2, .int 100), (0, .ref h1), (1, .ref (a1 5))]) hx hb dX1_mostFaded_7 hl (by decide) rfl (fun ls hl => ?_)
  refine loopW2 (fun (k : Nat) (o : Option Nat) H locs ls => (k ≤ nw) ∧ (o = mF lo k) ∧ va_P D vwCl (wX1 cI cZ cG h1 a1 hd (nI wk) (nI nw) ll lw lx lk fa fz ho sd hw lo ti tl tt) H ∧ va_D A (wX1 cI cZ cG h1 a1 hd (nI wk) (nI nw) ll lw lx lk fa fz ho sd hw lo ti tl tt) ∧ va_S A s.heap H locs ∧ lv_has ls 5 [(4, .int (nI k)), (3, .int (oI o)), (2, .int (foO lo 100 o)), (0, .ref h1), (1, .ref (a1 5))]) (fun (k : Nat) (o : Option Nat) => nw - k) (fun k o H locs ls hI ih9 => ?_) 0 none _ _ _ ⟨(by omega), rfl, hP, hD, hS, lv_sub hl [0, 1, 2, 3, 4] rfl⟩
  obtain ⟨hk, ho2, hP, hD, hS, hl⟩ := hI
  refine lv_iload hx hb dX1_mostFaded_9 (lv_at hl 0 rfl) ?_
  refine lv_aload_n hx hb dX1_mostFaded_11 rfl (lv_at hl 3 rfl) ?_
  refine va_get (D := D) (ci := 1) (v := .int (nI nw)) (C := RX1) (T := TX1) (N := 16) hx hb hts inX1_mostFaded hown hK hP 0 rfl rfl 9 (by decide) fl48 (fun _ h9 => h9) rfl dX1_mostFaded_12 ?_
  refine lv_icmp_ge (tgt := 40) hx hb dX1_mostFaded_15 (by decide) (fun c1 => ?_) (fun c1 => ?_)
  · have c1 : nw ≤ k := (nI_leI (a := nw) (b := k) (by omega) (by omega)).mp c1
    have ek : k = nw := by omega
    rw [ek] at ho2
    refine lv_iload_n hx hb dX1_mostFaded_40 rfl (lv_at hl 1 rfl) ?_
    exact K_iret (wf := (fun (_ : Unit) => wX1 cI cZ cG h1 a1 hd (nI wk) (nI nw) ll lw lx lk fa fz ho sd hw lo ti tl tt)) () hx hb hr hlocks hP hK hD hS dX1_mostFaded_41 (congrArg oI ho2)
  · have c1 : ¬ nw ≤ k := fun hq => c1 ((nI_leI (a := nw) (b := k) (by omega) (by omega)).mpr hq)
    refine lv_aload_n hx hb dX1_mostFaded_18 rfl (lv_at hl 4 rfl) ?_
    refine lv_iload hx hb dX1_mostFaded_19 (lv_at hl 0 rfl) ?_
    refine K_iald hx hb hK hP 6 0 rfl rfl k (by omega) (Nat.le_of_ble_eq_true rfl) dX1_mostFaded_21 ?_
    refine lv_iload_n hx hb dX1_mostFaded_22 rfl (lv_at hl 2 rfl) ?_
    refine lv_icmp_ge (tgt := 34) hx hb dX1_mostFaded_23 (by decide) (fun c2 => ?_) (fun c2 => ?_)
    · refine lv_iinc (v := nI (k + 1)) (lv' := [(4, .int (nI (k + 1))), (3, .int (oI o)), (2, .int (foO lo 100 o)), (0, .ref h1), (1, .ref (a1 5))]) hx hb dX1_mostFaded_34 hl (k := 0) rfl (inc1 _) (by decide) rfl (fun ls hl => ?_)
      refine lv_goto (tgt := 9) hx hb dX1_mostFaded_37 (by decide) ?_
      exact ih9 (k + 1) o _ _ _ ⟨(by omega), (by simp [mF, ← ho2, c2]), hP, hD, hS, lv_sub hl [0, 1, 2, 3, 4] rfl⟩ (by omega)
    · refine lv_aload_n hx hb dX1_mostFaded_26 rfl (lv_at hl 4 rfl) ?_
      refine lv_iload hx hb dX1_mostFaded_27 (lv_at hl 0 rfl) ?_
      refine K_iald hx hb hK hP 6 0 rfl rfl k (by omega) (Nat.le_of_ble_eq_true rfl) dX1_mostFaded_29 ?_
      refine lv_istore_n (lv' := [(2, .int (lo k)), (4, .int (nI k)), (3, .int (oI o)), (0, .ref h1), (1, .ref (a1 5))]) hx hb dX1_mostFaded_30 rfl hl (by decide) rfl (fun ls hl => ?_)
      refine lv_iload hx hb dX1_mostFaded_31 (lv_at hl 1 rfl) ?_
      refine lv_istore_n (lv' := [(3, .int (nI k)), (2, .int (lo k)), (4, .int (nI k)), (0, .ref h1), (1, .ref (a1 5))]) hx hb dX1_mostFaded_33 rfl hl (by decide) rfl (fun ls hl => ?_)
      refine lv_iinc (v := nI (k + 1)) (lv' := [(4, .int (nI (k + 1))), (3, .int (nI k)), (2, .int (lo k)), (0, .ref h1), (1, .ref (a1 5))]) hx hb dX1_mostFaded_34 hl (k := 2) rfl (inc1 _) (by decide) rfl (fun ls hl => ?_)
      refine lv_goto (tgt := 9) hx hb dX1_mostFaded_37 (by decide) ?_
      exact ih9 (k + 1) (some k) _ _ _ ⟨(by omega), (by simp [mF, ← ho2, c2]), hP, hD, hS, lv_sub hl [0, 1, 2, 3, 4] rfl⟩ (by omega)
theorem inX1_paintWalls : ∀ w ∈ wsX10, w ∈ wsX1_paintWalls := by decide +kernel
set_option maxHeartbeats 8000000 in
set_option maxRecDepth 100000 in
/-- paintWalls -/
theorem c_X1_paintWalls (l : Launch) (D : va_G) (cI cZ cG : ClassId) (h1 : Nat) (a1 : Nat → Nat) (sz : Nat) (hd : Int32) (wk : Nat) (nw : Nat) (ll : Int32) (lw : Int32) (lx : Int32) (lk : Int32) (fa : Nat → Int32) (fz : Nat → Int32) (ho : Nat → Int32) (sd : Nat → Int32) (hw : Nat → Int32) (lo : Nat → Int32) (ti : Nat → Int32) (tl : Nat → Int32) (tt : Nat → Int32) (v0 : Int32) (hwk : wk ≤ 200) (hnw : nw ≤ 24) : Met l yX1_paintWalls wsX1_paintWalls ({ frames := 1, cells := 0, slots := 0, locals := 24 } : Room) (va_Pc [.ref h1, .int v0, .ref (a1 5), .ref (a1 6)] (PB D (tyL cI cZ cG) (wX1 cI cZ cG h1 a1 hd (nI wk) (nI nw) ll lw lx lk fa fz ho sd hw lo ti tl tt) sz)) (va_Qi (fun (r : Int32) (u : (Nat → Int32) × (Nat → Int32) × Int32) => r = nI (pG hw nw nw v0 lo ti 0).1 ∧ u = ((pG hw nw nw v0 lo ti 0).2.1, (pG hw nw nw v0 lo ti 0).2.2.1, mnO lk (pG hw nw nw v0 lo ti 0).2.2.2)) (fun u => QB D (tyL cI cZ cG) (va_A (wX1 cI cZ cG h1 a1 hd (nI wk) (nI nw) ll lw lx lk fa fz ho sd hw lo ti tl tt) sz) ((fun (u : (Nat → Int32) × (Nat → Int32) × Int32) => wX1 cI cZ cG h1 a1 hd (nI wk) (nI nw) ll lw lx u.2.2 fa fz ho sd hw u.1 u.2.1 tl tt) u)) (va_A (wX1 cI cZ cG h1 a1 hd (nI wk) (nI nw) ll lw lx lk fa fz ho sd hw lo ti tl tt) sz)) 0 0 (va_A (wX1 cI cZ cG h1 a1 hd (nI wk) (nI nw) ll lw lx lk fa fz ho sd hw lo ti tl tt) sz) := by
  refine K_start (cc := cX1_paintWalls) (maxL := 7) (ret := some .int) (Qc := fun A => va_Qi (fun (r : Int32) (u : (Nat → Int32) × (Nat → Int32) × Int32) => r = nI (pG hw nw nw v0 lo ti 0).1 ∧ u = ((pG hw nw nw v0 lo ti 0).2.1, (pG hw nw nw v0 lo ti 0).2.2.1, mnO lk (pG hw nw nw v0 lo ti 0).2.2.2)) (fun u => QB D (tyL cI cZ cG) A ((fun (u : (Nat → Int32) × (Nat → Int32) × Int32) => wX1 cI cZ cG h1 a1 hd (nI wk) (nI nw) ll lw lx u.2.2 fa fz ho sd hw u.1 u.2.1 tl tt) u)) A) (by decide) rfl (Nat.le_of_ble_eq_true rfl) ?_
  intro p e s m below meth c ls A hx hb hml hr hts hown hlocks hin hN hP hK hD hA hS hl hsz
  have hl : lv_has ls 7 [(0, .ref h1), (1, .int v0), (2, .ref (a1 5)), (3, .ref (a1 6))] := hl
  have fl48 := hts (.fieldLink RX1 48 "ModelTown$Paint" "walls" "I") (by decide +kernel)
  have fl29 := hts (.fieldLink RX1 29 "ModelTown$Paint" "hoursToPaint" "[I") (by decide +kernel)
  have fl75 := hts (.fieldLink RX1 75 "ModelTown$Paint" "hoursLacking" "I") (by decide +kernel)
  refine lv_iload_n hx hb dX1_paintWalls_0 rfl (lv_at hl 1 rfl) ?_
  refine lv_istore (lv' := [(4, .int v0), (0, .ref h1), (1, .int v0), (2, .ref (a1 5)), (3, .ref (a1 6))]) hx hb dX1_paintWalls_1 hl (by decide) rfl (fun ls hl => ?_)
  refine lv_iconst (v := 0) hx hb dX1_paintWalls_3 (by decide) ?_
  refine lv_istore (lv' := [(5, .int 0), (4, .int v0), (0, .ref h1), (1, .int v0), (2, .ref (a1 5)), (3, .ref (a1 6))]) hx hb dX1_paintWalls_4 hl (by decide) rfl (fun ls hl => ?_)
  refine loopW5 (fun (f : Nat) (p : Nat) (v : Int32) (L : Nat → Int32) (T : Nat → Int32) H locs ls => (p + f = nw) ∧ (pG hw nw f v L T p = pG hw nw nw v0 lo ti 0) ∧ va_P D vwCl (wX1 cI cZ cG h1 a1 hd (nI wk) (nI nw) ll lw lx lk fa fz ho sd hw L T tl tt) H ∧ va_D A (wX1 cI cZ cG h1 a1 hd (nI wk) (nI nw) ll lw lx lk fa fz ho sd hw L T tl tt) ∧ va_S A s.heap H locs ∧ lv_has ls 7 [(5, .int (nI p)), (4, .int v), (0, .ref h1), (1, .int v0), (2, .ref (a1 5)), (3, .ref (a1 6))]) (fun (f : Nat) (p : Nat) (v : Int32) (L : Nat → Int32) (T : Nat → Int32) => f) (fun f p v L T H locs ls hI ih6 => ?_) nw 0 v0 lo ti _ _ _ ⟨(by omega), rfl, hP, hD, hS, lv_sub hl [0, 1, 2, 3, 4, 5] rfl⟩
  obtain ⟨hp, hG, hP, hD, hS, hl⟩ := hI
  refine lv_iload hx hb dX1_paintWalls_6 (lv_at hl 0 rfl) ?_
  refine lv_aload_n hx hb dX1_paintWalls_8 rfl (lv_at hl 2 rfl) ?_
  refine va_get (D := D) (ci := 1) (v := .int (nI nw)) (C := RX1) (T := TX1) (N := 16) hx hb hts inX1_paintWalls hown hK hP 0 rfl rfl 9 (by decide) fl48 (fun _ h9 => h9) rfl dX1_paintWalls_9 ?_
  refine lv_icmp_ge (tgt := 100) hx hb dX1_paintWalls_12 (by decide) (fun c1 => ?_) (fun c1 => ?_)
  · have c1 : nw ≤ p := (nI_leI (a := nw) (b := p) (by omega) (by omega)).mp c1
    have ef : f = 0 := by omega
    have ep : p = nw := by omega
    rw [ef, ep] at hG
    refine lv_aload_n hx hb dX1_paintWalls_100 rfl (lv_at hl 2 rfl) ?_
    refine va_get (D := D) (ci := 1) (v := .int (nI nw)) (C := RX1) (T := TX1) (N := 16) hx hb hts inX1_paintWalls hown hK hP 0 rfl rfl 9 (by decide) fl48 (fun _ h9 => h9) rfl dX1_paintWalls_101 ?_
    exact K_iret (wf := (fun (u : (Nat → Int32) × (Nat → Int32) × Int32) => wX1 cI cZ cG h1 a1 hd (nI wk) (nI nw) ll lw lx u.2.2 fa fz ho sd hw u.1 u.2.1 tl tt)) (L, T, lk) hx hb hr hlocks hP hK hD hS dX1_paintWalls_104 (by rw [← hG]; exact ⟨rfl, rfl⟩)
  · have c1 : ¬ nw ≤ p := fun hq => c1 ((nI_leI (a := nw) (b := p) (by omega) (by omega)).mpr hq)
    rcases f with _ | f
    · omega
    refine lv_aload_n hx hb dX1_paintWalls_15 rfl (lv_at hl 2 rfl) ?_
    refine lv_aload_n hx hb dX1_paintWalls_16 rfl (lv_at hl 4 rfl) ?_
    refine K_same (va_runV (As := [.ref (a1 5)]) (rest := []) ⟨hx, hb, hml, hown, hts⟩ (c_X1_mostFaded l D cI cZ cG h1 a1 _ hd wk nw ll lw lx lk fa fz ho sd hw L T tl tt hwk hnw) (cwV 1 hts gX1_paintWalls_X1_mostFaded rfl rfl rfl (by decide +kernel) ⟨(Nat.le_of_ble_eq_true rfl), (Nat.le_of_ble_eq_true rfl)⟩) ⟨PB_blind, va_recv hK hP (ci := 1) (q0 := 0) rfl rfl, (K_preS hN hK hP hD).2⟩ rfl rfl hl.1 rfl (lv_room (Nat.le_of_ble_eq_true rfl)) dX1_paintWalls_17 ⟨Nat.zero_le _, Nat.zero_le _⟩) hD hS hA (fun r2 u H locs hw2 hP hD hS => ?_)
    have hP : va_P D vwCl (wX1 cI cZ cG h1 a1 hd (nI wk) (nI nw) ll lw lx lk fa fz ho sd hw L T tl tt) H := hP
    have hD : va_D A (wX1 cI cZ cG h1 a1 hd (nI wk) (nI nw) ll lw lx lk fa fz ho sd hw L T tl tt) := hD
    rcases ho2 : mF L nw with _ | b2
    · rw [ho2] at hw2
      obtain rfl : r2 = -6 := hw2
      refine lv_istore (lv' := [(6, .int (-6)), (5, .int (nI p)), (4, .int v), (0, .ref h1), (1, .int v0), (2, .ref (a1 5)), (3, .ref (a1 6))]) hx hb dX1_paintWalls_20 hl (by decide) rfl (fun ls hl => ?_)
      refine lv_iload hx hb dX1_paintWalls_22 (lv_at hl 0 rfl) ?_
      refine lv_bipush (v := (-6)) hx hb dX1_paintWalls_24 (by decide) ?_
      refine lv_icmp_ne (tgt := 32) hx hb dX1_paintWalls_26 (by decide) (fun c3 => absurd c3 (by decide)) (fun _ => ?_)
      refine lv_iload hx hb dX1_paintWalls_29 (lv_at hl 1 rfl) ?_
      exact K_iret (wf := (fun (u : (Nat → Int32) × (Nat → Int32) × Int32) => wX1 cI cZ cG h1 a1 hd (nI wk) (nI nw) ll lw lx u.2.2 fa fz ho sd hw u.1 u.2.1 tl tt)) (L, T, lk) hx hb hr hlocks hP hK hD hS dX1_paintWalls_31 (by rw [← hG, pG_none ho2]; exact ⟨rfl, rfl⟩)
    · rw [ho2] at hw2
      obtain rfl : r2 = nI b2 := hw2
      have hbb := mF_lt ho2
      refine lv_istore (lv' := [(6, .int (nI b2)), (5, .int (nI p)), (4, .int v), (0, .ref h1), (1, .int v0), (2, .ref (a1 5)), (3, .ref (a1 6))]) hx hb dX1_paintWalls_20 hl (by decide) rfl (fun ls hl => ?_)
      refine lv_iload hx hb dX1_paintWalls_22 (lv_at hl 0 rfl) ?_
      refine lv_bipush (v := (-6)) hx hb dX1_paintWalls_24 (by decide) ?_
      refine lv_icmp_ne (tgt := 32) hx hb dX1_paintWalls_26 (by decide) (fun c4 => ?_) (fun c4 => absurd c4 (nI_neN (by omega) (by decide)))
      refine lv_aload_n hx hb dX1_paintWalls_32 rfl (lv_at hl 3 rfl) ?_
      refine va_get (D := D) (ci := 1) (v := .ref (a1 4)) (C := RX1) (T := TX1) (N := 16) hx hb hts inX1_paintWalls hown hK hP 0 rfl rfl 6 (by decide) fl29 (fun _ h9 => h9) rfl dX1_paintWalls_33 ?_
      refine lv_iload hx hb dX1_paintWalls_36 (lv_at hl 0 rfl) ?_
      refine K_iald hx hb hK hP 5 0 rfl rfl b2 (by omega) (Nat.le_of_ble_eq_true rfl) dX1_paintWalls_38 ?_
      refine lv_iload hx hb dX1_paintWalls_39 (lv_at hl 2 rfl) ?_
      refine lv_icmp_le (tgt := 68) hx hb dX1_paintWalls_41 (by decide) (fun c5 => ?_) (fun c5 => ?_)
      · refine lv_iload hx hb dX1_paintWalls_68 (lv_at hl 2 rfl) ?_
        refine lv_aload_n hx hb dX1_paintWalls_70 rfl (lv_at hl 3 rfl) ?_
        refine va_get (D := D) (ci := 1) (v := .ref (a1 4)) (C := RX1) (T := TX1) (N := 16) hx hb hts inX1_paintWalls hown hK hP 0 rfl rfl 6 (by decide) fl29 (fun _ h9 => h9) rfl dX1_paintWalls_71 ?_
        refine lv_iload hx hb dX1_paintWalls_74 (lv_at hl 0 rfl) ?_
        refine K_iald hx hb hK hP 5 0 rfl rfl b2 (by omega) (Nat.le_of_ble_eq_true rfl) dX1_paintWalls_76 ?_
        refine lv_isub hx hb dX1_paintWalls_77 ?_
        refine lv_istore (lv' := [(4, .int (v - (hw b2))), (6, .int (nI b2)), (5, .int (nI p)), (0, .ref h1), (1, .int v0), (2, .ref (a1 5)), (3, .ref (a1 6))]) hx hb dX1_paintWalls_78 hl (by decide) rfl (fun ls hl => ?_)
        refine lv_aload_n hx hb dX1_paintWalls_80 rfl (lv_at hl 5 rfl) ?_
        refine lv_iload hx hb dX1_paintWalls_81 (lv_at hl 1 rfl) ?_
        refine lv_bipush (v := 100) hx hb dX1_paintWalls_83 (by decide) ?_
        refine K_iast hx hb hK hP hD hS 6 0 rfl rfl b2 (by omega) (Nat.le_of_ble_eq_true rfl) dX1_paintWalls_85 (fun H locs hP hD hS => ?_)
        have hP : va_P D vwCl (wX1 cI cZ cG h1 a1 hd (nI wk) (nI nw) ll lw lx lk fa fz ho sd hw (upd L b2 100) T tl tt) H := hP
        have hD : va_D A (wX1 cI cZ cG h1 a1 hd (nI wk) (nI nw) ll lw lx lk fa fz ho sd hw (upd L b2 100) T tl tt) := hD
        refine lv_aload_n hx hb dX1_paintWalls_86 rfl (lv_at hl 6 rfl) ?_
        refine lv_iload hx hb dX1_paintWalls_87 (lv_at hl 1 rfl) ?_
        refine lv_dup2_11 hx hb dX1_paintWalls_89 rfl rfl ?_
        refine K_iald hx hb hK hP 7 0 rfl rfl b2 (by omega) (Nat.le_of_ble_eq_true rfl) dX1_paintWalls_90 ?_
        refine lv_iconst (v := 1) hx hb dX1_paintWalls_91 (by decide) ?_
        refine lv_iadd hx hb dX1_paintWalls_92 ?_
        refine K_iast hx hb hK hP hD hS 7 0 rfl rfl b2 (by omega) (Nat.le_of_ble_eq_true rfl) dX1_paintWalls_93 (fun H locs hP hD hS => ?_)
        have hP : va_P D vwCl (wX1 cI cZ cG h1 a1 hd (nI wk) (nI nw) ll lw lx lk fa fz ho sd hw (upd L b2 100) (upd T b2 ((T b2) + 1)) tl tt) H := hP
        have hD : va_D A (wX1 cI cZ cG h1 a1 hd (nI wk) (nI nw) ll lw lx lk fa fz ho sd hw (upd L b2 100) (upd T b2 ((T b2) + 1)) tl tt) := hD
        refine lv_iinc (v := nI (p + 1)) (lv' := [(5, .int (nI (p + 1))), (4, .int (v - (hw b2))), (6, .int (nI b2)), (0, .ref h1), (1, .int v0), (2, .ref (a1 5)), (3, .ref (a1 6))]) hx hb dX1_paintWalls_94 hl (k := 2) rfl (inc1 _) (by decide) rfl (fun ls hl => ?_)
        refine lv_goto (tgt := 6) hx hb dX1_paintWalls_97 (by decide) ?_
        exact ih6 f (p + 1) (v - (hw b2)) (upd L b2 100) (upd T b2 ((T b2) + 1)) _ _ _ ⟨(by omega), ((pG_go ho2 c5).symm.trans hG), hP, hD, hS, lv_sub hl [0, 1, 3, 4, 5, 6] rfl⟩ (by omega)
      · refine lv_aload_n hx hb dX1_paintWalls_44 rfl (lv_at hl 3 rfl) ?_
        refine lv_aload_n hx hb dX1_paintWalls_45 rfl (lv_at hl 3 rfl) ?_
        refine va_get (D := D) (ci := 1) (v := .int lk) (C := RX1) (T := TX1) (N := 16) hx hb hts inX1_paintWalls hown hK hP 0 rfl rfl 15 (by decide) fl75 (fun _ h9 => h9) rfl dX1_paintWalls_46 ?_
        refine lv_aload_n hx hb dX1_paintWalls_49 rfl (lv_at hl 3 rfl) ?_
        refine va_get (D := D) (ci := 1) (v := .ref (a1 4)) (C := RX1) (T := TX1) (N := 16) hx hb hts inX1_paintWalls hown hK hP 0 rfl rfl 6 (by decide) fl29 (fun _ h9 => h9) rfl dX1_paintWalls_50 ?_
        refine lv_iload hx hb dX1_paintWalls_53 (lv_at hl 0 rfl) ?_
        refine K_iald hx hb hK hP 5 0 rfl rfl b2 (by omega) (Nat.le_of_ble_eq_true rfl) dX1_paintWalls_55 ?_
        refine lv_iload hx hb dX1_paintWalls_56 (lv_at hl 2 rfl) ?_
        refine lv_isub hx hb dX1_paintWalls_58 ?_
        refine va_mmin hx hb (hml.trans hl.1.symm) hown (hts (.methodLink RX1 96 Lib.Math.min.name) (by decide +kernel)) (hts (.static Lib.Math.min.name) (by decide +kernel)) (hts (.initialized "java/lang/Math") (by decide +kernel)) (hts (.code Lib.Math.min.name Lib.Math.min.code 2 (some .int)) (by decide +kernel)) (Nat.le_of_ble_eq_true rfl) (Nat.le_of_ble_eq_true rfl) (Nat.zero_le _) (Nat.zero_le _) dX1_paintWalls_59 ?_
        refine va_put (D := D) (ci := 1) (v := .int (if ((hw b2) - v) < lk then ((hw b2) - v) else lk)) (ty := .int) (C := RX1) (T := TX1) (N := 16) hx hb hts inX1_paintWalls tyX1 tyX1_ok nmX1 hown hK hP hD hS 0 rfl rfl 15 (by decide) fl75 (fun _ h9 => h9) rfl (by decide +kernel) rfl rfl (Nat.le_of_ble_eq_true rfl) dX1_paintWalls_62 (fun H locs hP hD hS => ?_)
        have hP : va_P D vwCl (wX1 cI cZ cG h1 a1 hd (nI wk) (nI nw) ll lw lx (if ((hw b2) - v) < lk then ((hw b2) - v) else lk) fa fz ho sd hw L T tl tt) H := hP
        have hD : va_D A (wX1 cI cZ cG h1 a1 hd (nI wk) (nI nw) ll lw lx (if ((hw b2) - v) < lk then ((hw b2) - v) else lk) fa fz ho sd hw L T tl tt) := hD
        refine lv_iload hx hb dX1_paintWalls_65 (lv_at hl 1 rfl) ?_
        exact K_iret (wf := (fun (u : (Nat → Int32) × (Nat → Int32) × Int32) => wX1 cI cZ cG h1 a1 hd (nI wk) (nI nw) ll lw lx u.2.2 fa fz ho sd hw u.1 u.2.1 tl tt)) (L, T, if ((hw b2) - v) < lk then ((hw b2) - v) else lk) hx hb hr hlocks hP hK hD hS dX1_paintWalls_67 (by rw [← hG, pG_stop ho2 c5]; exact ⟨rfl, rfl⟩)
theorem inX1_passWeek : ∀ w ∈ wsX10, w ∈ wsX1_passWeek := by decide +kernel
set_option maxHeartbeats 8000000 in
set_option maxRecDepth 100000 in
/-- passWeek -/
theorem c_X1_passWeek (l : Launch) (D : va_G) (cI cZ cG : ClassId) (h1 : Nat) (a1 : Nat → Nat) (sz : Nat) (hd : Int32) (wk : Nat) (nw : Nat) (ll : Int32) (lw : Int32) (lx : Int32) (lk : Int32) (fa : Nat → Int32) (fz : Nat → Int32) (ho : Nat → Int32) (sd : Nat → Int32) (hw : Nat → Int32) (lo : Nat → Int32) (ti : Nat → Int32) (tl : Nat → Int32) (tt : Nat → Int32) (w : Nat) (v0 : Int32) (hwk : wk ≤ 200) (hnw : nw ≤ 24) (hsd : ∀ k, k < nw → ∃ j, j < 4 ∧ sd k = nI j) (hw200 : w < 200) : Met l yX1_passWeek wsX1_passWeek ({ frames := 2, cells := 0, slots := 0, locals := 50 } : Room) (va_Pc [.ref h1, .int (nI w), .int v0, .ref (a1 5), .ref (a1 6)] (PB D (tyL cI cZ cG) (wX1 cI cZ cG h1 a1 hd (nI wk) (nI nw) ll lw lx lk fa fz ho sd hw lo ti tl tt) sz)) (va_Qi (fun (r : Int32) (u : (Nat → Int32) × (Nat → Int32) × Int32) => r = nI (wkQ fz hw nw w v0 lo ti).1 ∧ u = (fF fa sd (wkQ fz hw nw w v0 lo ti).2.1 nw, (wkQ fz hw nw w v0 lo ti).2.2.1, mnO lk (wkQ fz hw nw w v0 lo ti).2.2.2)) (fun u => QB D (tyL cI cZ cG) (va_A (wX1 cI cZ cG h1 a1 hd (nI wk) (nI nw) ll lw lx lk fa fz ho sd hw lo ti tl tt) sz) ((fun (u : (Nat → Int32) × (Nat → Int32) × Int32) => wX1 cI cZ cG h1 a1 hd (nI wk) (nI nw) ll lw lx u.2.2 fa fz ho sd hw u.1 u.2.1 tl tt) u)) (va_A (wX1 cI cZ cG h1 a1 hd (nI wk) (nI nw) ll lw lx lk fa fz ho sd hw lo ti tl tt) sz)) 0 0 (va_A (wX1 cI cZ cG h1 a1 hd (nI wk) (nI nw) ll lw lx lk fa fz ho sd hw lo ti tl tt) sz) := by
  refine K_start (cc := cX1_passWeek) (maxL := 8) (ret := some .int) (Qc := fun A => va_Qi (fun (r : Int32) (u : (Nat → Int32) × (Nat → Int32) × Int32) => r = nI (wkQ fz hw nw w v0 lo ti).1 ∧ u = (fF fa sd (wkQ fz hw nw w v0 lo ti).2.1 nw, (wkQ fz hw nw w v0 lo ti).2.2.1, mnO lk (wkQ fz hw nw w v0 lo ti).2.2.2)) (fun u => QB D (tyL cI cZ cG) A ((fun (u : (Nat → Int32) × (Nat → Int32) × Int32) => wX1 cI cZ cG h1 a1 hd (nI wk) (nI nw) ll lw lx u.2.2 fa fz ho sd hw u.1 u.2.1 tl tt) u)) A) (by decide) rfl (Nat.le_of_ble_eq_true rfl) ?_
  intro p e s m below meth c ls A hx hb hml hr hts hown hlocks hin hN hP hK hD hA hS hl hsz
  have hl : lv_has ls 8 [(0, .ref h1), (1, .int (nI w)), (2, .int v0), (3, .ref (a1 5)), (4, .ref (a1 6))] := hl
  have fl15 := hts (.fieldLink RX1 15 "ModelTown$Paint" "frosts" "[Z") (by decide +kernel)
  have fl48 := hts (.fieldLink RX1 48 "ModelTown$Paint" "walls" "I") (by decide +kernel)
  have fl11 := hts (.fieldLink RX1 11 "ModelTown$Paint" "fades" "[I") (by decide +kernel)
  have fl26 := hts (.fieldLink RX1 26 "ModelTown$Paint" "sides" "[I") (by decide +kernel)
  refine lv_aload_n hx hb dX1_passWeek_0 rfl (lv_at hl 0 rfl) ?_
  refine va_get (D := D) (ci := 1) (v := .ref (a1 1)) (C := RX1) (T := TX1) (N := 16) hx hb hts inX1_passWeek hown hK hP 0 rfl rfl 1 (by decide) fl15 (fun _ h9 => h9) rfl dX1_passWeek_1 ?_
  refine lv_iload_n hx hb dX1_passWeek_4 rfl (lv_at hl 1 rfl) ?_
  refine K_zald hx hb hK hP 2 1 rfl rfl w (by omega) (Nat.le_of_ble_eq_true rfl) dX1_passWeek_5 ?_
  refine lv_if_eq (tgt := 13) hx hb dX1_passWeek_6 (by decide) (fun c1 => ?_) (fun c1 => ?_)
  · have hQ : wkQ fz hw nw w v0 lo ti = pG hw nw nw v0 lo ti 0 := if_pos c1
    refine lv_aload_n hx hb dX1_passWeek_13 rfl (lv_at hl 0 rfl) ?_
    refine lv_iload_n hx hb dX1_passWeek_14 rfl (lv_at hl 2 rfl) ?_
    refine lv_aload_n hx hb dX1_passWeek_15 rfl (lv_at hl 3 rfl) ?_
    refine lv_aload hx hb dX1_passWeek_16 (lv_at hl 4 rfl) ?_
    refine K_same (va_runV (As := [.int v0, .ref (a1 5), .ref (a1 6)]) (rest := []) ⟨hx, hb, hml, hown, hts⟩ (c_X1_paintWalls l D cI cZ cG h1 a1 _ hd wk nw ll lw lx lk fa fz ho sd hw lo ti tl tt v0 hwk hnw) (cwV 3 hts gX1_passWeek_X1_paintWalls rfl rfl rfl (by decide +kernel) ⟨(Nat.le_of_ble_eq_true rfl), (Nat.le_of_ble_eq_true rfl)⟩) ⟨PB_blind, va_recv hK hP (ci := 1) (q0 := 0) rfl rfl, (K_preS hN hK hP hD).2⟩ rfl rfl hl.1 rfl (lv_room (Nat.le_of_ble_eq_true rfl)) dX1_passWeek_18 ⟨Nat.zero_le _, Nat.zero_le _⟩) hD hS hA (fun r2 u H locs hw2 hP hD hS => ?_)
    obtain ⟨L22, T22, k22⟩ := u
    try dsimp only at hw2
    have hr2 := hw2.1
    have hu2 := hw2.2
    have hL22 := (Prod.mk.inj hu2).1
    have hT22 := (Prod.mk.inj (Prod.mk.inj hu2).2).1
    have hk22 := (Prod.mk.inj (Prod.mk.inj hu2).2).2
    have hP : va_P D vwCl (wX1 cI cZ cG h1 a1 hd (nI wk) (nI nw) ll lw lx k22 fa fz ho sd hw L22 T22 tl tt) H := hP
    have hD : va_D A (wX1 cI cZ cG h1 a1 hd (nI wk) (nI nw) ll lw lx k22 fa fz ho sd hw L22 T22 tl tt) := hD
    refine lv_istore (lv' := [(5, .int r2), (0, .ref h1), (1, .int (nI w)), (2, .int v0), (3, .ref (a1 5)), (4, .ref (a1 6))]) hx hb dX1_passWeek_21 hl (by decide) rfl (fun ls hl => ?_)
    refine lv_iconst (v := 0) hx hb dX1_passWeek_23 (by decide) ?_
    refine lv_istore (lv' := [(6, .int 0), (5, .int r2), (0, .ref h1), (1, .int (nI w)), (2, .int v0), (3, .ref (a1 5)), (4, .ref (a1 6))]) hx hb dX1_passWeek_24 hl (by decide) rfl (fun ls hl => ?_)
    refine loopW2 (fun (k : Nat) (L : Nat → Int32) H locs ls => (k ≤ nw) ∧ (L = fF fa sd L22 k) ∧ va_P D vwCl (wX1 cI cZ cG h1 a1 hd (nI wk) (nI nw) ll lw lx k22 fa fz ho sd hw L T22 tl tt) H ∧ va_D A (wX1 cI cZ cG h1 a1 hd (nI wk) (nI nw) ll lw lx k22 fa fz ho sd hw L T22 tl tt) ∧ va_S A s.heap H locs ∧ lv_has ls 8 [(6, .int (nI k)), (5, .int r2), (0, .ref h1), (1, .int (nI w)), (2, .int v0), (3, .ref (a1 5)), (4, .ref (a1 6))]) (fun (k : Nat) (L : Nat → Int32) => nw - k) (fun k L H locs ls hI ih26 => ?_) 0 L22 _ _ _ ⟨(by omega), rfl, hP, hD, hS, lv_sub hl [0, 1, 2, 3, 4, 5, 6] rfl⟩
    obtain ⟨hk, hL, hP, hD, hS, hl⟩ := hI
    refine lv_iload hx hb dX1_passWeek_26 (lv_at hl 0 rfl) ?_
    refine lv_aload_n hx hb dX1_passWeek_28 rfl (lv_at hl 2 rfl) ?_
    refine va_get (D := D) (ci := 1) (v := .int (nI nw)) (C := RX1) (T := TX1) (N := 16) hx hb hts inX1_passWeek hown hK hP 0 rfl rfl 9 (by decide) fl48 (fun _ h9 => h9) rfl dX1_passWeek_29 ?_
    refine lv_icmp_ge (tgt := 75) hx hb dX1_passWeek_32 (by decide) (fun c3 => ?_) (fun c3 => ?_)
    · have c3 : nw ≤ k := (nI_leI (a := nw) (b := k) (by omega) (by omega)).mp c3
      have ek : k = nw := by omega
      rw [ek] at hL
      refine lv_iload hx hb dX1_passWeek_75 (lv_at hl 1 rfl) ?_
      exact K_iret (wf := (fun (u : (Nat → Int32) × (Nat → Int32) × Int32) => wX1 cI cZ cG h1 a1 hd (nI wk) (nI nw) ll lw lx u.2.2 fa fz ho sd hw u.1 u.2.1 tl tt)) (L, T22, k22) hx hb hr hlocks hP hK hD hS dX1_passWeek_77 (by rw [hQ]; exact ⟨hr2, by rw [hL, hL22, hT22, hk22]⟩)
    · have c3 : ¬ nw ≤ k := fun hq => c3 ((nI_leI (a := nw) (b := k) (by omega) (by omega)).mpr hq)
      obtain ⟨j, hj, hsj⟩ := hsd k (by omega)
      refine lv_aload_n hx hb dX1_passWeek_35 rfl (lv_at hl 5 rfl) ?_
      refine lv_iload hx hb dX1_passWeek_36 (lv_at hl 0 rfl) ?_
      refine K_iald hx hb hK hP 6 0 rfl rfl k (by omega) (Nat.le_of_ble_eq_true rfl) dX1_passWeek_38 ?_
      refine lv_aload_n hx hb dX1_passWeek_39 rfl (lv_at hl 2 rfl) ?_
      refine va_get (D := D) (ci := 1) (v := .ref (a1 0)) (C := RX1) (T := TX1) (N := 16) hx hb hts inX1_passWeek hown hK hP 0 rfl rfl 0 (by decide) fl11 (fun _ h9 => h9) rfl dX1_passWeek_40 ?_
      refine lv_aload_n hx hb dX1_passWeek_43 rfl (lv_at hl 2 rfl) ?_
      refine va_get (D := D) (ci := 1) (v := .ref (a1 3)) (C := RX1) (T := TX1) (N := 16) hx hb hts inX1_passWeek hown hK hP 0 rfl rfl 5 (by decide) fl26 (fun _ h9 => h9) rfl dX1_passWeek_44 ?_
      refine lv_iload hx hb dX1_passWeek_47 (lv_at hl 0 rfl) ?_
      refine K_iald hx hb hK hP 4 0 rfl rfl k (by omega) (Nat.le_of_ble_eq_true rfl) dX1_passWeek_49 ?_
      refine lv_topi (fun z4 ez4 => ?_)
      obtain rfl : z4 = nI j := ez4.trans hsj
      refine K_iald hx hb hK hP 1 0 rfl rfl j (by omega) (Nat.le_of_ble_eq_true rfl) dX1_passWeek_50 ?_
      refine lv_isub hx hb dX1_passWeek_51 ?_
      refine lv_istore (lv' := [(7, .int ((L k) - (fa j))), (6, .int (nI k)), (5, .int r2), (0, .ref h1), (1, .int (nI w)), (2, .int v0), (3, .ref (a1 5)), (4, .ref (a1 6))]) hx hb dX1_passWeek_52 hl (by decide) rfl (fun ls hl => ?_)
      refine lv_aload_n hx hb dX1_passWeek_54 rfl (lv_at hl 6 rfl) ?_
      refine lv_iload hx hb dX1_passWeek_55 (lv_at hl 1 rfl) ?_
      refine lv_iload hx hb dX1_passWeek_57 (lv_at hl 0 rfl) ?_
      refine lv_if_le (tgt := 67) hx hb dX1_passWeek_59 (by decide) (fun c5 => ?_) (fun c5 => ?_)
      · refine lv_iconst (v := 0) hx hb dX1_passWeek_67 (by decide) ?_
        refine K_iast hx hb hK hP hD hS 6 0 rfl rfl k (by omega) (Nat.le_of_ble_eq_true rfl) dX1_passWeek_68 (fun H locs hP hD hS => ?_)
        have hP : va_P D vwCl (wX1 cI cZ cG h1 a1 hd (nI wk) (nI nw) ll lw lx k22 fa fz ho sd hw (upd L k 0) T22 tl tt) H := hP
        have hD : va_D A (wX1 cI cZ cG h1 a1 hd (nI wk) (nI nw) ll lw lx k22 fa fz ho sd hw (upd L k 0) T22 tl tt) := hD
        refine lv_iinc (v := nI (k + 1)) (lv' := [(6, .int (nI (k + 1))), (7, .int ((L k) - (fa j))), (5, .int r2), (0, .ref h1), (1, .int (nI w)), (2, .int v0), (3, .ref (a1 5)), (4, .ref (a1 6))]) hx hb dX1_passWeek_69 hl (k := 1) rfl (inc1 _) (by decide) rfl (fun ls hl => ?_)
        refine lv_goto (tgt := 26) hx hb dX1_passWeek_72 (by decide) ?_
        exact ih26 (k + 1) (upd L k 0) _ _ _ ⟨(by omega), (by rw [fF, ← hL, hsj, nI_clamp (by omega), fdv, if_pos c5]), hP, hD, hS, lv_sub hl [0, 2, 3, 4, 5, 6, 7] rfl⟩ (by omega)
      · refine lv_iload hx hb dX1_passWeek_62 (lv_at hl 0 rfl) ?_
        refine lv_goto (tgt := 68) hx hb dX1_passWeek_64 (by decide) ?_
        refine K_iast hx hb hK hP hD hS 6 0 rfl rfl k (by omega) (Nat.le_of_ble_eq_true rfl) dX1_passWeek_68 (fun H locs hP hD hS => ?_)
        have hP : va_P D vwCl (wX1 cI cZ cG h1 a1 hd (nI wk) (nI nw) ll lw lx k22 fa fz ho sd hw (upd L k ((L k) - (fa j))) T22 tl tt) H := hP
        have hD : va_D A (wX1 cI cZ cG h1 a1 hd (nI wk) (nI nw) ll lw lx k22 fa fz ho sd hw (upd L k ((L k) - (fa j))) T22 tl tt) := hD
        refine lv_iinc (v := nI (k + 1)) (lv' := [(6, .int (nI (k + 1))), (7, .int ((L k) - (fa j))), (5, .int r2), (0, .ref h1), (1, .int (nI w)), (2, .int v0), (3, .ref (a1 5)), (4, .ref (a1 6))]) hx hb dX1_passWeek_69 hl (k := 1) rfl (inc1 _) (by decide) rfl (fun ls hl => ?_)
        refine lv_goto (tgt := 26) hx hb dX1_passWeek_72 (by decide) ?_
        exact ih26 (k + 1) (upd L k ((L k) - (fa j))) _ _ _ ⟨(by omega), (by rw [fF, ← hL, hsj, nI_clamp (by omega), fdv, if_neg c5]), hP, hD, hS, lv_sub hl [0, 2, 3, 4, 5, 6, 7] rfl⟩ (by omega)
  · have hQ : wkQ fz hw nw w v0 lo ti = (0, lo, ti, none) := if_neg c1
    refine lv_iconst (v := 0) hx hb dX1_passWeek_9 (by decide) ?_
    refine lv_goto (tgt := 21) hx hb dX1_passWeek_10 (by decide) ?_
    refine lv_istore (lv' := [(5, .int 0), (0, .ref h1), (1, .int (nI w)), (2, .int v0), (3, .ref (a1 5)), (4, .ref (a1 6))]) hx hb dX1_passWeek_21 hl (by decide) rfl (fun ls hl => ?_)
    refine lv_iconst (v := 0) hx hb dX1_passWeek_23 (by decide) ?_
    refine lv_istore (lv' := [(6, .int 0), (5, .int 0), (0, .ref h1), (1, .int (nI w)), (2, .int v0), (3, .ref (a1 5)), (4, .ref (a1 6))]) hx hb dX1_passWeek_24 hl (by decide) rfl (fun ls hl => ?_)
    refine loopW2 (fun (k : Nat) (L : Nat → Int32) H locs ls => (k ≤ nw) ∧ (L = fF fa sd lo k) ∧ va_P D vwCl (wX1 cI cZ cG h1 a1 hd (nI wk) (nI nw) ll lw lx lk fa fz ho sd hw L ti tl tt) H ∧ va_D A (wX1 cI cZ cG h1 a1 hd (nI wk) (nI nw) ll lw lx lk fa fz ho sd hw L ti tl tt) ∧ va_S A s.heap H locs ∧ lv_has ls 8 [(6, .int (nI k)), (5, .int 0), (0, .ref h1), (1, .int (nI w)), (2, .int v0), (3, .ref (a1 5)), (4, .ref (a1 6))]) (fun (k : Nat) (L : Nat → Int32) => nw - k) (fun k L H locs ls hI ih26 => ?_) 0 lo _ _ _ ⟨(by omega), rfl, hP, hD, hS, lv_sub hl [0, 1, 2, 3, 4, 5, 6] rfl⟩
    obtain ⟨hk, hL, hP, hD, hS, hl⟩ := hI
    refine lv_iload hx hb dX1_passWeek_26 (lv_at hl 0 rfl) ?_
    refine lv_aload_n hx hb dX1_passWeek_28 rfl (lv_at hl 2 rfl) ?_
    refine va_get (D := D) (ci := 1) (v := .int (nI nw)) (C := RX1) (T := TX1) (N := 16) hx hb hts inX1_passWeek hown hK hP 0 rfl rfl 9 (by decide) fl48 (fun _ h9 => h9) rfl dX1_passWeek_29 ?_
    refine lv_icmp_ge (tgt := 75) hx hb dX1_passWeek_32 (by decide) (fun c6 => ?_) (fun c6 => ?_)
    · have c6 : nw ≤ k := (nI_leI (a := nw) (b := k) (by omega) (by omega)).mp c6
      have ek : k = nw := by omega
      rw [ek] at hL
      refine lv_iload hx hb dX1_passWeek_75 (lv_at hl 1 rfl) ?_
      exact K_iret (wf := (fun (u : (Nat → Int32) × (Nat → Int32) × Int32) => wX1 cI cZ cG h1 a1 hd (nI wk) (nI nw) ll lw lx u.2.2 fa fz ho sd hw u.1 u.2.1 tl tt)) (L, ti, lk) hx hb hr hlocks hP hK hD hS dX1_passWeek_77 (by rw [hQ]; exact ⟨rfl, by rw [hL]; rfl⟩)
    · have c6 : ¬ nw ≤ k := fun hq => c6 ((nI_leI (a := nw) (b := k) (by omega) (by omega)).mpr hq)
      obtain ⟨j, hj, hsj⟩ := hsd k (by omega)
      refine lv_aload_n hx hb dX1_passWeek_35 rfl (lv_at hl 5 rfl) ?_
      refine lv_iload hx hb dX1_passWeek_36 (lv_at hl 0 rfl) ?_
      refine K_iald hx hb hK hP 6 0 rfl rfl k (by omega) (Nat.le_of_ble_eq_true rfl) dX1_passWeek_38 ?_
      refine lv_aload_n hx hb dX1_passWeek_39 rfl (lv_at hl 2 rfl) ?_
      refine va_get (D := D) (ci := 1) (v := .ref (a1 0)) (C := RX1) (T := TX1) (N := 16) hx hb hts inX1_passWeek hown hK hP 0 rfl rfl 0 (by decide) fl11 (fun _ h9 => h9) rfl dX1_passWeek_40 ?_
      refine lv_aload_n hx hb dX1_passWeek_43 rfl (lv_at hl 2 rfl) ?_
      refine va_get (D := D) (ci := 1) (v := .ref (a1 3)) (C := RX1) (T := TX1) (N := 16) hx hb hts inX1_passWeek hown hK hP 0 rfl rfl 5 (by decide) fl26 (fun _ h9 => h9) rfl dX1_passWeek_44 ?_
      refine lv_iload hx hb dX1_passWeek_47 (lv_at hl 0 rfl) ?_
      refine K_iald hx hb hK hP 4 0 rfl rfl k (by omega) (Nat.le_of_ble_eq_true rfl) dX1_passWeek_49 ?_
      refine lv_topi (fun z7 ez7 => ?_)
      obtain rfl : z7 = nI j := ez7.trans hsj
      refine K_iald hx hb hK hP 1 0 rfl rfl j (by omega) (Nat.le_of_ble_eq_true rfl) dX1_passWeek_50 ?_
      refine lv_isub hx hb dX1_passWeek_51 ?_
      refine lv_istore (lv' := [(7, .int ((L k) - (fa j))), (6, .int (nI k)), (5, .int 0), (0, .ref h1), (1, .int (nI w)), (2, .int v0), (3, .ref (a1 5)), (4, .ref (a1 6))]) hx hb dX1_passWeek_52 hl (by decide) rfl (fun ls hl => ?_)
      refine lv_aload_n hx hb dX1_passWeek_54 rfl (lv_at hl 6 rfl) ?_
      refine lv_iload hx hb dX1_passWeek_55 (lv_at hl 1 rfl) ?_
      refine lv_iload hx hb dX1_passWeek_57 (lv_at hl 0 rfl) ?_
      refine lv_if_le (tgt := 67) hx hb dX1_passWeek_59 (by decide) (fun c8 => ?_) (fun c8 => ?_)
      · refine lv_iconst (v := 0) hx hb dX1_passWeek_67 (by decide) ?_
        refine K_iast hx hb hK hP hD hS 6 0 rfl rfl k (by omega) (Nat.le_of_ble_eq_true rfl) dX1_passWeek_68 (fun H locs hP hD hS => ?_)
        have hP : va_P D vwCl (wX1 cI cZ cG h1 a1 hd (nI wk) (nI nw) ll lw lx lk fa fz ho sd hw (upd L k 0) ti tl tt) H := hP
        have hD : va_D A (wX1 cI cZ cG h1 a1 hd (nI wk) (nI nw) ll lw lx lk fa fz ho sd hw (upd L k 0) ti tl tt) := hD
        refine lv_iinc (v := nI (k + 1)) (lv' := [(6, .int (nI (k + 1))), (7, .int ((L k) - (fa j))), (5, .int 0), (0, .ref h1), (1, .int (nI w)), (2, .int v0), (3, .ref (a1 5)), (4, .ref (a1 6))]) hx hb dX1_passWeek_69 hl (k := 1) rfl (inc1 _) (by decide) rfl (fun ls hl => ?_)
        refine lv_goto (tgt := 26) hx hb dX1_passWeek_72 (by decide) ?_
        exact ih26 (k + 1) (upd L k 0) _ _ _ ⟨(by omega), (by rw [fF, ← hL, hsj, nI_clamp (by omega), fdv, if_pos c8]), hP, hD, hS, lv_sub hl [0, 2, 3, 4, 5, 6, 7] rfl⟩ (by omega)
      · refine lv_iload hx hb dX1_passWeek_62 (lv_at hl 0 rfl) ?_
        refine lv_goto (tgt := 68) hx hb dX1_passWeek_64 (by decide) ?_
        refine K_iast hx hb hK hP hD hS 6 0 rfl rfl k (by omega) (Nat.le_of_ble_eq_true rfl) dX1_passWeek_68 (fun H locs hP hD hS => ?_)
        have hP : va_P D vwCl (wX1 cI cZ cG h1 a1 hd (nI wk) (nI nw) ll lw lx lk fa fz ho sd hw (upd L k ((L k) - (fa j))) ti tl tt) H := hP
        have hD : va_D A (wX1 cI cZ cG h1 a1 hd (nI wk) (nI nw) ll lw lx lk fa fz ho sd hw (upd L k ((L k) - (fa j))) ti tl tt) := hD
        refine lv_iinc (v := nI (k + 1)) (lv' := [(6, .int (nI (k + 1))), (7, .int ((L k) - (fa j))), (5, .int 0), (0, .ref h1), (1, .int (nI w)), (2, .int v0), (3, .ref (a1 5)), (4, .ref (a1 6))]) hx hb dX1_passWeek_69 hl (k := 1) rfl (inc1 _) (by decide) rfl (fun ls hl => ?_)
        refine lv_goto (tgt := 26) hx hb dX1_passWeek_72 (by decide) ?_
        exact ih26 (k + 1) (upd L k ((L k) - (fa j))) _ _ _ ⟨(by omega), (by rw [fF, ← hL, hsj, nI_clamp (by omega), fdv, if_neg c8]), hP, hD, hS, lv_sub hl [0, 2, 3, 4, 5, 6, 7] rfl⟩ (by omega)
set_option maxHeartbeats 8000000 in
set_option maxRecDepth 100000 in
/-- mostFaded -/
theorem c_X1_mostFaded_th (l : Launch) (D : va_G) (cI cZ cG : ClassId) (h1 : Nat) (a1 : Nat → Nat) (sz : Nat) (hd : Int32) (wk : Nat) (nw : Nat) (ll : Int32) (lw : Int32) (lx : Int32) (lk : Int32) (fa : Nat → Int32) (fz : Nat → Int32) (ho : Nat → Int32) (sd : Nat → Int32) (hw : Nat → Int32) (lo : Nat → Int32) (ti : Nat → Int32) (tl : Nat → Int32) (tt : Nat → Int32) (hwk : wk ≤ 200) (hnw : nw ≤ 24) : Met l yX1_mostFaded wsX1_mostFaded ({ frames := 0, cells := 0, slots := 0, locals := 0 } : Room) (va_Pc [.ref h1, .ref (a1 7)] (PB D (tyL cI cZ cG) (wX1 cI cZ cG h1 a1 hd (nI wk) (nI nw) ll lw lx lk fa fz ho sd hw lo ti tl tt) sz)) (va_Qi (fun (r : Int32) (_ : Unit) => r = oI (mF tl nw)) (fun u => QB D (tyL cI cZ cG) (va_A (wX1 cI cZ cG h1 a1 hd (nI wk) (nI nw) ll lw lx lk fa fz ho sd hw lo ti tl tt) sz) ((fun (_ : Unit) => wX1 cI cZ cG h1 a1 hd (nI wk) (nI nw) ll lw lx lk fa fz ho sd hw lo ti tl tt) u)) (va_A (wX1 cI cZ cG h1 a1 hd (nI wk) (nI nw) ll lw lx lk fa fz ho sd hw lo ti tl tt) sz)) 0 0 (va_A (wX1 cI cZ cG h1 a1 hd (nI wk) (nI nw) ll lw lx lk fa fz ho sd hw lo ti tl tt) sz) := by
  refine K_start (cc := cX1_mostFaded) (maxL := 5) (ret := some .int) (Qc := fun A => va_Qi (fun (r : Int32) (_ : Unit) => r = oI (mF tl nw)) (fun u => QB D (tyL cI cZ cG) A ((fun (_ : Unit) => wX1 cI cZ cG h1 a1 hd (nI wk) (nI nw) ll lw lx lk fa fz ho sd hw lo ti tl tt) u)) A) (by decide) rfl (Nat.le_of_ble_eq_true rfl) ?_
  intro p e s m below meth c ls A hx hb hml hr hts hown hlocks hin hN hP hK hD hA hS hl hsz
  have hl : lv_has ls 5 [(0, .ref h1), (1, .ref (a1 7))] := hl
  have fl48 := hts (.fieldLink RX1 48 "ModelTown$Paint" "walls" "I") (by decide +kernel)
  refine lv_bipush (v := 100) hx hb dX1_mostFaded_0 (by decide) ?_
  refine lv_istore_n (lv' := [(2, .int 100), (0, .ref h1), (1, .ref (a1 7))]) hx hb dX1_mostFaded_2 rfl hl (by decide) rfl (fun ls hl => ?_)
  refine lv_bipush (v := (-6)) hx hb dX1_mostFaded_3 (by decide) ?_
  refine lv_istore_n (lv' := [(3, .int (-6)), (2, .int 100), (0, .ref h1), (1, .ref (a1 7))]) hx hb dX1_mostFaded_5 rfl hl (by decide) rfl (fun ls hl => ?_)
  refine lv_iconst (v := 0) hx hb dX1_mostFaded_6 (by decide) ?_
  refine lv_istore (lv' := [(4, .int 0), (3, .int (-6)), (2, .int 100), (0, .ref h1), (1, .ref (a1 7))]) hx hb dX1_mostFaded_7 hl (by decide) rfl (fun ls hl => ?_)
  refine loopW2 (fun (k : Nat) (o : Option Nat) H locs ls => (k ≤ nw) ∧ (o = mF tl k) ∧ va_P D vwCl (wX1 cI cZ cG h1 a1 hd (nI wk) (nI nw) ll lw lx lk fa fz ho sd hw lo ti tl tt) H ∧ va_D A (wX1 cI cZ cG h1 a1 hd (nI wk) (nI nw) ll lw lx lk fa fz ho sd hw lo ti tl tt) ∧ va_S A s.heap H locs ∧ lv_has ls 5 [(4, .int (nI k)), (3, .int (oI o)), (2, .int (foO tl 100 o)), (0, .ref h1), (1, .ref (a1 7))]) (fun (k : Nat) (o : Option Nat) => nw - k) (fun k o H locs ls hI ih9 => ?_) 0 none _ _ _ ⟨(by omega), rfl, hP, hD, hS, lv_sub hl [0, 1, 2, 3, 4] rfl⟩
  obtain ⟨hk, ho2, hP, hD, hS, hl⟩ := hI
  refine lv_iload hx hb dX1_mostFaded_9 (lv_at hl 0 rfl) ?_
  refine lv_aload_n hx hb dX1_mostFaded_11 rfl (lv_at hl 3 rfl) ?_
  refine va_get (D := D) (ci := 1) (v := .int (nI nw)) (C := RX1) (T := TX1) (N := 16) hx hb hts inX1_mostFaded hown hK hP 0 rfl rfl 9 (by decide) fl48 (fun _ h9 => h9) rfl dX1_mostFaded_12 ?_
  refine lv_icmp_ge (tgt := 40) hx hb dX1_mostFaded_15 (by decide) (fun c1 => ?_) (fun c1 => ?_)
  · have c1 : nw ≤ k := (nI_leI (a := nw) (b := k) (by omega) (by omega)).mp c1
    have ek : k = nw := by omega
    rw [ek] at ho2
    refine lv_iload_n hx hb dX1_mostFaded_40 rfl (lv_at hl 1 rfl) ?_
    exact K_iret (wf := (fun (_ : Unit) => wX1 cI cZ cG h1 a1 hd (nI wk) (nI nw) ll lw lx lk fa fz ho sd hw lo ti tl tt)) () hx hb hr hlocks hP hK hD hS dX1_mostFaded_41 (congrArg oI ho2)
  · have c1 : ¬ nw ≤ k := fun hq => c1 ((nI_leI (a := nw) (b := k) (by omega) (by omega)).mpr hq)
    refine lv_aload_n hx hb dX1_mostFaded_18 rfl (lv_at hl 4 rfl) ?_
    refine lv_iload hx hb dX1_mostFaded_19 (lv_at hl 0 rfl) ?_
    refine K_iald hx hb hK hP 8 0 rfl rfl k (by omega) (Nat.le_of_ble_eq_true rfl) dX1_mostFaded_21 ?_
    refine lv_iload_n hx hb dX1_mostFaded_22 rfl (lv_at hl 2 rfl) ?_
    refine lv_icmp_ge (tgt := 34) hx hb dX1_mostFaded_23 (by decide) (fun c2 => ?_) (fun c2 => ?_)
    · refine lv_iinc (v := nI (k + 1)) (lv' := [(4, .int (nI (k + 1))), (3, .int (oI o)), (2, .int (foO tl 100 o)), (0, .ref h1), (1, .ref (a1 7))]) hx hb dX1_mostFaded_34 hl (k := 0) rfl (inc1 _) (by decide) rfl (fun ls hl => ?_)
      refine lv_goto (tgt := 9) hx hb dX1_mostFaded_37 (by decide) ?_
      exact ih9 (k + 1) o _ _ _ ⟨(by omega), (by simp [mF, ← ho2, c2]), hP, hD, hS, lv_sub hl [0, 1, 2, 3, 4] rfl⟩ (by omega)
    · refine lv_aload_n hx hb dX1_mostFaded_26 rfl (lv_at hl 4 rfl) ?_
      refine lv_iload hx hb dX1_mostFaded_27 (lv_at hl 0 rfl) ?_
      refine K_iald hx hb hK hP 8 0 rfl rfl k (by omega) (Nat.le_of_ble_eq_true rfl) dX1_mostFaded_29 ?_
      refine lv_istore_n (lv' := [(2, .int (tl k)), (4, .int (nI k)), (3, .int (oI o)), (0, .ref h1), (1, .ref (a1 7))]) hx hb dX1_mostFaded_30 rfl hl (by decide) rfl (fun ls hl => ?_)
      refine lv_iload hx hb dX1_mostFaded_31 (lv_at hl 1 rfl) ?_
      refine lv_istore_n (lv' := [(3, .int (nI k)), (2, .int (tl k)), (4, .int (nI k)), (0, .ref h1), (1, .ref (a1 7))]) hx hb dX1_mostFaded_33 rfl hl (by decide) rfl (fun ls hl => ?_)
      refine lv_iinc (v := nI (k + 1)) (lv' := [(4, .int (nI (k + 1))), (3, .int (nI k)), (2, .int (tl k)), (0, .ref h1), (1, .ref (a1 7))]) hx hb dX1_mostFaded_34 hl (k := 2) rfl (inc1 _) (by decide) rfl (fun ls hl => ?_)
      refine lv_goto (tgt := 9) hx hb dX1_mostFaded_37 (by decide) ?_
      exact ih9 (k + 1) (some k) _ _ _ ⟨(by omega), (by simp [mF, ← ho2, c2]), hP, hD, hS, lv_sub hl [0, 1, 2, 3, 4] rfl⟩ (by omega)
set_option maxHeartbeats 8000000 in
set_option maxRecDepth 100000 in
/-- paintWalls -/
theorem c_X1_paintWalls_th (l : Launch) (D : va_G) (cI cZ cG : ClassId) (h1 : Nat) (a1 : Nat → Nat) (sz : Nat) (hd : Int32) (wk : Nat) (nw : Nat) (ll : Int32) (lw : Int32) (lx : Int32) (lk : Int32) (fa : Nat → Int32) (fz : Nat → Int32) (ho : Nat → Int32) (sd : Nat → Int32) (hw : Nat → Int32) (lo : Nat → Int32) (ti : Nat → Int32) (tl : Nat → Int32) (tt : Nat → Int32) (v0 : Int32) (hwk : wk ≤ 200) (hnw : nw ≤ 24) : Met l yX1_paintWalls wsX1_paintWalls ({ frames := 1, cells := 0, slots := 0, locals := 24 } : Room) (va_Pc [.ref h1, .int v0, .ref (a1 7), .ref (a1 8)] (PB D (tyL cI cZ cG) (wX1 cI cZ cG h1 a1 hd (nI wk) (nI nw) ll lw lx lk fa fz ho sd hw lo ti tl tt) sz)) (va_Qi (fun (r : Int32) (u : (Nat → Int32) × (Nat → Int32) × Int32) => r = nI (pG hw nw nw v0 tl tt 0).1 ∧ u = ((pG hw nw nw v0 tl tt 0).2.1, (pG hw nw nw v0 tl tt 0).2.2.1, mnO lk (pG hw nw nw v0 tl tt 0).2.2.2)) (fun u => QB D (tyL cI cZ cG) (va_A (wX1 cI cZ cG h1 a1 hd (nI wk) (nI nw) ll lw lx lk fa fz ho sd hw lo ti tl tt) sz) ((fun (u : (Nat → Int32) × (Nat → Int32) × Int32) => wX1 cI cZ cG h1 a1 hd (nI wk) (nI nw) ll lw lx u.2.2 fa fz ho sd hw lo ti u.1 u.2.1) u)) (va_A (wX1 cI cZ cG h1 a1 hd (nI wk) (nI nw) ll lw lx lk fa fz ho sd hw lo ti tl tt) sz)) 0 0 (va_A (wX1 cI cZ cG h1 a1 hd (nI wk) (nI nw) ll lw lx lk fa fz ho sd hw lo ti tl tt) sz) := by
  refine K_start (cc := cX1_paintWalls) (maxL := 7) (ret := some .int) (Qc := fun A => va_Qi (fun (r : Int32) (u : (Nat → Int32) × (Nat → Int32) × Int32) => r = nI (pG hw nw nw v0 tl tt 0).1 ∧ u = ((pG hw nw nw v0 tl tt 0).2.1, (pG hw nw nw v0 tl tt 0).2.2.1, mnO lk (pG hw nw nw v0 tl tt 0).2.2.2)) (fun u => QB D (tyL cI cZ cG) A ((fun (u : (Nat → Int32) × (Nat → Int32) × Int32) => wX1 cI cZ cG h1 a1 hd (nI wk) (nI nw) ll lw lx u.2.2 fa fz ho sd hw lo ti u.1 u.2.1) u)) A) (by decide) rfl (Nat.le_of_ble_eq_true rfl) ?_
  intro p e s m below meth c ls A hx hb hml hr hts hown hlocks hin hN hP hK hD hA hS hl hsz
  have hl : lv_has ls 7 [(0, .ref h1), (1, .int v0), (2, .ref (a1 7)), (3, .ref (a1 8))] := hl
  have fl48 := hts (.fieldLink RX1 48 "ModelTown$Paint" "walls" "I") (by decide +kernel)
  have fl29 := hts (.fieldLink RX1 29 "ModelTown$Paint" "hoursToPaint" "[I") (by decide +kernel)
  have fl75 := hts (.fieldLink RX1 75 "ModelTown$Paint" "hoursLacking" "I") (by decide +kernel)
  refine lv_iload_n hx hb dX1_paintWalls_0 rfl (lv_at hl 1 rfl) ?_
  refine lv_istore (lv' := [(4, .int v0), (0, .ref h1), (1, .int v0), (2, .ref (a1 7)), (3, .ref (a1 8))]) hx hb dX1_paintWalls_1 hl (by decide) rfl (fun ls hl => ?_)
  refine lv_iconst (v := 0) hx hb dX1_paintWalls_3 (by decide) ?_
  refine lv_istore (lv' := [(5, .int 0), (4, .int v0), (0, .ref h1), (1, .int v0), (2, .ref (a1 7)), (3, .ref (a1 8))]) hx hb dX1_paintWalls_4 hl (by decide) rfl (fun ls hl => ?_)
  refine loopW5 (fun (f : Nat) (p : Nat) (v : Int32) (L : Nat → Int32) (T : Nat → Int32) H locs ls => (p + f = nw) ∧ (pG hw nw f v L T p = pG hw nw nw v0 tl tt 0) ∧ va_P D vwCl (wX1 cI cZ cG h1 a1 hd (nI wk) (nI nw) ll lw lx lk fa fz ho sd hw lo ti L T) H ∧ va_D A (wX1 cI cZ cG h1 a1 hd (nI wk) (nI nw) ll lw lx lk fa fz ho sd hw lo ti L T) ∧ va_S A s.heap H locs ∧ lv_has ls 7 [(5, .int (nI p)), (4, .int v), (0, .ref h1), (1, .int v0), (2, .ref (a1 7)), (3, .ref (a1 8))]) (fun (f : Nat) (p : Nat) (v : Int32) (L : Nat → Int32) (T : Nat → Int32) => f) (fun f p v L T H locs ls hI ih6 => ?_) nw 0 v0 tl tt _ _ _ ⟨(by omega), rfl, hP, hD, hS, lv_sub hl [0, 1, 2, 3, 4, 5] rfl⟩
  obtain ⟨hp, hG, hP, hD, hS, hl⟩ := hI
  refine lv_iload hx hb dX1_paintWalls_6 (lv_at hl 0 rfl) ?_
  refine lv_aload_n hx hb dX1_paintWalls_8 rfl (lv_at hl 2 rfl) ?_
  refine va_get (D := D) (ci := 1) (v := .int (nI nw)) (C := RX1) (T := TX1) (N := 16) hx hb hts inX1_paintWalls hown hK hP 0 rfl rfl 9 (by decide) fl48 (fun _ h9 => h9) rfl dX1_paintWalls_9 ?_
  refine lv_icmp_ge (tgt := 100) hx hb dX1_paintWalls_12 (by decide) (fun c1 => ?_) (fun c1 => ?_)
  · have c1 : nw ≤ p := (nI_leI (a := nw) (b := p) (by omega) (by omega)).mp c1
    have ef : f = 0 := by omega
    have ep : p = nw := by omega
    rw [ef, ep] at hG
    refine lv_aload_n hx hb dX1_paintWalls_100 rfl (lv_at hl 2 rfl) ?_
    refine va_get (D := D) (ci := 1) (v := .int (nI nw)) (C := RX1) (T := TX1) (N := 16) hx hb hts inX1_paintWalls hown hK hP 0 rfl rfl 9 (by decide) fl48 (fun _ h9 => h9) rfl dX1_paintWalls_101 ?_
    exact K_iret (wf := (fun (u : (Nat → Int32) × (Nat → Int32) × Int32) => wX1 cI cZ cG h1 a1 hd (nI wk) (nI nw) ll lw lx u.2.2 fa fz ho sd hw lo ti u.1 u.2.1)) (L, T, lk) hx hb hr hlocks hP hK hD hS dX1_paintWalls_104 (by rw [← hG]; exact ⟨rfl, rfl⟩)
  · have c1 : ¬ nw ≤ p := fun hq => c1 ((nI_leI (a := nw) (b := p) (by omega) (by omega)).mpr hq)
    rcases f with _ | f
    · omega
    refine lv_aload_n hx hb dX1_paintWalls_15 rfl (lv_at hl 2 rfl) ?_
    refine lv_aload_n hx hb dX1_paintWalls_16 rfl (lv_at hl 4 rfl) ?_
    refine K_same (va_runV (As := [.ref (a1 7)]) (rest := []) ⟨hx, hb, hml, hown, hts⟩ (c_X1_mostFaded_th l D cI cZ cG h1 a1 _ hd wk nw ll lw lx lk fa fz ho sd hw lo ti L T hwk hnw) (cwV 1 hts gX1_paintWalls_X1_mostFaded rfl rfl rfl (by decide +kernel) ⟨(Nat.le_of_ble_eq_true rfl), (Nat.le_of_ble_eq_true rfl)⟩) ⟨PB_blind, va_recv hK hP (ci := 1) (q0 := 0) rfl rfl, (K_preS hN hK hP hD).2⟩ rfl rfl hl.1 rfl (lv_room (Nat.le_of_ble_eq_true rfl)) dX1_paintWalls_17 ⟨Nat.zero_le _, Nat.zero_le _⟩) hD hS hA (fun r2 u H locs hw2 hP hD hS => ?_)
    have hP : va_P D vwCl (wX1 cI cZ cG h1 a1 hd (nI wk) (nI nw) ll lw lx lk fa fz ho sd hw lo ti L T) H := hP
    have hD : va_D A (wX1 cI cZ cG h1 a1 hd (nI wk) (nI nw) ll lw lx lk fa fz ho sd hw lo ti L T) := hD
    rcases ho2 : mF L nw with _ | b2
    · rw [ho2] at hw2
      obtain rfl : r2 = -6 := hw2
      refine lv_istore (lv' := [(6, .int (-6)), (5, .int (nI p)), (4, .int v), (0, .ref h1), (1, .int v0), (2, .ref (a1 7)), (3, .ref (a1 8))]) hx hb dX1_paintWalls_20 hl (by decide) rfl (fun ls hl => ?_)
      refine lv_iload hx hb dX1_paintWalls_22 (lv_at hl 0 rfl) ?_
      refine lv_bipush (v := (-6)) hx hb dX1_paintWalls_24 (by decide) ?_
      refine lv_icmp_ne (tgt := 32) hx hb dX1_paintWalls_26 (by decide) (fun c3 => absurd c3 (by decide)) (fun _ => ?_)
      refine lv_iload hx hb dX1_paintWalls_29 (lv_at hl 1 rfl) ?_
      exact K_iret (wf := (fun (u : (Nat → Int32) × (Nat → Int32) × Int32) => wX1 cI cZ cG h1 a1 hd (nI wk) (nI nw) ll lw lx u.2.2 fa fz ho sd hw lo ti u.1 u.2.1)) (L, T, lk) hx hb hr hlocks hP hK hD hS dX1_paintWalls_31 (by rw [← hG, pG_none ho2]; exact ⟨rfl, rfl⟩)
    · rw [ho2] at hw2
      obtain rfl : r2 = nI b2 := hw2
      have hbb := mF_lt ho2
      refine lv_istore (lv' := [(6, .int (nI b2)), (5, .int (nI p)), (4, .int v), (0, .ref h1), (1, .int v0), (2, .ref (a1 7)), (3, .ref (a1 8))]) hx hb dX1_paintWalls_20 hl (by decide) rfl (fun ls hl => ?_)
      refine lv_iload hx hb dX1_paintWalls_22 (lv_at hl 0 rfl) ?_
      refine lv_bipush (v := (-6)) hx hb dX1_paintWalls_24 (by decide) ?_
      refine lv_icmp_ne (tgt := 32) hx hb dX1_paintWalls_26 (by decide) (fun c4 => ?_) (fun c4 => absurd c4 (nI_neN (by omega) (by decide)))
      refine lv_aload_n hx hb dX1_paintWalls_32 rfl (lv_at hl 3 rfl) ?_
      refine va_get (D := D) (ci := 1) (v := .ref (a1 4)) (C := RX1) (T := TX1) (N := 16) hx hb hts inX1_paintWalls hown hK hP 0 rfl rfl 6 (by decide) fl29 (fun _ h9 => h9) rfl dX1_paintWalls_33 ?_
      refine lv_iload hx hb dX1_paintWalls_36 (lv_at hl 0 rfl) ?_
      refine K_iald hx hb hK hP 5 0 rfl rfl b2 (by omega) (Nat.le_of_ble_eq_true rfl) dX1_paintWalls_38 ?_
      refine lv_iload hx hb dX1_paintWalls_39 (lv_at hl 2 rfl) ?_
      refine lv_icmp_le (tgt := 68) hx hb dX1_paintWalls_41 (by decide) (fun c5 => ?_) (fun c5 => ?_)
      · refine lv_iload hx hb dX1_paintWalls_68 (lv_at hl 2 rfl) ?_
        refine lv_aload_n hx hb dX1_paintWalls_70 rfl (lv_at hl 3 rfl) ?_
        refine va_get (D := D) (ci := 1) (v := .ref (a1 4)) (C := RX1) (T := TX1) (N := 16) hx hb hts inX1_paintWalls hown hK hP 0 rfl rfl 6 (by decide) fl29 (fun _ h9 => h9) rfl dX1_paintWalls_71 ?_
        refine lv_iload hx hb dX1_paintWalls_74 (lv_at hl 0 rfl) ?_
        refine K_iald hx hb hK hP 5 0 rfl rfl b2 (by omega) (Nat.le_of_ble_eq_true rfl) dX1_paintWalls_76 ?_
        refine lv_isub hx hb dX1_paintWalls_77 ?_
        refine lv_istore (lv' := [(4, .int (v - (hw b2))), (6, .int (nI b2)), (5, .int (nI p)), (0, .ref h1), (1, .int v0), (2, .ref (a1 7)), (3, .ref (a1 8))]) hx hb dX1_paintWalls_78 hl (by decide) rfl (fun ls hl => ?_)
        refine lv_aload_n hx hb dX1_paintWalls_80 rfl (lv_at hl 5 rfl) ?_
        refine lv_iload hx hb dX1_paintWalls_81 (lv_at hl 1 rfl) ?_
        refine lv_bipush (v := 100) hx hb dX1_paintWalls_83 (by decide) ?_
        refine K_iast hx hb hK hP hD hS 8 0 rfl rfl b2 (by omega) (Nat.le_of_ble_eq_true rfl) dX1_paintWalls_85 (fun H locs hP hD hS => ?_)
        have hP : va_P D vwCl (wX1 cI cZ cG h1 a1 hd (nI wk) (nI nw) ll lw lx lk fa fz ho sd hw lo ti (upd L b2 100) T) H := hP
        have hD : va_D A (wX1 cI cZ cG h1 a1 hd (nI wk) (nI nw) ll lw lx lk fa fz ho sd hw lo ti (upd L b2 100) T) := hD
        refine lv_aload_n hx hb dX1_paintWalls_86 rfl (lv_at hl 6 rfl) ?_
        refine lv_iload hx hb dX1_paintWalls_87 (lv_at hl 1 rfl) ?_
        refine lv_dup2_11 hx hb dX1_paintWalls_89 rfl rfl ?_
        refine K_iald hx hb hK hP 9 0 rfl rfl b2 (by omega) (Nat.le_of_ble_eq_true rfl) dX1_paintWalls_90 ?_
        refine lv_iconst (v := 1) hx hb dX1_paintWalls_91 (by decide) ?_
        refine lv_iadd hx hb dX1_paintWalls_92 ?_
        refine K_iast hx hb hK hP hD hS 9 0 rfl rfl b2 (by omega) (Nat.le_of_ble_eq_true rfl) dX1_paintWalls_93 (fun H locs hP hD hS => ?_)
        have hP : va_P D vwCl (wX1 cI cZ cG h1 a1 hd (nI wk) (nI nw) ll lw lx lk fa fz ho sd hw lo ti (upd L b2 100) (upd T b2 ((T b2) + 1))) H := hP
        have hD : va_D A (wX1 cI cZ cG h1 a1 hd (nI wk) (nI nw) ll lw lx lk fa fz ho sd hw lo ti (upd L b2 100) (upd T b2 ((T b2) + 1))) := hD
        refine lv_iinc (v := nI (p + 1)) (lv' := [(5, .int (nI (p + 1))), (4, .int (v - (hw b2))), (6, .int (nI b2)), (0, .ref h1), (1, .int v0), (2, .ref (a1 7)), (3, .ref (a1 8))]) hx hb dX1_paintWalls_94 hl (k := 2) rfl (inc1 _) (by decide) rfl (fun ls hl => ?_)
        refine lv_goto (tgt := 6) hx hb dX1_paintWalls_97 (by decide) ?_
        exact ih6 f (p + 1) (v - (hw b2)) (upd L b2 100) (upd T b2 ((T b2) + 1)) _ _ _ ⟨(by omega), ((pG_go ho2 c5).symm.trans hG), hP, hD, hS, lv_sub hl [0, 1, 3, 4, 5, 6] rfl⟩ (by omega)
      · refine lv_aload_n hx hb dX1_paintWalls_44 rfl (lv_at hl 3 rfl) ?_
        refine lv_aload_n hx hb dX1_paintWalls_45 rfl (lv_at hl 3 rfl) ?_
        refine va_get (D := D) (ci := 1) (v := .int lk) (C := RX1) (T := TX1) (N := 16) hx hb hts inX1_paintWalls hown hK hP 0 rfl rfl 15 (by decide) fl75 (fun _ h9 => h9) rfl dX1_paintWalls_46 ?_
        refine lv_aload_n hx hb dX1_paintWalls_49 rfl (lv_at hl 3 rfl) ?_
        refine va_get (D := D) (ci := 1) (v := .ref (a1 4)) (C := RX1) (T := TX1) (N := 16) hx hb hts inX1_paintWalls hown hK hP 0 rfl rfl 6 (by decide) fl29 (fun _ h9 => h9) rfl dX1_paintWalls_50 ?_
        refine lv_iload hx hb dX1_paintWalls_53 (lv_at hl 0 rfl) ?_
        refine K_iald hx hb hK hP 5 0 rfl rfl b2 (by omega) (Nat.le_of_ble_eq_true rfl) dX1_paintWalls_55 ?_
        refine lv_iload hx hb dX1_paintWalls_56 (lv_at hl 2 rfl) ?_
        refine lv_isub hx hb dX1_paintWalls_58 ?_
        refine va_mmin hx hb (hml.trans hl.1.symm) hown (hts (.methodLink RX1 96 Lib.Math.min.name) (by decide +kernel)) (hts (.static Lib.Math.min.name) (by decide +kernel)) (hts (.initialized "java/lang/Math") (by decide +kernel)) (hts (.code Lib.Math.min.name Lib.Math.min.code 2 (some .int)) (by decide +kernel)) (Nat.le_of_ble_eq_true rfl) (Nat.le_of_ble_eq_true rfl) (Nat.zero_le _) (Nat.zero_le _) dX1_paintWalls_59 ?_
        refine va_put (D := D) (ci := 1) (v := .int (if ((hw b2) - v) < lk then ((hw b2) - v) else lk)) (ty := .int) (C := RX1) (T := TX1) (N := 16) hx hb hts inX1_paintWalls tyX1 tyX1_ok nmX1 hown hK hP hD hS 0 rfl rfl 15 (by decide) fl75 (fun _ h9 => h9) rfl (by decide +kernel) rfl rfl (Nat.le_of_ble_eq_true rfl) dX1_paintWalls_62 (fun H locs hP hD hS => ?_)
        have hP : va_P D vwCl (wX1 cI cZ cG h1 a1 hd (nI wk) (nI nw) ll lw lx (if ((hw b2) - v) < lk then ((hw b2) - v) else lk) fa fz ho sd hw lo ti L T) H := hP
        have hD : va_D A (wX1 cI cZ cG h1 a1 hd (nI wk) (nI nw) ll lw lx (if ((hw b2) - v) < lk then ((hw b2) - v) else lk) fa fz ho sd hw lo ti L T) := hD
        refine lv_iload hx hb dX1_paintWalls_65 (lv_at hl 1 rfl) ?_
        exact K_iret (wf := (fun (u : (Nat → Int32) × (Nat → Int32) × Int32) => wX1 cI cZ cG h1 a1 hd (nI wk) (nI nw) ll lw lx u.2.2 fa fz ho sd hw lo ti u.1 u.2.1)) (L, T, if ((hw b2) - v) < lk then ((hw b2) - v) else lk) hx hb hr hlocks hP hK hD hS dX1_paintWalls_67 (by rw [← hG, pG_stop ho2 c5]; exact ⟨rfl, rfl⟩)
set_option maxHeartbeats 8000000 in
set_option maxRecDepth 100000 in
/-- passWeek -/
theorem c_X1_passWeek_th (l : Launch) (D : va_G) (cI cZ cG : ClassId) (h1 : Nat) (a1 : Nat → Nat) (sz : Nat) (hd : Int32) (wk : Nat) (nw : Nat) (ll : Int32) (lw : Int32) (lx : Int32) (lk : Int32) (fa : Nat → Int32) (fz : Nat → Int32) (ho : Nat → Int32) (sd : Nat → Int32) (hw : Nat → Int32) (lo : Nat → Int32) (ti : Nat → Int32) (tl : Nat → Int32) (tt : Nat → Int32) (w : Nat) (v0 : Int32) (hwk : wk ≤ 200) (hnw : nw ≤ 24) (hsd : ∀ k, k < nw → ∃ j, j < 4 ∧ sd k = nI j) (hw200 : w < 200) : Met l yX1_passWeek wsX1_passWeek ({ frames := 2, cells := 0, slots := 0, locals := 50 } : Room) (va_Pc [.ref h1, .int (nI w), .int v0, .ref (a1 7), .ref (a1 8)] (PB D (tyL cI cZ cG) (wX1 cI cZ cG h1 a1 hd (nI wk) (nI nw) ll lw lx lk fa fz ho sd hw lo ti tl tt) sz)) (va_Qi (fun (r : Int32) (u : (Nat → Int32) × (Nat → Int32) × Int32) => r = nI (wkQ fz hw nw w v0 tl tt).1 ∧ u = (fF fa sd (wkQ fz hw nw w v0 tl tt).2.1 nw, (wkQ fz hw nw w v0 tl tt).2.2.1, mnO lk (wkQ fz hw nw w v0 tl tt).2.2.2)) (fun u => QB D (tyL cI cZ cG) (va_A (wX1 cI cZ cG h1 a1 hd (nI wk) (nI nw) ll lw lx lk fa fz ho sd hw lo ti tl tt) sz) ((fun (u : (Nat → Int32) × (Nat → Int32) × Int32) => wX1 cI cZ cG h1 a1 hd (nI wk) (nI nw) ll lw lx u.2.2 fa fz ho sd hw lo ti u.1 u.2.1) u)) (va_A (wX1 cI cZ cG h1 a1 hd (nI wk) (nI nw) ll lw lx lk fa fz ho sd hw lo ti tl tt) sz)) 0 0 (va_A (wX1 cI cZ cG h1 a1 hd (nI wk) (nI nw) ll lw lx lk fa fz ho sd hw lo ti tl tt) sz) := by
  refine K_start (cc := cX1_passWeek) (maxL := 8) (ret := some .int) (Qc := fun A => va_Qi (fun (r : Int32) (u : (Nat → Int32) × (Nat → Int32) × Int32) => r = nI (wkQ fz hw nw w v0 tl tt).1 ∧ u = (fF fa sd (wkQ fz hw nw w v0 tl tt).2.1 nw, (wkQ fz hw nw w v0 tl tt).2.2.1, mnO lk (wkQ fz hw nw w v0 tl tt).2.2.2)) (fun u => QB D (tyL cI cZ cG) A ((fun (u : (Nat → Int32) × (Nat → Int32) × Int32) => wX1 cI cZ cG h1 a1 hd (nI wk) (nI nw) ll lw lx u.2.2 fa fz ho sd hw lo ti u.1 u.2.1) u)) A) (by decide) rfl (Nat.le_of_ble_eq_true rfl) ?_
  intro p e s m below meth c ls A hx hb hml hr hts hown hlocks hin hN hP hK hD hA hS hl hsz
  have hl : lv_has ls 8 [(0, .ref h1), (1, .int (nI w)), (2, .int v0), (3, .ref (a1 7)), (4, .ref (a1 8))] := hl
  have fl15 := hts (.fieldLink RX1 15 "ModelTown$Paint" "frosts" "[Z") (by decide +kernel)
  have fl48 := hts (.fieldLink RX1 48 "ModelTown$Paint" "walls" "I") (by decide +kernel)
  have fl11 := hts (.fieldLink RX1 11 "ModelTown$Paint" "fades" "[I") (by decide +kernel)
  have fl26 := hts (.fieldLink RX1 26 "ModelTown$Paint" "sides" "[I") (by decide +kernel)
  refine lv_aload_n hx hb dX1_passWeek_0 rfl (lv_at hl 0 rfl) ?_
  refine va_get (D := D) (ci := 1) (v := .ref (a1 1)) (C := RX1) (T := TX1) (N := 16) hx hb hts inX1_passWeek hown hK hP 0 rfl rfl 1 (by decide) fl15 (fun _ h9 => h9) rfl dX1_passWeek_1 ?_
  refine lv_iload_n hx hb dX1_passWeek_4 rfl (lv_at hl 1 rfl) ?_
  refine K_zald hx hb hK hP 2 1 rfl rfl w (by omega) (Nat.le_of_ble_eq_true rfl) dX1_passWeek_5 ?_
  refine lv_if_eq (tgt := 13) hx hb dX1_passWeek_6 (by decide) (fun c1 => ?_) (fun c1 => ?_)
  · have hQ : wkQ fz hw nw w v0 tl tt = pG hw nw nw v0 tl tt 0 := if_pos c1
    refine lv_aload_n hx hb dX1_passWeek_13 rfl (lv_at hl 0 rfl) ?_
    refine lv_iload_n hx hb dX1_passWeek_14 rfl (lv_at hl 2 rfl) ?_
    refine lv_aload_n hx hb dX1_passWeek_15 rfl (lv_at hl 3 rfl) ?_
    refine lv_aload hx hb dX1_passWeek_16 (lv_at hl 4 rfl) ?_
    refine K_same (va_runV (As := [.int v0, .ref (a1 7), .ref (a1 8)]) (rest := []) ⟨hx, hb, hml, hown, hts⟩ (c_X1_paintWalls_th l D cI cZ cG h1 a1 _ hd wk nw ll lw lx lk fa fz ho sd hw lo ti tl tt v0 hwk hnw) (cwV 3 hts gX1_passWeek_X1_paintWalls rfl rfl rfl (by decide +kernel) ⟨(Nat.le_of_ble_eq_true rfl), (Nat.le_of_ble_eq_true rfl)⟩) ⟨PB_blind, va_recv hK hP (ci := 1) (q0 := 0) rfl rfl, (K_preS hN hK hP hD).2⟩ rfl rfl hl.1 rfl (lv_room (Nat.le_of_ble_eq_true rfl)) dX1_passWeek_18 ⟨Nat.zero_le _, Nat.zero_le _⟩) hD hS hA (fun r2 u H locs hw2 hP hD hS => ?_)
    obtain ⟨L22, T22, k22⟩ := u
    try dsimp only at hw2
    have hr2 := hw2.1
    have hu2 := hw2.2
    have hL22 := (Prod.mk.inj hu2).1
    have hT22 := (Prod.mk.inj (Prod.mk.inj hu2).2).1
    have hk22 := (Prod.mk.inj (Prod.mk.inj hu2).2).2
    have hP : va_P D vwCl (wX1 cI cZ cG h1 a1 hd (nI wk) (nI nw) ll lw lx k22 fa fz ho sd hw lo ti L22 T22) H := hP
    have hD : va_D A (wX1 cI cZ cG h1 a1 hd (nI wk) (nI nw) ll lw lx k22 fa fz ho sd hw lo ti L22 T22) := hD
    refine lv_istore (lv' := [(5, .int r2), (0, .ref h1), (1, .int (nI w)), (2, .int v0), (3, .ref (a1 7)), (4, .ref (a1 8))]) hx hb dX1_passWeek_21 hl (by decide) rfl (fun ls hl => ?_)
    refine lv_iconst (v := 0) hx hb dX1_passWeek_23 (by decide) ?_
    refine lv_istore (lv' := [(6, .int 0), (5, .int r2), (0, .ref h1), (1, .int (nI w)), (2, .int v0), (3, .ref (a1 7)), (4, .ref (a1 8))]) hx hb dX1_passWeek_24 hl (by decide) rfl (fun ls hl => ?_)
    refine loopW2 (fun (k : Nat) (L : Nat → Int32) H locs ls => (k ≤ nw) ∧ (L = fF fa sd L22 k) ∧ va_P D vwCl (wX1 cI cZ cG h1 a1 hd (nI wk) (nI nw) ll lw lx k22 fa fz ho sd hw lo ti L T22) H ∧ va_D A (wX1 cI cZ cG h1 a1 hd (nI wk) (nI nw) ll lw lx k22 fa fz ho sd hw lo ti L T22) ∧ va_S A s.heap H locs ∧ lv_has ls 8 [(6, .int (nI k)), (5, .int r2), (0, .ref h1), (1, .int (nI w)), (2, .int v0), (3, .ref (a1 7)), (4, .ref (a1 8))]) (fun (k : Nat) (L : Nat → Int32) => nw - k) (fun k L H locs ls hI ih26 => ?_) 0 L22 _ _ _ ⟨(by omega), rfl, hP, hD, hS, lv_sub hl [0, 1, 2, 3, 4, 5, 6] rfl⟩
    obtain ⟨hk, hL, hP, hD, hS, hl⟩ := hI
    refine lv_iload hx hb dX1_passWeek_26 (lv_at hl 0 rfl) ?_
    refine lv_aload_n hx hb dX1_passWeek_28 rfl (lv_at hl 2 rfl) ?_
    refine va_get (D := D) (ci := 1) (v := .int (nI nw)) (C := RX1) (T := TX1) (N := 16) hx hb hts inX1_passWeek hown hK hP 0 rfl rfl 9 (by decide) fl48 (fun _ h9 => h9) rfl dX1_passWeek_29 ?_
    refine lv_icmp_ge (tgt := 75) hx hb dX1_passWeek_32 (by decide) (fun c3 => ?_) (fun c3 => ?_)
    · have c3 : nw ≤ k := (nI_leI (a := nw) (b := k) (by omega) (by omega)).mp c3
      have ek : k = nw := by omega
      rw [ek] at hL
      refine lv_iload hx hb dX1_passWeek_75 (lv_at hl 1 rfl) ?_
      exact K_iret (wf := (fun (u : (Nat → Int32) × (Nat → Int32) × Int32) => wX1 cI cZ cG h1 a1 hd (nI wk) (nI nw) ll lw lx u.2.2 fa fz ho sd hw lo ti u.1 u.2.1)) (L, T22, k22) hx hb hr hlocks hP hK hD hS dX1_passWeek_77 (by rw [hQ]; exact ⟨hr2, by rw [hL, hL22, hT22, hk22]⟩)
    · have c3 : ¬ nw ≤ k := fun hq => c3 ((nI_leI (a := nw) (b := k) (by omega) (by omega)).mpr hq)
      obtain ⟨j, hj, hsj⟩ := hsd k (by omega)
      refine lv_aload_n hx hb dX1_passWeek_35 rfl (lv_at hl 5 rfl) ?_
      refine lv_iload hx hb dX1_passWeek_36 (lv_at hl 0 rfl) ?_
      refine K_iald hx hb hK hP 8 0 rfl rfl k (by omega) (Nat.le_of_ble_eq_true rfl) dX1_passWeek_38 ?_
      refine lv_aload_n hx hb dX1_passWeek_39 rfl (lv_at hl 2 rfl) ?_
      refine va_get (D := D) (ci := 1) (v := .ref (a1 0)) (C := RX1) (T := TX1) (N := 16) hx hb hts inX1_passWeek hown hK hP 0 rfl rfl 0 (by decide) fl11 (fun _ h9 => h9) rfl dX1_passWeek_40 ?_
      refine lv_aload_n hx hb dX1_passWeek_43 rfl (lv_at hl 2 rfl) ?_
      refine va_get (D := D) (ci := 1) (v := .ref (a1 3)) (C := RX1) (T := TX1) (N := 16) hx hb hts inX1_passWeek hown hK hP 0 rfl rfl 5 (by decide) fl26 (fun _ h9 => h9) rfl dX1_passWeek_44 ?_
      refine lv_iload hx hb dX1_passWeek_47 (lv_at hl 0 rfl) ?_
      refine K_iald hx hb hK hP 4 0 rfl rfl k (by omega) (Nat.le_of_ble_eq_true rfl) dX1_passWeek_49 ?_
      refine lv_topi (fun z4 ez4 => ?_)
      obtain rfl : z4 = nI j := ez4.trans hsj
      refine K_iald hx hb hK hP 1 0 rfl rfl j (by omega) (Nat.le_of_ble_eq_true rfl) dX1_passWeek_50 ?_
      refine lv_isub hx hb dX1_passWeek_51 ?_
      refine lv_istore (lv' := [(7, .int ((L k) - (fa j))), (6, .int (nI k)), (5, .int r2), (0, .ref h1), (1, .int (nI w)), (2, .int v0), (3, .ref (a1 7)), (4, .ref (a1 8))]) hx hb dX1_passWeek_52 hl (by decide) rfl (fun ls hl => ?_)
      refine lv_aload_n hx hb dX1_passWeek_54 rfl (lv_at hl 6 rfl) ?_
      refine lv_iload hx hb dX1_passWeek_55 (lv_at hl 1 rfl) ?_
      refine lv_iload hx hb dX1_passWeek_57 (lv_at hl 0 rfl) ?_
      refine lv_if_le (tgt := 67) hx hb dX1_passWeek_59 (by decide) (fun c5 => ?_) (fun c5 => ?_)
      · refine lv_iconst (v := 0) hx hb dX1_passWeek_67 (by decide) ?_
        refine K_iast hx hb hK hP hD hS 8 0 rfl rfl k (by omega) (Nat.le_of_ble_eq_true rfl) dX1_passWeek_68 (fun H locs hP hD hS => ?_)
        have hP : va_P D vwCl (wX1 cI cZ cG h1 a1 hd (nI wk) (nI nw) ll lw lx k22 fa fz ho sd hw lo ti (upd L k 0) T22) H := hP
        have hD : va_D A (wX1 cI cZ cG h1 a1 hd (nI wk) (nI nw) ll lw lx k22 fa fz ho sd hw lo ti (upd L k 0) T22) := hD
        refine lv_iinc (v := nI (k + 1)) (lv' := [(6, .int (nI (k + 1))), (7, .int ((L k) - (fa j))), (5, .int r2), (0, .ref h1), (1, .int (nI w)), (2, .int v0), (3, .ref (a1 7)), (4, .ref (a1 8))]) hx hb dX1_passWeek_69 hl (k := 1) rfl (inc1 _) (by decide) rfl (fun ls hl => ?_)
        refine lv_goto (tgt := 26) hx hb dX1_passWeek_72 (by decide) ?_
        exact ih26 (k + 1) (upd L k 0) _ _ _ ⟨(by omega), (by rw [fF, ← hL, hsj, nI_clamp (by omega), fdv, if_pos c5]), hP, hD, hS, lv_sub hl [0, 2, 3, 4, 5, 6, 7] rfl⟩ (by omega)
      · refine lv_iload hx hb dX1_passWeek_62 (lv_at hl 0 rfl) ?_
        refine lv_goto (tgt := 68) hx hb dX1_passWeek_64 (by decide) ?_
        refine K_iast hx hb hK hP hD hS 8 0 rfl rfl k (by omega) (Nat.le_of_ble_eq_true rfl) dX1_passWeek_68 (fun H locs hP hD hS => ?_)
        have hP : va_P D vwCl (wX1 cI cZ cG h1 a1 hd (nI wk) (nI nw) ll lw lx k22 fa fz ho sd hw lo ti (upd L k ((L k) - (fa j))) T22) H := hP
        have hD : va_D A (wX1 cI cZ cG h1 a1 hd (nI wk) (nI nw) ll lw lx k22 fa fz ho sd hw lo ti (upd L k ((L k) - (fa j))) T22) := hD
        refine lv_iinc (v := nI (k + 1)) (lv' := [(6, .int (nI (k + 1))), (7, .int ((L k) - (fa j))), (5, .int r2), (0, .ref h1), (1, .int (nI w)), (2, .int v0), (3, .ref (a1 7)), (4, .ref (a1 8))]) hx hb dX1_passWeek_69 hl (k := 1) rfl (inc1 _) (by decide) rfl (fun ls hl => ?_)
        refine lv_goto (tgt := 26) hx hb dX1_passWeek_72 (by decide) ?_
        exact ih26 (k + 1) (upd L k ((L k) - (fa j))) _ _ _ ⟨(by omega), (by rw [fF, ← hL, hsj, nI_clamp (by omega), fdv, if_neg c5]), hP, hD, hS, lv_sub hl [0, 2, 3, 4, 5, 6, 7] rfl⟩ (by omega)
  · have hQ : wkQ fz hw nw w v0 tl tt = (0, tl, tt, none) := if_neg c1
    refine lv_iconst (v := 0) hx hb dX1_passWeek_9 (by decide) ?_
    refine lv_goto (tgt := 21) hx hb dX1_passWeek_10 (by decide) ?_
    refine lv_istore (lv' := [(5, .int 0), (0, .ref h1), (1, .int (nI w)), (2, .int v0), (3, .ref (a1 7)), (4, .ref (a1 8))]) hx hb dX1_passWeek_21 hl (by decide) rfl (fun ls hl => ?_)
    refine lv_iconst (v := 0) hx hb dX1_passWeek_23 (by decide) ?_
    refine lv_istore (lv' := [(6, .int 0), (5, .int 0), (0, .ref h1), (1, .int (nI w)), (2, .int v0), (3, .ref (a1 7)), (4, .ref (a1 8))]) hx hb dX1_passWeek_24 hl (by decide) rfl (fun ls hl => ?_)
    refine loopW2 (fun (k : Nat) (L : Nat → Int32) H locs ls => (k ≤ nw) ∧ (L = fF fa sd tl k) ∧ va_P D vwCl (wX1 cI cZ cG h1 a1 hd (nI wk) (nI nw) ll lw lx lk fa fz ho sd hw lo ti L tt) H ∧ va_D A (wX1 cI cZ cG h1 a1 hd (nI wk) (nI nw) ll lw lx lk fa fz ho sd hw lo ti L tt) ∧ va_S A s.heap H locs ∧ lv_has ls 8 [(6, .int (nI k)), (5, .int 0), (0, .ref h1), (1, .int (nI w)), (2, .int v0), (3, .ref (a1 7)), (4, .ref (a1 8))]) (fun (k : Nat) (L : Nat → Int32) => nw - k) (fun k L H locs ls hI ih26 => ?_) 0 tl _ _ _ ⟨(by omega), rfl, hP, hD, hS, lv_sub hl [0, 1, 2, 3, 4, 5, 6] rfl⟩
    obtain ⟨hk, hL, hP, hD, hS, hl⟩ := hI
    refine lv_iload hx hb dX1_passWeek_26 (lv_at hl 0 rfl) ?_
    refine lv_aload_n hx hb dX1_passWeek_28 rfl (lv_at hl 2 rfl) ?_
    refine va_get (D := D) (ci := 1) (v := .int (nI nw)) (C := RX1) (T := TX1) (N := 16) hx hb hts inX1_passWeek hown hK hP 0 rfl rfl 9 (by decide) fl48 (fun _ h9 => h9) rfl dX1_passWeek_29 ?_
    refine lv_icmp_ge (tgt := 75) hx hb dX1_passWeek_32 (by decide) (fun c6 => ?_) (fun c6 => ?_)
    · have c6 : nw ≤ k := (nI_leI (a := nw) (b := k) (by omega) (by omega)).mp c6
      have ek : k = nw := by omega
      rw [ek] at hL
      refine lv_iload hx hb dX1_passWeek_75 (lv_at hl 1 rfl) ?_
      exact K_iret (wf := (fun (u : (Nat → Int32) × (Nat → Int32) × Int32) => wX1 cI cZ cG h1 a1 hd (nI wk) (nI nw) ll lw lx u.2.2 fa fz ho sd hw lo ti u.1 u.2.1)) (L, tt, lk) hx hb hr hlocks hP hK hD hS dX1_passWeek_77 (by rw [hQ]; exact ⟨rfl, by rw [hL]; rfl⟩)
    · have c6 : ¬ nw ≤ k := fun hq => c6 ((nI_leI (a := nw) (b := k) (by omega) (by omega)).mpr hq)
      obtain ⟨j, hj, hsj⟩ := hsd k (by omega)
      refine lv_aload_n hx hb dX1_passWeek_35 rfl (lv_at hl 5 rfl) ?_
      refine lv_iload hx hb dX1_passWeek_36 (lv_at hl 0 rfl) ?_
      refine K_iald hx hb hK hP 8 0 rfl rfl k (by omega) (Nat.le_of_ble_eq_true rfl) dX1_passWeek_38 ?_
      refine lv_aload_n hx hb dX1_passWeek_39 rfl (lv_at hl 2 rfl) ?_
      refine va_get (D := D) (ci := 1) (v := .ref (a1 0)) (C := RX1) (T := TX1) (N := 16) hx hb hts inX1_passWeek hown hK hP 0 rfl rfl 0 (by decide) fl11 (fun _ h9 => h9) rfl dX1_passWeek_40 ?_
      refine lv_aload_n hx hb dX1_passWeek_43 rfl (lv_at hl 2 rfl) ?_
      refine va_get (D := D) (ci := 1) (v := .ref (a1 3)) (C := RX1) (T := TX1) (N := 16) hx hb hts inX1_passWeek hown hK hP 0 rfl rfl 5 (by decide) fl26 (fun _ h9 => h9) rfl dX1_passWeek_44 ?_
      refine lv_iload hx hb dX1_passWeek_47 (lv_at hl 0 rfl) ?_
      refine K_iald hx hb hK hP 4 0 rfl rfl k (by omega) (Nat.le_of_ble_eq_true rfl) dX1_passWeek_49 ?_
      refine lv_topi (fun z7 ez7 => ?_)
      obtain rfl : z7 = nI j := ez7.trans hsj
      refine K_iald hx hb hK hP 1 0 rfl rfl j (by omega) (Nat.le_of_ble_eq_true rfl) dX1_passWeek_50 ?_
      refine lv_isub hx hb dX1_passWeek_51 ?_
      refine lv_istore (lv' := [(7, .int ((L k) - (fa j))), (6, .int (nI k)), (5, .int 0), (0, .ref h1), (1, .int (nI w)), (2, .int v0), (3, .ref (a1 7)), (4, .ref (a1 8))]) hx hb dX1_passWeek_52 hl (by decide) rfl (fun ls hl => ?_)
      refine lv_aload_n hx hb dX1_passWeek_54 rfl (lv_at hl 6 rfl) ?_
      refine lv_iload hx hb dX1_passWeek_55 (lv_at hl 1 rfl) ?_
      refine lv_iload hx hb dX1_passWeek_57 (lv_at hl 0 rfl) ?_
      refine lv_if_le (tgt := 67) hx hb dX1_passWeek_59 (by decide) (fun c8 => ?_) (fun c8 => ?_)
      · refine lv_iconst (v := 0) hx hb dX1_passWeek_67 (by decide) ?_
        refine K_iast hx hb hK hP hD hS 8 0 rfl rfl k (by omega) (Nat.le_of_ble_eq_true rfl) dX1_passWeek_68 (fun H locs hP hD hS => ?_)
        have hP : va_P D vwCl (wX1 cI cZ cG h1 a1 hd (nI wk) (nI nw) ll lw lx lk fa fz ho sd hw lo ti (upd L k 0) tt) H := hP
        have hD : va_D A (wX1 cI cZ cG h1 a1 hd (nI wk) (nI nw) ll lw lx lk fa fz ho sd hw lo ti (upd L k 0) tt) := hD
        refine lv_iinc (v := nI (k + 1)) (lv' := [(6, .int (nI (k + 1))), (7, .int ((L k) - (fa j))), (5, .int 0), (0, .ref h1), (1, .int (nI w)), (2, .int v0), (3, .ref (a1 7)), (4, .ref (a1 8))]) hx hb dX1_passWeek_69 hl (k := 1) rfl (inc1 _) (by decide) rfl (fun ls hl => ?_)
        refine lv_goto (tgt := 26) hx hb dX1_passWeek_72 (by decide) ?_
        exact ih26 (k + 1) (upd L k 0) _ _ _ ⟨(by omega), (by rw [fF, ← hL, hsj, nI_clamp (by omega), fdv, if_pos c8]), hP, hD, hS, lv_sub hl [0, 2, 3, 4, 5, 6, 7] rfl⟩ (by omega)
      · refine lv_iload hx hb dX1_passWeek_62 (lv_at hl 0 rfl) ?_
        refine lv_goto (tgt := 68) hx hb dX1_passWeek_64 (by decide) ?_
        refine K_iast hx hb hK hP hD hS 8 0 rfl rfl k (by omega) (Nat.le_of_ble_eq_true rfl) dX1_passWeek_68 (fun H locs hP hD hS => ?_)
        have hP : va_P D vwCl (wX1 cI cZ cG h1 a1 hd (nI wk) (nI nw) ll lw lx lk fa fz ho sd hw lo ti (upd L k ((L k) - (fa j))) tt) H := hP
        have hD : va_D A (wX1 cI cZ cG h1 a1 hd (nI wk) (nI nw) ll lw lx lk fa fz ho sd hw lo ti (upd L k ((L k) - (fa j))) tt) := hD
        refine lv_iinc (v := nI (k + 1)) (lv' := [(6, .int (nI (k + 1))), (7, .int ((L k) - (fa j))), (5, .int 0), (0, .ref h1), (1, .int (nI w)), (2, .int v0), (3, .ref (a1 7)), (4, .ref (a1 8))]) hx hb dX1_passWeek_69 hl (k := 1) rfl (inc1 _) (by decide) rfl (fun ls hl => ?_)
        refine lv_goto (tgt := 26) hx hb dX1_passWeek_72 (by decide) ?_
        exact ih26 (k + 1) (upd L k ((L k) - (fa j))) _ _ _ ⟨(by omega), (by rw [fF, ← hL, hsj, nI_clamp (by omega), fdv, if_neg c8]), hP, hD, hS, lv_sub hl [0, 2, 3, 4, 5, 6, 7] rfl⟩ (by omega)
theorem inX1_keepLeast : ∀ w ∈ wsX10, w ∈ wsX1_keepLeast := by decide +kernel
set_option maxHeartbeats 8000000 in
set_option maxRecDepth 100000 in
/-- keepLeast -/
theorem c_X1_keepLeast (l : Launch) (D : va_G) (cI cZ cG : ClassId) (h1 : Nat) (a1 : Nat → Nat) (sz : Nat) (hd : Int32) (wk : Nat) (nw : Nat) (ll : Int32) (lw : Int32) (lx : Int32) (lk : Int32) (fa : Nat → Int32) (fz : Nat → Int32) (ho : Nat → Int32) (sd : Nat → Int32) (hw : Nat → Int32) (lo : Nat → Int32) (ti : Nat → Int32) (tl : Nat → Int32) (tt : Nat → Int32) (w0 : Int32) (hwk : wk ≤ 200) (hnw : nw ≤ 24) : Met l yX1_keepLeast wsX1_keepLeast ({ frames := 0, cells := 0, slots := 0, locals := 0 } : Room) (va_Pc [.ref h1, .int w0] (PB D (tyL cI cZ cG) (wX1 cI cZ cG h1 a1 hd (nI wk) (nI nw) ll lw lx lk fa fz ho sd hw lo ti tl tt) sz)) (va_Qv (fun (u : Int32 × Int32 × Int32) => u = kL tl w0 (ll, lw, lx) nw) (fun u => QB D (tyL cI cZ cG) (va_A (wX1 cI cZ cG h1 a1 hd (nI wk) (nI nw) ll lw lx lk fa fz ho sd hw lo ti tl tt) sz) ((fun (u : Int32 × Int32 × Int32) => wX1 cI cZ cG h1 a1 hd (nI wk) (nI nw) u.1 u.2.1 u.2.2 lk fa fz ho sd hw lo ti tl tt) u)) (va_A (wX1 cI cZ cG h1 a1 hd (nI wk) (nI nw) ll lw lx lk fa fz ho sd hw lo ti tl tt) sz)) 0 0 (va_A (wX1 cI cZ cG h1 a1 hd (nI wk) (nI nw) ll lw lx lk fa fz ho sd hw lo ti tl tt) sz) := by
  refine K_start (cc := cX1_keepLeast) (maxL := 3) (ret := none) (Qc := fun A => va_Qv (fun (u : Int32 × Int32 × Int32) => u = kL tl w0 (ll, lw, lx) nw) (fun u => QB D (tyL cI cZ cG) A ((fun (u : Int32 × Int32 × Int32) => wX1 cI cZ cG h1 a1 hd (nI wk) (nI nw) u.1 u.2.1 u.2.2 lk fa fz ho sd hw lo ti tl tt) u)) A) (by decide) rfl (Nat.le_of_ble_eq_true rfl) ?_
  intro p e s m below meth c ls A hx hb hml hr hts hown hlocks hin hN hP hK hD hA hS hl hsz
  have hl : lv_has ls 3 [(0, .ref h1), (1, .int w0)] := hl
  have fl48 := hts (.fieldLink RX1 48 "ModelTown$Paint" "walls" "I") (by decide +kernel)
  have fl38 := hts (.fieldLink RX1 38 "ModelTown$Paint" "thoughtLooks" "[I") (by decide +kernel)
  have fl66 := hts (.fieldLink RX1 66 "ModelTown$Paint" "leastLook" "I") (by decide +kernel)
  have fl69 := hts (.fieldLink RX1 69 "ModelTown$Paint" "leastWeek" "I") (by decide +kernel)
  have fl72 := hts (.fieldLink RX1 72 "ModelTown$Paint" "leastWall" "I") (by decide +kernel)
  refine lv_iconst (v := 0) hx hb dX1_keepLeast_0 (by decide) ?_
  refine lv_istore_n (lv' := [(2, .int 0), (0, .ref h1), (1, .int w0)]) hx hb dX1_keepLeast_1 rfl hl (by decide) rfl (fun ls hl => ?_)
  refine loopW4 (fun (k : Nat) (y1 : Int32) (y2 : Int32) (y3 : Int32) H locs ls => (k ≤ nw) ∧ ((y1, y2, y3) = kL tl w0 (ll, lw, lx) k) ∧ va_P D vwCl (wX1 cI cZ cG h1 a1 hd (nI wk) (nI nw) y1 y2 y3 lk fa fz ho sd hw lo ti tl tt) H ∧ va_D A (wX1 cI cZ cG h1 a1 hd (nI wk) (nI nw) y1 y2 y3 lk fa fz ho sd hw lo ti tl tt) ∧ va_S A s.heap H locs ∧ lv_has ls 3 [(2, .int (nI k)), (0, .ref h1), (1, .int w0)]) (fun (k : Nat) (y1 : Int32) (y2 : Int32) (y3 : Int32) => nw - k) (fun k y1 y2 y3 H locs ls hI ih2 => ?_) 0 ll lw lx _ _ _ ⟨(by omega), rfl, hP, hD, hS, lv_sub hl [0, 1, 2] rfl⟩
  obtain ⟨hk, hq, hP, hD, hS, hl⟩ := hI
  refine lv_iload_n hx hb dX1_keepLeast_2 rfl (lv_at hl 0 rfl) ?_
  refine lv_aload_n hx hb dX1_keepLeast_3 rfl (lv_at hl 1 rfl) ?_
  refine va_get (D := D) (ci := 1) (v := .int (nI nw)) (C := RX1) (T := TX1) (N := 16) hx hb hts inX1_keepLeast hown hK hP 0 rfl rfl 9 (by decide) fl48 (fun _ h9 => h9) rfl dX1_keepLeast_4 ?_
  refine lv_icmp_ge (tgt := 49) hx hb dX1_keepLeast_7 (by decide) (fun c1 => ?_) (fun c1 => ?_)
  · have c1 : nw ≤ k := (nI_leI (a := nw) (b := k) (by omega) (by omega)).mp c1
    have ek : k = nw := by omega
    rw [ek] at hq
    exact K_vret (wf := (fun (u : Int32 × Int32 × Int32) => wX1 cI cZ cG h1 a1 hd (nI wk) (nI nw) u.1 u.2.1 u.2.2 lk fa fz ho sd hw lo ti tl tt)) (y1, y2, y3) hx hb hr hlocks hP hK hD hS dX1_keepLeast_49 hq
  · have c1 : ¬ nw ≤ k := fun hq => c1 ((nI_leI (a := nw) (b := k) (by omega) (by omega)).mpr hq)
    refine lv_aload_n hx hb dX1_keepLeast_10 rfl (lv_at hl 1 rfl) ?_
    refine va_get (D := D) (ci := 1) (v := .ref (a1 7)) (C := RX1) (T := TX1) (N := 16) hx hb hts inX1_keepLeast hown hK hP 0 rfl rfl 10 (by decide) fl38 (fun _ h9 => h9) rfl dX1_keepLeast_11 ?_
    refine lv_iload_n hx hb dX1_keepLeast_14 rfl (lv_at hl 0 rfl) ?_
    refine K_iald hx hb hK hP 8 0 rfl rfl k (by omega) (Nat.le_of_ble_eq_true rfl) dX1_keepLeast_15 ?_
    refine lv_aload_n hx hb dX1_keepLeast_16 rfl (lv_at hl 1 rfl) ?_
    refine va_get (D := D) (ci := 1) (v := .int y1) (C := RX1) (T := TX1) (N := 16) hx hb hts inX1_keepLeast hown hK hP 0 rfl rfl 12 (by decide) fl66 (fun _ h9 => h9) rfl dX1_keepLeast_17 ?_
    refine lv_icmp_ge (tgt := 43) hx hb dX1_keepLeast_20 (by decide) (fun c2 => ?_) (fun c2 => ?_)
    · refine lv_iinc (v := nI (k + 1)) (lv' := [(2, .int (nI (k + 1))), (0, .ref h1), (1, .int w0)]) hx hb dX1_keepLeast_43 hl (k := 0) rfl (inc1 _) (by decide) rfl (fun ls hl => ?_)
      refine lv_goto (tgt := 2) hx hb dX1_keepLeast_46 (by decide) ?_
      exact ih2 (k + 1) y1 y2 y3 _ _ _ ⟨(by omega), (by rw [kL, ← hq]; exact (if_pos c2).symm), hP, hD, hS, lv_sub hl [0, 1, 2] rfl⟩ (by omega)
    · refine lv_aload_n hx hb dX1_keepLeast_23 rfl (lv_at hl 1 rfl) ?_
      refine lv_aload_n hx hb dX1_keepLeast_24 rfl (lv_at hl 1 rfl) ?_
      refine va_get (D := D) (ci := 1) (v := .ref (a1 7)) (C := RX1) (T := TX1) (N := 16) hx hb hts inX1_keepLeast hown hK hP 0 rfl rfl 10 (by decide) fl38 (fun _ h9 => h9) rfl dX1_keepLeast_25 ?_
      refine lv_iload_n hx hb dX1_keepLeast_28 rfl (lv_at hl 0 rfl) ?_
      refine K_iald hx hb hK hP 8 0 rfl rfl k (by omega) (Nat.le_of_ble_eq_true rfl) dX1_keepLeast_29 ?_
      refine va_put (D := D) (ci := 1) (v := .int (tl k)) (ty := .int) (C := RX1) (T := TX1) (N := 16) hx hb hts inX1_keepLeast tyX1 tyX1_ok nmX1 hown hK hP hD hS 0 rfl rfl 12 (by decide) fl66 (fun _ h9 => h9) rfl (by decide +kernel) rfl rfl (Nat.le_of_ble_eq_true rfl) dX1_keepLeast_30 (fun H locs hP hD hS => ?_)
      have hP : va_P D vwCl (wX1 cI cZ cG h1 a1 hd (nI wk) (nI nw) (tl k) y2 y3 lk fa fz ho sd hw lo ti tl tt) H := hP
      have hD : va_D A (wX1 cI cZ cG h1 a1 hd (nI wk) (nI nw) (tl k) y2 y3 lk fa fz ho sd hw lo ti tl tt) := hD
      refine lv_aload_n hx hb dX1_keepLeast_33 rfl (lv_at hl 1 rfl) ?_
      refine lv_iload_n hx hb dX1_keepLeast_34 rfl (lv_at hl 2 rfl) ?_
      refine va_put (D := D) (ci := 1) (v := .int w0) (ty := .int) (C := RX1) (T := TX1) (N := 16) hx hb hts inX1_keepLeast tyX1 tyX1_ok nmX1 hown hK hP hD hS 0 rfl rfl 13 (by decide) fl69 (fun _ h9 => h9) rfl (by decide +kernel) rfl rfl (Nat.le_of_ble_eq_true rfl) dX1_keepLeast_35 (fun H locs hP hD hS => ?_)
      have hP : va_P D vwCl (wX1 cI cZ cG h1 a1 hd (nI wk) (nI nw) (tl k) w0 y3 lk fa fz ho sd hw lo ti tl tt) H := hP
      have hD : va_D A (wX1 cI cZ cG h1 a1 hd (nI wk) (nI nw) (tl k) w0 y3 lk fa fz ho sd hw lo ti tl tt) := hD
      refine lv_aload_n hx hb dX1_keepLeast_38 rfl (lv_at hl 1 rfl) ?_
      refine lv_iload_n hx hb dX1_keepLeast_39 rfl (lv_at hl 0 rfl) ?_
      refine va_put (D := D) (ci := 1) (v := .int (nI k)) (ty := .int) (C := RX1) (T := TX1) (N := 16) hx hb hts inX1_keepLeast tyX1 tyX1_ok nmX1 hown hK hP hD hS 0 rfl rfl 14 (by decide) fl72 (fun _ h9 => h9) rfl (by decide +kernel) rfl rfl (Nat.le_of_ble_eq_true rfl) dX1_keepLeast_40 (fun H locs hP hD hS => ?_)
      have hP : va_P D vwCl (wX1 cI cZ cG h1 a1 hd (nI wk) (nI nw) (tl k) w0 (nI k) lk fa fz ho sd hw lo ti tl tt) H := hP
      have hD : va_D A (wX1 cI cZ cG h1 a1 hd (nI wk) (nI nw) (tl k) w0 (nI k) lk fa fz ho sd hw lo ti tl tt) := hD
      refine lv_iinc (v := nI (k + 1)) (lv' := [(2, .int (nI (k + 1))), (0, .ref h1), (1, .int w0)]) hx hb dX1_keepLeast_43 hl (k := 0) rfl (inc1 _) (by decide) rfl (fun ls hl => ?_)
      refine lv_goto (tgt := 2) hx hb dX1_keepLeast_46 (by decide) ?_
      exact ih2 (k + 1) (tl k) w0 (nI k) _ _ _ ⟨(by omega), (by rw [kL, ← hq]; exact (if_neg c2).symm), hP, hD, hS, lv_sub hl [0, 1, 2] rfl⟩ (by omega)
theorem inX1_foresee : ∀ w ∈ wsX10, w ∈ wsX1_foresee := by decide +kernel
set_option maxHeartbeats 8000000 in
set_option maxRecDepth 100000 in
/-- foresee -/
theorem c_X1_foresee (l : Launch) (D : va_G) (cI cZ cG : ClassId) (h1 : Nat) (a1 : Nat → Nat) (sz : Nat) (hd : Int32) (wk : Nat) (nw : Nat) (ll : Int32) (lw : Int32) (lx : Int32) (lk : Int32) (fa : Nat → Int32) (fz : Nat → Int32) (ho : Nat → Int32) (sd : Nat → Int32) (hw : Nat → Int32) (lo : Nat → Int32) (ti : Nat → Int32) (tl : Nat → Int32) (tt : Nat → Int32) (n : Nat) (h : Int32) (look : Int32) (hwk : wk ≤ 200) (hnw : nw ≤ 24) (hsd : ∀ k, k < nw → ∃ j, j < 4 ∧ sd k = nI j) (hn200 : wk + n ≤ 200) : Met l yX1_foresee wsX1_foresee ({ frames := 3, cells := 0, slots := 0, locals := 77 } : Room) (va_Pc [.ref h1, .int (nI n), .int h, .int look] (PB D (tyL cI cZ cG) (wX1 cI cZ cG h1 a1 hd (nI wk) (nI nw) ll lw lx lk fa fz ho sd hw lo ti tl tt) sz)) (va_Qv (fun (u : (Nat → Int32) × (Nat → Int32) × Int32 × Int32 × Int32 × Int32) => (u.1, u.2.1, (u.2.2.1, u.2.2.2.1, u.2.2.2.2.1), u.2.2.2.2.2) = fS fa fz sd hw nw wk h look (f0 nw lo tl tt lw lx) n) (fun u => QB D (tyL cI cZ cG) (va_A (wX1 cI cZ cG h1 a1 hd (nI wk) (nI nw) ll lw lx lk fa fz ho sd hw lo ti tl tt) sz) ((fun (u : (Nat → Int32) × (Nat → Int32) × Int32 × Int32 × Int32 × Int32) => wX1 cI cZ cG h1 a1 hd (nI wk) (nI nw) u.2.2.1 u.2.2.2.1 u.2.2.2.2.1 u.2.2.2.2.2 fa fz ho sd hw lo ti u.1 u.2.1) u)) (va_A (wX1 cI cZ cG h1 a1 hd (nI wk) (nI nw) ll lw lx lk fa fz ho sd hw lo ti tl tt) sz)) 0 0 (va_A (wX1 cI cZ cG h1 a1 hd (nI wk) (nI nw) ll lw lx lk fa fz ho sd hw lo ti tl tt) sz) := by
  refine K_start (cc := cX1_foresee) (maxL := 5) (ret := none) (Qc := fun A => va_Qv (fun (u : (Nat → Int32) × (Nat → Int32) × Int32 × Int32 × Int32 × Int32) => (u.1, u.2.1, (u.2.2.1, u.2.2.2.1, u.2.2.2.2.1), u.2.2.2.2.2) = fS fa fz sd hw nw wk h look (f0 nw lo tl tt lw lx) n) (fun u => QB D (tyL cI cZ cG) A ((fun (u : (Nat → Int32) × (Nat → Int32) × Int32 × Int32 × Int32 × Int32) => wX1 cI cZ cG h1 a1 hd (nI wk) (nI nw) u.2.2.1 u.2.2.2.1 u.2.2.2.2.1 u.2.2.2.2.2 fa fz ho sd hw lo ti u.1 u.2.1) u)) A) (by decide) rfl (Nat.le_of_ble_eq_true rfl) ?_
  intro p e s m below meth c ls A hx hb hml hr hts hown hlocks hin hN hP hK hD hA hS hl hsz
  have hl : lv_has ls 5 [(0, .ref h1), (1, .int (nI n)), (2, .int h), (3, .int look)] := hl
  have fl32 := hts (.fieldLink RX1 32 "ModelTown$Paint" "looks" "[I") (by decide +kernel)
  have fl38 := hts (.fieldLink RX1 38 "ModelTown$Paint" "thoughtLooks" "[I") (by decide +kernel)
  have fl48 := hts (.fieldLink RX1 48 "ModelTown$Paint" "walls" "I") (by decide +kernel)
  have fl66 := hts (.fieldLink RX1 66 "ModelTown$Paint" "leastLook" "I") (by decide +kernel)
  have fl75 := hts (.fieldLink RX1 75 "ModelTown$Paint" "hoursLacking" "I") (by decide +kernel)
  have fl51 := hts (.fieldLink RX1 51 "ModelTown$Paint" "week" "I") (by decide +kernel)
  have fl41 := hts (.fieldLink RX1 41 "ModelTown$Paint" "thoughtTimes" "[I") (by decide +kernel)
  refine lv_aload_n hx hb dX1_foresee_0 rfl (lv_at hl 0 rfl) ?_
  refine va_get (D := D) (ci := 1) (v := .ref (a1 5)) (C := RX1) (T := TX1) (N := 16) hx hb hts inX1_foresee hown hK hP 0 rfl rfl 7 (by decide) fl32 (fun _ h9 => h9) rfl dX1_foresee_1 ?_
  refine lv_iconst (v := 0) hx hb dX1_foresee_4 (by decide) ?_
  refine lv_aload_n hx hb dX1_foresee_5 rfl (lv_at hl 0 rfl) ?_
  refine va_get (D := D) (ci := 1) (v := .ref (a1 7)) (C := RX1) (T := TX1) (N := 16) hx hb hts inX1_foresee hown hK hP 0 rfl rfl 10 (by decide) fl38 (fun _ h9 => h9) rfl dX1_foresee_6 ?_
  refine lv_iconst (v := 0) hx hb dX1_foresee_9 (by decide) ?_
  refine lv_aload_n hx hb dX1_foresee_10 rfl (lv_at hl 0 rfl) ?_
  refine va_get (D := D) (ci := 1) (v := .int (nI nw)) (C := RX1) (T := TX1) (N := 16) hx hb hts inX1_foresee hown hK hP 0 rfl rfl 9 (by decide) fl48 (fun _ h9 => h9) rfl dX1_foresee_11 ?_
  refine va_copyi hx hb (hml.trans hl.1.symm) hown (hts (.methodLink RX1 78 arraycopyName) (by decide +kernel)) (hts (.native arraycopyName) (by decide +kernel)) (hts (.static arraycopyName) (by decide +kernel)) (hts (.initialized "java/lang/System") (by decide +kernel)) hK hP hD hS 6 8 0 0 (ty := .int) rfl rfl rfl rfl rfl (by decide) (by decide) (nI_pos (by omega)) (by rw [sb_cl0, nI_clamp (by omega)]; omega) (by rw [sb_cl0, nI_clamp (by omega)]; omega) (fun _ _ => rfl) (Nat.le_of_ble_eq_true rfl) (Nat.le_of_ble_eq_true rfl) dX1_foresee_14 (fun H locs hP hD hS => ?_)
  rw [sb_cl0, nI_clamp (show nw < 2 ^ 31 by omega)] at hP hD
  have hP : va_P D vwCl (wX1 cI cZ cG h1 a1 hd (nI wk) (nI nw) ll lw lx lk fa fz ho sd hw lo ti (va_cpy lo tl 0 0 nw) tt) H := hP
  have hD : va_D A (wX1 cI cZ cG h1 a1 hd (nI wk) (nI nw) ll lw lx lk fa fz ho sd hw lo ti (va_cpy lo tl 0 0 nw) tt) := hD
  refine lv_aload_n hx hb dX1_foresee_17 rfl (lv_at hl 0 rfl) ?_
  refine lv_bipush (v := 101) hx hb dX1_foresee_18 (by decide) ?_
  refine va_put (D := D) (ci := 1) (v := .int 101) (ty := .int) (C := RX1) (T := TX1) (N := 16) hx hb hts inX1_foresee tyX1 tyX1_ok nmX1 hown hK hP hD hS 0 rfl rfl 12 (by decide) fl66 (fun _ h9 => h9) rfl (by decide +kernel) rfl rfl (Nat.le_of_ble_eq_true rfl) dX1_foresee_20 (fun H locs hP hD hS => ?_)
  have hP : va_P D vwCl (wX1 cI cZ cG h1 a1 hd (nI wk) (nI nw) 101 lw lx lk fa fz ho sd hw lo ti (va_cpy lo tl 0 0 nw) tt) H := hP
  have hD : va_D A (wX1 cI cZ cG h1 a1 hd (nI wk) (nI nw) 101 lw lx lk fa fz ho sd hw lo ti (va_cpy lo tl 0 0 nw) tt) := hD
  refine lv_aload_n hx hb dX1_foresee_23 rfl (lv_at hl 0 rfl) ?_
  refine lv_sipush (v := 501) hx hb dX1_foresee_24 (by decide) ?_
  refine va_put (D := D) (ci := 1) (v := .int 501) (ty := .int) (C := RX1) (T := TX1) (N := 16) hx hb hts inX1_foresee tyX1 tyX1_ok nmX1 hown hK hP hD hS 0 rfl rfl 15 (by decide) fl75 (fun _ h9 => h9) rfl (by decide +kernel) rfl rfl (Nat.le_of_ble_eq_true rfl) dX1_foresee_27 (fun H locs hP hD hS => ?_)
  have hP : va_P D vwCl (wX1 cI cZ cG h1 a1 hd (nI wk) (nI nw) 101 lw lx 501 fa fz ho sd hw lo ti (va_cpy lo tl 0 0 nw) tt) H := hP
  have hD : va_D A (wX1 cI cZ cG h1 a1 hd (nI wk) (nI nw) 101 lw lx 501 fa fz ho sd hw lo ti (va_cpy lo tl 0 0 nw) tt) := hD
  refine lv_aload_n hx hb dX1_foresee_30 rfl (lv_at hl 0 rfl) ?_
  refine va_get (D := D) (ci := 1) (v := .int (nI wk)) (C := RX1) (T := TX1) (N := 16) hx hb hts inX1_foresee hown hK hP 0 rfl rfl 3 (by decide) fl51 (fun _ h9 => h9) rfl dX1_foresee_31 ?_
  refine lv_istore (lv' := [(4, .int (nI wk)), (0, .ref h1), (1, .int (nI n)), (2, .int h), (3, .int look)]) hx hb dX1_foresee_34 hl (by decide) rfl (fun ls hl => ?_)
  refine loopW7 (fun (i : Nat) (L : Nat → Int32) (T : Nat → Int32) (y1 : Int32) (y2 : Int32) (y3 : Int32) (z0 : Int32) H locs ls => (i ≤ n) ∧ ((L, T, (y1, y2, y3), z0) = fS fa fz sd hw nw wk h look (f0 nw lo tl tt lw lx) i) ∧ va_P D vwCl (wX1 cI cZ cG h1 a1 hd (nI wk) (nI nw) y1 y2 y3 z0 fa fz ho sd hw lo ti L T) H ∧ va_D A (wX1 cI cZ cG h1 a1 hd (nI wk) (nI nw) y1 y2 y3 z0 fa fz ho sd hw lo ti L T) ∧ va_S A s.heap H locs ∧ lv_has ls 5 [(4, .int (nI (wk + i))), (0, .ref h1), (1, .int (nI n)), (2, .int h), (3, .int look)]) (fun (i : Nat) (L : Nat → Int32) (T : Nat → Int32) (y1 : Int32) (y2 : Int32) (y3 : Int32) (z0 : Int32) => n - i) (fun i L T y1 y2 y3 z0 H locs ls hI ih36 => ?_) 0 (va_cpy lo tl 0 0 nw) tt 101 lw lx 501 _ _ _ ⟨(by omega), rfl, hP, hD, hS, lv_sub hl [0, 1, 2, 3, 4] rfl⟩
  obtain ⟨hi, hq, hP, hD, hS, hl⟩ := hI
  refine lv_iload hx hb dX1_foresee_36 (lv_at hl 0 rfl) ?_
  refine lv_aload_n hx hb dX1_foresee_38 rfl (lv_at hl 1 rfl) ?_
  refine va_get (D := D) (ci := 1) (v := .int (nI wk)) (C := RX1) (T := TX1) (N := 16) hx hb hts inX1_foresee hown hK hP 0 rfl rfl 3 (by decide) fl51 (fun _ h9 => h9) rfl dX1_foresee_39 ?_
  refine lv_iload_n hx hb dX1_foresee_42 rfl (lv_at hl 2 rfl) ?_
  refine lv_iadd hx hb dX1_foresee_43 ?_
  refine lv_topi (fun z1 ez1 => ?_)
  obtain rfl : z1 = nI (wk + n) := ez1.trans (nI_add wk n)
  refine lv_icmp_ge (tgt := 83) hx hb dX1_foresee_44 (by decide) (fun c2 => ?_) (fun c2 => ?_)
  · have c2 : (wk + n) ≤ (wk + i) := (nI_leI (a := wk + n) (b := wk + i) (by omega) (by omega)).mp c2
    have ek : i = n := by omega
    rw [ek] at hq
    exact K_vret (wf := (fun (u : (Nat → Int32) × (Nat → Int32) × Int32 × Int32 × Int32 × Int32) => wX1 cI cZ cG h1 a1 hd (nI wk) (nI nw) u.2.2.1 u.2.2.2.1 u.2.2.2.2.1 u.2.2.2.2.2 fa fz ho sd hw lo ti u.1 u.2.1)) (L, T, y1, y2, y3, z0) hx hb hr hlocks hP hK hD hS dX1_foresee_83 hq
  · have c2 : ¬ (wk + n) ≤ (wk + i) := fun hq => c2 ((nI_leI (a := wk + n) (b := wk + i) (by omega) (by omega)).mpr hq)
    refine lv_aload_n hx hb dX1_foresee_47 rfl (lv_at hl 1 rfl) ?_
    refine va_get (D := D) (ci := 1) (v := .int y1) (C := RX1) (T := TX1) (N := 16) hx hb hts inX1_foresee hown hK hP 0 rfl rfl 12 (by decide) fl66 (fun _ h9 => h9) rfl dX1_foresee_48 ?_
    refine lv_iload_n hx hb dX1_foresee_51 rfl (lv_at hl 4 rfl) ?_
    refine lv_icmp_lt (tgt := 83) hx hb dX1_foresee_52 (by decide) (fun c3 => ?_) (fun c3 => ?_)
    · replace c3 := Int32.not_le.mpr c3
      exact K_vret (wf := (fun (u : (Nat → Int32) × (Nat → Int32) × Int32 × Int32 × Int32 × Int32) => wX1 cI cZ cG h1 a1 hd (nI wk) (nI nw) u.2.2.1 u.2.2.2.1 u.2.2.2.2.1 u.2.2.2.2.2 fa fz ho sd hw lo ti u.1 u.2.1)) (L, T, y1, y2, y3, z0) hx hb hr hlocks hP hK hD hS dX1_foresee_83 (by have hne : ¬ look ≤ (fS fa fz sd hw nw wk h look (f0 nw lo tl tt lw lx) i).2.2.1.1 := (by rw [← hq]; exact c3); have h9 := fS_stop hne (n - i); rw [show i + (n - i) = n by omega] at h9; rw [h9]; exact hq)
    · replace c3 := Int32.not_lt.mp c3
      refine lv_aload_n hx hb dX1_foresee_55 rfl (lv_at hl 1 rfl) ?_
      refine lv_iload hx hb dX1_foresee_56 (lv_at hl 0 rfl) ?_
      refine lv_iload_n hx hb dX1_foresee_58 rfl (lv_at hl 3 rfl) ?_
      refine lv_aload_n hx hb dX1_foresee_59 rfl (lv_at hl 1 rfl) ?_
      refine va_get (D := D) (ci := 1) (v := .ref (a1 7)) (C := RX1) (T := TX1) (N := 16) hx hb hts inX1_foresee hown hK hP 0 rfl rfl 10 (by decide) fl38 (fun _ h9 => h9) rfl dX1_foresee_60 ?_
      refine lv_aload_n hx hb dX1_foresee_63 rfl (lv_at hl 1 rfl) ?_
      refine va_get (D := D) (ci := 1) (v := .ref (a1 8)) (C := RX1) (T := TX1) (N := 16) hx hb hts inX1_foresee hown hK hP 0 rfl rfl 11 (by decide) fl41 (fun _ h9 => h9) rfl dX1_foresee_64 ?_
      refine K_same (va_runV (As := [.int (nI (wk + i)), .int h, .ref (a1 7), .ref (a1 8)]) (rest := []) ⟨hx, hb, hml, hown, hts⟩ (c_X1_passWeek_th l D cI cZ cG h1 a1 _ hd wk nw y1 y2 y3 z0 fa fz ho sd hw lo ti L T (wk + i) h hwk hnw hsd (by omega)) (cwV 4 hts gX1_foresee_X1_passWeek rfl rfl rfl (by decide +kernel) ⟨(Nat.le_of_ble_eq_true rfl), (Nat.le_of_ble_eq_true rfl)⟩) ⟨PB_blind, va_recv hK hP (ci := 1) (q0 := 0) rfl rfl, (K_preS hN hK hP hD).2⟩ rfl rfl hl.1 rfl (lv_room (Nat.le_of_ble_eq_true rfl)) dX1_foresee_67 ⟨Nat.zero_le _, Nat.zero_le _⟩) hD hS hA (fun r4 u H locs hw4 hP hD hS => ?_)
      obtain ⟨L24, T24, k24⟩ := u
      try dsimp only at hw4
      have hr4 := hw4.1
      have hu4 := hw4.2
      have hL24 := (Prod.mk.inj hu4).1
      have hT24 := (Prod.mk.inj (Prod.mk.inj hu4).2).1
      have hk24 := (Prod.mk.inj (Prod.mk.inj hu4).2).2
      have hP : va_P D vwCl (wX1 cI cZ cG h1 a1 hd (nI wk) (nI nw) y1 y2 y3 k24 fa fz ho sd hw lo ti L24 T24) H := hP
      have hD : va_D A (wX1 cI cZ cG h1 a1 hd (nI wk) (nI nw) y1 y2 y3 k24 fa fz ho sd hw lo ti L24 T24) := hD
      refine lv_pop hx hb dX1_foresee_70 rfl ?_
      refine lv_aload_n hx hb dX1_foresee_71 rfl (lv_at hl 1 rfl) ?_
      refine lv_iload hx hb dX1_foresee_72 (lv_at hl 0 rfl) ?_
      refine K_samev (va_runV (As := [.int (nI (wk + i))]) (rest := []) ⟨hx, hb, hml, hown, hts⟩ (c_X1_keepLeast l D cI cZ cG h1 a1 _ hd wk nw y1 y2 y3 k24 fa fz ho sd hw lo ti L24 T24 (nI (wk + i)) hwk hnw) (cwV 1 hts gX1_foresee_X1_keepLeast rfl rfl rfl (by decide +kernel) ⟨(Nat.le_of_ble_eq_true rfl), (Nat.le_of_ble_eq_true rfl)⟩) ⟨PB_blind, va_recv hK hP (ci := 1) (q0 := 0) rfl rfl, (K_preS hN hK hP hD).2⟩ rfl rfl hl.1 rfl (lv_room (Nat.le_of_ble_eq_true rfl)) dX1_foresee_74 ⟨Nat.zero_le _, Nat.zero_le _⟩) hD hS hA (fun u H locs hw5 hP hD hS => ?_)
      obtain ⟨x15, x25, x35⟩ := u
      try dsimp only at hw5
      have hP : va_P D vwCl (wX1 cI cZ cG h1 a1 hd (nI wk) (nI nw) x15 x25 x35 k24 fa fz ho sd hw lo ti L24 T24) H := hP
      have hD : va_D A (wX1 cI cZ cG h1 a1 hd (nI wk) (nI nw) x15 x25 x35 k24 fa fz ho sd hw lo ti L24 T24) := hD
      refine lv_iinc (v := nI (wk + i + 1)) (lv' := [(4, .int (nI (wk + i + 1))), (0, .ref h1), (1, .int (nI n)), (2, .int h), (3, .int look)]) hx hb dX1_foresee_77 hl (k := 0) rfl (inc1 _) (by decide) rfl (fun ls hl => ?_)
      refine lv_goto (tgt := 36) hx hb dX1_foresee_80 (by decide) ?_
      exact ih36 (i + 1) L24 T24 x15 x25 x35 k24 _ _ _ ⟨(by omega), (by rw [fS, ← hq]; refine Eq.trans ?_ (if_pos c3).symm; rw [hw5, hL24, hT24, hk24]; rfl), hP, hD, hS, lv_sub hl [0, 1, 2, 3, 4] rfl⟩ (by omega)
theorem inX1_leastForetold : ∀ w ∈ wsX10, w ∈ wsX1_leastForetold := by decide +kernel
set_option maxHeartbeats 8000000 in
set_option maxRecDepth 100000 in
/-- leastForetold -/
theorem c_X1_leastForetold (l : Launch) (D : va_G) (cI cZ cG : ClassId) (h1 : Nat) (a1 : Nat → Nat) (sz : Nat) (hd : Int32) (wk : Nat) (nw : Nat) (ll : Int32) (lw : Int32) (lx : Int32) (lk : Int32) (fa : Nat → Int32) (fz : Nat → Int32) (ho : Nat → Int32) (sd : Nat → Int32) (hw : Nat → Int32) (lo : Nat → Int32) (ti : Nat → Int32) (tl : Nat → Int32) (tt : Nat → Int32) (x : Int32) (q : Int32) (hwk : wk ≤ 200) (hnw : nw ≤ 24) (hsd : ∀ k, k < nw → ∃ j, j < 4 ∧ sd k = nI j) : Met l yX1_leastForetold wsX1_leastForetold ({ frames := 4, cells := 0, slots := 0, locals := 101 } : Room) (va_Pc [.ref h1, .int x, .int q] (PB D (tyL cI cZ cG) (wX1 cI cZ cG h1 a1 hd (nI wk) (nI nw) ll lw lx lk fa fz ho sd hw lo ti tl tt) sz)) (va_Qi (fun (r : Int32) (_ : (Nat → Int32) × (Nat → Int32) × Int32 × Int32 × Int32 × Int32) => r = rFore wk nw hd fa fz sd hw lo tl tt lw lx x q) (fun u => QB D (tyL cI cZ cG) (va_A (wX1 cI cZ cG h1 a1 hd (nI wk) (nI nw) ll lw lx lk fa fz ho sd hw lo ti tl tt) sz) ((fun (u : (Nat → Int32) × (Nat → Int32) × Int32 × Int32 × Int32 × Int32) => wX1 cI cZ cG h1 a1 hd (nI wk) (nI nw) u.2.2.1 u.2.2.2.1 u.2.2.2.2.1 u.2.2.2.2.2 fa fz ho sd hw lo ti u.1 u.2.1) u)) (va_A (wX1 cI cZ cG h1 a1 hd (nI wk) (nI nw) ll lw lx lk fa fz ho sd hw lo ti tl tt) sz)) 0 0 (va_A (wX1 cI cZ cG h1 a1 hd (nI wk) (nI nw) ll lw lx lk fa fz ho sd hw lo ti tl tt) sz) := by
  refine K_start (cc := cX1_leastForetold) (maxL := 3) (ret := some .int) (Qc := fun A => va_Qi (fun (r : Int32) (_ : (Nat → Int32) × (Nat → Int32) × Int32 × Int32 × Int32 × Int32) => r = rFore wk nw hd fa fz sd hw lo tl tt lw lx x q) (fun u => QB D (tyL cI cZ cG) A ((fun (u : (Nat → Int32) × (Nat → Int32) × Int32 × Int32 × Int32 × Int32) => wX1 cI cZ cG h1 a1 hd (nI wk) (nI nw) u.2.2.1 u.2.2.2.1 u.2.2.2.2.1 u.2.2.2.2.2 fa fz ho sd hw lo ti u.1 u.2.1) u)) A) (by decide) rfl (Nat.le_of_ble_eq_true rfl) ?_
  intro p e s m below meth c ls A hx hb hml hr hts hown hlocks hin hN hP hK hD hA hS hl hsz
  have hl : lv_has ls 3 [(0, .ref h1), (1, .int x), (2, .int q)] := hl
  have fl51 := hts (.fieldLink RX1 51 "ModelTown$Paint" "week" "I") (by decide +kernel)
  have fl48 := hts (.fieldLink RX1 48 "ModelTown$Paint" "walls" "I") (by decide +kernel)
  have fl19 := hts (.fieldLink RX1 19 "ModelTown$Paint" "hands" "I") (by decide +kernel)
  have fl66 := hts (.fieldLink RX1 66 "ModelTown$Paint" "leastLook" "I") (by decide +kernel)
  have fl69 := hts (.fieldLink RX1 69 "ModelTown$Paint" "leastWeek" "I") (by decide +kernel)
  have fl72 := hts (.fieldLink RX1 72 "ModelTown$Paint" "leastWall" "I") (by decide +kernel)
  refine lv_iload_n hx hb dX1_leastForetold_0 rfl (lv_at hl 1 rfl) ?_
  refine lv_iconst (v := 1) hx hb dX1_leastForetold_1 (by decide) ?_
  refine lv_bipush (v := 52) hx hb dX1_leastForetold_2 (by decide) ?_
  refine K_none (va_runSN (As := [.int x, .int 1, .int 52]) (rest := []) ⟨hx, hb, hml, hown, hts⟩ (c_X4_isWithin l D cI cZ cG _ x 1 52) ⟨va_cnB (host := "ModelTown") 3 hts gX1_leastForetold_X4_isWithin_n44 rfl rfl rfl hN.2.2.1 (hts (.initialized RX4) (by decide +kernel)) (by decide +kernel) ⟨(Nat.le_of_ble_eq_true rfl), (Nat.le_of_ble_eq_true rfl)⟩, hts (.static yX4_isWithin) (by decide +kernel), trivial⟩ (K_pre0 hN hK) rfl rfl hl.1 rfl (lv_room (Nat.le_of_ble_eq_true rfl)) dX1_leastForetold_4 ⟨Nat.zero_le _, Nat.zero_le _⟩) hP hS hA (fun r1 _ H locs hw1 hP hS => ?_)
  rcases hw1 with ⟨rfl, hw1⟩ | ⟨rfl, hw1⟩
  · obtain ⟨n, hn1, hn2, rfl⟩ := inR_nat1 (a := 1) (b := 52) hw1 (by decide) (by decide)
    have hcn : (nI n).toNatClampNeg = n := nI_clamp (by omega)
    refine lv_if_eq (tgt := 19) hx hb dX1_leastForetold_7 (by decide) (fun c2 => absurd c2 (by decide)) (fun _ => ?_)
    refine lv_iload_n hx hb dX1_leastForetold_10 rfl (lv_at hl 2 rfl) ?_
    refine lv_iconst (v := 0) hx hb dX1_leastForetold_11 (by decide) ?_
    refine lv_iconst (v := 2) hx hb dX1_leastForetold_12 (by decide) ?_
    refine K_none (va_runSN (As := [.int q, .int 0, .int 2]) (rest := []) ⟨hx, hb, hml, hown, hts⟩ (c_X4_isWithin l D cI cZ cG _ q 0 2) ⟨va_cnB (host := "ModelTown") 3 hts gX1_leastForetold_X4_isWithin_n44 rfl rfl rfl hN.2.2.1 (hts (.initialized RX4) (by decide +kernel)) (by decide +kernel) ⟨(Nat.le_of_ble_eq_true rfl), (Nat.le_of_ble_eq_true rfl)⟩, hts (.static yX4_isWithin) (by decide +kernel), trivial⟩ (K_pre0 hN hK) rfl rfl hl.1 rfl (lv_room (Nat.le_of_ble_eq_true rfl)) dX1_leastForetold_13 ⟨Nat.zero_le _, Nat.zero_le _⟩) hP hS hA (fun r3 _ H locs hw3 hP hS => ?_)
    rcases hw3 with ⟨rfl, hw3⟩ | ⟨rfl, hw3⟩
    · obtain ⟨r3, hr31, hr32, rfl⟩ := inR_nat1 (a := 0) (b := 2) hw3 (by decide) (by decide)
      have hcr3 : (nI r3).toNatClampNeg = r3 := nI_clamp (by omega)
      refine lv_if_ne (tgt := 22) hx hb dX1_leastForetold_16 (by decide) (fun _ => ?_) (fun c4 => absurd c4 (by decide))
      refine lv_aload_n hx hb dX1_leastForetold_22 rfl (lv_at hl 0 rfl) ?_
      refine va_get (D := D) (ci := 1) (v := .int (nI wk)) (C := RX1) (T := TX1) (N := 16) hx hb hts inX1_leastForetold hown hK hP 0 rfl rfl 3 (by decide) fl51 (fun _ h9 => h9) rfl dX1_leastForetold_23 ?_
      refine lv_iload_n hx hb dX1_leastForetold_26 rfl (lv_at hl 1 rfl) ?_
      refine lv_iadd hx hb dX1_leastForetold_27 ?_
      refine lv_topi (fun z5 ez5 => ?_)
      obtain rfl : z5 = nI (wk + n) := ez5.trans (nI_add wk n)
      refine lv_sipush (v := 200) hx hb dX1_leastForetold_28 (by decide) ?_
      refine lv_icmp_le (tgt := 37) hx hb dX1_leastForetold_31 (by decide) (fun c6 => ?_) (fun c6 => ?_)
      · have c6 : (wk + n) ≤ 200 := (nI_leI (a := wk + n) (b := 200) (by omega) (by omega)).mp c6
        skip
        refine lv_aload_n hx hb dX1_leastForetold_37 rfl (lv_at hl 0 rfl) ?_
        refine va_get (D := D) (ci := 1) (v := .int (nI nw)) (C := RX1) (T := TX1) (N := 16) hx hb hts inX1_leastForetold hown hK hP 0 rfl rfl 9 (by decide) fl48 (fun _ h9 => h9) rfl dX1_leastForetold_38 ?_
        refine lv_if_ne (tgt := 47) hx hb dX1_leastForetold_41 (by decide) (fun c7 => ?_) (fun c7 => ?_)
        · have c7 : ¬ nw = 0 := fun hq => c7 ((nI_eq (a := nw) (b := 0) (by omega) (by omega)).mpr hq)
          have c7 : ¬ nw = 0 := by omega
          refine lv_aload_n hx hb dX1_leastForetold_47 rfl (lv_at hl 0 rfl) ?_
          refine lv_iload_n hx hb dX1_leastForetold_48 rfl (lv_at hl 1 rfl) ?_
          refine lv_aload_n hx hb dX1_leastForetold_49 rfl (lv_at hl 0 rfl) ?_
          refine va_get (D := D) (ci := 1) (v := .int hd) (C := RX1) (T := TX1) (N := 16) hx hb hts inX1_leastForetold hown hK hP 0 rfl rfl 2 (by decide) fl19 (fun _ h9 => h9) rfl dX1_leastForetold_50 ?_
          refine lv_iconst (v := 0) hx hb dX1_leastForetold_53 (by decide) ?_
          refine K_samev (va_runV (As := [.int (nI n), .int hd, .int 0]) (rest := []) ⟨hx, hb, hml, hown, hts⟩ (c_X1_foresee l D cI cZ cG h1 a1 _ hd wk nw ll lw lx lk fa fz ho sd hw lo ti tl tt n hd 0 hwk hnw hsd (by omega)) (cwV 3 hts gX1_leastForetold_X1_foresee rfl rfl rfl (by decide +kernel) ⟨(Nat.le_of_ble_eq_true rfl), (Nat.le_of_ble_eq_true rfl)⟩) ⟨PB_blind, va_recv hK hP (ci := 1) (q0 := 0) rfl rfl, (K_preS hN hK hP hD).2⟩ rfl rfl hl.1 rfl (lv_room (Nat.le_of_ble_eq_true rfl)) dX1_leastForetold_54 ⟨Nat.zero_le _, Nat.zero_le _⟩) hD hS hA (fun u H locs hw8 hP hD hS => ?_)
          obtain ⟨tl28, tt28, x18, x28, x38, k28⟩ := u
          try dsimp only at hw8
          have hP : va_P D vwCl (wX1 cI cZ cG h1 a1 hd (nI wk) (nI nw) x18 x28 x38 k28 fa fz ho sd hw lo ti tl28 tt28) H := hP
          have hD : va_D A (wX1 cI cZ cG h1 a1 hd (nI wk) (nI nw) x18 x28 x38 k28 fa fz ho sd hw lo ti tl28 tt28) := hD
          have hq3 : r3 = 0 ∨ r3 = 1 ∨ r3 = 2 := by omega
          rcases hq3 with rfl | rfl | rfl
          · have hl : lv_has ls 3 [(0, .ref h1), (1, .int (nI n)), (2, .int 0)] := hl
            refine lv_iload_n hx hb dX1_leastForetold_57 rfl (lv_at hl 2 rfl) ?_
            refine lv_lookup (off := 26) (tgt := 84) hx hb dX1_leastForetold_58 (by decide) (by decide) (by decide) ?_
            refine lv_aload_n hx hb dX1_leastForetold_84 rfl (lv_at hl 0 rfl) ?_
            refine va_get (D := D) (ci := 1) (v := .int x18) (C := RX1) (T := TX1) (N := 16) hx hb hts inX1_leastForetold hown hK hP 0 rfl rfl 12 (by decide) fl66 (fun _ h9 => h9) rfl dX1_leastForetold_85 ?_
            exact K_iret (wf := (fun (u : (Nat → Int32) × (Nat → Int32) × Int32 × Int32 × Int32 × Int32) => wX1 cI cZ cG h1 a1 hd (nI wk) (nI nw) u.2.2.1 u.2.2.2.1 u.2.2.2.2.1 u.2.2.2.2.2 fa fz ho sd hw lo ti u.1 u.2.1)) (tl28, tt28, x18, x28, x38, k28) hx hb hr hlocks hP hK hD hS dX1_leastForetold_88 (by rw [rFore, if_pos ⟨by assumption, by assumption⟩, hcn, if_pos (by omega), if_neg (by assumption), ← hw8]; rfl)
          · have hl : lv_has ls 3 [(0, .ref h1), (1, .int (nI n)), (2, .int 1)] := hl
            refine lv_iload_n hx hb dX1_leastForetold_57 rfl (lv_at hl 2 rfl) ?_
            refine lv_lookup (off := 31) (tgt := 89) hx hb dX1_leastForetold_58 (by decide) (by decide) (by decide) ?_
            refine lv_aload_n hx hb dX1_leastForetold_89 rfl (lv_at hl 0 rfl) ?_
            refine va_get (D := D) (ci := 1) (v := .int x28) (C := RX1) (T := TX1) (N := 16) hx hb hts inX1_leastForetold hown hK hP 0 rfl rfl 13 (by decide) fl69 (fun _ h9 => h9) rfl dX1_leastForetold_90 ?_
            exact K_iret (wf := (fun (u : (Nat → Int32) × (Nat → Int32) × Int32 × Int32 × Int32 × Int32) => wX1 cI cZ cG h1 a1 hd (nI wk) (nI nw) u.2.2.1 u.2.2.2.1 u.2.2.2.2.1 u.2.2.2.2.2 fa fz ho sd hw lo ti u.1 u.2.1)) (tl28, tt28, x18, x28, x38, k28) hx hb hr hlocks hP hK hD hS dX1_leastForetold_93 (by rw [rFore, if_pos ⟨by assumption, by assumption⟩, hcn, if_pos (by omega), if_neg (by assumption), ← hw8]; rfl)
          · have hl : lv_has ls 3 [(0, .ref h1), (1, .int (nI n)), (2, .int 2)] := hl
            refine lv_iload_n hx hb dX1_leastForetold_57 rfl (lv_at hl 2 rfl) ?_
            refine lv_lookup (off := 36) (tgt := 94) hx hb dX1_leastForetold_58 (by decide) (by decide) (by decide) ?_
            refine lv_aload_n hx hb dX1_leastForetold_94 rfl (lv_at hl 0 rfl) ?_
            refine va_get (D := D) (ci := 1) (v := .int x38) (C := RX1) (T := TX1) (N := 16) hx hb hts inX1_leastForetold hown hK hP 0 rfl rfl 14 (by decide) fl72 (fun _ h9 => h9) rfl dX1_leastForetold_95 ?_
            exact K_iret (wf := (fun (u : (Nat → Int32) × (Nat → Int32) × Int32 × Int32 × Int32 × Int32) => wX1 cI cZ cG h1 a1 hd (nI wk) (nI nw) u.2.2.1 u.2.2.2.1 u.2.2.2.2.1 u.2.2.2.2.2 fa fz ho sd hw lo ti u.1 u.2.1)) (tl28, tt28, x18, x28, x38, k28) hx hb hr hlocks hP hK hD hS dX1_leastForetold_98 (by rw [rFore, if_pos ⟨by assumption, by assumption⟩, hcn, if_pos (by omega), if_neg (by assumption), ← hw8]; rfl)
        · have c7 : nw = 0 := (nI_eq (a := nw) (b := 0) (by omega) (by omega)).mp c7
          have c7 : nw = 0 := by omega
          refine lv_bipush (v := (-6)) hx hb dX1_leastForetold_44 (by decide) ?_
          exact K_iret (wf := (fun (u : (Nat → Int32) × (Nat → Int32) × Int32 × Int32 × Int32 × Int32) => wX1 cI cZ cG h1 a1 hd (nI wk) (nI nw) u.2.2.1 u.2.2.2.1 u.2.2.2.2.1 u.2.2.2.2.2 fa fz ho sd hw lo ti u.1 u.2.1)) (tl, tt, ll, lw, lx, lk) hx hb hr hlocks hP hK hD hS dX1_leastForetold_46 (by simp [rFore, hw1, hcn, hw3, hcr3, c6, eq_true c7])
      · have c6 : ¬ (wk + n) ≤ 200 := fun hq => c6 ((nI_leI (a := wk + n) (b := 200) (by omega) (by omega)).mpr hq)
        refine lv_bipush (v := (-3)) hx hb dX1_leastForetold_34 (by decide) ?_
        exact K_iret (wf := (fun (u : (Nat → Int32) × (Nat → Int32) × Int32 × Int32 × Int32 × Int32) => wX1 cI cZ cG h1 a1 hd (nI wk) (nI nw) u.2.2.1 u.2.2.2.1 u.2.2.2.2.1 u.2.2.2.2.2 fa fz ho sd hw lo ti u.1 u.2.1)) (tl, tt, ll, lw, lx, lk) hx hb hr hlocks hP hK hD hS dX1_leastForetold_36 (by simp [rFore, hw1, hcn, hw3, hcr3, c6])
    · skip
      refine lv_if_ne (tgt := 22) hx hb dX1_leastForetold_16 (by decide) (fun c9 => absurd c9 (by decide)) (fun _ => ?_)
      refine lv_bipush (v := (-2)) hx hb dX1_leastForetold_19 (by decide) ?_
      exact K_iret (wf := (fun (u : (Nat → Int32) × (Nat → Int32) × Int32 × Int32 × Int32 × Int32) => wX1 cI cZ cG h1 a1 hd (nI wk) (nI nw) u.2.2.1 u.2.2.2.1 u.2.2.2.2.1 u.2.2.2.2.2 fa fz ho sd hw lo ti u.1 u.2.1)) (tl, tt, ll, lw, lx, lk) hx hb hr hlocks hP hK hD hS dX1_leastForetold_21 (by simp [rFore, hw1, hcn, hw3])
  · skip
    refine lv_if_eq (tgt := 19) hx hb dX1_leastForetold_7 (by decide) (fun _ => ?_) (fun c10 => absurd c10 (by decide))
    refine lv_bipush (v := (-2)) hx hb dX1_leastForetold_19 (by decide) ?_
    exact K_iret (wf := (fun (u : (Nat → Int32) × (Nat → Int32) × Int32 × Int32 × Int32 × Int32) => wX1 cI cZ cG h1 a1 hd (nI wk) (nI nw) u.2.2.1 u.2.2.2.1 u.2.2.2.2.1 u.2.2.2.2.2 fa fz ho sd hw lo ti u.1 u.2.1)) (tl, tt, ll, lw, lx, lk) hx hb hr hlocks hP hK hD hS dX1_leastForetold_21 (by simp [rFore, hw1])

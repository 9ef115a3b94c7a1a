theorem inX1_setFade : ∀ w ∈ wsX10, w ∈ wsX1_setFade := by decide +kernel
set_option maxHeartbeats 8000000 in
set_option maxRecDepth 100000 in
/-- setFade -/
theorem c_X1_setFade (l : Launch) (D : va_G) (cI cZ cG : ClassId) (h1 : Nat) (a1 : Nat → Nat) (sz : Nat) (hd : Int32) (wk : Nat) (nw : Nat) (ll : Int32) (lw : Int32) (lx : Int32) (lk : Int32) (fa : Nat → Int32) (fz : Nat → Int32) (ho : Nat → Int32) (sd : Nat → Int32) (hw : Nat → Int32) (lo : Nat → Int32) (ti : Nat → Int32) (tl : Nat → Int32) (tt : Nat → Int32) (x : Int32) (v : Int32) (hwk : wk ≤ 200) (hnw : nw ≤ 24) : Met l yX1_setFade wsX1_setFade ({ frames := 1, cells := 0, slots := 0, locals := 22 } : Room) (va_Pc [.ref h1, .int x, .int v] (PB D (tyL cI cZ cG) (wX1 cI cZ cG h1 a1 hd (nI wk) (nI nw) ll lw lx lk fa fz ho sd hw lo ti tl tt) sz)) (va_Qi (fun (r : Int32) (u : Nat → Int32) => r = (if inR x 0 3 = true ∧ inR v 0 40 = true then fa x.toNatClampNeg else -2) ∧ u = if inR x 0 3 = true ∧ inR v 0 40 = true then upd fa x.toNatClampNeg v else fa) (fun u => QB D (tyL cI cZ cG) (va_A (wX1 cI cZ cG h1 a1 hd (nI wk) (nI nw) ll lw lx lk fa fz ho sd hw lo ti tl tt) sz) ((fun (u : (Nat → Int32)) => wX1 cI cZ cG h1 a1 hd (nI wk) (nI nw) ll lw lx lk u fz ho sd hw lo ti tl tt) u)) (va_A (wX1 cI cZ cG h1 a1 hd (nI wk) (nI nw) ll lw lx lk fa fz ho sd hw lo ti tl tt) sz)) 0 0 (va_A (wX1 cI cZ cG h1 a1 hd (nI wk) (nI nw) ll lw lx lk fa fz ho sd hw lo ti tl tt) sz) := by
  refine K_start (cc := cX1_setFade) (maxL := 4) (ret := some .int) (Qc := fun A => va_Qi (fun (r : Int32) (u : Nat → Int32) => r = (if inR x 0 3 = true ∧ inR v 0 40 = true then fa x.toNatClampNeg else -2) ∧ u = if inR x 0 3 = true ∧ inR v 0 40 = true then upd fa x.toNatClampNeg v else fa) (fun u => QB D (tyL cI cZ cG) A ((fun (u : (Nat → Int32)) => wX1 cI cZ cG h1 a1 hd (nI wk) (nI nw) ll lw lx lk u fz ho sd hw lo ti tl tt) u)) A) (by decide) rfl (Nat.le_of_ble_eq_true rfl) ?_
  intro p e s m below meth c ls A hx hb hml hr hts hown hlocks hin hN hP hK hD hA hS hl hsz
  have hl : lv_has ls 4 [(0, .ref h1), (1, .int x), (2, .int v)] := hl
  have fl11 := hts (.fieldLink RX1 11 "ModelTown$Paint" "fades" "[I") (by decide +kernel)
  refine lv_iload_n hx hb dX1_setFade_0 rfl (lv_at hl 1 rfl) ?_
  refine lv_iconst (v := 0) hx hb dX1_setFade_1 (by decide) ?_
  refine lv_iconst (v := 3) hx hb dX1_setFade_2 (by decide) ?_
  refine K_none (va_runSN (As := [.int x, .int 0, .int 3]) (rest := []) ⟨hx, hb, hml, hown, hts⟩ (c_X4_isWithin l D cI cZ cG _ x 0 3) ⟨va_cnB (host := "ModelTown") 3 hts gX1_setFade_X4_isWithin_n44 rfl rfl rfl hN.2.2.1 (hts (.initialized RX4) (by decide +kernel)) (by decide +kernel) ⟨(Nat.le_of_ble_eq_true rfl), (Nat.le_of_ble_eq_true rfl)⟩, hts (.static yX4_isWithin) (by decide +kernel), trivial⟩ (K_pre0 hN hK) rfl rfl hl.1 rfl (lv_room (Nat.le_of_ble_eq_true rfl)) dX1_setFade_3 ⟨Nat.zero_le _, Nat.zero_le _⟩) hP hS hA (fun r1 _ H locs hw1 hP hS => ?_)
  rcases hw1 with ⟨rfl, hw1⟩ | ⟨rfl, hw1⟩
  · obtain ⟨j0, hj01, hj02, rfl⟩ := inR_nat1 (a := 0) (b := 3) hw1 (by decide) (by decide)
    have hcj0 : (nI j0).toNatClampNeg = j0 := nI_clamp (by omega)
    refine lv_if_eq (tgt := 19) hx hb dX1_setFade_6 (by decide) (fun c2 => absurd c2 (by decide)) (fun _ => ?_)
    refine lv_iload_n hx hb dX1_setFade_9 rfl (lv_at hl 2 rfl) ?_
    refine lv_iconst (v := 0) hx hb dX1_setFade_10 (by decide) ?_
    refine lv_bipush (v := 40) hx hb dX1_setFade_11 (by decide) ?_
    refine K_none (va_runSN (As := [.int v, .int 0, .int 40]) (rest := []) ⟨hx, hb, hml, hown, hts⟩ (c_X4_isWithin l D cI cZ cG _ v 0 40) ⟨va_cnB (host := "ModelTown") 3 hts gX1_setFade_X4_isWithin_n44 rfl rfl rfl hN.2.2.1 (hts (.initialized RX4) (by decide +kernel)) (by decide +kernel) ⟨(Nat.le_of_ble_eq_true rfl), (Nat.le_of_ble_eq_true rfl)⟩, hts (.static yX4_isWithin) (by decide +kernel), trivial⟩ (K_pre0 hN hK) rfl rfl hl.1 rfl (lv_room (Nat.le_of_ble_eq_true rfl)) dX1_setFade_13 ⟨Nat.zero_le _, Nat.zero_le _⟩) hP hS hA (fun r3 _ H locs hw3 hP hS => ?_)
    rcases hw3 with ⟨rfl, hw3⟩ | ⟨rfl, hw3⟩
    · skip
      refine lv_if_ne (tgt := 22) hx hb dX1_setFade_16 (by decide) (fun _ => ?_) (fun c4 => absurd c4 (by decide))
      refine lv_aload_n hx hb dX1_setFade_22 rfl (lv_at hl 0 rfl) ?_
      refine va_get (D := D) (ci := 1) (v := .ref (a1 0)) (C := RX1) (T := TX1) (N := 16) hx hb hts inX1_setFade hown hK hP 0 rfl rfl 0 (by decide) fl11 (fun _ h9 => h9) rfl dX1_setFade_23 ?_
      refine lv_iload_n hx hb dX1_setFade_26 rfl (lv_at hl 1 rfl) ?_
      refine K_iald hx hb hK hP 1 0 rfl rfl j0 (by omega) (Nat.le_of_ble_eq_true rfl) dX1_setFade_27 ?_
      refine lv_istore_n (lv' := [(3, .int (fa j0)), (0, .ref h1), (1, .int (nI j0)), (2, .int v)]) hx hb dX1_setFade_28 rfl hl (by decide) rfl (fun ls hl => ?_)
      refine lv_aload_n hx hb dX1_setFade_29 rfl (lv_at hl 1 rfl) ?_
      refine va_get (D := D) (ci := 1) (v := .ref (a1 0)) (C := RX1) (T := TX1) (N := 16) hx hb hts inX1_setFade hown hK hP 0 rfl rfl 0 (by decide) fl11 (fun _ h9 => h9) rfl dX1_setFade_30 ?_
      refine lv_iload_n hx hb dX1_setFade_33 rfl (lv_at hl 2 rfl) ?_
      refine lv_iload_n hx hb dX1_setFade_34 rfl (lv_at hl 3 rfl) ?_
      refine K_iast hx hb hK hP hD hS 1 0 rfl rfl j0 (by omega) (Nat.le_of_ble_eq_true rfl) dX1_setFade_35 (fun H locs hP hD hS => ?_)
      have hP : va_P D vwCl (wX1 cI cZ cG h1 a1 hd (nI wk) (nI nw) ll lw lx lk (upd fa j0 v) fz ho sd hw lo ti tl tt) H := hP
      have hD : va_D A (wX1 cI cZ cG h1 a1 hd (nI wk) (nI nw) ll lw lx lk (upd fa j0 v) fz ho sd hw lo ti tl tt) := hD
      refine lv_iload_n hx hb dX1_setFade_36 rfl (lv_at hl 0 rfl) ?_
      exact K_iret (wf := (fun (u : (Nat → Int32)) => wX1 cI cZ cG h1 a1 hd (nI wk) (nI nw) ll lw lx lk u fz ho sd hw lo ti tl tt)) (upd fa j0 v) hx hb hr hlocks hP hK hD hS dX1_setFade_37 (by simp [if_true, hw1, hcj0, hw3])
    · skip
      refine lv_if_ne (tgt := 22) hx hb dX1_setFade_16 (by decide) (fun c5 => absurd c5 (by decide)) (fun _ => ?_)
      refine lv_bipush (v := (-2)) hx hb dX1_setFade_19 (by decide) ?_
      exact K_iret (wf := (fun (u : (Nat → Int32)) => wX1 cI cZ cG h1 a1 hd (nI wk) (nI nw) ll lw lx lk u fz ho sd hw lo ti tl tt)) fa hx hb hr hlocks hP hK hD hS dX1_setFade_21 (by simp [if_true, hw1, hcj0, hw3])
  · skip
    refine lv_if_eq (tgt := 19) hx hb dX1_setFade_6 (by decide) (fun _ => ?_) (fun c6 => absurd c6 (by decide))
    refine lv_bipush (v := (-2)) hx hb dX1_setFade_19 (by decide) ?_
    exact K_iret (wf := (fun (u : (Nat → Int32)) => wX1 cI cZ cG h1 a1 hd (nI wk) (nI nw) ll lw lx lk u fz ho sd hw lo ti tl tt)) fa hx hb hr hlocks hP hK hD hS dX1_setFade_21 (by simp [if_true, hw1])
theorem inX1_addWall : ∀ w ∈ wsX10, w ∈ wsX1_addWall := by decide +kernel
set_option maxHeartbeats 8000000 in
set_option maxRecDepth 100000 in
/-- addWall -/
theorem c_X1_addWall (l : Launch) (D : va_G) (cI cZ cG : ClassId) (h1 : Nat) (a1 : Nat → Nat) (sz : Nat) (hd : Int32) (wk : Nat) (nw : Nat) (ll : Int32) (lw : Int32) (lx : Int32) (lk : Int32) (fa : Nat → Int32) (fz : Nat → Int32) (ho : Nat → Int32) (sd : Nat → Int32) (hw : Nat → Int32) (lo : Nat → Int32) (ti : Nat → Int32) (tl : Nat → Int32) (tt : Nat → Int32) (p0 : Int32) (q : Int32) (v : Int32) (hwk : wk ≤ 200) (hnw : nw ≤ 24) : Met l yX1_addWall wsX1_addWall ({ frames := 1, cells := 0, slots := 0, locals := 22 } : Room) (va_Pc [.ref h1, .int p0, .int q, .int v] (PB D (tyL cI cZ cG) (wX1 cI cZ cG h1 a1 hd (nI wk) (nI nw) ll lw lx lk fa fz ho sd hw lo ti tl tt) sz)) (va_Qi (fun (r : Int32) (u : Nat × (Nat → Int32) × (Nat → Int32) × (Nat → Int32) × (Nat → Int32)) => r = rWall nw p0 q v ∧ u = if (inR p0 0 99 = true ∧ inR q 0 3 = true ∧ inR v 1 60 = true) ∧ ¬ nw = 24 then (nw + 1, upd ho nw p0, upd sd nw q, upd hw nw v, upd lo nw 100) else (nw, ho, sd, hw, lo)) (fun u => QB D (tyL cI cZ cG) (va_A (wX1 cI cZ cG h1 a1 hd (nI wk) (nI nw) ll lw lx lk fa fz ho sd hw lo ti tl tt) sz) ((fun (u : Nat × (Nat → Int32) × (Nat → Int32) × (Nat → Int32) × (Nat → Int32)) => wX1 cI cZ cG h1 a1 hd (nI wk) (nI u.1) ll lw lx lk fa fz u.2.1 u.2.2.1 u.2.2.2.1 u.2.2.2.2 ti tl tt) u)) (va_A (wX1 cI cZ cG h1 a1 hd (nI wk) (nI nw) ll lw lx lk fa fz ho sd hw lo ti tl tt) sz)) 0 0 (va_A (wX1 cI cZ cG h1 a1 hd (nI wk) (nI nw) ll lw lx lk fa fz ho sd hw lo ti tl tt) sz) := by
  refine K_start (cc := cX1_addWall) (maxL := 4) (ret := some .int) (Qc := fun A => va_Qi (fun (r : Int32) (u : Nat × (Nat → Int32) × (Nat → Int32) × (Nat → Int32) × (Nat → Int32)) => r = rWall nw p0 q v ∧ u = if (inR p0 0 99 = true ∧ inR q 0 3 = true ∧ inR v 1 60 = true) ∧ ¬ nw = 24 then (nw + 1, upd ho nw p0, upd sd nw q, upd hw nw v, upd lo nw 100) else (nw, ho, sd, hw, lo)) (fun u => QB D (tyL cI cZ cG) A ((fun (u : Nat × (Nat → Int32) × (Nat → Int32) × (Nat → Int32) × (Nat → Int32)) => wX1 cI cZ cG h1 a1 hd (nI wk) (nI u.1) ll lw lx lk fa fz u.2.1 u.2.2.1 u.2.2.2.1 u.2.2.2.2 ti tl tt) u)) A) (by decide) rfl (Nat.le_of_ble_eq_true rfl) ?_
  intro p e s m below meth c ls A hx hb hml hr hts hown hlocks hin hN hP hK hD hA hS hl hsz
  have hl : lv_has ls 4 [(0, .ref h1), (1, .int p0), (2, .int q), (3, .int v)] := hl
  have fl48 := hts (.fieldLink RX1 48 "ModelTown$Paint" "walls" "I") (by decide +kernel)
  have fl23 := hts (.fieldLink RX1 23 "ModelTown$Paint" "houses" "[I") (by decide +kernel)
  have fl26 := hts (.fieldLink RX1 26 "ModelTown$Paint" "sides" "[I") (by decide +kernel)
  have fl29 := hts (.fieldLink RX1 29 "ModelTown$Paint" "hoursToPaint" "[I") (by decide +kernel)
  have fl32 := hts (.fieldLink RX1 32 "ModelTown$Paint" "looks" "[I") (by decide +kernel)
  refine lv_iload_n hx hb dX1_addWall_0 rfl (lv_at hl 1 rfl) ?_
  refine lv_iconst (v := 0) hx hb dX1_addWall_1 (by decide) ?_
  refine lv_bipush (v := 99) hx hb dX1_addWall_2 (by decide) ?_
  refine K_none (va_runSN (As := [.int p0, .int 0, .int 99]) (rest := []) ⟨hx, hb, hml, hown, hts⟩ (c_X4_isWithin l D cI cZ cG _ p0 0 99) ⟨va_cnB (host := "ModelTown") 3 hts gX1_addWall_X4_isWithin_n44 rfl rfl rfl hN.2.2.1 (hts (.initialized RX4) (by decide +kernel)) (by decide +kernel) ⟨(Nat.le_of_ble_eq_true rfl), (Nat.le_of_ble_eq_true rfl)⟩, hts (.static yX4_isWithin) (by decide +kernel), trivial⟩ (K_pre0 hN hK) rfl rfl hl.1 rfl (lv_room (Nat.le_of_ble_eq_true rfl)) dX1_addWall_4 ⟨Nat.zero_le _, Nat.zero_le _⟩) hP hS hA (fun r1 _ H locs hw1 hP hS => ?_)
  rcases hw1 with ⟨rfl, hw1⟩ | ⟨rfl, hw1⟩
  · skip
    refine lv_if_eq (tgt := 29) hx hb dX1_addWall_7 (by decide) (fun c2 => absurd c2 (by decide)) (fun _ => ?_)
    refine lv_iload_n hx hb dX1_addWall_10 rfl (lv_at hl 2 rfl) ?_
    refine lv_iconst (v := 0) hx hb dX1_addWall_11 (by decide) ?_
    refine lv_iconst (v := 3) hx hb dX1_addWall_12 (by decide) ?_
    refine K_none (va_runSN (As := [.int q, .int 0, .int 3]) (rest := []) ⟨hx, hb, hml, hown, hts⟩ (c_X4_isWithin l D cI cZ cG _ q 0 3) ⟨va_cnB (host := "ModelTown") 3 hts gX1_addWall_X4_isWithin_n44 rfl rfl rfl hN.2.2.1 (hts (.initialized RX4) (by decide +kernel)) (by decide +kernel) ⟨(Nat.le_of_ble_eq_true rfl), (Nat.le_of_ble_eq_true rfl)⟩, hts (.static yX4_isWithin) (by decide +kernel), trivial⟩ (K_pre0 hN hK) rfl rfl hl.1 rfl (lv_room (Nat.le_of_ble_eq_true rfl)) dX1_addWall_13 ⟨Nat.zero_le _, Nat.zero_le _⟩) hP hS hA (fun r3 _ H locs hw3 hP hS => ?_)
    rcases hw3 with ⟨rfl, hw3⟩ | ⟨rfl, hw3⟩
    · skip
      refine lv_if_eq (tgt := 29) hx hb dX1_addWall_16 (by decide) (fun c4 => absurd c4 (by decide)) (fun _ => ?_)
      refine lv_iload_n hx hb dX1_addWall_19 rfl (lv_at hl 3 rfl) ?_
      refine lv_iconst (v := 1) hx hb dX1_addWall_20 (by decide) ?_
      refine lv_bipush (v := 60) hx hb dX1_addWall_21 (by decide) ?_
      refine K_none (va_runSN (As := [.int v, .int 1, .int 60]) (rest := []) ⟨hx, hb, hml, hown, hts⟩ (c_X4_isWithin l D cI cZ cG _ v 1 60) ⟨va_cnB (host := "ModelTown") 3 hts gX1_addWall_X4_isWithin_n44 rfl rfl rfl hN.2.2.1 (hts (.initialized RX4) (by decide +kernel)) (by decide +kernel) ⟨(Nat.le_of_ble_eq_true rfl), (Nat.le_of_ble_eq_true rfl)⟩, hts (.static yX4_isWithin) (by decide +kernel), trivial⟩ (K_pre0 hN hK) rfl rfl hl.1 rfl (lv_room (Nat.le_of_ble_eq_true rfl)) dX1_addWall_23 ⟨Nat.zero_le _, Nat.zero_le _⟩) hP hS hA (fun r5 _ H locs hw5 hP hS => ?_)
      rcases hw5 with ⟨rfl, hw5⟩ | ⟨rfl, hw5⟩
      · skip
        refine lv_if_ne (tgt := 32) hx hb dX1_addWall_26 (by decide) (fun _ => ?_) (fun c6 => absurd c6 (by decide))
        refine lv_aload_n hx hb dX1_addWall_32 rfl (lv_at hl 0 rfl) ?_
        refine va_get (D := D) (ci := 1) (v := .int (nI nw)) (C := RX1) (T := TX1) (N := 16) hx hb hts inX1_addWall hown hK hP 0 rfl rfl 9 (by decide) fl48 (fun _ h9 => h9) rfl dX1_addWall_33 ?_
        refine lv_bipush (v := 24) hx hb dX1_addWall_36 (by decide) ?_
        refine lv_icmp_lt (tgt := 44) hx hb dX1_addWall_38 (by decide) (fun c7 => ?_) (fun c7 => ?_)
        · have c7 : nw < 24 := (nI_ltI (a := nw) (b := 24) (by omega) (by omega)).mp c7
          have c7 : ¬ nw = 24 := by omega
          refine lv_aload_n hx hb dX1_addWall_44 rfl (lv_at hl 0 rfl) ?_
          refine va_get (D := D) (ci := 1) (v := .ref (a1 2)) (C := RX1) (T := TX1) (N := 16) hx hb hts inX1_addWall hown hK hP 0 rfl rfl 4 (by decide) fl23 (fun _ h9 => h9) rfl dX1_addWall_45 ?_
          refine lv_aload_n hx hb dX1_addWall_48 rfl (lv_at hl 0 rfl) ?_
          refine va_get (D := D) (ci := 1) (v := .int (nI nw)) (C := RX1) (T := TX1) (N := 16) hx hb hts inX1_addWall hown hK hP 0 rfl rfl 9 (by decide) fl48 (fun _ h9 => h9) rfl dX1_addWall_49 ?_
          refine lv_iload_n hx hb dX1_addWall_52 rfl (lv_at hl 1 rfl) ?_
          refine K_iast hx hb hK hP hD hS 3 0 rfl rfl nw (by omega) (Nat.le_of_ble_eq_true rfl) dX1_addWall_53 (fun H locs hP hD hS => ?_)
          have hP : va_P D vwCl (wX1 cI cZ cG h1 a1 hd (nI wk) (nI nw) ll lw lx lk fa fz (upd ho nw p0) sd hw lo ti tl tt) H := hP
          have hD : va_D A (wX1 cI cZ cG h1 a1 hd (nI wk) (nI nw) ll lw lx lk fa fz (upd ho nw p0) sd hw lo ti tl tt) := hD
          refine lv_aload_n hx hb dX1_addWall_54 rfl (lv_at hl 0 rfl) ?_
          refine va_get (D := D) (ci := 1) (v := .ref (a1 3)) (C := RX1) (T := TX1) (N := 16) hx hb hts inX1_addWall hown hK hP 0 rfl rfl 5 (by decide) fl26 (fun _ h9 => h9) rfl dX1_addWall_55 ?_
          refine lv_aload_n hx hb dX1_addWall_58 rfl (lv_at hl 0 rfl) ?_
          refine va_get (D := D) (ci := 1) (v := .int (nI nw)) (C := RX1) (T := TX1) (N := 16) hx hb hts inX1_addWall hown hK hP 0 rfl rfl 9 (by decide) fl48 (fun _ h9 => h9) rfl dX1_addWall_59 ?_
          refine lv_iload_n hx hb dX1_addWall_62 rfl (lv_at hl 2 rfl) ?_
          refine K_iast hx hb hK hP hD hS 4 0 rfl rfl nw (by omega) (Nat.le_of_ble_eq_true rfl) dX1_addWall_63 (fun H locs hP hD hS => ?_)
          have hP : va_P D vwCl (wX1 cI cZ cG h1 a1 hd (nI wk) (nI nw) ll lw lx lk fa fz (upd ho nw p0) (upd sd nw q) hw lo ti tl tt) H := hP
          have hD : va_D A (wX1 cI cZ cG h1 a1 hd (nI wk) (nI nw) ll lw lx lk fa fz (upd ho nw p0) (upd sd nw q) hw lo ti tl tt) := hD
          refine lv_aload_n hx hb dX1_addWall_64 rfl (lv_at hl 0 rfl) ?_
          refine va_get (D := D) (ci := 1) (v := .ref (a1 4)) (C := RX1) (T := TX1) (N := 16) hx hb hts inX1_addWall hown hK hP 0 rfl rfl 6 (by decide) fl29 (fun _ h9 => h9) rfl dX1_addWall_65 ?_
          refine lv_aload_n hx hb dX1_addWall_68 rfl (lv_at hl 0 rfl) ?_
          refine va_get (D := D) (ci := 1) (v := .int (nI nw)) (C := RX1) (T := TX1) (N := 16) hx hb hts inX1_addWall hown hK hP 0 rfl rfl 9 (by decide) fl48 (fun _ h9 => h9) rfl dX1_addWall_69 ?_
          refine lv_iload_n hx hb dX1_addWall_72 rfl (lv_at hl 3 rfl) ?_
          refine K_iast hx hb hK hP hD hS 5 0 rfl rfl nw (by omega) (Nat.le_of_ble_eq_true rfl) dX1_addWall_73 (fun H locs hP hD hS => ?_)
          have hP : va_P D vwCl (wX1 cI cZ cG h1 a1 hd (nI wk) (nI nw) ll lw lx lk fa fz (upd ho nw p0) (upd sd nw q) (upd hw nw v) lo ti tl tt) H := hP
          have hD : va_D A (wX1 cI cZ cG h1 a1 hd (nI wk) (nI nw) ll lw lx lk fa fz (upd ho nw p0) (upd sd nw q) (upd hw nw v) lo ti tl tt) := hD
          refine lv_aload_n hx hb dX1_addWall_74 rfl (lv_at hl 0 rfl) ?_
          refine va_get (D := D) (ci := 1) (v := .ref (a1 5)) (C := RX1) (T := TX1) (N := 16) hx hb hts inX1_addWall hown hK hP 0 rfl rfl 7 (by decide) fl32 (fun _ h9 => h9) rfl dX1_addWall_75 ?_
          refine lv_aload_n hx hb dX1_addWall_78 rfl (lv_at hl 0 rfl) ?_
          refine va_get (D := D) (ci := 1) (v := .int (nI nw)) (C := RX1) (T := TX1) (N := 16) hx hb hts inX1_addWall hown hK hP 0 rfl rfl 9 (by decide) fl48 (fun _ h9 => h9) rfl dX1_addWall_79 ?_
          refine lv_bipush (v := 100) hx hb dX1_addWall_82 (by decide) ?_
          refine K_iast hx hb hK hP hD hS 6 0 rfl rfl nw (by omega) (Nat.le_of_ble_eq_true rfl) dX1_addWall_84 (fun H locs hP hD hS => ?_)
          have hP : va_P D vwCl (wX1 cI cZ cG h1 a1 hd (nI wk) (nI nw) ll lw lx lk fa fz (upd ho nw p0) (upd sd nw q) (upd hw nw v) (upd lo nw 100) ti tl tt) H := hP
          have hD : va_D A (wX1 cI cZ cG h1 a1 hd (nI wk) (nI nw) ll lw lx lk fa fz (upd ho nw p0) (upd sd nw q) (upd hw nw v) (upd lo nw 100) ti tl tt) := hD
          refine lv_aload_n hx hb dX1_addWall_85 rfl (lv_at hl 0 rfl) ?_
          refine lv_dup hx hb dX1_addWall_86 rfl ?_
          refine va_get (D := D) (ci := 1) (v := .int (nI nw)) (C := RX1) (T := TX1) (N := 16) hx hb hts inX1_addWall hown hK hP 0 rfl rfl 9 (by decide) fl48 (fun _ h9 => h9) rfl dX1_addWall_87 ?_
          refine lv_iconst (v := 1) hx hb dX1_addWall_90 (by decide) ?_
          refine lv_iadd hx hb dX1_addWall_91 ?_
          refine lv_topi (fun z8 ez8 => ?_)
          obtain rfl : z8 = nI (nw + 1) := ez8.trans (nI_add nw 1)
          refine va_put (D := D) (ci := 1) (v := .int (nI (nw + 1))) (ty := .int) (C := RX1) (T := TX1) (N := 16) hx hb hts inX1_addWall tyX1 tyX1_ok nmX1 hown hK hP hD hS 0 rfl rfl 9 (by decide) fl48 (fun _ h9 => h9) rfl (by decide +kernel) rfl rfl (Nat.le_of_ble_eq_true rfl) dX1_addWall_92 (fun H locs hP hD hS => ?_)
          have hP : va_P D vwCl (wX1 cI cZ cG h1 a1 hd (nI wk) (nI (nw + 1)) ll lw lx lk fa fz (upd ho nw p0) (upd sd nw q) (upd hw nw v) (upd lo nw 100) ti tl tt) H := hP
          have hD : va_D A (wX1 cI cZ cG h1 a1 hd (nI wk) (nI (nw + 1)) ll lw lx lk fa fz (upd ho nw p0) (upd sd nw q) (upd hw nw v) (upd lo nw 100) ti tl tt) := hD
          refine lv_aload_n hx hb dX1_addWall_95 rfl (lv_at hl 0 rfl) ?_
          refine va_get (D := D) (ci := 1) (v := .int (nI (nw + 1))) (C := RX1) (T := TX1) (N := 16) hx hb hts inX1_addWall hown hK hP 0 rfl rfl 9 (by decide) fl48 (fun _ h9 => h9) rfl dX1_addWall_96 ?_
          refine lv_iconst (v := 1) hx hb dX1_addWall_99 (by decide) ?_
          refine lv_isub hx hb dX1_addWall_100 ?_
          refine lv_topi (fun z9 ez9 => ?_)
          obtain rfl : z9 = nI nw := ez9.trans (nI_pred nw)
          exact K_iret (wf := (fun (u : Nat × (Nat → Int32) × (Nat → Int32) × (Nat → Int32) × (Nat → Int32)) => wX1 cI cZ cG h1 a1 hd (nI wk) (nI u.1) ll lw lx lk fa fz u.2.1 u.2.2.1 u.2.2.2.1 u.2.2.2.2 ti tl tt)) (nw + 1, upd ho nw p0, upd sd nw q, upd hw nw v, upd lo nw 100) hx hb hr hlocks hP hK hD hS dX1_addWall_101 (by simp [rWall, hw1, hw3, hw5, c7])
        · have c7 : ¬ nw < 24 := fun hq => c7 ((nI_ltI (a := nw) (b := 24) (by omega) (by omega)).mpr hq)
          have c7 : nw = 24 := by omega
          refine lv_bipush (v := (-4)) hx hb dX1_addWall_41 (by decide) ?_
          exact K_iret (wf := (fun (u : Nat × (Nat → Int32) × (Nat → Int32) × (Nat → Int32) × (Nat → Int32)) => wX1 cI cZ cG h1 a1 hd (nI wk) (nI u.1) ll lw lx lk fa fz u.2.1 u.2.2.1 u.2.2.2.1 u.2.2.2.2 ti tl tt)) (nw, ho, sd, hw, lo) hx hb hr hlocks hP hK hD hS dX1_addWall_43 (by simp [rWall, hw1, hw3, hw5, eq_true c7])
      · skip
        refine lv_if_ne (tgt := 32) hx hb dX1_addWall_26 (by decide) (fun c10 => absurd c10 (by decide)) (fun _ => ?_)
        refine lv_bipush (v := (-2)) hx hb dX1_addWall_29 (by decide) ?_
        exact K_iret (wf := (fun (u : Nat × (Nat → Int32) × (Nat → Int32) × (Nat → Int32) × (Nat → Int32)) => wX1 cI cZ cG h1 a1 hd (nI wk) (nI u.1) ll lw lx lk fa fz u.2.1 u.2.2.1 u.2.2.2.1 u.2.2.2.2 ti tl tt)) (nw, ho, sd, hw, lo) hx hb hr hlocks hP hK hD hS dX1_addWall_31 (by simp [rWall, hw1, hw3, hw5])
    · skip
      refine lv_if_eq (tgt := 29) hx hb dX1_addWall_16 (by decide) (fun _ => ?_) (fun c11 => absurd c11 (by decide))
      refine lv_bipush (v := (-2)) hx hb dX1_addWall_29 (by decide) ?_
      exact K_iret (wf := (fun (u : Nat × (Nat → Int32) × (Nat → Int32) × (Nat → Int32) × (Nat → Int32)) => wX1 cI cZ cG h1 a1 hd (nI wk) (nI u.1) ll lw lx lk fa fz u.2.1 u.2.2.1 u.2.2.2.1 u.2.2.2.2 ti tl tt)) (nw, ho, sd, hw, lo) hx hb hr hlocks hP hK hD hS dX1_addWall_31 (by simp [rWall, hw1, hw3])
  · skip
    refine lv_if_eq (tgt := 29) hx hb dX1_addWall_7 (by decide) (fun _ => ?_) (fun c12 => absurd c12 (by decide))
    refine lv_bipush (v := (-2)) hx hb dX1_addWall_29 (by decide) ?_
    exact K_iret (wf := (fun (u : Nat × (Nat → Int32) × (Nat → Int32) × (Nat → Int32) × (Nat → Int32)) => wX1 cI cZ cG h1 a1 hd (nI wk) (nI u.1) ll lw lx lk fa fz u.2.1 u.2.2.1 u.2.2.2.1 u.2.2.2.2 ti tl tt)) (nw, ho, sd, hw, lo) hx hb hr hlocks hP hK hD hS dX1_addWall_31 (by simp [rWall, hw1])
theorem inX1_aboutWall : ∀ w ∈ wsX10, w ∈ wsX1_aboutWall := by decide +kernel
set_option maxHeartbeats 8000000 in
set_option maxRecDepth 100000 in
/-- aboutWall -/
theorem c_X1_aboutWall (l : Launch) (D : va_G) (cI cZ cG : ClassId) (h1 : Nat) (a1 : Nat → Nat) (sz : Nat) (hd : Int32) (wk : Nat) (nw : Nat) (ll : Int32) (lw : Int32) (lx : Int32) (lk : Int32) (fa : Nat → Int32) (fz : Nat → Int32) (ho : Nat → Int32) (sd : Nat → Int32) (hw : Nat → Int32) (lo : Nat → Int32) (ti : Nat → Int32) (tl : Nat → Int32) (tt : Nat → Int32) (x : Int32) (w : Int32) (hwk : wk ≤ 200) (hnw : nw ≤ 24) : Met l yX1_aboutWall wsX1_aboutWall ({ frames := 1, cells := 0, slots := 0, locals := 22 } : Room) (va_Pc [.ref h1, .int x, .int w] (PB D (tyL cI cZ cG) (wX1 cI cZ cG h1 a1 hd (nI wk) (nI nw) ll lw lx lk fa fz ho sd hw lo ti tl tt) sz)) (va_Qi (fun (r : Int32) (_ : Unit) => r = rWallOf nw ho sd hw lo ti x w) (fun u => QB D (tyL cI cZ cG) (va_A (wX1 cI cZ cG h1 a1 hd (nI wk) (nI nw) ll lw lx lk fa fz ho sd hw lo ti tl tt) sz) ((fun (_ : Unit) => wX1 cI cZ cG h1 a1 hd (nI wk) (nI nw) ll lw lx lk fa fz ho sd hw lo ti tl tt) u)) (va_A (wX1 cI cZ cG h1 a1 hd (nI wk) (nI nw) ll lw lx lk fa fz ho sd hw lo ti tl tt) sz)) 0 0 (va_A (wX1 cI cZ cG h1 a1 hd (nI wk) (nI nw) ll lw lx lk fa fz ho sd hw lo ti tl tt) sz) := by
  refine K_start (cc := cX1_aboutWall) (maxL := 3) (ret := some .int) (Qc := fun A => va_Qi (fun (r : Int32) (_ : Unit) => r = rWallOf nw ho sd hw lo ti x w) (fun u => QB D (tyL cI cZ cG) A ((fun (_ : Unit) => wX1 cI cZ cG h1 a1 hd (nI wk) (nI nw) ll lw lx lk fa fz ho sd hw lo ti tl tt) u)) A) (by decide) rfl (Nat.le_of_ble_eq_true rfl) ?_
  intro p e s m below meth c ls A hx hb hml hr hts hown hlocks hin hN hP hK hD hA hS hl hsz
  have hl : lv_has ls 3 [(0, .ref h1), (1, .int x), (2, .int w)] := hl
  have fl48 := hts (.fieldLink RX1 48 "ModelTown$Paint" "walls" "I") (by decide +kernel)
  have fl23 := hts (.fieldLink RX1 23 "ModelTown$Paint" "houses" "[I") (by decide +kernel)
  have fl26 := hts (.fieldLink RX1 26 "ModelTown$Paint" "sides" "[I") (by decide +kernel)
  have fl29 := hts (.fieldLink RX1 29 "ModelTown$Paint" "hoursToPaint" "[I") (by decide +kernel)
  have fl32 := hts (.fieldLink RX1 32 "ModelTown$Paint" "looks" "[I") (by decide +kernel)
  have fl35 := hts (.fieldLink RX1 35 "ModelTown$Paint" "timesPainted" "[I") (by decide +kernel)
  refine lv_iload_n hx hb dX1_aboutWall_0 rfl (lv_at hl 1 rfl) ?_
  refine lv_iconst (v := 0) hx hb dX1_aboutWall_1 (by decide) ?_
  refine lv_aload_n hx hb dX1_aboutWall_2 rfl (lv_at hl 0 rfl) ?_
  refine va_get (D := D) (ci := 1) (v := .int (nI nw)) (C := RX1) (T := TX1) (N := 16) hx hb hts inX1_aboutWall hown hK hP 0 rfl rfl 9 (by decide) fl48 (fun _ h9 => h9) rfl dX1_aboutWall_3 ?_
  refine lv_iconst (v := 1) hx hb dX1_aboutWall_6 (by decide) ?_
  refine lv_isub hx hb dX1_aboutWall_7 ?_
  refine K_none (va_runSN (As := [.int x, .int 0, .int ((nI nw) - 1)]) (rest := []) ⟨hx, hb, hml, hown, hts⟩ (c_X4_isWithin l D cI cZ cG _ x 0 ((nI nw) - 1)) ⟨va_cnB (host := "ModelTown") 3 hts gX1_aboutWall_X4_isWithin_n44 rfl rfl rfl hN.2.2.1 (hts (.initialized RX4) (by decide +kernel)) (by decide +kernel) ⟨(Nat.le_of_ble_eq_true rfl), (Nat.le_of_ble_eq_true rfl)⟩, hts (.static yX4_isWithin) (by decide +kernel), trivial⟩ (K_pre0 hN hK) rfl rfl hl.1 rfl (lv_room (Nat.le_of_ble_eq_true rfl)) dX1_aboutWall_8 ⟨Nat.zero_le _, Nat.zero_le _⟩) hP hS hA (fun r1 _ H locs hw1 hP hS => ?_)
  rcases hw1 with ⟨rfl, hw1⟩ | ⟨rfl, hw1⟩
  · obtain ⟨k, hk, rfl⟩ := inR_lt (by omega) hw1
    have hck : (nI k).toNatClampNeg = k := nI_clamp (by omega)
    refine lv_if_ne (tgt := 16) hx hb dX1_aboutWall_11 (by decide) (fun _ => ?_) (fun c2 => absurd c2 (by decide))
    refine lv_iload_n hx hb dX1_aboutWall_16 rfl (lv_at hl 2 rfl) ?_
    rcases (sw_5 w : w = 0 ∨ w = 1 ∨ w = 2 ∨ w = 3 ∨ w = 4 ∨ (w.toInt < 0 ∨ 4 < w.toInt)) with hsw3 | hsw3 | hsw3 | hsw3 | hsw3 | hsw3
    · subst hsw3
      refine lv_tableIn (off := 35) (tgt := 52) hx hb dX1_aboutWall_17 (by decide) (by decide) (by rfl) (by decide) ?_
      refine lv_aload_n hx hb dX1_aboutWall_52 rfl (lv_at hl 0 rfl) ?_
      refine va_get (D := D) (ci := 1) (v := .ref (a1 2)) (C := RX1) (T := TX1) (N := 16) hx hb hts inX1_aboutWall hown hK hP 0 rfl rfl 4 (by decide) fl23 (fun _ h9 => h9) rfl dX1_aboutWall_53 ?_
      refine lv_iload_n hx hb dX1_aboutWall_56 rfl (lv_at hl 1 rfl) ?_
      refine K_iald hx hb hK hP 3 0 rfl rfl k (by omega) (Nat.le_of_ble_eq_true rfl) dX1_aboutWall_57 ?_
      exact K_iret (wf := (fun (_ : Unit) => wX1 cI cZ cG h1 a1 hd (nI wk) (nI nw) ll lw lx lk fa fz ho sd hw lo ti tl tt)) () hx hb hr hlocks hP hK hD hS dX1_aboutWall_58 (by simp [rWallOf, hw1, hck])
    · subst hsw3
      refine lv_tableIn (off := 42) (tgt := 59) hx hb dX1_aboutWall_17 (by decide) (by decide) (by rfl) (by decide) ?_
      refine lv_aload_n hx hb dX1_aboutWall_59 rfl (lv_at hl 0 rfl) ?_
      refine va_get (D := D) (ci := 1) (v := .ref (a1 3)) (C := RX1) (T := TX1) (N := 16) hx hb hts inX1_aboutWall hown hK hP 0 rfl rfl 5 (by decide) fl26 (fun _ h9 => h9) rfl dX1_aboutWall_60 ?_
      refine lv_iload_n hx hb dX1_aboutWall_63 rfl (lv_at hl 1 rfl) ?_
      refine K_iald hx hb hK hP 4 0 rfl rfl k (by omega) (Nat.le_of_ble_eq_true rfl) dX1_aboutWall_64 ?_
      exact K_iret (wf := (fun (_ : Unit) => wX1 cI cZ cG h1 a1 hd (nI wk) (nI nw) ll lw lx lk fa fz ho sd hw lo ti tl tt)) () hx hb hr hlocks hP hK hD hS dX1_aboutWall_65 (by simp [rWallOf, hw1, hck])
    · subst hsw3
      refine lv_tableIn (off := 49) (tgt := 66) hx hb dX1_aboutWall_17 (by decide) (by decide) (by rfl) (by decide) ?_
      refine lv_aload_n hx hb dX1_aboutWall_66 rfl (lv_at hl 0 rfl) ?_
      refine va_get (D := D) (ci := 1) (v := .ref (a1 4)) (C := RX1) (T := TX1) (N := 16) hx hb hts inX1_aboutWall hown hK hP 0 rfl rfl 6 (by decide) fl29 (fun _ h9 => h9) rfl dX1_aboutWall_67 ?_
      refine lv_iload_n hx hb dX1_aboutWall_70 rfl (lv_at hl 1 rfl) ?_
      refine K_iald hx hb hK hP 5 0 rfl rfl k (by omega) (Nat.le_of_ble_eq_true rfl) dX1_aboutWall_71 ?_
      exact K_iret (wf := (fun (_ : Unit) => wX1 cI cZ cG h1 a1 hd (nI wk) (nI nw) ll lw lx lk fa fz ho sd hw lo ti tl tt)) () hx hb hr hlocks hP hK hD hS dX1_aboutWall_72 (by simp [rWallOf, hw1, hck])
    · subst hsw3
      refine lv_tableIn (off := 56) (tgt := 73) hx hb dX1_aboutWall_17 (by decide) (by decide) (by rfl) (by decide) ?_
      refine lv_aload_n hx hb dX1_aboutWall_73 rfl (lv_at hl 0 rfl) ?_
      refine va_get (D := D) (ci := 1) (v := .ref (a1 5)) (C := RX1) (T := TX1) (N := 16) hx hb hts inX1_aboutWall hown hK hP 0 rfl rfl 7 (by decide) fl32 (fun _ h9 => h9) rfl dX1_aboutWall_74 ?_
      refine lv_iload_n hx hb dX1_aboutWall_77 rfl (lv_at hl 1 rfl) ?_
      refine K_iald hx hb hK hP 6 0 rfl rfl k (by omega) (Nat.le_of_ble_eq_true rfl) dX1_aboutWall_78 ?_
      exact K_iret (wf := (fun (_ : Unit) => wX1 cI cZ cG h1 a1 hd (nI wk) (nI nw) ll lw lx lk fa fz ho sd hw lo ti tl tt)) () hx hb hr hlocks hP hK hD hS dX1_aboutWall_79 (by simp [rWallOf, hw1, hck])
    · subst hsw3
      refine lv_tableIn (off := 63) (tgt := 80) hx hb dX1_aboutWall_17 (by decide) (by decide) (by rfl) (by decide) ?_
      refine lv_aload_n hx hb dX1_aboutWall_80 rfl (lv_at hl 0 rfl) ?_
      refine va_get (D := D) (ci := 1) (v := .ref (a1 6)) (C := RX1) (T := TX1) (N := 16) hx hb hts inX1_aboutWall hown hK hP 0 rfl rfl 8 (by decide) fl35 (fun _ h9 => h9) rfl dX1_aboutWall_81 ?_
      refine lv_iload_n hx hb dX1_aboutWall_84 rfl (lv_at hl 1 rfl) ?_
      refine K_iald hx hb hK hP 7 0 rfl rfl k (by omega) (Nat.le_of_ble_eq_true rfl) dX1_aboutWall_85 ?_
      exact K_iret (wf := (fun (_ : Unit) => wX1 cI cZ cG h1 a1 hd (nI wk) (nI nw) ll lw lx lk fa fz ho sd hw lo ti tl tt)) () hx hb hr hlocks hP hK hD hS dX1_aboutWall_86 (by simp [rWallOf, hw1, hck])
    · have n4 : ¬ w = 0 := fun hq => by rw [hq] at hsw3; revert hsw3; decide
      have n5 : ¬ w = 1 := fun hq => by rw [hq] at hsw3; revert hsw3; decide
      have n6 : ¬ w = 2 := fun hq => by rw [hq] at hsw3; revert hsw3; decide
      have n7 : ¬ w = 3 := fun hq => by rw [hq] at hsw3; revert hsw3; decide
      have n8 : ¬ w = 4 := fun hq => by rw [hq] at hsw3; revert hsw3; decide
      refine lv_tableOut (tgt := 87) hx hb dX1_aboutWall_17 hsw3 (by decide) ?_
      refine lv_bipush (v := (-2)) hx hb dX1_aboutWall_87 (by decide) ?_
      exact K_iret (wf := (fun (_ : Unit) => wX1 cI cZ cG h1 a1 hd (nI wk) (nI nw) ll lw lx lk fa fz ho sd hw lo ti tl tt)) () hx hb hr hlocks hP hK hD hS dX1_aboutWall_89 (by simp [rWallOf, hw1, hck, n4, n5, n6, n7, n8])
  · skip
    refine lv_if_ne (tgt := 16) hx hb dX1_aboutWall_11 (by decide) (fun c9 => absurd c9 (by decide)) (fun _ => ?_)
    refine lv_iconst (v := (-1)) hx hb dX1_aboutWall_14 (by decide) ?_
    exact K_iret (wf := (fun (_ : Unit) => wX1 cI cZ cG h1 a1 hd (nI wk) (nI nw) ll lw lx lk fa fz ho sd hw lo ti tl tt)) () hx hb hr hlocks hP hK hD hS dX1_aboutWall_15 (by simp [rWallOf, hw1])
theorem inX1_setHands : ∀ w ∈ wsX10, w ∈ wsX1_setHands := by decide +kernel
set_option maxHeartbeats 8000000 in
set_option maxRecDepth 100000 in
/-- setHands -/
theorem c_X1_setHands (l : Launch) (D : va_G) (cI cZ cG : ClassId) (h1 : Nat) (a1 : Nat → Nat) (sz : Nat) (hd : Int32) (wk : Nat) (nw : Nat) (ll : Int32) (lw : Int32) (lx : Int32) (lk : Int32) (fa : Nat → Int32) (fz : Nat → Int32) (ho : Nat → Int32) (sd : Nat → Int32) (hw : Nat → Int32) (lo : Nat → Int32) (ti : Nat → Int32) (tl : Nat → Int32) (tt : Nat → Int32) (x : Int32) (hwk : wk ≤ 200) (hnw : nw ≤ 24) : Met l yX1_setHands wsX1_setHands ({ frames := 1, cells := 0, slots := 0, locals := 22 } : Room) (va_Pc [.ref h1, .int x] (PB D (tyL cI cZ cG) (wX1 cI cZ cG h1 a1 hd (nI wk) (nI nw) ll lw lx lk fa fz ho sd hw lo ti tl tt) sz)) (va_Qi (fun (r : Int32) (u : Int32) => r = (if inR x 0 500 = true then hd else -2) ∧ u = if inR x 0 500 = true then x else hd) (fun u => QB D (tyL cI cZ cG) (va_A (wX1 cI cZ cG h1 a1 hd (nI wk) (nI nw) ll lw lx lk fa fz ho sd hw lo ti tl tt) sz) ((fun (u : Int32) => wX1 cI cZ cG h1 a1 u (nI wk) (nI nw) ll lw lx lk fa fz ho sd hw lo ti tl tt) u)) (va_A (wX1 cI cZ cG h1 a1 hd (nI wk) (nI nw) ll lw lx lk fa fz ho sd hw lo ti tl tt) sz)) 0 0 (va_A (wX1 cI cZ cG h1 a1 hd (nI wk) (nI nw) ll lw lx lk fa fz ho sd hw lo ti tl tt) sz) := by
  refine K_start (cc := cX1_setHands) (maxL := 3) (ret := some .int) (Qc := fun A => va_Qi (fun (r : Int32) (u : Int32) => r = (if inR x 0 500 = true then hd else -2) ∧ u = if inR x 0 500 = true then x else hd) (fun u => QB D (tyL cI cZ cG) A ((fun (u : Int32) => wX1 cI cZ cG h1 a1 u (nI wk) (nI nw) ll lw lx lk fa fz ho sd hw lo ti tl tt) u)) A) (by decide) rfl (Nat.le_of_ble_eq_true rfl) ?_
  intro p e s m below meth c ls A hx hb hml hr hts hown hlocks hin hN hP hK hD hA hS hl hsz
  have hl : lv_has ls 3 [(0, .ref h1), (1, .int x)] := hl
  have fl19 := hts (.fieldLink RX1 19 "ModelTown$Paint" "hands" "I") (by decide +kernel)
  refine lv_iload_n hx hb dX1_setHands_0 rfl (lv_at hl 1 rfl) ?_
  refine lv_iconst (v := 0) hx hb dX1_setHands_1 (by decide) ?_
  refine lv_sipush (v := 500) hx hb dX1_setHands_2 (by decide) ?_
  refine K_none (va_runSN (As := [.int x, .int 0, .int 500]) (rest := []) ⟨hx, hb, hml, hown, hts⟩ (c_X4_isWithin l D cI cZ cG _ x 0 500) ⟨va_cnB (host := "ModelTown") 3 hts gX1_setHands_X4_isWithin_n44 rfl rfl rfl hN.2.2.1 (hts (.initialized RX4) (by decide +kernel)) (by decide +kernel) ⟨(Nat.le_of_ble_eq_true rfl), (Nat.le_of_ble_eq_true rfl)⟩, hts (.static yX4_isWithin) (by decide +kernel), trivial⟩ (K_pre0 hN hK) rfl rfl hl.1 rfl (lv_room (Nat.le_of_ble_eq_true rfl)) dX1_setHands_5 ⟨Nat.zero_le _, Nat.zero_le _⟩) hP hS hA (fun r1 _ H locs hw1 hP hS => ?_)
  rcases hw1 with ⟨rfl, hw1⟩ | ⟨rfl, hw1⟩
  · skip
    refine lv_if_ne (tgt := 14) hx hb dX1_setHands_8 (by decide) (fun _ => ?_) (fun c2 => absurd c2 (by decide))
    refine lv_aload_n hx hb dX1_setHands_14 rfl (lv_at hl 0 rfl) ?_
    refine va_get (D := D) (ci := 1) (v := .int hd) (C := RX1) (T := TX1) (N := 16) hx hb hts inX1_setHands hown hK hP 0 rfl rfl 2 (by decide) fl19 (fun _ h9 => h9) rfl dX1_setHands_15 ?_
    refine lv_istore_n (lv' := [(2, .int hd), (0, .ref h1), (1, .int x)]) hx hb dX1_setHands_18 rfl hl (by decide) rfl (fun ls hl => ?_)
    refine lv_aload_n hx hb dX1_setHands_19 rfl (lv_at hl 1 rfl) ?_
    refine lv_iload_n hx hb dX1_setHands_20 rfl (lv_at hl 2 rfl) ?_
    refine va_put (D := D) (ci := 1) (v := .int x) (ty := .int) (C := RX1) (T := TX1) (N := 16) hx hb hts inX1_setHands tyX1 tyX1_ok nmX1 hown hK hP hD hS 0 rfl rfl 2 (by decide) fl19 (fun _ h9 => h9) rfl (by decide +kernel) rfl rfl (Nat.le_of_ble_eq_true rfl) dX1_setHands_21 (fun H locs hP hD hS => ?_)
    have hP : va_P D vwCl (wX1 cI cZ cG h1 a1 x (nI wk) (nI nw) ll lw lx lk fa fz ho sd hw lo ti tl tt) H := hP
    have hD : va_D A (wX1 cI cZ cG h1 a1 x (nI wk) (nI nw) ll lw lx lk fa fz ho sd hw lo ti tl tt) := hD
    refine lv_iload_n hx hb dX1_setHands_24 rfl (lv_at hl 0 rfl) ?_
    exact K_iret (wf := (fun (u : Int32) => wX1 cI cZ cG h1 a1 u (nI wk) (nI nw) ll lw lx lk fa fz ho sd hw lo ti tl tt)) x hx hb hr hlocks hP hK hD hS dX1_setHands_25 (by simp [if_true, hw1])
  · skip
    refine lv_if_ne (tgt := 14) hx hb dX1_setHands_8 (by decide) (fun c3 => absurd c3 (by decide)) (fun _ => ?_)
    refine lv_bipush (v := (-2)) hx hb dX1_setHands_11 (by decide) ?_
    exact K_iret (wf := (fun (u : Int32) => wX1 cI cZ cG h1 a1 u (nI wk) (nI nw) ll lw lx lk fa fz ho sd hw lo ti tl tt)) hd hx hb hr hlocks hP hK hD hS dX1_setHands_13 (by simp [if_true, hw1])
theorem inX1_setFrost : ∀ w ∈ wsX10, w ∈ wsX1_setFrost := by decide +kernel
set_option maxHeartbeats 8000000 in
set_option maxRecDepth 100000 in
/-- setFrost -/
theorem c_X1_setFrost (l : Launch) (D : va_G) (cI cZ cG : ClassId) (h1 : Nat) (a1 : Nat → Nat) (sz : Nat) (hd : Int32) (wk : Nat) (nw : Nat) (ll : Int32) (lw : Int32) (lx : Int32) (lk : Int32) (fa : Nat → Int32) (fz : Nat → Int32) (ho : Nat → Int32) (sd : Nat → Int32) (hw : Nat → Int32) (lo : Nat → Int32) (ti : Nat → Int32) (tl : Nat → Int32) (tt : Nat → Int32) (x : Int32) (z : Int32) (hwk : wk ≤ 200) (hnw : nw ≤ 24) (hfz : ∀ t, fz t = 0 ∨ fz t = 1) (hz01 : z = 0 ∨ z = 1) : Met l yX1_setFrost wsX1_setFrost ({ frames := 1, cells := 0, slots := 0, locals := 22 } : Room) (va_Pc [.ref h1, .int x, .int z] (PB D (tyL cI cZ cG) (wX1 cI cZ cG h1 a1 hd (nI wk) (nI nw) ll lw lx lk fa fz ho sd hw lo ti tl tt) sz)) (va_Qi (fun (r : Int32) (u : Nat → Int32) => r = rFrost wk fz x ∧ u = if inR x 0 199 = true ∧ wk ≤ x.toNatClampNeg then upd fz x.toNatClampNeg z else fz) (fun u => QB D (tyL cI cZ cG) (va_A (wX1 cI cZ cG h1 a1 hd (nI wk) (nI nw) ll lw lx lk fa fz ho sd hw lo ti tl tt) sz) ((fun (u : (Nat → Int32)) => wX1 cI cZ cG h1 a1 hd (nI wk) (nI nw) ll lw lx lk fa u ho sd hw lo ti tl tt) u)) (va_A (wX1 cI cZ cG h1 a1 hd (nI wk) (nI nw) ll lw lx lk fa fz ho sd hw lo ti tl tt) sz)) 0 0 (va_A (wX1 cI cZ cG h1 a1 hd (nI wk) (nI nw) ll lw lx lk fa fz ho sd hw lo ti tl tt) sz) := by
  refine K_start (cc := cX1_setFrost) (maxL := 4) (ret := some .int) (Qc := fun A => va_Qi (fun (r : Int32) (u : Nat → Int32) => r = rFrost wk fz x ∧ u = if inR x 0 199 = true ∧ wk ≤ x.toNatClampNeg then upd fz x.toNatClampNeg z else fz) (fun u => QB D (tyL cI cZ cG) A ((fun (u : (Nat → Int32)) => wX1 cI cZ cG h1 a1 hd (nI wk) (nI nw) ll lw lx lk fa u ho sd hw lo ti tl tt) u)) A) (by decide) rfl (Nat.le_of_ble_eq_true rfl) ?_
  intro p e s m below meth c ls A hx hb hml hr hts hown hlocks hin hN hP hK hD hA hS hl hsz
  have hl : lv_has ls 4 [(0, .ref h1), (1, .int x), (2, .int z)] := hl
  have fl51 := hts (.fieldLink RX1 51 "ModelTown$Paint" "week" "I") (by decide +kernel)
  have fl15 := hts (.fieldLink RX1 15 "ModelTown$Paint" "frosts" "[Z") (by decide +kernel)
  refine lv_iload_n hx hb dX1_setFrost_0 rfl (lv_at hl 1 rfl) ?_
  refine lv_iconst (v := 0) hx hb dX1_setFrost_1 (by decide) ?_
  refine lv_sipush (v := 199) hx hb dX1_setFrost_2 (by decide) ?_
  refine K_none (va_runSN (As := [.int x, .int 0, .int 199]) (rest := []) ⟨hx, hb, hml, hown, hts⟩ (c_X4_isWithin l D cI cZ cG _ x 0 199) ⟨va_cnB (host := "ModelTown") 3 hts gX1_setFrost_X4_isWithin_n44 rfl rfl rfl hN.2.2.1 (hts (.initialized RX4) (by decide +kernel)) (by decide +kernel) ⟨(Nat.le_of_ble_eq_true rfl), (Nat.le_of_ble_eq_true rfl)⟩, hts (.static yX4_isWithin) (by decide +kernel), trivial⟩ (K_pre0 hN hK) rfl rfl hl.1 rfl (lv_room (Nat.le_of_ble_eq_true rfl)) dX1_setFrost_5 ⟨Nat.zero_le _, Nat.zero_le _⟩) hP hS hA (fun r1 _ H locs hw1 hP hS => ?_)
  rcases hw1 with ⟨rfl, hw1⟩ | ⟨rfl, hw1⟩
  · obtain ⟨j0, hj01, hj02, rfl⟩ := inR_nat1 (a := 0) (b := 199) hw1 (by decide) (by decide)
    have hcj0 : (nI j0).toNatClampNeg = j0 := nI_clamp (by omega)
    refine lv_if_ne (tgt := 14) hx hb dX1_setFrost_8 (by decide) (fun _ => ?_) (fun c2 => absurd c2 (by decide))
    refine lv_iload_n hx hb dX1_setFrost_14 rfl (lv_at hl 1 rfl) ?_
    refine lv_aload_n hx hb dX1_setFrost_15 rfl (lv_at hl 0 rfl) ?_
    refine va_get (D := D) (ci := 1) (v := .int (nI wk)) (C := RX1) (T := TX1) (N := 16) hx hb hts inX1_setFrost hown hK hP 0 rfl rfl 3 (by decide) fl51 (fun _ h9 => h9) rfl dX1_setFrost_16 ?_
    refine lv_icmp_ge (tgt := 25) hx hb dX1_setFrost_19 (by decide) (fun c3 => ?_) (fun c3 => ?_)
    · have c3 : wk ≤ j0 := (nI_leI (a := wk) (b := j0) (by omega) (by omega)).mp c3
      refine lv_aload_n hx hb dX1_setFrost_25 rfl (lv_at hl 0 rfl) ?_
      refine va_get (D := D) (ci := 1) (v := .ref (a1 1)) (C := RX1) (T := TX1) (N := 16) hx hb hts inX1_setFrost hown hK hP 0 rfl rfl 1 (by decide) fl15 (fun _ h9 => h9) rfl dX1_setFrost_26 ?_
      refine lv_iload_n hx hb dX1_setFrost_29 rfl (lv_at hl 1 rfl) ?_
      refine K_zald hx hb hK hP 2 1 rfl rfl j0 (by omega) (Nat.le_of_ble_eq_true rfl) dX1_setFrost_30 ?_
      refine K_none (va_runSN (As := [.int (fz j0)]) (rest := []) ⟨hx, hb, hml, hown, hts⟩ (c_X4_oneIf l D cI cZ cG _ (fz j0) (hfz j0)) ⟨va_cnB (host := "ModelTown") 1 hts gX1_setFrost_X4_oneIf_n54 rfl rfl rfl hN.2.2.2.1 (hts (.initialized RX4) (by decide +kernel)) (by decide +kernel) ⟨(Nat.le_of_ble_eq_true rfl), (Nat.le_of_ble_eq_true rfl)⟩, hts (.static yX4_oneIf) (by decide +kernel), trivial⟩ (K_pre0 hN hK) rfl rfl hl.1 rfl (lv_room (Nat.le_of_ble_eq_true rfl)) dX1_setFrost_31 ⟨Nat.zero_le _, Nat.zero_le _⟩) hP hS hA (fun r4 _ H locs hw4 hP hS => ?_)
      obtain rfl := hw4
      refine lv_istore_n (lv' := [(3, .int (fz j0)), (0, .ref h1), (1, .int (nI j0)), (2, .int z)]) hx hb dX1_setFrost_34 rfl hl (by decide) rfl (fun ls hl => ?_)
      refine lv_aload_n hx hb dX1_setFrost_35 rfl (lv_at hl 1 rfl) ?_
      refine va_get (D := D) (ci := 1) (v := .ref (a1 1)) (C := RX1) (T := TX1) (N := 16) hx hb hts inX1_setFrost hown hK hP 0 rfl rfl 1 (by decide) fl15 (fun _ h9 => h9) rfl dX1_setFrost_36 ?_
      refine lv_iload_n hx hb dX1_setFrost_39 rfl (lv_at hl 2 rfl) ?_
      refine lv_iload_n hx hb dX1_setFrost_40 rfl (lv_at hl 3 rfl) ?_
      refine K_zast hx hb hK hP hD hS 2 1 rfl rfl j0 (by omega) (Nat.le_of_ble_eq_true rfl) (nar01 hz01) dX1_setFrost_41 (fun H locs hP hD hS => ?_)
      have hP : va_P D vwCl (wX1 cI cZ cG h1 a1 hd (nI wk) (nI nw) ll lw lx lk fa (upd fz j0 z) ho sd hw lo ti tl tt) H := hP
      have hD : va_D A (wX1 cI cZ cG h1 a1 hd (nI wk) (nI nw) ll lw lx lk fa (upd fz j0 z) ho sd hw lo ti tl tt) := hD
      refine lv_iload_n hx hb dX1_setFrost_42 rfl (lv_at hl 0 rfl) ?_
      exact K_iret (wf := (fun (u : (Nat → Int32)) => wX1 cI cZ cG h1 a1 hd (nI wk) (nI nw) ll lw lx lk fa u ho sd hw lo ti tl tt)) (upd fz j0 z) hx hb hr hlocks hP hK hD hS dX1_setFrost_43 (by simp [rFrost, hw1, hcj0, c3])
    · have c3 : ¬ wk ≤ j0 := fun hq => c3 ((nI_leI (a := wk) (b := j0) (by omega) (by omega)).mpr hq)
      refine lv_bipush (v := (-5)) hx hb dX1_setFrost_22 (by decide) ?_
      exact K_iret (wf := (fun (u : (Nat → Int32)) => wX1 cI cZ cG h1 a1 hd (nI wk) (nI nw) ll lw lx lk fa u ho sd hw lo ti tl tt)) fz hx hb hr hlocks hP hK hD hS dX1_setFrost_24 (by simp [rFrost, hw1, hcj0, c3])
  · skip
    refine lv_if_ne (tgt := 14) hx hb dX1_setFrost_8 (by decide) (fun c5 => absurd c5 (by decide)) (fun _ => ?_)
    refine lv_bipush (v := (-2)) hx hb dX1_setFrost_11 (by decide) ?_
    exact K_iret (wf := (fun (u : (Nat → Int32)) => wX1 cI cZ cG h1 a1 hd (nI wk) (nI nw) ll lw lx lk fa u ho sd hw lo ti tl tt)) fz hx hb hr hlocks hP hK hD hS dX1_setFrost_13 (by simp [rFrost, hw1])
theorem inX1_goWeek : ∀ w ∈ wsX10, w ∈ wsX1_goWeek := by decide +kernel
set_option maxHeartbeats 8000000 in
set_option maxRecDepth 100000 in
/-- goWeek -/
theorem c_X1_goWeek (l : Launch) (D : va_G) (cI cZ cG : ClassId) (h1 : Nat) (a1 : Nat → Nat) (sz : Nat) (hd : Int32) (wk : Nat) (nw : Nat) (ll : Int32) (lw : Int32) (lx : Int32) (lk : Int32) (fa : Nat → Int32) (fz : Nat → Int32) (ho : Nat → Int32) (sd : Nat → Int32) (hw : Nat → Int32) (lo : Nat → Int32) (ti : Nat → Int32) (tl : Nat → Int32) (tt : Nat → Int32) (hwk : wk ≤ 200) (hnw : nw ≤ 24) (hsd : ∀ k, k < nw → ∃ j, j < 4 ∧ sd k = nI j) : Met l yX1_goWeek wsX1_goWeek ({ frames := 3, cells := 0, slots := 0, locals := 77 } : Room) (va_Pc [.ref h1] (PB D (tyL cI cZ cG) (wX1 cI cZ cG h1 a1 hd (nI wk) (nI nw) ll lw lx lk fa fz ho sd hw lo ti tl tt) sz)) (va_Qi (fun (r : Int32) (u : (Nat → Int32) × (Nat → Int32) × Int32 × Nat) => r = (if wk = 200 then -3 else nI (wkQ fz hw nw wk hd lo ti).1) ∧ u = if wk = 200 then (lo, ti, lk, wk) else (fF fa sd (wkQ fz hw nw wk hd lo ti).2.1 nw, (wkQ fz hw nw wk hd lo ti).2.2.1, mnO lk (wkQ fz hw nw wk hd lo ti).2.2.2, wk + 1)) (fun u => QB D (tyL cI cZ cG) (va_A (wX1 cI cZ cG h1 a1 hd (nI wk) (nI nw) ll lw lx lk fa fz ho sd hw lo ti tl tt) sz) ((fun (u : (Nat → Int32) × (Nat → Int32) × Int32 × Nat) => wX1 cI cZ cG h1 a1 hd (nI u.2.2.2) (nI nw) ll lw lx u.2.2.1 fa fz ho sd hw u.1 u.2.1 tl tt) u)) (va_A (wX1 cI cZ cG h1 a1 hd (nI wk) (nI nw) ll lw lx lk fa fz ho sd hw lo ti tl tt) sz)) 0 0 (va_A (wX1 cI cZ cG h1 a1 hd (nI wk) (nI nw) ll lw lx lk fa fz ho sd hw lo ti tl tt) sz) := by
  refine K_start (cc := cX1_goWeek) (maxL := 2) (ret := some .int) (Qc := fun A => va_Qi (fun (r : Int32) (u : (Nat → Int32) × (Nat → Int32) × Int32 × Nat) => r = (if wk = 200 then -3 else nI (wkQ fz hw nw wk hd lo ti).1) ∧ u = if wk = 200 then (lo, ti, lk, wk) else (fF fa sd (wkQ fz hw nw wk hd lo ti).2.1 nw, (wkQ fz hw nw wk hd lo ti).2.2.1, mnO lk (wkQ fz hw nw wk hd lo ti).2.2.2, wk + 1)) (fun u => QB D (tyL cI cZ cG) A ((fun (u : (Nat → Int32) × (Nat → Int32) × Int32 × Nat) => wX1 cI cZ cG h1 a1 hd (nI u.2.2.2) (nI nw) ll lw lx u.2.2.1 fa fz ho sd hw u.1 u.2.1 tl tt) u)) A) (by decide) rfl (Nat.le_of_ble_eq_true rfl) ?_
  intro p e s m below meth c ls A hx hb hml hr hts hown hlocks hin hN hP hK hD hA hS hl hsz
  have hl : lv_has ls 2 [(0, .ref h1)] := hl
  have fl51 := hts (.fieldLink RX1 51 "ModelTown$Paint" "week" "I") (by decide +kernel)
  have fl19 := hts (.fieldLink RX1 19 "ModelTown$Paint" "hands" "I") (by decide +kernel)
  have fl32 := hts (.fieldLink RX1 32 "ModelTown$Paint" "looks" "[I") (by decide +kernel)
  have fl35 := hts (.fieldLink RX1 35 "ModelTown$Paint" "timesPainted" "[I") (by decide +kernel)
  refine lv_aload_n hx hb dX1_goWeek_0 rfl (lv_at hl 0 rfl) ?_
  refine va_get (D := D) (ci := 1) (v := .int (nI wk)) (C := RX1) (T := TX1) (N := 16) hx hb hts inX1_goWeek hown hK hP 0 rfl rfl 3 (by decide) fl51 (fun _ h9 => h9) rfl dX1_goWeek_1 ?_
  refine lv_sipush (v := 200) hx hb dX1_goWeek_4 (by decide) ?_
  refine lv_icmp_lt (tgt := 13) hx hb dX1_goWeek_7 (by decide) (fun c1 => ?_) (fun c1 => ?_)
  · have c1 : wk < 200 := (nI_ltI (a := wk) (b := 200) (by omega) (by omega)).mp c1
    have c1 : ¬ wk = 200 := by omega
    refine lv_aload_n hx hb dX1_goWeek_13 rfl (lv_at hl 0 rfl) ?_
    refine lv_aload_n hx hb dX1_goWeek_14 rfl (lv_at hl 0 rfl) ?_
    refine va_get (D := D) (ci := 1) (v := .int (nI wk)) (C := RX1) (T := TX1) (N := 16) hx hb hts inX1_goWeek hown hK hP 0 rfl rfl 3 (by decide) fl51 (fun _ h9 => h9) rfl dX1_goWeek_15 ?_
    refine lv_aload_n hx hb dX1_goWeek_18 rfl (lv_at hl 0 rfl) ?_
    refine va_get (D := D) (ci := 1) (v := .int hd) (C := RX1) (T := TX1) (N := 16) hx hb hts inX1_goWeek hown hK hP 0 rfl rfl 2 (by decide) fl19 (fun _ h9 => h9) rfl dX1_goWeek_19 ?_
    refine lv_aload_n hx hb dX1_goWeek_22 rfl (lv_at hl 0 rfl) ?_
    refine va_get (D := D) (ci := 1) (v := .ref (a1 5)) (C := RX1) (T := TX1) (N := 16) hx hb hts inX1_goWeek hown hK hP 0 rfl rfl 7 (by decide) fl32 (fun _ h9 => h9) rfl dX1_goWeek_23 ?_
    refine lv_aload_n hx hb dX1_goWeek_26 rfl (lv_at hl 0 rfl) ?_
    refine va_get (D := D) (ci := 1) (v := .ref (a1 6)) (C := RX1) (T := TX1) (N := 16) hx hb hts inX1_goWeek hown hK hP 0 rfl rfl 8 (by decide) fl35 (fun _ h9 => h9) rfl dX1_goWeek_27 ?_
    refine K_same (va_runV (As := [.int (nI wk), .int hd, .ref (a1 5), .ref (a1 6)]) (rest := []) ⟨hx, hb, hml, hown, hts⟩ (c_X1_passWeek l D cI cZ cG h1 a1 _ hd wk nw ll lw lx lk fa fz ho sd hw lo ti tl tt wk hd hwk hnw hsd (by omega)) (cwV 4 hts gX1_goWeek_X1_passWeek rfl rfl rfl (by decide +kernel) ⟨(Nat.le_of_ble_eq_true rfl), (Nat.le_of_ble_eq_true rfl)⟩) ⟨PB_blind, va_recv hK hP (ci := 1) (q0 := 0) rfl rfl, (K_preS hN hK hP hD).2⟩ rfl rfl hl.1 rfl (lv_room (Nat.le_of_ble_eq_true rfl)) dX1_goWeek_30 ⟨Nat.zero_le _, Nat.zero_le _⟩) hD hS hA (fun r2 u H locs hw2 hP hD hS => ?_)
    obtain ⟨L22, T22, k22⟩ := u
    try dsimp only at hw2
    have hr2 := hw2.1
    have hu2 := hw2.2
    have hL22 := (Prod.mk.inj hu2).1
    have hT22 := (Prod.mk.inj (Prod.mk.inj hu2).2).1
    have hk22 := (Prod.mk.inj (Prod.mk.inj hu2).2).2
    have hP : va_P D vwCl (wX1 cI cZ cG h1 a1 hd (nI wk) (nI nw) ll lw lx k22 fa fz ho sd hw L22 T22 tl tt) H := hP
    have hD : va_D A (wX1 cI cZ cG h1 a1 hd (nI wk) (nI nw) ll lw lx k22 fa fz ho sd hw L22 T22 tl tt) := hD
    refine lv_istore_n (lv' := [(1, .int r2), (0, .ref h1)]) hx hb dX1_goWeek_33 rfl hl (by decide) rfl (fun ls hl => ?_)
    refine lv_aload_n hx hb dX1_goWeek_34 rfl (lv_at hl 1 rfl) ?_
    refine lv_dup hx hb dX1_goWeek_35 rfl ?_
    refine va_get (D := D) (ci := 1) (v := .int (nI wk)) (C := RX1) (T := TX1) (N := 16) hx hb hts inX1_goWeek hown hK hP 0 rfl rfl 3 (by decide) fl51 (fun _ h9 => h9) rfl dX1_goWeek_36 ?_
    refine lv_iconst (v := 1) hx hb dX1_goWeek_39 (by decide) ?_
    refine lv_iadd hx hb dX1_goWeek_40 ?_
    refine lv_topi (fun z3 ez3 => ?_)
    obtain rfl : z3 = nI (wk + 1) := ez3.trans (nI_add wk 1)
    refine va_put (D := D) (ci := 1) (v := .int (nI (wk + 1))) (ty := .int) (C := RX1) (T := TX1) (N := 16) hx hb hts inX1_goWeek tyX1 tyX1_ok nmX1 hown hK hP hD hS 0 rfl rfl 3 (by decide) fl51 (fun _ h9 => h9) rfl (by decide +kernel) rfl rfl (Nat.le_of_ble_eq_true rfl) dX1_goWeek_41 (fun H locs hP hD hS => ?_)
    have hP : va_P D vwCl (wX1 cI cZ cG h1 a1 hd (nI (wk + 1)) (nI nw) ll lw lx k22 fa fz ho sd hw L22 T22 tl tt) H := hP
    have hD : va_D A (wX1 cI cZ cG h1 a1 hd (nI (wk + 1)) (nI nw) ll lw lx k22 fa fz ho sd hw L22 T22 tl tt) := hD
    refine lv_iload_n hx hb dX1_goWeek_44 rfl (lv_at hl 0 rfl) ?_
    exact K_iret (wf := (fun (u : (Nat → Int32) × (Nat → Int32) × Int32 × Nat) => wX1 cI cZ cG h1 a1 hd (nI u.2.2.2) (nI nw) ll lw lx u.2.2.1 fa fz ho sd hw u.1 u.2.1 tl tt)) (L22, T22, k22, wk + 1) hx hb hr hlocks hP hK hD hS dX1_goWeek_45 (by rw [if_neg c1, if_neg c1]; exact ⟨hr2, by rw [hL22, hT22, hk22]⟩)
  · have c1 : ¬ wk < 200 := fun hq => c1 ((nI_ltI (a := wk) (b := 200) (by omega) (by omega)).mpr hq)
    have c1 : wk = 200 := by omega
    refine lv_bipush (v := (-3)) hx hb dX1_goWeek_10 (by decide) ?_
    exact K_iret (wf := (fun (u : (Nat → Int32) × (Nat → Int32) × Int32 × Nat) => wX1 cI cZ cG h1 a1 hd (nI u.2.2.2) (nI nw) ll lw lx u.2.2.1 fa fz ho sd hw u.1 u.2.1 tl tt)) (lo, ti, lk, wk) hx hb hr hlocks hP hK hD hS dX1_goWeek_12 (by rw [if_pos c1, if_pos c1]; exact ⟨rfl, rfl⟩)
theorem inX1_fewestHands : ∀ w ∈ wsX10, w ∈ wsX1_fewestHands := by decide +kernel
set_option maxHeartbeats 8000000 in
set_option maxRecDepth 100000 in
/-- fewestHands -/
theorem c_X1_fewestHands (l : Launch) (D : va_G) (cI cZ cG : ClassId) (h1 : Nat) (a1 : Nat → Nat) (sz : Nat) (hd : Int32) (wk : Nat) (nw : Nat) (ll : Int32) (lw : Int32) (lx : Int32) (lk : Int32) (fa : Nat → Int32) (fz : Nat → Int32) (ho : Nat → Int32) (sd : Nat → Int32) (hw : Nat → Int32) (lo : Nat → Int32) (ti : Nat → Int32) (tl : Nat → Int32) (tt : Nat → Int32) (x : Int32) (look : Int32) (hwk : wk ≤ 200) (hnw : nw ≤ 24) (hsd : ∀ k, k < nw → ∃ j, j < 4 ∧ sd k = nI j) (hhw : okHW nw hw) : Met l yX1_fewestHands wsX1_fewestHands ({ frames := 4, cells := 0, slots := 0, locals := 101 } : Room) (va_Pc [.ref h1, .int x, .int look] (PB D (tyL cI cZ cG) (wX1 cI cZ cG h1 a1 hd (nI wk) (nI nw) ll lw lx lk fa fz ho sd hw lo ti tl tt) sz)) (va_Qi (fun (r : Int32) (_ : (Nat → Int32) × (Nat → Int32) × Int32 × Int32 × Int32 × Int32) => if inR x 1 52 = true ∧ inR look 0 100 = true then (if wk + x.toNatClampNeg ≤ 200 then (if nw = 0 then r = -6 else fst (fun h => look ≤ lls fa fz sd hw nw wk look lo x.toNatClampNeg h) 0 501 r) else r = -3) else r = -2) (fun u => QB D (tyL cI cZ cG) (va_A (wX1 cI cZ cG h1 a1 hd (nI wk) (nI nw) ll lw lx lk fa fz ho sd hw lo ti tl tt) sz) ((fun (u : (Nat → Int32) × (Nat → Int32) × Int32 × Int32 × Int32 × Int32) => wX1 cI cZ cG h1 a1 hd (nI wk) (nI nw) u.2.2.1 u.2.2.2.1 u.2.2.2.2.1 u.2.2.2.2.2 fa fz ho sd hw lo ti u.1 u.2.1) u)) (va_A (wX1 cI cZ cG h1 a1 hd (nI wk) (nI nw) ll lw lx lk fa fz ho sd hw lo ti tl tt) sz)) 0 0 (va_A (wX1 cI cZ cG h1 a1 hd (nI wk) (nI nw) ll lw lx lk fa fz ho sd hw lo ti tl tt) sz) := by
  refine K_start (cc := cX1_fewestHands) (maxL := 5) (ret := some .int) (Qc := fun A => va_Qi (fun (r : Int32) (_ : (Nat → Int32) × (Nat → Int32) × Int32 × Int32 × Int32 × Int32) => if inR x 1 52 = true ∧ inR look 0 100 = true then (if wk + x.toNatClampNeg ≤ 200 then (if nw = 0 then r = -6 else fst (fun h => look ≤ lls fa fz sd hw nw wk look lo x.toNatClampNeg h) 0 501 r) else r = -3) else r = -2) (fun u => QB D (tyL cI cZ cG) A ((fun (u : (Nat → Int32) × (Nat → Int32) × Int32 × Int32 × Int32 × Int32) => wX1 cI cZ cG h1 a1 hd (nI wk) (nI nw) u.2.2.1 u.2.2.2.1 u.2.2.2.2.1 u.2.2.2.2.2 fa fz ho sd hw lo ti u.1 u.2.1) u)) A) (by decide) rfl (Nat.le_of_ble_eq_true rfl) ?_
  intro p e s m below meth c ls A hx hb hml hr hts hown hlocks hin hN hP hK hD hA hS hl hsz
  have hl : lv_has ls 5 [(0, .ref h1), (1, .int x), (2, .int look)] := hl
  have fl51 := hts (.fieldLink RX1 51 "ModelTown$Paint" "week" "I") (by decide +kernel)
  have fl48 := hts (.fieldLink RX1 48 "ModelTown$Paint" "walls" "I") (by decide +kernel)
  have fl66 := hts (.fieldLink RX1 66 "ModelTown$Paint" "leastLook" "I") (by decide +kernel)
  have fl75 := hts (.fieldLink RX1 75 "ModelTown$Paint" "hoursLacking" "I") (by decide +kernel)
  refine lv_iload_n hx hb dX1_fewestHands_0 rfl (lv_at hl 1 rfl) ?_
  refine lv_iconst (v := 1) hx hb dX1_fewestHands_1 (by decide) ?_
  refine lv_bipush (v := 52) hx hb dX1_fewestHands_2 (by decide) ?_
  refine K_none (va_runSN (As := [.int x, .int 1, .int 52]) (rest := []) ⟨hx, hb, hml, hown, hts⟩ (c_X4_isWithin l D cI cZ cG _ x 1 52) ⟨va_cnB (host := "ModelTown") 3 hts gX1_fewestHands_X4_isWithin_n44 rfl rfl rfl hN.2.2.1 (hts (.initialized RX4) (by decide +kernel)) (by decide +kernel) ⟨(Nat.le_of_ble_eq_true rfl), (Nat.le_of_ble_eq_true rfl)⟩, hts (.static yX4_isWithin) (by decide +kernel), trivial⟩ (K_pre0 hN hK) rfl rfl hl.1 rfl (lv_room (Nat.le_of_ble_eq_true rfl)) dX1_fewestHands_4 ⟨Nat.zero_le _, Nat.zero_le _⟩) hP hS hA (fun r1 _ H locs hw1 hP hS => ?_)
  rcases hw1 with ⟨rfl, hw1⟩ | ⟨rfl, hw1⟩
  · obtain ⟨n, hn1, hn2, rfl⟩ := inR_nat1 (a := 1) (b := 52) hw1 (by decide) (by decide)
    have hcn : (nI n).toNatClampNeg = n := nI_clamp (by omega)
    refine lv_if_eq (tgt := 20) hx hb dX1_fewestHands_7 (by decide) (fun c2 => absurd c2 (by decide)) (fun _ => ?_)
    refine lv_iload_n hx hb dX1_fewestHands_10 rfl (lv_at hl 2 rfl) ?_
    refine lv_iconst (v := 0) hx hb dX1_fewestHands_11 (by decide) ?_
    refine lv_bipush (v := 100) hx hb dX1_fewestHands_12 (by decide) ?_
    refine K_none (va_runSN (As := [.int look, .int 0, .int 100]) (rest := []) ⟨hx, hb, hml, hown, hts⟩ (c_X4_isWithin l D cI cZ cG _ look 0 100) ⟨va_cnB (host := "ModelTown") 3 hts gX1_fewestHands_X4_isWithin_n44 rfl rfl rfl hN.2.2.1 (hts (.initialized RX4) (by decide +kernel)) (by decide +kernel) ⟨(Nat.le_of_ble_eq_true rfl), (Nat.le_of_ble_eq_true rfl)⟩, hts (.static yX4_isWithin) (by decide +kernel), trivial⟩ (K_pre0 hN hK) rfl rfl hl.1 rfl (lv_room (Nat.le_of_ble_eq_true rfl)) dX1_fewestHands_14 ⟨Nat.zero_le _, Nat.zero_le _⟩) hP hS hA (fun r3 _ H locs hw3 hP hS => ?_)
    rcases hw3 with ⟨rfl, hw3⟩ | ⟨rfl, hw3⟩
    · skip
      refine lv_if_ne (tgt := 23) hx hb dX1_fewestHands_17 (by decide) (fun _ => ?_) (fun c4 => absurd c4 (by decide))
      refine lv_aload_n hx hb dX1_fewestHands_23 rfl (lv_at hl 0 rfl) ?_
      refine va_get (D := D) (ci := 1) (v := .int (nI wk)) (C := RX1) (T := TX1) (N := 16) hx hb hts inX1_fewestHands hown hK hP 0 rfl rfl 3 (by decide) fl51 (fun _ h9 => h9) rfl dX1_fewestHands_24 ?_
      refine lv_iload_n hx hb dX1_fewestHands_27 rfl (lv_at hl 1 rfl) ?_
      refine lv_iadd hx hb dX1_fewestHands_28 ?_
      refine lv_topi (fun z5 ez5 => ?_)
      obtain rfl : z5 = nI (wk + n) := ez5.trans (nI_add wk n)
      refine lv_sipush (v := 200) hx hb dX1_fewestHands_29 (by decide) ?_
      refine lv_icmp_le (tgt := 38) hx hb dX1_fewestHands_32 (by decide) (fun c6 => ?_) (fun c6 => ?_)
      · have c6 : (wk + n) ≤ 200 := (nI_leI (a := wk + n) (b := 200) (by omega) (by omega)).mp c6
        skip
        refine lv_aload_n hx hb dX1_fewestHands_38 rfl (lv_at hl 0 rfl) ?_
        refine va_get (D := D) (ci := 1) (v := .int (nI nw)) (C := RX1) (T := TX1) (N := 16) hx hb hts inX1_fewestHands hown hK hP 0 rfl rfl 9 (by decide) fl48 (fun _ h9 => h9) rfl dX1_fewestHands_39 ?_
        refine lv_if_ne (tgt := 48) hx hb dX1_fewestHands_42 (by decide) (fun c7 => ?_) (fun c7 => ?_)
        · have c7 : ¬ nw = 0 := fun hq => c7 ((nI_eq (a := nw) (b := 0) (by omega) (by omega)).mpr hq)
          have c7 : ¬ nw = 0 := by omega
          refine lv_iconst (v := 0) hx hb dX1_fewestHands_48 (by decide) ?_
          refine lv_istore_n (lv' := [(3, .int 0), (0, .ref h1), (1, .int (nI n)), (2, .int look)]) hx hb dX1_fewestHands_49 rfl hl (by decide) rfl (fun ls hl => ?_)
          refine lv_iconst (v := 0) hx hb dX1_fewestHands_50 (by decide) ?_
          refine lv_istore (lv' := [(4, .int 0), (3, .int 0), (0, .ref h1), (1, .int (nI n)), (2, .int look)]) hx hb dX1_fewestHands_51 hl (by decide) rfl (fun ls hl => ?_)
          refine loopW8 (fun (h : Nat) (t : Nat) (L : Nat → Int32) (T : Nat → Int32) (y1 : Int32) (y2 : Int32) (y3 : Int32) (z0 : Int32) H locs ls => (h ≤ 501) ∧ (h ≤ t) ∧ (t ≤ 1002) ∧ (∀ j, j < t → j ≤ 500 → ¬ look ≤ lls fa fz sd hw nw wk look lo n j) ∧ va_P D vwCl (wX1 cI cZ cG h1 a1 hd (nI wk) (nI nw) y1 y2 y3 z0 fa fz ho sd hw lo ti L T) H ∧ va_D A (wX1 cI cZ cG h1 a1 hd (nI wk) (nI nw) y1 y2 y3 z0 fa fz ho sd hw lo ti L T) ∧ va_S A s.heap H locs ∧ lv_has ls 5 [(4, .int (nI h)), (3, .int (nI t)), (0, .ref h1), (1, .int (nI n)), (2, .int look)]) (fun (h : Nat) (t : Nat) (L : Nat → Int32) (T : Nat → Int32) (y1 : Int32) (y2 : Int32) (y3 : Int32) (z0 : Int32) => 501 - h) (fun h t L T y1 y2 y3 z0 H locs ls hI ih53 => ?_) 0 0 tl tt ll lw lx lk _ _ _ ⟨(by omega), (by omega), (by omega), (fun j hj => absurd hj (by omega)), hP, hD, hS, lv_sub hl [0, 1, 2, 3, 4] rfl⟩
          obtain ⟨h51, hht, ht1, hz, hP, hD, hS, hl⟩ := hI
          refine lv_iload hx hb dX1_fewestHands_53 (lv_at hl 0 rfl) ?_
          refine lv_sipush (v := 500) hx hb dX1_fewestHands_55 (by decide) ?_
          refine lv_icmp_gt (tgt := 100) hx hb dX1_fewestHands_58 (by decide) (fun c8 => ?_) (fun c8 => ?_)
          · have c8 : 500 < h := (nI_ltI (a := 500) (b := h) (by omega) (by omega)).mp c8
            refine lv_bipush (v := (-6)) hx hb dX1_fewestHands_100 (by decide) ?_
            exact K_iret (wf := (fun (u : (Nat → Int32) × (Nat → Int32) × Int32 × Int32 × Int32 × Int32) => wX1 cI cZ cG h1 a1 hd (nI wk) (nI nw) u.2.2.1 u.2.2.2.1 u.2.2.2.2.1 u.2.2.2.2.2 fa fz ho sd hw lo ti u.1 u.2.1)) (L, T, y1, y2, y3, z0) hx hb hr hlocks hP hK hD hS dX1_fewestHands_102 (by rw [if_pos ⟨hw1, hw3⟩, hcn, if_pos c6, if_neg c7]; exact Or.inr ⟨rfl, fun j _ j2 => hz j (by omega) (by omega)⟩)
          · have c8 : ¬ 500 < h := fun hq => c8 ((nI_ltI (a := 500) (b := h) (by omega) (by omega)).mpr hq)
            refine lv_iload hx hb dX1_fewestHands_61 (lv_at hl 0 rfl) ?_
            refine lv_iload_n hx hb dX1_fewestHands_63 rfl (lv_at hl 1 rfl) ?_
            refine lv_icmp_ne (tgt := 94) hx hb dX1_fewestHands_64 (by decide) (fun c9 => ?_) (fun c9 => ?_)
            · have c9 : ¬ h = t := fun hq => c9 ((nI_eq (a := h) (b := t) (by omega) (by omega)).mpr hq)
              refine lv_iinc (v := nI (h + 1)) (lv' := [(4, .int (nI (h + 1))), (3, .int (nI t)), (0, .ref h1), (1, .int (nI n)), (2, .int look)]) hx hb dX1_fewestHands_94 hl (k := 0) rfl (inc1 _) (by decide) rfl (fun ls hl => ?_)
              refine lv_goto (tgt := 53) hx hb dX1_fewestHands_97 (by decide) ?_
              exact ih53 (h + 1) t L T y1 y2 y3 z0 _ _ _ ⟨(by omega), (by omega), (by omega), hz, hP, hD, hS, lv_sub hl [0, 1, 2, 3, 4] rfl⟩ (by omega)
            · have c9 : h = t := (nI_eq (a := h) (b := t) (by omega) (by omega)).mp c9
              refine lv_aload_n hx hb dX1_fewestHands_67 rfl (lv_at hl 2 rfl) ?_
              refine lv_iload_n hx hb dX1_fewestHands_68 rfl (lv_at hl 3 rfl) ?_
              refine lv_iload hx hb dX1_fewestHands_69 (lv_at hl 0 rfl) ?_
              refine lv_iload_n hx hb dX1_fewestHands_71 rfl (lv_at hl 4 rfl) ?_
              refine K_samev (va_runV (As := [.int (nI n), .int (nI h), .int look]) (rest := []) ⟨hx, hb, hml, hown, hts⟩ (c_X1_foresee l D cI cZ cG h1 a1 _ hd wk nw y1 y2 y3 z0 fa fz ho sd hw lo ti L T n (nI h) look hwk hnw hsd (by omega)) (cwV 3 hts gX1_fewestHands_X1_foresee rfl rfl rfl (by decide +kernel) ⟨(Nat.le_of_ble_eq_true rfl), (Nat.le_of_ble_eq_true rfl)⟩) ⟨PB_blind, va_recv hK hP (ci := 1) (q0 := 0) rfl rfl, (K_preS hN hK hP hD).2⟩ rfl rfl hl.1 rfl (lv_room (Nat.le_of_ble_eq_true rfl)) dX1_fewestHands_72 ⟨Nat.zero_le _, Nat.zero_le _⟩) hD hS hA (fun u H locs hw10 hP hD hS => ?_)
              obtain ⟨tl210, tt210, x110, x210, x310, k210⟩ := u
              try dsimp only at hw10
              have hP : va_P D vwCl (wX1 cI cZ cG h1 a1 hd (nI wk) (nI nw) x110 x210 x310 k210 fa fz ho sd hw lo ti tl210 tt210) H := hP
              have hD : va_D A (wX1 cI cZ cG h1 a1 hd (nI wk) (nI nw) x110 x210 x310 k210 fa fz ho sd hw lo ti tl210 tt210) := hD
              obtain ⟨hy10, d, hd1, hd2, hz9, hsk⟩ := foreF hhw (by omega) hw10
              obtain rfl : k210 = nI d := hz9
              refine lv_aload_n hx hb dX1_fewestHands_75 rfl (lv_at hl 2 rfl) ?_
              refine va_get (D := D) (ci := 1) (v := .int x110) (C := RX1) (T := TX1) (N := 16) hx hb hts inX1_fewestHands hown hK hP 0 rfl rfl 12 (by decide) fl66 (fun _ h9 => h9) rfl dX1_fewestHands_76 ?_
              refine lv_iload_n hx hb dX1_fewestHands_79 rfl (lv_at hl 4 rfl) ?_
              refine lv_icmp_lt (tgt := 86) hx hb dX1_fewestHands_80 (by decide) (fun c11 => ?_) (fun c11 => ?_)
              · replace c11 := Int32.not_le.mpr c11
                refine lv_iload hx hb dX1_fewestHands_86 (lv_at hl 0 rfl) ?_
                refine lv_aload_n hx hb dX1_fewestHands_88 rfl (lv_at hl 2 rfl) ?_
                refine va_get (D := D) (ci := 1) (v := .int (nI d)) (C := RX1) (T := TX1) (N := 16) hx hb hts inX1_fewestHands hown hK hP 0 rfl rfl 15 (by decide) fl75 (fun _ h9 => h9) rfl dX1_fewestHands_89 ?_
                refine lv_iadd hx hb dX1_fewestHands_92 ?_
                refine lv_topi (fun z12 ez12 => ?_)
                obtain rfl : z12 = nI (h + d) := ez12.trans (nI_add h d)
                refine lv_istore_n (lv' := [(3, .int (nI (h + d))), (4, .int (nI h)), (0, .ref h1), (1, .int (nI n)), (2, .int look)]) hx hb dX1_fewestHands_93 rfl hl (by decide) rfl (fun ls hl => ?_)
                refine lv_iinc (v := nI (h + 1)) (lv' := [(4, .int (nI (h + 1))), (3, .int (nI (h + d))), (0, .ref h1), (1, .int (nI n)), (2, .int look)]) hx hb dX1_fewestHands_94 hl (k := 1) rfl (inc1 _) (by decide) rfl (fun ls hl => ?_)
                refine lv_goto (tgt := 53) hx hb dX1_fewestHands_97 (by decide) ?_
                exact ih53 (h + 1) (h + d) tl210 tt210 x110 x210 x310 (nI d) _ _ _ ⟨(by omega), (by omega), (by omega), (fun j hj j5 => by
                  rcases Nat.lt_or_ge j h with q9 | q9
                  · exact hz j (by omega) j5
                  · exact hsk c11 j q9 hj j5), hP, hD, hS, lv_sub hl [0, 1, 2, 3, 4] rfl⟩ (by omega)
              · replace c11 := Int32.not_lt.mp c11
                refine lv_iload hx hb dX1_fewestHands_83 (lv_at hl 0 rfl) ?_
                exact K_iret (wf := (fun (u : (Nat → Int32) × (Nat → Int32) × Int32 × Int32 × Int32 × Int32) => wX1 cI cZ cG h1 a1 hd (nI wk) (nI nw) u.2.2.1 u.2.2.2.1 u.2.2.2.2.1 u.2.2.2.2.2 fa fz ho sd hw lo ti u.1 u.2.1)) (tl210, tt210, x110, x210, x310, nI d) hx hb hr hlocks hP hK hD hS dX1_fewestHands_85 (by rw [if_pos ⟨hw1, hw3⟩, hcn, if_pos c6, if_neg c7]; exact Or.inl ⟨h, by omega, by omega, rfl, (by show look ≤ lls fa fz sd hw nw wk look lo n h; rw [← hy10]; exact c11), fun j _ j2 => hz j (by omega) (by omega)⟩)
        · have c7 : nw = 0 := (nI_eq (a := nw) (b := 0) (by omega) (by omega)).mp c7
          have c7 : nw = 0 := by omega
          refine lv_bipush (v := (-6)) hx hb dX1_fewestHands_45 (by decide) ?_
          exact K_iret (wf := (fun (u : (Nat → Int32) × (Nat → Int32) × Int32 × Int32 × Int32 × Int32) => wX1 cI cZ cG h1 a1 hd (nI wk) (nI nw) u.2.2.1 u.2.2.2.1 u.2.2.2.2.1 u.2.2.2.2.2 fa fz ho sd hw lo ti u.1 u.2.1)) (tl, tt, ll, lw, lx, lk) hx hb hr hlocks hP hK hD hS dX1_fewestHands_47 (by rw [if_pos ⟨hw1, hw3⟩, hcn, if_pos c6, if_pos c7])
      · have c6 : ¬ (wk + n) ≤ 200 := fun hq => c6 ((nI_leI (a := wk + n) (b := 200) (by omega) (by omega)).mpr hq)
        refine lv_bipush (v := (-3)) hx hb dX1_fewestHands_35 (by decide) ?_
        exact K_iret (wf := (fun (u : (Nat → Int32) × (Nat → Int32) × Int32 × Int32 × Int32 × Int32) => wX1 cI cZ cG h1 a1 hd (nI wk) (nI nw) u.2.2.1 u.2.2.2.1 u.2.2.2.2.1 u.2.2.2.2.2 fa fz ho sd hw lo ti u.1 u.2.1)) (tl, tt, ll, lw, lx, lk) hx hb hr hlocks hP hK hD hS dX1_fewestHands_37 (by rw [if_pos ⟨hw1, hw3⟩, hcn, if_neg c6])
    · skip
      refine lv_if_ne (tgt := 23) hx hb dX1_fewestHands_17 (by decide) (fun c13 => absurd c13 (by decide)) (fun _ => ?_)
      refine lv_bipush (v := (-2)) hx hb dX1_fewestHands_20 (by decide) ?_
      exact K_iret (wf := (fun (u : (Nat → Int32) × (Nat → Int32) × Int32 × Int32 × Int32 × Int32) => wX1 cI cZ cG h1 a1 hd (nI wk) (nI nw) u.2.2.1 u.2.2.2.1 u.2.2.2.2.1 u.2.2.2.2.2 fa fz ho sd hw lo ti u.1 u.2.1)) (tl, tt, ll, lw, lx, lk) hx hb hr hlocks hP hK hD hS dX1_fewestHands_22 (by rw [if_neg (by simp [hw1, hw3])])
  · skip
    refine lv_if_eq (tgt := 20) hx hb dX1_fewestHands_7 (by decide) (fun _ => ?_) (fun c14 => absurd c14 (by decide))
    refine lv_bipush (v := (-2)) hx hb dX1_fewestHands_20 (by decide) ?_
    exact K_iret (wf := (fun (u : (Nat → Int32) × (Nat → Int32) × Int32 × Int32 × Int32 × Int32) => wX1 cI cZ cG h1 a1 hd (nI wk) (nI nw) u.2.2.1 u.2.2.2.1 u.2.2.2.2.1 u.2.2.2.2.2 fa fz ho sd hw lo ti u.1 u.2.1)) (tl, tt, ll, lw, lx, lk) hx hb hr hlocks hP hK hD hS dX1_fewestHands_22 (by rw [if_neg (by simp [hw1])])

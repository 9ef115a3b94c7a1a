theorem inX5_fade : ∀ w ∈ wsX50, w ∈ wsX5_fade := by decide +kernel
set_option maxHeartbeats 8000000 in
set_option maxRecDepth 100000 in
/-- fade -/
theorem c_X5_fade (l : Launch) (D : va_G) (cI cZ cG : ClassId) (h5 : Nat) (a5 : Nat → Nat) (sz : Nat) (nr : Nat) (nt : Nat) (nc : Nat) (nw : Nat) (hd : Int32) (wk : Nat) (ng : Nat) (nT : Nat) (mi : Int32) (nf : Nat) (nn : Nat) (mru : Nat → Int32) (mth : Nat → Int32) (mcl : Nat → Int32) (mfa : Nat → Int32) (mwa : Nat → Int32) (mfz : Nat → Int32) (mbl : Nat → Int32) (mbk : Nat → Int32) (mtr : Nat → Int32) (mno : Nat → Int32) (mlo : Nat → Int32) (mip : Nat → Int32) (mto : Nat → Int32) (x : Int32) (v : Int32) (hnr : nr ≤ 6) (hnt : nt ≤ 20) (hnc : nc ≤ 60) (hnw : nw ≤ 24) (hwk : wk ≤ 200) (hng : ng ≤ 3) (hnT : nT ≤ 4) (hnf : nf ≤ 12) (hnn : nn ≤ 60) : Met l yX5_fade wsX5_fade ({ frames := 1, cells := 0, slots := 0, locals := 22 } : Room) (va_Pc [.ref h5, .int x, .int v] (PB D (tyL cI cZ cG) (wX5 cI cZ cG h5 a5 (nI nr) (nI nt) (nI nc) (nI nw) hd (nI wk) (nI ng) (nI nT) mi (nI nf) (nI nn) mru mth mcl mfa mwa mfz mbl mbk mtr mno mlo mip mto) sz)) (va_Qi (fun (r : Int32) (u : Nat → Int32) => r = (if inR x 0 3 = true ∧ inR v 0 40 = true then mfa x.toNatClampNeg else -2) ∧ u = if inR x 0 3 = true ∧ inR v 0 40 = true then upd mfa x.toNatClampNeg v else mfa) (fun u => QB D (tyL cI cZ cG) (va_A (wX5 cI cZ cG h5 a5 (nI nr) (nI nt) (nI nc) (nI nw) hd (nI wk) (nI ng) (nI nT) mi (nI nf) (nI nn) mru mth mcl mfa mwa mfz mbl mbk mtr mno mlo mip mto) sz) ((fun (u : (Nat → Int32)) => wX5 cI cZ cG h5 a5 (nI nr) (nI nt) (nI nc) (nI nw) hd (nI wk) (nI ng) (nI nT) mi (nI nf) (nI nn) mru mth mcl u mwa mfz mbl mbk mtr mno mlo mip mto) u)) (va_A (wX5 cI cZ cG h5 a5 (nI nr) (nI nt) (nI nc) (nI nw) hd (nI wk) (nI ng) (nI nT) mi (nI nf) (nI nn) mru mth mcl mfa mwa mfz mbl mbk mtr mno mlo mip mto) sz)) 0 0 (va_A (wX5 cI cZ cG h5 a5 (nI nr) (nI nt) (nI nc) (nI nw) hd (nI wk) (nI ng) (nI nT) mi (nI nf) (nI nn) mru mth mcl mfa mwa mfz mbl mbk mtr mno mlo mip mto) sz) := by
  refine K_start (cc := cX5_fade) (maxL := 4) (ret := some .int) (Qc := fun A => va_Qi (fun (r : Int32) (u : Nat → Int32) => r = (if inR x 0 3 = true ∧ inR v 0 40 = true then mfa x.toNatClampNeg else -2) ∧ u = if inR x 0 3 = true ∧ inR v 0 40 = true then upd mfa x.toNatClampNeg v else mfa) (fun u => QB D (tyL cI cZ cG) A ((fun (u : (Nat → Int32)) => wX5 cI cZ cG h5 a5 (nI nr) (nI nt) (nI nc) (nI nw) hd (nI wk) (nI ng) (nI nT) mi (nI nf) (nI nn) mru mth mcl u mwa mfz mbl mbk mtr mno mlo mip mto) u)) A) (by decide) rfl (Nat.le_of_ble_eq_true rfl) ?_
  intro p e s m below meth c ls A hx hb hml hr hts hown hlocks hin hN hP hK hD hA hS hl hsz
  have hl : lv_has ls 4 [(0, .ref h5), (1, .int x), (2, .int v)] := hl
  have fl19 := hts (.fieldLink RX5 19 "ModelTownModel" "fade" "[I") (by decide +kernel)
  refine lv_iload_n hx hb dX5_fade_0 rfl (lv_at hl 1 rfl) ?_
  refine lv_iconst (v := 0) hx hb dX5_fade_1 (by decide) ?_
  refine lv_iconst (v := 3) hx hb dX5_fade_2 (by decide) ?_
  refine K_none (va_runS (As := [.int x, .int 0, .int 3]) (rest := []) ⟨hx, hb, hml, hown, hts⟩ (c_X5_in l D cI cZ cG _ x 0 3) (va_cwS 3 hts gX5_fade_X5_in rfl rfl rfl (by decide +kernel) ⟨(Nat.le_of_ble_eq_true rfl), (Nat.le_of_ble_eq_true rfl)⟩) (K_pre0 hN hK) rfl rfl hl.1 rfl (lv_room (Nat.le_of_ble_eq_true rfl)) dX5_fade_3 ⟨Nat.zero_le _, Nat.zero_le _⟩) hP hS hA (fun r1 _ H locs hw1 hP hS => ?_)
  rcases hw1 with ⟨rfl, hw1⟩ | ⟨rfl, hw1⟩
  · obtain ⟨j0, hj01, hj02, rfl⟩ := inR_nat1 (a := 0) (b := 3) hw1 (by decide) (by decide)
    have hcj0 : (nI j0).toNatClampNeg = j0 := nI_clamp (by omega)
    refine lv_if_eq (tgt := 19) hx hb dX5_fade_6 (by decide) (fun c2 => absurd c2 (by decide)) (fun _ => ?_)
    refine lv_iload_n hx hb dX5_fade_9 rfl (lv_at hl 2 rfl) ?_
    refine lv_iconst (v := 0) hx hb dX5_fade_10 (by decide) ?_
    refine lv_bipush (v := 40) hx hb dX5_fade_11 (by decide) ?_
    refine K_none (va_runS (As := [.int v, .int 0, .int 40]) (rest := []) ⟨hx, hb, hml, hown, hts⟩ (c_X5_in l D cI cZ cG _ v 0 40) (va_cwS 3 hts gX5_fade_X5_in rfl rfl rfl (by decide +kernel) ⟨(Nat.le_of_ble_eq_true rfl), (Nat.le_of_ble_eq_true rfl)⟩) (K_pre0 hN hK) rfl rfl hl.1 rfl (lv_room (Nat.le_of_ble_eq_true rfl)) dX5_fade_13 ⟨Nat.zero_le _, Nat.zero_le _⟩) hP hS hA (fun r3 _ H locs hw3 hP hS => ?_)
    rcases hw3 with ⟨rfl, hw3⟩ | ⟨rfl, hw3⟩
    · skip
      refine lv_if_ne (tgt := 22) hx hb dX5_fade_16 (by decide) (fun _ => ?_) (fun c4 => absurd c4 (by decide))
      refine lv_aload_n hx hb dX5_fade_22 rfl (lv_at hl 0 rfl) ?_
      refine va_get (D := D) (ci := 5) (v := .ref (a5 3)) (C := RX5) (T := TX5) (N := 24) hx hb hts inX5_fade hown hK hP 0 rfl rfl 6 (by decide) fl19 (fun _ h9 => h9) rfl dX5_fade_23 ?_
      refine lv_iload_n hx hb dX5_fade_26 rfl (lv_at hl 1 rfl) ?_
      refine K_iald hx hb hK hP 4 0 rfl rfl j0 (by omega) (Nat.le_of_ble_eq_true rfl) dX5_fade_27 ?_
      refine lv_istore_n (lv' := [(3, .int (mfa j0)), (0, .ref h5), (1, .int (nI j0)), (2, .int v)]) hx hb dX5_fade_28 rfl hl (by decide) rfl (fun ls hl => ?_)
      refine lv_aload_n hx hb dX5_fade_29 rfl (lv_at hl 1 rfl) ?_
      refine va_get (D := D) (ci := 5) (v := .ref (a5 3)) (C := RX5) (T := TX5) (N := 24) hx hb hts inX5_fade hown hK hP 0 rfl rfl 6 (by decide) fl19 (fun _ h9 => h9) rfl dX5_fade_30 ?_
      refine lv_iload_n hx hb dX5_fade_33 rfl (lv_at hl 2 rfl) ?_
      refine lv_iload_n hx hb dX5_fade_34 rfl (lv_at hl 3 rfl) ?_
      refine K_iast hx hb hK hP hD hS 4 0 rfl rfl j0 (by omega) (Nat.le_of_ble_eq_true rfl) dX5_fade_35 (fun H locs hP hD hS => ?_)
      have hP : va_P D vwCl (wX5 cI cZ cG h5 a5 (nI nr) (nI nt) (nI nc) (nI nw) hd (nI wk) (nI ng) (nI nT) mi (nI nf) (nI nn) mru mth mcl (upd mfa j0 v) mwa mfz mbl mbk mtr mno mlo mip mto) H := hP
      have hD : va_D A (wX5 cI cZ cG h5 a5 (nI nr) (nI nt) (nI nc) (nI nw) hd (nI wk) (nI ng) (nI nT) mi (nI nf) (nI nn) mru mth mcl (upd mfa j0 v) mwa mfz mbl mbk mtr mno mlo mip mto) := hD
      refine lv_iload_n hx hb dX5_fade_36 rfl (lv_at hl 0 rfl) ?_
      exact K_iret (wf := (fun (u : (Nat → Int32)) => wX5 cI cZ cG h5 a5 (nI nr) (nI nt) (nI nc) (nI nw) hd (nI wk) (nI ng) (nI nT) mi (nI nf) (nI nn) mru mth mcl u mwa mfz mbl mbk mtr mno mlo mip mto)) (upd mfa j0 v) hx hb hr hlocks hP hK hD hS dX5_fade_37 (by simp [if_true, hw1, hcj0, hw3])
    · skip
      refine lv_if_ne (tgt := 22) hx hb dX5_fade_16 (by decide) (fun c5 => absurd c5 (by decide)) (fun _ => ?_)
      refine lv_bipush (v := (-2)) hx hb dX5_fade_19 (by decide) ?_
      exact K_iret (wf := (fun (u : (Nat → Int32)) => wX5 cI cZ cG h5 a5 (nI nr) (nI nt) (nI nc) (nI nw) hd (nI wk) (nI ng) (nI nT) mi (nI nf) (nI nn) mru mth mcl u mwa mfz mbl mbk mtr mno mlo mip mto)) mfa hx hb hr hlocks hP hK hD hS dX5_fade_21 (by simp [if_true, hw1, hcj0, hw3])
  · skip
    refine lv_if_eq (tgt := 19) hx hb dX5_fade_6 (by decide) (fun _ => ?_) (fun c6 => absurd c6 (by decide))
    refine lv_bipush (v := (-2)) hx hb dX5_fade_19 (by decide) ?_
    exact K_iret (wf := (fun (u : (Nat → Int32)) => wX5 cI cZ cG h5 a5 (nI nr) (nI nt) (nI nc) (nI nw) hd (nI wk) (nI ng) (nI nT) mi (nI nf) (nI nn) mru mth mcl u mwa mfz mbl mbk mtr mno mlo mip mto)) mfa hx hb hr hlocks hP hK hD hS dX5_fade_21 (by simp [if_true, hw1])
theorem inX5_wall : ∀ w ∈ wsX50, w ∈ wsX5_wall := by decide +kernel
set_option maxHeartbeats 8000000 in
set_option maxRecDepth 100000 in
/-- wall -/
theorem c_X5_wall (l : Launch) (D : va_G) (cI cZ cG : ClassId) (h5 : Nat) (a5 : Nat → Nat) (sz : Nat) (nr : Nat) (nt : Nat) (nc : Nat) (nw : Nat) (hd : Int32) (wk : Nat) (ng : Nat) (nT : Nat) (mi : Int32) (nf : Nat) (nn : Nat) (mru : Nat → Int32) (mth : Nat → Int32) (mcl : Nat → Int32) (mfa : Nat → Int32) (mwa : Nat → Int32) (mfz : Nat → Int32) (mbl : Nat → Int32) (mbk : Nat → Int32) (mtr : Nat → Int32) (mno : Nat → Int32) (mlo : Nat → Int32) (mip : Nat → Int32) (mto : Nat → Int32) (p0 : Int32) (q : Int32) (v : Int32) (hnr : nr ≤ 6) (hnt : nt ≤ 20) (hnc : nc ≤ 60) (hnw : nw ≤ 24) (hwk : wk ≤ 200) (hng : ng ≤ 3) (hnT : nT ≤ 4) (hnf : nf ≤ 12) (hnn : nn ≤ 60) : Met l yX5_wall wsX5_wall ({ frames := 1, cells := 0, slots := 0, locals := 22 } : Room) (va_Pc [.ref h5, .int p0, .int q, .int v] (PB D (tyL cI cZ cG) (wX5 cI cZ cG h5 a5 (nI nr) (nI nt) (nI nc) (nI nw) hd (nI wk) (nI ng) (nI nT) mi (nI nf) (nI nn) mru mth mcl mfa mwa mfz mbl mbk mtr mno mlo mip mto) sz)) (va_Qi (fun (r : Int32) (u : Nat × (Nat → Int32)) => r = rWall nw p0 q v ∧ u = if (inR p0 0 99 = true ∧ inR q 0 3 = true ∧ inR v 1 60 = true) ∧ ¬ nw = 24 then (nw + 1, upd (upd (upd (upd (upd mwa (5 * nw) p0) (5 * nw + 1) q) (5 * nw + 2) v) (5 * nw + 3) 100) (5 * nw + 4) 0) else (nw, mwa)) (fun u => QB D (tyL cI cZ cG) (va_A (wX5 cI cZ cG h5 a5 (nI nr) (nI nt) (nI nc) (nI nw) hd (nI wk) (nI ng) (nI nT) mi (nI nf) (nI nn) mru mth mcl mfa mwa mfz mbl mbk mtr mno mlo mip mto) sz) ((fun (u : Nat × (Nat → Int32)) => wX5 cI cZ cG h5 a5 (nI nr) (nI nt) (nI nc) (nI u.1) hd (nI wk) (nI ng) (nI nT) mi (nI nf) (nI nn) mru mth mcl mfa u.2 mfz mbl mbk mtr mno mlo mip mto) u)) (va_A (wX5 cI cZ cG h5 a5 (nI nr) (nI nt) (nI nc) (nI nw) hd (nI wk) (nI ng) (nI nT) mi (nI nf) (nI nn) mru mth mcl mfa mwa mfz mbl mbk mtr mno mlo mip mto) sz)) 0 0 (va_A (wX5 cI cZ cG h5 a5 (nI nr) (nI nt) (nI nc) (nI nw) hd (nI wk) (nI ng) (nI nT) mi (nI nf) (nI nn) mru mth mcl mfa mwa mfz mbl mbk mtr mno mlo mip mto) sz) := by
  refine K_start (cc := cX5_wall) (maxL := 4) (ret := some .int) (Qc := fun A => va_Qi (fun (r : Int32) (u : Nat × (Nat → Int32)) => r = rWall nw p0 q v ∧ u = if (inR p0 0 99 = true ∧ inR q 0 3 = true ∧ inR v 1 60 = true) ∧ ¬ nw = 24 then (nw + 1, upd (upd (upd (upd (upd mwa (5 * nw) p0) (5 * nw + 1) q) (5 * nw + 2) v) (5 * nw + 3) 100) (5 * nw + 4) 0) else (nw, mwa)) (fun u => QB D (tyL cI cZ cG) A ((fun (u : Nat × (Nat → Int32)) => wX5 cI cZ cG h5 a5 (nI nr) (nI nt) (nI nc) (nI u.1) hd (nI wk) (nI ng) (nI nT) mi (nI nf) (nI nn) mru mth mcl mfa u.2 mfz mbl mbk mtr mno mlo mip mto) u)) A) (by decide) rfl (Nat.le_of_ble_eq_true rfl) ?_
  intro p e s m below meth c ls A hx hb hml hr hts hown hlocks hin hN hP hK hD hA hS hl hsz
  have hl : lv_has ls 4 [(0, .ref h5), (1, .int p0), (2, .int q), (3, .int v)] := hl
  have fl85 := hts (.fieldLink RX5 85 "ModelTownModel" "walls" "I") (by decide +kernel)
  have fl22 := hts (.fieldLink RX5 22 "ModelTownModel" "wall" "[I") (by decide +kernel)
  refine lv_iload_n hx hb dX5_wall_0 rfl (lv_at hl 1 rfl) ?_
  refine lv_iconst (v := 0) hx hb dX5_wall_1 (by decide) ?_
  refine lv_bipush (v := 99) hx hb dX5_wall_2 (by decide) ?_
  refine K_none (va_runS (As := [.int p0, .int 0, .int 99]) (rest := []) ⟨hx, hb, hml, hown, hts⟩ (c_X5_in l D cI cZ cG _ p0 0 99) (va_cwS 3 hts gX5_wall_X5_in rfl rfl rfl (by decide +kernel) ⟨(Nat.le_of_ble_eq_true rfl), (Nat.le_of_ble_eq_true rfl)⟩) (K_pre0 hN hK) rfl rfl hl.1 rfl (lv_room (Nat.le_of_ble_eq_true rfl)) dX5_wall_4 ⟨Nat.zero_le _, Nat.zero_le _⟩) hP hS hA (fun r1 _ H locs hw1 hP hS => ?_)
  rcases hw1 with ⟨rfl, hw1⟩ | ⟨rfl, hw1⟩
  · skip
    refine lv_if_eq (tgt := 29) hx hb dX5_wall_7 (by decide) (fun c2 => absurd c2 (by decide)) (fun _ => ?_)
    refine lv_iload_n hx hb dX5_wall_10 rfl (lv_at hl 2 rfl) ?_
    refine lv_iconst (v := 0) hx hb dX5_wall_11 (by decide) ?_
    refine lv_iconst (v := 3) hx hb dX5_wall_12 (by decide) ?_
    refine K_none (va_runS (As := [.int q, .int 0, .int 3]) (rest := []) ⟨hx, hb, hml, hown, hts⟩ (c_X5_in l D cI cZ cG _ q 0 3) (va_cwS 3 hts gX5_wall_X5_in rfl rfl rfl (by decide +kernel) ⟨(Nat.le_of_ble_eq_true rfl), (Nat.le_of_ble_eq_true rfl)⟩) (K_pre0 hN hK) rfl rfl hl.1 rfl (lv_room (Nat.le_of_ble_eq_true rfl)) dX5_wall_13 ⟨Nat.zero_le _, Nat.zero_le _⟩) hP hS hA (fun r3 _ H locs hw3 hP hS => ?_)
    rcases hw3 with ⟨rfl, hw3⟩ | ⟨rfl, hw3⟩
    · skip
      refine lv_if_eq (tgt := 29) hx hb dX5_wall_16 (by decide) (fun c4 => absurd c4 (by decide)) (fun _ => ?_)
      refine lv_iload_n hx hb dX5_wall_19 rfl (lv_at hl 3 rfl) ?_
      refine lv_iconst (v := 1) hx hb dX5_wall_20 (by decide) ?_
      refine lv_bipush (v := 60) hx hb dX5_wall_21 (by decide) ?_
      refine K_none (va_runS (As := [.int v, .int 1, .int 60]) (rest := []) ⟨hx, hb, hml, hown, hts⟩ (c_X5_in l D cI cZ cG _ v 1 60) (va_cwS 3 hts gX5_wall_X5_in rfl rfl rfl (by decide +kernel) ⟨(Nat.le_of_ble_eq_true rfl), (Nat.le_of_ble_eq_true rfl)⟩) (K_pre0 hN hK) rfl rfl hl.1 rfl (lv_room (Nat.le_of_ble_eq_true rfl)) dX5_wall_23 ⟨Nat.zero_le _, Nat.zero_le _⟩) hP hS hA (fun r5 _ H locs hw5 hP hS => ?_)
      rcases hw5 with ⟨rfl, hw5⟩ | ⟨rfl, hw5⟩
      · skip
        refine lv_if_ne (tgt := 32) hx hb dX5_wall_26 (by decide) (fun _ => ?_) (fun c6 => absurd c6 (by decide))
        refine lv_aload_n hx hb dX5_wall_32 rfl (lv_at hl 0 rfl) ?_
        refine va_get (D := D) (ci := 5) (v := .int (nI nw)) (C := RX5) (T := TX5) (N := 24) hx hb hts inX5_wall hown hK hP 0 rfl rfl 7 (by decide) fl85 (fun _ h9 => h9) rfl dX5_wall_33 ?_
        refine lv_bipush (v := 24) hx hb dX5_wall_36 (by decide) ?_
        refine lv_icmp_ne (tgt := 44) hx hb dX5_wall_38 (by decide) (fun c7 => ?_) (fun c7 => ?_)
        · have c7 : ¬ nw = 24 := fun hq => c7 ((nI_eq (a := nw) (b := 24) (by omega) (by omega)).mpr hq)
          refine lv_aload_n hx hb dX5_wall_44 rfl (lv_at hl 0 rfl) ?_
          refine va_get (D := D) (ci := 5) (v := .ref (a5 4)) (C := RX5) (T := TX5) (N := 24) hx hb hts inX5_wall hown hK hP 0 rfl rfl 8 (by decide) fl22 (fun _ h9 => h9) rfl dX5_wall_45 ?_
          refine lv_iconst (v := 5) hx hb dX5_wall_48 (by decide) ?_
          refine lv_aload_n hx hb dX5_wall_49 rfl (lv_at hl 0 rfl) ?_
          refine va_get (D := D) (ci := 5) (v := .int (nI nw)) (C := RX5) (T := TX5) (N := 24) hx hb hts inX5_wall hown hK hP 0 rfl rfl 7 (by decide) fl85 (fun _ h9 => h9) rfl dX5_wall_50 ?_
          refine lv_imul hx hb dX5_wall_53 ?_
          refine lv_topi (fun z8 ez8 => ?_)
          obtain rfl : z8 = nI (5 * nw) := ez8.trans (pk_mul 5 nw)
          refine lv_iload_n hx hb dX5_wall_54 rfl (lv_at hl 1 rfl) ?_
          refine K_iast hx hb hK hP hD hS 5 0 rfl rfl (5 * nw) (by omega) (Nat.le_of_ble_eq_true rfl) dX5_wall_55 (fun H locs hP hD hS => ?_)
          have hP : va_P D vwCl (wX5 cI cZ cG h5 a5 (nI nr) (nI nt) (nI nc) (nI nw) hd (nI wk) (nI ng) (nI nT) mi (nI nf) (nI nn) mru mth mcl mfa (upd mwa (5 * nw) p0) mfz mbl mbk mtr mno mlo mip mto) H := hP
          have hD : va_D A (wX5 cI cZ cG h5 a5 (nI nr) (nI nt) (nI nc) (nI nw) hd (nI wk) (nI ng) (nI nT) mi (nI nf) (nI nn) mru mth mcl mfa (upd mwa (5 * nw) p0) mfz mbl mbk mtr mno mlo mip mto) := hD
          refine lv_aload_n hx hb dX5_wall_56 rfl (lv_at hl 0 rfl) ?_
          refine va_get (D := D) (ci := 5) (v := .ref (a5 4)) (C := RX5) (T := TX5) (N := 24) hx hb hts inX5_wall hown hK hP 0 rfl rfl 8 (by decide) fl22 (fun _ h9 => h9) rfl dX5_wall_57 ?_
          refine lv_iconst (v := 5) hx hb dX5_wall_60 (by decide) ?_
          refine lv_aload_n hx hb dX5_wall_61 rfl (lv_at hl 0 rfl) ?_
          refine va_get (D := D) (ci := 5) (v := .int (nI nw)) (C := RX5) (T := TX5) (N := 24) hx hb hts inX5_wall hown hK hP 0 rfl rfl 7 (by decide) fl85 (fun _ h9 => h9) rfl dX5_wall_62 ?_
          refine lv_imul hx hb dX5_wall_65 ?_
          refine lv_topi (fun z9 ez9 => ?_)
          obtain rfl : z9 = nI (5 * nw) := ez9.trans (pk_mul 5 nw)
          refine lv_iconst (v := 1) hx hb dX5_wall_66 (by decide) ?_
          refine lv_iadd hx hb dX5_wall_67 ?_
          refine lv_topi (fun z10 ez10 => ?_)
          obtain rfl : z10 = nI (5 * nw + 1) := ez10.trans ((nI_add (5 * nw) 1).trans (congrArg nI (by omega)))
          refine lv_iload_n hx hb dX5_wall_68 rfl (lv_at hl 2 rfl) ?_
          refine K_iast hx hb hK hP hD hS 5 0 rfl rfl (5 * nw + 1) (by omega) (Nat.le_of_ble_eq_true rfl) dX5_wall_69 (fun H locs hP hD hS => ?_)
          have hP : va_P D vwCl (wX5 cI cZ cG h5 a5 (nI nr) (nI nt) (nI nc) (nI nw) hd (nI wk) (nI ng) (nI nT) mi (nI nf) (nI nn) mru mth mcl mfa (upd (upd mwa (5 * nw) p0) (5 * nw + 1) q) mfz mbl mbk mtr mno mlo mip mto) H := hP
          have hD : va_D A (wX5 cI cZ cG h5 a5 (nI nr) (nI nt) (nI nc) (nI nw) hd (nI wk) (nI ng) (nI nT) mi (nI nf) (nI nn) mru mth mcl mfa (upd (upd mwa (5 * nw) p0) (5 * nw + 1) q) mfz mbl mbk mtr mno mlo mip mto) := hD
          refine lv_aload_n hx hb dX5_wall_70 rfl (lv_at hl 0 rfl) ?_
          refine va_get (D := D) (ci := 5) (v := .ref (a5 4)) (C := RX5) (T := TX5) (N := 24) hx hb hts inX5_wall hown hK hP 0 rfl rfl 8 (by decide) fl22 (fun _ h9 => h9) rfl dX5_wall_71 ?_
          refine lv_iconst (v := 5) hx hb dX5_wall_74 (by decide) ?_
          refine lv_aload_n hx hb dX5_wall_75 rfl (lv_at hl 0 rfl) ?_
          refine va_get (D := D) (ci := 5) (v := .int (nI nw)) (C := RX5) (T := TX5) (N := 24) hx hb hts inX5_wall hown hK hP 0 rfl rfl 7 (by decide) fl85 (fun _ h9 => h9) rfl dX5_wall_76 ?_
          refine lv_imul hx hb dX5_wall_79 ?_
          refine lv_topi (fun z11 ez11 => ?_)
          obtain rfl : z11 = nI (5 * nw) := ez11.trans (pk_mul 5 nw)
          refine lv_iconst (v := 2) hx hb dX5_wall_80 (by decide) ?_
          refine lv_iadd hx hb dX5_wall_81 ?_
          refine lv_topi (fun z12 ez12 => ?_)
          obtain rfl : z12 = nI (5 * nw + 2) := ez12.trans ((nI_add (5 * nw) 2).trans (congrArg nI (by omega)))
          refine lv_iload_n hx hb dX5_wall_82 rfl (lv_at hl 3 rfl) ?_
          refine K_iast hx hb hK hP hD hS 5 0 rfl rfl (5 * nw + 2) (by omega) (Nat.le_of_ble_eq_true rfl) dX5_wall_83 (fun H locs hP hD hS => ?_)
          have hP : va_P D vwCl (wX5 cI cZ cG h5 a5 (nI nr) (nI nt) (nI nc) (nI nw) hd (nI wk) (nI ng) (nI nT) mi (nI nf) (nI nn) mru mth mcl mfa (upd (upd (upd mwa (5 * nw) p0) (5 * nw + 1) q) (5 * nw + 2) v) mfz mbl mbk mtr mno mlo mip mto) H := hP
          have hD : va_D A (wX5 cI cZ cG h5 a5 (nI nr) (nI nt) (nI nc) (nI nw) hd (nI wk) (nI ng) (nI nT) mi (nI nf) (nI nn) mru mth mcl mfa (upd (upd (upd mwa (5 * nw) p0) (5 * nw + 1) q) (5 * nw + 2) v) mfz mbl mbk mtr mno mlo mip mto) := hD
          refine lv_aload_n hx hb dX5_wall_84 rfl (lv_at hl 0 rfl) ?_
          refine va_get (D := D) (ci := 5) (v := .ref (a5 4)) (C := RX5) (T := TX5) (N := 24) hx hb hts inX5_wall hown hK hP 0 rfl rfl 8 (by decide) fl22 (fun _ h9 => h9) rfl dX5_wall_85 ?_
          refine lv_iconst (v := 5) hx hb dX5_wall_88 (by decide) ?_
          refine lv_aload_n hx hb dX5_wall_89 rfl (lv_at hl 0 rfl) ?_
          refine va_get (D := D) (ci := 5) (v := .int (nI nw)) (C := RX5) (T := TX5) (N := 24) hx hb hts inX5_wall hown hK hP 0 rfl rfl 7 (by decide) fl85 (fun _ h9 => h9) rfl dX5_wall_90 ?_
          refine lv_imul hx hb dX5_wall_93 ?_
          refine lv_topi (fun z13 ez13 => ?_)
          obtain rfl : z13 = nI (5 * nw) := ez13.trans (pk_mul 5 nw)
          refine lv_iconst (v := 3) hx hb dX5_wall_94 (by decide) ?_
          refine lv_iadd hx hb dX5_wall_95 ?_
          refine lv_topi (fun z14 ez14 => ?_)
          obtain rfl : z14 = nI (5 * nw + 3) := ez14.trans ((nI_add (5 * nw) 3).trans (congrArg nI (by omega)))
          refine lv_bipush (v := 100) hx hb dX5_wall_96 (by decide) ?_
          refine K_iast hx hb hK hP hD hS 5 0 rfl rfl (5 * nw + 3) (by omega) (Nat.le_of_ble_eq_true rfl) dX5_wall_98 (fun H locs hP hD hS => ?_)
          have hP : va_P D vwCl (wX5 cI cZ cG h5 a5 (nI nr) (nI nt) (nI nc) (nI nw) hd (nI wk) (nI ng) (nI nT) mi (nI nf) (nI nn) mru mth mcl mfa (upd (upd (upd (upd mwa (5 * nw) p0) (5 * nw + 1) q) (5 * nw + 2) v) (5 * nw + 3) 100) mfz mbl mbk mtr mno mlo mip mto) H := hP
          have hD : va_D A (wX5 cI cZ cG h5 a5 (nI nr) (nI nt) (nI nc) (nI nw) hd (nI wk) (nI ng) (nI nT) mi (nI nf) (nI nn) mru mth mcl mfa (upd (upd (upd (upd mwa (5 * nw) p0) (5 * nw + 1) q) (5 * nw + 2) v) (5 * nw + 3) 100) mfz mbl mbk mtr mno mlo mip mto) := hD
          refine lv_aload_n hx hb dX5_wall_99 rfl (lv_at hl 0 rfl) ?_
          refine va_get (D := D) (ci := 5) (v := .ref (a5 4)) (C := RX5) (T := TX5) (N := 24) hx hb hts inX5_wall hown hK hP 0 rfl rfl 8 (by decide) fl22 (fun _ h9 => h9) rfl dX5_wall_100 ?_
          refine lv_iconst (v := 5) hx hb dX5_wall_103 (by decide) ?_
          refine lv_aload_n hx hb dX5_wall_104 rfl (lv_at hl 0 rfl) ?_
          refine va_get (D := D) (ci := 5) (v := .int (nI nw)) (C := RX5) (T := TX5) (N := 24) hx hb hts inX5_wall hown hK hP 0 rfl rfl 7 (by decide) fl85 (fun _ h9 => h9) rfl dX5_wall_105 ?_
          refine lv_imul hx hb dX5_wall_108 ?_
          refine lv_topi (fun z15 ez15 => ?_)
          obtain rfl : z15 = nI (5 * nw) := ez15.trans (pk_mul 5 nw)
          refine lv_iconst (v := 4) hx hb dX5_wall_109 (by decide) ?_
          refine lv_iadd hx hb dX5_wall_110 ?_
          refine lv_topi (fun z16 ez16 => ?_)
          obtain rfl : z16 = nI (5 * nw + 4) := ez16.trans ((nI_add (5 * nw) 4).trans (congrArg nI (by omega)))
          refine lv_iconst (v := 0) hx hb dX5_wall_111 (by decide) ?_
          refine K_iast hx hb hK hP hD hS 5 0 rfl rfl (5 * nw + 4) (by omega) (Nat.le_of_ble_eq_true rfl) dX5_wall_112 (fun H locs hP hD hS => ?_)
          have hP : va_P D vwCl (wX5 cI cZ cG h5 a5 (nI nr) (nI nt) (nI nc) (nI nw) hd (nI wk) (nI ng) (nI nT) mi (nI nf) (nI nn) mru mth mcl mfa (upd (upd (upd (upd (upd mwa (5 * nw) p0) (5 * nw + 1) q) (5 * nw + 2) v) (5 * nw + 3) 100) (5 * nw + 4) 0) mfz mbl mbk mtr mno mlo mip mto) H := hP
          have hD : va_D A (wX5 cI cZ cG h5 a5 (nI nr) (nI nt) (nI nc) (nI nw) hd (nI wk) (nI ng) (nI nT) mi (nI nf) (nI nn) mru mth mcl mfa (upd (upd (upd (upd (upd mwa (5 * nw) p0) (5 * nw + 1) q) (5 * nw + 2) v) (5 * nw + 3) 100) (5 * nw + 4) 0) mfz mbl mbk mtr mno mlo mip mto) := hD
          refine lv_aload_n hx hb dX5_wall_113 rfl (lv_at hl 0 rfl) ?_
          refine lv_dup hx hb dX5_wall_114 rfl ?_
          refine va_get (D := D) (ci := 5) (v := .int (nI nw)) (C := RX5) (T := TX5) (N := 24) hx hb hts inX5_wall hown hK hP 0 rfl rfl 7 (by decide) fl85 (fun _ h9 => h9) rfl dX5_wall_115 ?_
          refine lv_iconst (v := 1) hx hb dX5_wall_118 (by decide) ?_
          refine lv_iadd hx hb dX5_wall_119 ?_
          refine lv_topi (fun z17 ez17 => ?_)
          obtain rfl : z17 = nI (nw + 1) := ez17.trans (nI_add nw 1)
          refine va_put (D := D) (ci := 5) (v := .int (nI (nw + 1))) (ty := .int) (C := RX5) (T := TX5) (N := 24) hx hb hts inX5_wall tyX5 tyX5_ok nmX5 hown hK hP hD hS 0 rfl rfl 7 (by decide) fl85 (fun _ h9 => h9) rfl (by decide +kernel) rfl rfl (Nat.le_of_ble_eq_true rfl) dX5_wall_120 (fun H locs hP hD hS => ?_)
          have hP : va_P D vwCl (wX5 cI cZ cG h5 a5 (nI nr) (nI nt) (nI nc) (nI (nw + 1)) hd (nI wk) (nI ng) (nI nT) mi (nI nf) (nI nn) mru mth mcl mfa (upd (upd (upd (upd (upd mwa (5 * nw) p0) (5 * nw + 1) q) (5 * nw + 2) v) (5 * nw + 3) 100) (5 * nw + 4) 0) mfz mbl mbk mtr mno mlo mip mto) H := hP
          have hD : va_D A (wX5 cI cZ cG h5 a5 (nI nr) (nI nt) (nI nc) (nI (nw + 1)) hd (nI wk) (nI ng) (nI nT) mi (nI nf) (nI nn) mru mth mcl mfa (upd (upd (upd (upd (upd mwa (5 * nw) p0) (5 * nw + 1) q) (5 * nw + 2) v) (5 * nw + 3) 100) (5 * nw + 4) 0) mfz mbl mbk mtr mno mlo mip mto) := hD
          refine lv_aload_n hx hb dX5_wall_123 rfl (lv_at hl 0 rfl) ?_
          refine va_get (D := D) (ci := 5) (v := .int (nI (nw + 1))) (C := RX5) (T := TX5) (N := 24) hx hb hts inX5_wall hown hK hP 0 rfl rfl 7 (by decide) fl85 (fun _ h9 => h9) rfl dX5_wall_124 ?_
          refine lv_iconst (v := 1) hx hb dX5_wall_127 (by decide) ?_
          refine lv_isub hx hb dX5_wall_128 ?_
          refine lv_topi (fun z18 ez18 => ?_)
          obtain rfl : z18 = nI nw := ez18.trans (nI_pred nw)
          exact K_iret (wf := (fun (u : Nat × (Nat → Int32)) => wX5 cI cZ cG h5 a5 (nI nr) (nI nt) (nI nc) (nI u.1) hd (nI wk) (nI ng) (nI nT) mi (nI nf) (nI nn) mru mth mcl mfa u.2 mfz mbl mbk mtr mno mlo mip mto)) (nw + 1, upd (upd (upd (upd (upd mwa (5 * nw) p0) (5 * nw + 1) q) (5 * nw + 2) v) (5 * nw + 3) 100) (5 * nw + 4) 0) hx hb hr hlocks hP hK hD hS dX5_wall_129 (by simp [rWall, hw1, hw3, hw5, c7])
        · have c7 : nw = 24 := (nI_eq (a := nw) (b := 24) (by omega) (by omega)).mp c7
          refine lv_bipush (v := (-4)) hx hb dX5_wall_41 (by decide) ?_
          exact K_iret (wf := (fun (u : Nat × (Nat → Int32)) => wX5 cI cZ cG h5 a5 (nI nr) (nI nt) (nI nc) (nI u.1) hd (nI wk) (nI ng) (nI nT) mi (nI nf) (nI nn) mru mth mcl mfa u.2 mfz mbl mbk mtr mno mlo mip mto)) (nw, mwa) hx hb hr hlocks hP hK hD hS dX5_wall_43 (by simp [rWall, hw1, hw3, hw5, eq_true c7])
      · skip
        refine lv_if_ne (tgt := 32) hx hb dX5_wall_26 (by decide) (fun c19 => absurd c19 (by decide)) (fun _ => ?_)
        refine lv_bipush (v := (-2)) hx hb dX5_wall_29 (by decide) ?_
        exact K_iret (wf := (fun (u : Nat × (Nat → Int32)) => wX5 cI cZ cG h5 a5 (nI nr) (nI nt) (nI nc) (nI u.1) hd (nI wk) (nI ng) (nI nT) mi (nI nf) (nI nn) mru mth mcl mfa u.2 mfz mbl mbk mtr mno mlo mip mto)) (nw, mwa) hx hb hr hlocks hP hK hD hS dX5_wall_31 (by simp [rWall, hw1, hw3, hw5])
    · skip
      refine lv_if_eq (tgt := 29) hx hb dX5_wall_16 (by decide) (fun _ => ?_) (fun c20 => absurd c20 (by decide))
      refine lv_bipush (v := (-2)) hx hb dX5_wall_29 (by decide) ?_
      exact K_iret (wf := (fun (u : Nat × (Nat → Int32)) => wX5 cI cZ cG h5 a5 (nI nr) (nI nt) (nI nc) (nI u.1) hd (nI wk) (nI ng) (nI nT) mi (nI nf) (nI nn) mru mth mcl mfa u.2 mfz mbl mbk mtr mno mlo mip mto)) (nw, mwa) hx hb hr hlocks hP hK hD hS dX5_wall_31 (by simp [rWall, hw1, hw3])
  · skip
    refine lv_if_eq (tgt := 29) hx hb dX5_wall_7 (by decide) (fun _ => ?_) (fun c21 => absurd c21 (by decide))
    refine lv_bipush (v := (-2)) hx hb dX5_wall_29 (by decide) ?_
    exact K_iret (wf := (fun (u : Nat × (Nat → Int32)) => wX5 cI cZ cG h5 a5 (nI nr) (nI nt) (nI nc) (nI u.1) hd (nI wk) (nI ng) (nI nT) mi (nI nf) (nI nn) mru mth mcl mfa u.2 mfz mbl mbk mtr mno mlo mip mto)) (nw, mwa) hx hb hr hlocks hP hK hD hS dX5_wall_31 (by simp [rWall, hw1])
theorem inX5_wallOf : ∀ w ∈ wsX50, w ∈ wsX5_wallOf := by decide +kernel
set_option maxHeartbeats 8000000 in
set_option maxRecDepth 100000 in
/-- wallOf -/
theorem c_X5_wallOf (l : Launch) (D : va_G) (cI cZ cG : ClassId) (h5 : Nat) (a5 : Nat → Nat) (sz : Nat) (nr : Nat) (nt : Nat) (nc : Nat) (nw : Nat) (hd : Int32) (wk : Nat) (ng : Nat) (nT : Nat) (mi : Int32) (nf : Nat) (nn : Nat) (mru : Nat → Int32) (mth : Nat → Int32) (mcl : Nat → Int32) (mfa : Nat → Int32) (mwa : Nat → Int32) (mfz : Nat → Int32) (mbl : Nat → Int32) (mbk : Nat → Int32) (mtr : Nat → Int32) (mno : Nat → Int32) (mlo : Nat → Int32) (mip : Nat → Int32) (mto : Nat → Int32) (x : Int32) (q : Int32) (hnr : nr ≤ 6) (hnt : nt ≤ 20) (hnc : nc ≤ 60) (hnw : nw ≤ 24) (hwk : wk ≤ 200) (hng : ng ≤ 3) (hnT : nT ≤ 4) (hnf : nf ≤ 12) (hnn : nn ≤ 60) : Met l yX5_wallOf wsX5_wallOf ({ frames := 1, cells := 0, slots := 0, locals := 22 } : Room) (va_Pc [.ref h5, .int x, .int q] (PB D (tyL cI cZ cG) (wX5 cI cZ cG h5 a5 (nI nr) (nI nt) (nI nc) (nI nw) hd (nI wk) (nI ng) (nI nT) mi (nI nf) (nI nn) mru mth mcl mfa mwa mfz mbl mbk mtr mno mlo mip mto) sz)) (va_Qi (fun (r : Int32) (_ : Unit) => r = rWallOf nw (col 5 0 mwa) (col 5 1 mwa) (col 5 2 mwa) (col 5 3 mwa) (col 5 4 mwa) x q) (fun u => QB D (tyL cI cZ cG) (va_A (wX5 cI cZ cG h5 a5 (nI nr) (nI nt) (nI nc) (nI nw) hd (nI wk) (nI ng) (nI nT) mi (nI nf) (nI nn) mru mth mcl mfa mwa mfz mbl mbk mtr mno mlo mip mto) sz) ((fun (_ : Unit) => wX5 cI cZ cG h5 a5 (nI nr) (nI nt) (nI nc) (nI nw) hd (nI wk) (nI ng) (nI nT) mi (nI nf) (nI nn) mru mth mcl mfa mwa mfz mbl mbk mtr mno mlo mip mto) u)) (va_A (wX5 cI cZ cG h5 a5 (nI nr) (nI nt) (nI nc) (nI nw) hd (nI wk) (nI ng) (nI nT) mi (nI nf) (nI nn) mru mth mcl mfa mwa mfz mbl mbk mtr mno mlo mip mto) sz)) 0 0 (va_A (wX5 cI cZ cG h5 a5 (nI nr) (nI nt) (nI nc) (nI nw) hd (nI wk) (nI ng) (nI nT) mi (nI nf) (nI nn) mru mth mcl mfa mwa mfz mbl mbk mtr mno mlo mip mto) sz) := by
  refine K_start (cc := cX5_wallOf) (maxL := 3) (ret := some .int) (Qc := fun A => va_Qi (fun (r : Int32) (_ : Unit) => r = rWallOf nw (col 5 0 mwa) (col 5 1 mwa) (col 5 2 mwa) (col 5 3 mwa) (col 5 4 mwa) x q) (fun u => QB D (tyL cI cZ cG) A ((fun (_ : Unit) => wX5 cI cZ cG h5 a5 (nI nr) (nI nt) (nI nc) (nI nw) hd (nI wk) (nI ng) (nI nT) mi (nI nf) (nI nn) mru mth mcl mfa mwa mfz mbl mbk mtr mno mlo mip mto) u)) A) (by decide) rfl (Nat.le_of_ble_eq_true rfl) ?_
  intro p e s m below meth c ls A hx hb hml hr hts hown hlocks hin hN hP hK hD hA hS hl hsz
  have hl : lv_has ls 3 [(0, .ref h5), (1, .int x), (2, .int q)] := hl
  have fl85 := hts (.fieldLink RX5 85 "ModelTownModel" "walls" "I") (by decide +kernel)
  have fl22 := hts (.fieldLink RX5 22 "ModelTownModel" "wall" "[I") (by decide +kernel)
  refine lv_iload_n hx hb dX5_wallOf_0 rfl (lv_at hl 1 rfl) ?_
  refine lv_iconst (v := 0) hx hb dX5_wallOf_1 (by decide) ?_
  refine lv_aload_n hx hb dX5_wallOf_2 rfl (lv_at hl 0 rfl) ?_
  refine va_get (D := D) (ci := 5) (v := .int (nI nw)) (C := RX5) (T := TX5) (N := 24) hx hb hts inX5_wallOf hown hK hP 0 rfl rfl 7 (by decide) fl85 (fun _ h9 => h9) rfl dX5_wallOf_3 ?_
  refine lv_iconst (v := 1) hx hb dX5_wallOf_6 (by decide) ?_
  refine lv_isub hx hb dX5_wallOf_7 ?_
  refine K_none (va_runS (As := [.int x, .int 0, .int ((nI nw) - 1)]) (rest := []) ⟨hx, hb, hml, hown, hts⟩ (c_X5_in l D cI cZ cG _ x 0 ((nI nw) - 1)) (va_cwS 3 hts gX5_wallOf_X5_in rfl rfl rfl (by decide +kernel) ⟨(Nat.le_of_ble_eq_true rfl), (Nat.le_of_ble_eq_true rfl)⟩) (K_pre0 hN hK) rfl rfl hl.1 rfl (lv_room (Nat.le_of_ble_eq_true rfl)) dX5_wallOf_8 ⟨Nat.zero_le _, Nat.zero_le _⟩) hP hS hA (fun r1 _ H locs hw1 hP hS => ?_)
  rcases hw1 with ⟨rfl, hw1⟩ | ⟨rfl, hw1⟩
  · obtain ⟨k, hk, rfl⟩ := inR_lt (by omega) hw1
    have hck : (nI k).toNatClampNeg = k := nI_clamp (by omega)
    refine lv_if_ne (tgt := 16) hx hb dX5_wallOf_11 (by decide) (fun _ => ?_) (fun c2 => absurd c2 (by decide))
    refine lv_iload_n hx hb dX5_wallOf_16 rfl (lv_at hl 2 rfl) ?_
    refine lv_iconst (v := 0) hx hb dX5_wallOf_17 (by decide) ?_
    refine lv_iconst (v := 4) hx hb dX5_wallOf_18 (by decide) ?_
    refine K_none (va_runS (As := [.int q, .int 0, .int 4]) (rest := []) ⟨hx, hb, hml, hown, hts⟩ (c_X5_in l D cI cZ cG _ q 0 4) (va_cwS 3 hts gX5_wallOf_X5_in rfl rfl rfl (by decide +kernel) ⟨(Nat.le_of_ble_eq_true rfl), (Nat.le_of_ble_eq_true rfl)⟩) (K_pre0 hN hK) rfl rfl hl.1 rfl (lv_room (Nat.le_of_ble_eq_true rfl)) dX5_wallOf_19 ⟨Nat.zero_le _, Nat.zero_le _⟩) hP hS hA (fun r3 _ H locs hw3 hP hS => ?_)
    rcases hw3 with ⟨rfl, hw3⟩ | ⟨rfl, hw3⟩
    · obtain ⟨w0, hw01, hw02, rfl⟩ := inR_nat1 (a := 0) (b := 4) hw3 (by decide) (by decide)
      have hcw0 : (nI w0).toNatClampNeg = w0 := nI_clamp (by omega)
      refine lv_if_eq (tgt := 38) hx hb dX5_wallOf_22 (by decide) (fun c4 => absurd c4 (by decide)) (fun _ => ?_)
      refine lv_aload_n hx hb dX5_wallOf_25 rfl (lv_at hl 0 rfl) ?_
      refine va_get (D := D) (ci := 5) (v := .ref (a5 4)) (C := RX5) (T := TX5) (N := 24) hx hb hts inX5_wallOf hown hK hP 0 rfl rfl 8 (by decide) fl22 (fun _ h9 => h9) rfl dX5_wallOf_26 ?_
      refine lv_iconst (v := 5) hx hb dX5_wallOf_29 (by decide) ?_
      refine lv_iload_n hx hb dX5_wallOf_30 rfl (lv_at hl 1 rfl) ?_
      refine lv_imul hx hb dX5_wallOf_31 ?_
      refine lv_topi (fun z5 ez5 => ?_)
      obtain rfl : z5 = nI (5 * k) := ez5.trans (pk_mul 5 k)
      refine lv_iload_n hx hb dX5_wallOf_32 rfl (lv_at hl 2 rfl) ?_
      refine lv_iadd hx hb dX5_wallOf_33 ?_
      refine lv_topi (fun z6 ez6 => ?_)
      obtain rfl : z6 = nI (5 * k + w0) := ez6.trans ((nI_add (5 * k) w0).trans (congrArg nI (by omega)))
      refine K_iald hx hb hK hP 5 0 rfl rfl (5 * k + w0) (by omega) (Nat.le_of_ble_eq_true rfl) dX5_wallOf_34 ?_
      refine lv_goto (tgt := 40) hx hb dX5_wallOf_35 (by decide) ?_
      exact K_iret (wf := (fun (_ : Unit) => wX5 cI cZ cG h5 a5 (nI nr) (nI nt) (nI nc) (nI nw) hd (nI wk) (nI ng) (nI nT) mi (nI nf) (nI nn) mru mth mcl mfa mwa mfz mbl mbk mtr mno mlo mip mto)) () hx hb hr hlocks hP hK hD hS dX5_wallOf_40 (by
        rw [rWallOf, if_pos (by assumption), hck]
        rcases (by omega : w0 = 0 ∨ w0 = 1 ∨ w0 = 2 ∨ w0 = 3 ∨ w0 = 4) with rfl | rfl | rfl | rfl | rfl <;> rfl)
    · skip
      refine lv_if_eq (tgt := 38) hx hb dX5_wallOf_22 (by decide) (fun _ => ?_) (fun c7 => absurd c7 (by decide))
      refine lv_bipush (v := (-2)) hx hb dX5_wallOf_38 (by decide) ?_
      exact K_iret (wf := (fun (_ : Unit) => wX5 cI cZ cG h5 a5 (nI nr) (nI nt) (nI nc) (nI nw) hd (nI wk) (nI ng) (nI nT) mi (nI nf) (nI nn) mru mth mcl mfa mwa mfz mbl mbk mtr mno mlo mip mto)) () hx hb hr hlocks hP hK hD hS dX5_wallOf_40 (by
        rw [rWallOf, if_pos (by assumption)]
        have hn : ∀ j : Int32, inR j 0 4 = true → ¬ q = j := fun j hj hq => absurd (hq ▸ hj) (by assumption)
        rw [if_neg (hn 0 (by decide)), if_neg (hn 1 (by decide)), if_neg (hn 2 (by decide)), if_neg (hn 3 (by decide)), if_neg (hn 4 (by decide))])
  · skip
    refine lv_if_ne (tgt := 16) hx hb dX5_wallOf_11 (by decide) (fun c8 => absurd c8 (by decide)) (fun _ => ?_)
    refine lv_iconst (v := (-1)) hx hb dX5_wallOf_14 (by decide) ?_
    exact K_iret (wf := (fun (_ : Unit) => wX5 cI cZ cG h5 a5 (nI nr) (nI nt) (nI nc) (nI nw) hd (nI wk) (nI ng) (nI nT) mi (nI nf) (nI nn) mru mth mcl mfa mwa mfz mbl mbk mtr mno mlo mip mto)) () hx hb hr hlocks hP hK hD hS dX5_wallOf_15 (by simp [rWallOf, hw1])
theorem inX5_hands : ∀ w ∈ wsX50, w ∈ wsX5_hands := by decide +kernel
set_option maxHeartbeats 8000000 in
set_option maxRecDepth 100000 in
/-- hands -/
theorem c_X5_hands (l : Launch) (D : va_G) (cI cZ cG : ClassId) (h5 : Nat) (a5 : Nat → Nat) (sz : Nat) (nr : Nat) (nt : Nat) (nc : Nat) (nw : Nat) (hd : Int32) (wk : Nat) (ng : Nat) (nT : Nat) (mi : Int32) (nf : Nat) (nn : Nat) (mru : Nat → Int32) (mth : Nat → Int32) (mcl : Nat → Int32) (mfa : Nat → Int32) (mwa : Nat → Int32) (mfz : Nat → Int32) (mbl : Nat → Int32) (mbk : Nat → Int32) (mtr : Nat → Int32) (mno : Nat → Int32) (mlo : Nat → Int32) (mip : Nat → Int32) (mto : Nat → Int32) (x : Int32) (hnr : nr ≤ 6) (hnt : nt ≤ 20) (hnc : nc ≤ 60) (hnw : nw ≤ 24) (hwk : wk ≤ 200) (hng : ng ≤ 3) (hnT : nT ≤ 4) (hnf : nf ≤ 12) (hnn : nn ≤ 60) : Met l yX5_hands wsX5_hands ({ frames := 2, cells := 0, slots := 0, locals := 42 } : Room) (va_Pc [.ref h5, .int x] (PB D (tyL cI cZ cG) (wX5 cI cZ cG h5 a5 (nI nr) (nI nt) (nI nc) (nI nw) hd (nI wk) (nI ng) (nI nT) mi (nI nf) (nI nn) mru mth mcl mfa mwa mfz mbl mbk mtr mno mlo mip mto) sz)) (va_Qi (fun (r : Int32) (u : Int32) => r = (if inR x 0 500 = true then hd else -2) ∧ u = if inR x 0 500 = true then x else hd) (fun u => QB D (tyL cI cZ cG) (va_A (wX5 cI cZ cG h5 a5 (nI nr) (nI nt) (nI nc) (nI nw) hd (nI wk) (nI ng) (nI nT) mi (nI nf) (nI nn) mru mth mcl mfa mwa mfz mbl mbk mtr mno mlo mip mto) sz) ((fun (u : Int32) => wX5 cI cZ cG h5 a5 (nI nr) (nI nt) (nI nc) (nI nw) u (nI wk) (nI ng) (nI nT) mi (nI nf) (nI nn) mru mth mcl mfa mwa mfz mbl mbk mtr mno mlo mip mto) u)) (va_A (wX5 cI cZ cG h5 a5 (nI nr) (nI nt) (nI nc) (nI nw) hd (nI wk) (nI ng) (nI nT) mi (nI nf) (nI nn) mru mth mcl mfa mwa mfz mbl mbk mtr mno mlo mip mto) sz)) 0 0 (va_A (wX5 cI cZ cG h5 a5 (nI nr) (nI nt) (nI nc) (nI nw) hd (nI wk) (nI ng) (nI nT) mi (nI nf) (nI nn) mru mth mcl mfa mwa mfz mbl mbk mtr mno mlo mip mto) sz) := by
  refine K_start (cc := cX5_hands) (maxL := 3) (ret := some .int) (Qc := fun A => va_Qi (fun (r : Int32) (u : Int32) => r = (if inR x 0 500 = true then hd else -2) ∧ u = if inR x 0 500 = true then x else hd) (fun u => QB D (tyL cI cZ cG) A ((fun (u : Int32) => wX5 cI cZ cG h5 a5 (nI nr) (nI nt) (nI nc) (nI nw) u (nI wk) (nI ng) (nI nT) mi (nI nf) (nI nn) mru mth mcl mfa mwa mfz mbl mbk mtr mno mlo mip mto) u)) A) (by decide) rfl (Nat.le_of_ble_eq_true rfl) ?_
  intro p e s m below meth c ls A hx hb hml hr hts hown hlocks hin hN hP hK hD hA hS hl hsz
  have hl : lv_has ls 3 [(0, .ref h5), (1, .int x)] := hl
  have fl25 := hts (.fieldLink RX5 25 "ModelTownModel" "hands" "I") (by decide +kernel)
  refine lv_iload_n hx hb dX5_hands_0 rfl (lv_at hl 1 rfl) ?_
  refine K_none (va_runS (As := [.int x]) (rest := []) ⟨hx, hb, hml, hown, hts⟩ (c_X5_areHands l D cI cZ cG _ x) (va_cwS 1 hts gX5_hands_X5_areHands rfl rfl rfl (by decide +kernel) ⟨(Nat.le_of_ble_eq_true rfl), (Nat.le_of_ble_eq_true rfl)⟩) (K_pre0 hN hK) rfl rfl hl.1 rfl (lv_room (Nat.le_of_ble_eq_true rfl)) dX5_hands_1 ⟨Nat.zero_le _, Nat.zero_le _⟩) hP hS hA (fun r1 _ H locs hw1 hP hS => ?_)
  rcases hw1 with ⟨rfl, hw1⟩ | ⟨rfl, hw1⟩
  · skip
    refine lv_if_ne (tgt := 10) hx hb dX5_hands_4 (by decide) (fun _ => ?_) (fun c2 => absurd c2 (by decide))
    refine lv_aload_n hx hb dX5_hands_10 rfl (lv_at hl 0 rfl) ?_
    refine va_get (D := D) (ci := 5) (v := .int hd) (C := RX5) (T := TX5) (N := 24) hx hb hts inX5_hands hown hK hP 0 rfl rfl 9 (by decide) fl25 (fun _ h9 => h9) rfl dX5_hands_11 ?_
    refine lv_istore_n (lv' := [(2, .int hd), (0, .ref h5), (1, .int x)]) hx hb dX5_hands_14 rfl hl (by decide) rfl (fun ls hl => ?_)
    refine lv_aload_n hx hb dX5_hands_15 rfl (lv_at hl 1 rfl) ?_
    refine lv_iload_n hx hb dX5_hands_16 rfl (lv_at hl 2 rfl) ?_
    refine va_put (D := D) (ci := 5) (v := .int x) (ty := .int) (C := RX5) (T := TX5) (N := 24) hx hb hts inX5_hands tyX5 tyX5_ok nmX5 hown hK hP hD hS 0 rfl rfl 9 (by decide) fl25 (fun _ h9 => h9) rfl (by decide +kernel) rfl rfl (Nat.le_of_ble_eq_true rfl) dX5_hands_17 (fun H locs hP hD hS => ?_)
    have hP : va_P D vwCl (wX5 cI cZ cG h5 a5 (nI nr) (nI nt) (nI nc) (nI nw) x (nI wk) (nI ng) (nI nT) mi (nI nf) (nI nn) mru mth mcl mfa mwa mfz mbl mbk mtr mno mlo mip mto) H := hP
    have hD : va_D A (wX5 cI cZ cG h5 a5 (nI nr) (nI nt) (nI nc) (nI nw) x (nI wk) (nI ng) (nI nT) mi (nI nf) (nI nn) mru mth mcl mfa mwa mfz mbl mbk mtr mno mlo mip mto) := hD
    refine lv_iload_n hx hb dX5_hands_20 rfl (lv_at hl 0 rfl) ?_
    exact K_iret (wf := (fun (u : Int32) => wX5 cI cZ cG h5 a5 (nI nr) (nI nt) (nI nc) (nI nw) u (nI wk) (nI ng) (nI nT) mi (nI nf) (nI nn) mru mth mcl mfa mwa mfz mbl mbk mtr mno mlo mip mto)) x hx hb hr hlocks hP hK hD hS dX5_hands_21 (by simp [if_true, hw1])
  · skip
    refine lv_if_ne (tgt := 10) hx hb dX5_hands_4 (by decide) (fun c3 => absurd c3 (by decide)) (fun _ => ?_)
    refine lv_bipush (v := (-2)) hx hb dX5_hands_7 (by decide) ?_
    exact K_iret (wf := (fun (u : Int32) => wX5 cI cZ cG h5 a5 (nI nr) (nI nt) (nI nc) (nI nw) u (nI wk) (nI ng) (nI nT) mi (nI nf) (nI nn) mru mth mcl mfa mwa mfz mbl mbk mtr mno mlo mip mto)) hd hx hb hr hlocks hP hK hD hS dX5_hands_9 (by simp [if_true, hw1])
theorem inX5_frost : ∀ w ∈ wsX50, w ∈ wsX5_frost := by decide +kernel
set_option maxHeartbeats 8000000 in
set_option maxRecDepth 100000 in
/-- frost -/
theorem c_X5_frost (l : Launch) (D : va_G) (cI cZ cG : ClassId) (h5 : Nat) (a5 : Nat → Nat) (sz : Nat) (nr : Nat) (nt : Nat) (nc : Nat) (nw : Nat) (hd : Int32) (wk : Nat) (ng : Nat) (nT : Nat) (mi : Int32) (nf : Nat) (nn : Nat) (mru : Nat → Int32) (mth : Nat → Int32) (mcl : Nat → Int32) (mfa : Nat → Int32) (mwa : Nat → Int32) (mfz : Nat → Int32) (mbl : Nat → Int32) (mbk : Nat → Int32) (mtr : Nat → Int32) (mno : Nat → Int32) (mlo : Nat → Int32) (mip : Nat → Int32) (mto : Nat → Int32) (x : Int32) (z : Int32) (hnr : nr ≤ 6) (hnt : nt ≤ 20) (hnc : nc ≤ 60) (hnw : nw ≤ 24) (hwk : wk ≤ 200) (hng : ng ≤ 3) (hnT : nT ≤ 4) (hnf : nf ≤ 12) (hnn : nn ≤ 60) (hfz : ∀ t, mfz t = 0 ∨ mfz t = 1) (hz01 : z = 0 ∨ z = 1) : Met l yX5_frost wsX5_frost ({ frames := 1, cells := 0, slots := 0, locals := 22 } : Room) (va_Pc [.ref h5, .int x, .int z] (PB D (tyL cI cZ cG) (wX5 cI cZ cG h5 a5 (nI nr) (nI nt) (nI nc) (nI nw) hd (nI wk) (nI ng) (nI nT) mi (nI nf) (nI nn) mru mth mcl mfa mwa mfz mbl mbk mtr mno mlo mip mto) sz)) (va_Qi (fun (r : Int32) (u : Nat → Int32) => r = rFrost wk mfz x ∧ u = if inR x 0 199 = true ∧ wk ≤ x.toNatClampNeg then upd mfz x.toNatClampNeg z else mfz) (fun u => QB D (tyL cI cZ cG) (va_A (wX5 cI cZ cG h5 a5 (nI nr) (nI nt) (nI nc) (nI nw) hd (nI wk) (nI ng) (nI nT) mi (nI nf) (nI nn) mru mth mcl mfa mwa mfz mbl mbk mtr mno mlo mip mto) sz) ((fun (u : (Nat → Int32)) => wX5 cI cZ cG h5 a5 (nI nr) (nI nt) (nI nc) (nI nw) hd (nI wk) (nI ng) (nI nT) mi (nI nf) (nI nn) mru mth mcl mfa mwa u mbl mbk mtr mno mlo mip mto) u)) (va_A (wX5 cI cZ cG h5 a5 (nI nr) (nI nt) (nI nc) (nI nw) hd (nI wk) (nI ng) (nI nT) mi (nI nf) (nI nn) mru mth mcl mfa mwa mfz mbl mbk mtr mno mlo mip mto) sz)) 0 0 (va_A (wX5 cI cZ cG h5 a5 (nI nr) (nI nt) (nI nc) (nI nw) hd (nI wk) (nI ng) (nI nT) mi (nI nf) (nI nn) mru mth mcl mfa mwa mfz mbl mbk mtr mno mlo mip mto) sz) := by
  refine K_start (cc := cX5_frost) (maxL := 4) (ret := some .int) (Qc := fun A => va_Qi (fun (r : Int32) (u : Nat → Int32) => r = rFrost wk mfz x ∧ u = if inR x 0 199 = true ∧ wk ≤ x.toNatClampNeg then upd mfz x.toNatClampNeg z else mfz) (fun u => QB D (tyL cI cZ cG) A ((fun (u : (Nat → Int32)) => wX5 cI cZ cG h5 a5 (nI nr) (nI nt) (nI nc) (nI nw) hd (nI wk) (nI ng) (nI nT) mi (nI nf) (nI nn) mru mth mcl mfa mwa u mbl mbk mtr mno mlo mip mto) u)) A) (by decide) rfl (Nat.le_of_ble_eq_true rfl) ?_
  intro p e s m below meth c ls A hx hb hml hr hts hown hlocks hin hN hP hK hD hA hS hl hsz
  have hl : lv_has ls 4 [(0, .ref h5), (1, .int x), (2, .int z)] := hl
  have fl91 := hts (.fieldLink RX5 91 "ModelTownModel" "week" "I") (by decide +kernel)
  have fl29 := hts (.fieldLink RX5 29 "ModelTownModel" "isFrost" "[Z") (by decide +kernel)
  refine lv_iload_n hx hb dX5_frost_0 rfl (lv_at hl 1 rfl) ?_
  refine lv_iconst (v := 0) hx hb dX5_frost_1 (by decide) ?_
  refine lv_sipush (v := 199) hx hb dX5_frost_2 (by decide) ?_
  refine K_none (va_runS (As := [.int x, .int 0, .int 199]) (rest := []) ⟨hx, hb, hml, hown, hts⟩ (c_X5_in l D cI cZ cG _ x 0 199) (va_cwS 3 hts gX5_frost_X5_in rfl rfl rfl (by decide +kernel) ⟨(Nat.le_of_ble_eq_true rfl), (Nat.le_of_ble_eq_true rfl)⟩) (K_pre0 hN hK) rfl rfl hl.1 rfl (lv_room (Nat.le_of_ble_eq_true rfl)) dX5_frost_5 ⟨Nat.zero_le _, Nat.zero_le _⟩) hP hS hA (fun r1 _ H locs hw1 hP hS => ?_)
  rcases hw1 with ⟨rfl, hw1⟩ | ⟨rfl, hw1⟩
  · obtain ⟨j0, hj01, hj02, rfl⟩ := inR_nat1 (a := 0) (b := 199) hw1 (by decide) (by decide)
    have hcj0 : (nI j0).toNatClampNeg = j0 := nI_clamp (by omega)
    refine lv_if_ne (tgt := 14) hx hb dX5_frost_8 (by decide) (fun _ => ?_) (fun c2 => absurd c2 (by decide))
    refine lv_iload_n hx hb dX5_frost_14 rfl (lv_at hl 1 rfl) ?_
    refine lv_aload_n hx hb dX5_frost_15 rfl (lv_at hl 0 rfl) ?_
    refine va_get (D := D) (ci := 5) (v := .int (nI wk)) (C := RX5) (T := TX5) (N := 24) hx hb hts inX5_frost hown hK hP 0 rfl rfl 11 (by decide) fl91 (fun _ h9 => h9) rfl dX5_frost_16 ?_
    refine lv_icmp_ge (tgt := 25) hx hb dX5_frost_19 (by decide) (fun c3 => ?_) (fun c3 => ?_)
    · have c3 : wk ≤ j0 := (nI_leI (a := wk) (b := j0) (by omega) (by omega)).mp c3
      refine lv_aload_n hx hb dX5_frost_25 rfl (lv_at hl 0 rfl) ?_
      refine va_get (D := D) (ci := 5) (v := .ref (a5 5)) (C := RX5) (T := TX5) (N := 24) hx hb hts inX5_frost hown hK hP 0 rfl rfl 10 (by decide) fl29 (fun _ h9 => h9) rfl dX5_frost_26 ?_
      refine lv_iload_n hx hb dX5_frost_29 rfl (lv_at hl 1 rfl) ?_
      refine K_zald hx hb hK hP 6 1 rfl rfl j0 (by omega) (Nat.le_of_ble_eq_true rfl) dX5_frost_30 ?_
      refine lv_if_eq (tgt := 38) hx hb dX5_frost_31 (by decide) (fun c4 => ?_) (fun c4 => ?_)
      · have c4 : mfz j0 = 0 := c4
        refine lv_iconst (v := 0) hx hb dX5_frost_38 (by decide) ?_
        refine lv_istore_n (lv' := [(3, .int 0), (0, .ref h5), (1, .int (nI j0)), (2, .int z)]) hx hb dX5_frost_39 rfl hl (by decide) rfl (fun ls hl => ?_)
        refine lv_aload_n hx hb dX5_frost_40 rfl (lv_at hl 1 rfl) ?_
        refine va_get (D := D) (ci := 5) (v := .ref (a5 5)) (C := RX5) (T := TX5) (N := 24) hx hb hts inX5_frost hown hK hP 0 rfl rfl 10 (by decide) fl29 (fun _ h9 => h9) rfl dX5_frost_41 ?_
        refine lv_iload_n hx hb dX5_frost_44 rfl (lv_at hl 2 rfl) ?_
        refine lv_iload_n hx hb dX5_frost_45 rfl (lv_at hl 3 rfl) ?_
        refine K_zast hx hb hK hP hD hS 6 1 rfl rfl j0 (by omega) (Nat.le_of_ble_eq_true rfl) (nar01 hz01) dX5_frost_46 (fun H locs hP hD hS => ?_)
        have hP : va_P D vwCl (wX5 cI cZ cG h5 a5 (nI nr) (nI nt) (nI nc) (nI nw) hd (nI wk) (nI ng) (nI nT) mi (nI nf) (nI nn) mru mth mcl mfa mwa (upd mfz j0 z) mbl mbk mtr mno mlo mip mto) H := hP
        have hD : va_D A (wX5 cI cZ cG h5 a5 (nI nr) (nI nt) (nI nc) (nI nw) hd (nI wk) (nI ng) (nI nT) mi (nI nf) (nI nn) mru mth mcl mfa mwa (upd mfz j0 z) mbl mbk mtr mno mlo mip mto) := hD
        refine lv_iload_n hx hb dX5_frost_47 rfl (lv_at hl 0 rfl) ?_
        exact K_iret (wf := (fun (u : (Nat → Int32)) => wX5 cI cZ cG h5 a5 (nI nr) (nI nt) (nI nc) (nI nw) hd (nI wk) (nI ng) (nI nT) mi (nI nf) (nI nn) mru mth mcl mfa mwa u mbl mbk mtr mno mlo mip mto)) (upd mfz j0 z) hx hb hr hlocks hP hK hD hS dX5_frost_48 (by simp [rFrost, hw1, hcj0, c3, c4])
      · have c4 : mfz j0 = 1 := (hfz j0).resolve_left c4
        refine lv_iconst (v := 1) hx hb dX5_frost_34 (by decide) ?_
        refine lv_goto (tgt := 39) hx hb dX5_frost_35 (by decide) ?_
        refine lv_istore_n (lv' := [(3, .int 1), (0, .ref h5), (1, .int (nI j0)), (2, .int z)]) hx hb dX5_frost_39 rfl hl (by decide) rfl (fun ls hl => ?_)
        refine lv_aload_n hx hb dX5_frost_40 rfl (lv_at hl 1 rfl) ?_
        refine va_get (D := D) (ci := 5) (v := .ref (a5 5)) (C := RX5) (T := TX5) (N := 24) hx hb hts inX5_frost hown hK hP 0 rfl rfl 10 (by decide) fl29 (fun _ h9 => h9) rfl dX5_frost_41 ?_
        refine lv_iload_n hx hb dX5_frost_44 rfl (lv_at hl 2 rfl) ?_
        refine lv_iload_n hx hb dX5_frost_45 rfl (lv_at hl 3 rfl) ?_
        refine K_zast hx hb hK hP hD hS 6 1 rfl rfl j0 (by omega) (Nat.le_of_ble_eq_true rfl) (nar01 hz01) dX5_frost_46 (fun H locs hP hD hS => ?_)
        have hP : va_P D vwCl (wX5 cI cZ cG h5 a5 (nI nr) (nI nt) (nI nc) (nI nw) hd (nI wk) (nI ng) (nI nT) mi (nI nf) (nI nn) mru mth mcl mfa mwa (upd mfz j0 z) mbl mbk mtr mno mlo mip mto) H := hP
        have hD : va_D A (wX5 cI cZ cG h5 a5 (nI nr) (nI nt) (nI nc) (nI nw) hd (nI wk) (nI ng) (nI nT) mi (nI nf) (nI nn) mru mth mcl mfa mwa (upd mfz j0 z) mbl mbk mtr mno mlo mip mto) := hD
        refine lv_iload_n hx hb dX5_frost_47 rfl (lv_at hl 0 rfl) ?_
        exact K_iret (wf := (fun (u : (Nat → Int32)) => wX5 cI cZ cG h5 a5 (nI nr) (nI nt) (nI nc) (nI nw) hd (nI wk) (nI ng) (nI nT) mi (nI nf) (nI nn) mru mth mcl mfa mwa u mbl mbk mtr mno mlo mip mto)) (upd mfz j0 z) hx hb hr hlocks hP hK hD hS dX5_frost_48 (by simp [rFrost, hw1, hcj0, c3, c4])
    · have c3 : ¬ wk ≤ j0 := fun hq => c3 ((nI_leI (a := wk) (b := j0) (by omega) (by omega)).mpr hq)
      refine lv_bipush (v := (-5)) hx hb dX5_frost_22 (by decide) ?_
      exact K_iret (wf := (fun (u : (Nat → Int32)) => wX5 cI cZ cG h5 a5 (nI nr) (nI nt) (nI nc) (nI nw) hd (nI wk) (nI ng) (nI nT) mi (nI nf) (nI nn) mru mth mcl mfa mwa u mbl mbk mtr mno mlo mip mto)) mfz hx hb hr hlocks hP hK hD hS dX5_frost_24 (by simp [rFrost, hw1, hcj0, c3])
  · skip
    refine lv_if_ne (tgt := 14) hx hb dX5_frost_8 (by decide) (fun c5 => absurd c5 (by decide)) (fun _ => ?_)
    refine lv_bipush (v := (-2)) hx hb dX5_frost_11 (by decide) ?_
    exact K_iret (wf := (fun (u : (Nat → Int32)) => wX5 cI cZ cG h5 a5 (nI nr) (nI nt) (nI nc) (nI nw) hd (nI wk) (nI ng) (nI nT) mi (nI nf) (nI nn) mru mth mcl mfa mwa u mbl mbk mtr mno mlo mip mto)) mfz hx hb hr hlocks hP hK hD hS dX5_frost_13 (by simp [rFrost, hw1])
theorem inX5_layLooks : ∀ w ∈ wsX50, w ∈ wsX5_layLooks := by decide +kernel
set_option maxHeartbeats 8000000 in
set_option maxRecDepth 100000 in
/-- layLooks -/
theorem c_X5_layLooks (l : Launch) (D : va_G) (cI cZ cG : ClassId) (h5 : Nat) (a5 : Nat → Nat) (sz : Nat) (nr : Nat) (nt : Nat) (nc : Nat) (nw : Nat) (hd : Int32) (wk : Nat) (ng : Nat) (nT : Nat) (mi : Int32) (nf : Nat) (nn : Nat) (mru : Nat → Int32) (mth : Nat → Int32) (mcl : Nat → Int32) (mfa : Nat → Int32) (mwa : Nat → Int32) (mfz : Nat → Int32) (mbl : Nat → Int32) (mbk : Nat → Int32) (mtr : Nat → Int32) (mno : Nat → Int32) (mlo : Nat → Int32) (mip : Nat → Int32) (mto : Nat → Int32) (hnr : nr ≤ 6) (hnt : nt ≤ 20) (hnc : nc ≤ 60) (hnw : nw ≤ 24) (hwk : wk ≤ 200) (hng : ng ≤ 3) (hnT : nT ≤ 4) (hnf : nf ≤ 12) (hnn : nn ≤ 60) : Met l yX5_layLooks wsX5_layLooks ({ frames := 0, cells := 0, slots := 0, locals := 0 } : Room) (va_Pc [.ref h5] (PB D (tyL cI cZ cG) (wX5 cI cZ cG h5 a5 (nI nr) (nI nt) (nI nc) (nI nw) hd (nI wk) (nI ng) (nI nT) mi (nI nf) (nI nn) mru mth mcl mfa mwa mfz mbl mbk mtr mno mlo mip mto) sz)) (va_Qv (fun (u : Nat → Int32) => u = lL mwa mlo nw) (fun u => QB D (tyL cI cZ cG) (va_A (wX5 cI cZ cG h5 a5 (nI nr) (nI nt) (nI nc) (nI nw) hd (nI wk) (nI ng) (nI nT) mi (nI nf) (nI nn) mru mth mcl mfa mwa mfz mbl mbk mtr mno mlo mip mto) sz) ((fun (u : (Nat → Int32)) => wX5 cI cZ cG h5 a5 (nI nr) (nI nt) (nI nc) (nI nw) hd (nI wk) (nI ng) (nI nT) mi (nI nf) (nI nn) mru mth mcl mfa mwa mfz mbl mbk mtr mno u mip mto) u)) (va_A (wX5 cI cZ cG h5 a5 (nI nr) (nI nt) (nI nc) (nI nw) hd (nI wk) (nI ng) (nI nT) mi (nI nf) (nI nn) mru mth mcl mfa mwa mfz mbl mbk mtr mno mlo mip mto) sz)) 0 0 (va_A (wX5 cI cZ cG h5 a5 (nI nr) (nI nt) (nI nc) (nI nw) hd (nI wk) (nI ng) (nI nT) mi (nI nf) (nI nn) mru mth mcl mfa mwa mfz mbl mbk mtr mno mlo mip mto) sz) := by
  refine K_start (cc := cX5_layLooks) (maxL := 2) (ret := none) (Qc := fun A => va_Qv (fun (u : Nat → Int32) => u = lL mwa mlo nw) (fun u => QB D (tyL cI cZ cG) A ((fun (u : (Nat → Int32)) => wX5 cI cZ cG h5 a5 (nI nr) (nI nt) (nI nc) (nI nw) hd (nI wk) (nI ng) (nI nT) mi (nI nf) (nI nn) mru mth mcl mfa mwa mfz mbl mbk mtr mno u mip mto) u)) A) (by decide) rfl (Nat.le_of_ble_eq_true rfl) ?_
  intro p e s m below meth c ls A hx hb hml hr hts hown hlocks hin hN hP hK hD hA hS hl hsz
  have hl : lv_has ls 2 [(0, .ref h5)] := hl
  have fl85 := hts (.fieldLink RX5 85 "ModelTownModel" "walls" "I") (by decide +kernel)
  have fl45 := hts (.fieldLink RX5 45 "ModelTownModel" "looks" "[I") (by decide +kernel)
  have fl22 := hts (.fieldLink RX5 22 "ModelTownModel" "wall" "[I") (by decide +kernel)
  refine lv_iconst (v := 0) hx hb dX5_layLooks_0 (by decide) ?_
  refine lv_istore_n (lv' := [(1, .int 0), (0, .ref h5)]) hx hb dX5_layLooks_1 rfl hl (by decide) rfl (fun ls hl => ?_)
  refine loopW2 (fun (k : Nat) (L : Nat → Int32) H locs ls => (k ≤ nw) ∧ (L = lL mwa mlo k) ∧ va_P D vwCl (wX5 cI cZ cG h5 a5 (nI nr) (nI nt) (nI nc) (nI nw) hd (nI wk) (nI ng) (nI nT) mi (nI nf) (nI nn) mru mth mcl mfa mwa mfz mbl mbk mtr mno L mip mto) H ∧ va_D A (wX5 cI cZ cG h5 a5 (nI nr) (nI nt) (nI nc) (nI nw) hd (nI wk) (nI ng) (nI nT) mi (nI nf) (nI nn) mru mth mcl mfa mwa mfz mbl mbk mtr mno L mip mto) ∧ va_S A s.heap H locs ∧ lv_has ls 2 [(1, .int (nI k)), (0, .ref h5)]) (fun (k : Nat) (L : Nat → Int32) => nw - k) (fun k L H locs ls hI ih2 => ?_) 0 mlo _ _ _ ⟨(by omega), rfl, hP, hD, hS, lv_sub hl [0, 1] rfl⟩
  obtain ⟨hk, hL, hP, hD, hS, hl⟩ := hI
  refine lv_iload_n hx hb dX5_layLooks_2 rfl (lv_at hl 0 rfl) ?_
  refine lv_aload_n hx hb dX5_layLooks_3 rfl (lv_at hl 1 rfl) ?_
  refine va_get (D := D) (ci := 5) (v := .int (nI nw)) (C := RX5) (T := TX5) (N := 24) hx hb hts inX5_layLooks hown hK hP 0 rfl rfl 7 (by decide) fl85 (fun _ h9 => h9) rfl dX5_layLooks_4 ?_
  refine lv_icmp_ge (tgt := 32) hx hb dX5_layLooks_7 (by decide) (fun c1 => ?_) (fun c1 => ?_)
  · have c1 : nw ≤ k := (nI_leI (a := nw) (b := k) (by omega) (by omega)).mp c1
    have ek : k = nw := by omega
    rw [ek] at hL
    exact K_vret (wf := (fun (u : (Nat → Int32)) => wX5 cI cZ cG h5 a5 (nI nr) (nI nt) (nI nc) (nI nw) hd (nI wk) (nI ng) (nI nT) mi (nI nf) (nI nn) mru mth mcl mfa mwa mfz mbl mbk mtr mno u mip mto)) L hx hb hr hlocks hP hK hD hS dX5_layLooks_32 hL
  · have c1 : ¬ nw ≤ k := fun hq => c1 ((nI_leI (a := nw) (b := k) (by omega) (by omega)).mpr hq)
    refine lv_aload_n hx hb dX5_layLooks_10 rfl (lv_at hl 1 rfl) ?_
    refine va_get (D := D) (ci := 5) (v := .ref (a5 10)) (C := RX5) (T := TX5) (N := 24) hx hb hts inX5_layLooks hown hK hP 0 rfl rfl 21 (by decide) fl45 (fun _ h9 => h9) rfl dX5_layLooks_11 ?_
    refine lv_iload_n hx hb dX5_layLooks_14 rfl (lv_at hl 0 rfl) ?_
    refine lv_aload_n hx hb dX5_layLooks_15 rfl (lv_at hl 1 rfl) ?_
    refine va_get (D := D) (ci := 5) (v := .ref (a5 4)) (C := RX5) (T := TX5) (N := 24) hx hb hts inX5_layLooks hown hK hP 0 rfl rfl 8 (by decide) fl22 (fun _ h9 => h9) rfl dX5_layLooks_16 ?_
    refine lv_iconst (v := 5) hx hb dX5_layLooks_19 (by decide) ?_
    refine lv_iload_n hx hb dX5_layLooks_20 rfl (lv_at hl 0 rfl) ?_
    refine lv_imul hx hb dX5_layLooks_21 ?_
    refine lv_topi (fun z2 ez2 => ?_)
    obtain rfl : z2 = nI (5 * k) := ez2.trans (pk_mul 5 k)
    refine lv_iconst (v := 3) hx hb dX5_layLooks_22 (by decide) ?_
    refine lv_iadd hx hb dX5_layLooks_23 ?_
    refine lv_topi (fun z3 ez3 => ?_)
    obtain rfl : z3 = nI (5 * k + 3) := ez3.trans ((nI_add (5 * k) 3).trans (congrArg nI (by omega)))
    refine K_iald hx hb hK hP 5 0 rfl rfl (5 * k + 3) (by omega) (Nat.le_of_ble_eq_true rfl) dX5_layLooks_24 ?_
    refine K_iast hx hb hK hP hD hS 11 0 rfl rfl k (by omega) (Nat.le_of_ble_eq_true rfl) dX5_layLooks_25 (fun H locs hP hD hS => ?_)
    have hP : va_P D vwCl (wX5 cI cZ cG h5 a5 (nI nr) (nI nt) (nI nc) (nI nw) hd (nI wk) (nI ng) (nI nT) mi (nI nf) (nI nn) mru mth mcl mfa mwa mfz mbl mbk mtr mno (upd L k (mwa (5 * k + 3))) mip mto) H := hP
    have hD : va_D A (wX5 cI cZ cG h5 a5 (nI nr) (nI nt) (nI nc) (nI nw) hd (nI wk) (nI ng) (nI nT) mi (nI nf) (nI nn) mru mth mcl mfa mwa mfz mbl mbk mtr mno (upd L k (mwa (5 * k + 3))) mip mto) := hD
    refine lv_iinc (v := nI (k + 1)) (lv' := [(1, .int (nI (k + 1))), (0, .ref h5)]) hx hb dX5_layLooks_26 hl (k := 0) rfl (inc1 _) (by decide) rfl (fun ls hl => ?_)
    refine lv_goto (tgt := 2) hx hb dX5_layLooks_29 (by decide) ?_
    exact ih2 (k + 1) (upd L k (mwa (5 * k + 3))) _ _ _ ⟨(by omega), (by rw [lL, ← hL]), hP, hD, hS, lv_sub hl [0, 1] rfl⟩ (by omega)
theorem inX5_goWeek : ∀ w ∈ wsX50, w ∈ wsX5_goWeek := by decide +kernel
set_option maxHeartbeats 8000000 in
set_option maxRecDepth 100000 in
/-- goWeek -/
theorem c_X5_goWeek (l : Launch) (D : va_G) (cI cZ cG : ClassId) (h5 : Nat) (a5 : Nat → Nat) (sz : Nat) (nr : Nat) (nt : Nat) (nc : Nat) (nw : Nat) (hd : Int32) (wk : Nat) (ng : Nat) (nT : Nat) (mi : Int32) (nf : Nat) (nn : Nat) (mru : Nat → Int32) (mth : Nat → Int32) (mcl : Nat → Int32) (mfa : Nat → Int32) (mwa : Nat → Int32) (mfz : Nat → Int32) (mbl : Nat → Int32) (mbk : Nat → Int32) (mtr : Nat → Int32) (mno : Nat → Int32) (mlo : Nat → Int32) (mip : Nat → Int32) (mto : Nat → Int32) (w : Nat) (v0 : Int32) (hnr : nr ≤ 6) (hnt : nt ≤ 20) (hnc : nc ≤ 60) (hnw : nw ≤ 24) (hwk : wk ≤ 200) (hng : ng ≤ 3) (hnT : nT ≤ 4) (hnf : nf ≤ 12) (hnn : nn ≤ 60) (hsd : ∀ k, k < nw → ∃ j, j < 4 ∧ col 5 1 mwa k = nI j) (hw200 : w < 200) : Met l yX5_goWeek wsX5_goWeek ({ frames := 0, cells := 0, slots := 0, locals := 0 } : Room) (va_Pc [.ref h5, .int (nI w), .int v0] (PB D (tyL cI cZ cG) (wX5 cI cZ cG h5 a5 (nI nr) (nI nt) (nI nc) (nI nw) hd (nI wk) (nI ng) (nI nT) mi (nI nf) (nI nn) mru mth mcl mfa mwa mfz mbl mbk mtr mno mlo mip mto) sz)) (va_Qi (fun (r : Int32) (u : (Nat → Int32) × (Nat → Int32)) => ∃ (p : Nat) (L : Nat → Int32), r = nI p ∧ okWQ mfz (col 5 2 mwa) nw w v0 mlo p L u.2 ∧ u.1 = fF mfa (col 5 1 mwa) L nw) (fun u => QB D (tyL cI cZ cG) (va_A (wX5 cI cZ cG h5 a5 (nI nr) (nI nt) (nI nc) (nI nw) hd (nI wk) (nI ng) (nI nT) mi (nI nf) (nI nn) mru mth mcl mfa mwa mfz mbl mbk mtr mno mlo mip mto) sz) ((fun (u : (Nat → Int32) × (Nat → Int32)) => wX5 cI cZ cG h5 a5 (nI nr) (nI nt) (nI nc) (nI nw) hd (nI wk) (nI ng) (nI nT) mi (nI nf) (nI nn) mru mth mcl mfa mwa mfz mbl mbk mtr mno u.1 u.2 mto) u)) (va_A (wX5 cI cZ cG h5 a5 (nI nr) (nI nt) (nI nc) (nI nw) hd (nI wk) (nI ng) (nI nT) mi (nI nf) (nI nn) mru mth mcl mfa mwa mfz mbl mbk mtr mno mlo mip mto) sz)) 0 0 (va_A (wX5 cI cZ cG h5 a5 (nI nr) (nI nt) (nI nc) (nI nw) hd (nI wk) (nI ng) (nI nT) mi (nI nf) (nI nn) mru mth mcl mfa mwa mfz mbl mbk mtr mno mlo mip mto) sz) := by
  refine K_start (cc := cX5_goWeek) (maxL := 8) (ret := some .int) (Qc := fun A => va_Qi (fun (r : Int32) (u : (Nat → Int32) × (Nat → Int32)) => ∃ (p : Nat) (L : Nat → Int32), r = nI p ∧ okWQ mfz (col 5 2 mwa) nw w v0 mlo p L u.2 ∧ u.1 = fF mfa (col 5 1 mwa) L nw) (fun u => QB D (tyL cI cZ cG) A ((fun (u : (Nat → Int32) × (Nat → Int32)) => wX5 cI cZ cG h5 a5 (nI nr) (nI nt) (nI nc) (nI nw) hd (nI wk) (nI ng) (nI nT) mi (nI nf) (nI nn) mru mth mcl mfa mwa mfz mbl mbk mtr mno u.1 u.2 mto) u)) A) (by decide) rfl (Nat.le_of_ble_eq_true rfl) ?_
  intro p e s m below meth c ls A hx hb hml hr hts hown hlocks hin hN hP hK hD hA hS hl hsz
  have hl : lv_has ls 8 [(0, .ref h5), (1, .int (nI w)), (2, .int v0)] := hl
  have fl85 := hts (.fieldLink RX5 85 "ModelTownModel" "walls" "I") (by decide +kernel)
  have fl29 := hts (.fieldLink RX5 29 "ModelTownModel" "isFrost" "[Z") (by decide +kernel)
  have fl45 := hts (.fieldLink RX5 45 "ModelTownModel" "looks" "[I") (by decide +kernel)
  have fl19 := hts (.fieldLink RX5 19 "ModelTownModel" "fade" "[I") (by decide +kernel)
  have fl22 := hts (.fieldLink RX5 22 "ModelTownModel" "wall" "[I") (by decide +kernel)
  have fl48 := hts (.fieldLink RX5 48 "ModelTownModel" "isPainted" "[Z") (by decide +kernel)
  refine lv_iconst (v := 0) hx hb dX5_goWeek_0 (by decide) ?_
  refine lv_istore_n (lv' := [(3, .int 0), (0, .ref h5), (1, .int (nI w)), (2, .int v0)]) hx hb dX5_goWeek_1 rfl hl (by decide) rfl (fun ls hl => ?_)
  refine lv_iconst (v := 0) hx hb dX5_goWeek_2 (by decide) ?_
  refine lv_istore (lv' := [(4, .int 0), (3, .int 0), (0, .ref h5), (1, .int (nI w)), (2, .int v0)]) hx hb dX5_goWeek_3 hl (by decide) rfl (fun ls hl => ?_)
  refine loopW2 (fun (k : Nat) (P : Nat → Int32) H locs ls => (k ≤ nw) ∧ (∀ j, j < k → P j = 0) ∧ va_P D vwCl (wX5 cI cZ cG h5 a5 (nI nr) (nI nt) (nI nc) (nI nw) hd (nI wk) (nI ng) (nI nT) mi (nI nf) (nI nn) mru mth mcl mfa mwa mfz mbl mbk mtr mno mlo P mto) H ∧ va_D A (wX5 cI cZ cG h5 a5 (nI nr) (nI nt) (nI nc) (nI nw) hd (nI wk) (nI ng) (nI nT) mi (nI nf) (nI nn) mru mth mcl mfa mwa mfz mbl mbk mtr mno mlo P mto) ∧ va_S A s.heap H locs ∧ lv_has ls 8 [(4, .int (nI k)), (3, .int 0), (0, .ref h5), (1, .int (nI w)), (2, .int v0)]) (fun (k : Nat) (P : Nat → Int32) => nw - k) (fun k P H locs ls hI ih5 => ?_) 0 mip _ _ _ ⟨(by omega), (fun j hj => absurd hj (by omega)), hP, hD, hS, lv_sub hl [0, 1, 2, 3, 4] rfl⟩
  obtain ⟨hk, hz, hP, hD, hS, hl⟩ := hI
  refine lv_iload hx hb dX5_goWeek_5 (lv_at hl 0 rfl) ?_
  refine lv_aload_n hx hb dX5_goWeek_7 rfl (lv_at hl 2 rfl) ?_
  refine va_get (D := D) (ci := 5) (v := .int (nI nw)) (C := RX5) (T := TX5) (N := 24) hx hb hts inX5_goWeek hown hK hP 0 rfl rfl 7 (by decide) fl85 (fun _ h9 => h9) rfl dX5_goWeek_8 ?_
  refine lv_icmp_ge (tgt := 28) hx hb dX5_goWeek_11 (by decide) (fun c1 => ?_) (fun c1 => ?_)
  · have c1 : nw ≤ k := (nI_leI (a := nw) (b := k) (by omega) (by omega)).mp c1
    have ek : k = nw := by omega
    rw [ek] at hz
    refine lv_iload_n hx hb dX5_goWeek_28 rfl (lv_at hl 4 rfl) ?_
    refine lv_istore (lv' := [(4, .int v0), (3, .int 0), (0, .ref h5), (1, .int (nI w)), (2, .int v0)]) hx hb dX5_goWeek_29 hl (by decide) rfl (fun ls hl => ?_)
    refine lv_aload_n hx hb dX5_goWeek_31 rfl (lv_at hl 2 rfl) ?_
    refine va_get (D := D) (ci := 5) (v := .ref (a5 5)) (C := RX5) (T := TX5) (N := 24) hx hb hts inX5_goWeek hown hK hP 0 rfl rfl 10 (by decide) fl29 (fun _ h9 => h9) rfl dX5_goWeek_32 ?_
    refine lv_iload_n hx hb dX5_goWeek_35 rfl (lv_at hl 3 rfl) ?_
    refine K_zald hx hb hK hP 6 1 rfl rfl w (by omega) (Nat.le_of_ble_eq_true rfl) dX5_goWeek_36 ?_
    refine lv_if_ne (tgt := 44) hx hb dX5_goWeek_37 (by decide) (fun c2 => ?_) (fun c2 => ?_)
    · refine lv_iconst (v := 0) hx hb dX5_goWeek_44 (by decide) ?_
      refine lv_istore (lv' := [(5, .int 0), (4, .int v0), (3, .int 0), (0, .ref h5), (1, .int (nI w)), (2, .int v0)]) hx hb dX5_goWeek_45 hl (by decide) rfl (fun ls hl => ?_)
      refine lv_iload hx hb dX5_goWeek_47 (lv_at hl 0 rfl) ?_
      refine lv_if_eq (tgt := 199) hx hb dX5_goWeek_49 (by decide) (fun _ => ?_) (fun c3 => absurd c3 (by decide))
      have hW := okWQ_f (hw := col 5 2 mwa) (v0 := v0) (L0 := mlo) c2 hz
      refine lv_iconst (v := 0) hx hb dX5_goWeek_199 (by decide) ?_
      refine lv_istore (lv' := [(6, .int 0), (5, .int 0), (4, .int v0), (3, .int 0), (0, .ref h5), (1, .int (nI w)), (2, .int v0)]) hx hb dX5_goWeek_200 hl (by decide) rfl (fun ls hl => ?_)
      refine loopW2 (fun (k : Nat) (M : Nat → Int32) H locs ls => (k ≤ nw) ∧ (M = fF mfa (col 5 1 mwa) mlo k) ∧ va_P D vwCl (wX5 cI cZ cG h5 a5 (nI nr) (nI nt) (nI nc) (nI nw) hd (nI wk) (nI ng) (nI nT) mi (nI nf) (nI nn) mru mth mcl mfa mwa mfz mbl mbk mtr mno M P mto) H ∧ va_D A (wX5 cI cZ cG h5 a5 (nI nr) (nI nt) (nI nc) (nI nw) hd (nI wk) (nI ng) (nI nT) mi (nI nf) (nI nn) mru mth mcl mfa mwa mfz mbl mbk mtr mno M P mto) ∧ va_S A s.heap H locs ∧ lv_has ls 8 [(6, .int (nI k)), (5, .int 0), (4, .int v0), (3, .int 0), (0, .ref h5), (1, .int (nI w)), (2, .int v0)]) (fun (k : Nat) (M : Nat → Int32) => nw - k) (fun k M H locs ls hI ih202 => ?_) 0 mlo _ _ _ ⟨(by omega), rfl, hP, hD, hS, lv_sub hl [0, 1, 2, 3, 4, 5, 6] rfl⟩
      obtain ⟨hk, hM, hP, hD, hS, hl⟩ := hI
      refine lv_iload hx hb dX5_goWeek_202 (lv_at hl 0 rfl) ?_
      refine lv_aload_n hx hb dX5_goWeek_204 rfl (lv_at hl 4 rfl) ?_
      refine va_get (D := D) (ci := 5) (v := .int (nI nw)) (C := RX5) (T := TX5) (N := 24) hx hb hts inX5_goWeek hown hK hP 0 rfl rfl 7 (by decide) fl85 (fun _ h9 => h9) rfl dX5_goWeek_205 ?_
      refine lv_icmp_ge (tgt := 261) hx hb dX5_goWeek_208 (by decide) (fun c4 => ?_) (fun c4 => ?_)
      · have c4 : nw ≤ k := (nI_leI (a := nw) (b := k) (by omega) (by omega)).mp c4
        have ek : k = nw := by omega
        rw [ek] at hM
        refine lv_iload_n hx hb dX5_goWeek_261 rfl (lv_at hl 3 rfl) ?_
        exact K_iret (wf := (fun (u : (Nat → Int32) × (Nat → Int32)) => wX5 cI cZ cG h5 a5 (nI nr) (nI nt) (nI nc) (nI nw) hd (nI wk) (nI ng) (nI nT) mi (nI nf) (nI nn) mru mth mcl mfa mwa mfz mbl mbk mtr mno u.1 u.2 mto)) (M, P) hx hb hr hlocks hP hK hD hS dX5_goWeek_262 (⟨_, _, rfl, hW, hM⟩)
      · have c4 : ¬ nw ≤ k := fun hq => c4 ((nI_leI (a := nw) (b := k) (by omega) (by omega)).mpr hq)
        obtain ⟨j, hj, hsj⟩ := hsd k (by omega)
        refine lv_aload_n hx hb dX5_goWeek_211 rfl (lv_at hl 4 rfl) ?_
        refine va_get (D := D) (ci := 5) (v := .ref (a5 10)) (C := RX5) (T := TX5) (N := 24) hx hb hts inX5_goWeek hown hK hP 0 rfl rfl 21 (by decide) fl45 (fun _ h9 => h9) rfl dX5_goWeek_212 ?_
        refine lv_iload hx hb dX5_goWeek_215 (lv_at hl 0 rfl) ?_
        refine K_iald hx hb hK hP 11 0 rfl rfl k (by omega) (Nat.le_of_ble_eq_true rfl) dX5_goWeek_217 ?_
        refine lv_aload_n hx hb dX5_goWeek_218 rfl (lv_at hl 4 rfl) ?_
        refine va_get (D := D) (ci := 5) (v := .ref (a5 3)) (C := RX5) (T := TX5) (N := 24) hx hb hts inX5_goWeek hown hK hP 0 rfl rfl 6 (by decide) fl19 (fun _ h9 => h9) rfl dX5_goWeek_219 ?_
        refine lv_aload_n hx hb dX5_goWeek_222 rfl (lv_at hl 4 rfl) ?_
        refine va_get (D := D) (ci := 5) (v := .ref (a5 4)) (C := RX5) (T := TX5) (N := 24) hx hb hts inX5_goWeek hown hK hP 0 rfl rfl 8 (by decide) fl22 (fun _ h9 => h9) rfl dX5_goWeek_223 ?_
        refine lv_iconst (v := 5) hx hb dX5_goWeek_226 (by decide) ?_
        refine lv_iload hx hb dX5_goWeek_227 (lv_at hl 0 rfl) ?_
        refine lv_imul hx hb dX5_goWeek_229 ?_
        refine lv_topi (fun z5 ez5 => ?_)
        obtain rfl : z5 = nI (5 * k) := ez5.trans (pk_mul 5 k)
        refine lv_iconst (v := 1) hx hb dX5_goWeek_230 (by decide) ?_
        refine lv_iadd hx hb dX5_goWeek_231 ?_
        refine lv_topi (fun z6 ez6 => ?_)
        obtain rfl : z6 = nI (5 * k + 1) := ez6.trans ((nI_add (5 * k) 1).trans (congrArg nI (by omega)))
        refine K_iald hx hb hK hP 5 0 rfl rfl (5 * k + 1) (by omega) (Nat.le_of_ble_eq_true rfl) dX5_goWeek_232 ?_
        refine lv_topi (fun z7 ez7 => ?_)
        obtain rfl : z7 = nI j := ez7.trans hsj
        refine K_iald hx hb hK hP 4 0 rfl rfl j (by omega) (Nat.le_of_ble_eq_true rfl) dX5_goWeek_233 ?_
        refine lv_isub hx hb dX5_goWeek_234 ?_
        refine lv_istore (lv' := [(7, .int ((M k) - (mfa j))), (6, .int (nI k)), (5, .int 0), (4, .int v0), (3, .int 0), (0, .ref h5), (1, .int (nI w)), (2, .int v0)]) hx hb dX5_goWeek_235 hl (by decide) rfl (fun ls hl => ?_)
        refine lv_aload_n hx hb dX5_goWeek_237 rfl (lv_at hl 5 rfl) ?_
        refine va_get (D := D) (ci := 5) (v := .ref (a5 10)) (C := RX5) (T := TX5) (N := 24) hx hb hts inX5_goWeek hown hK hP 0 rfl rfl 21 (by decide) fl45 (fun _ h9 => h9) rfl dX5_goWeek_238 ?_
        refine lv_iload hx hb dX5_goWeek_241 (lv_at hl 1 rfl) ?_
        refine lv_iload hx hb dX5_goWeek_243 (lv_at hl 0 rfl) ?_
        refine lv_if_ge (tgt := 252) hx hb dX5_goWeek_245 (by decide) (fun c8 => ?_) (fun c8 => ?_)
        · refine lv_iload hx hb dX5_goWeek_252 (lv_at hl 0 rfl) ?_
          refine K_iast hx hb hK hP hD hS 11 0 rfl rfl k (by omega) (Nat.le_of_ble_eq_true rfl) dX5_goWeek_254 (fun H locs hP hD hS => ?_)
          have hP : va_P D vwCl (wX5 cI cZ cG h5 a5 (nI nr) (nI nt) (nI nc) (nI nw) hd (nI wk) (nI ng) (nI nT) mi (nI nf) (nI nn) mru mth mcl mfa mwa mfz mbl mbk mtr mno (upd M k ((M k) - (mfa j))) P mto) H := hP
          have hD : va_D A (wX5 cI cZ cG h5 a5 (nI nr) (nI nt) (nI nc) (nI nw) hd (nI wk) (nI ng) (nI nT) mi (nI nf) (nI nn) mru mth mcl mfa mwa mfz mbl mbk mtr mno (upd M k ((M k) - (mfa j))) P mto) := hD
          refine lv_iinc (v := nI (k + 1)) (lv' := [(6, .int (nI (k + 1))), (7, .int ((M k) - (mfa j))), (5, .int 0), (4, .int v0), (3, .int 0), (0, .ref h5), (1, .int (nI w)), (2, .int v0)]) hx hb dX5_goWeek_255 hl (k := 1) rfl (inc1 _) (by decide) rfl (fun ls hl => ?_)
          refine lv_goto (tgt := 202) hx hb dX5_goWeek_258 (by decide) ?_
          exact ih202 (k + 1) (upd M k ((M k) - (mfa j))) _ _ _ ⟨(by omega), (by rw [fF, ← hM, hsj, nI_clamp (by omega), fdv_p c8]), hP, hD, hS, lv_sub hl [0, 2, 3, 4, 5, 6, 7] rfl⟩ (by omega)
        · refine lv_iconst (v := 0) hx hb dX5_goWeek_248 (by decide) ?_
          refine lv_goto (tgt := 254) hx hb dX5_goWeek_249 (by decide) ?_
          refine K_iast hx hb hK hP hD hS 11 0 rfl rfl k (by omega) (Nat.le_of_ble_eq_true rfl) dX5_goWeek_254 (fun H locs hP hD hS => ?_)
          have hP : va_P D vwCl (wX5 cI cZ cG h5 a5 (nI nr) (nI nt) (nI nc) (nI nw) hd (nI wk) (nI ng) (nI nT) mi (nI nf) (nI nn) mru mth mcl mfa mwa mfz mbl mbk mtr mno (upd M k 0) P mto) H := hP
          have hD : va_D A (wX5 cI cZ cG h5 a5 (nI nr) (nI nt) (nI nc) (nI nw) hd (nI wk) (nI ng) (nI nT) mi (nI nf) (nI nn) mru mth mcl mfa mwa mfz mbl mbk mtr mno (upd M k 0) P mto) := hD
          refine lv_iinc (v := nI (k + 1)) (lv' := [(6, .int (nI (k + 1))), (7, .int ((M k) - (mfa j))), (5, .int 0), (4, .int v0), (3, .int 0), (0, .ref h5), (1, .int (nI w)), (2, .int v0)]) hx hb dX5_goWeek_255 hl (k := 1) rfl (inc1 _) (by decide) rfl (fun ls hl => ?_)
          refine lv_goto (tgt := 202) hx hb dX5_goWeek_258 (by decide) ?_
          exact ih202 (k + 1) (upd M k 0) _ _ _ ⟨(by omega), (by rw [fF, ← hM, hsj, nI_clamp (by omega), fdv_n c8]), hP, hD, hS, lv_sub hl [0, 2, 3, 4, 5, 6, 7] rfl⟩ (by omega)
    · refine lv_iconst (v := 1) hx hb dX5_goWeek_40 (by decide) ?_
      refine lv_goto (tgt := 45) hx hb dX5_goWeek_41 (by decide) ?_
      refine lv_istore (lv' := [(5, .int 1), (4, .int v0), (3, .int 0), (0, .ref h5), (1, .int (nI w)), (2, .int v0)]) hx hb dX5_goWeek_45 hl (by decide) rfl (fun ls hl => ?_)
      refine loopW5 (fun (f : Nat) (p : Nat) (v : Int32) (L : Nat → Int32) (P : Nat → Int32) H locs ls => (cU L nw ≤ f) ∧ (okPn nw L P) ∧ (okPG (col 5 2 mwa) nw v0 mlo f v L P p) ∧ va_P D vwCl (wX5 cI cZ cG h5 a5 (nI nr) (nI nt) (nI nc) (nI nw) hd (nI wk) (nI ng) (nI nT) mi (nI nf) (nI nn) mru mth mcl mfa mwa mfz mbl mbk mtr mno L P mto) H ∧ va_D A (wX5 cI cZ cG h5 a5 (nI nr) (nI nt) (nI nc) (nI nw) hd (nI wk) (nI ng) (nI nT) mi (nI nf) (nI nn) mru mth mcl mfa mwa mfz mbl mbk mtr mno L P mto) ∧ va_S A s.heap H locs ∧ lv_has ls 8 [(5, .int 1), (4, .int v), (3, .int (nI p)), (0, .ref h5), (1, .int (nI w)), (2, .int v0)]) (fun (f : Nat) (p : Nat) (v : Int32) (L : Nat → Int32) (P : Nat → Int32) => f) (fun f p v L P H locs ls hI ih47 => ?_) nw 0 v0 mlo P _ _ _ ⟨cU_le, (fun k hk => Or.inl (hz k hk)), (okPG_0 hz), hP, hD, hS, lv_sub hl [0, 1, 2, 3, 4, 5] rfl⟩
      obtain ⟨hf, hPn, hG, hP, hD, hS, hl⟩ := hI
      refine lv_iload hx hb dX5_goWeek_47 (lv_at hl 0 rfl) ?_
      refine lv_if_eq (tgt := 199) hx hb dX5_goWeek_49 (by decide) (fun c9 => absurd c9 (by decide)) (fun _ => ?_)
      refine lv_bipush (v := (-6)) hx hb dX5_goWeek_52 (by decide) ?_
      refine lv_istore (lv' := [(6, .int (-6)), (5, .int 1), (4, .int v), (3, .int (nI p)), (0, .ref h5), (1, .int (nI w)), (2, .int v0)]) hx hb dX5_goWeek_54 hl (by decide) rfl (fun ls hl => ?_)
      refine lv_iconst (v := 0) hx hb dX5_goWeek_56 (by decide) ?_
      refine lv_istore (lv' := [(7, .int 0), (6, .int (-6)), (5, .int 1), (4, .int v), (3, .int (nI p)), (0, .ref h5), (1, .int (nI w)), (2, .int v0)]) hx hb dX5_goWeek_57 hl (by decide) rfl (fun ls hl => ?_)
      refine loopW2 (fun (k : Nat) (o : Option Nat) H locs ls => (k ≤ nw) ∧ (o = mF L k) ∧ va_P D vwCl (wX5 cI cZ cG h5 a5 (nI nr) (nI nt) (nI nc) (nI nw) hd (nI wk) (nI ng) (nI nT) mi (nI nf) (nI nn) mru mth mcl mfa mwa mfz mbl mbk mtr mno L P mto) H ∧ va_D A (wX5 cI cZ cG h5 a5 (nI nr) (nI nt) (nI nc) (nI nw) hd (nI wk) (nI ng) (nI nT) mi (nI nf) (nI nn) mru mth mcl mfa mwa mfz mbl mbk mtr mno L P mto) ∧ va_S A s.heap H locs ∧ lv_has ls 8 [(7, .int (nI k)), (6, .int (oI o)), (5, .int 1), (4, .int v), (3, .int (nI p)), (0, .ref h5), (1, .int (nI w)), (2, .int v0)]) (fun (k : Nat) (o : Option Nat) => nw - k) (fun k o H locs ls hI ih59 => ?_) 0 none _ _ _ ⟨(by omega), rfl, hP, hD, hS, lv_sub hl [0, 1, 2, 3, 4, 5, 6, 7] rfl⟩
      obtain ⟨hk, ho, hP, hD, hS, hl⟩ := hI
      refine lv_iload hx hb dX5_goWeek_59 (lv_at hl 0 rfl) ?_
      refine lv_aload_n hx hb dX5_goWeek_61 rfl (lv_at hl 5 rfl) ?_
      refine va_get (D := D) (ci := 5) (v := .int (nI nw)) (C := RX5) (T := TX5) (N := 24) hx hb hts inX5_goWeek hown hK hP 0 rfl rfl 7 (by decide) fl85 (fun _ h9 => h9) rfl dX5_goWeek_62 ?_
      refine lv_icmp_ge (tgt := 127) hx hb dX5_goWeek_65 (by decide) (fun c10 => ?_) (fun c10 => ?_)
      · have c10 : nw ≤ k := (nI_leI (a := nw) (b := k) (by omega) (by omega)).mp c10
        have ek : k = nw := by omega
        rw [ek] at ho
        rcases o with _ | b
        · have hl : lv_has ls 8 [(7, .int (nI k)), (6, .int (-6)), (5, .int 1), (4, .int v), (3, .int (nI p)), (0, .ref h5), (1, .int (nI w)), (2, .int v0)] := hl
          refine lv_iload hx hb dX5_goWeek_127 (lv_at hl 1 rfl) ?_
          refine lv_if_lt (tgt := 152) hx hb dX5_goWeek_129 (by decide) (fun _ => ?_) (fun c11 => absurd c11 (by decide))
          refine lv_iconst (v := 0) hx hb dX5_goWeek_152 (by decide) ?_
          refine lv_istore (lv' := [(5, .int 0), (7, .int (nI k)), (6, .int (-6)), (4, .int v), (3, .int (nI p)), (0, .ref h5), (1, .int (nI w)), (2, .int v0)]) hx hb dX5_goWeek_153 hl (by decide) rfl (fun ls hl => ?_)
          refine lv_iload hx hb dX5_goWeek_155 (lv_at hl 0 rfl) ?_
          refine lv_if_eq (tgt := 196) hx hb dX5_goWeek_157 (by decide) (fun _ => ?_) (fun c12 => absurd c12 (by decide))
          refine lv_goto (tgt := 47) hx hb dX5_goWeek_196 (by decide) ?_
          refine lv_iload hx hb dX5_goWeek_47 (lv_at hl 0 rfl) ?_
          refine lv_if_eq (tgt := 199) hx hb dX5_goWeek_49 (by decide) (fun _ => ?_) (fun c13 => absurd c13 (by decide))
          have hW := okWQ_none c2 hG ho.symm
          refine lv_iconst (v := 0) hx hb dX5_goWeek_199 (by decide) ?_
          refine lv_istore (lv' := [(6, .int 0), (5, .int 0), (7, .int (nI k)), (4, .int v), (3, .int (nI p)), (0, .ref h5), (1, .int (nI w)), (2, .int v0)]) hx hb dX5_goWeek_200 hl (by decide) rfl (fun ls hl => ?_)
          refine loopW2 (fun (k : Nat) (M : Nat → Int32) H locs ls => (k ≤ nw) ∧ (M = fF mfa (col 5 1 mwa) L k) ∧ va_P D vwCl (wX5 cI cZ cG h5 a5 (nI nr) (nI nt) (nI nc) (nI nw) hd (nI wk) (nI ng) (nI nT) mi (nI nf) (nI nn) mru mth mcl mfa mwa mfz mbl mbk mtr mno M P mto) H ∧ va_D A (wX5 cI cZ cG h5 a5 (nI nr) (nI nt) (nI nc) (nI nw) hd (nI wk) (nI ng) (nI nT) mi (nI nf) (nI nn) mru mth mcl mfa mwa mfz mbl mbk mtr mno M P mto) ∧ va_S A s.heap H locs ∧ lv_has ls 8 [(6, .int (nI k)), (5, .int 0), (4, .int v), (3, .int (nI p)), (0, .ref h5), (1, .int (nI w)), (2, .int v0)]) (fun (k : Nat) (M : Nat → Int32) => nw - k) (fun k M H locs ls hI ih202 => ?_) 0 L _ _ _ ⟨(by omega), rfl, hP, hD, hS, lv_sub hl [0, 1, 3, 4, 5, 6, 7] rfl⟩
          obtain ⟨hk, hM, hP, hD, hS, hl⟩ := hI
          refine lv_iload hx hb dX5_goWeek_202 (lv_at hl 0 rfl) ?_
          refine lv_aload_n hx hb dX5_goWeek_204 rfl (lv_at hl 4 rfl) ?_
          refine va_get (D := D) (ci := 5) (v := .int (nI nw)) (C := RX5) (T := TX5) (N := 24) hx hb hts inX5_goWeek hown hK hP 0 rfl rfl 7 (by decide) fl85 (fun _ h9 => h9) rfl dX5_goWeek_205 ?_
          refine lv_icmp_ge (tgt := 261) hx hb dX5_goWeek_208 (by decide) (fun c14 => ?_) (fun c14 => ?_)
          · have c14 : nw ≤ k := (nI_leI (a := nw) (b := k) (by omega) (by omega)).mp c14
            have ek : k = nw := by omega
            rw [ek] at hM
            refine lv_iload_n hx hb dX5_goWeek_261 rfl (lv_at hl 3 rfl) ?_
            exact K_iret (wf := (fun (u : (Nat → Int32) × (Nat → Int32)) => wX5 cI cZ cG h5 a5 (nI nr) (nI nt) (nI nc) (nI nw) hd (nI wk) (nI ng) (nI nT) mi (nI nf) (nI nn) mru mth mcl mfa mwa mfz mbl mbk mtr mno u.1 u.2 mto)) (M, P) hx hb hr hlocks hP hK hD hS dX5_goWeek_262 (⟨_, _, rfl, hW, hM⟩)
          · have c14 : ¬ nw ≤ k := fun hq => c14 ((nI_leI (a := nw) (b := k) (by omega) (by omega)).mpr hq)
            obtain ⟨j, hj, hsj⟩ := hsd k (by omega)
            refine lv_aload_n hx hb dX5_goWeek_211 rfl (lv_at hl 4 rfl) ?_
            refine va_get (D := D) (ci := 5) (v := .ref (a5 10)) (C := RX5) (T := TX5) (N := 24) hx hb hts inX5_goWeek hown hK hP 0 rfl rfl 21 (by decide) fl45 (fun _ h9 => h9) rfl dX5_goWeek_212 ?_
            refine lv_iload hx hb dX5_goWeek_215 (lv_at hl 0 rfl) ?_
            refine K_iald hx hb hK hP 11 0 rfl rfl k (by omega) (Nat.le_of_ble_eq_true rfl) dX5_goWeek_217 ?_
            refine lv_aload_n hx hb dX5_goWeek_218 rfl (lv_at hl 4 rfl) ?_
            refine va_get (D := D) (ci := 5) (v := .ref (a5 3)) (C := RX5) (T := TX5) (N := 24) hx hb hts inX5_goWeek hown hK hP 0 rfl rfl 6 (by decide) fl19 (fun _ h9 => h9) rfl dX5_goWeek_219 ?_
            refine lv_aload_n hx hb dX5_goWeek_222 rfl (lv_at hl 4 rfl) ?_
            refine va_get (D := D) (ci := 5) (v := .ref (a5 4)) (C := RX5) (T := TX5) (N := 24) hx hb hts inX5_goWeek hown hK hP 0 rfl rfl 8 (by decide) fl22 (fun _ h9 => h9) rfl dX5_goWeek_223 ?_
            refine lv_iconst (v := 5) hx hb dX5_goWeek_226 (by decide) ?_
            refine lv_iload hx hb dX5_goWeek_227 (lv_at hl 0 rfl) ?_
            refine lv_imul hx hb dX5_goWeek_229 ?_
            refine lv_topi (fun z15 ez15 => ?_)
            obtain rfl : z15 = nI (5 * k) := ez15.trans (pk_mul 5 k)
            refine lv_iconst (v := 1) hx hb dX5_goWeek_230 (by decide) ?_
            refine lv_iadd hx hb dX5_goWeek_231 ?_
            refine lv_topi (fun z16 ez16 => ?_)
            obtain rfl : z16 = nI (5 * k + 1) := ez16.trans ((nI_add (5 * k) 1).trans (congrArg nI (by omega)))
            refine K_iald hx hb hK hP 5 0 rfl rfl (5 * k + 1) (by omega) (Nat.le_of_ble_eq_true rfl) dX5_goWeek_232 ?_
            refine lv_topi (fun z17 ez17 => ?_)
            obtain rfl : z17 = nI j := ez17.trans hsj
            refine K_iald hx hb hK hP 4 0 rfl rfl j (by omega) (Nat.le_of_ble_eq_true rfl) dX5_goWeek_233 ?_
            refine lv_isub hx hb dX5_goWeek_234 ?_
            refine lv_istore (lv' := [(7, .int ((M k) - (mfa j))), (6, .int (nI k)), (5, .int 0), (4, .int v), (3, .int (nI p)), (0, .ref h5), (1, .int (nI w)), (2, .int v0)]) hx hb dX5_goWeek_235 hl (by decide) rfl (fun ls hl => ?_)
            refine lv_aload_n hx hb dX5_goWeek_237 rfl (lv_at hl 5 rfl) ?_
            refine va_get (D := D) (ci := 5) (v := .ref (a5 10)) (C := RX5) (T := TX5) (N := 24) hx hb hts inX5_goWeek hown hK hP 0 rfl rfl 21 (by decide) fl45 (fun _ h9 => h9) rfl dX5_goWeek_238 ?_
            refine lv_iload hx hb dX5_goWeek_241 (lv_at hl 1 rfl) ?_
            refine lv_iload hx hb dX5_goWeek_243 (lv_at hl 0 rfl) ?_
            refine lv_if_ge (tgt := 252) hx hb dX5_goWeek_245 (by decide) (fun c18 => ?_) (fun c18 => ?_)
            · refine lv_iload hx hb dX5_goWeek_252 (lv_at hl 0 rfl) ?_
              refine K_iast hx hb hK hP hD hS 11 0 rfl rfl k (by omega) (Nat.le_of_ble_eq_true rfl) dX5_goWeek_254 (fun H locs hP hD hS => ?_)
              have hP : va_P D vwCl (wX5 cI cZ cG h5 a5 (nI nr) (nI nt) (nI nc) (nI nw) hd (nI wk) (nI ng) (nI nT) mi (nI nf) (nI nn) mru mth mcl mfa mwa mfz mbl mbk mtr mno (upd M k ((M k) - (mfa j))) P mto) H := hP
              have hD : va_D A (wX5 cI cZ cG h5 a5 (nI nr) (nI nt) (nI nc) (nI nw) hd (nI wk) (nI ng) (nI nT) mi (nI nf) (nI nn) mru mth mcl mfa mwa mfz mbl mbk mtr mno (upd M k ((M k) - (mfa j))) P mto) := hD
              refine lv_iinc (v := nI (k + 1)) (lv' := [(6, .int (nI (k + 1))), (7, .int ((M k) - (mfa j))), (5, .int 0), (4, .int v), (3, .int (nI p)), (0, .ref h5), (1, .int (nI w)), (2, .int v0)]) hx hb dX5_goWeek_255 hl (k := 1) rfl (inc1 _) (by decide) rfl (fun ls hl => ?_)
              refine lv_goto (tgt := 202) hx hb dX5_goWeek_258 (by decide) ?_
              exact ih202 (k + 1) (upd M k ((M k) - (mfa j))) _ _ _ ⟨(by omega), (by rw [fF, ← hM, hsj, nI_clamp (by omega), fdv_p c18]), hP, hD, hS, lv_sub hl [0, 2, 3, 4, 5, 6, 7] rfl⟩ (by omega)
            · refine lv_iconst (v := 0) hx hb dX5_goWeek_248 (by decide) ?_
              refine lv_goto (tgt := 254) hx hb dX5_goWeek_249 (by decide) ?_
              refine K_iast hx hb hK hP hD hS 11 0 rfl rfl k (by omega) (Nat.le_of_ble_eq_true rfl) dX5_goWeek_254 (fun H locs hP hD hS => ?_)
              have hP : va_P D vwCl (wX5 cI cZ cG h5 a5 (nI nr) (nI nt) (nI nc) (nI nw) hd (nI wk) (nI ng) (nI nT) mi (nI nf) (nI nn) mru mth mcl mfa mwa mfz mbl mbk mtr mno (upd M k 0) P mto) H := hP
              have hD : va_D A (wX5 cI cZ cG h5 a5 (nI nr) (nI nt) (nI nc) (nI nw) hd (nI wk) (nI ng) (nI nT) mi (nI nf) (nI nn) mru mth mcl mfa mwa mfz mbl mbk mtr mno (upd M k 0) P mto) := hD
              refine lv_iinc (v := nI (k + 1)) (lv' := [(6, .int (nI (k + 1))), (7, .int ((M k) - (mfa j))), (5, .int 0), (4, .int v), (3, .int (nI p)), (0, .ref h5), (1, .int (nI w)), (2, .int v0)]) hx hb dX5_goWeek_255 hl (k := 1) rfl (inc1 _) (by decide) rfl (fun ls hl => ?_)
              refine lv_goto (tgt := 202) hx hb dX5_goWeek_258 (by decide) ?_
              exact ih202 (k + 1) (upd M k 0) _ _ _ ⟨(by omega), (by rw [fF, ← hM, hsj, nI_clamp (by omega), fdv_n c18]), hP, hD, hS, lv_sub hl [0, 2, 3, 4, 5, 6, 7] rfl⟩ (by omega)
        · have hl : lv_has ls 8 [(7, .int (nI k)), (6, .int (nI b)), (5, .int 1), (4, .int v), (3, .int (nI p)), (0, .ref h5), (1, .int (nI w)), (2, .int v0)] := hl
          have hbb := mF_lt ho.symm
          refine lv_iload hx hb dX5_goWeek_127 (lv_at hl 1 rfl) ?_
          refine lv_if_lt (tgt := 152) hx hb dX5_goWeek_129 (by decide) (fun c19 => absurd c19 (nI_pos (by omega))) (fun c19 => ?_)
          refine lv_aload_n hx hb dX5_goWeek_132 rfl (lv_at hl 5 rfl) ?_
          refine va_get (D := D) (ci := 5) (v := .ref (a5 4)) (C := RX5) (T := TX5) (N := 24) hx hb hts inX5_goWeek hown hK hP 0 rfl rfl 8 (by decide) fl22 (fun _ h9 => h9) rfl dX5_goWeek_133 ?_
          refine lv_iconst (v := 5) hx hb dX5_goWeek_136 (by decide) ?_
          refine lv_iload hx hb dX5_goWeek_137 (lv_at hl 1 rfl) ?_
          refine lv_imul hx hb dX5_goWeek_139 ?_
          refine lv_topi (fun z20 ez20 => ?_)
          obtain rfl : z20 = nI (5 * b) := ez20.trans (pk_mul 5 b)
          refine lv_iconst (v := 2) hx hb dX5_goWeek_140 (by decide) ?_
          refine lv_iadd hx hb dX5_goWeek_141 ?_
          refine lv_topi (fun z21 ez21 => ?_)
          obtain rfl : z21 = nI (5 * b + 2) := ez21.trans ((nI_add (5 * b) 2).trans (congrArg nI (by omega)))
          refine K_iald hx hb hK hP 5 0 rfl rfl (5 * b + 2) (by omega) (Nat.le_of_ble_eq_true rfl) dX5_goWeek_142 ?_
          refine lv_iload hx hb dX5_goWeek_143 (lv_at hl 3 rfl) ?_
          refine lv_icmp_gt (tgt := 152) hx hb dX5_goWeek_145 (by decide) (fun c22 => ?_) (fun c22 => ?_)
          · replace c22 := Int32.not_le.mpr c22
            obtain ⟨f, rfl⟩ : ∃ f9, f = f9 + 1 := ⟨f - 1, by have := mF_cU ho.symm; omega⟩
            refine lv_iconst (v := 0) hx hb dX5_goWeek_152 (by decide) ?_
            refine lv_istore (lv' := [(5, .int 0), (7, .int (nI k)), (6, .int (nI b)), (4, .int v), (3, .int (nI p)), (0, .ref h5), (1, .int (nI w)), (2, .int v0)]) hx hb dX5_goWeek_153 hl (by decide) rfl (fun ls hl => ?_)
            refine lv_iload hx hb dX5_goWeek_155 (lv_at hl 0 rfl) ?_
            refine lv_if_eq (tgt := 196) hx hb dX5_goWeek_157 (by decide) (fun _ => ?_) (fun c23 => absurd c23 (by decide))
            refine lv_goto (tgt := 47) hx hb dX5_goWeek_196 (by decide) ?_
            refine lv_iload hx hb dX5_goWeek_47 (lv_at hl 0 rfl) ?_
            refine lv_if_eq (tgt := 199) hx hb dX5_goWeek_49 (by decide) (fun _ => ?_) (fun c24 => absurd c24 (by decide))
            have hW := okWQ_stop c2 hG ho.symm c22
            refine lv_iconst (v := 0) hx hb dX5_goWeek_199 (by decide) ?_
            refine lv_istore (lv' := [(6, .int 0), (5, .int 0), (7, .int (nI k)), (4, .int v), (3, .int (nI p)), (0, .ref h5), (1, .int (nI w)), (2, .int v0)]) hx hb dX5_goWeek_200 hl (by decide) rfl (fun ls hl => ?_)
            refine loopW2 (fun (k : Nat) (M : Nat → Int32) H locs ls => (k ≤ nw) ∧ (M = fF mfa (col 5 1 mwa) L k) ∧ va_P D vwCl (wX5 cI cZ cG h5 a5 (nI nr) (nI nt) (nI nc) (nI nw) hd (nI wk) (nI ng) (nI nT) mi (nI nf) (nI nn) mru mth mcl mfa mwa mfz mbl mbk mtr mno M P mto) H ∧ va_D A (wX5 cI cZ cG h5 a5 (nI nr) (nI nt) (nI nc) (nI nw) hd (nI wk) (nI ng) (nI nT) mi (nI nf) (nI nn) mru mth mcl mfa mwa mfz mbl mbk mtr mno M P mto) ∧ va_S A s.heap H locs ∧ lv_has ls 8 [(6, .int (nI k)), (5, .int 0), (4, .int v), (3, .int (nI p)), (0, .ref h5), (1, .int (nI w)), (2, .int v0)]) (fun (k : Nat) (M : Nat → Int32) => nw - k) (fun k M H locs ls hI ih202 => ?_) 0 L _ _ _ ⟨(by omega), rfl, hP, hD, hS, lv_sub hl [0, 1, 3, 4, 5, 6, 7] rfl⟩
            obtain ⟨hk, hM, hP, hD, hS, hl⟩ := hI
            refine lv_iload hx hb dX5_goWeek_202 (lv_at hl 0 rfl) ?_
            refine lv_aload_n hx hb dX5_goWeek_204 rfl (lv_at hl 4 rfl) ?_
            refine va_get (D := D) (ci := 5) (v := .int (nI nw)) (C := RX5) (T := TX5) (N := 24) hx hb hts inX5_goWeek hown hK hP 0 rfl rfl 7 (by decide) fl85 (fun _ h9 => h9) rfl dX5_goWeek_205 ?_
            refine lv_icmp_ge (tgt := 261) hx hb dX5_goWeek_208 (by decide) (fun c25 => ?_) (fun c25 => ?_)
            · have c25 : nw ≤ k := (nI_leI (a := nw) (b := k) (by omega) (by omega)).mp c25
              have ek : k = nw := by omega
              rw [ek] at hM
              refine lv_iload_n hx hb dX5_goWeek_261 rfl (lv_at hl 3 rfl) ?_
              exact K_iret (wf := (fun (u : (Nat → Int32) × (Nat → Int32)) => wX5 cI cZ cG h5 a5 (nI nr) (nI nt) (nI nc) (nI nw) hd (nI wk) (nI ng) (nI nT) mi (nI nf) (nI nn) mru mth mcl mfa mwa mfz mbl mbk mtr mno u.1 u.2 mto)) (M, P) hx hb hr hlocks hP hK hD hS dX5_goWeek_262 (⟨_, _, rfl, hW, hM⟩)
            · have c25 : ¬ nw ≤ k := fun hq => c25 ((nI_leI (a := nw) (b := k) (by omega) (by omega)).mpr hq)
              obtain ⟨j, hj, hsj⟩ := hsd k (by omega)
              refine lv_aload_n hx hb dX5_goWeek_211 rfl (lv_at hl 4 rfl) ?_
              refine va_get (D := D) (ci := 5) (v := .ref (a5 10)) (C := RX5) (T := TX5) (N := 24) hx hb hts inX5_goWeek hown hK hP 0 rfl rfl 21 (by decide) fl45 (fun _ h9 => h9) rfl dX5_goWeek_212 ?_
              refine lv_iload hx hb dX5_goWeek_215 (lv_at hl 0 rfl) ?_
              refine K_iald hx hb hK hP 11 0 rfl rfl k (by omega) (Nat.le_of_ble_eq_true rfl) dX5_goWeek_217 ?_
              refine lv_aload_n hx hb dX5_goWeek_218 rfl (lv_at hl 4 rfl) ?_
              refine va_get (D := D) (ci := 5) (v := .ref (a5 3)) (C := RX5) (T := TX5) (N := 24) hx hb hts inX5_goWeek hown hK hP 0 rfl rfl 6 (by decide) fl19 (fun _ h9 => h9) rfl dX5_goWeek_219 ?_
              refine lv_aload_n hx hb dX5_goWeek_222 rfl (lv_at hl 4 rfl) ?_
              refine va_get (D := D) (ci := 5) (v := .ref (a5 4)) (C := RX5) (T := TX5) (N := 24) hx hb hts inX5_goWeek hown hK hP 0 rfl rfl 8 (by decide) fl22 (fun _ h9 => h9) rfl dX5_goWeek_223 ?_
              refine lv_iconst (v := 5) hx hb dX5_goWeek_226 (by decide) ?_
              refine lv_iload hx hb dX5_goWeek_227 (lv_at hl 0 rfl) ?_
              refine lv_imul hx hb dX5_goWeek_229 ?_
              refine lv_topi (fun z26 ez26 => ?_)
              obtain rfl : z26 = nI (5 * k) := ez26.trans (pk_mul 5 k)
              refine lv_iconst (v := 1) hx hb dX5_goWeek_230 (by decide) ?_
              refine lv_iadd hx hb dX5_goWeek_231 ?_
              refine lv_topi (fun z27 ez27 => ?_)
              obtain rfl : z27 = nI (5 * k + 1) := ez27.trans ((nI_add (5 * k) 1).trans (congrArg nI (by omega)))
              refine K_iald hx hb hK hP 5 0 rfl rfl (5 * k + 1) (by omega) (Nat.le_of_ble_eq_true rfl) dX5_goWeek_232 ?_
              refine lv_topi (fun z28 ez28 => ?_)
              obtain rfl : z28 = nI j := ez28.trans hsj
              refine K_iald hx hb hK hP 4 0 rfl rfl j (by omega) (Nat.le_of_ble_eq_true rfl) dX5_goWeek_233 ?_
              refine lv_isub hx hb dX5_goWeek_234 ?_
              refine lv_istore (lv' := [(7, .int ((M k) - (mfa j))), (6, .int (nI k)), (5, .int 0), (4, .int v), (3, .int (nI p)), (0, .ref h5), (1, .int (nI w)), (2, .int v0)]) hx hb dX5_goWeek_235 hl (by decide) rfl (fun ls hl => ?_)
              refine lv_aload_n hx hb dX5_goWeek_237 rfl (lv_at hl 5 rfl) ?_
              refine va_get (D := D) (ci := 5) (v := .ref (a5 10)) (C := RX5) (T := TX5) (N := 24) hx hb hts inX5_goWeek hown hK hP 0 rfl rfl 21 (by decide) fl45 (fun _ h9 => h9) rfl dX5_goWeek_238 ?_
              refine lv_iload hx hb dX5_goWeek_241 (lv_at hl 1 rfl) ?_
              refine lv_iload hx hb dX5_goWeek_243 (lv_at hl 0 rfl) ?_
              refine lv_if_ge (tgt := 252) hx hb dX5_goWeek_245 (by decide) (fun c29 => ?_) (fun c29 => ?_)
              · refine lv_iload hx hb dX5_goWeek_252 (lv_at hl 0 rfl) ?_
                refine K_iast hx hb hK hP hD hS 11 0 rfl rfl k (by omega) (Nat.le_of_ble_eq_true rfl) dX5_goWeek_254 (fun H locs hP hD hS => ?_)
                have hP : va_P D vwCl (wX5 cI cZ cG h5 a5 (nI nr) (nI nt) (nI nc) (nI nw) hd (nI wk) (nI ng) (nI nT) mi (nI nf) (nI nn) mru mth mcl mfa mwa mfz mbl mbk mtr mno (upd M k ((M k) - (mfa j))) P mto) H := hP
                have hD : va_D A (wX5 cI cZ cG h5 a5 (nI nr) (nI nt) (nI nc) (nI nw) hd (nI wk) (nI ng) (nI nT) mi (nI nf) (nI nn) mru mth mcl mfa mwa mfz mbl mbk mtr mno (upd M k ((M k) - (mfa j))) P mto) := hD
                refine lv_iinc (v := nI (k + 1)) (lv' := [(6, .int (nI (k + 1))), (7, .int ((M k) - (mfa j))), (5, .int 0), (4, .int v), (3, .int (nI p)), (0, .ref h5), (1, .int (nI w)), (2, .int v0)]) hx hb dX5_goWeek_255 hl (k := 1) rfl (inc1 _) (by decide) rfl (fun ls hl => ?_)
                refine lv_goto (tgt := 202) hx hb dX5_goWeek_258 (by decide) ?_
                exact ih202 (k + 1) (upd M k ((M k) - (mfa j))) _ _ _ ⟨(by omega), (by rw [fF, ← hM, hsj, nI_clamp (by omega), fdv_p c29]), hP, hD, hS, lv_sub hl [0, 2, 3, 4, 5, 6, 7] rfl⟩ (by omega)
              · refine lv_iconst (v := 0) hx hb dX5_goWeek_248 (by decide) ?_
                refine lv_goto (tgt := 254) hx hb dX5_goWeek_249 (by decide) ?_
                refine K_iast hx hb hK hP hD hS 11 0 rfl rfl k (by omega) (Nat.le_of_ble_eq_true rfl) dX5_goWeek_254 (fun H locs hP hD hS => ?_)
                have hP : va_P D vwCl (wX5 cI cZ cG h5 a5 (nI nr) (nI nt) (nI nc) (nI nw) hd (nI wk) (nI ng) (nI nT) mi (nI nf) (nI nn) mru mth mcl mfa mwa mfz mbl mbk mtr mno (upd M k 0) P mto) H := hP
                have hD : va_D A (wX5 cI cZ cG h5 a5 (nI nr) (nI nt) (nI nc) (nI nw) hd (nI wk) (nI ng) (nI nT) mi (nI nf) (nI nn) mru mth mcl mfa mwa mfz mbl mbk mtr mno (upd M k 0) P mto) := hD
                refine lv_iinc (v := nI (k + 1)) (lv' := [(6, .int (nI (k + 1))), (7, .int ((M k) - (mfa j))), (5, .int 0), (4, .int v), (3, .int (nI p)), (0, .ref h5), (1, .int (nI w)), (2, .int v0)]) hx hb dX5_goWeek_255 hl (k := 1) rfl (inc1 _) (by decide) rfl (fun ls hl => ?_)
                refine lv_goto (tgt := 202) hx hb dX5_goWeek_258 (by decide) ?_
                exact ih202 (k + 1) (upd M k 0) _ _ _ ⟨(by omega), (by rw [fF, ← hM, hsj, nI_clamp (by omega), fdv_n c29]), hP, hD, hS, lv_sub hl [0, 2, 3, 4, 5, 6, 7] rfl⟩ (by omega)
          · replace c22 := Int32.not_lt.mp c22
            obtain ⟨f, rfl⟩ : ∃ f9, f = f9 + 1 := ⟨f - 1, by have := mF_cU ho.symm; omega⟩
            refine lv_iconst (v := 1) hx hb dX5_goWeek_148 (by decide) ?_
            refine lv_goto (tgt := 153) hx hb dX5_goWeek_149 (by decide) ?_
            refine lv_istore (lv' := [(5, .int 1), (7, .int (nI k)), (6, .int (nI b)), (4, .int v), (3, .int (nI p)), (0, .ref h5), (1, .int (nI w)), (2, .int v0)]) hx hb dX5_goWeek_153 hl (by decide) rfl (fun ls hl => ?_)
            refine lv_iload hx hb dX5_goWeek_155 (lv_at hl 0 rfl) ?_
            refine lv_if_eq (tgt := 196) hx hb dX5_goWeek_157 (by decide) (fun c30 => absurd c30 (by decide)) (fun _ => ?_)
            refine lv_aload_n hx hb dX5_goWeek_160 rfl (lv_at hl 5 rfl) ?_
            refine va_get (D := D) (ci := 5) (v := .ref (a5 11)) (C := RX5) (T := TX5) (N := 24) hx hb hts inX5_goWeek hown hK hP 0 rfl rfl 22 (by decide) fl48 (fun _ h9 => h9) rfl dX5_goWeek_161 ?_
            refine lv_iload hx hb dX5_goWeek_164 (lv_at hl 2 rfl) ?_
            refine lv_iconst (v := 1) hx hb dX5_goWeek_166 (by decide) ?_
            refine K_zast hx hb hK hP hD hS 12 1 rfl rfl b (by omega) (Nat.le_of_ble_eq_true rfl) rfl dX5_goWeek_167 (fun H locs hP hD hS => ?_)
            have hP : va_P D vwCl (wX5 cI cZ cG h5 a5 (nI nr) (nI nt) (nI nc) (nI nw) hd (nI wk) (nI ng) (nI nT) mi (nI nf) (nI nn) mru mth mcl mfa mwa mfz mbl mbk mtr mno L (upd P b 1) mto) H := hP
            have hD : va_D A (wX5 cI cZ cG h5 a5 (nI nr) (nI nt) (nI nc) (nI nw) hd (nI wk) (nI ng) (nI nT) mi (nI nf) (nI nn) mru mth mcl mfa mwa mfz mbl mbk mtr mno L (upd P b 1) mto) := hD
            refine lv_aload_n hx hb dX5_goWeek_168 rfl (lv_at hl 5 rfl) ?_
            refine va_get (D := D) (ci := 5) (v := .ref (a5 10)) (C := RX5) (T := TX5) (N := 24) hx hb hts inX5_goWeek hown hK hP 0 rfl rfl 21 (by decide) fl45 (fun _ h9 => h9) rfl dX5_goWeek_169 ?_
            refine lv_iload hx hb dX5_goWeek_172 (lv_at hl 2 rfl) ?_
            refine lv_bipush (v := 100) hx hb dX5_goWeek_174 (by decide) ?_
            refine K_iast hx hb hK hP hD hS 11 0 rfl rfl b (by omega) (Nat.le_of_ble_eq_true rfl) dX5_goWeek_176 (fun H locs hP hD hS => ?_)
            have hP : va_P D vwCl (wX5 cI cZ cG h5 a5 (nI nr) (nI nt) (nI nc) (nI nw) hd (nI wk) (nI ng) (nI nT) mi (nI nf) (nI nn) mru mth mcl mfa mwa mfz mbl mbk mtr mno (upd L b 100) (upd P b 1) mto) H := hP
            have hD : va_D A (wX5 cI cZ cG h5 a5 (nI nr) (nI nt) (nI nc) (nI nw) hd (nI wk) (nI ng) (nI nT) mi (nI nf) (nI nn) mru mth mcl mfa mwa mfz mbl mbk mtr mno (upd L b 100) (upd P b 1) mto) := hD
            refine lv_iload hx hb dX5_goWeek_177 (lv_at hl 3 rfl) ?_
            refine lv_aload_n hx hb dX5_goWeek_179 rfl (lv_at hl 5 rfl) ?_
            refine va_get (D := D) (ci := 5) (v := .ref (a5 4)) (C := RX5) (T := TX5) (N := 24) hx hb hts inX5_goWeek hown hK hP 0 rfl rfl 8 (by decide) fl22 (fun _ h9 => h9) rfl dX5_goWeek_180 ?_
            refine lv_iconst (v := 5) hx hb dX5_goWeek_183 (by decide) ?_
            refine lv_iload hx hb dX5_goWeek_184 (lv_at hl 2 rfl) ?_
            refine lv_imul hx hb dX5_goWeek_186 ?_
            refine lv_topi (fun z31 ez31 => ?_)
            obtain rfl : z31 = nI (5 * b) := ez31.trans (pk_mul 5 b)
            refine lv_iconst (v := 2) hx hb dX5_goWeek_187 (by decide) ?_
            refine lv_iadd hx hb dX5_goWeek_188 ?_
            refine lv_topi (fun z32 ez32 => ?_)
            obtain rfl : z32 = nI (5 * b + 2) := ez32.trans ((nI_add (5 * b) 2).trans (congrArg nI (by omega)))
            refine K_iald hx hb hK hP 5 0 rfl rfl (5 * b + 2) (by omega) (Nat.le_of_ble_eq_true rfl) dX5_goWeek_189 ?_
            refine lv_isub hx hb dX5_goWeek_190 ?_
            refine lv_istore (lv' := [(4, .int (v - (mwa (5 * b + 2)))), (5, .int 1), (7, .int (nI k)), (6, .int (nI b)), (3, .int (nI p)), (0, .ref h5), (1, .int (nI w)), (2, .int v0)]) hx hb dX5_goWeek_191 hl (by decide) rfl (fun ls hl => ?_)
            refine lv_iinc (v := nI (p + 1)) (lv' := [(3, .int (nI (p + 1))), (4, .int (v - (mwa (5 * b + 2)))), (5, .int 1), (7, .int (nI k)), (6, .int (nI b)), (0, .ref h5), (1, .int (nI w)), (2, .int v0)]) hx hb dX5_goWeek_193 hl (k := 4) rfl (inc1 _) (by decide) rfl (fun ls hl => ?_)
            refine lv_goto (tgt := 47) hx hb dX5_goWeek_196 (by decide) ?_
            exact ih47 f (p + 1) (v - (mwa (5 * b + 2))) (upd L b 100) (upd P b 1) _ _ _ ⟨(by have := (cU_upd (L := L) (b := b) (x := 100) (Int32.le_refl _) (n := nw)).2 hbb (mF_100 ho.symm); omega), (okPn_upd hPn), (okPG_go hG hPn ho.symm c22), hP, hD, hS, lv_sub hl [2, 1, 0, 5, 6, 7] rfl⟩ (by omega)
      · have c10 : ¬ nw ≤ k := fun hq => c10 ((nI_leI (a := nw) (b := k) (by omega) (by omega)).mpr hq)
        have hk9 : k < nw := by omega
        refine lv_aload_n hx hb dX5_goWeek_68 rfl (lv_at hl 5 rfl) ?_
        refine va_get (D := D) (ci := 5) (v := .ref (a5 11)) (C := RX5) (T := TX5) (N := 24) hx hb hts inX5_goWeek hown hK hP 0 rfl rfl 22 (by decide) fl48 (fun _ h9 => h9) rfl dX5_goWeek_69 ?_
        refine lv_iload hx hb dX5_goWeek_72 (lv_at hl 0 rfl) ?_
        refine K_zald hx hb hK hP 12 1 rfl rfl k (by omega) (Nat.le_of_ble_eq_true rfl) dX5_goWeek_74 ?_
        refine lv_if_ne (tgt := 117) hx hb dX5_goWeek_75 (by decide) (fun c33 => ?_) (fun c33 => ?_)
        · refine lv_iload hx hb dX5_goWeek_117 (lv_at hl 1 rfl) ?_
          refine lv_istore (lv' := [(6, .int (oI o)), (7, .int (nI k)), (5, .int 1), (4, .int v), (3, .int (nI p)), (0, .ref h5), (1, .int (nI w)), (2, .int v0)]) hx hb dX5_goWeek_119 hl (by decide) rfl (fun ls hl => ?_)
          refine lv_iinc (v := nI (k + 1)) (lv' := [(7, .int (nI (k + 1))), (6, .int (oI o)), (5, .int 1), (4, .int v), (3, .int (nI p)), (0, .ref h5), (1, .int (nI w)), (2, .int v0)]) hx hb dX5_goWeek_121 hl (k := 1) rfl (inc1 _) (by decide) rfl (fun ls hl => ?_)
          refine lv_goto (tgt := 59) hx hb dX5_goWeek_124 (by decide) ?_
          exact ih59 (k + 1) o _ _ _ ⟨(by omega), (by rw [mF, ← ho]; exact (if_pos (by rw [((hPn k hk9).resolve_left c33).2, ho]; exact foO_le)).symm), hP, hD, hS, lv_sub hl [0, 1, 2, 3, 4, 5, 6, 7] rfl⟩ (by omega)
        · refine lv_aload_n hx hb dX5_goWeek_78 rfl (lv_at hl 5 rfl) ?_
          refine va_get (D := D) (ci := 5) (v := .ref (a5 10)) (C := RX5) (T := TX5) (N := 24) hx hb hts inX5_goWeek hown hK hP 0 rfl rfl 21 (by decide) fl45 (fun _ h9 => h9) rfl dX5_goWeek_79 ?_
          refine lv_iload hx hb dX5_goWeek_82 (lv_at hl 0 rfl) ?_
          refine K_iald hx hb hK hP 11 0 rfl rfl k (by omega) (Nat.le_of_ble_eq_true rfl) dX5_goWeek_84 ?_
          refine lv_bipush (v := 100) hx hb dX5_goWeek_85 (by decide) ?_
          refine lv_icmp_ge (tgt := 117) hx hb dX5_goWeek_87 (by decide) (fun c34 => ?_) (fun c34 => ?_)
          · refine lv_iload hx hb dX5_goWeek_117 (lv_at hl 1 rfl) ?_
            refine lv_istore (lv' := [(6, .int (oI o)), (7, .int (nI k)), (5, .int 1), (4, .int v), (3, .int (nI p)), (0, .ref h5), (1, .int (nI w)), (2, .int v0)]) hx hb dX5_goWeek_119 hl (by decide) rfl (fun ls hl => ?_)
            refine lv_iinc (v := nI (k + 1)) (lv' := [(7, .int (nI (k + 1))), (6, .int (oI o)), (5, .int 1), (4, .int v), (3, .int (nI p)), (0, .ref h5), (1, .int (nI w)), (2, .int v0)]) hx hb dX5_goWeek_121 hl (k := 1) rfl (inc1 _) (by decide) rfl (fun ls hl => ?_)
            refine lv_goto (tgt := 59) hx hb dX5_goWeek_124 (by decide) ?_
            exact ih59 (k + 1) o _ _ _ ⟨(by omega), (by rw [mF, ← ho]; exact (if_pos (Int32.le_trans (by rw [ho]; exact foO_le) c34)).symm), hP, hD, hS, lv_sub hl [0, 1, 2, 3, 4, 5, 6, 7] rfl⟩ (by omega)
          · rcases o with _ | b
            · have hl : lv_has ls 8 [(7, .int (nI k)), (6, .int (-6)), (5, .int 1), (4, .int v), (3, .int (nI p)), (0, .ref h5), (1, .int (nI w)), (2, .int v0)] := hl
              refine lv_iload hx hb dX5_goWeek_90 (lv_at hl 1 rfl) ?_
              refine lv_if_lt (tgt := 112) hx hb dX5_goWeek_92 (by decide) (fun _ => ?_) (fun c35 => absurd c35 (by decide))
              refine lv_iload hx hb dX5_goWeek_112 (lv_at hl 0 rfl) ?_
              refine lv_goto (tgt := 119) hx hb dX5_goWeek_114 (by decide) ?_
              refine lv_istore (lv' := [(6, .int (nI k)), (7, .int (nI k)), (5, .int 1), (4, .int v), (3, .int (nI p)), (0, .ref h5), (1, .int (nI w)), (2, .int v0)]) hx hb dX5_goWeek_119 hl (by decide) rfl (fun ls hl => ?_)
              refine lv_iinc (v := nI (k + 1)) (lv' := [(7, .int (nI (k + 1))), (6, .int (nI k)), (5, .int 1), (4, .int v), (3, .int (nI p)), (0, .ref h5), (1, .int (nI w)), (2, .int v0)]) hx hb dX5_goWeek_121 hl (k := 1) rfl (inc1 _) (by decide) rfl (fun ls hl => ?_)
              refine lv_goto (tgt := 59) hx hb dX5_goWeek_124 (by decide) ?_
              exact ih59 (k + 1) (some k) _ _ _ ⟨(by omega), (by rw [mF, ← ho]; exact (if_neg c34).symm), hP, hD, hS, lv_sub hl [0, 1, 2, 3, 4, 5, 6, 7] rfl⟩ (by omega)
            · have hl : lv_has ls 8 [(7, .int (nI k)), (6, .int (nI b)), (5, .int 1), (4, .int v), (3, .int (nI p)), (0, .ref h5), (1, .int (nI w)), (2, .int v0)] := hl
              have hbb := mF_lt ho.symm
              refine lv_iload hx hb dX5_goWeek_90 (lv_at hl 1 rfl) ?_
              refine lv_if_lt (tgt := 112) hx hb dX5_goWeek_92 (by decide) (fun c36 => absurd c36 (nI_pos (by omega))) (fun c36 => ?_)
              refine lv_aload_n hx hb dX5_goWeek_95 rfl (lv_at hl 5 rfl) ?_
              refine va_get (D := D) (ci := 5) (v := .ref (a5 10)) (C := RX5) (T := TX5) (N := 24) hx hb hts inX5_goWeek hown hK hP 0 rfl rfl 21 (by decide) fl45 (fun _ h9 => h9) rfl dX5_goWeek_96 ?_
              refine lv_iload hx hb dX5_goWeek_99 (lv_at hl 0 rfl) ?_
              refine K_iald hx hb hK hP 11 0 rfl rfl k (by omega) (Nat.le_of_ble_eq_true rfl) dX5_goWeek_101 ?_
              refine lv_aload_n hx hb dX5_goWeek_102 rfl (lv_at hl 5 rfl) ?_
              refine va_get (D := D) (ci := 5) (v := .ref (a5 10)) (C := RX5) (T := TX5) (N := 24) hx hb hts inX5_goWeek hown hK hP 0 rfl rfl 21 (by decide) fl45 (fun _ h9 => h9) rfl dX5_goWeek_103 ?_
              refine lv_iload hx hb dX5_goWeek_106 (lv_at hl 1 rfl) ?_
              refine K_iald hx hb hK hP 11 0 rfl rfl b (by omega) (Nat.le_of_ble_eq_true rfl) dX5_goWeek_108 ?_
              refine lv_icmp_ge (tgt := 117) hx hb dX5_goWeek_109 (by decide) (fun c37 => ?_) (fun c37 => ?_)
              · refine lv_iload hx hb dX5_goWeek_117 (lv_at hl 1 rfl) ?_
                refine lv_istore (lv' := [(6, .int (nI b)), (7, .int (nI k)), (5, .int 1), (4, .int v), (3, .int (nI p)), (0, .ref h5), (1, .int (nI w)), (2, .int v0)]) hx hb dX5_goWeek_119 hl (by decide) rfl (fun ls hl => ?_)
                refine lv_iinc (v := nI (k + 1)) (lv' := [(7, .int (nI (k + 1))), (6, .int (nI b)), (5, .int 1), (4, .int v), (3, .int (nI p)), (0, .ref h5), (1, .int (nI w)), (2, .int v0)]) hx hb dX5_goWeek_121 hl (k := 1) rfl (inc1 _) (by decide) rfl (fun ls hl => ?_)
                refine lv_goto (tgt := 59) hx hb dX5_goWeek_124 (by decide) ?_
                exact ih59 (k + 1) (some b) _ _ _ ⟨(by omega), (by rw [mF, ← ho]; exact (if_pos c37).symm), hP, hD, hS, lv_sub hl [0, 1, 2, 3, 4, 5, 6, 7] rfl⟩ (by omega)
              · refine lv_iload hx hb dX5_goWeek_112 (lv_at hl 0 rfl) ?_
                refine lv_goto (tgt := 119) hx hb dX5_goWeek_114 (by decide) ?_
                refine lv_istore (lv' := [(6, .int (nI k)), (7, .int (nI k)), (5, .int 1), (4, .int v), (3, .int (nI p)), (0, .ref h5), (1, .int (nI w)), (2, .int v0)]) hx hb dX5_goWeek_119 hl (by decide) rfl (fun ls hl => ?_)
                refine lv_iinc (v := nI (k + 1)) (lv' := [(7, .int (nI (k + 1))), (6, .int (nI k)), (5, .int 1), (4, .int v), (3, .int (nI p)), (0, .ref h5), (1, .int (nI w)), (2, .int v0)]) hx hb dX5_goWeek_121 hl (k := 1) rfl (inc1 _) (by decide) rfl (fun ls hl => ?_)
                refine lv_goto (tgt := 59) hx hb dX5_goWeek_124 (by decide) ?_
                exact ih59 (k + 1) (some k) _ _ _ ⟨(by omega), (by rw [mF, ← ho]; exact (if_neg c37).symm), hP, hD, hS, lv_sub hl [0, 1, 2, 3, 4, 5, 6, 7] rfl⟩ (by omega)
  · have c1 : ¬ nw ≤ k := fun hq => c1 ((nI_leI (a := nw) (b := k) (by omega) (by omega)).mpr hq)
    refine lv_aload_n hx hb dX5_goWeek_14 rfl (lv_at hl 2 rfl) ?_
    refine va_get (D := D) (ci := 5) (v := .ref (a5 11)) (C := RX5) (T := TX5) (N := 24) hx hb hts inX5_goWeek hown hK hP 0 rfl rfl 22 (by decide) fl48 (fun _ h9 => h9) rfl dX5_goWeek_15 ?_
    refine lv_iload hx hb dX5_goWeek_18 (lv_at hl 0 rfl) ?_
    refine lv_iconst (v := 0) hx hb dX5_goWeek_20 (by decide) ?_
    refine K_zast hx hb hK hP hD hS 12 1 rfl rfl k (by omega) (Nat.le_of_ble_eq_true rfl) rfl dX5_goWeek_21 (fun H locs hP hD hS => ?_)
    have hP : va_P D vwCl (wX5 cI cZ cG h5 a5 (nI nr) (nI nt) (nI nc) (nI nw) hd (nI wk) (nI ng) (nI nT) mi (nI nf) (nI nn) mru mth mcl mfa mwa mfz mbl mbk mtr mno mlo (upd P k 0) mto) H := hP
    have hD : va_D A (wX5 cI cZ cG h5 a5 (nI nr) (nI nt) (nI nc) (nI nw) hd (nI wk) (nI ng) (nI nT) mi (nI nf) (nI nn) mru mth mcl mfa mwa mfz mbl mbk mtr mno mlo (upd P k 0) mto) := hD
    refine lv_iinc (v := nI (k + 1)) (lv' := [(4, .int (nI (k + 1))), (3, .int 0), (0, .ref h5), (1, .int (nI w)), (2, .int v0)]) hx hb dX5_goWeek_22 hl (k := 0) rfl (inc1 _) (by decide) rfl (fun ls hl => ?_)
    refine lv_goto (tgt := 5) hx hb dX5_goWeek_25 (by decide) ?_
    exact ih5 (k + 1) (upd P k 0) _ _ _ ⟨(by omega), (fun j hj => by
      by_cases q9 : j = k
      · rw [q9, pk_us]
      · rw [pk_un q9]; exact hz j (by omega)), hP, hD, hS, lv_sub hl [0, 1, 2, 3, 4] rfl⟩ (by omega)
theorem inX5_week : ∀ w ∈ wsX50, w ∈ wsX5_week := by decide +kernel
set_option maxHeartbeats 8000000 in
set_option maxRecDepth 100000 in
/-- week -/
theorem c_X5_week (l : Launch) (D : va_G) (cI cZ cG : ClassId) (h5 : Nat) (a5 : Nat → Nat) (sz : Nat) (nr : Nat) (nt : Nat) (nc : Nat) (nw : Nat) (hd : Int32) (wk : Nat) (ng : Nat) (nT : Nat) (mi : Int32) (nf : Nat) (nn : Nat) (mru : Nat → Int32) (mth : Nat → Int32) (mcl : Nat → Int32) (mfa : Nat → Int32) (mwa : Nat → Int32) (mfz : Nat → Int32) (mbl : Nat → Int32) (mbk : Nat → Int32) (mtr : Nat → Int32) (mno : Nat → Int32) (mlo : Nat → Int32) (mip : Nat → Int32) (mto : Nat → Int32) (hnr : nr ≤ 6) (hnt : nt ≤ 20) (hnc : nc ≤ 60) (hnw : nw ≤ 24) (hwk : wk ≤ 200) (hng : ng ≤ 3) (hnT : nT ≤ 4) (hnf : nf ≤ 12) (hnn : nn ≤ 60) (hsd : ∀ k, k < nw → ∃ j, j < 4 ∧ col 5 1 mwa k = nI j) : Met l yX5_week wsX5_week ({ frames := 1, cells := 0, slots := 0, locals := 27 } : Room) (va_Pc [.ref h5] (PB D (tyL cI cZ cG) (wX5 cI cZ cG h5 a5 (nI nr) (nI nt) (nI nc) (nI nw) hd (nI wk) (nI ng) (nI nT) mi (nI nf) (nI nn) mru mth mcl mfa mwa mfz mbl mbk mtr mno mlo mip mto) sz)) (va_Qi (fun (r : Int32) (u : Nat × (Nat → Int32) × (Nat → Int32) × (Nat → Int32)) => if wk = 200 then r = -3 ∧ u = (wk, mwa, mlo, mip) else ∃ (p : Nat) (L P : Nat → Int32), r = nI p ∧ okWQ mfz (col 5 2 mwa) nw wk hd (lL mwa mlo nw) p L P ∧ u.1 = wk + 1 ∧ u.2.1 = wW mwa (fF mfa (col 5 1 mwa) L nw) P nw) (fun u => QB D (tyL cI cZ cG) (va_A (wX5 cI cZ cG h5 a5 (nI nr) (nI nt) (nI nc) (nI nw) hd (nI wk) (nI ng) (nI nT) mi (nI nf) (nI nn) mru mth mcl mfa mwa mfz mbl mbk mtr mno mlo mip mto) sz) ((fun (u : Nat × (Nat → Int32) × (Nat → Int32) × (Nat → Int32)) => wX5 cI cZ cG h5 a5 (nI nr) (nI nt) (nI nc) (nI nw) hd (nI u.1) (nI ng) (nI nT) mi (nI nf) (nI nn) mru mth mcl mfa u.2.1 mfz mbl mbk mtr mno u.2.2.1 u.2.2.2 mto) u)) (va_A (wX5 cI cZ cG h5 a5 (nI nr) (nI nt) (nI nc) (nI nw) hd (nI wk) (nI ng) (nI nT) mi (nI nf) (nI nn) mru mth mcl mfa mwa mfz mbl mbk mtr mno mlo mip mto) sz)) 0 0 (va_A (wX5 cI cZ cG h5 a5 (nI nr) (nI nt) (nI nc) (nI nw) hd (nI wk) (nI ng) (nI nT) mi (nI nf) (nI nn) mru mth mcl mfa mwa mfz mbl mbk mtr mno mlo mip mto) sz) := by
  refine K_start (cc := cX5_week) (maxL := 3) (ret := some .int) (Qc := fun A => va_Qi (fun (r : Int32) (u : Nat × (Nat → Int32) × (Nat → Int32) × (Nat → Int32)) => if wk = 200 then r = -3 ∧ u = (wk, mwa, mlo, mip) else ∃ (p : Nat) (L P : Nat → Int32), r = nI p ∧ okWQ mfz (col 5 2 mwa) nw wk hd (lL mwa mlo nw) p L P ∧ u.1 = wk + 1 ∧ u.2.1 = wW mwa (fF mfa (col 5 1 mwa) L nw) P nw) (fun u => QB D (tyL cI cZ cG) A ((fun (u : Nat × (Nat → Int32) × (Nat → Int32) × (Nat → Int32)) => wX5 cI cZ cG h5 a5 (nI nr) (nI nt) (nI nc) (nI nw) hd (nI u.1) (nI ng) (nI nT) mi (nI nf) (nI nn) mru mth mcl mfa u.2.1 mfz mbl mbk mtr mno u.2.2.1 u.2.2.2 mto) u)) A) (by decide) rfl (Nat.le_of_ble_eq_true rfl) ?_
  intro p e s m below meth c ls A hx hb hml hr hts hown hlocks hin hN hP hK hD hA hS hl hsz
  have hl : lv_has ls 3 [(0, .ref h5)] := hl
  have fl91 := hts (.fieldLink RX5 91 "ModelTownModel" "week" "I") (by decide +kernel)
  have fl25 := hts (.fieldLink RX5 25 "ModelTownModel" "hands" "I") (by decide +kernel)
  have fl85 := hts (.fieldLink RX5 85 "ModelTownModel" "walls" "I") (by decide +kernel)
  have fl22 := hts (.fieldLink RX5 22 "ModelTownModel" "wall" "[I") (by decide +kernel)
  have fl45 := hts (.fieldLink RX5 45 "ModelTownModel" "looks" "[I") (by decide +kernel)
  have fl48 := hts (.fieldLink RX5 48 "ModelTownModel" "isPainted" "[Z") (by decide +kernel)
  refine lv_aload_n hx hb dX5_week_0 rfl (lv_at hl 0 rfl) ?_
  refine va_get (D := D) (ci := 5) (v := .int (nI wk)) (C := RX5) (T := TX5) (N := 24) hx hb hts inX5_week hown hK hP 0 rfl rfl 11 (by decide) fl91 (fun _ h9 => h9) rfl dX5_week_1 ?_
  refine lv_sipush (v := 200) hx hb dX5_week_4 (by decide) ?_
  refine lv_icmp_ne (tgt := 13) hx hb dX5_week_7 (by decide) (fun c1 => ?_) (fun c1 => ?_)
  · have c1 : ¬ wk = 200 := fun hq => c1 ((nI_eq (a := wk) (b := 200) (by omega) (by omega)).mpr hq)
    refine lv_aload_n hx hb dX5_week_13 rfl (lv_at hl 0 rfl) ?_
    refine K_samev (va_runV (As := []) (rest := []) ⟨hx, hb, hml, hown, hts⟩ (c_X5_layLooks l D cI cZ cG h5 a5 _ nr nt nc nw hd wk ng nT mi nf nn mru mth mcl mfa mwa mfz mbl mbk mtr mno mlo mip mto hnr hnt hnc hnw hwk hng hnT hnf hnn) (cwV 0 hts gX5_week_X5_layLooks rfl rfl rfl (by decide +kernel) ⟨(Nat.le_of_ble_eq_true rfl), (Nat.le_of_ble_eq_true rfl)⟩) ⟨PB_blind, va_recv hK hP (ci := 5) (q0 := 0) rfl rfl, (K_preS hN hK hP hD).2⟩ rfl rfl hl.1 rfl (lv_room (Nat.le_of_ble_eq_true rfl)) dX5_week_14 ⟨Nat.zero_le _, Nat.zero_le _⟩) hD hS hA (fun u H locs hw2 hP hD hS => ?_)
    obtain ⟨mlo22, rfl⟩ : ∃ z, z = u := ⟨_, rfl⟩
    try dsimp only at hw2
    have hP : va_P D vwCl (wX5 cI cZ cG h5 a5 (nI nr) (nI nt) (nI nc) (nI nw) hd (nI wk) (nI ng) (nI nT) mi (nI nf) (nI nn) mru mth mcl mfa mwa mfz mbl mbk mtr mno mlo22 mip mto) H := hP
    have hD : va_D A (wX5 cI cZ cG h5 a5 (nI nr) (nI nt) (nI nc) (nI nw) hd (nI wk) (nI ng) (nI nT) mi (nI nf) (nI nn) mru mth mcl mfa mwa mfz mbl mbk mtr mno mlo22 mip mto) := hD
    refine lv_aload_n hx hb dX5_week_17 rfl (lv_at hl 0 rfl) ?_
    refine lv_aload_n hx hb dX5_week_18 rfl (lv_at hl 0 rfl) ?_
    refine va_get (D := D) (ci := 5) (v := .int (nI wk)) (C := RX5) (T := TX5) (N := 24) hx hb hts inX5_week hown hK hP 0 rfl rfl 11 (by decide) fl91 (fun _ h9 => h9) rfl dX5_week_19 ?_
    refine lv_aload_n hx hb dX5_week_22 rfl (lv_at hl 0 rfl) ?_
    refine va_get (D := D) (ci := 5) (v := .int hd) (C := RX5) (T := TX5) (N := 24) hx hb hts inX5_week hown hK hP 0 rfl rfl 9 (by decide) fl25 (fun _ h9 => h9) rfl dX5_week_23 ?_
    refine K_same (va_runV (As := [.int (nI wk), .int hd]) (rest := []) ⟨hx, hb, hml, hown, hts⟩ (c_X5_goWeek l D cI cZ cG h5 a5 _ nr nt nc nw hd wk ng nT mi nf nn mru mth mcl mfa mwa mfz mbl mbk mtr mno mlo22 mip mto wk hd hnr hnt hnc hnw hwk hng hnT hnf hnn hsd (by omega)) (cwV 2 hts gX5_week_X5_goWeek rfl rfl rfl (by decide +kernel) ⟨(Nat.le_of_ble_eq_true rfl), (Nat.le_of_ble_eq_true rfl)⟩) ⟨PB_blind, va_recv hK hP (ci := 5) (q0 := 0) rfl rfl, (K_preS hN hK hP hD).2⟩ rfl rfl hl.1 rfl (lv_room (Nat.le_of_ble_eq_true rfl)) dX5_week_26 ⟨Nat.zero_le _, Nat.zero_le _⟩) hD hS hA (fun r3 u H locs hw3 hP hD hS => ?_)
    obtain ⟨mlo23, mip23⟩ := u
    try dsimp only at hw3
    have hP : va_P D vwCl (wX5 cI cZ cG h5 a5 (nI nr) (nI nt) (nI nc) (nI nw) hd (nI wk) (nI ng) (nI nT) mi (nI nf) (nI nn) mru mth mcl mfa mwa mfz mbl mbk mtr mno mlo23 mip23 mto) H := hP
    have hD : va_D A (wX5 cI cZ cG h5 a5 (nI nr) (nI nt) (nI nc) (nI nw) hd (nI wk) (nI ng) (nI nT) mi (nI nf) (nI nn) mru mth mcl mfa mwa mfz mbl mbk mtr mno mlo23 mip23 mto) := hD
    obtain ⟨p3, L3, hrr3, hW3, hM3⟩ := hw3
    obtain rfl : r3 = nI p3 := hrr3
    refine lv_istore_n (lv' := [(1, .int (nI p3)), (0, .ref h5)]) hx hb dX5_week_29 rfl hl (by decide) rfl (fun ls hl => ?_)
    refine lv_iconst (v := 0) hx hb dX5_week_30 (by decide) ?_
    refine lv_istore_n (lv' := [(2, .int 0), (1, .int (nI p3)), (0, .ref h5)]) hx hb dX5_week_31 rfl hl (by decide) rfl (fun ls hl => ?_)
    refine loopW2 (fun (k : Nat) (W : Nat → Int32) H locs ls => (k ≤ nw) ∧ (W = wW mwa mlo23 mip23 k) ∧ va_P D vwCl (wX5 cI cZ cG h5 a5 (nI nr) (nI nt) (nI nc) (nI nw) hd (nI wk) (nI ng) (nI nT) mi (nI nf) (nI nn) mru mth mcl mfa W mfz mbl mbk mtr mno mlo23 mip23 mto) H ∧ va_D A (wX5 cI cZ cG h5 a5 (nI nr) (nI nt) (nI nc) (nI nw) hd (nI wk) (nI ng) (nI nT) mi (nI nf) (nI nn) mru mth mcl mfa W mfz mbl mbk mtr mno mlo23 mip23 mto) ∧ va_S A s.heap H locs ∧ lv_has ls 3 [(2, .int (nI k)), (1, .int (nI p3)), (0, .ref h5)]) (fun (k : Nat) (W : Nat → Int32) => nw - k) (fun k W H locs ls hI ih32 => ?_) 0 mwa _ _ _ ⟨(by omega), rfl, hP, hD, hS, lv_sub hl [0, 1, 2] rfl⟩
    obtain ⟨hk, hW9, hP, hD, hS, hl⟩ := hI
    refine lv_iload_n hx hb dX5_week_32 rfl (lv_at hl 0 rfl) ?_
    refine lv_aload_n hx hb dX5_week_33 rfl (lv_at hl 2 rfl) ?_
    refine va_get (D := D) (ci := 5) (v := .int (nI nw)) (C := RX5) (T := TX5) (N := 24) hx hb hts inX5_week hown hK hP 0 rfl rfl 7 (by decide) fl85 (fun _ h9 => h9) rfl dX5_week_34 ?_
    refine lv_icmp_ge (tgt := 89) hx hb dX5_week_37 (by decide) (fun c4 => ?_) (fun c4 => ?_)
    · have c4 : nw ≤ k := (nI_leI (a := nw) (b := k) (by omega) (by omega)).mp c4
      have ek : k = nw := by omega
      rw [ek] at hW9
      refine lv_aload_n hx hb dX5_week_89 rfl (lv_at hl 2 rfl) ?_
      refine lv_dup hx hb dX5_week_90 rfl ?_
      refine va_get (D := D) (ci := 5) (v := .int (nI wk)) (C := RX5) (T := TX5) (N := 24) hx hb hts inX5_week hown hK hP 0 rfl rfl 11 (by decide) fl91 (fun _ h9 => h9) rfl dX5_week_91 ?_
      refine lv_iconst (v := 1) hx hb dX5_week_94 (by decide) ?_
      refine lv_iadd hx hb dX5_week_95 ?_
      refine lv_topi (fun z5 ez5 => ?_)
      obtain rfl : z5 = nI (wk + 1) := ez5.trans (nI_add wk 1)
      refine va_put (D := D) (ci := 5) (v := .int (nI (wk + 1))) (ty := .int) (C := RX5) (T := TX5) (N := 24) hx hb hts inX5_week tyX5 tyX5_ok nmX5 hown hK hP hD hS 0 rfl rfl 11 (by decide) fl91 (fun _ h9 => h9) rfl (by decide +kernel) rfl rfl (Nat.le_of_ble_eq_true rfl) dX5_week_96 (fun H locs hP hD hS => ?_)
      have hP : va_P D vwCl (wX5 cI cZ cG h5 a5 (nI nr) (nI nt) (nI nc) (nI nw) hd (nI (wk + 1)) (nI ng) (nI nT) mi (nI nf) (nI nn) mru mth mcl mfa W mfz mbl mbk mtr mno mlo23 mip23 mto) H := hP
      have hD : va_D A (wX5 cI cZ cG h5 a5 (nI nr) (nI nt) (nI nc) (nI nw) hd (nI (wk + 1)) (nI ng) (nI nT) mi (nI nf) (nI nn) mru mth mcl mfa W mfz mbl mbk mtr mno mlo23 mip23 mto) := hD
      refine lv_iload_n hx hb dX5_week_99 rfl (lv_at hl 1 rfl) ?_
      exact K_iret (wf := (fun (u : Nat × (Nat → Int32) × (Nat → Int32) × (Nat → Int32)) => wX5 cI cZ cG h5 a5 (nI nr) (nI nt) (nI nc) (nI nw) hd (nI u.1) (nI ng) (nI nT) mi (nI nf) (nI nn) mru mth mcl mfa u.2.1 mfz mbl mbk mtr mno u.2.2.1 u.2.2.2 mto)) (wk + 1, W, mlo23, mip23) hx hb hr hlocks hP hK hD hS dX5_week_100 (by rw [if_neg c1]; exact ⟨p3, L3, mip23, rfl, by rw [← hw2]; exact hW3, rfl, by rw [hW9, hM3]⟩)
    · have c4 : ¬ nw ≤ k := fun hq => c4 ((nI_leI (a := nw) (b := k) (by omega) (by omega)).mpr hq)
      refine lv_aload_n hx hb dX5_week_40 rfl (lv_at hl 2 rfl) ?_
      refine va_get (D := D) (ci := 5) (v := .ref (a5 4)) (C := RX5) (T := TX5) (N := 24) hx hb hts inX5_week hown hK hP 0 rfl rfl 8 (by decide) fl22 (fun _ h9 => h9) rfl dX5_week_41 ?_
      refine lv_iconst (v := 5) hx hb dX5_week_44 (by decide) ?_
      refine lv_iload_n hx hb dX5_week_45 rfl (lv_at hl 0 rfl) ?_
      refine lv_imul hx hb dX5_week_46 ?_
      refine lv_topi (fun z6 ez6 => ?_)
      obtain rfl : z6 = nI (5 * k) := ez6.trans (pk_mul 5 k)
      refine lv_iconst (v := 3) hx hb dX5_week_47 (by decide) ?_
      refine lv_iadd hx hb dX5_week_48 ?_
      refine lv_topi (fun z7 ez7 => ?_)
      obtain rfl : z7 = nI (5 * k + 3) := ez7.trans ((nI_add (5 * k) 3).trans (congrArg nI (by omega)))
      refine lv_aload_n hx hb dX5_week_49 rfl (lv_at hl 2 rfl) ?_
      refine va_get (D := D) (ci := 5) (v := .ref (a5 10)) (C := RX5) (T := TX5) (N := 24) hx hb hts inX5_week hown hK hP 0 rfl rfl 21 (by decide) fl45 (fun _ h9 => h9) rfl dX5_week_50 ?_
      refine lv_iload_n hx hb dX5_week_53 rfl (lv_at hl 0 rfl) ?_
      refine K_iald hx hb hK hP 11 0 rfl rfl k (by omega) (Nat.le_of_ble_eq_true rfl) dX5_week_54 ?_
      refine K_iast hx hb hK hP hD hS 5 0 rfl rfl (5 * k + 3) (by omega) (Nat.le_of_ble_eq_true rfl) dX5_week_55 (fun H locs hP hD hS => ?_)
      have hP : va_P D vwCl (wX5 cI cZ cG h5 a5 (nI nr) (nI nt) (nI nc) (nI nw) hd (nI wk) (nI ng) (nI nT) mi (nI nf) (nI nn) mru mth mcl mfa (upd W (5 * k + 3) (mlo23 k)) mfz mbl mbk mtr mno mlo23 mip23 mto) H := hP
      have hD : va_D A (wX5 cI cZ cG h5 a5 (nI nr) (nI nt) (nI nc) (nI nw) hd (nI wk) (nI ng) (nI nT) mi (nI nf) (nI nn) mru mth mcl mfa (upd W (5 * k + 3) (mlo23 k)) mfz mbl mbk mtr mno mlo23 mip23 mto) := hD
      refine lv_aload_n hx hb dX5_week_56 rfl (lv_at hl 2 rfl) ?_
      refine va_get (D := D) (ci := 5) (v := .ref (a5 4)) (C := RX5) (T := TX5) (N := 24) hx hb hts inX5_week hown hK hP 0 rfl rfl 8 (by decide) fl22 (fun _ h9 => h9) rfl dX5_week_57 ?_
      refine lv_iconst (v := 5) hx hb dX5_week_60 (by decide) ?_
      refine lv_iload_n hx hb dX5_week_61 rfl (lv_at hl 0 rfl) ?_
      refine lv_imul hx hb dX5_week_62 ?_
      refine lv_topi (fun z8 ez8 => ?_)
      obtain rfl : z8 = nI (5 * k) := ez8.trans (pk_mul 5 k)
      refine lv_iconst (v := 4) hx hb dX5_week_63 (by decide) ?_
      refine lv_iadd hx hb dX5_week_64 ?_
      refine lv_topi (fun z9 ez9 => ?_)
      obtain rfl : z9 = nI (5 * k + 4) := ez9.trans ((nI_add (5 * k) 4).trans (congrArg nI (by omega)))
      refine lv_dup2_11 hx hb dX5_week_65 rfl rfl ?_
      refine K_iald hx hb hK hP 5 0 rfl rfl (5 * k + 4) (by omega) (Nat.le_of_ble_eq_true rfl) dX5_week_66 ?_
      refine lv_aload_n hx hb dX5_week_67 rfl (lv_at hl 2 rfl) ?_
      refine va_get (D := D) (ci := 5) (v := .ref (a5 11)) (C := RX5) (T := TX5) (N := 24) hx hb hts inX5_week hown hK hP 0 rfl rfl 22 (by decide) fl48 (fun _ h9 => h9) rfl dX5_week_68 ?_
      refine lv_iload_n hx hb dX5_week_71 rfl (lv_at hl 0 rfl) ?_
      refine K_zald hx hb hK hP 12 1 rfl rfl k (by omega) (Nat.le_of_ble_eq_true rfl) dX5_week_72 ?_
      refine lv_if_eq (tgt := 80) hx hb dX5_week_73 (by decide) (fun c10 => ?_) (fun c10 => ?_)
      · refine lv_iconst (v := 0) hx hb dX5_week_80 (by decide) ?_
        refine lv_iadd hx hb dX5_week_81 ?_
        refine K_iast hx hb hK hP hD hS 5 0 rfl rfl (5 * k + 4) (by omega) (Nat.le_of_ble_eq_true rfl) dX5_week_82 (fun H locs hP hD hS => ?_)
        have hP : va_P D vwCl (wX5 cI cZ cG h5 a5 (nI nr) (nI nt) (nI nc) (nI nw) hd (nI wk) (nI ng) (nI nT) mi (nI nf) (nI nn) mru mth mcl mfa (upd (upd W (5 * k + 3) (mlo23 k)) (5 * k + 4) (((upd W (5 * k + 3) (mlo23 k)) (5 * k + 4)) + 0)) mfz mbl mbk mtr mno mlo23 mip23 mto) H := hP
        have hD : va_D A (wX5 cI cZ cG h5 a5 (nI nr) (nI nt) (nI nc) (nI nw) hd (nI wk) (nI ng) (nI nT) mi (nI nf) (nI nn) mru mth mcl mfa (upd (upd W (5 * k + 3) (mlo23 k)) (5 * k + 4) (((upd W (5 * k + 3) (mlo23 k)) (5 * k + 4)) + 0)) mfz mbl mbk mtr mno mlo23 mip23 mto) := hD
        refine lv_iinc (v := nI (k + 1)) (lv' := [(2, .int (nI (k + 1))), (1, .int (nI p3)), (0, .ref h5)]) hx hb dX5_week_83 hl (k := 0) rfl (inc1 _) (by decide) rfl (fun ls hl => ?_)
        refine lv_goto (tgt := 32) hx hb dX5_week_86 (by decide) ?_
        exact ih32 (k + 1) (upd (upd W (5 * k + 3) (mlo23 k)) (5 * k + 4) (((upd W (5 * k + 3) (mlo23 k)) (5 * k + 4)) + 0)) _ _ _ ⟨(by omega), (by rw [wW, ← hW9, if_pos c10]), hP, hD, hS, lv_sub hl [0, 1, 2] rfl⟩ (by omega)
      · refine lv_iconst (v := 1) hx hb dX5_week_76 (by decide) ?_
        refine lv_goto (tgt := 81) hx hb dX5_week_77 (by decide) ?_
        refine lv_iadd hx hb dX5_week_81 ?_
        refine K_iast hx hb hK hP hD hS 5 0 rfl rfl (5 * k + 4) (by omega) (Nat.le_of_ble_eq_true rfl) dX5_week_82 (fun H locs hP hD hS => ?_)
        have hP : va_P D vwCl (wX5 cI cZ cG h5 a5 (nI nr) (nI nt) (nI nc) (nI nw) hd (nI wk) (nI ng) (nI nT) mi (nI nf) (nI nn) mru mth mcl mfa (upd (upd W (5 * k + 3) (mlo23 k)) (5 * k + 4) (((upd W (5 * k + 3) (mlo23 k)) (5 * k + 4)) + 1)) mfz mbl mbk mtr mno mlo23 mip23 mto) H := hP
        have hD : va_D A (wX5 cI cZ cG h5 a5 (nI nr) (nI nt) (nI nc) (nI nw) hd (nI wk) (nI ng) (nI nT) mi (nI nf) (nI nn) mru mth mcl mfa (upd (upd W (5 * k + 3) (mlo23 k)) (5 * k + 4) (((upd W (5 * k + 3) (mlo23 k)) (5 * k + 4)) + 1)) mfz mbl mbk mtr mno mlo23 mip23 mto) := hD
        refine lv_iinc (v := nI (k + 1)) (lv' := [(2, .int (nI (k + 1))), (1, .int (nI p3)), (0, .ref h5)]) hx hb dX5_week_83 hl (k := 0) rfl (inc1 _) (by decide) rfl (fun ls hl => ?_)
        refine lv_goto (tgt := 32) hx hb dX5_week_86 (by decide) ?_
        exact ih32 (k + 1) (upd (upd W (5 * k + 3) (mlo23 k)) (5 * k + 4) (((upd W (5 * k + 3) (mlo23 k)) (5 * k + 4)) + 1)) _ _ _ ⟨(by omega), (by rw [wW, ← hW9, if_neg c10]), hP, hD, hS, lv_sub hl [0, 1, 2] rfl⟩ (by omega)
  · have c1 : wk = 200 := (nI_eq (a := wk) (b := 200) (by omega) (by omega)).mp c1
    refine lv_bipush (v := (-3)) hx hb dX5_week_10 (by decide) ?_
    exact K_iret (wf := (fun (u : Nat × (Nat → Int32) × (Nat → Int32) × (Nat → Int32)) => wX5 cI cZ cG h5 a5 (nI nr) (nI nt) (nI nc) (nI nw) hd (nI u.1) (nI ng) (nI nT) mi (nI nf) (nI nn) mru mth mcl mfa u.2.1 mfz mbl mbk mtr mno u.2.2.1 u.2.2.2 mto)) (wk, mwa, mlo, mip) hx hb hr hlocks hP hK hD hS dX5_week_12 (by rw [if_pos c1]; exact ⟨rfl, rfl⟩)
theorem inX5_layForetold : ∀ w ∈ wsX50, w ∈ wsX5_layForetold := by decide +kernel
set_option maxHeartbeats 8000000 in
set_option maxRecDepth 100000 in
/-- layForetold -/
theorem c_X5_layForetold (l : Launch) (D : va_G) (cI cZ cG : ClassId) (h5 : Nat) (a5 : Nat → Nat) (sz : Nat) (nr : Nat) (nt : Nat) (nc : Nat) (nw : Nat) (hd : Int32) (wk : Nat) (ng : Nat) (nT : Nat) (mi : Int32) (nf : Nat) (nn : Nat) (mru : Nat → Int32) (mth : Nat → Int32) (mcl : Nat → Int32) (mfa : Nat → Int32) (mwa : Nat → Int32) (mfz : Nat → Int32) (mbl : Nat → Int32) (mbk : Nat → Int32) (mtr : Nat → Int32) (mno : Nat → Int32) (mlo : Nat → Int32) (mip : Nat → Int32) (mto : Nat → Int32) (n : Nat) (h : Int32) (hnr : nr ≤ 6) (hnt : nt ≤ 20) (hnc : nc ≤ 60) (hnw : nw ≤ 24) (hwk : wk ≤ 200) (hng : ng ≤ 3) (hnT : nT ≤ 4) (hnf : nf ≤ 12) (hnn : nn ≤ 60) (hsd : ∀ k, k < nw → ∃ j, j < 4 ∧ col 5 1 mwa k = nI j) (hn200 : wk + n ≤ 200) : Met l yX5_layForetold wsX5_layForetold ({ frames := 1, cells := 0, slots := 0, locals := 27 } : Room) (va_Pc [.ref h5, .int (nI n), .int h] (PB D (tyL cI cZ cG) (wX5 cI cZ cG h5 a5 (nI nr) (nI nt) (nI nc) (nI nw) hd (nI wk) (nI ng) (nI nT) mi (nI nf) (nI nn) mru mth mcl mfa mwa mfz mbl mbk mtr mno mlo mip mto) sz)) (va_Qv (fun (u : (Nat → Int32) × (Nat → Int32) × (Nat → Int32)) => u.1 = (mS mfa mfz (col 5 1 mwa) (col 5 2 mwa) nw wk h (lL mwa mlo nw) (1000, mto 1, mto 2) n).1 ∧ (u.2.2 0, u.2.2 1, u.2.2 2) = (mS mfa mfz (col 5 1 mwa) (col 5 2 mwa) nw wk h (lL mwa mlo nw) (1000, mto 1, mto 2) n).2.2.1) (fun u => QB D (tyL cI cZ cG) (va_A (wX5 cI cZ cG h5 a5 (nI nr) (nI nt) (nI nc) (nI nw) hd (nI wk) (nI ng) (nI nT) mi (nI nf) (nI nn) mru mth mcl mfa mwa mfz mbl mbk mtr mno mlo mip mto) sz) ((fun (u : (Nat → Int32) × (Nat → Int32) × (Nat → Int32)) => wX5 cI cZ cG h5 a5 (nI nr) (nI nt) (nI nc) (nI nw) hd (nI wk) (nI ng) (nI nT) mi (nI nf) (nI nn) mru mth mcl mfa mwa mfz mbl mbk mtr mno u.1 u.2.1 u.2.2) u)) (va_A (wX5 cI cZ cG h5 a5 (nI nr) (nI nt) (nI nc) (nI nw) hd (nI wk) (nI ng) (nI nT) mi (nI nf) (nI nn) mru mth mcl mfa mwa mfz mbl mbk mtr mno mlo mip mto) sz)) 0 0 (va_A (wX5 cI cZ cG h5 a5 (nI nr) (nI nt) (nI nc) (nI nw) hd (nI wk) (nI ng) (nI nT) mi (nI nf) (nI nn) mru mth mcl mfa mwa mfz mbl mbk mtr mno mlo mip mto) sz) := by
  refine K_start (cc := cX5_layForetold) (maxL := 6) (ret := none) (Qc := fun A => va_Qv (fun (u : (Nat → Int32) × (Nat → Int32) × (Nat → Int32)) => u.1 = (mS mfa mfz (col 5 1 mwa) (col 5 2 mwa) nw wk h (lL mwa mlo nw) (1000, mto 1, mto 2) n).1 ∧ (u.2.2 0, u.2.2 1, u.2.2 2) = (mS mfa mfz (col 5 1 mwa) (col 5 2 mwa) nw wk h (lL mwa mlo nw) (1000, mto 1, mto 2) n).2.2.1) (fun u => QB D (tyL cI cZ cG) A ((fun (u : (Nat → Int32) × (Nat → Int32) × (Nat → Int32)) => wX5 cI cZ cG h5 a5 (nI nr) (nI nt) (nI nc) (nI nw) hd (nI wk) (nI ng) (nI nT) mi (nI nf) (nI nn) mru mth mcl mfa mwa mfz mbl mbk mtr mno u.1 u.2.1 u.2.2) u)) A) (by decide) rfl (Nat.le_of_ble_eq_true rfl) ?_
  intro p e s m below meth c ls A hx hb hml hr hts hown hlocks hin hN hP hK hD hA hS hl hsz
  have hl : lv_has ls 6 [(0, .ref h5), (1, .int (nI n)), (2, .int h)] := hl
  have fl51 := hts (.fieldLink RX5 51 "ModelTownModel" "told" "[I") (by decide +kernel)
  have fl91 := hts (.fieldLink RX5 91 "ModelTownModel" "week" "I") (by decide +kernel)
  have fl85 := hts (.fieldLink RX5 85 "ModelTownModel" "walls" "I") (by decide +kernel)
  have fl45 := hts (.fieldLink RX5 45 "ModelTownModel" "looks" "[I") (by decide +kernel)
  refine lv_aload_n hx hb dX5_layForetold_0 rfl (lv_at hl 0 rfl) ?_
  refine K_samev (va_runV (As := []) (rest := []) ⟨hx, hb, hml, hown, hts⟩ (c_X5_layLooks l D cI cZ cG h5 a5 _ nr nt nc nw hd wk ng nT mi nf nn mru mth mcl mfa mwa mfz mbl mbk mtr mno mlo mip mto hnr hnt hnc hnw hwk hng hnT hnf hnn) (cwV 0 hts gX5_layForetold_X5_layLooks rfl rfl rfl (by decide +kernel) ⟨(Nat.le_of_ble_eq_true rfl), (Nat.le_of_ble_eq_true rfl)⟩) ⟨PB_blind, va_recv hK hP (ci := 5) (q0 := 0) rfl rfl, (K_preS hN hK hP hD).2⟩ rfl rfl hl.1 rfl (lv_room (Nat.le_of_ble_eq_true rfl)) dX5_layForetold_1 ⟨Nat.zero_le _, Nat.zero_le _⟩) hD hS hA (fun u H locs hw1 hP hD hS => ?_)
  obtain ⟨mlo21, rfl⟩ : ∃ z, z = u := ⟨_, rfl⟩
  try dsimp only at hw1
  have hP : va_P D vwCl (wX5 cI cZ cG h5 a5 (nI nr) (nI nt) (nI nc) (nI nw) hd (nI wk) (nI ng) (nI nT) mi (nI nf) (nI nn) mru mth mcl mfa mwa mfz mbl mbk mtr mno mlo21 mip mto) H := hP
  have hD : va_D A (wX5 cI cZ cG h5 a5 (nI nr) (nI nt) (nI nc) (nI nw) hd (nI wk) (nI ng) (nI nT) mi (nI nf) (nI nn) mru mth mcl mfa mwa mfz mbl mbk mtr mno mlo21 mip mto) := hD
  refine lv_aload_n hx hb dX5_layForetold_4 rfl (lv_at hl 0 rfl) ?_
  refine va_get (D := D) (ci := 5) (v := .ref (a5 12)) (C := RX5) (T := TX5) (N := 24) hx hb hts inX5_layForetold hown hK hP 0 rfl rfl 23 (by decide) fl51 (fun _ h9 => h9) rfl dX5_layForetold_5 ?_
  refine lv_iconst (v := 0) hx hb dX5_layForetold_8 (by decide) ?_
  refine lv_sipush (v := 1000) hx hb dX5_layForetold_9 (by decide) ?_
  refine K_iast hx hb hK hP hD hS 13 0 rfl rfl 0 (by omega) (Nat.le_of_ble_eq_true rfl) dX5_layForetold_12 (fun H locs hP hD hS => ?_)
  have hP : va_P D vwCl (wX5 cI cZ cG h5 a5 (nI nr) (nI nt) (nI nc) (nI nw) hd (nI wk) (nI ng) (nI nT) mi (nI nf) (nI nn) mru mth mcl mfa mwa mfz mbl mbk mtr mno mlo21 mip (upd mto 0 1000)) H := hP
  have hD : va_D A (wX5 cI cZ cG h5 a5 (nI nr) (nI nt) (nI nc) (nI nw) hd (nI wk) (nI ng) (nI nT) mi (nI nf) (nI nn) mru mth mcl mfa mwa mfz mbl mbk mtr mno mlo21 mip (upd mto 0 1000)) := hD
  refine lv_aload_n hx hb dX5_layForetold_13 rfl (lv_at hl 0 rfl) ?_
  refine va_get (D := D) (ci := 5) (v := .int (nI wk)) (C := RX5) (T := TX5) (N := 24) hx hb hts inX5_layForetold hown hK hP 0 rfl rfl 11 (by decide) fl91 (fun _ h9 => h9) rfl dX5_layForetold_14 ?_
  refine lv_istore_n (lv' := [(3, .int (nI wk)), (0, .ref h5), (1, .int (nI n)), (2, .int h)]) hx hb dX5_layForetold_17 rfl hl (by decide) rfl (fun ls hl => ?_)
  refine loopW4 (fun (i : Nat) (L : Nat → Int32) (P : Nat → Int32) (to : Nat → Int32) H locs ls => (i ≤ n) ∧ (L = (mS mfa mfz (col 5 1 mwa) (col 5 2 mwa) nw wk h (lL mwa mlo nw) (1000, mto 1, mto 2) i).1) ∧ ((to 0, to 1, to 2) = (mS mfa mfz (col 5 1 mwa) (col 5 2 mwa) nw wk h (lL mwa mlo nw) (1000, mto 1, mto 2) i).2.2.1) ∧ va_P D vwCl (wX5 cI cZ cG h5 a5 (nI nr) (nI nt) (nI nc) (nI nw) hd (nI wk) (nI ng) (nI nT) mi (nI nf) (nI nn) mru mth mcl mfa mwa mfz mbl mbk mtr mno L P to) H ∧ va_D A (wX5 cI cZ cG h5 a5 (nI nr) (nI nt) (nI nc) (nI nw) hd (nI wk) (nI ng) (nI nT) mi (nI nf) (nI nn) mru mth mcl mfa mwa mfz mbl mbk mtr mno L P to) ∧ va_S A s.heap H locs ∧ lv_has ls 6 [(3, .int (nI (wk + i))), (0, .ref h5), (1, .int (nI n)), (2, .int h)]) (fun (i : Nat) (L : Nat → Int32) (P : Nat → Int32) (to : Nat → Int32) => n - i) (fun i L P to H locs ls hI ih18 => ?_) 0 mlo21 mip (upd mto 0 1000) _ _ _ ⟨(by omega), hw1, rfl, hP, hD, hS, lv_sub hl [0, 1, 2, 3] rfl⟩
  obtain ⟨hi, hL, hto, hP, hD, hS, hl⟩ := hI
  refine lv_iload_n hx hb dX5_layForetold_18 rfl (lv_at hl 0 rfl) ?_
  refine lv_aload_n hx hb dX5_layForetold_19 rfl (lv_at hl 1 rfl) ?_
  refine va_get (D := D) (ci := 5) (v := .int (nI wk)) (C := RX5) (T := TX5) (N := 24) hx hb hts inX5_layForetold hown hK hP 0 rfl rfl 11 (by decide) fl91 (fun _ h9 => h9) rfl dX5_layForetold_20 ?_
  refine lv_iload_n hx hb dX5_layForetold_23 rfl (lv_at hl 2 rfl) ?_
  refine lv_iadd hx hb dX5_layForetold_24 ?_
  refine lv_topi (fun z2 ez2 => ?_)
  obtain rfl : z2 = nI (wk + n) := ez2.trans (nI_add wk n)
  refine lv_icmp_ge (tgt := 104) hx hb dX5_layForetold_25 (by decide) (fun c3 => ?_) (fun c3 => ?_)
  · have c3 : (wk + n) ≤ (wk + i) := (nI_leI (a := wk + n) (b := wk + i) (by omega) (by omega)).mp c3
    have ek : i = n := by omega
    rw [ek] at hL hto
    exact K_vret (wf := (fun (u : (Nat → Int32) × (Nat → Int32) × (Nat → Int32)) => wX5 cI cZ cG h5 a5 (nI nr) (nI nt) (nI nc) (nI nw) hd (nI wk) (nI ng) (nI nT) mi (nI nf) (nI nn) mru mth mcl mfa mwa mfz mbl mbk mtr mno u.1 u.2.1 u.2.2)) (L, P, to) hx hb hr hlocks hP hK hD hS dX5_layForetold_104 (⟨hL, hto⟩)
  · have c3 : ¬ (wk + n) ≤ (wk + i) := fun hq => c3 ((nI_leI (a := wk + n) (b := wk + i) (by omega) (by omega)).mpr hq)
    refine lv_aload_n hx hb dX5_layForetold_28 rfl (lv_at hl 1 rfl) ?_
    refine lv_iload_n hx hb dX5_layForetold_29 rfl (lv_at hl 0 rfl) ?_
    refine lv_iload_n hx hb dX5_layForetold_30 rfl (lv_at hl 3 rfl) ?_
    refine K_same (va_runV (As := [.int (nI (wk + i)), .int h]) (rest := []) ⟨hx, hb, hml, hown, hts⟩ (c_X5_goWeek l D cI cZ cG h5 a5 _ nr nt nc nw hd wk ng nT mi nf nn mru mth mcl mfa mwa mfz mbl mbk mtr mno L P to (wk + i) h hnr hnt hnc hnw hwk hng hnT hnf hnn hsd (by omega)) (cwV 2 hts gX5_layForetold_X5_goWeek rfl rfl rfl (by decide +kernel) ⟨(Nat.le_of_ble_eq_true rfl), (Nat.le_of_ble_eq_true rfl)⟩) ⟨PB_blind, va_recv hK hP (ci := 5) (q0 := 0) rfl rfl, (K_preS hN hK hP hD).2⟩ rfl rfl hl.1 rfl (lv_room (Nat.le_of_ble_eq_true rfl)) dX5_layForetold_31 ⟨Nat.zero_le _, Nat.zero_le _⟩) hD hS hA (fun r4 u H locs hw4 hP hD hS => ?_)
    obtain ⟨mlo24, mip24⟩ := u
    try dsimp only at hw4
    have hP : va_P D vwCl (wX5 cI cZ cG h5 a5 (nI nr) (nI nt) (nI nc) (nI nw) hd (nI wk) (nI ng) (nI nT) mi (nI nf) (nI nn) mru mth mcl mfa mwa mfz mbl mbk mtr mno mlo24 mip24 to) H := hP
    have hD : va_D A (wX5 cI cZ cG h5 a5 (nI nr) (nI nt) (nI nc) (nI nw) hd (nI wk) (nI ng) (nI nT) mi (nI nf) (nI nn) mru mth mcl mfa mwa mfz mbl mbk mtr mno mlo24 mip24 to) := hD
    obtain ⟨p4, L4, hrr4, hW4, hM4⟩ := hw4
    obtain rfl : r4 = nI p4 := hrr4
    refine lv_istore (lv' := [(4, .int (nI p4)), (3, .int (nI (wk + i))), (0, .ref h5), (1, .int (nI n)), (2, .int h)]) hx hb dX5_layForetold_34 hl (by decide) rfl (fun ls hl => ?_)
    refine lv_iconst (v := 0) hx hb dX5_layForetold_36 (by decide) ?_
    refine lv_istore (lv' := [(5, .int 0), (4, .int (nI p4)), (3, .int (nI (wk + i))), (0, .ref h5), (1, .int (nI n)), (2, .int h)]) hx hb dX5_layForetold_37 hl (by decide) rfl (fun ls hl => ?_)
    refine loopW2 (fun (k : Nat) (to9 : Nat → Int32) H locs ls => (k ≤ nw) ∧ ((to9 0, to9 1, to9 2) = kL mlo24 (nI (wk + i)) (to 0, to 1, to 2) k) ∧ va_P D vwCl (wX5 cI cZ cG h5 a5 (nI nr) (nI nt) (nI nc) (nI nw) hd (nI wk) (nI ng) (nI nT) mi (nI nf) (nI nn) mru mth mcl mfa mwa mfz mbl mbk mtr mno mlo24 mip24 to9) H ∧ va_D A (wX5 cI cZ cG h5 a5 (nI nr) (nI nt) (nI nc) (nI nw) hd (nI wk) (nI ng) (nI nT) mi (nI nf) (nI nn) mru mth mcl mfa mwa mfz mbl mbk mtr mno mlo24 mip24 to9) ∧ va_S A s.heap H locs ∧ lv_has ls 6 [(5, .int (nI k)), (4, .int (nI p4)), (3, .int (nI (wk + i))), (0, .ref h5), (1, .int (nI n)), (2, .int h)]) (fun (k : Nat) (to9 : Nat → Int32) => nw - k) (fun k to9 H locs ls hI ih39 => ?_) 0 to _ _ _ ⟨(by omega), rfl, hP, hD, hS, lv_sub hl [0, 1, 2, 3, 4, 5] rfl⟩
    obtain ⟨hk, hto2, hP, hD, hS, hl⟩ := hI
    refine lv_iload hx hb dX5_layForetold_39 (lv_at hl 0 rfl) ?_
    refine lv_aload_n hx hb dX5_layForetold_41 rfl (lv_at hl 3 rfl) ?_
    refine va_get (D := D) (ci := 5) (v := .int (nI nw)) (C := RX5) (T := TX5) (N := 24) hx hb hts inX5_layForetold hown hK hP 0 rfl rfl 7 (by decide) fl85 (fun _ h9 => h9) rfl dX5_layForetold_42 ?_
    refine lv_icmp_ge (tgt := 98) hx hb dX5_layForetold_45 (by decide) (fun c5 => ?_) (fun c5 => ?_)
    · have c5 : nw ≤ k := (nI_leI (a := nw) (b := k) (by omega) (by omega)).mp c5
      have ek2 : k = nw := by omega
      rw [ek2] at hto2
      refine lv_iinc (v := nI (wk + i + 1)) (lv' := [(3, .int (nI (wk + i + 1))), (5, .int (nI k)), (4, .int (nI p4)), (0, .ref h5), (1, .int (nI n)), (2, .int h)]) hx hb dX5_layForetold_98 hl (k := 2) rfl (inc1 _) (by decide) rfl (fun ls hl => ?_)
      refine lv_goto (tgt := 18) hx hb dX5_layForetold_101 (by decide) ?_
      exact ih18 (i + 1) mlo24 mip24 to9 _ _ _ ⟨(by omega), (by
        rw [mS_1]
        show _ = fF _ _ (wkQ _ _ _ _ _ (mS mfa mfz (col 5 1 mwa) (col 5 2 mwa) nw wk h (lL mwa mlo nw) (1000, mto 1, mto 2) i).1 (mS mfa mfz (col 5 1 mwa) (col 5 2 mwa) nw wk h (lL mwa mlo nw) (1000, mto 1, mto 2) i).2.1).2.1 nw
        rw [← hL, (hW4 _).2.1]
        exact hM4), (by
        rw [mS_1]
        show _ = kL (fF _ _ (wkQ _ _ _ _ _ (mS mfa mfz (col 5 1 mwa) (col 5 2 mwa) nw wk h (lL mwa mlo nw) (1000, mto 1, mto 2) i).1 (mS mfa mfz (col 5 1 mwa) (col 5 2 mwa) nw wk h (lL mwa mlo nw) (1000, mto 1, mto 2) i).2.1).2.1 nw) _ (mS mfa mfz (col 5 1 mwa) (col 5 2 mwa) nw wk h (lL mwa mlo nw) (1000, mto 1, mto 2) i).2.2.1 nw
        rw [← hL, (hW4 _).2.1, ← hM4, ← hto]
        exact hto2), hP, hD, hS, lv_sub hl [0, 3, 4, 5] rfl⟩ (by omega)
    · have c5 : ¬ nw ≤ k := fun hq => c5 ((nI_leI (a := nw) (b := k) (by omega) (by omega)).mpr hq)
      refine lv_aload_n hx hb dX5_layForetold_48 rfl (lv_at hl 3 rfl) ?_
      refine va_get (D := D) (ci := 5) (v := .ref (a5 10)) (C := RX5) (T := TX5) (N := 24) hx hb hts inX5_layForetold hown hK hP 0 rfl rfl 21 (by decide) fl45 (fun _ h9 => h9) rfl dX5_layForetold_49 ?_
      refine lv_iload hx hb dX5_layForetold_52 (lv_at hl 0 rfl) ?_
      refine K_iald hx hb hK hP 11 0 rfl rfl k (by omega) (Nat.le_of_ble_eq_true rfl) dX5_layForetold_54 ?_
      refine lv_aload_n hx hb dX5_layForetold_55 rfl (lv_at hl 3 rfl) ?_
      refine va_get (D := D) (ci := 5) (v := .ref (a5 12)) (C := RX5) (T := TX5) (N := 24) hx hb hts inX5_layForetold hown hK hP 0 rfl rfl 23 (by decide) fl51 (fun _ h9 => h9) rfl dX5_layForetold_56 ?_
      refine lv_iconst (v := 0) hx hb dX5_layForetold_59 (by decide) ?_
      refine K_iald hx hb hK hP 13 0 rfl rfl 0 (by omega) (Nat.le_of_ble_eq_true rfl) dX5_layForetold_60 ?_
      refine lv_icmp_ge (tgt := 92) hx hb dX5_layForetold_61 (by decide) (fun c6 => ?_) (fun c6 => ?_)
      · refine lv_iinc (v := nI (k + 1)) (lv' := [(5, .int (nI (k + 1))), (4, .int (nI p4)), (3, .int (nI (wk + i))), (0, .ref h5), (1, .int (nI n)), (2, .int h)]) hx hb dX5_layForetold_92 hl (k := 0) rfl (inc1 _) (by decide) rfl (fun ls hl => ?_)
        refine lv_goto (tgt := 39) hx hb dX5_layForetold_95 (by decide) ?_
        exact ih39 (k + 1) to9 _ _ _ ⟨(by omega), (by rw [kL, ← hto2]; exact (if_pos c6).symm), hP, hD, hS, lv_sub hl [0, 1, 2, 3, 4, 5] rfl⟩ (by omega)
      · refine lv_aload_n hx hb dX5_layForetold_64 rfl (lv_at hl 3 rfl) ?_
        refine va_get (D := D) (ci := 5) (v := .ref (a5 12)) (C := RX5) (T := TX5) (N := 24) hx hb hts inX5_layForetold hown hK hP 0 rfl rfl 23 (by decide) fl51 (fun _ h9 => h9) rfl dX5_layForetold_65 ?_
        refine lv_iconst (v := 0) hx hb dX5_layForetold_68 (by decide) ?_
        refine lv_aload_n hx hb dX5_layForetold_69 rfl (lv_at hl 3 rfl) ?_
        refine va_get (D := D) (ci := 5) (v := .ref (a5 10)) (C := RX5) (T := TX5) (N := 24) hx hb hts inX5_layForetold hown hK hP 0 rfl rfl 21 (by decide) fl45 (fun _ h9 => h9) rfl dX5_layForetold_70 ?_
        refine lv_iload hx hb dX5_layForetold_73 (lv_at hl 0 rfl) ?_
        refine K_iald hx hb hK hP 11 0 rfl rfl k (by omega) (Nat.le_of_ble_eq_true rfl) dX5_layForetold_75 ?_
        refine K_iast hx hb hK hP hD hS 13 0 rfl rfl 0 (by omega) (Nat.le_of_ble_eq_true rfl) dX5_layForetold_76 (fun H locs hP hD hS => ?_)
        have hP : va_P D vwCl (wX5 cI cZ cG h5 a5 (nI nr) (nI nt) (nI nc) (nI nw) hd (nI wk) (nI ng) (nI nT) mi (nI nf) (nI nn) mru mth mcl mfa mwa mfz mbl mbk mtr mno mlo24 mip24 (upd to9 0 (mlo24 k))) H := hP
        have hD : va_D A (wX5 cI cZ cG h5 a5 (nI nr) (nI nt) (nI nc) (nI nw) hd (nI wk) (nI ng) (nI nT) mi (nI nf) (nI nn) mru mth mcl mfa mwa mfz mbl mbk mtr mno mlo24 mip24 (upd to9 0 (mlo24 k))) := hD
        refine lv_aload_n hx hb dX5_layForetold_77 rfl (lv_at hl 3 rfl) ?_
        refine va_get (D := D) (ci := 5) (v := .ref (a5 12)) (C := RX5) (T := TX5) (N := 24) hx hb hts inX5_layForetold hown hK hP 0 rfl rfl 23 (by decide) fl51 (fun _ h9 => h9) rfl dX5_layForetold_78 ?_
        refine lv_iconst (v := 1) hx hb dX5_layForetold_81 (by decide) ?_
        refine lv_iload_n hx hb dX5_layForetold_82 rfl (lv_at hl 2 rfl) ?_
        refine K_iast hx hb hK hP hD hS 13 0 rfl rfl 1 (by omega) (Nat.le_of_ble_eq_true rfl) dX5_layForetold_83 (fun H locs hP hD hS => ?_)
        have hP : va_P D vwCl (wX5 cI cZ cG h5 a5 (nI nr) (nI nt) (nI nc) (nI nw) hd (nI wk) (nI ng) (nI nT) mi (nI nf) (nI nn) mru mth mcl mfa mwa mfz mbl mbk mtr mno mlo24 mip24 (upd (upd to9 0 (mlo24 k)) 1 (nI (wk + i)))) H := hP
        have hD : va_D A (wX5 cI cZ cG h5 a5 (nI nr) (nI nt) (nI nc) (nI nw) hd (nI wk) (nI ng) (nI nT) mi (nI nf) (nI nn) mru mth mcl mfa mwa mfz mbl mbk mtr mno mlo24 mip24 (upd (upd to9 0 (mlo24 k)) 1 (nI (wk + i)))) := hD
        refine lv_aload_n hx hb dX5_layForetold_84 rfl (lv_at hl 3 rfl) ?_
        refine va_get (D := D) (ci := 5) (v := .ref (a5 12)) (C := RX5) (T := TX5) (N := 24) hx hb hts inX5_layForetold hown hK hP 0 rfl rfl 23 (by decide) fl51 (fun _ h9 => h9) rfl dX5_layForetold_85 ?_
        refine lv_iconst (v := 2) hx hb dX5_layForetold_88 (by decide) ?_
        refine lv_iload hx hb dX5_layForetold_89 (lv_at hl 0 rfl) ?_
        refine K_iast hx hb hK hP hD hS 13 0 rfl rfl 2 (by omega) (Nat.le_of_ble_eq_true rfl) dX5_layForetold_91 (fun H locs hP hD hS => ?_)
        have hP : va_P D vwCl (wX5 cI cZ cG h5 a5 (nI nr) (nI nt) (nI nc) (nI nw) hd (nI wk) (nI ng) (nI nT) mi (nI nf) (nI nn) mru mth mcl mfa mwa mfz mbl mbk mtr mno mlo24 mip24 (upd (upd (upd to9 0 (mlo24 k)) 1 (nI (wk + i))) 2 (nI k))) H := hP
        have hD : va_D A (wX5 cI cZ cG h5 a5 (nI nr) (nI nt) (nI nc) (nI nw) hd (nI wk) (nI ng) (nI nT) mi (nI nf) (nI nn) mru mth mcl mfa mwa mfz mbl mbk mtr mno mlo24 mip24 (upd (upd (upd to9 0 (mlo24 k)) 1 (nI (wk + i))) 2 (nI k))) := hD
        refine lv_iinc (v := nI (k + 1)) (lv' := [(5, .int (nI (k + 1))), (4, .int (nI p4)), (3, .int (nI (wk + i))), (0, .ref h5), (1, .int (nI n)), (2, .int h)]) hx hb dX5_layForetold_92 hl (k := 0) rfl (inc1 _) (by decide) rfl (fun ls hl => ?_)
        refine lv_goto (tgt := 39) hx hb dX5_layForetold_95 (by decide) ?_
        exact ih39 (k + 1) (upd (upd (upd to9 0 (mlo24 k)) 1 (nI (wk + i))) 2 (nI k)) _ _ _ ⟨(by omega), (by rw [kL, ← hto2]; exact (if_neg c6).symm), hP, hD, hS, lv_sub hl [0, 1, 2, 3, 4, 5] rfl⟩ (by omega)
theorem inX5_foretell : ∀ w ∈ wsX50, w ∈ wsX5_foretell := by decide +kernel
set_option maxHeartbeats 8000000 in
set_option maxRecDepth 100000 in
/-- foretell -/
theorem c_X5_foretell (l : Launch) (D : va_G) (cI cZ cG : ClassId) (h5 : Nat) (a5 : Nat → Nat) (sz : Nat) (nr : Nat) (nt : Nat) (nc : Nat) (nw : Nat) (hd : Int32) (wk : Nat) (ng : Nat) (nT : Nat) (mi : Int32) (nf : Nat) (nn : Nat) (mru : Nat → Int32) (mth : Nat → Int32) (mcl : Nat → Int32) (mfa : Nat → Int32) (mwa : Nat → Int32) (mfz : Nat → Int32) (mbl : Nat → Int32) (mbk : Nat → Int32) (mtr : Nat → Int32) (mno : Nat → Int32) (mlo : Nat → Int32) (mip : Nat → Int32) (mto : Nat → Int32) (x : Int32) (q : Int32) (hnr : nr ≤ 6) (hnt : nt ≤ 20) (hnc : nc ≤ 60) (hnw : nw ≤ 24) (hwk : wk ≤ 200) (hng : ng ≤ 3) (hnT : nT ≤ 4) (hnf : nf ≤ 12) (hnn : nn ≤ 60) (hsd : ∀ k, k < nw → ∃ j, j < 4 ∧ col 5 1 mwa k = nI j) : Met l yX5_foretell wsX5_foretell ({ frames := 2, cells := 0, slots := 0, locals := 52 } : Room) (va_Pc [.ref h5, .int x, .int q] (PB D (tyL cI cZ cG) (wX5 cI cZ cG h5 a5 (nI nr) (nI nt) (nI nc) (nI nw) hd (nI wk) (nI ng) (nI nT) mi (nI nf) (nI nn) mru mth mcl mfa mwa mfz mbl mbk mtr mno mlo mip mto) sz)) (va_Qi (fun (r : Int32) (_ : (Nat → Int32) × (Nat → Int32) × (Nat → Int32)) => r = rForeM nw wk hd mfa mfz mwa mlo mto x q) (fun u => QB D (tyL cI cZ cG) (va_A (wX5 cI cZ cG h5 a5 (nI nr) (nI nt) (nI nc) (nI nw) hd (nI wk) (nI ng) (nI nT) mi (nI nf) (nI nn) mru mth mcl mfa mwa mfz mbl mbk mtr mno mlo mip mto) sz) ((fun (u : (Nat → Int32) × (Nat → Int32) × (Nat → Int32)) => wX5 cI cZ cG h5 a5 (nI nr) (nI nt) (nI nc) (nI nw) hd (nI wk) (nI ng) (nI nT) mi (nI nf) (nI nn) mru mth mcl mfa mwa mfz mbl mbk mtr mno u.1 u.2.1 u.2.2) u)) (va_A (wX5 cI cZ cG h5 a5 (nI nr) (nI nt) (nI nc) (nI nw) hd (nI wk) (nI ng) (nI nT) mi (nI nf) (nI nn) mru mth mcl mfa mwa mfz mbl mbk mtr mno mlo mip mto) sz)) 0 0 (va_A (wX5 cI cZ cG h5 a5 (nI nr) (nI nt) (nI nc) (nI nw) hd (nI wk) (nI ng) (nI nT) mi (nI nf) (nI nn) mru mth mcl mfa mwa mfz mbl mbk mtr mno mlo mip mto) sz) := by
  refine K_start (cc := cX5_foretell) (maxL := 3) (ret := some .int) (Qc := fun A => va_Qi (fun (r : Int32) (_ : (Nat → Int32) × (Nat → Int32) × (Nat → Int32)) => r = rForeM nw wk hd mfa mfz mwa mlo mto x q) (fun u => QB D (tyL cI cZ cG) A ((fun (u : (Nat → Int32) × (Nat → Int32) × (Nat → Int32)) => wX5 cI cZ cG h5 a5 (nI nr) (nI nt) (nI nc) (nI nw) hd (nI wk) (nI ng) (nI nT) mi (nI nf) (nI nn) mru mth mcl mfa mwa mfz mbl mbk mtr mno u.1 u.2.1 u.2.2) u)) A) (by decide) rfl (Nat.le_of_ble_eq_true rfl) ?_
  intro p e s m below meth c ls A hx hb hml hr hts hown hlocks hin hN hP hK hD hA hS hl hsz
  have hl : lv_has ls 3 [(0, .ref h5), (1, .int x), (2, .int q)] := hl
  have fl91 := hts (.fieldLink RX5 91 "ModelTownModel" "week" "I") (by decide +kernel)
  have fl85 := hts (.fieldLink RX5 85 "ModelTownModel" "walls" "I") (by decide +kernel)
  have fl25 := hts (.fieldLink RX5 25 "ModelTownModel" "hands" "I") (by decide +kernel)
  have fl51 := hts (.fieldLink RX5 51 "ModelTownModel" "told" "[I") (by decide +kernel)
  refine lv_iload_n hx hb dX5_foretell_0 rfl (lv_at hl 1 rfl) ?_
  refine lv_iconst (v := 1) hx hb dX5_foretell_1 (by decide) ?_
  refine lv_bipush (v := 52) hx hb dX5_foretell_2 (by decide) ?_
  refine K_none (va_runS (As := [.int x, .int 1, .int 52]) (rest := []) ⟨hx, hb, hml, hown, hts⟩ (c_X5_in l D cI cZ cG _ x 1 52) (va_cwS 3 hts gX5_foretell_X5_in rfl rfl rfl (by decide +kernel) ⟨(Nat.le_of_ble_eq_true rfl), (Nat.le_of_ble_eq_true rfl)⟩) (K_pre0 hN hK) rfl rfl hl.1 rfl (lv_room (Nat.le_of_ble_eq_true rfl)) dX5_foretell_4 ⟨Nat.zero_le _, Nat.zero_le _⟩) hP hS hA (fun r1 _ H locs hw1 hP hS => ?_)
  rcases hw1 with ⟨rfl, hw1⟩ | ⟨rfl, hw1⟩
  · obtain ⟨n, hn1, hn2, rfl⟩ := inR_nat1 (a := 1) (b := 52) hw1 (by decide) (by decide)
    have hcn : (nI n).toNatClampNeg = n := nI_clamp (by omega)
    refine lv_if_eq (tgt := 19) hx hb dX5_foretell_7 (by decide) (fun c2 => absurd c2 (by decide)) (fun _ => ?_)
    refine lv_iload_n hx hb dX5_foretell_10 rfl (lv_at hl 2 rfl) ?_
    refine lv_iconst (v := 0) hx hb dX5_foretell_11 (by decide) ?_
    refine lv_iconst (v := 2) hx hb dX5_foretell_12 (by decide) ?_
    refine K_none (va_runS (As := [.int q, .int 0, .int 2]) (rest := []) ⟨hx, hb, hml, hown, hts⟩ (c_X5_in l D cI cZ cG _ q 0 2) (va_cwS 3 hts gX5_foretell_X5_in rfl rfl rfl (by decide +kernel) ⟨(Nat.le_of_ble_eq_true rfl), (Nat.le_of_ble_eq_true rfl)⟩) (K_pre0 hN hK) rfl rfl hl.1 rfl (lv_room (Nat.le_of_ble_eq_true rfl)) dX5_foretell_13 ⟨Nat.zero_le _, Nat.zero_le _⟩) hP hS hA (fun r3 _ H locs hw3 hP hS => ?_)
    rcases hw3 with ⟨rfl, hw3⟩ | ⟨rfl, hw3⟩
    · obtain ⟨w0, hw01, hw02, rfl⟩ := inR_nat1 (a := 0) (b := 2) hw3 (by decide) (by decide)
      have hcw0 : (nI w0).toNatClampNeg = w0 := nI_clamp (by omega)
      refine lv_if_ne (tgt := 22) hx hb dX5_foretell_16 (by decide) (fun _ => ?_) (fun c4 => absurd c4 (by decide))
      refine lv_aload_n hx hb dX5_foretell_22 rfl (lv_at hl 0 rfl) ?_
      refine va_get (D := D) (ci := 5) (v := .int (nI wk)) (C := RX5) (T := TX5) (N := 24) hx hb hts inX5_foretell hown hK hP 0 rfl rfl 11 (by decide) fl91 (fun _ h9 => h9) rfl dX5_foretell_23 ?_
      refine lv_iload_n hx hb dX5_foretell_26 rfl (lv_at hl 1 rfl) ?_
      refine lv_iadd hx hb dX5_foretell_27 ?_
      refine lv_topi (fun z5 ez5 => ?_)
      obtain rfl : z5 = nI (wk + n) := ez5.trans (nI_add wk n)
      refine lv_sipush (v := 200) hx hb dX5_foretell_28 (by decide) ?_
      refine lv_icmp_le (tgt := 37) hx hb dX5_foretell_31 (by decide) (fun c6 => ?_) (fun c6 => ?_)
      · have c6 : (wk + n) ≤ 200 := (nI_leI (a := wk + n) (b := 200) (by omega) (by omega)).mp c6
        refine lv_aload_n hx hb dX5_foretell_37 rfl (lv_at hl 0 rfl) ?_
        refine va_get (D := D) (ci := 5) (v := .int (nI nw)) (C := RX5) (T := TX5) (N := 24) hx hb hts inX5_foretell hown hK hP 0 rfl rfl 7 (by decide) fl85 (fun _ h9 => h9) rfl dX5_foretell_38 ?_
        refine lv_if_ne (tgt := 47) hx hb dX5_foretell_41 (by decide) (fun c7 => ?_) (fun c7 => ?_)
        · have c7 : ¬ nw = 0 := fun hq => c7 ((nI_eq (a := nw) (b := 0) (by omega) (by omega)).mpr hq)
          have c7 : ¬ nw = 0 := by omega
          refine lv_aload_n hx hb dX5_foretell_47 rfl (lv_at hl 0 rfl) ?_
          refine lv_iload_n hx hb dX5_foretell_48 rfl (lv_at hl 1 rfl) ?_
          refine lv_aload_n hx hb dX5_foretell_49 rfl (lv_at hl 0 rfl) ?_
          refine va_get (D := D) (ci := 5) (v := .int hd) (C := RX5) (T := TX5) (N := 24) hx hb hts inX5_foretell hown hK hP 0 rfl rfl 9 (by decide) fl25 (fun _ h9 => h9) rfl dX5_foretell_50 ?_
          refine K_samev (va_runV (As := [.int (nI n), .int hd]) (rest := []) ⟨hx, hb, hml, hown, hts⟩ (c_X5_layForetold l D cI cZ cG h5 a5 _ nr nt nc nw hd wk ng nT mi nf nn mru mth mcl mfa mwa mfz mbl mbk mtr mno mlo mip mto n hd hnr hnt hnc hnw hwk hng hnT hnf hnn hsd (by omega)) (cwV 2 hts gX5_foretell_X5_layForetold rfl rfl rfl (by decide +kernel) ⟨(Nat.le_of_ble_eq_true rfl), (Nat.le_of_ble_eq_true rfl)⟩) ⟨PB_blind, va_recv hK hP (ci := 5) (q0 := 0) rfl rfl, (K_preS hN hK hP hD).2⟩ rfl rfl hl.1 rfl (lv_room (Nat.le_of_ble_eq_true rfl)) dX5_foretell_53 ⟨Nat.zero_le _, Nat.zero_le _⟩) hD hS hA (fun u H locs hw8 hP hD hS => ?_)
          obtain ⟨mlo28, mip28, mto28⟩ := u
          try dsimp only at hw8
          have hP : va_P D vwCl (wX5 cI cZ cG h5 a5 (nI nr) (nI nt) (nI nc) (nI nw) hd (nI wk) (nI ng) (nI nT) mi (nI nf) (nI nn) mru mth mcl mfa mwa mfz mbl mbk mtr mno mlo28 mip28 mto28) H := hP
          have hD : va_D A (wX5 cI cZ cG h5 a5 (nI nr) (nI nt) (nI nc) (nI nw) hd (nI wk) (nI ng) (nI nT) mi (nI nf) (nI nn) mru mth mcl mfa mwa mfz mbl mbk mtr mno mlo28 mip28 mto28) := hD
          refine lv_aload_n hx hb dX5_foretell_56 rfl (lv_at hl 0 rfl) ?_
          refine va_get (D := D) (ci := 5) (v := .ref (a5 12)) (C := RX5) (T := TX5) (N := 24) hx hb hts inX5_foretell hown hK hP 0 rfl rfl 23 (by decide) fl51 (fun _ h9 => h9) rfl dX5_foretell_57 ?_
          refine lv_iload_n hx hb dX5_foretell_60 rfl (lv_at hl 2 rfl) ?_
          refine K_iald hx hb hK hP 13 0 rfl rfl w0 (by omega) (Nat.le_of_ble_eq_true rfl) dX5_foretell_61 ?_
          exact K_iret (wf := (fun (u : (Nat → Int32) × (Nat → Int32) × (Nat → Int32)) => wX5 cI cZ cG h5 a5 (nI nr) (nI nt) (nI nc) (nI nw) hd (nI wk) (nI ng) (nI nT) mi (nI nf) (nI nn) mru mth mcl mfa mwa mfz mbl mbk mtr mno u.1 u.2.1 u.2.2)) (mlo28, mip28, mto28) hx hb hr hlocks hP hK hD hS dX5_foretell_62 (by
            have h9 := hw8.2
            rw [rForeM, if_pos ⟨hw1, hw3⟩, hcn, if_pos c6, if_neg c7]
            rcases (by omega : w0 = 0 ∨ w0 = 1 ∨ w0 = 2) with rfl | rfl | rfl
            · exact (congrArg (fun z => z.1) h9).trans (if_pos rfl).symm
            · exact (congrArg (fun z => z.2.1) h9).trans ((if_neg (show ¬ nI 1 = 0 by decide)).trans (if_pos (show nI 1 = 1 from rfl))).symm
            · exact (congrArg (fun z => z.2.2) h9).trans ((if_neg (show ¬ nI 2 = 0 by decide)).trans (if_neg (show ¬ nI 2 = 1 by decide))).symm)
        · have c7 : nw = 0 := (nI_eq (a := nw) (b := 0) (by omega) (by omega)).mp c7
          have c7 : nw = 0 := by omega
          refine lv_bipush (v := (-6)) hx hb dX5_foretell_44 (by decide) ?_
          exact K_iret (wf := (fun (u : (Nat → Int32) × (Nat → Int32) × (Nat → Int32)) => wX5 cI cZ cG h5 a5 (nI nr) (nI nt) (nI nc) (nI nw) hd (nI wk) (nI ng) (nI nT) mi (nI nf) (nI nn) mru mth mcl mfa mwa mfz mbl mbk mtr mno u.1 u.2.1 u.2.2)) (mlo, mip, mto) hx hb hr hlocks hP hK hD hS dX5_foretell_46 (by rw [rForeM, if_pos ⟨hw1, hw3⟩, hcn, if_pos c6, if_pos c7])
      · have c6 : ¬ (wk + n) ≤ 200 := fun hq => c6 ((nI_leI (a := wk + n) (b := 200) (by omega) (by omega)).mpr hq)
        refine lv_bipush (v := (-3)) hx hb dX5_foretell_34 (by decide) ?_
        exact K_iret (wf := (fun (u : (Nat → Int32) × (Nat → Int32) × (Nat → Int32)) => wX5 cI cZ cG h5 a5 (nI nr) (nI nt) (nI nc) (nI nw) hd (nI wk) (nI ng) (nI nT) mi (nI nf) (nI nn) mru mth mcl mfa mwa mfz mbl mbk mtr mno u.1 u.2.1 u.2.2)) (mlo, mip, mto) hx hb hr hlocks hP hK hD hS dX5_foretell_36 (by rw [rForeM, if_pos ⟨hw1, hw3⟩, hcn, if_neg c6])
    · skip
      refine lv_if_ne (tgt := 22) hx hb dX5_foretell_16 (by decide) (fun c9 => absurd c9 (by decide)) (fun _ => ?_)
      refine lv_bipush (v := (-2)) hx hb dX5_foretell_19 (by decide) ?_
      exact K_iret (wf := (fun (u : (Nat → Int32) × (Nat → Int32) × (Nat → Int32)) => wX5 cI cZ cG h5 a5 (nI nr) (nI nt) (nI nc) (nI nw) hd (nI wk) (nI ng) (nI nT) mi (nI nf) (nI nn) mru mth mcl mfa mwa mfz mbl mbk mtr mno u.1 u.2.1 u.2.2)) (mlo, mip, mto) hx hb hr hlocks hP hK hD hS dX5_foretell_21 (by simp [rForeM, hw1, hw3])
  · skip
    refine lv_if_eq (tgt := 19) hx hb dX5_foretell_7 (by decide) (fun _ => ?_) (fun c10 => absurd c10 (by decide))
    refine lv_bipush (v := (-2)) hx hb dX5_foretell_19 (by decide) ?_
    exact K_iret (wf := (fun (u : (Nat → Int32) × (Nat → Int32) × (Nat → Int32)) => wX5 cI cZ cG h5 a5 (nI nr) (nI nt) (nI nc) (nI nw) hd (nI wk) (nI ng) (nI nT) mi (nI nf) (nI nn) mru mth mcl mfa mwa mfz mbl mbk mtr mno u.1 u.2.1 u.2.2)) (mlo, mip, mto) hx hb hr hlocks hP hK hD hS dX5_foretell_21 (by simp [rForeM, hw1])
theorem inX5_enough : ∀ w ∈ wsX50, w ∈ wsX5_enough := by decide +kernel
set_option maxHeartbeats 8000000 in
set_option maxRecDepth 100000 in
/-- enough -/
theorem c_X5_enough (l : Launch) (D : va_G) (cI cZ cG : ClassId) (h5 : Nat) (a5 : Nat → Nat) (sz : Nat) (nr : Nat) (nt : Nat) (nc : Nat) (nw : Nat) (hd : Int32) (wk : Nat) (ng : Nat) (nT : Nat) (mi : Int32) (nf : Nat) (nn : Nat) (mru : Nat → Int32) (mth : Nat → Int32) (mcl : Nat → Int32) (mfa : Nat → Int32) (mwa : Nat → Int32) (mfz : Nat → Int32) (mbl : Nat → Int32) (mbk : Nat → Int32) (mtr : Nat → Int32) (mno : Nat → Int32) (mlo : Nat → Int32) (mip : Nat → Int32) (mto : Nat → Int32) (x : Int32) (look : Int32) (hnr : nr ≤ 6) (hnt : nt ≤ 20) (hnc : nc ≤ 60) (hnw : nw ≤ 24) (hwk : wk ≤ 200) (hng : ng ≤ 3) (hnT : nT ≤ 4) (hnf : nf ≤ 12) (hnn : nn ≤ 60) (hsd : ∀ k, k < nw → ∃ j, j < 4 ∧ col 5 1 mwa k = nI j) : Met l yX5_enough wsX5_enough ({ frames := 2, cells := 0, slots := 0, locals := 52 } : Room) (va_Pc [.ref h5, .int x, .int look] (PB D (tyL cI cZ cG) (wX5 cI cZ cG h5 a5 (nI nr) (nI nt) (nI nc) (nI nw) hd (nI wk) (nI ng) (nI nT) mi (nI nf) (nI nn) mru mth mcl mfa mwa mfz mbl mbk mtr mno mlo mip mto) sz)) (va_Qi (fun (r : Int32) (_ : (Nat → Int32) × (Nat → Int32) × (Nat → Int32)) => if inR x 1 52 = true ∧ inR look 0 100 = true then (if wk + x.toNatClampNeg ≤ 200 then (if nw = 0 then r = -6 else fst (fun h => look ≤ llM mfa mfz (col 5 1 mwa) (col 5 2 mwa) nw wk (col 5 3 mwa) x.toNatClampNeg h) 0 501 r) else r = -3) else r = -2) (fun u => QB D (tyL cI cZ cG) (va_A (wX5 cI cZ cG h5 a5 (nI nr) (nI nt) (nI nc) (nI nw) hd (nI wk) (nI ng) (nI nT) mi (nI nf) (nI nn) mru mth mcl mfa mwa mfz mbl mbk mtr mno mlo mip mto) sz) ((fun (u : (Nat → Int32) × (Nat → Int32) × (Nat → Int32)) => wX5 cI cZ cG h5 a5 (nI nr) (nI nt) (nI nc) (nI nw) hd (nI wk) (nI ng) (nI nT) mi (nI nf) (nI nn) mru mth mcl mfa mwa mfz mbl mbk mtr mno u.1 u.2.1 u.2.2) u)) (va_A (wX5 cI cZ cG h5 a5 (nI nr) (nI nt) (nI nc) (nI nw) hd (nI wk) (nI ng) (nI nT) mi (nI nf) (nI nn) mru mth mcl mfa mwa mfz mbl mbk mtr mno mlo mip mto) sz)) 0 0 (va_A (wX5 cI cZ cG h5 a5 (nI nr) (nI nt) (nI nc) (nI nw) hd (nI wk) (nI ng) (nI nT) mi (nI nf) (nI nn) mru mth mcl mfa mwa mfz mbl mbk mtr mno mlo mip mto) sz) := by
  refine K_start (cc := cX5_enough) (maxL := 4) (ret := some .int) (Qc := fun A => va_Qi (fun (r : Int32) (_ : (Nat → Int32) × (Nat → Int32) × (Nat → Int32)) => if inR x 1 52 = true ∧ inR look 0 100 = true then (if wk + x.toNatClampNeg ≤ 200 then (if nw = 0 then r = -6 else fst (fun h => look ≤ llM mfa mfz (col 5 1 mwa) (col 5 2 mwa) nw wk (col 5 3 mwa) x.toNatClampNeg h) 0 501 r) else r = -3) else r = -2) (fun u => QB D (tyL cI cZ cG) A ((fun (u : (Nat → Int32) × (Nat → Int32) × (Nat → Int32)) => wX5 cI cZ cG h5 a5 (nI nr) (nI nt) (nI nc) (nI nw) hd (nI wk) (nI ng) (nI nT) mi (nI nf) (nI nn) mru mth mcl mfa mwa mfz mbl mbk mtr mno u.1 u.2.1 u.2.2) u)) A) (by decide) rfl (Nat.le_of_ble_eq_true rfl) ?_
  intro p e s m below meth c ls A hx hb hml hr hts hown hlocks hin hN hP hK hD hA hS hl hsz
  have hl : lv_has ls 4 [(0, .ref h5), (1, .int x), (2, .int look)] := hl
  have fl91 := hts (.fieldLink RX5 91 "ModelTownModel" "week" "I") (by decide +kernel)
  have fl85 := hts (.fieldLink RX5 85 "ModelTownModel" "walls" "I") (by decide +kernel)
  have fl51 := hts (.fieldLink RX5 51 "ModelTownModel" "told" "[I") (by decide +kernel)
  refine lv_iload_n hx hb dX5_enough_0 rfl (lv_at hl 1 rfl) ?_
  refine lv_iconst (v := 1) hx hb dX5_enough_1 (by decide) ?_
  refine lv_bipush (v := 52) hx hb dX5_enough_2 (by decide) ?_
  refine K_none (va_runS (As := [.int x, .int 1, .int 52]) (rest := []) ⟨hx, hb, hml, hown, hts⟩ (c_X5_in l D cI cZ cG _ x 1 52) (va_cwS 3 hts gX5_enough_X5_in rfl rfl rfl (by decide +kernel) ⟨(Nat.le_of_ble_eq_true rfl), (Nat.le_of_ble_eq_true rfl)⟩) (K_pre0 hN hK) rfl rfl hl.1 rfl (lv_room (Nat.le_of_ble_eq_true rfl)) dX5_enough_4 ⟨Nat.zero_le _, Nat.zero_le _⟩) hP hS hA (fun r1 _ H locs hw1 hP hS => ?_)
  rcases hw1 with ⟨rfl, hw1⟩ | ⟨rfl, hw1⟩
  · obtain ⟨n, hn1, hn2, rfl⟩ := inR_nat1 (a := 1) (b := 52) hw1 (by decide) (by decide)
    have hcn : (nI n).toNatClampNeg = n := nI_clamp (by omega)
    refine lv_if_eq (tgt := 20) hx hb dX5_enough_7 (by decide) (fun c2 => absurd c2 (by decide)) (fun _ => ?_)
    refine lv_iload_n hx hb dX5_enough_10 rfl (lv_at hl 2 rfl) ?_
    refine lv_iconst (v := 0) hx hb dX5_enough_11 (by decide) ?_
    refine lv_bipush (v := 100) hx hb dX5_enough_12 (by decide) ?_
    refine K_none (va_runS (As := [.int look, .int 0, .int 100]) (rest := []) ⟨hx, hb, hml, hown, hts⟩ (c_X5_in l D cI cZ cG _ look 0 100) (va_cwS 3 hts gX5_enough_X5_in rfl rfl rfl (by decide +kernel) ⟨(Nat.le_of_ble_eq_true rfl), (Nat.le_of_ble_eq_true rfl)⟩) (K_pre0 hN hK) rfl rfl hl.1 rfl (lv_room (Nat.le_of_ble_eq_true rfl)) dX5_enough_14 ⟨Nat.zero_le _, Nat.zero_le _⟩) hP hS hA (fun r3 _ H locs hw3 hP hS => ?_)
    rcases hw3 with ⟨rfl, hw3⟩ | ⟨rfl, hw3⟩
    · skip
      refine lv_if_ne (tgt := 23) hx hb dX5_enough_17 (by decide) (fun _ => ?_) (fun c4 => absurd c4 (by decide))
      refine lv_aload_n hx hb dX5_enough_23 rfl (lv_at hl 0 rfl) ?_
      refine va_get (D := D) (ci := 5) (v := .int (nI wk)) (C := RX5) (T := TX5) (N := 24) hx hb hts inX5_enough hown hK hP 0 rfl rfl 11 (by decide) fl91 (fun _ h9 => h9) rfl dX5_enough_24 ?_
      refine lv_iload_n hx hb dX5_enough_27 rfl (lv_at hl 1 rfl) ?_
      refine lv_iadd hx hb dX5_enough_28 ?_
      refine lv_topi (fun z5 ez5 => ?_)
      obtain rfl : z5 = nI (wk + n) := ez5.trans (nI_add wk n)
      refine lv_sipush (v := 200) hx hb dX5_enough_29 (by decide) ?_
      refine lv_icmp_le (tgt := 38) hx hb dX5_enough_32 (by decide) (fun c6 => ?_) (fun c6 => ?_)
      · have c6 : (wk + n) ≤ 200 := (nI_leI (a := wk + n) (b := 200) (by omega) (by omega)).mp c6
        refine lv_aload_n hx hb dX5_enough_38 rfl (lv_at hl 0 rfl) ?_
        refine va_get (D := D) (ci := 5) (v := .int (nI nw)) (C := RX5) (T := TX5) (N := 24) hx hb hts inX5_enough hown hK hP 0 rfl rfl 7 (by decide) fl85 (fun _ h9 => h9) rfl dX5_enough_39 ?_
        refine lv_if_ne (tgt := 48) hx hb dX5_enough_42 (by decide) (fun c7 => ?_) (fun c7 => ?_)
        · have c7 : ¬ nw = 0 := fun hq => c7 ((nI_eq (a := nw) (b := 0) (by omega) (by omega)).mpr hq)
          have c7 : ¬ nw = 0 := by omega
          refine lv_iconst (v := 0) hx hb dX5_enough_48 (by decide) ?_
          refine lv_istore_n (lv' := [(3, .int 0), (0, .ref h5), (1, .int (nI n)), (2, .int look)]) hx hb dX5_enough_49 rfl hl (by decide) rfl (fun ls hl => ?_)
          refine loopW4 (fun (h : Nat) (L : Nat → Int32) (P : Nat → Int32) (to : Nat → Int32) H locs ls => (h ≤ 501) ∧ (∀ j, j < h → ¬ look ≤ llM mfa mfz (col 5 1 mwa) (col 5 2 mwa) nw wk (col 5 3 mwa) n j) ∧ va_P D vwCl (wX5 cI cZ cG h5 a5 (nI nr) (nI nt) (nI nc) (nI nw) hd (nI wk) (nI ng) (nI nT) mi (nI nf) (nI nn) mru mth mcl mfa mwa mfz mbl mbk mtr mno L P to) H ∧ va_D A (wX5 cI cZ cG h5 a5 (nI nr) (nI nt) (nI nc) (nI nw) hd (nI wk) (nI ng) (nI nT) mi (nI nf) (nI nn) mru mth mcl mfa mwa mfz mbl mbk mtr mno L P to) ∧ va_S A s.heap H locs ∧ lv_has ls 4 [(3, .int (nI h)), (0, .ref h5), (1, .int (nI n)), (2, .int look)]) (fun (h : Nat) (L : Nat → Int32) (P : Nat → Int32) (to : Nat → Int32) => 501 - h) (fun h L P to H locs ls hI ih50 => ?_) 0 mlo mip mto _ _ _ ⟨(by omega), (fun j hj => absurd hj (by omega)), hP, hD, hS, lv_sub hl [0, 1, 2, 3] rfl⟩
          obtain ⟨h51, hz, hP, hD, hS, hl⟩ := hI
          refine lv_iload_n hx hb dX5_enough_50 rfl (lv_at hl 0 rfl) ?_
          refine lv_sipush (v := 500) hx hb dX5_enough_51 (by decide) ?_
          refine lv_icmp_gt (tgt := 81) hx hb dX5_enough_54 (by decide) (fun c8 => ?_) (fun c8 => ?_)
          · have c8 : 500 < h := (nI_ltI (a := 500) (b := h) (by omega) (by omega)).mp c8
            refine lv_bipush (v := (-6)) hx hb dX5_enough_81 (by decide) ?_
            exact K_iret (wf := (fun (u : (Nat → Int32) × (Nat → Int32) × (Nat → Int32)) => wX5 cI cZ cG h5 a5 (nI nr) (nI nt) (nI nc) (nI nw) hd (nI wk) (nI ng) (nI nT) mi (nI nf) (nI nn) mru mth mcl mfa mwa mfz mbl mbk mtr mno u.1 u.2.1 u.2.2)) (L, P, to) hx hb hr hlocks hP hK hD hS dX5_enough_83 (by rw [if_pos ⟨hw1, hw3⟩, hcn, if_pos c6, if_neg c7]; exact Or.inr ⟨rfl, fun j _ j2 => hz j (by omega)⟩)
          · have c8 : ¬ 500 < h := fun hq => c8 ((nI_ltI (a := 500) (b := h) (by omega) (by omega)).mpr hq)
            refine lv_aload_n hx hb dX5_enough_57 rfl (lv_at hl 1 rfl) ?_
            refine lv_iload_n hx hb dX5_enough_58 rfl (lv_at hl 2 rfl) ?_
            refine lv_iload_n hx hb dX5_enough_59 rfl (lv_at hl 0 rfl) ?_
            refine K_samev (va_runV (As := [.int (nI n), .int (nI h)]) (rest := []) ⟨hx, hb, hml, hown, hts⟩ (c_X5_layForetold l D cI cZ cG h5 a5 _ nr nt nc nw hd wk ng nT mi nf nn mru mth mcl mfa mwa mfz mbl mbk mtr mno L P to n (nI h) hnr hnt hnc hnw hwk hng hnT hnf hnn hsd (by omega)) (cwV 2 hts gX5_enough_X5_layForetold rfl rfl rfl (by decide +kernel) ⟨(Nat.le_of_ble_eq_true rfl), (Nat.le_of_ble_eq_true rfl)⟩) ⟨PB_blind, va_recv hK hP (ci := 5) (q0 := 0) rfl rfl, (K_preS hN hK hP hD).2⟩ rfl rfl hl.1 rfl (lv_room (Nat.le_of_ble_eq_true rfl)) dX5_enough_60 ⟨Nat.zero_le _, Nat.zero_le _⟩) hD hS hA (fun u H locs hw9 hP hD hS => ?_)
            obtain ⟨mlo29, mip29, mto29⟩ := u
            try dsimp only at hw9
            have hP : va_P D vwCl (wX5 cI cZ cG h5 a5 (nI nr) (nI nt) (nI nc) (nI nw) hd (nI wk) (nI ng) (nI nT) mi (nI nf) (nI nn) mru mth mcl mfa mwa mfz mbl mbk mtr mno mlo29 mip29 mto29) H := hP
            have hD : va_D A (wX5 cI cZ cG h5 a5 (nI nr) (nI nt) (nI nc) (nI nw) hd (nI wk) (nI ng) (nI nT) mi (nI nf) (nI nn) mru mth mcl mfa mwa mfz mbl mbk mtr mno mlo29 mip29 mto29) := hD
            have hy9 : mto29 0 = llM mfa mfz (col 5 1 mwa) (col 5 2 mwa) nw wk (col 5 3 mwa) n h := (congrArg (fun z => z.1) hw9.2).trans mS_ll
            refine lv_aload_n hx hb dX5_enough_63 rfl (lv_at hl 1 rfl) ?_
            refine va_get (D := D) (ci := 5) (v := .ref (a5 12)) (C := RX5) (T := TX5) (N := 24) hx hb hts inX5_enough hown hK hP 0 rfl rfl 23 (by decide) fl51 (fun _ h9 => h9) rfl dX5_enough_64 ?_
            refine lv_iconst (v := 0) hx hb dX5_enough_67 (by decide) ?_
            refine K_iald hx hb hK hP 13 0 rfl rfl 0 (by omega) (Nat.le_of_ble_eq_true rfl) dX5_enough_68 ?_
            refine lv_iload_n hx hb dX5_enough_69 rfl (lv_at hl 3 rfl) ?_
            refine lv_icmp_lt (tgt := 75) hx hb dX5_enough_70 (by decide) (fun c10 => ?_) (fun c10 => ?_)
            · replace c10 := Int32.not_le.mpr c10
              refine lv_iinc (v := nI (h + 1)) (lv' := [(3, .int (nI (h + 1))), (0, .ref h5), (1, .int (nI n)), (2, .int look)]) hx hb dX5_enough_75 hl (k := 0) rfl (inc1 _) (by decide) rfl (fun ls hl => ?_)
              refine lv_goto (tgt := 50) hx hb dX5_enough_78 (by decide) ?_
              exact ih50 (h + 1) mlo29 mip29 mto29 _ _ _ ⟨(by omega), (fun j hj => by
                rcases Nat.lt_or_ge j h with q9 | q9
                · exact hz j q9
                · rw [show j = h by omega, ← hy9]; exact c10), hP, hD, hS, lv_sub hl [0, 1, 2, 3] rfl⟩ (by omega)
            · replace c10 := Int32.not_lt.mp c10
              refine lv_iload_n hx hb dX5_enough_73 rfl (lv_at hl 0 rfl) ?_
              exact K_iret (wf := (fun (u : (Nat → Int32) × (Nat → Int32) × (Nat → Int32)) => wX5 cI cZ cG h5 a5 (nI nr) (nI nt) (nI nc) (nI nw) hd (nI wk) (nI ng) (nI nT) mi (nI nf) (nI nn) mru mth mcl mfa mwa mfz mbl mbk mtr mno u.1 u.2.1 u.2.2)) (mlo29, mip29, mto29) hx hb hr hlocks hP hK hD hS dX5_enough_74 (by rw [if_pos ⟨hw1, hw3⟩, hcn, if_pos c6, if_neg c7]; exact Or.inl ⟨h, by omega, by omega, rfl, (by show look ≤ llM mfa mfz (col 5 1 mwa) (col 5 2 mwa) nw wk (col 5 3 mwa) n h; rw [← hy9]; exact c10), fun j _ j2 => hz j (by omega)⟩)
        · have c7 : nw = 0 := (nI_eq (a := nw) (b := 0) (by omega) (by omega)).mp c7
          have c7 : nw = 0 := by omega
          refine lv_bipush (v := (-6)) hx hb dX5_enough_45 (by decide) ?_
          exact K_iret (wf := (fun (u : (Nat → Int32) × (Nat → Int32) × (Nat → Int32)) => wX5 cI cZ cG h5 a5 (nI nr) (nI nt) (nI nc) (nI nw) hd (nI wk) (nI ng) (nI nT) mi (nI nf) (nI nn) mru mth mcl mfa mwa mfz mbl mbk mtr mno u.1 u.2.1 u.2.2)) (mlo, mip, mto) hx hb hr hlocks hP hK hD hS dX5_enough_47 (by rw [if_pos ⟨hw1, hw3⟩, hcn, if_pos c6, if_pos c7])
      · have c6 : ¬ (wk + n) ≤ 200 := fun hq => c6 ((nI_leI (a := wk + n) (b := 200) (by omega) (by omega)).mpr hq)
        refine lv_bipush (v := (-3)) hx hb dX5_enough_35 (by decide) ?_
        exact K_iret (wf := (fun (u : (Nat → Int32) × (Nat → Int32) × (Nat → Int32)) => wX5 cI cZ cG h5 a5 (nI nr) (nI nt) (nI nc) (nI nw) hd (nI wk) (nI ng) (nI nT) mi (nI nf) (nI nn) mru mth mcl mfa mwa mfz mbl mbk mtr mno u.1 u.2.1 u.2.2)) (mlo, mip, mto) hx hb hr hlocks hP hK hD hS dX5_enough_37 (by rw [if_pos ⟨hw1, hw3⟩, hcn, if_neg c6])
    · skip
      refine lv_if_ne (tgt := 23) hx hb dX5_enough_17 (by decide) (fun c11 => absurd c11 (by decide)) (fun _ => ?_)
      refine lv_bipush (v := (-2)) hx hb dX5_enough_20 (by decide) ?_
      exact K_iret (wf := (fun (u : (Nat → Int32) × (Nat → Int32) × (Nat → Int32)) => wX5 cI cZ cG h5 a5 (nI nr) (nI nt) (nI nc) (nI nw) hd (nI wk) (nI ng) (nI nT) mi (nI nf) (nI nn) mru mth mcl mfa mwa mfz mbl mbk mtr mno u.1 u.2.1 u.2.2)) (mlo, mip, mto) hx hb hr hlocks hP hK hD hS dX5_enough_22 (by rw [if_neg (by simp [hw1, hw3])])
  · skip
    refine lv_if_eq (tgt := 20) hx hb dX5_enough_7 (by decide) (fun _ => ?_) (fun c12 => absurd c12 (by decide))
    refine lv_bipush (v := (-2)) hx hb dX5_enough_20 (by decide) ?_
    exact K_iret (wf := (fun (u : (Nat → Int32) × (Nat → Int32) × (Nat → Int32)) => wX5 cI cZ cG h5 a5 (nI nr) (nI nt) (nI nc) (nI nw) hd (nI wk) (nI ng) (nI nT) mi (nI nf) (nI nn) mru mth mcl mfa mwa mfz mbl mbk mtr mno u.1 u.2.1 u.2.2)) (mlo, mip, mto) hx hb hr hlocks hP hK hD hS dX5_enough_22 (by rw [if_neg (by simp [hw1])])

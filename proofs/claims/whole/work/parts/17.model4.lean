theorem inX5_blockAt : ∀ w ∈ wsX50, w ∈ wsX5_blockAt := by decide +kernel
set_option maxHeartbeats 8000000 in
set_option maxRecDepth 100000 in
/-- blockAt -/
theorem c_X5_blockAt (l : Launch) (D : va_G) (cI cZ cG : ClassId) (h5 : Nat) (a5 : Nat → Nat) (sz : Nat) (nr : Nat) (nt : Nat) (nc : Nat) (nw : Nat) (hd : Int32) (wk : Nat) (ng : Nat) (nT : Nat) (mi : Int32) (nf : Nat) (nn : Nat) (mru : Nat → Int32) (mth : Nat → Int32) (mcl : Nat → Int32) (mfa : Nat → Int32) (mwa : Nat → Int32) (mfz : Nat → Int32) (mbl : Nat → Int32) (mbk : Nat → Int32) (mtr : Nat → Int32) (mno : Nat → Int32) (mlo : Nat → Int32) (mip : Nat → Int32) (mto : Nat → Int32) (g0 : Nat) (q : Nat) (n : Nat) (hnr : nr ≤ 6) (hnt : nt ≤ 20) (hnc : nc ≤ 60) (hnw : nw ≤ 24) (hwk : wk ≤ 200) (hng : ng ≤ 3) (hnT : nT ≤ 4) (hnf : nf ≤ 12) (hnn : nn ≤ 60) (hr3 : g0 < 3) (hn1 : 1 ≤ n) (hn12 : n ≤ 12) (hnE : mbl g0 = nI n) (hq13 : q ≤ 13) : Met l yX5_blockAt wsX5_blockAt ({ frames := 0, cells := 0, slots := 0, locals := 0 } : Room) (va_Pc [.ref h5, .int (nI g0), .int (nI q)] (PB D (tyL cI cZ cG) (wX5 cI cZ cG h5 a5 (nI nr) (nI nt) (nI nc) (nI nw) hd (nI wk) (nI ng) (nI nT) mi (nI nf) (nI nn) mru mth mcl mfa mwa mfz mbl mbk mtr mno mlo mip mto) sz)) (va_Qi (fun (r : Int32) (_ : Unit) => r = BM mbk g0 (q % n)) (fun u => QB D (tyL cI cZ cG) (va_A (wX5 cI cZ cG h5 a5 (nI nr) (nI nt) (nI nc) (nI nw) hd (nI wk) (nI ng) (nI nT) mi (nI nf) (nI nn) mru mth mcl mfa mwa mfz mbl mbk mtr mno mlo mip mto) sz) ((fun (_ : Unit) => wX5 cI cZ cG h5 a5 (nI nr) (nI nt) (nI nc) (nI nw) hd (nI wk) (nI ng) (nI nT) mi (nI nf) (nI nn) mru mth mcl mfa mwa mfz mbl mbk mtr mno mlo mip mto) u)) (va_A (wX5 cI cZ cG h5 a5 (nI nr) (nI nt) (nI nc) (nI nw) hd (nI wk) (nI ng) (nI nT) mi (nI nf) (nI nn) mru mth mcl mfa mwa mfz mbl mbk mtr mno mlo mip mto) sz)) 0 0 (va_A (wX5 cI cZ cG h5 a5 (nI nr) (nI nt) (nI nc) (nI nw) hd (nI wk) (nI ng) (nI nT) mi (nI nf) (nI nn) mru mth mcl mfa mwa mfz mbl mbk mtr mno mlo mip mto) sz) := by
  refine K_start (cc := cX5_blockAt) (maxL := 3) (ret := some .int) (Qc := fun A => va_Qi (fun (r : Int32) (_ : Unit) => r = BM mbk g0 (q % n)) (fun u => QB D (tyL cI cZ cG) A ((fun (_ : Unit) => wX5 cI cZ cG h5 a5 (nI nr) (nI nt) (nI nc) (nI nw) hd (nI wk) (nI ng) (nI nT) mi (nI nf) (nI nn) mru mth mcl mfa mwa mfz mbl mbk mtr mno mlo mip mto) u)) A) (by decide) rfl (Nat.le_of_ble_eq_true rfl) ?_
  intro p e s m below meth c ls A hx hb hml hr hts hown hlocks hin hN hP hK hD hA hS hl hsz
  have hl : lv_has ls 3 [(0, .ref h5), (1, .int (nI g0)), (2, .int (nI q))] := hl
  have fl36 := hts (.fieldLink RX5 36 "ModelTownModel" "block" "[I") (by decide +kernel)
  have fl33 := hts (.fieldLink RX5 33 "ModelTownModel" "blocks" "[I") (by decide +kernel)
  have hqn : q % n < n := Nat.mod_lt _ (by omega)
  refine lv_aload_n hx hb dX5_blockAt_0 rfl (lv_at hl 0 rfl) ?_
  refine va_get (D := D) (ci := 5) (v := .ref (a5 7)) (C := RX5) (T := TX5) (N := 24) hx hb hts inX5_blockAt hown hK hP 0 rfl rfl 14 (by decide) fl36 (fun _ h9 => h9) rfl dX5_blockAt_1 ?_
  refine lv_bipush (v := 12) hx hb dX5_blockAt_4 (by decide) ?_
  refine lv_iload_n hx hb dX5_blockAt_6 rfl (lv_at hl 1 rfl) ?_
  refine lv_imul hx hb dX5_blockAt_7 ?_
  refine lv_topi (fun z1 ez1 => ?_)
  obtain rfl : z1 = nI (12 * g0) := ez1.trans (pk_mul 12 g0)
  refine lv_iload_n hx hb dX5_blockAt_8 rfl (lv_at hl 2 rfl) ?_
  refine lv_aload_n hx hb dX5_blockAt_9 rfl (lv_at hl 0 rfl) ?_
  refine va_get (D := D) (ci := 5) (v := .ref (a5 6)) (C := RX5) (T := TX5) (N := 24) hx hb hts inX5_blockAt hown hK hP 0 rfl rfl 13 (by decide) fl33 (fun _ h9 => h9) rfl dX5_blockAt_10 ?_
  refine lv_iload_n hx hb dX5_blockAt_13 rfl (lv_at hl 1 rfl) ?_
  refine K_iald hx hb hK hP 7 0 rfl rfl g0 (by omega) (Nat.le_of_ble_eq_true rfl) dX5_blockAt_14 ?_
  refine lv_topi (fun z2 ez2 => ?_)
  obtain rfl : z2 = nI n := ez2.trans hnE
  refine lv_irem hx hb dX5_blockAt_15 (nI_ne0 (by omega) (by omega)) ?_
  refine lv_topi (fun z3 ez3 => ?_)
  obtain rfl : z3 = nI (q % n) := ez3.trans (pk_rem (a := q) (d := n) (by omega) (by omega) (by omega))
  refine lv_iadd hx hb dX5_blockAt_16 ?_
  refine lv_topi (fun z4 ez4 => ?_)
  obtain rfl : z4 = nI (12 * g0 + (q % n)) := ez4.trans ((nI_add (12 * g0) (q % n)).trans (congrArg nI (by omega)))
  refine K_iald hx hb hK hP 8 0 rfl rfl (12 * g0 + (q % n)) (by omega) (Nat.le_of_ble_eq_true rfl) dX5_blockAt_17 ?_
  exact K_iret (wf := (fun (_ : Unit) => wX5 cI cZ cG h5 a5 (nI nr) (nI nt) (nI nc) (nI nw) hd (nI wk) (nI ng) (nI nT) mi (nI nf) (nI nn) mru mth mcl mfa mwa mfz mbl mbk mtr mno mlo mip mto)) () hx hb hr hlocks hP hK hD hS dX5_blockAt_18 rfl
theorem inX5_blockOf : ∀ w ∈ wsX50, w ∈ wsX5_blockOf := by decide +kernel
set_option maxHeartbeats 8000000 in
set_option maxRecDepth 100000 in
/-- blockOf -/
theorem c_X5_blockOf (l : Launch) (D : va_G) (cI cZ cG : ClassId) (h5 : Nat) (a5 : Nat → Nat) (sz : Nat) (nr : Nat) (nt : Nat) (nc : Nat) (nw : Nat) (hd : Int32) (wk : Nat) (ng : Nat) (nT : Nat) (mi : Int32) (nf : Nat) (nn : Nat) (mru : Nat → Int32) (mth : Nat → Int32) (mcl : Nat → Int32) (mfa : Nat → Int32) (mwa : Nat → Int32) (mfz : Nat → Int32) (mbl : Nat → Int32) (mbk : Nat → Int32) (mtr : Nat → Int32) (mno : Nat → Int32) (mlo : Nat → Int32) (mip : Nat → Int32) (mto : Nat → Int32) (t : Nat) (hnr : nr ≤ 6) (hnt : nt ≤ 20) (hnc : nc ≤ 60) (hnw : nw ≤ 24) (hwk : wk ≤ 200) (hng : ng ≤ 3) (hnT : nT ≤ 4) (hnf : nf ≤ 12) (hnn : nn ≤ 60) (ht : t < nT) (hokT : okT ng nT mbl (col 7 0 mtr) (col 7 1 mtr)) : Met l yX5_blockOf wsX5_blockOf ({ frames := 1, cells := 0, slots := 0, locals := 22 } : Room) (va_Pc [.ref h5, .int (nI t)] (PB D (tyL cI cZ cG) (wX5 cI cZ cG h5 a5 (nI nr) (nI nt) (nI nc) (nI nw) hd (nI wk) (nI ng) (nI nT) mi (nI nf) (nI nn) mru mth mcl mfa mwa mfz mbl mbk mtr mno mlo mip mto) sz)) (va_Qi (fun (r : Int32) (_ : Unit) => r = bkO (BM mbk) (col 7 0 mtr) (col 7 1 mtr) t) (fun u => QB D (tyL cI cZ cG) (va_A (wX5 cI cZ cG h5 a5 (nI nr) (nI nt) (nI nc) (nI nw) hd (nI wk) (nI ng) (nI nT) mi (nI nf) (nI nn) mru mth mcl mfa mwa mfz mbl mbk mtr mno mlo mip mto) sz) ((fun (_ : Unit) => wX5 cI cZ cG h5 a5 (nI nr) (nI nt) (nI nc) (nI nw) hd (nI wk) (nI ng) (nI nT) mi (nI nf) (nI nn) mru mth mcl mfa mwa mfz mbl mbk mtr mno mlo mip mto) u)) (va_A (wX5 cI cZ cG h5 a5 (nI nr) (nI nt) (nI nc) (nI nw) hd (nI wk) (nI ng) (nI nT) mi (nI nf) (nI nn) mru mth mcl mfa mwa mfz mbl mbk mtr mno mlo mip mto) sz)) 0 0 (va_A (wX5 cI cZ cG h5 a5 (nI nr) (nI nt) (nI nc) (nI nw) hd (nI wk) (nI ng) (nI nT) mi (nI nf) (nI nn) mru mth mcl mfa mwa mfz mbl mbk mtr mno mlo mip mto) sz) := by
  refine K_start (cc := cX5_blockOf) (maxL := 2) (ret := some .int) (Qc := fun A => va_Qi (fun (r : Int32) (_ : Unit) => r = bkO (BM mbk) (col 7 0 mtr) (col 7 1 mtr) t) (fun u => QB D (tyL cI cZ cG) A ((fun (_ : Unit) => wX5 cI cZ cG h5 a5 (nI nr) (nI nt) (nI nc) (nI nw) hd (nI wk) (nI ng) (nI nT) mi (nI nf) (nI nn) mru mth mcl mfa mwa mfz mbl mbk mtr mno mlo mip mto) u)) A) (by decide) rfl (Nat.le_of_ble_eq_true rfl) ?_
  intro p e s m below meth c ls A hx hb hml hr hts hown hlocks hin hN hP hK hD hA hS hl hsz
  have hl : lv_has ls 2 [(0, .ref h5), (1, .int (nI t))] := hl
  have fl39 := hts (.fieldLink RX5 39 "ModelTownModel" "train" "[I") (by decide +kernel)
  obtain ⟨g0, n, q, hr0, hrE, hn2, hn12, hnE, hq0, hqE⟩ := hokT t (by omega)
  have hcr : (nI g0).toNatClampNeg = g0 := nI_clamp (by omega)
  have hcq : (nI q).toNatClampNeg = q := nI_clamp (by omega)
  refine lv_aload_n hx hb dX5_blockOf_0 rfl (lv_at hl 0 rfl) ?_
  refine lv_aload_n hx hb dX5_blockOf_1 rfl (lv_at hl 0 rfl) ?_
  refine va_get (D := D) (ci := 5) (v := .ref (a5 8)) (C := RX5) (T := TX5) (N := 24) hx hb hts inX5_blockOf hown hK hP 0 rfl rfl 16 (by decide) fl39 (fun _ h9 => h9) rfl dX5_blockOf_2 ?_
  refine lv_bipush (v := 7) hx hb dX5_blockOf_5 (by decide) ?_
  refine lv_iload_n hx hb dX5_blockOf_7 rfl (lv_at hl 1 rfl) ?_
  refine lv_imul hx hb dX5_blockOf_8 ?_
  refine lv_topi (fun z1 ez1 => ?_)
  obtain rfl : z1 = nI (7 * t) := ez1.trans (pk_mul 7 t)
  refine K_iald hx hb hK hP 9 0 rfl rfl (7 * t) (by omega) (Nat.le_of_ble_eq_true rfl) dX5_blockOf_9 ?_
  refine lv_topi (fun z2 ez2 => ?_)
  obtain rfl : z2 = nI g0 := ez2.trans hrE
  refine lv_aload_n hx hb dX5_blockOf_10 rfl (lv_at hl 0 rfl) ?_
  refine va_get (D := D) (ci := 5) (v := .ref (a5 8)) (C := RX5) (T := TX5) (N := 24) hx hb hts inX5_blockOf hown hK hP 0 rfl rfl 16 (by decide) fl39 (fun _ h9 => h9) rfl dX5_blockOf_11 ?_
  refine lv_bipush (v := 7) hx hb dX5_blockOf_14 (by decide) ?_
  refine lv_iload_n hx hb dX5_blockOf_16 rfl (lv_at hl 1 rfl) ?_
  refine lv_imul hx hb dX5_blockOf_17 ?_
  refine lv_topi (fun z3 ez3 => ?_)
  obtain rfl : z3 = nI (7 * t) := ez3.trans (pk_mul 7 t)
  refine lv_iconst (v := 1) hx hb dX5_blockOf_18 (by decide) ?_
  refine lv_iadd hx hb dX5_blockOf_19 ?_
  refine lv_topi (fun z4 ez4 => ?_)
  obtain rfl : z4 = nI (7 * t + 1) := ez4.trans ((nI_add (7 * t) 1).trans (congrArg nI (by omega)))
  refine K_iald hx hb hK hP 9 0 rfl rfl (7 * t + 1) (by omega) (Nat.le_of_ble_eq_true rfl) dX5_blockOf_20 ?_
  refine lv_topi (fun z5 ez5 => ?_)
  obtain rfl : z5 = nI q := ez5.trans hqE
  refine K_same (va_runV (As := [.int (nI g0), .int (nI q)]) (rest := []) ⟨hx, hb, hml, hown, hts⟩ (c_X5_blockAt l D cI cZ cG h5 a5 _ nr nt nc nw hd wk ng nT mi nf nn mru mth mcl mfa mwa mfz mbl mbk mtr mno mlo mip mto g0 q n hnr hnt hnc hnw hwk hng hnT hnf hnn (by omega) (by omega) (by omega) hnE (by omega)) (cwV 2 hts gX5_blockOf_X5_blockAt rfl rfl rfl (by decide +kernel) ⟨(Nat.le_of_ble_eq_true rfl), (Nat.le_of_ble_eq_true rfl)⟩) ⟨PB_blind, va_recv hK hP (ci := 5) (q0 := 0) rfl rfl, (K_preS hN hK hP hD).2⟩ rfl rfl hl.1 rfl (lv_room (Nat.le_of_ble_eq_true rfl)) dX5_blockOf_21 ⟨Nat.zero_le _, Nat.zero_le _⟩) hD hS hA (fun r6 u H locs hw6 hP hD hS => ?_)
  have hP : va_P D vwCl (wX5 cI cZ cG h5 a5 (nI nr) (nI nt) (nI nc) (nI nw) hd (nI wk) (nI ng) (nI nT) mi (nI nf) (nI nn) mru mth mcl mfa mwa mfz mbl mbk mtr mno mlo mip mto) H := hP
  have hD : va_D A (wX5 cI cZ cG h5 a5 (nI nr) (nI nt) (nI nc) (nI nw) hd (nI wk) (nI ng) (nI nT) mi (nI nf) (nI nn) mru mth mcl mfa mwa mfz mbl mbk mtr mno mlo mip mto) := hD
  obtain rfl := hw6
  exact K_iret (wf := (fun (_ : Unit) => wX5 cI cZ cG h5 a5 (nI nr) (nI nt) (nI nc) (nI nw) hd (nI wk) (nI ng) (nI nT) mi (nI nf) (nI nn) mru mth mcl mfa mwa mfz mbl mbk mtr mno mlo mip mto)) () hx hb hr hlocks hP hK hD hS dX5_blockOf_24 (by rw [bkO, hrE, hqE, hcr, hcq, Nat.mod_eq_of_lt hq0])
theorem inX5_nextOf : ∀ w ∈ wsX50, w ∈ wsX5_nextOf := by decide +kernel
set_option maxHeartbeats 8000000 in
set_option maxRecDepth 100000 in
/-- nextOf -/
theorem c_X5_nextOf (l : Launch) (D : va_G) (cI cZ cG : ClassId) (h5 : Nat) (a5 : Nat → Nat) (sz : Nat) (nr : Nat) (nt : Nat) (nc : Nat) (nw : Nat) (hd : Int32) (wk : Nat) (ng : Nat) (nT : Nat) (mi : Int32) (nf : Nat) (nn : Nat) (mru : Nat → Int32) (mth : Nat → Int32) (mcl : Nat → Int32) (mfa : Nat → Int32) (mwa : Nat → Int32) (mfz : Nat → Int32) (mbl : Nat → Int32) (mbk : Nat → Int32) (mtr : Nat → Int32) (mno : Nat → Int32) (mlo : Nat → Int32) (mip : Nat → Int32) (mto : Nat → Int32) (t : Nat) (hnr : nr ≤ 6) (hnt : nt ≤ 20) (hnc : nc ≤ 60) (hnw : nw ≤ 24) (hwk : wk ≤ 200) (hng : ng ≤ 3) (hnT : nT ≤ 4) (hnf : nf ≤ 12) (hnn : nn ≤ 60) (ht : t < nT) (hokT : okT ng nT mbl (col 7 0 mtr) (col 7 1 mtr)) : Met l yX5_nextOf wsX5_nextOf ({ frames := 1, cells := 0, slots := 0, locals := 22 } : Room) (va_Pc [.ref h5, .int (nI t)] (PB D (tyL cI cZ cG) (wX5 cI cZ cG h5 a5 (nI nr) (nI nt) (nI nc) (nI nw) hd (nI wk) (nI ng) (nI nT) mi (nI nf) (nI nn) mru mth mcl mfa mwa mfz mbl mbk mtr mno mlo mip mto) sz)) (va_Qi (fun (r : Int32) (_ : Unit) => r = bkN (BM mbk) mbl (col 7 0 mtr) (col 7 1 mtr) t) (fun u => QB D (tyL cI cZ cG) (va_A (wX5 cI cZ cG h5 a5 (nI nr) (nI nt) (nI nc) (nI nw) hd (nI wk) (nI ng) (nI nT) mi (nI nf) (nI nn) mru mth mcl mfa mwa mfz mbl mbk mtr mno mlo mip mto) sz) ((fun (_ : Unit) => wX5 cI cZ cG h5 a5 (nI nr) (nI nt) (nI nc) (nI nw) hd (nI wk) (nI ng) (nI nT) mi (nI nf) (nI nn) mru mth mcl mfa mwa mfz mbl mbk mtr mno mlo mip mto) u)) (va_A (wX5 cI cZ cG h5 a5 (nI nr) (nI nt) (nI nc) (nI nw) hd (nI wk) (nI ng) (nI nT) mi (nI nf) (nI nn) mru mth mcl mfa mwa mfz mbl mbk mtr mno mlo mip mto) sz)) 0 0 (va_A (wX5 cI cZ cG h5 a5 (nI nr) (nI nt) (nI nc) (nI nw) hd (nI wk) (nI ng) (nI nT) mi (nI nf) (nI nn) mru mth mcl mfa mwa mfz mbl mbk mtr mno mlo mip mto) sz) := by
  refine K_start (cc := cX5_nextOf) (maxL := 2) (ret := some .int) (Qc := fun A => va_Qi (fun (r : Int32) (_ : Unit) => r = bkN (BM mbk) mbl (col 7 0 mtr) (col 7 1 mtr) t) (fun u => QB D (tyL cI cZ cG) A ((fun (_ : Unit) => wX5 cI cZ cG h5 a5 (nI nr) (nI nt) (nI nc) (nI nw) hd (nI wk) (nI ng) (nI nT) mi (nI nf) (nI nn) mru mth mcl mfa mwa mfz mbl mbk mtr mno mlo mip mto) u)) A) (by decide) rfl (Nat.le_of_ble_eq_true rfl) ?_
  intro p e s m below meth c ls A hx hb hml hr hts hown hlocks hin hN hP hK hD hA hS hl hsz
  have hl : lv_has ls 2 [(0, .ref h5), (1, .int (nI t))] := hl
  have fl39 := hts (.fieldLink RX5 39 "ModelTownModel" "train" "[I") (by decide +kernel)
  obtain ⟨g0, n, q, hr0, hrE, hn2, hn12, hnE, hq0, hqE⟩ := hokT t (by omega)
  have hcr : (nI g0).toNatClampNeg = g0 := nI_clamp (by omega)
  have hcq : (nI q).toNatClampNeg = q := nI_clamp (by omega)
  have hqn : (q + 1) % n < n := Nat.mod_lt _ (by omega)
  refine lv_aload_n hx hb dX5_nextOf_0 rfl (lv_at hl 0 rfl) ?_
  refine lv_aload_n hx hb dX5_nextOf_1 rfl (lv_at hl 0 rfl) ?_
  refine va_get (D := D) (ci := 5) (v := .ref (a5 8)) (C := RX5) (T := TX5) (N := 24) hx hb hts inX5_nextOf hown hK hP 0 rfl rfl 16 (by decide) fl39 (fun _ h9 => h9) rfl dX5_nextOf_2 ?_
  refine lv_bipush (v := 7) hx hb dX5_nextOf_5 (by decide) ?_
  refine lv_iload_n hx hb dX5_nextOf_7 rfl (lv_at hl 1 rfl) ?_
  refine lv_imul hx hb dX5_nextOf_8 ?_
  refine lv_topi (fun z1 ez1 => ?_)
  obtain rfl : z1 = nI (7 * t) := ez1.trans (pk_mul 7 t)
  refine K_iald hx hb hK hP 9 0 rfl rfl (7 * t) (by omega) (Nat.le_of_ble_eq_true rfl) dX5_nextOf_9 ?_
  refine lv_topi (fun z2 ez2 => ?_)
  obtain rfl : z2 = nI g0 := ez2.trans hrE
  refine lv_aload_n hx hb dX5_nextOf_10 rfl (lv_at hl 0 rfl) ?_
  refine va_get (D := D) (ci := 5) (v := .ref (a5 8)) (C := RX5) (T := TX5) (N := 24) hx hb hts inX5_nextOf hown hK hP 0 rfl rfl 16 (by decide) fl39 (fun _ h9 => h9) rfl dX5_nextOf_11 ?_
  refine lv_bipush (v := 7) hx hb dX5_nextOf_14 (by decide) ?_
  refine lv_iload_n hx hb dX5_nextOf_16 rfl (lv_at hl 1 rfl) ?_
  refine lv_imul hx hb dX5_nextOf_17 ?_
  refine lv_topi (fun z3 ez3 => ?_)
  obtain rfl : z3 = nI (7 * t) := ez3.trans (pk_mul 7 t)
  refine lv_iconst (v := 1) hx hb dX5_nextOf_18 (by decide) ?_
  refine lv_iadd hx hb dX5_nextOf_19 ?_
  refine lv_topi (fun z4 ez4 => ?_)
  obtain rfl : z4 = nI (7 * t + 1) := ez4.trans ((nI_add (7 * t) 1).trans (congrArg nI (by omega)))
  refine K_iald hx hb hK hP 9 0 rfl rfl (7 * t + 1) (by omega) (Nat.le_of_ble_eq_true rfl) dX5_nextOf_20 ?_
  refine lv_topi (fun z5 ez5 => ?_)
  obtain rfl : z5 = nI q := ez5.trans hqE
  refine lv_iconst (v := 1) hx hb dX5_nextOf_21 (by decide) ?_
  refine lv_iadd hx hb dX5_nextOf_22 ?_
  refine lv_topi (fun z6 ez6 => ?_)
  obtain rfl : z6 = nI (q + 1) := ez6.trans (nI_add q 1)
  refine K_same (va_runV (As := [.int (nI g0), .int (nI (q + 1))]) (rest := []) ⟨hx, hb, hml, hown, hts⟩ (c_X5_blockAt l D cI cZ cG h5 a5 _ nr nt nc nw hd wk ng nT mi nf nn mru mth mcl mfa mwa mfz mbl mbk mtr mno mlo mip mto g0 (q + 1) n hnr hnt hnc hnw hwk hng hnT hnf hnn (by omega) (by omega) (by omega) hnE (by omega)) (cwV 2 hts gX5_nextOf_X5_blockAt rfl rfl rfl (by decide +kernel) ⟨(Nat.le_of_ble_eq_true rfl), (Nat.le_of_ble_eq_true rfl)⟩) ⟨PB_blind, va_recv hK hP (ci := 5) (q0 := 0) rfl rfl, (K_preS hN hK hP hD).2⟩ rfl rfl hl.1 rfl (lv_room (Nat.le_of_ble_eq_true rfl)) dX5_nextOf_23 ⟨Nat.zero_le _, Nat.zero_le _⟩) hD hS hA (fun r7 u H locs hw7 hP hD hS => ?_)
  have hP : va_P D vwCl (wX5 cI cZ cG h5 a5 (nI nr) (nI nt) (nI nc) (nI nw) hd (nI wk) (nI ng) (nI nT) mi (nI nf) (nI nn) mru mth mcl mfa mwa mfz mbl mbk mtr mno mlo mip mto) H := hP
  have hD : va_D A (wX5 cI cZ cG h5 a5 (nI nr) (nI nt) (nI nc) (nI nw) hd (nI wk) (nI ng) (nI nT) mi (nI nf) (nI nn) mru mth mcl mfa mwa mfz mbl mbk mtr mno mlo mip mto) := hD
  obtain rfl := hw7
  exact K_iret (wf := (fun (_ : Unit) => wX5 cI cZ cG h5 a5 (nI nr) (nI nt) (nI nc) (nI nw) hd (nI wk) (nI ng) (nI nT) mi (nI nf) (nI nn) mru mth mcl mfa mwa mfz mbl mbk mtr mno mlo mip mto)) () hx hb hr hlocks hP hK hD hS dX5_nextOf_26 (by rw [bkN, nxP_mod (by omega) hrE hn12 hnE hq0 hqE, hrE, hcr, nI_clamp (by omega)])
theorem inX5_trainIn : ∀ w ∈ wsX50, w ∈ wsX5_trainIn := by decide +kernel
set_option maxHeartbeats 8000000 in
set_option maxRecDepth 100000 in
/-- trainIn -/
theorem c_X5_trainIn (l : Launch) (D : va_G) (cI cZ cG : ClassId) (h5 : Nat) (a5 : Nat → Nat) (sz : Nat) (nr : Nat) (nt : Nat) (nc : Nat) (nw : Nat) (hd : Int32) (wk : Nat) (ng : Nat) (nT : Nat) (mi : Int32) (nf : Nat) (nn : Nat) (mru : Nat → Int32) (mth : Nat → Int32) (mcl : Nat → Int32) (mfa : Nat → Int32) (mwa : Nat → Int32) (mfz : Nat → Int32) (mbl : Nat → Int32) (mbk : Nat → Int32) (mtr : Nat → Int32) (mno : Nat → Int32) (mlo : Nat → Int32) (mip : Nat → Int32) (mto : Nat → Int32) (b : Int32) (hnr : nr ≤ 6) (hnt : nt ≤ 20) (hnc : nc ≤ 60) (hnw : nw ≤ 24) (hwk : wk ≤ 200) (hng : ng ≤ 3) (hnT : nT ≤ 4) (hnf : nf ≤ 12) (hnn : nn ≤ 60) (hokT : okT ng nT mbl (col 7 0 mtr) (col 7 1 mtr)) : Met l yX5_trainIn wsX5_trainIn ({ frames := 2, cells := 0, slots := 0, locals := 43 } : Room) (va_Pc [.ref h5, .int b] (PB D (tyL cI cZ cG) (wX5 cI cZ cG h5 a5 (nI nr) (nI nt) (nI nc) (nI nw) hd (nI wk) (nI ng) (nI nT) mi (nI nf) (nI nn) mru mth mcl mfa mwa mfz mbl mbk mtr mno mlo mip mto) sz)) (va_Qi (fun (r : Int32) (_ : Unit) => r = oI (tI (bkO (BM mbk) (col 7 0 mtr) (col 7 1 mtr)) b nT)) (fun u => QB D (tyL cI cZ cG) (va_A (wX5 cI cZ cG h5 a5 (nI nr) (nI nt) (nI nc) (nI nw) hd (nI wk) (nI ng) (nI nT) mi (nI nf) (nI nn) mru mth mcl mfa mwa mfz mbl mbk mtr mno mlo mip mto) sz) ((fun (_ : Unit) => wX5 cI cZ cG h5 a5 (nI nr) (nI nt) (nI nc) (nI nw) hd (nI wk) (nI ng) (nI nT) mi (nI nf) (nI nn) mru mth mcl mfa mwa mfz mbl mbk mtr mno mlo mip mto) u)) (va_A (wX5 cI cZ cG h5 a5 (nI nr) (nI nt) (nI nc) (nI nw) hd (nI wk) (nI ng) (nI nT) mi (nI nf) (nI nn) mru mth mcl mfa mwa mfz mbl mbk mtr mno mlo mip mto) sz)) 0 0 (va_A (wX5 cI cZ cG h5 a5 (nI nr) (nI nt) (nI nc) (nI nw) hd (nI wk) (nI ng) (nI nT) mi (nI nf) (nI nn) mru mth mcl mfa mwa mfz mbl mbk mtr mno mlo mip mto) sz) := by
  refine K_start (cc := cX5_trainIn) (maxL := 3) (ret := some .int) (Qc := fun A => va_Qi (fun (r : Int32) (_ : Unit) => r = oI (tI (bkO (BM mbk) (col 7 0 mtr) (col 7 1 mtr)) b nT)) (fun u => QB D (tyL cI cZ cG) A ((fun (_ : Unit) => wX5 cI cZ cG h5 a5 (nI nr) (nI nt) (nI nc) (nI nw) hd (nI wk) (nI ng) (nI nT) mi (nI nf) (nI nn) mru mth mcl mfa mwa mfz mbl mbk mtr mno mlo mip mto) u)) A) (by decide) rfl (Nat.le_of_ble_eq_true rfl) ?_
  intro p e s m below meth c ls A hx hb hml hr hts hown hlocks hin hN hP hK hD hA hS hl hsz
  have hl : lv_has ls 3 [(0, .ref h5), (1, .int b)] := hl
  have fl110 := hts (.fieldLink RX5 110 "ModelTownModel" "trains" "I") (by decide +kernel)
  refine lv_iconst (v := 0) hx hb dX5_trainIn_0 (by decide) ?_
  refine lv_istore_n (lv' := [(2, .int 0), (0, .ref h5), (1, .int b)]) hx hb dX5_trainIn_1 rfl hl (by decide) rfl (fun ls hl => ?_)
  refine loopW1 (fun (k : Nat) H locs ls => (k ≤ nT) ∧ (tI (bkO (BM mbk) (col 7 0 mtr) (col 7 1 mtr)) b k = none) ∧ va_P D vwCl (wX5 cI cZ cG h5 a5 (nI nr) (nI nt) (nI nc) (nI nw) hd (nI wk) (nI ng) (nI nT) mi (nI nf) (nI nn) mru mth mcl mfa mwa mfz mbl mbk mtr mno mlo mip mto) H ∧ va_D A (wX5 cI cZ cG h5 a5 (nI nr) (nI nt) (nI nc) (nI nw) hd (nI wk) (nI ng) (nI nT) mi (nI nf) (nI nn) mru mth mcl mfa mwa mfz mbl mbk mtr mno mlo mip mto) ∧ va_S A s.heap H locs ∧ lv_has ls 3 [(2, .int (nI k)), (0, .ref h5), (1, .int b)]) (fun (k : Nat) => nT - k) (fun k H locs ls hI ih2 => ?_) 0 _ _ _ ⟨(by omega), rfl, hP, hD, hS, lv_sub hl [0, 1, 2] rfl⟩
  obtain ⟨hk, hz, hP, hD, hS, hl⟩ := hI
  refine lv_iload_n hx hb dX5_trainIn_2 rfl (lv_at hl 0 rfl) ?_
  refine lv_aload_n hx hb dX5_trainIn_3 rfl (lv_at hl 1 rfl) ?_
  refine va_get (D := D) (ci := 5) (v := .int (nI nT)) (C := RX5) (T := TX5) (N := 24) hx hb hts inX5_trainIn hown hK hP 0 rfl rfl 15 (by decide) fl110 (fun _ h9 => h9) rfl dX5_trainIn_4 ?_
  refine lv_icmp_ge (tgt := 27) hx hb dX5_trainIn_7 (by decide) (fun c1 => ?_) (fun c1 => ?_)
  · have c1 : nT ≤ k := (nI_leI (a := nT) (b := k) (by omega) (by omega)).mp c1
    have ek : k = nT := by omega
    rw [ek] at hz
    refine lv_bipush (v := (-6)) hx hb dX5_trainIn_27 (by decide) ?_
    exact K_iret (wf := (fun (_ : Unit) => wX5 cI cZ cG h5 a5 (nI nr) (nI nt) (nI nc) (nI nw) hd (nI wk) (nI ng) (nI nT) mi (nI nf) (nI nn) mru mth mcl mfa mwa mfz mbl mbk mtr mno mlo mip mto)) () hx hb hr hlocks hP hK hD hS dX5_trainIn_29 (by rw [hz]; rfl)
  · have c1 : ¬ nT ≤ k := fun hq => c1 ((nI_leI (a := nT) (b := k) (by omega) (by omega)).mpr hq)
    have hk9 : k < nT := by omega
    refine lv_aload_n hx hb dX5_trainIn_10 rfl (lv_at hl 1 rfl) ?_
    refine lv_iload_n hx hb dX5_trainIn_11 rfl (lv_at hl 0 rfl) ?_
    refine K_same (va_runV (As := [.int (nI k)]) (rest := []) ⟨hx, hb, hml, hown, hts⟩ (c_X5_blockOf l D cI cZ cG h5 a5 _ nr nt nc nw hd wk ng nT mi nf nn mru mth mcl mfa mwa mfz mbl mbk mtr mno mlo mip mto k hnr hnt hnc hnw hwk hng hnT hnf hnn (by omega) hokT) (cwV 1 hts gX5_trainIn_X5_blockOf rfl rfl rfl (by decide +kernel) ⟨(Nat.le_of_ble_eq_true rfl), (Nat.le_of_ble_eq_true rfl)⟩) ⟨PB_blind, va_recv hK hP (ci := 5) (q0 := 0) rfl rfl, (K_preS hN hK hP hD).2⟩ rfl rfl hl.1 rfl (lv_room (Nat.le_of_ble_eq_true rfl)) dX5_trainIn_12 ⟨Nat.zero_le _, Nat.zero_le _⟩) hD hS hA (fun r2 u H locs hw2 hP hD hS => ?_)
    have hP : va_P D vwCl (wX5 cI cZ cG h5 a5 (nI nr) (nI nt) (nI nc) (nI nw) hd (nI wk) (nI ng) (nI nT) mi (nI nf) (nI nn) mru mth mcl mfa mwa mfz mbl mbk mtr mno mlo mip mto) H := hP
    have hD : va_D A (wX5 cI cZ cG h5 a5 (nI nr) (nI nt) (nI nc) (nI nw) hd (nI wk) (nI ng) (nI nT) mi (nI nf) (nI nn) mru mth mcl mfa mwa mfz mbl mbk mtr mno mlo mip mto) := hD
    obtain rfl := hw2
    refine lv_iload_n hx hb dX5_trainIn_15 rfl (lv_at hl 2 rfl) ?_
    refine lv_icmp_ne (tgt := 21) hx hb dX5_trainIn_16 (by decide) (fun c3 => ?_) (fun c3 => ?_)
    · refine lv_iinc (v := nI (k + 1)) (lv' := [(2, .int (nI (k + 1))), (0, .ref h5), (1, .int b)]) hx hb dX5_trainIn_21 hl (k := 0) rfl (inc1 _) (by decide) rfl (fun ls hl => ?_)
      refine lv_goto (tgt := 2) hx hb dX5_trainIn_24 (by decide) ?_
      exact ih2 (k + 1) _ _ _ ⟨(by omega), (by rw [tI, hz]; exact if_neg c3), hP, hD, hS, lv_sub hl [0, 1, 2] rfl⟩ (by omega)
    · refine lv_iload_n hx hb dX5_trainIn_19 rfl (lv_at hl 0 rfl) ?_
      exact K_iret (wf := (fun (_ : Unit) => wX5 cI cZ cG h5 a5 (nI nr) (nI nt) (nI nc) (nI nw) hd (nI wk) (nI ng) (nI nT) mi (nI nf) (nI nn) mru mth mcl mfa mwa mfz mbl mbk mtr mno mlo mip mto)) () hx hb hr hlocks hP hK hD hS dX5_trainIn_20 (by rw [tI_hit hz c3 hk9]; rfl)
theorem inX5_ring : ∀ w ∈ wsX50, w ∈ wsX5_ring := by decide +kernel
set_option maxHeartbeats 8000000 in
set_option maxRecDepth 100000 in
/-- ring -/
theorem c_X5_ring (l : Launch) (D : va_G) (cI cZ cG : ClassId) (h5 : Nat) (a5 : Nat → Nat) (sz : Nat) (nr : Nat) (nt : Nat) (nc : Nat) (nw : Nat) (hd : Int32) (wk : Nat) (ng : Nat) (nT : Nat) (mi : Int32) (nf : Nat) (nn : Nat) (mru : Nat → Int32) (mth : Nat → Int32) (mcl : Nat → Int32) (mfa : Nat → Int32) (mwa : Nat → Int32) (mfz : Nat → Int32) (mbl : Nat → Int32) (mbk : Nat → Int32) (mtr : Nat → Int32) (mno : Nat → Int32) (mlo : Nat → Int32) (mip : Nat → Int32) (mto : Nat → Int32) (hnr : nr ≤ 6) (hnt : nt ≤ 20) (hnc : nc ≤ 60) (hnw : nw ≤ 24) (hwk : wk ≤ 200) (hng : ng ≤ 3) (hnT : nT ≤ 4) (hnf : nf ≤ 12) (hnn : nn ≤ 60) : Met l yX5_ring wsX5_ring ({ frames := 0, cells := 0, slots := 0, locals := 0 } : Room) (va_Pc [.ref h5] (PB D (tyL cI cZ cG) (wX5 cI cZ cG h5 a5 (nI nr) (nI nt) (nI nc) (nI nw) hd (nI wk) (nI ng) (nI nT) mi (nI nf) (nI nn) mru mth mcl mfa mwa mfz mbl mbk mtr mno mlo mip mto) sz)) (va_Qi (fun (r : Int32) (u : Nat × (Nat → Int32)) => r = rRing ng ∧ u = if ng = 3 then (ng, mbl) else (ng + 1, upd mbl ng 0)) (fun u => QB D (tyL cI cZ cG) (va_A (wX5 cI cZ cG h5 a5 (nI nr) (nI nt) (nI nc) (nI nw) hd (nI wk) (nI ng) (nI nT) mi (nI nf) (nI nn) mru mth mcl mfa mwa mfz mbl mbk mtr mno mlo mip mto) sz) ((fun (u : Nat × (Nat → Int32)) => wX5 cI cZ cG h5 a5 (nI nr) (nI nt) (nI nc) (nI nw) hd (nI wk) (nI u.1) (nI nT) mi (nI nf) (nI nn) mru mth mcl mfa mwa mfz u.2 mbk mtr mno mlo mip mto) u)) (va_A (wX5 cI cZ cG h5 a5 (nI nr) (nI nt) (nI nc) (nI nw) hd (nI wk) (nI ng) (nI nT) mi (nI nf) (nI nn) mru mth mcl mfa mwa mfz mbl mbk mtr mno mlo mip mto) sz)) 0 0 (va_A (wX5 cI cZ cG h5 a5 (nI nr) (nI nt) (nI nc) (nI nw) hd (nI wk) (nI ng) (nI nT) mi (nI nf) (nI nn) mru mth mcl mfa mwa mfz mbl mbk mtr mno mlo mip mto) sz) := by
  refine K_start (cc := cX5_ring) (maxL := 1) (ret := some .int) (Qc := fun A => va_Qi (fun (r : Int32) (u : Nat × (Nat → Int32)) => r = rRing ng ∧ u = if ng = 3 then (ng, mbl) else (ng + 1, upd mbl ng 0)) (fun u => QB D (tyL cI cZ cG) A ((fun (u : Nat × (Nat → Int32)) => wX5 cI cZ cG h5 a5 (nI nr) (nI nt) (nI nc) (nI nw) hd (nI wk) (nI u.1) (nI nT) mi (nI nf) (nI nn) mru mth mcl mfa mwa mfz u.2 mbk mtr mno mlo mip mto) u)) A) (by decide) rfl (Nat.le_of_ble_eq_true rfl) ?_
  intro p e s m below meth c ls A hx hb hml hr hts hown hlocks hin hN hP hK hD hA hS hl hsz
  have hl : lv_has ls 1 [(0, .ref h5)] := hl
  have fl104 := hts (.fieldLink RX5 104 "ModelTownModel" "rings" "I") (by decide +kernel)
  have fl33 := hts (.fieldLink RX5 33 "ModelTownModel" "blocks" "[I") (by decide +kernel)
  refine lv_aload_n hx hb dX5_ring_0 rfl (lv_at hl 0 rfl) ?_
  refine va_get (D := D) (ci := 5) (v := .int (nI ng)) (C := RX5) (T := TX5) (N := 24) hx hb hts inX5_ring hown hK hP 0 rfl rfl 12 (by decide) fl104 (fun _ h9 => h9) rfl dX5_ring_1 ?_
  refine lv_iconst (v := 3) hx hb dX5_ring_4 (by decide) ?_
  refine lv_icmp_ne (tgt := 11) hx hb dX5_ring_5 (by decide) (fun c1 => ?_) (fun c1 => ?_)
  · have c1 : ¬ ng = 3 := fun hq => c1 ((nI_eq (a := ng) (b := 3) (by omega) (by omega)).mpr hq)
    refine lv_aload_n hx hb dX5_ring_11 rfl (lv_at hl 0 rfl) ?_
    refine va_get (D := D) (ci := 5) (v := .ref (a5 6)) (C := RX5) (T := TX5) (N := 24) hx hb hts inX5_ring hown hK hP 0 rfl rfl 13 (by decide) fl33 (fun _ h9 => h9) rfl dX5_ring_12 ?_
    refine lv_aload_n hx hb dX5_ring_15 rfl (lv_at hl 0 rfl) ?_
    refine va_get (D := D) (ci := 5) (v := .int (nI ng)) (C := RX5) (T := TX5) (N := 24) hx hb hts inX5_ring hown hK hP 0 rfl rfl 12 (by decide) fl104 (fun _ h9 => h9) rfl dX5_ring_16 ?_
    refine lv_iconst (v := 0) hx hb dX5_ring_19 (by decide) ?_
    refine K_iast hx hb hK hP hD hS 7 0 rfl rfl ng (by omega) (Nat.le_of_ble_eq_true rfl) dX5_ring_20 (fun H locs hP hD hS => ?_)
    have hP : va_P D vwCl (wX5 cI cZ cG h5 a5 (nI nr) (nI nt) (nI nc) (nI nw) hd (nI wk) (nI ng) (nI nT) mi (nI nf) (nI nn) mru mth mcl mfa mwa mfz (upd mbl ng 0) mbk mtr mno mlo mip mto) H := hP
    have hD : va_D A (wX5 cI cZ cG h5 a5 (nI nr) (nI nt) (nI nc) (nI nw) hd (nI wk) (nI ng) (nI nT) mi (nI nf) (nI nn) mru mth mcl mfa mwa mfz (upd mbl ng 0) mbk mtr mno mlo mip mto) := hD
    refine lv_aload_n hx hb dX5_ring_21 rfl (lv_at hl 0 rfl) ?_
    refine lv_dup hx hb dX5_ring_22 rfl ?_
    refine va_get (D := D) (ci := 5) (v := .int (nI ng)) (C := RX5) (T := TX5) (N := 24) hx hb hts inX5_ring hown hK hP 0 rfl rfl 12 (by decide) fl104 (fun _ h9 => h9) rfl dX5_ring_23 ?_
    refine lv_iconst (v := 1) hx hb dX5_ring_26 (by decide) ?_
    refine lv_iadd hx hb dX5_ring_27 ?_
    refine lv_topi (fun z2 ez2 => ?_)
    obtain rfl : z2 = nI (ng + 1) := ez2.trans (nI_add ng 1)
    refine va_put (D := D) (ci := 5) (v := .int (nI (ng + 1))) (ty := .int) (C := RX5) (T := TX5) (N := 24) hx hb hts inX5_ring tyX5 tyX5_ok nmX5 hown hK hP hD hS 0 rfl rfl 12 (by decide) fl104 (fun _ h9 => h9) rfl (by decide +kernel) rfl rfl (Nat.le_of_ble_eq_true rfl) dX5_ring_28 (fun H locs hP hD hS => ?_)
    have hP : va_P D vwCl (wX5 cI cZ cG h5 a5 (nI nr) (nI nt) (nI nc) (nI nw) hd (nI wk) (nI (ng + 1)) (nI nT) mi (nI nf) (nI nn) mru mth mcl mfa mwa mfz (upd mbl ng 0) mbk mtr mno mlo mip mto) H := hP
    have hD : va_D A (wX5 cI cZ cG h5 a5 (nI nr) (nI nt) (nI nc) (nI nw) hd (nI wk) (nI (ng + 1)) (nI nT) mi (nI nf) (nI nn) mru mth mcl mfa mwa mfz (upd mbl ng 0) mbk mtr mno mlo mip mto) := hD
    refine lv_aload_n hx hb dX5_ring_31 rfl (lv_at hl 0 rfl) ?_
    refine va_get (D := D) (ci := 5) (v := .int (nI (ng + 1))) (C := RX5) (T := TX5) (N := 24) hx hb hts inX5_ring hown hK hP 0 rfl rfl 12 (by decide) fl104 (fun _ h9 => h9) rfl dX5_ring_32 ?_
    refine lv_iconst (v := 1) hx hb dX5_ring_35 (by decide) ?_
    refine lv_isub hx hb dX5_ring_36 ?_
    refine lv_topi (fun z3 ez3 => ?_)
    obtain rfl : z3 = nI ng := ez3.trans (nI_pred ng)
    exact K_iret (wf := (fun (u : Nat × (Nat → Int32)) => wX5 cI cZ cG h5 a5 (nI nr) (nI nt) (nI nc) (nI nw) hd (nI wk) (nI u.1) (nI nT) mi (nI nf) (nI nn) mru mth mcl mfa mwa mfz u.2 mbk mtr mno mlo mip mto)) (ng + 1, upd mbl ng 0) hx hb hr hlocks hP hK hD hS dX5_ring_37 (by simp [rRing, c1])
  · have c1 : ng = 3 := (nI_eq (a := ng) (b := 3) (by omega) (by omega)).mp c1
    refine lv_bipush (v := (-4)) hx hb dX5_ring_8 (by decide) ?_
    exact K_iret (wf := (fun (u : Nat × (Nat → Int32)) => wX5 cI cZ cG h5 a5 (nI nr) (nI nt) (nI nc) (nI nw) hd (nI wk) (nI u.1) (nI nT) mi (nI nf) (nI nn) mru mth mcl mfa mwa mfz u.2 mbk mtr mno mlo mip mto)) (ng, mbl) hx hb hr hlocks hP hK hD hS dX5_ring_10 (by simp [rRing, eq_true c1])
theorem inX5_block : ∀ w ∈ wsX50, w ∈ wsX5_block := by decide +kernel
set_option maxHeartbeats 8000000 in
set_option maxRecDepth 100000 in
/-- block -/
theorem c_X5_block (l : Launch) (D : va_G) (cI cZ cG : ClassId) (h5 : Nat) (a5 : Nat → Nat) (sz : Nat) (nr : Nat) (nt : Nat) (nc : Nat) (nw : Nat) (hd : Int32) (wk : Nat) (ng : Nat) (nT : Nat) (mi : Int32) (nf : Nat) (nn : Nat) (mru : Nat → Int32) (mth : Nat → Int32) (mcl : Nat → Int32) (mfa : Nat → Int32) (mwa : Nat → Int32) (mfz : Nat → Int32) (mbl : Nat → Int32) (mbk : Nat → Int32) (mtr : Nat → Int32) (mno : Nat → Int32) (mlo : Nat → Int32) (mip : Nat → Int32) (mto : Nat → Int32) (x : Int32) (b : Int32) (hnr : nr ≤ 6) (hnt : nt ≤ 20) (hnc : nc ≤ 60) (hnw : nw ≤ 24) (hwk : wk ≤ 200) (hng : ng ≤ 3) (hnT : nT ≤ 4) (hnf : nf ≤ 12) (hnn : nn ≤ 60) (hokL : okL mbl) : Met l yX5_block wsX5_block ({ frames := 2, cells := 0, slots := 0, locals := 43 } : Room) (va_Pc [.ref h5, .int x, .int b] (PB D (tyL cI cZ cG) (wX5 cI cZ cG h5 a5 (nI nr) (nI nt) (nI nc) (nI nw) hd (nI wk) (nI ng) (nI nT) mi (nI nf) (nI nn) mru mth mcl mfa mwa mfz mbl mbk mtr mno mlo mip mto) sz)) (va_Qi (fun (r : Int32) (u : (Nat → Int32) × (Nat → Int32)) => r = rBlock ng nT mbl (col 7 0 mtr) (BM mbk) x b ∧ u = if okBlock ng nT mbl (col 7 0 mtr) (BM mbk) x b = true then (upd mbl x.toNatClampNeg (mbl x.toNatClampNeg + 1), upd mbk (12 * x.toNatClampNeg + (mbl x.toNatClampNeg).toNatClampNeg) b) else (mbl, mbk)) (fun u => QB D (tyL cI cZ cG) (va_A (wX5 cI cZ cG h5 a5 (nI nr) (nI nt) (nI nc) (nI nw) hd (nI wk) (nI ng) (nI nT) mi (nI nf) (nI nn) mru mth mcl mfa mwa mfz mbl mbk mtr mno mlo mip mto) sz) ((fun (u : (Nat → Int32) × (Nat → Int32)) => wX5 cI cZ cG h5 a5 (nI nr) (nI nt) (nI nc) (nI nw) hd (nI wk) (nI ng) (nI nT) mi (nI nf) (nI nn) mru mth mcl mfa mwa mfz u.1 u.2 mtr mno mlo mip mto) u)) (va_A (wX5 cI cZ cG h5 a5 (nI nr) (nI nt) (nI nc) (nI nw) hd (nI wk) (nI ng) (nI nT) mi (nI nf) (nI nn) mru mth mcl mfa mwa mfz mbl mbk mtr mno mlo mip mto) sz)) 0 0 (va_A (wX5 cI cZ cG h5 a5 (nI nr) (nI nt) (nI nc) (nI nw) hd (nI wk) (nI ng) (nI nT) mi (nI nf) (nI nn) mru mth mcl mfa mwa mfz mbl mbk mtr mno mlo mip mto) sz) := by
  refine K_start (cc := cX5_block) (maxL := 4) (ret := some .int) (Qc := fun A => va_Qi (fun (r : Int32) (u : (Nat → Int32) × (Nat → Int32)) => r = rBlock ng nT mbl (col 7 0 mtr) (BM mbk) x b ∧ u = if okBlock ng nT mbl (col 7 0 mtr) (BM mbk) x b = true then (upd mbl x.toNatClampNeg (mbl x.toNatClampNeg + 1), upd mbk (12 * x.toNatClampNeg + (mbl x.toNatClampNeg).toNatClampNeg) b) else (mbl, mbk)) (fun u => QB D (tyL cI cZ cG) A ((fun (u : (Nat → Int32) × (Nat → Int32)) => wX5 cI cZ cG h5 a5 (nI nr) (nI nt) (nI nc) (nI nw) hd (nI wk) (nI ng) (nI nT) mi (nI nf) (nI nn) mru mth mcl mfa mwa mfz u.1 u.2 mtr mno mlo mip mto) u)) A) (by decide) rfl (Nat.le_of_ble_eq_true rfl) ?_
  intro p e s m below meth c ls A hx hb hml hr hts hown hlocks hin hN hP hK hD hA hS hl hsz
  have hl : lv_has ls 4 [(0, .ref h5), (1, .int x), (2, .int b)] := hl
  have fl110 := hts (.fieldLink RX5 110 "ModelTownModel" "trains" "I") (by decide +kernel)
  have fl33 := hts (.fieldLink RX5 33 "ModelTownModel" "blocks" "[I") (by decide +kernel)
  have fl36 := hts (.fieldLink RX5 36 "ModelTownModel" "block" "[I") (by decide +kernel)
  have fl39 := hts (.fieldLink RX5 39 "ModelTownModel" "train" "[I") (by decide +kernel)
  refine lv_aload_n hx hb dX5_block_0 rfl (lv_at hl 0 rfl) ?_
  refine lv_iload_n hx hb dX5_block_1 rfl (lv_at hl 1 rfl) ?_
  refine K_same (va_runV (As := [.int x]) (rest := []) ⟨hx, hb, hml, hown, hts⟩ (c_X5_isRing l D cI cZ cG h5 a5 _ nr nt nc nw hd wk ng nT mi nf nn mru mth mcl mfa mwa mfz mbl mbk mtr mno mlo mip mto x hnr hnt hnc hnw hwk hng hnT hnf hnn) (cwV 1 hts gX5_block_X5_isRing rfl rfl rfl (by decide +kernel) ⟨(Nat.le_of_ble_eq_true rfl), (Nat.le_of_ble_eq_true rfl)⟩) ⟨PB_blind, va_recv hK hP (ci := 5) (q0 := 0) rfl rfl, (K_preS hN hK hP hD).2⟩ rfl rfl hl.1 rfl (lv_room (Nat.le_of_ble_eq_true rfl)) dX5_block_2 ⟨Nat.zero_le _, Nat.zero_le _⟩) hD hS hA (fun r1 u H locs hw1 hP hD hS => ?_)
  have hP : va_P D vwCl (wX5 cI cZ cG h5 a5 (nI nr) (nI nt) (nI nc) (nI nw) hd (nI wk) (nI ng) (nI nT) mi (nI nf) (nI nn) mru mth mcl mfa mwa mfz mbl mbk mtr mno mlo mip mto) H := hP
  have hD : va_D A (wX5 cI cZ cG h5 a5 (nI nr) (nI nt) (nI nc) (nI nw) hd (nI wk) (nI ng) (nI nT) mi (nI nf) (nI nn) mru mth mcl mfa mwa mfz mbl mbk mtr mno mlo mip mto) := hD
  rcases hw1 with ⟨rfl, hw1⟩ | ⟨rfl, hw1⟩
  · obtain ⟨r0, hr0, rfl⟩ := inR_lt (by omega) hw1
    have hcr0 : (nI r0).toNatClampNeg = r0 := nI_clamp (by omega)
    obtain ⟨n, hn12, hnE⟩ := hokL r0 (by omega)
    have hcn : (nI n).toNatClampNeg = n := nI_clamp (by omega)
    refine lv_if_ne (tgt := 10) hx hb dX5_block_5 (by decide) (fun _ => ?_) (fun c2 => absurd c2 (by decide))
    refine lv_iload_n hx hb dX5_block_10 rfl (lv_at hl 2 rfl) ?_
    refine lv_iconst (v := 0) hx hb dX5_block_11 (by decide) ?_
    refine lv_bipush (v := 29) hx hb dX5_block_12 (by decide) ?_
    refine K_none (va_runS (As := [.int b, .int 0, .int 29]) (rest := []) ⟨hx, hb, hml, hown, hts⟩ (c_X5_in l D cI cZ cG _ b 0 29) (va_cwS 3 hts gX5_block_X5_in rfl rfl rfl (by decide +kernel) ⟨(Nat.le_of_ble_eq_true rfl), (Nat.le_of_ble_eq_true rfl)⟩) (K_pre0 hN hK) rfl rfl hl.1 rfl (lv_room (Nat.le_of_ble_eq_true rfl)) dX5_block_14 ⟨Nat.zero_le _, Nat.zero_le _⟩) hP hS hA (fun r3 _ H locs hw3 hP hS => ?_)
    rcases hw3 with ⟨rfl, hw3⟩ | ⟨rfl, hw3⟩
    · skip
      refine lv_if_ne (tgt := 23) hx hb dX5_block_17 (by decide) (fun _ => ?_) (fun c4 => absurd c4 (by decide))
      refine lv_iconst (v := 0) hx hb dX5_block_23 (by decide) ?_
      refine lv_istore_n (lv' := [(3, .int 0), (0, .ref h5), (1, .int (nI r0)), (2, .int b)]) hx hb dX5_block_24 rfl hl (by decide) rfl (fun ls hl => ?_)
      refine loopW1 (fun (k : Nat) H locs ls => (k ≤ nT) ∧ (∀ j, j < k → ¬ (col 7 0 mtr) j = nI r0) ∧ va_P D vwCl (wX5 cI cZ cG h5 a5 (nI nr) (nI nt) (nI nc) (nI nw) hd (nI wk) (nI ng) (nI nT) mi (nI nf) (nI nn) mru mth mcl mfa mwa mfz mbl mbk mtr mno mlo mip mto) H ∧ va_D A (wX5 cI cZ cG h5 a5 (nI nr) (nI nt) (nI nc) (nI nw) hd (nI wk) (nI ng) (nI nT) mi (nI nf) (nI nn) mru mth mcl mfa mwa mfz mbl mbk mtr mno mlo mip mto) ∧ va_S A s.heap H locs ∧ lv_has ls 4 [(3, .int (nI k)), (0, .ref h5), (1, .int (nI r0)), (2, .int b)]) (fun (k : Nat) => nT - k) (fun k H locs ls hI ih25 => ?_) 0 _ _ _ ⟨(by omega), (fun j hj => absurd hj (by omega)), hP, hD, hS, lv_sub hl [0, 1, 2, 3] rfl⟩
      obtain ⟨hk, hz, hP, hD, hS, hl⟩ := hI
      refine lv_iload_n hx hb dX5_block_25 rfl (lv_at hl 0 rfl) ?_
      refine lv_aload_n hx hb dX5_block_26 rfl (lv_at hl 1 rfl) ?_
      refine va_get (D := D) (ci := 5) (v := .int (nI nT)) (C := RX5) (T := TX5) (N := 24) hx hb hts inX5_block hown hK hP 0 rfl rfl 15 (by decide) fl110 (fun _ h9 => h9) rfl dX5_block_27 ?_
      refine lv_icmp_ge (tgt := 55) hx hb dX5_block_30 (by decide) (fun c5 => ?_) (fun c5 => ?_)
      · have c5 : nT ≤ k := (nI_leI (a := nT) (b := k) (by omega) (by omega)).mp c5
        have ek : k = nT := by omega
        rw [ek] at hz
        have hT9 := anyL_f hz
        refine lv_aload_n hx hb dX5_block_55 rfl (lv_at hl 1 rfl) ?_
        refine va_get (D := D) (ci := 5) (v := .ref (a5 6)) (C := RX5) (T := TX5) (N := 24) hx hb hts inX5_block hown hK hP 0 rfl rfl 13 (by decide) fl33 (fun _ h9 => h9) rfl dX5_block_56 ?_
        refine lv_iload_n hx hb dX5_block_59 rfl (lv_at hl 2 rfl) ?_
        refine K_iald hx hb hK hP 7 0 rfl rfl r0 (by omega) (Nat.le_of_ble_eq_true rfl) dX5_block_60 ?_
        refine lv_topi (fun z6 ez6 => ?_)
        obtain rfl : z6 = nI n := ez6.trans hnE
        refine lv_bipush (v := 12) hx hb dX5_block_61 (by decide) ?_
        refine lv_icmp_ne (tgt := 69) hx hb dX5_block_63 (by decide) (fun c7 => ?_) (fun c7 => ?_)
        · have c7 : ¬ n = 12 := fun hq => c7 ((nI_eq (a := n) (b := 12) (by omega) (by omega)).mpr hq)
          have hn11 : n < 12 := by omega
          have c7 : ¬ nI n = 12 := fun h => absurd ((nI_eq (b := 12) (by omega) (by omega)).mp h) (by omega)
          refine lv_iconst (v := 0) hx hb dX5_block_69 (by decide) ?_
          refine lv_istore_n (lv' := [(3, .int 0), (0, .ref h5), (1, .int (nI r0)), (2, .int b)]) hx hb dX5_block_70 rfl hl (by decide) rfl (fun ls hl => ?_)
          refine loopW1 (fun (k : Nat) H locs ls => (k ≤ n) ∧ (∀ j, j < k → ¬ BM mbk r0 j = b) ∧ va_P D vwCl (wX5 cI cZ cG h5 a5 (nI nr) (nI nt) (nI nc) (nI nw) hd (nI wk) (nI ng) (nI nT) mi (nI nf) (nI nn) mru mth mcl mfa mwa mfz mbl mbk mtr mno mlo mip mto) H ∧ va_D A (wX5 cI cZ cG h5 a5 (nI nr) (nI nt) (nI nc) (nI nw) hd (nI wk) (nI ng) (nI nT) mi (nI nf) (nI nn) mru mth mcl mfa mwa mfz mbl mbk mtr mno mlo mip mto) ∧ va_S A s.heap H locs ∧ lv_has ls 4 [(3, .int (nI k)), (0, .ref h5), (1, .int (nI r0)), (2, .int b)]) (fun (k : Nat) => n - k) (fun k H locs ls hI ih71 => ?_) 0 _ _ _ ⟨(by omega), (fun j hj => absurd hj (by omega)), hP, hD, hS, lv_sub hl [0, 1, 2, 3] rfl⟩
          obtain ⟨hk, hz, hP, hD, hS, hl⟩ := hI
          refine lv_iload_n hx hb dX5_block_71 rfl (lv_at hl 0 rfl) ?_
          refine lv_aload_n hx hb dX5_block_72 rfl (lv_at hl 1 rfl) ?_
          refine va_get (D := D) (ci := 5) (v := .ref (a5 6)) (C := RX5) (T := TX5) (N := 24) hx hb hts inX5_block hown hK hP 0 rfl rfl 13 (by decide) fl33 (fun _ h9 => h9) rfl dX5_block_73 ?_
          refine lv_iload_n hx hb dX5_block_76 rfl (lv_at hl 2 rfl) ?_
          refine K_iald hx hb hK hP 7 0 rfl rfl r0 (by omega) (Nat.le_of_ble_eq_true rfl) dX5_block_77 ?_
          refine lv_topi (fun z8 ez8 => ?_)
          obtain rfl : z8 = nI n := ez8.trans hnE
          refine lv_icmp_ge (tgt := 105) hx hb dX5_block_78 (by decide) (fun c9 => ?_) (fun c9 => ?_)
          · have c9 : n ≤ k := (nI_leI (a := n) (b := k) (by omega) (by omega)).mp c9
            have ek2 : k = n := by omega
            rw [ek2] at hz
            have hB9 := anyL_f hz
            refine lv_aload_n hx hb dX5_block_105 rfl (lv_at hl 1 rfl) ?_
            refine va_get (D := D) (ci := 5) (v := .ref (a5 7)) (C := RX5) (T := TX5) (N := 24) hx hb hts inX5_block hown hK hP 0 rfl rfl 14 (by decide) fl36 (fun _ h9 => h9) rfl dX5_block_106 ?_
            refine lv_bipush (v := 12) hx hb dX5_block_109 (by decide) ?_
            refine lv_iload_n hx hb dX5_block_111 rfl (lv_at hl 2 rfl) ?_
            refine lv_imul hx hb dX5_block_112 ?_
            refine lv_topi (fun z10 ez10 => ?_)
            obtain rfl : z10 = nI (12 * r0) := ez10.trans (pk_mul 12 r0)
            refine lv_aload_n hx hb dX5_block_113 rfl (lv_at hl 1 rfl) ?_
            refine va_get (D := D) (ci := 5) (v := .ref (a5 6)) (C := RX5) (T := TX5) (N := 24) hx hb hts inX5_block hown hK hP 0 rfl rfl 13 (by decide) fl33 (fun _ h9 => h9) rfl dX5_block_114 ?_
            refine lv_iload_n hx hb dX5_block_117 rfl (lv_at hl 2 rfl) ?_
            refine K_iald hx hb hK hP 7 0 rfl rfl r0 (by omega) (Nat.le_of_ble_eq_true rfl) dX5_block_118 ?_
            refine lv_topi (fun z11 ez11 => ?_)
            obtain rfl : z11 = nI n := ez11.trans hnE
            refine lv_iadd hx hb dX5_block_119 ?_
            refine lv_topi (fun z12 ez12 => ?_)
            obtain rfl : z12 = nI (12 * r0 + n) := ez12.trans ((nI_add (12 * r0) n).trans (congrArg nI (by omega)))
            refine lv_iload_n hx hb dX5_block_120 rfl (lv_at hl 3 rfl) ?_
            refine K_iast hx hb hK hP hD hS 8 0 rfl rfl (12 * r0 + n) (by omega) (Nat.le_of_ble_eq_true rfl) dX5_block_121 (fun H locs hP hD hS => ?_)
            have hP : va_P D vwCl (wX5 cI cZ cG h5 a5 (nI nr) (nI nt) (nI nc) (nI nw) hd (nI wk) (nI ng) (nI nT) mi (nI nf) (nI nn) mru mth mcl mfa mwa mfz mbl (upd mbk (12 * r0 + n) b) mtr mno mlo mip mto) H := hP
            have hD : va_D A (wX5 cI cZ cG h5 a5 (nI nr) (nI nt) (nI nc) (nI nw) hd (nI wk) (nI ng) (nI nT) mi (nI nf) (nI nn) mru mth mcl mfa mwa mfz mbl (upd mbk (12 * r0 + n) b) mtr mno mlo mip mto) := hD
            refine lv_aload_n hx hb dX5_block_122 rfl (lv_at hl 1 rfl) ?_
            refine va_get (D := D) (ci := 5) (v := .ref (a5 6)) (C := RX5) (T := TX5) (N := 24) hx hb hts inX5_block hown hK hP 0 rfl rfl 13 (by decide) fl33 (fun _ h9 => h9) rfl dX5_block_123 ?_
            refine lv_iload_n hx hb dX5_block_126 rfl (lv_at hl 2 rfl) ?_
            refine lv_dup2_11 hx hb dX5_block_127 rfl rfl ?_
            refine K_iald hx hb hK hP 7 0 rfl rfl r0 (by omega) (Nat.le_of_ble_eq_true rfl) dX5_block_128 ?_
            refine lv_topi (fun z13 ez13 => ?_)
            obtain rfl : z13 = nI n := ez13.trans hnE
            refine lv_iconst (v := 1) hx hb dX5_block_129 (by decide) ?_
            refine lv_iadd hx hb dX5_block_130 ?_
            refine lv_topi (fun z14 ez14 => ?_)
            obtain rfl : z14 = nI (n + 1) := ez14.trans (nI_add n 1)
            refine K_iast hx hb hK hP hD hS 7 0 rfl rfl r0 (by omega) (Nat.le_of_ble_eq_true rfl) dX5_block_131 (fun H locs hP hD hS => ?_)
            have hP : va_P D vwCl (wX5 cI cZ cG h5 a5 (nI nr) (nI nt) (nI nc) (nI nw) hd (nI wk) (nI ng) (nI nT) mi (nI nf) (nI nn) mru mth mcl mfa mwa mfz (upd mbl r0 (nI (n + 1))) (upd mbk (12 * r0 + n) b) mtr mno mlo mip mto) H := hP
            have hD : va_D A (wX5 cI cZ cG h5 a5 (nI nr) (nI nt) (nI nc) (nI nw) hd (nI wk) (nI ng) (nI nT) mi (nI nf) (nI nn) mru mth mcl mfa mwa mfz (upd mbl r0 (nI (n + 1))) (upd mbk (12 * r0 + n) b) mtr mno mlo mip mto) := hD
            refine lv_aload_n hx hb dX5_block_132 rfl (lv_at hl 1 rfl) ?_
            refine va_get (D := D) (ci := 5) (v := .ref (a5 6)) (C := RX5) (T := TX5) (N := 24) hx hb hts inX5_block hown hK hP 0 rfl rfl 13 (by decide) fl33 (fun _ h9 => h9) rfl dX5_block_133 ?_
            refine lv_iload_n hx hb dX5_block_136 rfl (lv_at hl 2 rfl) ?_
            refine K_iald hx hb hK hP 7 0 rfl rfl r0 (by omega) (Nat.le_of_ble_eq_true rfl) dX5_block_137 ?_
            refine lv_topi (fun z15 ez15 => ?_)
            obtain rfl : z15 = nI (n + 1) := ez15.trans pk_us
            exact K_iret (wf := (fun (u : (Nat → Int32) × (Nat → Int32)) => wX5 cI cZ cG h5 a5 (nI nr) (nI nt) (nI nc) (nI nw) hd (nI wk) (nI ng) (nI nT) mi (nI nf) (nI nn) mru mth mcl mfa mwa mfz u.1 u.2 mtr mno mlo mip mto)) (upd mbl r0 (nI (n + 1)), upd mbk (12 * r0 + n) b) hx hb hr hlocks hP hK hD hS dX5_block_138 (by simp [rBlock, okBlock, nI_1, hw1, hcr0, hnE, hcn, hw3, hT9, c7, hB9])
          · have c9 : ¬ n ≤ k := fun hq => c9 ((nI_leI (a := n) (b := k) (by omega) (by omega)).mpr hq)
            have hk8 : k < n := by omega
            refine lv_aload_n hx hb dX5_block_81 rfl (lv_at hl 1 rfl) ?_
            refine va_get (D := D) (ci := 5) (v := .ref (a5 7)) (C := RX5) (T := TX5) (N := 24) hx hb hts inX5_block hown hK hP 0 rfl rfl 14 (by decide) fl36 (fun _ h9 => h9) rfl dX5_block_82 ?_
            refine lv_bipush (v := 12) hx hb dX5_block_85 (by decide) ?_
            refine lv_iload_n hx hb dX5_block_87 rfl (lv_at hl 2 rfl) ?_
            refine lv_imul hx hb dX5_block_88 ?_
            refine lv_topi (fun z16 ez16 => ?_)
            obtain rfl : z16 = nI (12 * r0) := ez16.trans (pk_mul 12 r0)
            refine lv_iload_n hx hb dX5_block_89 rfl (lv_at hl 0 rfl) ?_
            refine lv_iadd hx hb dX5_block_90 ?_
            refine lv_topi (fun z17 ez17 => ?_)
            obtain rfl : z17 = nI (12 * r0 + k) := ez17.trans ((nI_add (12 * r0) k).trans (congrArg nI (by omega)))
            refine K_iald hx hb hK hP 8 0 rfl rfl (12 * r0 + k) (by omega) (Nat.le_of_ble_eq_true rfl) dX5_block_91 ?_
            refine lv_iload_n hx hb dX5_block_92 rfl (lv_at hl 3 rfl) ?_
            refine lv_icmp_ne (tgt := 99) hx hb dX5_block_93 (by decide) (fun c18 => ?_) (fun c18 => ?_)
            · refine lv_iinc (v := nI (k + 1)) (lv' := [(3, .int (nI (k + 1))), (0, .ref h5), (1, .int (nI r0)), (2, .int b)]) hx hb dX5_block_99 hl (k := 0) rfl (inc1 _) (by decide) rfl (fun ls hl => ?_)
              refine lv_goto (tgt := 71) hx hb dX5_block_102 (by decide) ?_
              exact ih71 (k + 1) _ _ _ ⟨(by omega), (fun j hj => by
                rcases Nat.lt_or_ge j k with q9 | q9
                · exact hz j q9
                · rw [show j = k by omega]; exact c18), hP, hD, hS, lv_sub hl [0, 1, 2, 3] rfl⟩ (by omega)
            · have hB9 := anyL_t (f := BM mbk r0) hk8 c18
              refine lv_bipush (v := (-5)) hx hb dX5_block_96 (by decide) ?_
              exact K_iret (wf := (fun (u : (Nat → Int32) × (Nat → Int32)) => wX5 cI cZ cG h5 a5 (nI nr) (nI nt) (nI nc) (nI nw) hd (nI wk) (nI ng) (nI nT) mi (nI nf) (nI nn) mru mth mcl mfa mwa mfz u.1 u.2 mtr mno mlo mip mto)) (mbl, mbk) hx hb hr hlocks hP hK hD hS dX5_block_98 (by simp [rBlock, okBlock, nI_1, hw1, hcr0, hnE, hcn, hw3, hT9, c7, hB9])
        · have c7 : n = 12 := (nI_eq (a := n) (b := 12) (by omega) (by omega)).mp c7
          have c7 : nI n = 12 := by rw [show n = 12 by omega]; rfl
          refine lv_bipush (v := (-4)) hx hb dX5_block_66 (by decide) ?_
          exact K_iret (wf := (fun (u : (Nat → Int32) × (Nat → Int32)) => wX5 cI cZ cG h5 a5 (nI nr) (nI nt) (nI nc) (nI nw) hd (nI wk) (nI ng) (nI nT) mi (nI nf) (nI nn) mru mth mcl mfa mwa mfz u.1 u.2 mtr mno mlo mip mto)) (mbl, mbk) hx hb hr hlocks hP hK hD hS dX5_block_68 (by simp [rBlock, okBlock, nI_1, hw1, hcr0, hnE, hcn, hw3, hT9, eq_true c7])
      · have c5 : ¬ nT ≤ k := fun hq => c5 ((nI_leI (a := nT) (b := k) (by omega) (by omega)).mpr hq)
        have hk9 : k < nT := by omega
        refine lv_aload_n hx hb dX5_block_33 rfl (lv_at hl 1 rfl) ?_
        refine va_get (D := D) (ci := 5) (v := .ref (a5 8)) (C := RX5) (T := TX5) (N := 24) hx hb hts inX5_block hown hK hP 0 rfl rfl 16 (by decide) fl39 (fun _ h9 => h9) rfl dX5_block_34 ?_
        refine lv_bipush (v := 7) hx hb dX5_block_37 (by decide) ?_
        refine lv_iload_n hx hb dX5_block_39 rfl (lv_at hl 0 rfl) ?_
        refine lv_imul hx hb dX5_block_40 ?_
        refine lv_topi (fun z19 ez19 => ?_)
        obtain rfl : z19 = nI (7 * k) := ez19.trans (pk_mul 7 k)
        refine K_iald hx hb hK hP 9 0 rfl rfl (7 * k) (by omega) (Nat.le_of_ble_eq_true rfl) dX5_block_41 ?_
        refine lv_iload_n hx hb dX5_block_42 rfl (lv_at hl 2 rfl) ?_
        refine lv_icmp_ne (tgt := 49) hx hb dX5_block_43 (by decide) (fun c20 => ?_) (fun c20 => ?_)
        · refine lv_iinc (v := nI (k + 1)) (lv' := [(3, .int (nI (k + 1))), (0, .ref h5), (1, .int (nI r0)), (2, .int b)]) hx hb dX5_block_49 hl (k := 0) rfl (inc1 _) (by decide) rfl (fun ls hl => ?_)
          refine lv_goto (tgt := 25) hx hb dX5_block_52 (by decide) ?_
          exact ih25 (k + 1) _ _ _ ⟨(by omega), (fun j hj => by
            rcases Nat.lt_or_ge j k with q9 | q9
            · exact hz j q9
            · rw [show j = k by omega]; exact c20), hP, hD, hS, lv_sub hl [0, 1, 2, 3] rfl⟩ (by omega)
        · have hT9 := anyL_t (f := (col 7 0 mtr)) hk9 c20
          refine lv_bipush (v := (-3)) hx hb dX5_block_46 (by decide) ?_
          exact K_iret (wf := (fun (u : (Nat → Int32) × (Nat → Int32)) => wX5 cI cZ cG h5 a5 (nI nr) (nI nt) (nI nc) (nI nw) hd (nI wk) (nI ng) (nI nT) mi (nI nf) (nI nn) mru mth mcl mfa mwa mfz u.1 u.2 mtr mno mlo mip mto)) (mbl, mbk) hx hb hr hlocks hP hK hD hS dX5_block_48 (by simp [rBlock, okBlock, nI_1, hw1, hcr0, hnE, hcn, hw3, hT9])
    · skip
      refine lv_if_ne (tgt := 23) hx hb dX5_block_17 (by decide) (fun c21 => absurd c21 (by decide)) (fun _ => ?_)
      refine lv_bipush (v := (-2)) hx hb dX5_block_20 (by decide) ?_
      exact K_iret (wf := (fun (u : (Nat → Int32) × (Nat → Int32)) => wX5 cI cZ cG h5 a5 (nI nr) (nI nt) (nI nc) (nI nw) hd (nI wk) (nI ng) (nI nT) mi (nI nf) (nI nn) mru mth mcl mfa mwa mfz u.1 u.2 mtr mno mlo mip mto)) (mbl, mbk) hx hb hr hlocks hP hK hD hS dX5_block_22 (by simp [rBlock, okBlock, nI_1, hw1, hcr0, hnE, hcn, hw3])
  · skip
    refine lv_if_ne (tgt := 10) hx hb dX5_block_5 (by decide) (fun c22 => absurd c22 (by decide)) (fun _ => ?_)
    refine lv_iconst (v := (-1)) hx hb dX5_block_8 (by decide) ?_
    exact K_iret (wf := (fun (u : (Nat → Int32) × (Nat → Int32)) => wX5 cI cZ cG h5 a5 (nI nr) (nI nt) (nI nc) (nI nw) hd (nI wk) (nI ng) (nI nT) mi (nI nf) (nI nn) mru mth mcl mfa mwa mfz u.1 u.2 mtr mno mlo mip mto)) (mbl, mbk) hx hb hr hlocks hP hK hD hS dX5_block_9 (by simp [rBlock, okBlock, nI_1, hw1])
theorem inX5_train : ∀ w ∈ wsX50, w ∈ wsX5_train := by decide +kernel
set_option maxHeartbeats 8000000 in
set_option maxRecDepth 100000 in
/-- train -/
theorem c_X5_train (l : Launch) (D : va_G) (cI cZ cG : ClassId) (h5 : Nat) (a5 : Nat → Nat) (sz : Nat) (nr : Nat) (nt : Nat) (nc : Nat) (nw : Nat) (hd : Int32) (wk : Nat) (ng : Nat) (nT : Nat) (mi : Int32) (nf : Nat) (nn : Nat) (mru : Nat → Int32) (mth : Nat → Int32) (mcl : Nat → Int32) (mfa : Nat → Int32) (mwa : Nat → Int32) (mfz : Nat → Int32) (mbl : Nat → Int32) (mbk : Nat → Int32) (mtr : Nat → Int32) (mno : Nat → Int32) (mlo : Nat → Int32) (mip : Nat → Int32) (mto : Nat → Int32) (x : Int32) (p0 : Int32) (m0 : Int32) (hnr : nr ≤ 6) (hnt : nt ≤ 20) (hnc : nc ≤ 60) (hnw : nw ≤ 24) (hwk : wk ≤ 200) (hng : ng ≤ 3) (hnT : nT ≤ 4) (hnf : nf ≤ 12) (hnn : nn ≤ 60) (hokL : okL mbl) (hokT : okT ng nT mbl (col 7 0 mtr) (col 7 1 mtr)) : Met l yX5_train wsX5_train ({ frames := 3, cells := 0, slots := 0, locals := 65 } : Room) (va_Pc [.ref h5, .int x, .int p0, .int m0] (PB D (tyL cI cZ cG) (wX5 cI cZ cG h5 a5 (nI nr) (nI nt) (nI nc) (nI nw) hd (nI wk) (nI ng) (nI nT) mi (nI nf) (nI nn) mru mth mcl mfa mwa mfz mbl mbk mtr mno mlo mip mto) sz)) (va_Qi (fun (r : Int32) (u : Nat × (Nat → Int32)) => r = rTrain ng nT mbl (col 7 0 mtr) (col 7 1 mtr) (BM mbk) x p0 m0 ∧ u = if okTrain ng nT mbl (col 7 0 mtr) (col 7 1 mtr) (BM mbk) x p0 m0 = true then (nT + 1, zF (upd (upd (upd mtr (7 * nT) x) (7 * nT + 1) p0) (7 * nT + 2) m0) (7 * nT) 4) else (nT, mtr)) (fun u => QB D (tyL cI cZ cG) (va_A (wX5 cI cZ cG h5 a5 (nI nr) (nI nt) (nI nc) (nI nw) hd (nI wk) (nI ng) (nI nT) mi (nI nf) (nI nn) mru mth mcl mfa mwa mfz mbl mbk mtr mno mlo mip mto) sz) ((fun (u : Nat × (Nat → Int32)) => wX5 cI cZ cG h5 a5 (nI nr) (nI nt) (nI nc) (nI nw) hd (nI wk) (nI ng) (nI u.1) mi (nI nf) (nI nn) mru mth mcl mfa mwa mfz mbl mbk u.2 mno mlo mip mto) u)) (va_A (wX5 cI cZ cG h5 a5 (nI nr) (nI nt) (nI nc) (nI nw) hd (nI wk) (nI ng) (nI nT) mi (nI nf) (nI nn) mru mth mcl mfa mwa mfz mbl mbk mtr mno mlo mip mto) sz)) 0 0 (va_A (wX5 cI cZ cG h5 a5 (nI nr) (nI nt) (nI nc) (nI nw) hd (nI wk) (nI ng) (nI nT) mi (nI nf) (nI nn) mru mth mcl mfa mwa mfz mbl mbk mtr mno mlo mip mto) sz) := by
  refine K_start (cc := cX5_train) (maxL := 6) (ret := some .int) (Qc := fun A => va_Qi (fun (r : Int32) (u : Nat × (Nat → Int32)) => r = rTrain ng nT mbl (col 7 0 mtr) (col 7 1 mtr) (BM mbk) x p0 m0 ∧ u = if okTrain ng nT mbl (col 7 0 mtr) (col 7 1 mtr) (BM mbk) x p0 m0 = true then (nT + 1, zF (upd (upd (upd mtr (7 * nT) x) (7 * nT + 1) p0) (7 * nT + 2) m0) (7 * nT) 4) else (nT, mtr)) (fun u => QB D (tyL cI cZ cG) A ((fun (u : Nat × (Nat → Int32)) => wX5 cI cZ cG h5 a5 (nI nr) (nI nt) (nI nc) (nI nw) hd (nI wk) (nI ng) (nI u.1) mi (nI nf) (nI nn) mru mth mcl mfa mwa mfz mbl mbk u.2 mno mlo mip mto) u)) A) (by decide) rfl (Nat.le_of_ble_eq_true rfl) ?_
  intro p e s m below meth c ls A hx hb hml hr hts hown hlocks hin hN hP hK hD hA hS hl hsz
  have hl : lv_has ls 6 [(0, .ref h5), (1, .int x), (2, .int p0), (3, .int m0)] := hl
  have fl33 := hts (.fieldLink RX5 33 "ModelTownModel" "blocks" "[I") (by decide +kernel)
  have fl110 := hts (.fieldLink RX5 110 "ModelTownModel" "trains" "I") (by decide +kernel)
  have fl39 := hts (.fieldLink RX5 39 "ModelTownModel" "train" "[I") (by decide +kernel)
  refine lv_aload_n hx hb dX5_train_0 rfl (lv_at hl 0 rfl) ?_
  refine lv_iload_n hx hb dX5_train_1 rfl (lv_at hl 1 rfl) ?_
  refine K_same (va_runV (As := [.int x]) (rest := []) ⟨hx, hb, hml, hown, hts⟩ (c_X5_isRing l D cI cZ cG h5 a5 _ nr nt nc nw hd wk ng nT mi nf nn mru mth mcl mfa mwa mfz mbl mbk mtr mno mlo mip mto x hnr hnt hnc hnw hwk hng hnT hnf hnn) (cwV 1 hts gX5_train_X5_isRing rfl rfl rfl (by decide +kernel) ⟨(Nat.le_of_ble_eq_true rfl), (Nat.le_of_ble_eq_true rfl)⟩) ⟨PB_blind, va_recv hK hP (ci := 5) (q0 := 0) rfl rfl, (K_preS hN hK hP hD).2⟩ rfl rfl hl.1 rfl (lv_room (Nat.le_of_ble_eq_true rfl)) dX5_train_2 ⟨Nat.zero_le _, Nat.zero_le _⟩) hD hS hA (fun r1 u H locs hw1 hP hD hS => ?_)
  have hP : va_P D vwCl (wX5 cI cZ cG h5 a5 (nI nr) (nI nt) (nI nc) (nI nw) hd (nI wk) (nI ng) (nI nT) mi (nI nf) (nI nn) mru mth mcl mfa mwa mfz mbl mbk mtr mno mlo mip mto) H := hP
  have hD : va_D A (wX5 cI cZ cG h5 a5 (nI nr) (nI nt) (nI nc) (nI nw) hd (nI wk) (nI ng) (nI nT) mi (nI nf) (nI nn) mru mth mcl mfa mwa mfz mbl mbk mtr mno mlo mip mto) := hD
  rcases hw1 with ⟨rfl, hw1⟩ | ⟨rfl, hw1⟩
  · obtain ⟨r0, hr0, rfl⟩ := inR_lt (by omega) hw1
    have hcr0 : (nI r0).toNatClampNeg = r0 := nI_clamp (by omega)
    obtain ⟨n, hn12, hnE⟩ := hokL r0 (by omega)
    have hcn : (nI n).toNatClampNeg = n := nI_clamp (by omega)
    refine lv_if_ne (tgt := 10) hx hb dX5_train_5 (by decide) (fun _ => ?_) (fun c2 => absurd c2 (by decide))
    refine lv_iload_n hx hb dX5_train_10 rfl (lv_at hl 2 rfl) ?_
    refine lv_iconst (v := 0) hx hb dX5_train_11 (by decide) ?_
    refine lv_bipush (v := 11) hx hb dX5_train_12 (by decide) ?_
    refine K_none (va_runS (As := [.int p0, .int 0, .int 11]) (rest := []) ⟨hx, hb, hml, hown, hts⟩ (c_X5_in l D cI cZ cG _ p0 0 11) (va_cwS 3 hts gX5_train_X5_in rfl rfl rfl (by decide +kernel) ⟨(Nat.le_of_ble_eq_true rfl), (Nat.le_of_ble_eq_true rfl)⟩) (K_pre0 hN hK) rfl rfl hl.1 rfl (lv_room (Nat.le_of_ble_eq_true rfl)) dX5_train_14 ⟨Nat.zero_le _, Nat.zero_le _⟩) hP hS hA (fun r3 _ H locs hw3 hP hS => ?_)
    rcases hw3 with ⟨rfl, hw3⟩ | ⟨rfl, hw3⟩
    · obtain ⟨q, hq1, hq2, rfl⟩ := inR_nat1 (a := 0) (b := 11) hw3 (by decide) (by decide)
      have hcq : (nI q).toNatClampNeg = q := nI_clamp (by omega)
      refine lv_if_eq (tgt := 50) hx hb dX5_train_17 (by decide) (fun c4 => absurd c4 (by decide)) (fun _ => ?_)
      refine lv_aload_n hx hb dX5_train_20 rfl (lv_at hl 0 rfl) ?_
      refine va_get (D := D) (ci := 5) (v := .ref (a5 6)) (C := RX5) (T := TX5) (N := 24) hx hb hts inX5_train hown hK hP 0 rfl rfl 13 (by decide) fl33 (fun _ h9 => h9) rfl dX5_train_21 ?_
      refine lv_iload_n hx hb dX5_train_24 rfl (lv_at hl 1 rfl) ?_
      refine K_iald hx hb hK hP 7 0 rfl rfl r0 (by omega) (Nat.le_of_ble_eq_true rfl) dX5_train_25 ?_
      refine lv_topi (fun z5 ez5 => ?_)
      obtain rfl : z5 = nI n := ez5.trans hnE
      refine lv_iconst (v := 1) hx hb dX5_train_26 (by decide) ?_
      refine lv_icmp_le (tgt := 40) hx hb dX5_train_27 (by decide) (fun c6 => ?_) (fun c6 => ?_)
      · have c6 : n ≤ 1 := (nI_leI (a := n) (b := 1) (by omega) (by omega)).mp c6
        refine lv_iload_n hx hb dX5_train_40 rfl (lv_at hl 3 rfl) ?_
        refine lv_iconst (v := 1) hx hb dX5_train_41 (by decide) ?_
        refine lv_bipush (v := 9) hx hb dX5_train_42 (by decide) ?_
        refine K_none (va_runS (As := [.int m0, .int 1, .int 9]) (rest := []) ⟨hx, hb, hml, hown, hts⟩ (c_X5_in l D cI cZ cG _ m0 1 9) (va_cwS 3 hts gX5_train_X5_in rfl rfl rfl (by decide +kernel) ⟨(Nat.le_of_ble_eq_true rfl), (Nat.le_of_ble_eq_true rfl)⟩) (K_pre0 hN hK) rfl rfl hl.1 rfl (lv_room (Nat.le_of_ble_eq_true rfl)) dX5_train_44 ⟨Nat.zero_le _, Nat.zero_le _⟩) hP hS hA (fun r7 _ H locs hw7 hP hS => ?_)
        rcases hw7 with ⟨rfl, hw7⟩ | ⟨rfl, hw7⟩
        · have hP9 := okPl_t (q := q) (n := n) (by omega) hn12 (by omega) hw7
          refine lv_if_ne (tgt := 53) hx hb dX5_train_47 (by decide) (fun _ => ?_) (fun c8 => absurd c8 (by decide))
          refine lv_aload_n hx hb dX5_train_53 rfl (lv_at hl 0 rfl) ?_
          refine va_get (D := D) (ci := 5) (v := .ref (a5 6)) (C := RX5) (T := TX5) (N := 24) hx hb hts inX5_train hown hK hP 0 rfl rfl 13 (by decide) fl33 (fun _ h9 => h9) rfl dX5_train_54 ?_
          refine lv_iload_n hx hb dX5_train_57 rfl (lv_at hl 1 rfl) ?_
          refine K_iald hx hb hK hP 7 0 rfl rfl r0 (by omega) (Nat.le_of_ble_eq_true rfl) dX5_train_58 ?_
          refine lv_topi (fun z9 ez9 => ?_)
          obtain rfl : z9 = nI n := ez9.trans hnE
          refine lv_iconst (v := 2) hx hb dX5_train_59 (by decide) ?_
          refine lv_icmp_ge (tgt := 66) hx hb dX5_train_60 (by decide) (fun c10 => ?_) (fun c10 => ?_)
          · have c10 : 2 ≤ n := (nI_leI (a := 2) (b := n) (by omega) (by omega)).mp c10
            omega
          · have c10 : ¬ 2 ≤ n := fun hq => c10 ((nI_leI (a := 2) (b := n) (by omega) (by omega)).mpr hq)
            refine lv_bipush (v := (-3)) hx hb dX5_train_63 (by decide) ?_
            exact K_iret (wf := (fun (u : Nat × (Nat → Int32)) => wX5 cI cZ cG h5 a5 (nI nr) (nI nt) (nI nc) (nI nw) hd (nI wk) (nI ng) (nI u.1) mi (nI nf) (nI nn) mru mth mcl mfa mwa mfz mbl mbk u.2 mno mlo mip mto)) (nT, mtr) hx hb hr hlocks hP hK hD hS dX5_train_65 (by simp [rTrain, okTrain, hw1, hcr0, hnE, hcn, hw3, hcq, hP9, c10])
        · have hP9 := okPl_f3 (n := n) (p := nI q) hw7
          refine lv_if_ne (tgt := 53) hx hb dX5_train_47 (by decide) (fun c11 => absurd c11 (by decide)) (fun _ => ?_)
          refine lv_bipush (v := (-2)) hx hb dX5_train_50 (by decide) ?_
          exact K_iret (wf := (fun (u : Nat × (Nat → Int32)) => wX5 cI cZ cG h5 a5 (nI nr) (nI nt) (nI nc) (nI nw) hd (nI wk) (nI ng) (nI u.1) mi (nI nf) (nI nn) mru mth mcl mfa mwa mfz mbl mbk u.2 mno mlo mip mto)) (nT, mtr) hx hb hr hlocks hP hK hD hS dX5_train_52 (by simp [rTrain, okTrain, hw1, hcr0, hnE, hcn, hw3, hcq, hP9])
      · have c6 : ¬ n ≤ 1 := fun hq => c6 ((nI_leI (a := n) (b := 1) (by omega) (by omega)).mpr hq)
        refine lv_iload_n hx hb dX5_train_30 rfl (lv_at hl 2 rfl) ?_
        refine lv_aload_n hx hb dX5_train_31 rfl (lv_at hl 0 rfl) ?_
        refine va_get (D := D) (ci := 5) (v := .ref (a5 6)) (C := RX5) (T := TX5) (N := 24) hx hb hts inX5_train hown hK hP 0 rfl rfl 13 (by decide) fl33 (fun _ h9 => h9) rfl dX5_train_32 ?_
        refine lv_iload_n hx hb dX5_train_35 rfl (lv_at hl 1 rfl) ?_
        refine K_iald hx hb hK hP 7 0 rfl rfl r0 (by omega) (Nat.le_of_ble_eq_true rfl) dX5_train_36 ?_
        refine lv_topi (fun z12 ez12 => ?_)
        obtain rfl : z12 = nI n := ez12.trans hnE
        refine lv_icmp_ge (tgt := 50) hx hb dX5_train_37 (by decide) (fun c13 => ?_) (fun c13 => ?_)
        · have c13 : n ≤ q := (nI_leI (a := n) (b := q) (by omega) (by omega)).mp c13
          have hP9 := okPl_f2 (m := m0) (by omega) hn12 c13 (by omega)
          refine lv_bipush (v := (-2)) hx hb dX5_train_50 (by decide) ?_
          exact K_iret (wf := (fun (u : Nat × (Nat → Int32)) => wX5 cI cZ cG h5 a5 (nI nr) (nI nt) (nI nc) (nI nw) hd (nI wk) (nI ng) (nI u.1) mi (nI nf) (nI nn) mru mth mcl mfa mwa mfz mbl mbk u.2 mno mlo mip mto)) (nT, mtr) hx hb hr hlocks hP hK hD hS dX5_train_52 (by simp [rTrain, okTrain, hw1, hcr0, hnE, hcn, hw3, hcq, hP9])
        · have c13 : ¬ n ≤ q := fun hq => c13 ((nI_leI (a := n) (b := q) (by omega) (by omega)).mpr hq)
          have hqn : q < n := by omega
          refine lv_iload_n hx hb dX5_train_40 rfl (lv_at hl 3 rfl) ?_
          refine lv_iconst (v := 1) hx hb dX5_train_41 (by decide) ?_
          refine lv_bipush (v := 9) hx hb dX5_train_42 (by decide) ?_
          refine K_none (va_runS (As := [.int m0, .int 1, .int 9]) (rest := []) ⟨hx, hb, hml, hown, hts⟩ (c_X5_in l D cI cZ cG _ m0 1 9) (va_cwS 3 hts gX5_train_X5_in rfl rfl rfl (by decide +kernel) ⟨(Nat.le_of_ble_eq_true rfl), (Nat.le_of_ble_eq_true rfl)⟩) (K_pre0 hN hK) rfl rfl hl.1 rfl (lv_room (Nat.le_of_ble_eq_true rfl)) dX5_train_44 ⟨Nat.zero_le _, Nat.zero_le _⟩) hP hS hA (fun r14 _ H locs hw14 hP hS => ?_)
          rcases hw14 with ⟨rfl, hw14⟩ | ⟨rfl, hw14⟩
          · have hP9 := okPl_t (q := q) (n := n) (by omega) hn12 (by omega) hw14
            refine lv_if_ne (tgt := 53) hx hb dX5_train_47 (by decide) (fun _ => ?_) (fun c15 => absurd c15 (by decide))
            refine lv_aload_n hx hb dX5_train_53 rfl (lv_at hl 0 rfl) ?_
            refine va_get (D := D) (ci := 5) (v := .ref (a5 6)) (C := RX5) (T := TX5) (N := 24) hx hb hts inX5_train hown hK hP 0 rfl rfl 13 (by decide) fl33 (fun _ h9 => h9) rfl dX5_train_54 ?_
            refine lv_iload_n hx hb dX5_train_57 rfl (lv_at hl 1 rfl) ?_
            refine K_iald hx hb hK hP 7 0 rfl rfl r0 (by omega) (Nat.le_of_ble_eq_true rfl) dX5_train_58 ?_
            refine lv_topi (fun z16 ez16 => ?_)
            obtain rfl : z16 = nI n := ez16.trans hnE
            refine lv_iconst (v := 2) hx hb dX5_train_59 (by decide) ?_
            refine lv_icmp_ge (tgt := 66) hx hb dX5_train_60 (by decide) (fun c17 => ?_) (fun c17 => ?_)
            · have c17 : 2 ≤ n := (nI_leI (a := 2) (b := n) (by omega) (by omega)).mp c17
              refine lv_aload_n hx hb dX5_train_66 rfl (lv_at hl 0 rfl) ?_
              refine va_get (D := D) (ci := 5) (v := .int (nI nT)) (C := RX5) (T := TX5) (N := 24) hx hb hts inX5_train hown hK hP 0 rfl rfl 15 (by decide) fl110 (fun _ h9 => h9) rfl dX5_train_67 ?_
              refine lv_iconst (v := 4) hx hb dX5_train_70 (by decide) ?_
              refine lv_icmp_ne (tgt := 77) hx hb dX5_train_71 (by decide) (fun c18 => ?_) (fun c18 => ?_)
              · have c18 : ¬ nT = 4 := fun hq => c18 ((nI_eq (a := nT) (b := 4) (by omega) (by omega)).mpr hq)
                refine lv_aload_n hx hb dX5_train_77 rfl (lv_at hl 0 rfl) ?_
                refine lv_aload_n hx hb dX5_train_78 rfl (lv_at hl 0 rfl) ?_
                refine lv_iload_n hx hb dX5_train_79 rfl (lv_at hl 1 rfl) ?_
                refine lv_iload_n hx hb dX5_train_80 rfl (lv_at hl 2 rfl) ?_
                refine K_same (va_runV (As := [.int (nI r0), .int (nI q)]) (rest := [.ref h5]) ⟨hx, hb, hml, hown, hts⟩ (c_X5_blockAt l D cI cZ cG h5 a5 _ nr nt nc nw hd wk ng nT mi nf nn mru mth mcl mfa mwa mfz mbl mbk mtr mno mlo mip mto r0 q n hnr hnt hnc hnw hwk hng hnT hnf hnn (by omega) (by omega) (by omega) hnE (by omega)) (cwV 2 hts gX5_train_X5_blockAt rfl rfl rfl (by decide +kernel) ⟨(Nat.le_of_ble_eq_true rfl), (Nat.le_of_ble_eq_true rfl)⟩) ⟨PB_blind, va_recv hK hP (ci := 5) (q0 := 0) rfl rfl, (K_preS hN hK hP hD).2⟩ rfl rfl hl.1 rfl (lv_room (Nat.le_of_ble_eq_true rfl)) dX5_train_81 ⟨Nat.zero_le _, Nat.zero_le _⟩) hD hS hA (fun r19 u H locs hw19 hP hD hS => ?_)
                have hP : va_P D vwCl (wX5 cI cZ cG h5 a5 (nI nr) (nI nt) (nI nc) (nI nw) hd (nI wk) (nI ng) (nI nT) mi (nI nf) (nI nn) mru mth mcl mfa mwa mfz mbl mbk mtr mno mlo mip mto) H := hP
                have hD : va_D A (wX5 cI cZ cG h5 a5 (nI nr) (nI nt) (nI nc) (nI nw) hd (nI wk) (nI ng) (nI nT) mi (nI nf) (nI nn) mru mth mcl mfa mwa mfz mbl mbk mtr mno mlo mip mto) := hD
                obtain rfl : r19 = BM mbk r0 q := hw19.trans (by rw [Nat.mod_eq_of_lt (by omega)])
                refine K_same (va_runV (As := [.int (BM mbk r0 q)]) (rest := []) ⟨hx, hb, hml, hown, hts⟩ (c_X5_trainIn l D cI cZ cG h5 a5 _ nr nt nc nw hd wk ng nT mi nf nn mru mth mcl mfa mwa mfz mbl mbk mtr mno mlo mip mto (BM mbk r0 q) hnr hnt hnc hnw hwk hng hnT hnf hnn hokT) (cwV 1 hts gX5_train_X5_trainIn rfl rfl rfl (by decide +kernel) ⟨(Nat.le_of_ble_eq_true rfl), (Nat.le_of_ble_eq_true rfl)⟩) ⟨PB_blind, va_recv hK hP (ci := 5) (q0 := 0) rfl rfl, (K_preS hN hK hP hD).2⟩ rfl rfl hl.1 rfl (lv_room (Nat.le_of_ble_eq_true rfl)) dX5_train_84 ⟨Nat.zero_le _, Nat.zero_le _⟩) hD hS hA (fun r20 u H locs hw20 hP hD hS => ?_)
                have hP : va_P D vwCl (wX5 cI cZ cG h5 a5 (nI nr) (nI nt) (nI nc) (nI nw) hd (nI wk) (nI ng) (nI nT) mi (nI nf) (nI nn) mru mth mcl mfa mwa mfz mbl mbk mtr mno mlo mip mto) H := hP
                have hD : va_D A (wX5 cI cZ cG h5 a5 (nI nr) (nI nt) (nI nc) (nI nw) hd (nI wk) (nI ng) (nI nT) mi (nI nf) (nI nn) mru mth mcl mfa mwa mfz mbl mbk mtr mno mlo mip mto) := hD
                rcases ho20 : tI (bkO (BM mbk) (col 7 0 mtr) (col 7 1 mtr)) (BM mbk r0 q) nT with _ | b20
                · rw [ho20] at hw20
                  obtain rfl : r20 = -6 := hw20
                  refine lv_if_lt (tgt := 93) hx hb dX5_train_87 (by decide) (fun _ => ?_) (fun c21 => absurd c21 (by decide))
                  refine lv_bipush (v := 7) hx hb dX5_train_93 (by decide) ?_
                  refine lv_aload_n hx hb dX5_train_95 rfl (lv_at hl 0 rfl) ?_
                  refine va_get (D := D) (ci := 5) (v := .int (nI nT)) (C := RX5) (T := TX5) (N := 24) hx hb hts inX5_train hown hK hP 0 rfl rfl 15 (by decide) fl110 (fun _ h9 => h9) rfl dX5_train_96 ?_
                  refine lv_imul hx hb dX5_train_99 ?_
                  refine lv_topi (fun z22 ez22 => ?_)
                  obtain rfl : z22 = nI (7 * nT) := ez22.trans (pk_mul 7 nT)
                  refine lv_istore (lv' := [(4, .int (nI (7 * nT))), (0, .ref h5), (1, .int (nI r0)), (2, .int (nI q)), (3, .int m0)]) hx hb dX5_train_100 hl (by decide) rfl (fun ls hl => ?_)
                  refine lv_aload_n hx hb dX5_train_102 rfl (lv_at hl 1 rfl) ?_
                  refine va_get (D := D) (ci := 5) (v := .ref (a5 8)) (C := RX5) (T := TX5) (N := 24) hx hb hts inX5_train hown hK hP 0 rfl rfl 16 (by decide) fl39 (fun _ h9 => h9) rfl dX5_train_103 ?_
                  refine lv_iload hx hb dX5_train_106 (lv_at hl 0 rfl) ?_
                  refine lv_iload_n hx hb dX5_train_108 rfl (lv_at hl 2 rfl) ?_
                  refine K_iast hx hb hK hP hD hS 9 0 rfl rfl (7 * nT) (by omega) (Nat.le_of_ble_eq_true rfl) dX5_train_109 (fun H locs hP hD hS => ?_)
                  have hP : va_P D vwCl (wX5 cI cZ cG h5 a5 (nI nr) (nI nt) (nI nc) (nI nw) hd (nI wk) (nI ng) (nI nT) mi (nI nf) (nI nn) mru mth mcl mfa mwa mfz mbl mbk (upd mtr (7 * nT) (nI r0)) mno mlo mip mto) H := hP
                  have hD : va_D A (wX5 cI cZ cG h5 a5 (nI nr) (nI nt) (nI nc) (nI nw) hd (nI wk) (nI ng) (nI nT) mi (nI nf) (nI nn) mru mth mcl mfa mwa mfz mbl mbk (upd mtr (7 * nT) (nI r0)) mno mlo mip mto) := hD
                  refine lv_aload_n hx hb dX5_train_110 rfl (lv_at hl 1 rfl) ?_
                  refine va_get (D := D) (ci := 5) (v := .ref (a5 8)) (C := RX5) (T := TX5) (N := 24) hx hb hts inX5_train hown hK hP 0 rfl rfl 16 (by decide) fl39 (fun _ h9 => h9) rfl dX5_train_111 ?_
                  refine lv_iload hx hb dX5_train_114 (lv_at hl 0 rfl) ?_
                  refine lv_iconst (v := 1) hx hb dX5_train_116 (by decide) ?_
                  refine lv_iadd hx hb dX5_train_117 ?_
                  refine lv_topi (fun z23 ez23 => ?_)
                  obtain rfl : z23 = nI (7 * nT + 1) := ez23.trans ((nI_add (7 * nT) 1).trans (congrArg nI (by omega)))
                  refine lv_iload_n hx hb dX5_train_118 rfl (lv_at hl 3 rfl) ?_
                  refine K_iast hx hb hK hP hD hS 9 0 rfl rfl (7 * nT + 1) (by omega) (Nat.le_of_ble_eq_true rfl) dX5_train_119 (fun H locs hP hD hS => ?_)
                  have hP : va_P D vwCl (wX5 cI cZ cG h5 a5 (nI nr) (nI nt) (nI nc) (nI nw) hd (nI wk) (nI ng) (nI nT) mi (nI nf) (nI nn) mru mth mcl mfa mwa mfz mbl mbk (upd (upd mtr (7 * nT) (nI r0)) (7 * nT + 1) (nI q)) mno mlo mip mto) H := hP
                  have hD : va_D A (wX5 cI cZ cG h5 a5 (nI nr) (nI nt) (nI nc) (nI nw) hd (nI wk) (nI ng) (nI nT) mi (nI nf) (nI nn) mru mth mcl mfa mwa mfz mbl mbk (upd (upd mtr (7 * nT) (nI r0)) (7 * nT + 1) (nI q)) mno mlo mip mto) := hD
                  refine lv_aload_n hx hb dX5_train_120 rfl (lv_at hl 1 rfl) ?_
                  refine va_get (D := D) (ci := 5) (v := .ref (a5 8)) (C := RX5) (T := TX5) (N := 24) hx hb hts inX5_train hown hK hP 0 rfl rfl 16 (by decide) fl39 (fun _ h9 => h9) rfl dX5_train_121 ?_
                  refine lv_iload hx hb dX5_train_124 (lv_at hl 0 rfl) ?_
                  refine lv_iconst (v := 2) hx hb dX5_train_126 (by decide) ?_
                  refine lv_iadd hx hb dX5_train_127 ?_
                  refine lv_topi (fun z24 ez24 => ?_)
                  obtain rfl : z24 = nI (7 * nT + 2) := ez24.trans ((nI_add (7 * nT) 2).trans (congrArg nI (by omega)))
                  refine lv_iload_n hx hb dX5_train_128 rfl (lv_at hl 4 rfl) ?_
                  refine K_iast hx hb hK hP hD hS 9 0 rfl rfl (7 * nT + 2) (by omega) (Nat.le_of_ble_eq_true rfl) dX5_train_129 (fun H locs hP hD hS => ?_)
                  have hP : va_P D vwCl (wX5 cI cZ cG h5 a5 (nI nr) (nI nt) (nI nc) (nI nw) hd (nI wk) (nI ng) (nI nT) mi (nI nf) (nI nn) mru mth mcl mfa mwa mfz mbl mbk (upd (upd (upd mtr (7 * nT) (nI r0)) (7 * nT + 1) (nI q)) (7 * nT + 2) m0) mno mlo mip mto) H := hP
                  have hD : va_D A (wX5 cI cZ cG h5 a5 (nI nr) (nI nt) (nI nc) (nI nw) hd (nI wk) (nI ng) (nI nT) mi (nI nf) (nI nn) mru mth mcl mfa mwa mfz mbl mbk (upd (upd (upd mtr (7 * nT) (nI r0)) (7 * nT + 1) (nI q)) (7 * nT + 2) m0) mno mlo mip mto) := hD
                  refine lv_iconst (v := 3) hx hb dX5_train_130 (by decide) ?_
                  refine lv_istore (lv' := [(5, .int 3), (4, .int (nI (7 * nT))), (0, .ref h5), (1, .int (nI r0)), (2, .int (nI q)), (3, .int m0)]) hx hb dX5_train_131 hl (by decide) rfl (fun ls hl => ?_)
                  refine loopW2 (fun (j : Nat) (Z : Nat → Int32) H locs ls => (j ≤ 4) ∧ (Z = zF (upd (upd (upd mtr (7 * nT) (nI r0)) (7 * nT + 1) (nI q)) (7 * nT + 2) m0) (7 * nT) j) ∧ va_P D vwCl (wX5 cI cZ cG h5 a5 (nI nr) (nI nt) (nI nc) (nI nw) hd (nI wk) (nI ng) (nI nT) mi (nI nf) (nI nn) mru mth mcl mfa mwa mfz mbl mbk Z mno mlo mip mto) H ∧ va_D A (wX5 cI cZ cG h5 a5 (nI nr) (nI nt) (nI nc) (nI nw) hd (nI wk) (nI ng) (nI nT) mi (nI nf) (nI nn) mru mth mcl mfa mwa mfz mbl mbk Z mno mlo mip mto) ∧ va_S A s.heap H locs ∧ lv_has ls 6 [(5, .int (nI (j + 3))), (4, .int (nI (7 * nT))), (0, .ref h5), (1, .int (nI r0)), (2, .int (nI q)), (3, .int m0)]) (fun (j : Nat) (Z : Nat → Int32) => 4 - j) (fun j Z H locs ls hI ih133 => ?_) 0 (upd (upd (upd mtr (7 * nT) (nI r0)) (7 * nT + 1) (nI q)) (7 * nT + 2) m0) _ _ _ ⟨(by omega), rfl, hP, hD, hS, lv_sub hl [0, 1, 2, 3, 4, 5] rfl⟩
                  obtain ⟨hj, hZ, hP, hD, hS, hl⟩ := hI
                  refine lv_iload hx hb dX5_train_133 (lv_at hl 0 rfl) ?_
                  refine lv_bipush (v := 7) hx hb dX5_train_135 (by decide) ?_
                  refine lv_icmp_ge (tgt := 157) hx hb dX5_train_137 (by decide) (fun c25 => ?_) (fun c25 => ?_)
                  · have c25 : 7 ≤ (j + 3) := (nI_leI (a := 7) (b := j + 3) (by omega) (by omega)).mp c25
                    have ej : j = 4 := by omega
                    rw [ej] at hZ
                    refine lv_aload_n hx hb dX5_train_157 rfl (lv_at hl 2 rfl) ?_
                    refine lv_dup hx hb dX5_train_158 rfl ?_
                    refine va_get (D := D) (ci := 5) (v := .int (nI nT)) (C := RX5) (T := TX5) (N := 24) hx hb hts inX5_train hown hK hP 0 rfl rfl 15 (by decide) fl110 (fun _ h9 => h9) rfl dX5_train_159 ?_
                    refine lv_iconst (v := 1) hx hb dX5_train_162 (by decide) ?_
                    refine lv_iadd hx hb dX5_train_163 ?_
                    refine lv_topi (fun z26 ez26 => ?_)
                    obtain rfl : z26 = nI (nT + 1) := ez26.trans (nI_add nT 1)
                    refine va_put (D := D) (ci := 5) (v := .int (nI (nT + 1))) (ty := .int) (C := RX5) (T := TX5) (N := 24) hx hb hts inX5_train tyX5 tyX5_ok nmX5 hown hK hP hD hS 0 rfl rfl 15 (by decide) fl110 (fun _ h9 => h9) rfl (by decide +kernel) rfl rfl (Nat.le_of_ble_eq_true rfl) dX5_train_164 (fun H locs hP hD hS => ?_)
                    have hP : va_P D vwCl (wX5 cI cZ cG h5 a5 (nI nr) (nI nt) (nI nc) (nI nw) hd (nI wk) (nI ng) (nI (nT + 1)) mi (nI nf) (nI nn) mru mth mcl mfa mwa mfz mbl mbk Z mno mlo mip mto) H := hP
                    have hD : va_D A (wX5 cI cZ cG h5 a5 (nI nr) (nI nt) (nI nc) (nI nw) hd (nI wk) (nI ng) (nI (nT + 1)) mi (nI nf) (nI nn) mru mth mcl mfa mwa mfz mbl mbk Z mno mlo mip mto) := hD
                    refine lv_aload_n hx hb dX5_train_167 rfl (lv_at hl 2 rfl) ?_
                    refine va_get (D := D) (ci := 5) (v := .int (nI (nT + 1))) (C := RX5) (T := TX5) (N := 24) hx hb hts inX5_train hown hK hP 0 rfl rfl 15 (by decide) fl110 (fun _ h9 => h9) rfl dX5_train_168 ?_
                    refine lv_iconst (v := 1) hx hb dX5_train_171 (by decide) ?_
                    refine lv_isub hx hb dX5_train_172 ?_
                    refine lv_topi (fun z27 ez27 => ?_)
                    obtain rfl : z27 = nI nT := ez27.trans (nI_pred nT)
                    exact K_iret (wf := (fun (u : Nat × (Nat → Int32)) => wX5 cI cZ cG h5 a5 (nI nr) (nI nt) (nI nc) (nI nw) hd (nI wk) (nI ng) (nI u.1) mi (nI nf) (nI nn) mru mth mcl mfa mwa mfz mbl mbk u.2 mno mlo mip mto)) (nT + 1, Z) hx hb hr hlocks hP hK hD hS dX5_train_173 (by simp [rTrain, okTrain, hZ, hw1, hcr0, hnE, hcn, hw3, hcq, hP9, c17, c18, ho20, c25])
                  · have c25 : ¬ 7 ≤ (j + 3) := fun hq => c25 ((nI_leI (a := 7) (b := j + 3) (by omega) (by omega)).mpr hq)
                    refine lv_aload_n hx hb dX5_train_140 rfl (lv_at hl 2 rfl) ?_
                    refine va_get (D := D) (ci := 5) (v := .ref (a5 8)) (C := RX5) (T := TX5) (N := 24) hx hb hts inX5_train hown hK hP 0 rfl rfl 16 (by decide) fl39 (fun _ h9 => h9) rfl dX5_train_141 ?_
                    refine lv_iload hx hb dX5_train_144 (lv_at hl 1 rfl) ?_
                    refine lv_iload hx hb dX5_train_146 (lv_at hl 0 rfl) ?_
                    refine lv_iadd hx hb dX5_train_148 ?_
                    refine lv_topi (fun z28 ez28 => ?_)
                    obtain rfl : z28 = nI (7 * nT + (j + 3)) := ez28.trans ((nI_add (7 * nT) (j + 3)).trans (congrArg nI (by omega)))
                    refine lv_iconst (v := 0) hx hb dX5_train_149 (by decide) ?_
                    refine K_iast hx hb hK hP hD hS 9 0 rfl rfl (7 * nT + (j + 3)) (by omega) (Nat.le_of_ble_eq_true rfl) dX5_train_150 (fun H locs hP hD hS => ?_)
                    have hP : va_P D vwCl (wX5 cI cZ cG h5 a5 (nI nr) (nI nt) (nI nc) (nI nw) hd (nI wk) (nI ng) (nI nT) mi (nI nf) (nI nn) mru mth mcl mfa mwa mfz mbl mbk (upd Z (7 * nT + (j + 3)) 0) mno mlo mip mto) H := hP
                    have hD : va_D A (wX5 cI cZ cG h5 a5 (nI nr) (nI nt) (nI nc) (nI nw) hd (nI wk) (nI ng) (nI nT) mi (nI nf) (nI nn) mru mth mcl mfa mwa mfz mbl mbk (upd Z (7 * nT + (j + 3)) 0) mno mlo mip mto) := hD
                    refine lv_iinc (v := nI (j + 4)) (lv' := [(5, .int (nI (j + 4))), (4, .int (nI (7 * nT))), (0, .ref h5), (1, .int (nI r0)), (2, .int (nI q)), (3, .int m0)]) hx hb dX5_train_151 hl (k := 0) rfl (inc1 _) (by decide) rfl (fun ls hl => ?_)
                    refine lv_goto (tgt := 133) hx hb dX5_train_154 (by decide) ?_
                    exact ih133 (j + 1) (upd Z (7 * nT + (j + 3)) 0) _ _ _ ⟨(by omega), (by rw [zF, ← hZ]), hP, hD, hS, lv_sub hl [0, 1, 2, 3, 4, 5] rfl⟩ (by omega)
                · rw [ho20] at hw20
                  obtain rfl : r20 = nI b20 := hw20
                  have hbb := tI_lt ho20
                  refine lv_if_lt (tgt := 93) hx hb dX5_train_87 (by decide) (fun c29 => absurd c29 (nI_pos (by omega))) (fun c29 => ?_)
                  refine lv_bipush (v := (-5)) hx hb dX5_train_90 (by decide) ?_
                  exact K_iret (wf := (fun (u : Nat × (Nat → Int32)) => wX5 cI cZ cG h5 a5 (nI nr) (nI nt) (nI nc) (nI nw) hd (nI wk) (nI ng) (nI u.1) mi (nI nf) (nI nn) mru mth mcl mfa mwa mfz mbl mbk u.2 mno mlo mip mto)) (nT, mtr) hx hb hr hlocks hP hK hD hS dX5_train_92 (by simp [rTrain, okTrain, hw1, hcr0, hnE, hcn, hw3, hcq, hP9, c17, c18, ho20])
              · have c18 : nT = 4 := (nI_eq (a := nT) (b := 4) (by omega) (by omega)).mp c18
                refine lv_bipush (v := (-4)) hx hb dX5_train_74 (by decide) ?_
                exact K_iret (wf := (fun (u : Nat × (Nat → Int32)) => wX5 cI cZ cG h5 a5 (nI nr) (nI nt) (nI nc) (nI nw) hd (nI wk) (nI ng) (nI u.1) mi (nI nf) (nI nn) mru mth mcl mfa mwa mfz mbl mbk u.2 mno mlo mip mto)) (nT, mtr) hx hb hr hlocks hP hK hD hS dX5_train_76 (by simp [rTrain, okTrain, hw1, hcr0, hnE, hcn, hw3, hcq, hP9, c17, eq_true c18])
            · have c17 : ¬ 2 ≤ n := fun hq => c17 ((nI_leI (a := 2) (b := n) (by omega) (by omega)).mpr hq)
              omega
          · have hP9 := okPl_f3 (n := n) (p := nI q) hw14
            refine lv_if_ne (tgt := 53) hx hb dX5_train_47 (by decide) (fun c30 => absurd c30 (by decide)) (fun _ => ?_)
            refine lv_bipush (v := (-2)) hx hb dX5_train_50 (by decide) ?_
            exact K_iret (wf := (fun (u : Nat × (Nat → Int32)) => wX5 cI cZ cG h5 a5 (nI nr) (nI nt) (nI nc) (nI nw) hd (nI wk) (nI ng) (nI u.1) mi (nI nf) (nI nn) mru mth mcl mfa mwa mfz mbl mbk u.2 mno mlo mip mto)) (nT, mtr) hx hb hr hlocks hP hK hD hS dX5_train_52 (by simp [rTrain, okTrain, hw1, hcr0, hnE, hcn, hw3, hcq, hP9])
    · have hP9 := okPl_f1 (m := m0) hw3 hn12
      refine lv_if_eq (tgt := 50) hx hb dX5_train_17 (by decide) (fun _ => ?_) (fun c31 => absurd c31 (by decide))
      refine lv_bipush (v := (-2)) hx hb dX5_train_50 (by decide) ?_
      exact K_iret (wf := (fun (u : Nat × (Nat → Int32)) => wX5 cI cZ cG h5 a5 (nI nr) (nI nt) (nI nc) (nI nw) hd (nI wk) (nI ng) (nI u.1) mi (nI nf) (nI nn) mru mth mcl mfa mwa mfz mbl mbk u.2 mno mlo mip mto)) (nT, mtr) hx hb hr hlocks hP hK hD hS dX5_train_52 (by simp [rTrain, okTrain, hw1, hcr0, hnE, hcn, hP9])
  · skip
    refine lv_if_ne (tgt := 10) hx hb dX5_train_5 (by decide) (fun c32 => absurd c32 (by decide)) (fun _ => ?_)
    refine lv_iconst (v := (-1)) hx hb dX5_train_8 (by decide) ?_
    exact K_iret (wf := (fun (u : Nat × (Nat → Int32)) => wX5 cI cZ cG h5 a5 (nI nr) (nI nt) (nI nc) (nI nw) hd (nI wk) (nI ng) (nI u.1) mi (nI nf) (nI nn) mru mth mcl mfa mwa mfz mbl mbk u.2 mno mlo mip mto)) (nT, mtr) hx hb hr hlocks hP hK hD hS dX5_train_9 (by simp [rTrain, okTrain, hw1])

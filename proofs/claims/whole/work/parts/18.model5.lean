theorem okT_go {ng nT : Nat} {mbl M : Nat → Int32} {k g0 n q : Nat} (hrE : col 7 0 M k = nI g0) (hr0 : g0 < ng) (hnE : mbl g0 = nI n) (hn2 : 2 ≤ n) (hn12 : n ≤ 12) (hq : q < n) {x : Int32} (h : okT ng nT mbl (col 7 0 (upd M (7 * k + 3) x)) (col 7 1 (upd M (7 * k + 3) x))) : okT ng nT mbl (col 7 0 (upd (upd M (7 * k + 3) x) (7 * k + 1) (nI q))) (col 7 1 (upd (upd M (7 * k + 3) x) (7 * k + 1) (nI q))) := by
  have e0 : col 7 0 (upd (upd M (7 * k + 3) x) (7 * k + 1) (nI q)) = col 7 0 (upd M (7 * k + 3) x) := (cu (by decide) (by decide)).trans (if_neg (by decide))
  have e1 : col 7 1 (upd (upd M (7 * k + 3) x) (7 * k + 1) (nI q)) = upd (col 7 1 (upd M (7 * k + 3) x)) k (nI q) := (cu (by decide) (by decide)).trans (if_pos rfl)
  rw [e0, e1]
  intro t ht
  by_cases e : t = k
  · subst e
    refine ⟨g0, n, q, hr0, ?_, hn2, hn12, hnE, hq, pk_us⟩
    rw [cu (by decide) (by decide), if_neg (by decide)]
    exact hrE
  · obtain ⟨r, n', q', h1, h2, h3, h4, h5, h6, h7⟩ := h t ht
    exact ⟨r, n', q', h1, h2, h3, h4, h5, h6, (pk_un e).trans h7⟩
theorem inX5_stick : ∀ w ∈ wsX50, w ∈ wsX5_stick := by decide +kernel
set_option maxHeartbeats 8000000 in
set_option maxRecDepth 100000 in
/-- stick -/
theorem c_X5_stick (l : Launch) (D : va_G) (cI cZ cG : ClassId) (h5 : Nat) (a5 : Nat → Nat) (sz : Nat) (nr : Nat) (nt : Nat) (nc : Nat) (nw : Nat) (hd : Int32) (wk : Nat) (ng : Nat) (nT : Nat) (mi : Int32) (nf : Nat) (nn : Nat) (mru : Nat → Int32) (mth : Nat → Int32) (mcl : Nat → Int32) (mfa : Nat → Int32) (mwa : Nat → Int32) (mfz : Nat → Int32) (mbl : Nat → Int32) (mbk : Nat → Int32) (mtr : Nat → Int32) (mno : Nat → Int32) (mlo : Nat → Int32) (mip : Nat → Int32) (mto : Nat → Int32) (x : Int32) (z : Int32) (hnr : nr ≤ 6) (hnt : nt ≤ 20) (hnc : nc ≤ 60) (hnw : nw ≤ 24) (hwk : wk ≤ 200) (hng : ng ≤ 3) (hnT : nT ≤ 4) (hnf : nf ≤ 12) (hnn : nn ≤ 60) (hz01 : z = 0 ∨ z = 1) : Met l yX5_stick wsX5_stick ({ frames := 2, cells := 0, slots := 0, locals := 43 } : Room) (va_Pc [.ref h5, .int x, .int z] (PB D (tyL cI cZ cG) (wX5 cI cZ cG h5 a5 (nI nr) (nI nt) (nI nc) (nI nw) hd (nI wk) (nI ng) (nI nT) mi (nI nf) (nI nn) mru mth mcl mfa mwa mfz mbl mbk mtr mno mlo mip mto) sz)) (va_Qi (fun (r : Int32) (u : Nat → Int32) => r = (if inR x 0 (nI nT - 1) = true then col 7 4 mtr x.toNatClampNeg else -1) ∧ u = if inR x 0 (nI nT - 1) = true then upd mtr (7 * x.toNatClampNeg + 4) z else mtr) (fun u => QB D (tyL cI cZ cG) (va_A (wX5 cI cZ cG h5 a5 (nI nr) (nI nt) (nI nc) (nI nw) hd (nI wk) (nI ng) (nI nT) mi (nI nf) (nI nn) mru mth mcl mfa mwa mfz mbl mbk mtr mno mlo mip mto) sz) ((fun (u : (Nat → Int32)) => wX5 cI cZ cG h5 a5 (nI nr) (nI nt) (nI nc) (nI nw) hd (nI wk) (nI ng) (nI nT) mi (nI nf) (nI nn) mru mth mcl mfa mwa mfz mbl mbk u mno mlo mip mto) u)) (va_A (wX5 cI cZ cG h5 a5 (nI nr) (nI nt) (nI nc) (nI nw) hd (nI wk) (nI ng) (nI nT) mi (nI nf) (nI nn) mru mth mcl mfa mwa mfz mbl mbk mtr mno mlo mip mto) sz)) 0 0 (va_A (wX5 cI cZ cG h5 a5 (nI nr) (nI nt) (nI nc) (nI nw) hd (nI wk) (nI ng) (nI nT) mi (nI nf) (nI nn) mru mth mcl mfa mwa mfz mbl mbk mtr mno mlo mip mto) sz) := by
  refine K_start (cc := cX5_stick) (maxL := 4) (ret := some .int) (Qc := fun A => va_Qi (fun (r : Int32) (u : Nat → Int32) => r = (if inR x 0 (nI nT - 1) = true then col 7 4 mtr x.toNatClampNeg else -1) ∧ u = if inR x 0 (nI nT - 1) = true then upd mtr (7 * x.toNatClampNeg + 4) z else mtr) (fun u => QB D (tyL cI cZ cG) A ((fun (u : (Nat → Int32)) => wX5 cI cZ cG h5 a5 (nI nr) (nI nt) (nI nc) (nI nw) hd (nI wk) (nI ng) (nI nT) mi (nI nf) (nI nn) mru mth mcl mfa mwa mfz mbl mbk u mno mlo mip mto) u)) A) (by decide) rfl (Nat.le_of_ble_eq_true rfl) ?_
  intro p e s m below meth c ls A hx hb hml hr hts hown hlocks hin hN hP hK hD hA hS hl hsz
  have hl : lv_has ls 4 [(0, .ref h5), (1, .int x), (2, .int z)] := hl
  have fl39 := hts (.fieldLink RX5 39 "ModelTownModel" "train" "[I") (by decide +kernel)
  refine lv_aload_n hx hb dX5_stick_0 rfl (lv_at hl 0 rfl) ?_
  refine lv_iload_n hx hb dX5_stick_1 rfl (lv_at hl 1 rfl) ?_
  refine K_same (va_runV (As := [.int x]) (rest := []) ⟨hx, hb, hml, hown, hts⟩ (c_X5_isTrain l D cI cZ cG h5 a5 _ nr nt nc nw hd wk ng nT mi nf nn mru mth mcl mfa mwa mfz mbl mbk mtr mno mlo mip mto x hnr hnt hnc hnw hwk hng hnT hnf hnn) (cwV 1 hts gX5_stick_X5_isTrain rfl rfl rfl (by decide +kernel) ⟨(Nat.le_of_ble_eq_true rfl), (Nat.le_of_ble_eq_true rfl)⟩) ⟨PB_blind, va_recv hK hP (ci := 5) (q0 := 0) rfl rfl, (K_preS hN hK hP hD).2⟩ rfl rfl hl.1 rfl (lv_room (Nat.le_of_ble_eq_true rfl)) dX5_stick_2 ⟨Nat.zero_le _, Nat.zero_le _⟩) hD hS hA (fun r1 u H locs hw1 hP hD hS => ?_)
  have hP : va_P D vwCl (wX5 cI cZ cG h5 a5 (nI nr) (nI nt) (nI nc) (nI nw) hd (nI wk) (nI ng) (nI nT) mi (nI nf) (nI nn) mru mth mcl mfa mwa mfz mbl mbk mtr mno mlo mip mto) H := hP
  have hD : va_D A (wX5 cI cZ cG h5 a5 (nI nr) (nI nt) (nI nc) (nI nw) hd (nI wk) (nI ng) (nI nT) mi (nI nf) (nI nn) mru mth mcl mfa mwa mfz mbl mbk mtr mno mlo mip mto) := hD
  rcases hw1 with ⟨rfl, hw1⟩ | ⟨rfl, hw1⟩
  · obtain ⟨t, ht, rfl⟩ := inR_lt (by omega) hw1
    have hct : (nI t).toNatClampNeg = t := nI_clamp (by omega)
    refine lv_if_ne (tgt := 10) hx hb dX5_stick_5 (by decide) (fun _ => ?_) (fun c2 => absurd c2 (by decide))
    refine lv_aload_n hx hb dX5_stick_10 rfl (lv_at hl 0 rfl) ?_
    refine va_get (D := D) (ci := 5) (v := .ref (a5 8)) (C := RX5) (T := TX5) (N := 24) hx hb hts inX5_stick hown hK hP 0 rfl rfl 16 (by decide) fl39 (fun _ h9 => h9) rfl dX5_stick_11 ?_
    refine lv_bipush (v := 7) hx hb dX5_stick_14 (by decide) ?_
    refine lv_iload_n hx hb dX5_stick_16 rfl (lv_at hl 1 rfl) ?_
    refine lv_imul hx hb dX5_stick_17 ?_
    refine lv_topi (fun z3 ez3 => ?_)
    obtain rfl : z3 = nI (7 * t) := ez3.trans (pk_mul 7 t)
    refine lv_iconst (v := 4) hx hb dX5_stick_18 (by decide) ?_
    refine lv_iadd hx hb dX5_stick_19 ?_
    refine lv_topi (fun z4 ez4 => ?_)
    obtain rfl : z4 = nI (7 * t + 4) := ez4.trans ((nI_add (7 * t) 4).trans (congrArg nI (by omega)))
    refine K_iald hx hb hK hP 9 0 rfl rfl (7 * t + 4) (by omega) (Nat.le_of_ble_eq_true rfl) dX5_stick_20 ?_
    refine lv_istore_n (lv' := [(3, .int (mtr (7 * t + 4))), (0, .ref h5), (1, .int (nI t)), (2, .int z)]) hx hb dX5_stick_21 rfl hl (by decide) rfl (fun ls hl => ?_)
    refine lv_aload_n hx hb dX5_stick_22 rfl (lv_at hl 1 rfl) ?_
    refine va_get (D := D) (ci := 5) (v := .ref (a5 8)) (C := RX5) (T := TX5) (N := 24) hx hb hts inX5_stick hown hK hP 0 rfl rfl 16 (by decide) fl39 (fun _ h9 => h9) rfl dX5_stick_23 ?_
    refine lv_bipush (v := 7) hx hb dX5_stick_26 (by decide) ?_
    refine lv_iload_n hx hb dX5_stick_28 rfl (lv_at hl 2 rfl) ?_
    refine lv_imul hx hb dX5_stick_29 ?_
    refine lv_topi (fun z5 ez5 => ?_)
    obtain rfl : z5 = nI (7 * t) := ez5.trans (pk_mul 7 t)
    refine lv_iconst (v := 4) hx hb dX5_stick_30 (by decide) ?_
    refine lv_iadd hx hb dX5_stick_31 ?_
    refine lv_topi (fun z6 ez6 => ?_)
    obtain rfl : z6 = nI (7 * t + 4) := ez6.trans ((nI_add (7 * t) 4).trans (congrArg nI (by omega)))
    refine lv_iload_n hx hb dX5_stick_32 rfl (lv_at hl 3 rfl) ?_
    refine lv_if_eq (tgt := 40) hx hb dX5_stick_33 (by decide) (fun c7 => ?_) (fun c7 => ?_)
    · have ez : z = 0 := c7
      subst ez
      refine lv_iconst (v := 0) hx hb dX5_stick_40 (by decide) ?_
      refine K_iast hx hb hK hP hD hS 9 0 rfl rfl (7 * t + 4) (by omega) (Nat.le_of_ble_eq_true rfl) dX5_stick_41 (fun H locs hP hD hS => ?_)
      have hP : va_P D vwCl (wX5 cI cZ cG h5 a5 (nI nr) (nI nt) (nI nc) (nI nw) hd (nI wk) (nI ng) (nI nT) mi (nI nf) (nI nn) mru mth mcl mfa mwa mfz mbl mbk (upd mtr (7 * t + 4) 0) mno mlo mip mto) H := hP
      have hD : va_D A (wX5 cI cZ cG h5 a5 (nI nr) (nI nt) (nI nc) (nI nw) hd (nI wk) (nI ng) (nI nT) mi (nI nf) (nI nn) mru mth mcl mfa mwa mfz mbl mbk (upd mtr (7 * t + 4) 0) mno mlo mip mto) := hD
      refine lv_iload_n hx hb dX5_stick_42 rfl (lv_at hl 0 rfl) ?_
      exact K_iret (wf := (fun (u : (Nat → Int32)) => wX5 cI cZ cG h5 a5 (nI nr) (nI nt) (nI nc) (nI nw) hd (nI wk) (nI ng) (nI nT) mi (nI nf) (nI nn) mru mth mcl mfa mwa mfz mbl mbk u mno mlo mip mto)) (upd mtr (7 * t + 4) 0) hx hb hr hlocks hP hK hD hS dX5_stick_43 (by rw [if_pos (by assumption), if_pos (by assumption), hct]; exact ⟨rfl, rfl⟩)
    · have ez : z = 1 := hz01.resolve_left c7
      subst ez
      refine lv_iconst (v := 1) hx hb dX5_stick_36 (by decide) ?_
      refine lv_goto (tgt := 41) hx hb dX5_stick_37 (by decide) ?_
      refine K_iast hx hb hK hP hD hS 9 0 rfl rfl (7 * t + 4) (by omega) (Nat.le_of_ble_eq_true rfl) dX5_stick_41 (fun H locs hP hD hS => ?_)
      have hP : va_P D vwCl (wX5 cI cZ cG h5 a5 (nI nr) (nI nt) (nI nc) (nI nw) hd (nI wk) (nI ng) (nI nT) mi (nI nf) (nI nn) mru mth mcl mfa mwa mfz mbl mbk (upd mtr (7 * t + 4) 1) mno mlo mip mto) H := hP
      have hD : va_D A (wX5 cI cZ cG h5 a5 (nI nr) (nI nt) (nI nc) (nI nw) hd (nI wk) (nI ng) (nI nT) mi (nI nf) (nI nn) mru mth mcl mfa mwa mfz mbl mbk (upd mtr (7 * t + 4) 1) mno mlo mip mto) := hD
      refine lv_iload_n hx hb dX5_stick_42 rfl (lv_at hl 0 rfl) ?_
      exact K_iret (wf := (fun (u : (Nat → Int32)) => wX5 cI cZ cG h5 a5 (nI nr) (nI nt) (nI nc) (nI nw) hd (nI wk) (nI ng) (nI nT) mi (nI nf) (nI nn) mru mth mcl mfa mwa mfz mbl mbk u mno mlo mip mto)) (upd mtr (7 * t + 4) 1) hx hb hr hlocks hP hK hD hS dX5_stick_43 (by rw [if_pos (by assumption), if_pos (by assumption), hct]; exact ⟨rfl, rfl⟩)
  · skip
    refine lv_if_ne (tgt := 10) hx hb dX5_stick_5 (by decide) (fun c8 => absurd c8 (by decide)) (fun _ => ?_)
    refine lv_iconst (v := (-1)) hx hb dX5_stick_8 (by decide) ?_
    exact K_iret (wf := (fun (u : (Nat → Int32)) => wX5 cI cZ cG h5 a5 (nI nr) (nI nt) (nI nc) (nI nw) hd (nI wk) (nI ng) (nI nT) mi (nI nf) (nI nn) mru mth mcl mfa mwa mfz mbl mbk u mno mlo mip mto)) mtr hx hb hr hlocks hP hK hD hS dX5_stick_9 (by simp [hw1])
theorem inX5_run : ∀ w ∈ wsX50, w ∈ wsX5_run := by decide +kernel
set_option maxHeartbeats 8000000 in
set_option maxRecDepth 100000 in
/-- run -/
theorem c_X5_run (l : Launch) (D : va_G) (cI cZ cG : ClassId) (h5 : Nat) (a5 : Nat → Nat) (sz : Nat) (nr : Nat) (nt : Nat) (nc : Nat) (nw : Nat) (hd : Int32) (wk : Nat) (ng : Nat) (nT : Nat) (mi : Int32) (nf : Nat) (nn : Nat) (mru : Nat → Int32) (mth : Nat → Int32) (mcl : Nat → Int32) (mfa : Nat → Int32) (mwa : Nat → Int32) (mfz : Nat → Int32) (mbl : Nat → Int32) (mbk : Nat → Int32) (mtr : Nat → Int32) (mno : Nat → Int32) (mlo : Nat → Int32) (mip : Nat → Int32) (mto : Nat → Int32) (x : Int32) (hnr : nr ≤ 6) (hnt : nt ≤ 20) (hnc : nc ≤ 60) (hnw : nw ≤ 24) (hwk : wk ≤ 200) (hng : ng ≤ 3) (hnT : nT ≤ 4) (hnf : nf ≤ 12) (hnn : nn ≤ 60) (hokT : okT ng nT mbl (col 7 0 mtr) (col 7 1 mtr)) : Met l yX5_run wsX5_run ({ frames := 3, cells := 0, slots := 0, locals := 65 } : Room) (va_Pc [.ref h5, .int x] (PB D (tyL cI cZ cG) (wX5 cI cZ cG h5 a5 (nI nr) (nI nt) (nI nc) (nI nw) hd (nI wk) (nI ng) (nI nT) mi (nI nf) (nI nn) mru mth mcl mfa mwa mfz mbl mbk mtr mno mlo mip mto) sz)) (va_Qi (fun (r : Int32) (u : (Nat → Int32) × Int32) => r = (if inR x 1 500 = true then (gM nT (BM mbk) mbl (col 7 0 mtr) (col 7 2 mtr) (col 7 4 mtr) (0, pk4 mtr) x.toNatClampNeg).1 else -2) ∧ (inR x 1 500 = true → pk4 u.1 = (gM nT (BM mbk) mbl (col 7 0 mtr) (col 7 2 mtr) (col 7 4 mtr) (0, pk4 mtr) x.toNatClampNeg).2 ∧ eqM mtr u.1 ∧ u.2 = mi + x) ∧ (¬ inR x 1 500 = true → u = (mtr, mi))) (fun u => QB D (tyL cI cZ cG) (va_A (wX5 cI cZ cG h5 a5 (nI nr) (nI nt) (nI nc) (nI nw) hd (nI wk) (nI ng) (nI nT) mi (nI nf) (nI nn) mru mth mcl mfa mwa mfz mbl mbk mtr mno mlo mip mto) sz) ((fun (u : (Nat → Int32) × Int32) => wX5 cI cZ cG h5 a5 (nI nr) (nI nt) (nI nc) (nI nw) hd (nI wk) (nI ng) (nI nT) u.2 (nI nf) (nI nn) mru mth mcl mfa mwa mfz mbl mbk u.1 mno mlo mip mto) u)) (va_A (wX5 cI cZ cG h5 a5 (nI nr) (nI nt) (nI nc) (nI nw) hd (nI wk) (nI ng) (nI nT) mi (nI nf) (nI nn) mru mth mcl mfa mwa mfz mbl mbk mtr mno mlo mip mto) sz)) 0 0 (va_A (wX5 cI cZ cG h5 a5 (nI nr) (nI nt) (nI nc) (nI nw) hd (nI wk) (nI ng) (nI nT) mi (nI nf) (nI nn) mru mth mcl mfa mwa mfz mbl mbk mtr mno mlo mip mto) sz) := by
  refine K_start (cc := cX5_run) (maxL := 6) (ret := some .int) (Qc := fun A => va_Qi (fun (r : Int32) (u : (Nat → Int32) × Int32) => r = (if inR x 1 500 = true then (gM nT (BM mbk) mbl (col 7 0 mtr) (col 7 2 mtr) (col 7 4 mtr) (0, pk4 mtr) x.toNatClampNeg).1 else -2) ∧ (inR x 1 500 = true → pk4 u.1 = (gM nT (BM mbk) mbl (col 7 0 mtr) (col 7 2 mtr) (col 7 4 mtr) (0, pk4 mtr) x.toNatClampNeg).2 ∧ eqM mtr u.1 ∧ u.2 = mi + x) ∧ (¬ inR x 1 500 = true → u = (mtr, mi))) (fun u => QB D (tyL cI cZ cG) A ((fun (u : (Nat → Int32) × Int32) => wX5 cI cZ cG h5 a5 (nI nr) (nI nt) (nI nc) (nI nw) hd (nI wk) (nI ng) (nI nT) u.2 (nI nf) (nI nn) mru mth mcl mfa mwa mfz mbl mbk u.1 mno mlo mip mto) u)) A) (by decide) rfl (Nat.le_of_ble_eq_true rfl) ?_
  intro p e s m below meth c ls A hx hb hml hr hts hown hlocks hin hN hP hK hD hA hS hl hsz
  have hl : lv_has ls 6 [(0, .ref h5), (1, .int x)] := hl
  have fl110 := hts (.fieldLink RX5 110 "ModelTownModel" "trains" "I") (by decide +kernel)
  have fl129 := hts (.fieldLink RX5 129 "ModelTownModel" "minutes" "I") (by decide +kernel)
  have fl39 := hts (.fieldLink RX5 39 "ModelTownModel" "train" "[I") (by decide +kernel)
  have fl33 := hts (.fieldLink RX5 33 "ModelTownModel" "blocks" "[I") (by decide +kernel)
  refine lv_iload_n hx hb dX5_run_0 rfl (lv_at hl 1 rfl) ?_
  refine lv_iconst (v := 1) hx hb dX5_run_1 (by decide) ?_
  refine lv_sipush (v := 500) hx hb dX5_run_2 (by decide) ?_
  refine K_none (va_runS (As := [.int x, .int 1, .int 500]) (rest := []) ⟨hx, hb, hml, hown, hts⟩ (c_X5_in l D cI cZ cG _ x 1 500) (va_cwS 3 hts gX5_run_X5_in rfl rfl rfl (by decide +kernel) ⟨(Nat.le_of_ble_eq_true rfl), (Nat.le_of_ble_eq_true rfl)⟩) (K_pre0 hN hK) rfl rfl hl.1 rfl (lv_room (Nat.le_of_ble_eq_true rfl)) dX5_run_5 ⟨Nat.zero_le _, Nat.zero_le _⟩) hP hS hA (fun r1 _ H locs hw1 hP hS => ?_)
  rcases hw1 with ⟨rfl, hw1⟩ | ⟨rfl, hw1⟩
  · obtain ⟨n, hn1, hn2, rfl⟩ := inR_nat1 (a := 1) (b := 500) hw1 (by decide) (by decide)
    have hcn : (nI n).toNatClampNeg = n := nI_clamp (by omega)
    refine lv_if_ne (tgt := 14) hx hb dX5_run_8 (by decide) (fun _ => ?_) (fun c2 => absurd c2 (by decide))
    refine lv_iconst (v := 0) hx hb dX5_run_14 (by decide) ?_
    refine lv_istore_n (lv' := [(2, .int 0), (0, .ref h5), (1, .int (nI n))]) hx hb dX5_run_15 rfl hl (by decide) rfl (fun ls hl => ?_)
    refine lv_iconst (v := 0) hx hb dX5_run_16 (by decide) ?_
    refine lv_istore_n (lv' := [(3, .int 0), (2, .int 0), (0, .ref h5), (1, .int (nI n))]) hx hb dX5_run_17 rfl hl (by decide) rfl (fun ls hl => ?_)
    refine loopW4 (fun (i : Nat) (v : Int32) (M : Nat → Int32) (y : Int32) H locs ls => (i ≤ n) ∧ ((v, pk4 M) = gM nT (BM mbk) mbl (col 7 0 mtr) (col 7 2 mtr) (col 7 4 mtr) (0, pk4 mtr) i) ∧ (eqM mtr M) ∧ (okT ng nT mbl (col 7 0 M) (col 7 1 M)) ∧ (y = mi + nI i) ∧ va_P D vwCl (wX5 cI cZ cG h5 a5 (nI nr) (nI nt) (nI nc) (nI nw) hd (nI wk) (nI ng) (nI nT) y (nI nf) (nI nn) mru mth mcl mfa mwa mfz mbl mbk M mno mlo mip mto) H ∧ va_D A (wX5 cI cZ cG h5 a5 (nI nr) (nI nt) (nI nc) (nI nw) hd (nI wk) (nI ng) (nI nT) y (nI nf) (nI nn) mru mth mcl mfa mwa mfz mbl mbk M mno mlo mip mto) ∧ va_S A s.heap H locs ∧ lv_has ls 6 [(3, .int (nI i)), (2, .int v), (0, .ref h5), (1, .int (nI n))]) (fun (i : Nat) (v : Int32) (M : Nat → Int32) (y : Int32) => n - i) (fun i v M y H locs ls hI ih18 => ?_) 0 0 mtr mi _ _ _ ⟨(by omega), rfl, (⟨rfl, rfl, rfl⟩), hokT, ((Int32.add_zero mi).symm), hP, hD, hS, lv_sub hl [0, 1, 2, 3] rfl⟩
    obtain ⟨hi, hq, heM, hok, hy, hP, hD, hS, hl⟩ := hI
    refine lv_iload_n hx hb dX5_run_18 rfl (lv_at hl 0 rfl) ?_
    refine lv_iload_n hx hb dX5_run_19 rfl (lv_at hl 3 rfl) ?_
    refine lv_icmp_ge (tgt := 199) hx hb dX5_run_20 (by decide) (fun c3 => ?_) (fun c3 => ?_)
    · have c3 : n ≤ i := (nI_leI (a := n) (b := i) (by omega) (by omega)).mp c3
      have ek : i = n := by omega
      rw [ek] at hq hy
      refine lv_iload_n hx hb dX5_run_199 rfl (lv_at hl 1 rfl) ?_
      exact K_iret (wf := (fun (u : (Nat → Int32) × Int32) => wX5 cI cZ cG h5 a5 (nI nr) (nI nt) (nI nc) (nI nw) hd (nI wk) (nI ng) (nI nT) u.2 (nI nf) (nI nn) mru mth mcl mfa mwa mfz mbl mbk u.1 mno mlo mip mto)) (M, y) hx hb hr hlocks hP hK hD hS dX5_run_200 (⟨by rw [if_pos hw1, hcn, ← hq], fun _ => ⟨by rw [hcn, ← hq], heM, hy⟩, fun h => absurd hw1 h⟩)
    · have c3 : ¬ n ≤ i := fun hq => c3 ((nI_leI (a := n) (b := i) (by omega) (by omega)).mpr hq)
      refine lv_iconst (v := 0) hx hb dX5_run_23 (by decide) ?_
      refine lv_istore (lv' := [(4, .int 0), (3, .int (nI i)), (2, .int v), (0, .ref h5), (1, .int (nI n))]) hx hb dX5_run_24 hl (by decide) rfl (fun ls hl => ?_)
      refine loopW3 (fun (k : Nat) (w : Int32) (M2 : Nat → Int32) H locs ls => (k ≤ nT) ∧ ((w, pk4 M2) = gT nT (BM mbk) mbl (col 7 0 mtr) (col 7 2 mtr) (col 7 4 mtr) (v, pk4 M) k) ∧ (eqM mtr M2) ∧ (okT ng nT mbl (col 7 0 M2) (col 7 1 M2)) ∧ va_P D vwCl (wX5 cI cZ cG h5 a5 (nI nr) (nI nt) (nI nc) (nI nw) hd (nI wk) (nI ng) (nI nT) y (nI nf) (nI nn) mru mth mcl mfa mwa mfz mbl mbk M2 mno mlo mip mto) H ∧ va_D A (wX5 cI cZ cG h5 a5 (nI nr) (nI nt) (nI nc) (nI nw) hd (nI wk) (nI ng) (nI nT) y (nI nf) (nI nn) mru mth mcl mfa mwa mfz mbl mbk M2 mno mlo mip mto) ∧ va_S A s.heap H locs ∧ lv_has ls 6 [(4, .int (nI k)), (3, .int (nI i)), (2, .int w), (0, .ref h5), (1, .int (nI n))]) (fun (k : Nat) (w : Int32) (M2 : Nat → Int32) => nT - k) (fun k w M2 H locs ls hI ih26 => ?_) 0 v M _ _ _ ⟨(by omega), rfl, heM, hok, hP, hD, hS, lv_sub hl [0, 1, 2, 3, 4] rfl⟩
      obtain ⟨hk, hq2, heM2, hok2, hP, hD, hS, hl⟩ := hI
      refine lv_iload hx hb dX5_run_26 (lv_at hl 0 rfl) ?_
      refine lv_aload_n hx hb dX5_run_28 rfl (lv_at hl 3 rfl) ?_
      refine va_get (D := D) (ci := 5) (v := .int (nI nT)) (C := RX5) (T := TX5) (N := 24) hx hb hts inX5_run hown hK hP 0 rfl rfl 15 (by decide) fl110 (fun _ h9 => h9) rfl dX5_run_29 ?_
      refine lv_icmp_ge (tgt := 183) hx hb dX5_run_32 (by decide) (fun c4 => ?_) (fun c4 => ?_)
      · have c4 : nT ≤ k := (nI_leI (a := nT) (b := k) (by omega) (by omega)).mp c4
        have ek2 : k = nT := by omega
        rw [ek2] at hq2
        refine lv_aload_n hx hb dX5_run_183 rfl (lv_at hl 3 rfl) ?_
        refine lv_dup hx hb dX5_run_184 rfl ?_
        refine va_get (D := D) (ci := 5) (v := .int y) (C := RX5) (T := TX5) (N := 24) hx hb hts inX5_run hown hK hP 0 rfl rfl 17 (by decide) fl129 (fun _ h9 => h9) rfl dX5_run_185 ?_
        refine lv_iconst (v := 1) hx hb dX5_run_188 (by decide) ?_
        refine lv_iadd hx hb dX5_run_189 ?_
        refine va_put (D := D) (ci := 5) (v := .int (y + 1)) (ty := .int) (C := RX5) (T := TX5) (N := 24) hx hb hts inX5_run tyX5 tyX5_ok nmX5 hown hK hP hD hS 0 rfl rfl 17 (by decide) fl129 (fun _ h9 => h9) rfl (by decide +kernel) rfl rfl (Nat.le_of_ble_eq_true rfl) dX5_run_190 (fun H locs hP hD hS => ?_)
        have hP : va_P D vwCl (wX5 cI cZ cG h5 a5 (nI nr) (nI nt) (nI nc) (nI nw) hd (nI wk) (nI ng) (nI nT) (y + 1) (nI nf) (nI nn) mru mth mcl mfa mwa mfz mbl mbk M2 mno mlo mip mto) H := hP
        have hD : va_D A (wX5 cI cZ cG h5 a5 (nI nr) (nI nt) (nI nc) (nI nw) hd (nI wk) (nI ng) (nI nT) (y + 1) (nI nf) (nI nn) mru mth mcl mfa mwa mfz mbl mbk M2 mno mlo mip mto) := hD
        refine lv_iinc (v := nI (i + 1)) (lv' := [(3, .int (nI (i + 1))), (4, .int (nI k)), (2, .int w), (0, .ref h5), (1, .int (nI n))]) hx hb dX5_run_193 hl (k := 1) rfl (inc1 _) (by decide) rfl (fun ls hl => ?_)
        refine lv_goto (tgt := 18) hx hb dX5_run_196 (by decide) ?_
        exact ih18 (i + 1) w M2 (y + 1) _ _ _ ⟨(by omega), (by rw [gM, ← hq]; exact hq2), heM2, hok2, (by rw [hy, nI_succ, Int32.add_assoc]), hP, hD, hS, lv_sub hl [0, 2, 3, 4] rfl⟩ (by omega)
      · have c4 : ¬ nT ≤ k := fun hq => c4 ((nI_leI (a := nT) (b := k) (by omega) (by omega)).mpr hq)
        have hk9 : k < nT := by omega
        obtain ⟨g0, n0, q, hr0, hrE, hn2, hn12, hnE, hq0, hqE⟩ := hok2 k hk9
        refine lv_bipush (v := 7) hx hb dX5_run_35 (by decide) ?_
        refine lv_iload hx hb dX5_run_37 (lv_at hl 0 rfl) ?_
        refine lv_imul hx hb dX5_run_39 ?_
        refine lv_topi (fun z5 ez5 => ?_)
        obtain rfl : z5 = nI (7 * k) := ez5.trans (pk_mul 7 k)
        refine lv_istore (lv' := [(5, .int (nI (7 * k))), (4, .int (nI k)), (3, .int (nI i)), (2, .int w), (0, .ref h5), (1, .int (nI n))]) hx hb dX5_run_40 hl (by decide) rfl (fun ls hl => ?_)
        refine lv_aload_n hx hb dX5_run_42 rfl (lv_at hl 4 rfl) ?_
        refine va_get (D := D) (ci := 5) (v := .ref (a5 8)) (C := RX5) (T := TX5) (N := 24) hx hb hts inX5_run hown hK hP 0 rfl rfl 16 (by decide) fl39 (fun _ h9 => h9) rfl dX5_run_43 ?_
        refine lv_iload hx hb dX5_run_46 (lv_at hl 0 rfl) ?_
        refine lv_iconst (v := 4) hx hb dX5_run_48 (by decide) ?_
        refine lv_iadd hx hb dX5_run_49 ?_
        refine lv_topi (fun z6 ez6 => ?_)
        obtain rfl : z6 = nI (7 * k + 4) := ez6.trans ((nI_add (7 * k) 4).trans (congrArg nI (by omega)))
        refine K_iald hx hb hK hP 9 0 rfl rfl (7 * k + 4) (by omega) (Nat.le_of_ble_eq_true rfl) dX5_run_50 ?_
        refine lv_if_ne (tgt := 177) hx hb dX5_run_51 (by decide) (fun c7 => ?_) (fun c7 => ?_)
        · refine lv_iinc (v := nI (k + 1)) (lv' := [(4, .int (nI (k + 1))), (5, .int (nI (7 * k))), (3, .int (nI i)), (2, .int w), (0, .ref h5), (1, .int (nI n))]) hx hb dX5_run_177 hl (k := 1) rfl (inc1 _) (by decide) rfl (fun ls hl => ?_)
          refine lv_goto (tgt := 26) hx hb dX5_run_180 (by decide) ?_
          exact ih26 (k + 1) w M2 _ _ _ ⟨(by omega), (gs_stuck hq2 heM2 c7), heM2, hok2, hP, hD, hS, lv_sub hl [0, 2, 3, 4, 5] rfl⟩ (by omega)
        · refine lv_aload_n hx hb dX5_run_54 rfl (lv_at hl 4 rfl) ?_
          refine va_get (D := D) (ci := 5) (v := .ref (a5 8)) (C := RX5) (T := TX5) (N := 24) hx hb hts inX5_run hown hK hP 0 rfl rfl 16 (by decide) fl39 (fun _ h9 => h9) rfl dX5_run_55 ?_
          refine lv_iload hx hb dX5_run_58 (lv_at hl 0 rfl) ?_
          refine lv_iconst (v := 3) hx hb dX5_run_60 (by decide) ?_
          refine lv_iadd hx hb dX5_run_61 ?_
          refine lv_topi (fun z8 ez8 => ?_)
          obtain rfl : z8 = nI (7 * k + 3) := ez8.trans ((nI_add (7 * k) 3).trans (congrArg nI (by omega)))
          refine lv_dup2_11 hx hb dX5_run_62 rfl rfl ?_
          refine K_iald hx hb hK hP 9 0 rfl rfl (7 * k + 3) (by omega) (Nat.le_of_ble_eq_true rfl) dX5_run_63 ?_
          refine lv_iconst (v := 1) hx hb dX5_run_64 (by decide) ?_
          refine lv_iadd hx hb dX5_run_65 ?_
          refine K_iast hx hb hK hP hD hS 9 0 rfl rfl (7 * k + 3) (by omega) (Nat.le_of_ble_eq_true rfl) dX5_run_66 (fun H locs hP hD hS => ?_)
          have hP : va_P D vwCl (wX5 cI cZ cG h5 a5 (nI nr) (nI nt) (nI nc) (nI nw) hd (nI wk) (nI ng) (nI nT) y (nI nf) (nI nn) mru mth mcl mfa mwa mfz mbl mbk (upd M2 (7 * k + 3) ((M2 (7 * k + 3)) + 1)) mno mlo mip mto) H := hP
          have hD : va_D A (wX5 cI cZ cG h5 a5 (nI nr) (nI nt) (nI nc) (nI nw) hd (nI wk) (nI ng) (nI nT) y (nI nf) (nI nn) mru mth mcl mfa mwa mfz mbl mbk (upd M2 (7 * k + 3) ((M2 (7 * k + 3)) + 1)) mno mlo mip mto) := hD
          refine lv_aload_n hx hb dX5_run_67 rfl (lv_at hl 4 rfl) ?_
          refine va_get (D := D) (ci := 5) (v := .ref (a5 8)) (C := RX5) (T := TX5) (N := 24) hx hb hts inX5_run hown hK hP 0 rfl rfl 16 (by decide) fl39 (fun _ h9 => h9) rfl dX5_run_68 ?_
          refine lv_iload hx hb dX5_run_71 (lv_at hl 0 rfl) ?_
          refine lv_iconst (v := 3) hx hb dX5_run_73 (by decide) ?_
          refine lv_iadd hx hb dX5_run_74 ?_
          refine lv_topi (fun z9 ez9 => ?_)
          obtain rfl : z9 = nI (7 * k + 3) := ez9.trans ((nI_add (7 * k) 3).trans (congrArg nI (by omega)))
          refine K_iald hx hb hK hP 9 0 rfl rfl (7 * k + 3) (by omega) (Nat.le_of_ble_eq_true rfl) dX5_run_75 ?_
          refine lv_topi (fun z10 ez10 => ?_)
          obtain rfl : z10 = (M2 (7 * k + 3)) + 1 := ez10.trans pk_us
          refine lv_aload_n hx hb dX5_run_76 rfl (lv_at hl 4 rfl) ?_
          refine va_get (D := D) (ci := 5) (v := .ref (a5 8)) (C := RX5) (T := TX5) (N := 24) hx hb hts inX5_run hown hK hP 0 rfl rfl 16 (by decide) fl39 (fun _ h9 => h9) rfl dX5_run_77 ?_
          refine lv_iload hx hb dX5_run_80 (lv_at hl 0 rfl) ?_
          refine lv_iconst (v := 2) hx hb dX5_run_82 (by decide) ?_
          refine lv_iadd hx hb dX5_run_83 ?_
          refine lv_topi (fun z11 ez11 => ?_)
          obtain rfl : z11 = nI (7 * k + 2) := ez11.trans ((nI_add (7 * k) 2).trans (congrArg nI (by omega)))
          refine K_iald hx hb hK hP 9 0 rfl rfl (7 * k + 2) (by omega) (Nat.le_of_ble_eq_true rfl) dX5_run_84 ?_
          refine lv_topi (fun z12 ez12 => ?_)
          obtain rfl : z12 = M2 (7 * k + 2) := ez12.trans (pk_un (by omega))
          refine lv_icmp_lt (tgt := 177) hx hb dX5_run_85 (by decide) (fun c13 => ?_) (fun c13 => ?_)
          · replace c13 := Int32.not_le.mpr c13
            refine lv_iinc (v := nI (k + 1)) (lv' := [(4, .int (nI (k + 1))), (5, .int (nI (7 * k))), (3, .int (nI i)), (2, .int w), (0, .ref h5), (1, .int (nI n))]) hx hb dX5_run_177 hl (k := 1) rfl (inc1 _) (by decide) rfl (fun ls hl => ?_)
            refine lv_goto (tgt := 26) hx hb dX5_run_180 (by decide) ?_
            exact ih26 (k + 1) w (upd M2 (7 * k + 3) ((M2 (7 * k + 3)) + 1)) _ _ _ ⟨(by omega), (gs_not hq2 heM2 c7 c13), (eqM_ne (by decide) (by decide) (by decide) (by decide) heM2), (okT_ne (by decide) (by decide) (by decide) hok2), hP, hD, hS, lv_sub hl [0, 2, 3, 4, 5] rfl⟩ (by omega)
          · replace c13 := Int32.not_lt.mp c13
            refine lv_aload_n hx hb dX5_run_88 rfl (lv_at hl 4 rfl) ?_
            refine lv_aload_n hx hb dX5_run_89 rfl (lv_at hl 4 rfl) ?_
            refine lv_iload hx hb dX5_run_90 (lv_at hl 1 rfl) ?_
            refine K_same (va_runV (As := [.int (nI k)]) (rest := [.ref h5]) ⟨hx, hb, hml, hown, hts⟩ (c_X5_nextOf l D cI cZ cG h5 a5 _ nr nt nc nw hd wk ng nT y nf nn mru mth mcl mfa mwa mfz mbl mbk (upd M2 (7 * k + 3) ((M2 (7 * k + 3)) + 1)) mno mlo mip mto k hnr hnt hnc hnw hwk hng hnT hnf hnn (by omega) (okT_ne (by decide) (by decide) (by decide) hok2)) (cwV 1 hts gX5_run_X5_nextOf rfl rfl rfl (by decide +kernel) ⟨(Nat.le_of_ble_eq_true rfl), (Nat.le_of_ble_eq_true rfl)⟩) ⟨PB_blind, va_recv hK hP (ci := 5) (q0 := 0) rfl rfl, (K_preS hN hK hP hD).2⟩ rfl rfl hl.1 rfl (lv_room (Nat.le_of_ble_eq_true rfl)) dX5_run_92 ⟨Nat.zero_le _, Nat.zero_le _⟩) hD hS hA (fun r14 u H locs hw14 hP hD hS => ?_)
            have hP : va_P D vwCl (wX5 cI cZ cG h5 a5 (nI nr) (nI nt) (nI nc) (nI nw) hd (nI wk) (nI ng) (nI nT) y (nI nf) (nI nn) mru mth mcl mfa mwa mfz mbl mbk (upd M2 (7 * k + 3) ((M2 (7 * k + 3)) + 1)) mno mlo mip mto) H := hP
            have hD : va_D A (wX5 cI cZ cG h5 a5 (nI nr) (nI nt) (nI nc) (nI nw) hd (nI wk) (nI ng) (nI nT) y (nI nf) (nI nn) mru mth mcl mfa mwa mfz mbl mbk (upd M2 (7 * k + 3) ((M2 (7 * k + 3)) + 1)) mno mlo mip mto) := hD
            obtain rfl := hw14
            refine K_same (va_runV (As := [.int (bkN (BM mbk) mbl (col 7 0 (upd M2 (7 * k + 3) ((M2 (7 * k + 3)) + 1))) (col 7 1 (upd M2 (7 * k + 3) ((M2 (7 * k + 3)) + 1))) k)]) (rest := []) ⟨hx, hb, hml, hown, hts⟩ (c_X5_trainIn l D cI cZ cG h5 a5 _ nr nt nc nw hd wk ng nT y nf nn mru mth mcl mfa mwa mfz mbl mbk (upd M2 (7 * k + 3) ((M2 (7 * k + 3)) + 1)) mno mlo mip mto (bkN (BM mbk) mbl (col 7 0 (upd M2 (7 * k + 3) ((M2 (7 * k + 3)) + 1))) (col 7 1 (upd M2 (7 * k + 3) ((M2 (7 * k + 3)) + 1))) k) hnr hnt hnc hnw hwk hng hnT hnf hnn (okT_ne (by decide) (by decide) (by decide) hok2)) (cwV 1 hts gX5_run_X5_trainIn rfl rfl rfl (by decide +kernel) ⟨(Nat.le_of_ble_eq_true rfl), (Nat.le_of_ble_eq_true rfl)⟩) ⟨PB_blind, va_recv hK hP (ci := 5) (q0 := 0) rfl rfl, (K_preS hN hK hP hD).2⟩ rfl rfl hl.1 rfl (lv_room (Nat.le_of_ble_eq_true rfl)) dX5_run_95 ⟨Nat.zero_le _, Nat.zero_le _⟩) hD hS hA (fun r15 u H locs hw15 hP hD hS => ?_)
            have hP : va_P D vwCl (wX5 cI cZ cG h5 a5 (nI nr) (nI nt) (nI nc) (nI nw) hd (nI wk) (nI ng) (nI nT) y (nI nf) (nI nn) mru mth mcl mfa mwa mfz mbl mbk (upd M2 (7 * k + 3) ((M2 (7 * k + 3)) + 1)) mno mlo mip mto) H := hP
            have hD : va_D A (wX5 cI cZ cG h5 a5 (nI nr) (nI nt) (nI nc) (nI nw) hd (nI wk) (nI ng) (nI nT) y (nI nf) (nI nn) mru mth mcl mfa mwa mfz mbl mbk (upd M2 (7 * k + 3) ((M2 (7 * k + 3)) + 1)) mno mlo mip mto) := hD
            rcases ho15 : tI (bkO (BM mbk) (col 7 0 (upd M2 (7 * k + 3) ((M2 (7 * k + 3)) + 1))) (col 7 1 (upd M2 (7 * k + 3) ((M2 (7 * k + 3)) + 1)))) (bkN (BM mbk) mbl (col 7 0 (upd M2 (7 * k + 3) ((M2 (7 * k + 3)) + 1))) (col 7 1 (upd M2 (7 * k + 3) ((M2 (7 * k + 3)) + 1))) k) nT with _ | b15
            · rw [ho15] at hw15
              obtain rfl : r15 = -6 := hw15
              have e0 : col 7 0 (upd M2 (7 * k + 3) (M2 (7 * k + 3) + 1)) = col 7 0 mtr := ((cu (by decide) (by decide)).trans (if_neg (by decide))).trans heM2.1
              have e1 : col 7 1 (upd M2 (7 * k + 3) (M2 (7 * k + 3) + 1)) = col 7 1 M2 := (cu (by decide) (by decide)).trans (if_neg (by decide))
              have haH : aH nT (BM mbk) mbl (col 7 0 mtr) (col 7 1 M2) k = none := by rw [← e0, ← e1]; exact ho15
              have hnx : nxP mbl (col 7 0 mtr) (col 7 1 M2) k = nI ((q + 1) % n0) := by rw [← heM2.1]; exact nxP_mod (by omega) hrE hn12 hnE hq0 hqE
              refine lv_if_ge (tgt := 164) hx hb dX5_run_98 (by decide) (fun c16 => absurd c16 (by decide)) (fun _ => ?_)
              refine lv_aload_n hx hb dX5_run_101 rfl (lv_at hl 4 rfl) ?_
              refine va_get (D := D) (ci := 5) (v := .ref (a5 8)) (C := RX5) (T := TX5) (N := 24) hx hb hts inX5_run hown hK hP 0 rfl rfl 16 (by decide) fl39 (fun _ h9 => h9) rfl dX5_run_102 ?_
              refine lv_iload hx hb dX5_run_105 (lv_at hl 0 rfl) ?_
              refine lv_iconst (v := 1) hx hb dX5_run_107 (by decide) ?_
              refine lv_iadd hx hb dX5_run_108 ?_
              refine lv_topi (fun z17 ez17 => ?_)
              obtain rfl : z17 = nI (7 * k + 1) := ez17.trans ((nI_add (7 * k) 1).trans (congrArg nI (by omega)))
              refine lv_aload_n hx hb dX5_run_109 rfl (lv_at hl 4 rfl) ?_
              refine va_get (D := D) (ci := 5) (v := .ref (a5 8)) (C := RX5) (T := TX5) (N := 24) hx hb hts inX5_run hown hK hP 0 rfl rfl 16 (by decide) fl39 (fun _ h9 => h9) rfl dX5_run_110 ?_
              refine lv_iload hx hb dX5_run_113 (lv_at hl 0 rfl) ?_
              refine lv_iconst (v := 1) hx hb dX5_run_115 (by decide) ?_
              refine lv_iadd hx hb dX5_run_116 ?_
              refine lv_topi (fun z18 ez18 => ?_)
              obtain rfl : z18 = nI (7 * k + 1) := ez18.trans ((nI_add (7 * k) 1).trans (congrArg nI (by omega)))
              refine K_iald hx hb hK hP 9 0 rfl rfl (7 * k + 1) (by omega) (Nat.le_of_ble_eq_true rfl) dX5_run_117 ?_
              refine lv_topi (fun z19 ez19 => ?_)
              obtain rfl : z19 = nI q := ez19.trans ((pk_un (by omega)).trans hqE)
              refine lv_iconst (v := 1) hx hb dX5_run_118 (by decide) ?_
              refine lv_iadd hx hb dX5_run_119 ?_
              refine lv_topi (fun z20 ez20 => ?_)
              obtain rfl : z20 = nI (q + 1) := ez20.trans (nI_add q 1)
              refine lv_aload_n hx hb dX5_run_120 rfl (lv_at hl 4 rfl) ?_
              refine va_get (D := D) (ci := 5) (v := .ref (a5 6)) (C := RX5) (T := TX5) (N := 24) hx hb hts inX5_run hown hK hP 0 rfl rfl 13 (by decide) fl33 (fun _ h9 => h9) rfl dX5_run_121 ?_
              refine lv_aload_n hx hb dX5_run_124 rfl (lv_at hl 4 rfl) ?_
              refine va_get (D := D) (ci := 5) (v := .ref (a5 8)) (C := RX5) (T := TX5) (N := 24) hx hb hts inX5_run hown hK hP 0 rfl rfl 16 (by decide) fl39 (fun _ h9 => h9) rfl dX5_run_125 ?_
              refine lv_iload hx hb dX5_run_128 (lv_at hl 0 rfl) ?_
              refine K_iald hx hb hK hP 9 0 rfl rfl (7 * k) (by omega) (Nat.le_of_ble_eq_true rfl) dX5_run_130 ?_
              refine lv_topi (fun z21 ez21 => ?_)
              obtain rfl : z21 = nI g0 := ez21.trans ((pk_un (by omega)).trans hrE)
              refine K_iald hx hb hK hP 7 0 rfl rfl g0 (by omega) (Nat.le_of_ble_eq_true rfl) dX5_run_131 ?_
              refine lv_topi (fun z22 ez22 => ?_)
              obtain rfl : z22 = nI n0 := ez22.trans hnE
              refine lv_irem hx hb dX5_run_132 (nI_ne0 (by omega) (by omega)) ?_
              refine lv_topi (fun z23 ez23 => ?_)
              obtain rfl : z23 = nI ((q + 1) % n0) := ez23.trans (pk_rem (a := q + 1) (d := n0) (by omega) (by omega) (by omega))
              refine K_iast hx hb hK hP hD hS 9 0 rfl rfl (7 * k + 1) (by omega) (Nat.le_of_ble_eq_true rfl) dX5_run_133 (fun H locs hP hD hS => ?_)
              have hP : va_P D vwCl (wX5 cI cZ cG h5 a5 (nI nr) (nI nt) (nI nc) (nI nw) hd (nI wk) (nI ng) (nI nT) y (nI nf) (nI nn) mru mth mcl mfa mwa mfz mbl mbk (upd (upd M2 (7 * k + 3) ((M2 (7 * k + 3)) + 1)) (7 * k + 1) (nI ((q + 1) % n0))) mno mlo mip mto) H := hP
              have hD : va_D A (wX5 cI cZ cG h5 a5 (nI nr) (nI nt) (nI nc) (nI nw) hd (nI wk) (nI ng) (nI nT) y (nI nf) (nI nn) mru mth mcl mfa mwa mfz mbl mbk (upd (upd M2 (7 * k + 3) ((M2 (7 * k + 3)) + 1)) (7 * k + 1) (nI ((q + 1) % n0))) mno mlo mip mto) := hD
              refine lv_aload_n hx hb dX5_run_134 rfl (lv_at hl 4 rfl) ?_
              refine va_get (D := D) (ci := 5) (v := .ref (a5 8)) (C := RX5) (T := TX5) (N := 24) hx hb hts inX5_run hown hK hP 0 rfl rfl 16 (by decide) fl39 (fun _ h9 => h9) rfl dX5_run_135 ?_
              refine lv_iload hx hb dX5_run_138 (lv_at hl 0 rfl) ?_
              refine lv_iconst (v := 3) hx hb dX5_run_140 (by decide) ?_
              refine lv_iadd hx hb dX5_run_141 ?_
              refine lv_topi (fun z24 ez24 => ?_)
              obtain rfl : z24 = nI (7 * k + 3) := ez24.trans ((nI_add (7 * k) 3).trans (congrArg nI (by omega)))
              refine lv_iconst (v := 0) hx hb dX5_run_142 (by decide) ?_
              refine K_iast hx hb hK hP hD hS 9 0 rfl rfl (7 * k + 3) (by omega) (Nat.le_of_ble_eq_true rfl) dX5_run_143 (fun H locs hP hD hS => ?_)
              have hP : va_P D vwCl (wX5 cI cZ cG h5 a5 (nI nr) (nI nt) (nI nc) (nI nw) hd (nI wk) (nI ng) (nI nT) y (nI nf) (nI nn) mru mth mcl mfa mwa mfz mbl mbk (upd (upd (upd M2 (7 * k + 3) ((M2 (7 * k + 3)) + 1)) (7 * k + 1) (nI ((q + 1) % n0))) (7 * k + 3) 0) mno mlo mip mto) H := hP
              have hD : va_D A (wX5 cI cZ cG h5 a5 (nI nr) (nI nt) (nI nc) (nI nw) hd (nI wk) (nI ng) (nI nT) y (nI nf) (nI nn) mru mth mcl mfa mwa mfz mbl mbk (upd (upd (upd M2 (7 * k + 3) ((M2 (7 * k + 3)) + 1)) (7 * k + 1) (nI ((q + 1) % n0))) (7 * k + 3) 0) mno mlo mip mto) := hD
              refine lv_aload_n hx hb dX5_run_144 rfl (lv_at hl 4 rfl) ?_
              refine va_get (D := D) (ci := 5) (v := .ref (a5 8)) (C := RX5) (T := TX5) (N := 24) hx hb hts inX5_run hown hK hP 0 rfl rfl 16 (by decide) fl39 (fun _ h9 => h9) rfl dX5_run_145 ?_
              refine lv_iload hx hb dX5_run_148 (lv_at hl 0 rfl) ?_
              refine lv_bipush (v := 6) hx hb dX5_run_150 (by decide) ?_
              refine lv_iadd hx hb dX5_run_152 ?_
              refine lv_topi (fun z25 ez25 => ?_)
              obtain rfl : z25 = nI (7 * k + 6) := ez25.trans ((nI_add (7 * k) 6).trans (congrArg nI (by omega)))
              refine lv_dup2_11 hx hb dX5_run_153 rfl rfl ?_
              refine K_iald hx hb hK hP 9 0 rfl rfl (7 * k + 6) (by omega) (Nat.le_of_ble_eq_true rfl) dX5_run_154 ?_
              refine lv_topi (fun z26 ez26 => ?_)
              obtain rfl : z26 = M2 (7 * k + 6) := ez26.trans ((pk_un (by omega)).trans ((pk_un (by omega)).trans (pk_un (by omega))))
              refine lv_iconst (v := 1) hx hb dX5_run_155 (by decide) ?_
              refine lv_iadd hx hb dX5_run_156 ?_
              refine K_iast hx hb hK hP hD hS 9 0 rfl rfl (7 * k + 6) (by omega) (Nat.le_of_ble_eq_true rfl) dX5_run_157 (fun H locs hP hD hS => ?_)
              have hP : va_P D vwCl (wX5 cI cZ cG h5 a5 (nI nr) (nI nt) (nI nc) (nI nw) hd (nI wk) (nI ng) (nI nT) y (nI nf) (nI nn) mru mth mcl mfa mwa mfz mbl mbk (upd (upd (upd (upd M2 (7 * k + 3) ((M2 (7 * k + 3)) + 1)) (7 * k + 1) (nI ((q + 1) % n0))) (7 * k + 3) 0) (7 * k + 6) ((M2 (7 * k + 6)) + 1)) mno mlo mip mto) H := hP
              have hD : va_D A (wX5 cI cZ cG h5 a5 (nI nr) (nI nt) (nI nc) (nI nw) hd (nI wk) (nI ng) (nI nT) y (nI nf) (nI nn) mru mth mcl mfa mwa mfz mbl mbk (upd (upd (upd (upd M2 (7 * k + 3) ((M2 (7 * k + 3)) + 1)) (7 * k + 1) (nI ((q + 1) % n0))) (7 * k + 3) 0) (7 * k + 6) ((M2 (7 * k + 6)) + 1)) mno mlo mip mto) := hD
              refine lv_iinc (v := w + 1) (lv' := [(2, .int (w + 1)), (5, .int (nI (7 * k))), (4, .int (nI k)), (3, .int (nI i)), (0, .ref h5), (1, .int (nI n))]) hx hb dX5_run_158 hl (k := 3) rfl rfl (by decide) rfl (fun ls hl => ?_)
              refine lv_goto (tgt := 177) hx hb dX5_run_161 (by decide) ?_
              refine lv_iinc (v := nI (k + 1)) (lv' := [(4, .int (nI (k + 1))), (2, .int (w + 1)), (5, .int (nI (7 * k))), (3, .int (nI i)), (0, .ref h5), (1, .int (nI n))]) hx hb dX5_run_177 hl (k := 2) rfl (inc1 _) (by decide) rfl (fun ls hl => ?_)
              refine lv_goto (tgt := 26) hx hb dX5_run_180 (by decide) ?_
              exact ih26 (k + 1) (w + 1) (upd (upd (upd (upd M2 (7 * k + 3) ((M2 (7 * k + 3)) + 1)) (7 * k + 1) (nI ((q + 1) % n0))) (7 * k + 3) 0) (7 * k + 6) ((M2 (7 * k + 6)) + 1)) _ _ _ ⟨(by omega), (gs_go hq2 heM2 c7 c13 haH hnx), (eqM_ne (by decide) (by decide) (by decide) (by decide) (eqM_ne (by decide) (by decide) (by decide) (by decide) (eqM_ne (by decide) (by decide) (by decide) (by decide) (eqM_ne (by decide) (by decide) (by decide) (by decide) heM2)))), (okT_ne (by decide) (by decide) (by decide) (okT_ne (by decide) (by decide) (by decide) (okT_go hrE hr0 hnE hn2 hn12 (Nat.mod_lt _ (by omega)) (okT_ne (by decide) (by decide) (by decide) hok2)))), hP, hD, hS, lv_sub hl [0, 3, 1, 4, 5] rfl⟩ (by omega)
            · rw [ho15] at hw15
              obtain rfl : r15 = nI b15 := hw15
              have hbb := tI_lt ho15
              have e0 : col 7 0 (upd M2 (7 * k + 3) (M2 (7 * k + 3) + 1)) = col 7 0 mtr := ((cu (by decide) (by decide)).trans (if_neg (by decide))).trans heM2.1
              have e1 : col 7 1 (upd M2 (7 * k + 3) (M2 (7 * k + 3) + 1)) = col 7 1 M2 := (cu (by decide) (by decide)).trans (if_neg (by decide))
              have haH : aH nT (BM mbk) mbl (col 7 0 mtr) (col 7 1 M2) k = some b15 := by rw [← e0, ← e1]; exact ho15
              refine lv_if_ge (tgt := 164) hx hb dX5_run_98 (by decide) (fun c27 => ?_) (fun c27 => absurd (nI_pos' (by omega)) c27)
              refine lv_aload_n hx hb dX5_run_164 rfl (lv_at hl 4 rfl) ?_
              refine va_get (D := D) (ci := 5) (v := .ref (a5 8)) (C := RX5) (T := TX5) (N := 24) hx hb hts inX5_run hown hK hP 0 rfl rfl 16 (by decide) fl39 (fun _ h9 => h9) rfl dX5_run_165 ?_
              refine lv_iload hx hb dX5_run_168 (lv_at hl 0 rfl) ?_
              refine lv_iconst (v := 5) hx hb dX5_run_170 (by decide) ?_
              refine lv_iadd hx hb dX5_run_171 ?_
              refine lv_topi (fun z28 ez28 => ?_)
              obtain rfl : z28 = nI (7 * k + 5) := ez28.trans ((nI_add (7 * k) 5).trans (congrArg nI (by omega)))
              refine lv_dup2_11 hx hb dX5_run_172 rfl rfl ?_
              refine K_iald hx hb hK hP 9 0 rfl rfl (7 * k + 5) (by omega) (Nat.le_of_ble_eq_true rfl) dX5_run_173 ?_
              refine lv_topi (fun z29 ez29 => ?_)
              obtain rfl : z29 = M2 (7 * k + 5) := ez29.trans (pk_un (by omega))
              refine lv_iconst (v := 1) hx hb dX5_run_174 (by decide) ?_
              refine lv_iadd hx hb dX5_run_175 ?_
              refine K_iast hx hb hK hP hD hS 9 0 rfl rfl (7 * k + 5) (by omega) (Nat.le_of_ble_eq_true rfl) dX5_run_176 (fun H locs hP hD hS => ?_)
              have hP : va_P D vwCl (wX5 cI cZ cG h5 a5 (nI nr) (nI nt) (nI nc) (nI nw) hd (nI wk) (nI ng) (nI nT) y (nI nf) (nI nn) mru mth mcl mfa mwa mfz mbl mbk (upd (upd M2 (7 * k + 3) ((M2 (7 * k + 3)) + 1)) (7 * k + 5) ((M2 (7 * k + 5)) + 1)) mno mlo mip mto) H := hP
              have hD : va_D A (wX5 cI cZ cG h5 a5 (nI nr) (nI nt) (nI nc) (nI nw) hd (nI wk) (nI ng) (nI nT) y (nI nf) (nI nn) mru mth mcl mfa mwa mfz mbl mbk (upd (upd M2 (7 * k + 3) ((M2 (7 * k + 3)) + 1)) (7 * k + 5) ((M2 (7 * k + 5)) + 1)) mno mlo mip mto) := hD
              refine lv_iinc (v := nI (k + 1)) (lv' := [(4, .int (nI (k + 1))), (5, .int (nI (7 * k))), (3, .int (nI i)), (2, .int w), (0, .ref h5), (1, .int (nI n))]) hx hb dX5_run_177 hl (k := 1) rfl (inc1 _) (by decide) rfl (fun ls hl => ?_)
              refine lv_goto (tgt := 26) hx hb dX5_run_180 (by decide) ?_
              exact ih26 (k + 1) w (upd (upd M2 (7 * k + 3) ((M2 (7 * k + 3)) + 1)) (7 * k + 5) ((M2 (7 * k + 5)) + 1)) _ _ _ ⟨(by omega), (gs_wait hq2 heM2 c7 c13 (by rw [haH]; exact fun h => nomatch h)), (eqM_ne (by decide) (by decide) (by decide) (by decide) (eqM_ne (by decide) (by decide) (by decide) (by decide) heM2)), (okT_ne (by decide) (by decide) (by decide) (okT_ne (by decide) (by decide) (by decide) hok2)), hP, hD, hS, lv_sub hl [0, 2, 3, 4, 5] rfl⟩ (by omega)
  · skip
    refine lv_if_ne (tgt := 14) hx hb dX5_run_8 (by decide) (fun c30 => absurd c30 (by decide)) (fun _ => ?_)
    refine lv_bipush (v := (-2)) hx hb dX5_run_11 (by decide) ?_
    exact K_iret (wf := (fun (u : (Nat → Int32) × Int32) => wX5 cI cZ cG h5 a5 (nI nr) (nI nt) (nI nc) (nI nw) hd (nI wk) (nI ng) (nI nT) u.2 (nI nf) (nI nn) mru mth mcl mfa mwa mfz mbl mbk u.1 mno mlo mip mto)) (mtr, mi) hx hb hr hlocks hP hK hD hS dX5_run_13 (⟨by rw [if_neg hw1], fun h => absurd h hw1, fun _ => rfl⟩)
theorem inX5_trainOf : ∀ w ∈ wsX50, w ∈ wsX5_trainOf := by decide +kernel
set_option maxHeartbeats 8000000 in
set_option maxRecDepth 100000 in
/-- trainOf -/
theorem c_X5_trainOf (l : Launch) (D : va_G) (cI cZ cG : ClassId) (h5 : Nat) (a5 : Nat → Nat) (sz : Nat) (nr : Nat) (nt : Nat) (nc : Nat) (nw : Nat) (hd : Int32) (wk : Nat) (ng : Nat) (nT : Nat) (mi : Int32) (nf : Nat) (nn : Nat) (mru : Nat → Int32) (mth : Nat → Int32) (mcl : Nat → Int32) (mfa : Nat → Int32) (mwa : Nat → Int32) (mfz : Nat → Int32) (mbl : Nat → Int32) (mbk : Nat → Int32) (mtr : Nat → Int32) (mno : Nat → Int32) (mlo : Nat → Int32) (mip : Nat → Int32) (mto : Nat → Int32) (x : Int32) (w : Int32) (hnr : nr ≤ 6) (hnt : nt ≤ 20) (hnc : nc ≤ 60) (hnw : nw ≤ 24) (hwk : wk ≤ 200) (hng : ng ≤ 3) (hnT : nT ≤ 4) (hnf : nf ≤ 12) (hnn : nn ≤ 60) (hokT : okT ng nT mbl (col 7 0 mtr) (col 7 1 mtr)) : Met l yX5_trainOf wsX5_trainOf ({ frames := 3, cells := 0, slots := 0, locals := 65 } : Room) (va_Pc [.ref h5, .int x, .int w] (PB D (tyL cI cZ cG) (wX5 cI cZ cG h5 a5 (nI nr) (nI nt) (nI nc) (nI nw) hd (nI wk) (nI ng) (nI nT) mi (nI nf) (nI nn) mru mth mcl mfa mwa mfz mbl mbk mtr mno mlo mip mto) sz)) (va_Qi (fun (r : Int32) (_ : Unit) => r = rAbout nT (BM mbk) mbl (col 7 0 mtr) (col 7 1 mtr) (col 7 3 mtr) (col 7 5 mtr) (col 7 6 mtr) (col 7 4 mtr) x w) (fun u => QB D (tyL cI cZ cG) (va_A (wX5 cI cZ cG h5 a5 (nI nr) (nI nt) (nI nc) (nI nw) hd (nI wk) (nI ng) (nI nT) mi (nI nf) (nI nn) mru mth mcl mfa mwa mfz mbl mbk mtr mno mlo mip mto) sz) ((fun (_ : Unit) => wX5 cI cZ cG h5 a5 (nI nr) (nI nt) (nI nc) (nI nw) hd (nI wk) (nI ng) (nI nT) mi (nI nf) (nI nn) mru mth mcl mfa mwa mfz mbl mbk mtr mno mlo mip mto) u)) (va_A (wX5 cI cZ cG h5 a5 (nI nr) (nI nt) (nI nc) (nI nw) hd (nI wk) (nI ng) (nI nT) mi (nI nf) (nI nn) mru mth mcl mfa mwa mfz mbl mbk mtr mno mlo mip mto) sz)) 0 0 (va_A (wX5 cI cZ cG h5 a5 (nI nr) (nI nt) (nI nc) (nI nw) hd (nI wk) (nI ng) (nI nT) mi (nI nf) (nI nn) mru mth mcl mfa mwa mfz mbl mbk mtr mno mlo mip mto) sz) := by
  refine K_start (cc := cX5_trainOf) (maxL := 4) (ret := some .int) (Qc := fun A => va_Qi (fun (r : Int32) (_ : Unit) => r = rAbout nT (BM mbk) mbl (col 7 0 mtr) (col 7 1 mtr) (col 7 3 mtr) (col 7 5 mtr) (col 7 6 mtr) (col 7 4 mtr) x w) (fun u => QB D (tyL cI cZ cG) A ((fun (_ : Unit) => wX5 cI cZ cG h5 a5 (nI nr) (nI nt) (nI nc) (nI nw) hd (nI wk) (nI ng) (nI nT) mi (nI nf) (nI nn) mru mth mcl mfa mwa mfz mbl mbk mtr mno mlo mip mto) u)) A) (by decide) rfl (Nat.le_of_ble_eq_true rfl) ?_
  intro p e s m below meth c ls A hx hb hml hr hts hown hlocks hin hN hP hK hD hA hS hl hsz
  have hl : lv_has ls 4 [(0, .ref h5), (1, .int x), (2, .int w)] := hl
  have fl39 := hts (.fieldLink RX5 39 "ModelTownModel" "train" "[I") (by decide +kernel)
  refine lv_aload_n hx hb dX5_trainOf_0 rfl (lv_at hl 0 rfl) ?_
  refine lv_iload_n hx hb dX5_trainOf_1 rfl (lv_at hl 1 rfl) ?_
  refine K_same (va_runV (As := [.int x]) (rest := []) ⟨hx, hb, hml, hown, hts⟩ (c_X5_isTrain l D cI cZ cG h5 a5 _ nr nt nc nw hd wk ng nT mi nf nn mru mth mcl mfa mwa mfz mbl mbk mtr mno mlo mip mto x hnr hnt hnc hnw hwk hng hnT hnf hnn) (cwV 1 hts gX5_trainOf_X5_isTrain rfl rfl rfl (by decide +kernel) ⟨(Nat.le_of_ble_eq_true rfl), (Nat.le_of_ble_eq_true rfl)⟩) ⟨PB_blind, va_recv hK hP (ci := 5) (q0 := 0) rfl rfl, (K_preS hN hK hP hD).2⟩ rfl rfl hl.1 rfl (lv_room (Nat.le_of_ble_eq_true rfl)) dX5_trainOf_2 ⟨Nat.zero_le _, Nat.zero_le _⟩) hD hS hA (fun r1 u H locs hw1 hP hD hS => ?_)
  have hP : va_P D vwCl (wX5 cI cZ cG h5 a5 (nI nr) (nI nt) (nI nc) (nI nw) hd (nI wk) (nI ng) (nI nT) mi (nI nf) (nI nn) mru mth mcl mfa mwa mfz mbl mbk mtr mno mlo mip mto) H := hP
  have hD : va_D A (wX5 cI cZ cG h5 a5 (nI nr) (nI nt) (nI nc) (nI nw) hd (nI wk) (nI ng) (nI nT) mi (nI nf) (nI nn) mru mth mcl mfa mwa mfz mbl mbk mtr mno mlo mip mto) := hD
  rcases hw1 with ⟨rfl, hw1⟩ | ⟨rfl, hw1⟩
  · obtain ⟨t, ht, rfl⟩ := inR_lt (by omega) hw1
    have hct : (nI t).toNatClampNeg = t := nI_clamp (by omega)
    refine lv_if_ne (tgt := 10) hx hb dX5_trainOf_5 (by decide) (fun _ => ?_) (fun c2 => absurd c2 (by decide))
    refine lv_bipush (v := 7) hx hb dX5_trainOf_10 (by decide) ?_
    refine lv_iload_n hx hb dX5_trainOf_12 rfl (lv_at hl 1 rfl) ?_
    refine lv_imul hx hb dX5_trainOf_13 ?_
    refine lv_topi (fun z3 ez3 => ?_)
    obtain rfl : z3 = nI (7 * t) := ez3.trans (pk_mul 7 t)
    refine lv_istore_n (lv' := [(3, .int (nI (7 * t))), (0, .ref h5), (1, .int (nI t)), (2, .int w)]) hx hb dX5_trainOf_14 rfl hl (by decide) rfl (fun ls hl => ?_)
    refine lv_iload_n hx hb dX5_trainOf_15 rfl (lv_at hl 3 rfl) ?_
    rcases (sw_8 w : w = 0 ∨ w = 1 ∨ w = 2 ∨ w = 3 ∨ w = 4 ∨ w = 5 ∨ w = 6 ∨ w = 7 ∨ (w.toInt < 0 ∨ 7 < w.toInt)) with hsw4 | hsw4 | hsw4 | hsw4 | hsw4 | hsw4 | hsw4 | hsw4 | hsw4
    · subst hsw4
      refine lv_tableIn (off := 48) (tgt := 64) hx hb dX5_trainOf_16 (by decide) (by decide) (by rfl) (by decide) ?_
      refine lv_aload_n hx hb dX5_trainOf_64 rfl (lv_at hl 1 rfl) ?_
      refine va_get (D := D) (ci := 5) (v := .ref (a5 8)) (C := RX5) (T := TX5) (N := 24) hx hb hts inX5_trainOf hown hK hP 0 rfl rfl 16 (by decide) fl39 (fun _ h9 => h9) rfl dX5_trainOf_65 ?_
      refine lv_iload_n hx hb dX5_trainOf_68 rfl (lv_at hl 0 rfl) ?_
      refine K_iald hx hb hK hP 9 0 rfl rfl (7 * t) (by omega) (Nat.le_of_ble_eq_true rfl) dX5_trainOf_69 ?_
      exact K_iret (wf := (fun (_ : Unit) => wX5 cI cZ cG h5 a5 (nI nr) (nI nt) (nI nc) (nI nw) hd (nI wk) (nI ng) (nI nT) mi (nI nf) (nI nn) mru mth mcl mfa mwa mfz mbl mbk mtr mno mlo mip mto)) () hx hb hr hlocks hP hK hD hS dX5_trainOf_70 (by simp [rAbout, aH, col, oI, hw1, hct])
    · subst hsw4
      refine lv_tableIn (off := 55) (tgt := 71) hx hb dX5_trainOf_16 (by decide) (by decide) (by rfl) (by decide) ?_
      refine lv_aload_n hx hb dX5_trainOf_71 rfl (lv_at hl 1 rfl) ?_
      refine va_get (D := D) (ci := 5) (v := .ref (a5 8)) (C := RX5) (T := TX5) (N := 24) hx hb hts inX5_trainOf hown hK hP 0 rfl rfl 16 (by decide) fl39 (fun _ h9 => h9) rfl dX5_trainOf_72 ?_
      refine lv_iload_n hx hb dX5_trainOf_75 rfl (lv_at hl 0 rfl) ?_
      refine lv_iconst (v := 1) hx hb dX5_trainOf_76 (by decide) ?_
      refine lv_iadd hx hb dX5_trainOf_77 ?_
      refine lv_topi (fun z5 ez5 => ?_)
      obtain rfl : z5 = nI (7 * t + 1) := ez5.trans ((nI_add (7 * t) 1).trans (congrArg nI (by omega)))
      refine K_iald hx hb hK hP 9 0 rfl rfl (7 * t + 1) (by omega) (Nat.le_of_ble_eq_true rfl) dX5_trainOf_78 ?_
      exact K_iret (wf := (fun (_ : Unit) => wX5 cI cZ cG h5 a5 (nI nr) (nI nt) (nI nc) (nI nw) hd (nI wk) (nI ng) (nI nT) mi (nI nf) (nI nn) mru mth mcl mfa mwa mfz mbl mbk mtr mno mlo mip mto)) () hx hb hr hlocks hP hK hD hS dX5_trainOf_79 (by simp [rAbout, aH, col, oI, hw1, hct])
    · subst hsw4
      refine lv_tableIn (off := 64) (tgt := 80) hx hb dX5_trainOf_16 (by decide) (by decide) (by rfl) (by decide) ?_
      refine lv_aload_n hx hb dX5_trainOf_80 rfl (lv_at hl 1 rfl) ?_
      refine lv_iload_n hx hb dX5_trainOf_81 rfl (lv_at hl 2 rfl) ?_
      refine K_same (va_runV (As := [.int (nI t)]) (rest := []) ⟨hx, hb, hml, hown, hts⟩ (c_X5_blockOf l D cI cZ cG h5 a5 _ nr nt nc nw hd wk ng nT mi nf nn mru mth mcl mfa mwa mfz mbl mbk mtr mno mlo mip mto t hnr hnt hnc hnw hwk hng hnT hnf hnn (by omega) hokT) (cwV 1 hts gX5_trainOf_X5_blockOf rfl rfl rfl (by decide +kernel) ⟨(Nat.le_of_ble_eq_true rfl), (Nat.le_of_ble_eq_true rfl)⟩) ⟨PB_blind, va_recv hK hP (ci := 5) (q0 := 0) rfl rfl, (K_preS hN hK hP hD).2⟩ rfl rfl hl.1 rfl (lv_room (Nat.le_of_ble_eq_true rfl)) dX5_trainOf_82 ⟨Nat.zero_le _, Nat.zero_le _⟩) hD hS hA (fun r6 u H locs hw6 hP hD hS => ?_)
      have hP : va_P D vwCl (wX5 cI cZ cG h5 a5 (nI nr) (nI nt) (nI nc) (nI nw) hd (nI wk) (nI ng) (nI nT) mi (nI nf) (nI nn) mru mth mcl mfa mwa mfz mbl mbk mtr mno mlo mip mto) H := hP
      have hD : va_D A (wX5 cI cZ cG h5 a5 (nI nr) (nI nt) (nI nc) (nI nw) hd (nI wk) (nI ng) (nI nT) mi (nI nf) (nI nn) mru mth mcl mfa mwa mfz mbl mbk mtr mno mlo mip mto) := hD
      obtain rfl := hw6
      exact K_iret (wf := (fun (_ : Unit) => wX5 cI cZ cG h5 a5 (nI nr) (nI nt) (nI nc) (nI nw) hd (nI wk) (nI ng) (nI nT) mi (nI nf) (nI nn) mru mth mcl mfa mwa mfz mbl mbk mtr mno mlo mip mto)) () hx hb hr hlocks hP hK hD hS dX5_trainOf_85 (by simp [rAbout, aH, col, oI, hw1, hct])
    · subst hsw4
      refine lv_tableIn (off := 70) (tgt := 86) hx hb dX5_trainOf_16 (by decide) (by decide) (by rfl) (by decide) ?_
      refine lv_aload_n hx hb dX5_trainOf_86 rfl (lv_at hl 1 rfl) ?_
      refine va_get (D := D) (ci := 5) (v := .ref (a5 8)) (C := RX5) (T := TX5) (N := 24) hx hb hts inX5_trainOf hown hK hP 0 rfl rfl 16 (by decide) fl39 (fun _ h9 => h9) rfl dX5_trainOf_87 ?_
      refine lv_iload_n hx hb dX5_trainOf_90 rfl (lv_at hl 0 rfl) ?_
      refine lv_iconst (v := 3) hx hb dX5_trainOf_91 (by decide) ?_
      refine lv_iadd hx hb dX5_trainOf_92 ?_
      refine lv_topi (fun z7 ez7 => ?_)
      obtain rfl : z7 = nI (7 * t + 3) := ez7.trans ((nI_add (7 * t) 3).trans (congrArg nI (by omega)))
      refine K_iald hx hb hK hP 9 0 rfl rfl (7 * t + 3) (by omega) (Nat.le_of_ble_eq_true rfl) dX5_trainOf_93 ?_
      exact K_iret (wf := (fun (_ : Unit) => wX5 cI cZ cG h5 a5 (nI nr) (nI nt) (nI nc) (nI nw) hd (nI wk) (nI ng) (nI nT) mi (nI nf) (nI nn) mru mth mcl mfa mwa mfz mbl mbk mtr mno mlo mip mto)) () hx hb hr hlocks hP hK hD hS dX5_trainOf_94 (by simp [rAbout, aH, col, oI, hw1, hct])
    · subst hsw4
      refine lv_tableIn (off := 79) (tgt := 95) hx hb dX5_trainOf_16 (by decide) (by decide) (by rfl) (by decide) ?_
      refine lv_aload_n hx hb dX5_trainOf_95 rfl (lv_at hl 1 rfl) ?_
      refine va_get (D := D) (ci := 5) (v := .ref (a5 8)) (C := RX5) (T := TX5) (N := 24) hx hb hts inX5_trainOf hown hK hP 0 rfl rfl 16 (by decide) fl39 (fun _ h9 => h9) rfl dX5_trainOf_96 ?_
      refine lv_iload_n hx hb dX5_trainOf_99 rfl (lv_at hl 0 rfl) ?_
      refine lv_iconst (v := 4) hx hb dX5_trainOf_100 (by decide) ?_
      refine lv_iadd hx hb dX5_trainOf_101 ?_
      refine lv_topi (fun z8 ez8 => ?_)
      obtain rfl : z8 = nI (7 * t + 4) := ez8.trans ((nI_add (7 * t) 4).trans (congrArg nI (by omega)))
      refine K_iald hx hb hK hP 9 0 rfl rfl (7 * t + 4) (by omega) (Nat.le_of_ble_eq_true rfl) dX5_trainOf_102 ?_
      exact K_iret (wf := (fun (_ : Unit) => wX5 cI cZ cG h5 a5 (nI nr) (nI nt) (nI nc) (nI nw) hd (nI wk) (nI ng) (nI nT) mi (nI nf) (nI nn) mru mth mcl mfa mwa mfz mbl mbk mtr mno mlo mip mto)) () hx hb hr hlocks hP hK hD hS dX5_trainOf_103 (by simp [rAbout, aH, col, oI, hw1, hct])
    · subst hsw4
      refine lv_tableIn (off := 88) (tgt := 104) hx hb dX5_trainOf_16 (by decide) (by decide) (by rfl) (by decide) ?_
      refine lv_aload_n hx hb dX5_trainOf_104 rfl (lv_at hl 1 rfl) ?_
      refine va_get (D := D) (ci := 5) (v := .ref (a5 8)) (C := RX5) (T := TX5) (N := 24) hx hb hts inX5_trainOf hown hK hP 0 rfl rfl 16 (by decide) fl39 (fun _ h9 => h9) rfl dX5_trainOf_105 ?_
      refine lv_iload_n hx hb dX5_trainOf_108 rfl (lv_at hl 0 rfl) ?_
      refine lv_iconst (v := 5) hx hb dX5_trainOf_109 (by decide) ?_
      refine lv_iadd hx hb dX5_trainOf_110 ?_
      refine lv_topi (fun z9 ez9 => ?_)
      obtain rfl : z9 = nI (7 * t + 5) := ez9.trans ((nI_add (7 * t) 5).trans (congrArg nI (by omega)))
      refine K_iald hx hb hK hP 9 0 rfl rfl (7 * t + 5) (by omega) (Nat.le_of_ble_eq_true rfl) dX5_trainOf_111 ?_
      exact K_iret (wf := (fun (_ : Unit) => wX5 cI cZ cG h5 a5 (nI nr) (nI nt) (nI nc) (nI nw) hd (nI wk) (nI ng) (nI nT) mi (nI nf) (nI nn) mru mth mcl mfa mwa mfz mbl mbk mtr mno mlo mip mto)) () hx hb hr hlocks hP hK hD hS dX5_trainOf_112 (by simp [rAbout, aH, col, oI, hw1, hct])
    · subst hsw4
      refine lv_tableIn (off := 97) (tgt := 113) hx hb dX5_trainOf_16 (by decide) (by decide) (by rfl) (by decide) ?_
      refine lv_aload_n hx hb dX5_trainOf_113 rfl (lv_at hl 1 rfl) ?_
      refine va_get (D := D) (ci := 5) (v := .ref (a5 8)) (C := RX5) (T := TX5) (N := 24) hx hb hts inX5_trainOf hown hK hP 0 rfl rfl 16 (by decide) fl39 (fun _ h9 => h9) rfl dX5_trainOf_114 ?_
      refine lv_iload_n hx hb dX5_trainOf_117 rfl (lv_at hl 0 rfl) ?_
      refine lv_bipush (v := 6) hx hb dX5_trainOf_118 (by decide) ?_
      refine lv_iadd hx hb dX5_trainOf_120 ?_
      refine lv_topi (fun z10 ez10 => ?_)
      obtain rfl : z10 = nI (7 * t + 6) := ez10.trans ((nI_add (7 * t) 6).trans (congrArg nI (by omega)))
      refine K_iald hx hb hK hP 9 0 rfl rfl (7 * t + 6) (by omega) (Nat.le_of_ble_eq_true rfl) dX5_trainOf_121 ?_
      exact K_iret (wf := (fun (_ : Unit) => wX5 cI cZ cG h5 a5 (nI nr) (nI nt) (nI nc) (nI nw) hd (nI wk) (nI ng) (nI nT) mi (nI nf) (nI nn) mru mth mcl mfa mwa mfz mbl mbk mtr mno mlo mip mto)) () hx hb hr hlocks hP hK hD hS dX5_trainOf_122 (by simp [rAbout, aH, col, oI, hw1, hct])
    · subst hsw4
      refine lv_tableIn (off := 107) (tgt := 123) hx hb dX5_trainOf_16 (by decide) (by decide) (by rfl) (by decide) ?_
      refine lv_aload_n hx hb dX5_trainOf_123 rfl (lv_at hl 1 rfl) ?_
      refine lv_aload_n hx hb dX5_trainOf_124 rfl (lv_at hl 1 rfl) ?_
      refine lv_iload_n hx hb dX5_trainOf_125 rfl (lv_at hl 2 rfl) ?_
      refine K_same (va_runV (As := [.int (nI t)]) (rest := [.ref h5]) ⟨hx, hb, hml, hown, hts⟩ (c_X5_nextOf l D cI cZ cG h5 a5 _ nr nt nc nw hd wk ng nT mi nf nn mru mth mcl mfa mwa mfz mbl mbk mtr mno mlo mip mto t hnr hnt hnc hnw hwk hng hnT hnf hnn (by omega) hokT) (cwV 1 hts gX5_trainOf_X5_nextOf rfl rfl rfl (by decide +kernel) ⟨(Nat.le_of_ble_eq_true rfl), (Nat.le_of_ble_eq_true rfl)⟩) ⟨PB_blind, va_recv hK hP (ci := 5) (q0 := 0) rfl rfl, (K_preS hN hK hP hD).2⟩ rfl rfl hl.1 rfl (lv_room (Nat.le_of_ble_eq_true rfl)) dX5_trainOf_126 ⟨Nat.zero_le _, Nat.zero_le _⟩) hD hS hA (fun r11 u H locs hw11 hP hD hS => ?_)
      have hP : va_P D vwCl (wX5 cI cZ cG h5 a5 (nI nr) (nI nt) (nI nc) (nI nw) hd (nI wk) (nI ng) (nI nT) mi (nI nf) (nI nn) mru mth mcl mfa mwa mfz mbl mbk mtr mno mlo mip mto) H := hP
      have hD : va_D A (wX5 cI cZ cG h5 a5 (nI nr) (nI nt) (nI nc) (nI nw) hd (nI wk) (nI ng) (nI nT) mi (nI nf) (nI nn) mru mth mcl mfa mwa mfz mbl mbk mtr mno mlo mip mto) := hD
      obtain rfl := hw11
      refine K_same (va_runV (As := [.int (bkN (BM mbk) mbl (col 7 0 mtr) (col 7 1 mtr) t)]) (rest := []) ⟨hx, hb, hml, hown, hts⟩ (c_X5_trainIn l D cI cZ cG h5 a5 _ nr nt nc nw hd wk ng nT mi nf nn mru mth mcl mfa mwa mfz mbl mbk mtr mno mlo mip mto (bkN (BM mbk) mbl (col 7 0 mtr) (col 7 1 mtr) t) hnr hnt hnc hnw hwk hng hnT hnf hnn hokT) (cwV 1 hts gX5_trainOf_X5_trainIn rfl rfl rfl (by decide +kernel) ⟨(Nat.le_of_ble_eq_true rfl), (Nat.le_of_ble_eq_true rfl)⟩) ⟨PB_blind, va_recv hK hP (ci := 5) (q0 := 0) rfl rfl, (K_preS hN hK hP hD).2⟩ rfl rfl hl.1 rfl (lv_room (Nat.le_of_ble_eq_true rfl)) dX5_trainOf_129 ⟨Nat.zero_le _, Nat.zero_le _⟩) hD hS hA (fun r12 u H locs hw12 hP hD hS => ?_)
      have hP : va_P D vwCl (wX5 cI cZ cG h5 a5 (nI nr) (nI nt) (nI nc) (nI nw) hd (nI wk) (nI ng) (nI nT) mi (nI nf) (nI nn) mru mth mcl mfa mwa mfz mbl mbk mtr mno mlo mip mto) H := hP
      have hD : va_D A (wX5 cI cZ cG h5 a5 (nI nr) (nI nt) (nI nc) (nI nw) hd (nI wk) (nI ng) (nI nT) mi (nI nf) (nI nn) mru mth mcl mfa mwa mfz mbl mbk mtr mno mlo mip mto) := hD
      rcases ho12 : tI (bkO (BM mbk) (col 7 0 mtr) (col 7 1 mtr)) (bkN (BM mbk) mbl (col 7 0 mtr) (col 7 1 mtr) t) nT with _ | b12
      · rw [ho12] at hw12
        obtain rfl : r12 = -6 := hw12
        exact K_iret (wf := (fun (_ : Unit) => wX5 cI cZ cG h5 a5 (nI nr) (nI nt) (nI nc) (nI nw) hd (nI wk) (nI ng) (nI nT) mi (nI nf) (nI nn) mru mth mcl mfa mwa mfz mbl mbk mtr mno mlo mip mto)) () hx hb hr hlocks hP hK hD hS dX5_trainOf_132 (by simp [rAbout, aH, col, oI, hw1, hct, ho12])
      · rw [ho12] at hw12
        obtain rfl : r12 = nI b12 := hw12
        have hbb := tI_lt ho12
        exact K_iret (wf := (fun (_ : Unit) => wX5 cI cZ cG h5 a5 (nI nr) (nI nt) (nI nc) (nI nw) hd (nI wk) (nI ng) (nI nT) mi (nI nf) (nI nn) mru mth mcl mfa mwa mfz mbl mbk mtr mno mlo mip mto)) () hx hb hr hlocks hP hK hD hS dX5_trainOf_132 (by simp [rAbout, aH, col, oI, hw1, hct, ho12])
    · have n13 : ¬ w = 0 := fun hq => by rw [hq] at hsw4; revert hsw4; decide
      have n14 : ¬ w = 1 := fun hq => by rw [hq] at hsw4; revert hsw4; decide
      have n15 : ¬ w = 2 := fun hq => by rw [hq] at hsw4; revert hsw4; decide
      have n16 : ¬ w = 3 := fun hq => by rw [hq] at hsw4; revert hsw4; decide
      have n17 : ¬ w = 4 := fun hq => by rw [hq] at hsw4; revert hsw4; decide
      have n18 : ¬ w = 5 := fun hq => by rw [hq] at hsw4; revert hsw4; decide
      have n19 : ¬ w = 6 := fun hq => by rw [hq] at hsw4; revert hsw4; decide
      have n20 : ¬ w = 7 := fun hq => by rw [hq] at hsw4; revert hsw4; decide
      refine lv_tableOut (tgt := 133) hx hb dX5_trainOf_16 hsw4 (by decide) ?_
      refine lv_bipush (v := (-2)) hx hb dX5_trainOf_133 (by decide) ?_
      exact K_iret (wf := (fun (_ : Unit) => wX5 cI cZ cG h5 a5 (nI nr) (nI nt) (nI nc) (nI nw) hd (nI wk) (nI ng) (nI nT) mi (nI nf) (nI nn) mru mth mcl mfa mwa mfz mbl mbk mtr mno mlo mip mto)) () hx hb hr hlocks hP hK hD hS dX5_trainOf_135 (by simp [rAbout, aH, col, oI, hw1, hct, n13, n14, n15, n16, n17, n18, n19, n20])
  · skip
    refine lv_if_ne (tgt := 10) hx hb dX5_trainOf_5 (by decide) (fun c21 => absurd c21 (by decide)) (fun _ => ?_)
    refine lv_iconst (v := (-1)) hx hb dX5_trainOf_8 (by decide) ?_
    exact K_iret (wf := (fun (_ : Unit) => wX5 cI cZ cG h5 a5 (nI nr) (nI nt) (nI nc) (nI nw) hd (nI wk) (nI ng) (nI nT) mi (nI nf) (nI nn) mru mth mcl mfa mwa mfz mbl mbk mtr mno mlo mip mto)) () hx hb hr hlocks hP hK hD hS dX5_trainOf_9 (by simp [rAbout, aH, col, oI, hw1])
theorem inX5_stands : ∀ w ∈ wsX50, w ∈ wsX5_stands := by decide +kernel
set_option maxHeartbeats 8000000 in
set_option maxRecDepth 100000 in
/-- stands -/
theorem c_X5_stands (l : Launch) (D : va_G) (cI cZ cG : ClassId) (h5 : Nat) (a5 : Nat → Nat) (sz : Nat) (nr : Nat) (nt : Nat) (nc : Nat) (nw : Nat) (hd : Int32) (wk : Nat) (ng : Nat) (nT : Nat) (mi : Int32) (nf : Nat) (nn : Nat) (mru : Nat → Int32) (mth : Nat → Int32) (mcl : Nat → Int32) (mfa : Nat → Int32) (mwa : Nat → Int32) (mfz : Nat → Int32) (mbl : Nat → Int32) (mbk : Nat → Int32) (mtr : Nat → Int32) (mno : Nat → Int32) (mlo : Nat → Int32) (mip : Nat → Int32) (mto : Nat → Int32) (hnr : nr ≤ 6) (hnt : nt ≤ 20) (hnc : nc ≤ 60) (hnw : nw ≤ 24) (hwk : wk ≤ 200) (hng : ng ≤ 3) (hnT : nT ≤ 4) (hnf : nf ≤ 12) (hnn : nn ≤ 60) (hokT : okT ng nT mbl (col 7 0 mtr) (col 7 1 mtr)) (hsu : ∀ k : Nat, col 7 4 mtr k = 0 ∨ col 7 4 mtr k = 1) : Met l yX5_stands wsX5_stands ({ frames := 3, cells := 0, slots := 0, locals := 65 } : Room) (va_Pc [.ref h5] (PB D (tyL cI cZ cG) (wX5 cI cZ cG h5 a5 (nI nr) (nI nt) (nI nc) (nI nw) hd (nI wk) (nI ng) (nI nT) mi (nI nf) (nI nn) mru mth mcl mfa mwa mfz mbl mbk mtr mno mlo mip mto) sz)) (va_Qi (fun (r : Int32) (_ : Unit) => r = sO (fun t s => mgo (col 7 4 mtr t) (aH nT (BM mbk) mbl (col 7 0 mtr) (col 7 1 mtr) t) s) nT nT) (fun u => QB D (tyL cI cZ cG) (va_A (wX5 cI cZ cG h5 a5 (nI nr) (nI nt) (nI nc) (nI nw) hd (nI wk) (nI ng) (nI nT) mi (nI nf) (nI nn) mru mth mcl mfa mwa mfz mbl mbk mtr mno mlo mip mto) sz) ((fun (_ : Unit) => wX5 cI cZ cG h5 a5 (nI nr) (nI nt) (nI nc) (nI nw) hd (nI wk) (nI ng) (nI nT) mi (nI nf) (nI nn) mru mth mcl mfa mwa mfz mbl mbk mtr mno mlo mip mto) u)) (va_A (wX5 cI cZ cG h5 a5 (nI nr) (nI nt) (nI nc) (nI nw) hd (nI wk) (nI ng) (nI nT) mi (nI nf) (nI nn) mru mth mcl mfa mwa mfz mbl mbk mtr mno mlo mip mto) sz)) 0 0 (va_A (wX5 cI cZ cG h5 a5 (nI nr) (nI nt) (nI nc) (nI nw) hd (nI wk) (nI ng) (nI nT) mi (nI nf) (nI nn) mru mth mcl mfa mwa mfz mbl mbk mtr mno mlo mip mto) sz) := by
  refine K_start (cc := cX5_stands) (maxL := 6) (ret := some .int) (Qc := fun A => va_Qi (fun (r : Int32) (_ : Unit) => r = sO (fun t s => mgo (col 7 4 mtr t) (aH nT (BM mbk) mbl (col 7 0 mtr) (col 7 1 mtr) t) s) nT nT) (fun u => QB D (tyL cI cZ cG) A ((fun (_ : Unit) => wX5 cI cZ cG h5 a5 (nI nr) (nI nt) (nI nc) (nI nw) hd (nI wk) (nI ng) (nI nT) mi (nI nf) (nI nn) mru mth mcl mfa mwa mfz mbl mbk mtr mno mlo mip mto) u)) A) (by decide) rfl (Nat.le_of_ble_eq_true rfl) ?_
  intro p e s m below meth c ls A hx hb hml hr hts hown hlocks hin hN hP hK hD hA hS hl hsz
  have hl : lv_has ls 6 [(0, .ref h5)] := hl
  have fl110 := hts (.fieldLink RX5 110 "ModelTownModel" "trains" "I") (by decide +kernel)
  have fl39 := hts (.fieldLink RX5 39 "ModelTownModel" "train" "[I") (by decide +kernel)
  refine lv_iconst (v := 1) hx hb dX5_stands_0 (by decide) ?_
  refine lv_aload_n hx hb dX5_stands_1 rfl (lv_at hl 0 rfl) ?_
  refine va_get (D := D) (ci := 5) (v := .int (nI nT)) (C := RX5) (T := TX5) (N := 24) hx hb hts inX5_stands hown hK hP 0 rfl rfl 15 (by decide) fl110 (fun _ h9 => h9) rfl dX5_stands_2 ?_
  refine lv_ishl hx hb dX5_stands_5 ?_
  refine lv_iconst (v := 1) hx hb dX5_stands_6 (by decide) ?_
  refine lv_isub hx hb dX5_stands_7 ?_
  refine lv_topi (fun z1 ez1 => ?_)
  obtain rfl : z1 = nI (2 ^ nT - 1) := ez1.trans (bit_ini nT (by omega))
  refine lv_istore_n (lv' := [(1, .int (nI (2 ^ nT - 1))), (0, .ref h5)]) hx hb dX5_stands_8 rfl hl (by decide) rfl (fun ls hl => ?_)
  refine lv_iconst (v := 1) hx hb dX5_stands_9 (by decide) ?_
  refine lv_istore_n (lv' := [(2, .int 1), (1, .int (nI (2 ^ nT - 1))), (0, .ref h5)]) hx hb dX5_stands_10 rfl hl (by decide) rfl (fun ls hl => ?_)
  refine loopW3 (fun (z : Nat) (r : Nat) (y : Int32) H locs ls => (z < 16) ∧ (nI z = sO (fun t s => mgo (col 7 4 mtr t) (aH nT (BM mbk) mbl (col 7 0 mtr) (col 7 1 mtr) t) s) nT r) ∧ (y = 1 ∨ (y = 0 ∧ sI (fun t s => mgo (col 7 4 mtr t) (aH nT (BM mbk) mbl (col 7 0 mtr) (col 7 1 mtr) t) s) (nI z) nT = nI z)) ∧ va_P D vwCl (wX5 cI cZ cG h5 a5 (nI nr) (nI nt) (nI nc) (nI nw) hd (nI wk) (nI ng) (nI nT) mi (nI nf) (nI nn) mru mth mcl mfa mwa mfz mbl mbk mtr mno mlo mip mto) H ∧ va_D A (wX5 cI cZ cG h5 a5 (nI nr) (nI nt) (nI nc) (nI nw) hd (nI wk) (nI ng) (nI nT) mi (nI nf) (nI nn) mru mth mcl mfa mwa mfz mbl mbk mtr mno mlo mip mto) ∧ va_S A s.heap H locs ∧ lv_has ls 6 [(2, .int y), (1, .int (nI z)), (0, .ref h5)]) (fun (z : Nat) (r : Nat) (y : Int32) => 2 * z + (if y = 0 then 0 else 1)) (fun z r y H locs ls hI ih11 => ?_) (2 ^ nT - 1) 0 1 _ _ _ ⟨((pc4_i nT (by omega)).2), ((bit_ini nT (by omega)).symm), (Or.inl rfl), hP, hD, hS, lv_sub hl [0, 1, 2] rfl⟩
  obtain ⟨hz16, hz, hy, hP, hD, hS, hl⟩ := hI
  refine lv_iload_n hx hb dX5_stands_11 rfl (lv_at hl 0 rfl) ?_
  refine lv_if_eq (tgt := 108) hx hb dX5_stands_12 (by decide) (fun c2 => ?_) (fun c2 => ?_)
  · have hy0 := hy.resolve_left (by rw [c2]; decide)
    refine lv_iload_n hx hb dX5_stands_108 rfl (lv_at hl 1 rfl) ?_
    exact K_iret (wf := (fun (_ : Unit) => wX5 cI cZ cG h5 a5 (nI nr) (nI nt) (nI nc) (nI nw) hd (nI wk) (nI ng) (nI nT) mi (nI nf) (nI nn) mru mth mcl mfa mwa mfz mbl mbk mtr mno mlo mip mto)) () hx hb hr hlocks hP hK hD hS dX5_stands_109 (hz.trans (sO_end hnT (by rw [← hz]; exact hy0.2)))
  · refine lv_iconst (v := 0) hx hb dX5_stands_15 (by decide) ?_
    refine lv_istore_n (lv' := [(2, .int 0), (1, .int (nI z)), (0, .ref h5)]) hx hb dX5_stands_16 rfl hl (by decide) rfl (fun ls hl => ?_)
    refine lv_iconst (v := 0) hx hb dX5_stands_17 (by decide) ?_
    refine lv_istore_n (lv' := [(3, .int 0), (2, .int 0), (1, .int (nI z)), (0, .ref h5)]) hx hb dX5_stands_18 rfl hl (by decide) rfl (fun ls hl => ?_)
    refine loopW3 (fun (k : Nat) (v : Nat) (y2 : Int32) H locs ls => (k ≤ nT) ∧ (v < 16) ∧ (nI v = sI (fun t s => mgo (col 7 4 mtr t) (aH nT (BM mbk) mbl (col 7 0 mtr) (col 7 1 mtr) t) s) (nI z) k) ∧ ((y2 = 0 ∧ v = z) ∨ (y2 = 1 ∧ v < z)) ∧ va_P D vwCl (wX5 cI cZ cG h5 a5 (nI nr) (nI nt) (nI nc) (nI nw) hd (nI wk) (nI ng) (nI nT) mi (nI nf) (nI nn) mru mth mcl mfa mwa mfz mbl mbk mtr mno mlo mip mto) H ∧ va_D A (wX5 cI cZ cG h5 a5 (nI nr) (nI nt) (nI nc) (nI nw) hd (nI wk) (nI ng) (nI nT) mi (nI nf) (nI nn) mru mth mcl mfa mwa mfz mbl mbk mtr mno mlo mip mto) ∧ va_S A s.heap H locs ∧ lv_has ls 6 [(3, .int (nI k)), (2, .int y2), (1, .int (nI v)), (0, .ref h5)]) (fun (k : Nat) (v : Nat) (y2 : Int32) => nT - k) (fun k v y2 H locs ls hI ih19 => ?_) 0 z 0 _ _ _ ⟨(by omega), hz16, rfl, (Or.inl ⟨rfl, rfl⟩), hP, hD, hS, lv_sub hl [0, 1, 2, 3] rfl⟩
    obtain ⟨hk, hv16, hv, hy2, hP, hD, hS, hl⟩ := hI
    refine lv_iload_n hx hb dX5_stands_19 rfl (lv_at hl 0 rfl) ?_
    refine lv_aload_n hx hb dX5_stands_20 rfl (lv_at hl 3 rfl) ?_
    refine va_get (D := D) (ci := 5) (v := .int (nI nT)) (C := RX5) (T := TX5) (N := 24) hx hb hts inX5_stands hown hK hP 0 rfl rfl 15 (by decide) fl110 (fun _ h9 => h9) rfl dX5_stands_21 ?_
    refine lv_icmp_ge (tgt := 105) hx hb dX5_stands_24 (by decide) (fun c3 => ?_) (fun c3 => ?_)
    · have c3 : nT ≤ k := (nI_leI (a := nT) (b := k) (by omega) (by omega)).mp c3
      have ek : k = nT := by omega
      rw [ek] at hv
      refine lv_goto (tgt := 11) hx hb dX5_stands_105 (by decide) ?_
      exact ih11 v (r + 1) y2 _ _ _ ⟨hv16, (by rw [sO, ← hz]; exact hv), (by
        rcases hy2 with ⟨q1, q2⟩ | ⟨q1, q2⟩
        · exact Or.inr ⟨q1, by rw [q2] at hv ⊢; exact hv.symm⟩
        · exact Or.inl q1), hP, hD, hS, lv_sub hl [1, 2, 3] rfl⟩ (by
        rw [if_neg c2]
        rcases hy2 with ⟨q1, q2⟩ | ⟨q1, q2⟩
        · rw [q1, if_pos rfl]; omega
        · rw [q1, if_neg (by decide)]; omega)
    · have c3 : ¬ nT ≤ k := fun hq => c3 ((nI_leI (a := nT) (b := k) (by omega) (by omega)).mpr hq)
      have hk9 : k < nT := by omega
      refine lv_aload_n hx hb dX5_stands_27 rfl (lv_at hl 3 rfl) ?_
      refine lv_aload_n hx hb dX5_stands_28 rfl (lv_at hl 3 rfl) ?_
      refine lv_iload_n hx hb dX5_stands_29 rfl (lv_at hl 0 rfl) ?_
      refine K_same (va_runV (As := [.int (nI k)]) (rest := [.ref h5]) ⟨hx, hb, hml, hown, hts⟩ (c_X5_nextOf l D cI cZ cG h5 a5 _ nr nt nc nw hd wk ng nT mi nf nn mru mth mcl mfa mwa mfz mbl mbk mtr mno mlo mip mto k hnr hnt hnc hnw hwk hng hnT hnf hnn (by omega) hokT) (cwV 1 hts gX5_stands_X5_nextOf rfl rfl rfl (by decide +kernel) ⟨(Nat.le_of_ble_eq_true rfl), (Nat.le_of_ble_eq_true rfl)⟩) ⟨PB_blind, va_recv hK hP (ci := 5) (q0 := 0) rfl rfl, (K_preS hN hK hP hD).2⟩ rfl rfl hl.1 rfl (lv_room (Nat.le_of_ble_eq_true rfl)) dX5_stands_30 ⟨Nat.zero_le _, Nat.zero_le _⟩) hD hS hA (fun r4 u H locs hw4 hP hD hS => ?_)
      have hP : va_P D vwCl (wX5 cI cZ cG h5 a5 (nI nr) (nI nt) (nI nc) (nI nw) hd (nI wk) (nI ng) (nI nT) mi (nI nf) (nI nn) mru mth mcl mfa mwa mfz mbl mbk mtr mno mlo mip mto) H := hP
      have hD : va_D A (wX5 cI cZ cG h5 a5 (nI nr) (nI nt) (nI nc) (nI nw) hd (nI wk) (nI ng) (nI nT) mi (nI nf) (nI nn) mru mth mcl mfa mwa mfz mbl mbk mtr mno mlo mip mto) := hD
      obtain rfl := hw4
      refine K_same (va_runV (As := [.int (bkN (BM mbk) mbl (col 7 0 mtr) (col 7 1 mtr) k)]) (rest := []) ⟨hx, hb, hml, hown, hts⟩ (c_X5_trainIn l D cI cZ cG h5 a5 _ nr nt nc nw hd wk ng nT mi nf nn mru mth mcl mfa mwa mfz mbl mbk mtr mno mlo mip mto (bkN (BM mbk) mbl (col 7 0 mtr) (col 7 1 mtr) k) hnr hnt hnc hnw hwk hng hnT hnf hnn hokT) (cwV 1 hts gX5_stands_X5_trainIn rfl rfl rfl (by decide +kernel) ⟨(Nat.le_of_ble_eq_true rfl), (Nat.le_of_ble_eq_true rfl)⟩) ⟨PB_blind, va_recv hK hP (ci := 5) (q0 := 0) rfl rfl, (K_preS hN hK hP hD).2⟩ rfl rfl hl.1 rfl (lv_room (Nat.le_of_ble_eq_true rfl)) dX5_stands_33 ⟨Nat.zero_le _, Nat.zero_le _⟩) hD hS hA (fun r5 u H locs hw5 hP hD hS => ?_)
      have hP : va_P D vwCl (wX5 cI cZ cG h5 a5 (nI nr) (nI nt) (nI nc) (nI nw) hd (nI wk) (nI ng) (nI nT) mi (nI nf) (nI nn) mru mth mcl mfa mwa mfz mbl mbk mtr mno mlo mip mto) H := hP
      have hD : va_D A (wX5 cI cZ cG h5 a5 (nI nr) (nI nt) (nI nc) (nI nw) hd (nI wk) (nI ng) (nI nT) mi (nI nf) (nI nn) mru mth mcl mfa mwa mfz mbl mbk mtr mno mlo mip mto) := hD
      rcases ho5 : tI (bkO (BM mbk) (col 7 0 mtr) (col 7 1 mtr)) (bkN (BM mbk) mbl (col 7 0 mtr) (col 7 1 mtr) k) nT with _ | b5
      · rw [ho5] at hw5
        obtain rfl : r5 = -6 := hw5
        refine lv_istore (lv' := [(4, .int (-6)), (3, .int (nI k)), (2, .int y2), (1, .int (nI v)), (0, .ref h5)]) hx hb dX5_stands_36 hl (by decide) rfl (fun ls hl => ?_)
        refine lv_aload_n hx hb dX5_stands_38 rfl (lv_at hl 4 rfl) ?_
        refine va_get (D := D) (ci := 5) (v := .ref (a5 8)) (C := RX5) (T := TX5) (N := 24) hx hb hts inX5_stands hown hK hP 0 rfl rfl 16 (by decide) fl39 (fun _ h9 => h9) rfl dX5_stands_39 ?_
        refine lv_bipush (v := 7) hx hb dX5_stands_42 (by decide) ?_
        refine lv_iload_n hx hb dX5_stands_44 rfl (lv_at hl 1 rfl) ?_
        refine lv_imul hx hb dX5_stands_45 ?_
        refine lv_topi (fun z6 ez6 => ?_)
        obtain rfl : z6 = nI (7 * k) := ez6.trans (pk_mul 7 k)
        refine lv_iconst (v := 4) hx hb dX5_stands_46 (by decide) ?_
        refine lv_iadd hx hb dX5_stands_47 ?_
        refine lv_topi (fun z7 ez7 => ?_)
        obtain rfl : z7 = nI (7 * k + 4) := ez7.trans ((nI_add (7 * k) 4).trans (congrArg nI (by omega)))
        refine K_iald hx hb hK hP 9 0 rfl rfl (7 * k + 4) (by omega) (Nat.le_of_ble_eq_true rfl) dX5_stands_48 ?_
        refine lv_iconst (v := 1) hx hb dX5_stands_49 (by decide) ?_
        refine lv_icmp_eq (tgt := 68) hx hb dX5_stands_50 (by decide) (fun c8 => ?_) (fun c8 => ?_)
        · have hf : ¬ ((fun t s => mgo (col 7 4 mtr t) (aH nT (BM mbk) mbl (col 7 0 mtr) (col 7 1 mtr) t) s) k (nI v)) = true := by simp [mgo, col, c8]
          refine lv_iconst (v := 1) hx hb dX5_stands_68 (by decide) ?_
          refine lv_goto (tgt := 73) hx hb dX5_stands_69 (by decide) ?_
          refine lv_istore (lv' := [(5, .int 1), (4, .int (-6)), (3, .int (nI k)), (2, .int y2), (1, .int (nI v)), (0, .ref h5)]) hx hb dX5_stands_73 hl (by decide) rfl (fun ls hl => ?_)
          refine lv_iload_n hx hb dX5_stands_75 rfl (lv_at hl 4 rfl) ?_
          refine lv_iload_n hx hb dX5_stands_76 rfl (lv_at hl 2 rfl) ?_
          refine lv_ishr hx hb dX5_stands_77 ?_
          refine lv_iconst (v := 1) hx hb dX5_stands_78 (by decide) ?_
          refine lv_iand hx hb dX5_stands_79 ?_
          refine lv_iconst (v := 1) hx hb dX5_stands_80 (by decide) ?_
          refine lv_icmp_ne (tgt := 99) hx hb dX5_stands_81 (by decide) (fun c9 => ?_) (fun c9 => ?_)
          · refine lv_iinc (v := nI (k + 1)) (lv' := [(3, .int (nI (k + 1))), (5, .int 1), (4, .int (-6)), (2, .int y2), (1, .int (nI v)), (0, .ref h5)]) hx hb dX5_stands_99 hl (k := 2) rfl (inc1 _) (by decide) rfl (fun ls hl => ?_)
            refine lv_goto (tgt := 19) hx hb dX5_stands_102 (by decide) ?_
            exact ih19 (k + 1) v y2 _ _ _ ⟨(by omega), hv16, ((sI_step hv hv16 (by omega)).2 (fun h9 => c9 h9.2)), hy2, hP, hD, hS, lv_sub hl [0, 3, 4, 5] rfl⟩ (by omega)
          · refine lv_iload hx hb dX5_stands_84 (lv_at hl 0 rfl) ?_
            refine lv_if_ne (tgt := 99) hx hb dX5_stands_86 (by decide) (fun _ => ?_) (fun c10 => absurd c10 (by decide))
            refine lv_iinc (v := nI (k + 1)) (lv' := [(3, .int (nI (k + 1))), (5, .int 1), (4, .int (-6)), (2, .int y2), (1, .int (nI v)), (0, .ref h5)]) hx hb dX5_stands_99 hl (k := 2) rfl (inc1 _) (by decide) rfl (fun ls hl => ?_)
            refine lv_goto (tgt := 19) hx hb dX5_stands_102 (by decide) ?_
            exact ih19 (k + 1) v y2 _ _ _ ⟨(by omega), hv16, ((sI_step hv hv16 (by omega)).2 (fun h9 => hf h9.1)), hy2, hP, hD, hS, lv_sub hl [0, 3, 4, 5] rfl⟩ (by omega)
        · have hs0 : mtr (7 * k + 4) = 0 := (hsu k).resolve_right c8
          have hf : ((fun t s => mgo (col 7 4 mtr t) (aH nT (BM mbk) mbl (col 7 0 mtr) (col 7 1 mtr) t) s) k (nI v)) = true := by simp [mgo, col, hs0, aH, ho5]
          refine lv_iload hx hb dX5_stands_53 (lv_at hl 0 rfl) ?_
          refine lv_if_lt (tgt := 72) hx hb dX5_stands_55 (by decide) (fun _ => ?_) (fun c11 => absurd c11 (by decide))
          refine lv_iconst (v := 0) hx hb dX5_stands_72 (by decide) ?_
          refine lv_istore (lv' := [(5, .int 0), (4, .int (-6)), (3, .int (nI k)), (2, .int y2), (1, .int (nI v)), (0, .ref h5)]) hx hb dX5_stands_73 hl (by decide) rfl (fun ls hl => ?_)
          refine lv_iload_n hx hb dX5_stands_75 rfl (lv_at hl 4 rfl) ?_
          refine lv_iload_n hx hb dX5_stands_76 rfl (lv_at hl 2 rfl) ?_
          refine lv_ishr hx hb dX5_stands_77 ?_
          refine lv_iconst (v := 1) hx hb dX5_stands_78 (by decide) ?_
          refine lv_iand hx hb dX5_stands_79 ?_
          refine lv_iconst (v := 1) hx hb dX5_stands_80 (by decide) ?_
          refine lv_icmp_ne (tgt := 99) hx hb dX5_stands_81 (by decide) (fun c12 => ?_) (fun c12 => ?_)
          · refine lv_iinc (v := nI (k + 1)) (lv' := [(3, .int (nI (k + 1))), (5, .int 0), (4, .int (-6)), (2, .int y2), (1, .int (nI v)), (0, .ref h5)]) hx hb dX5_stands_99 hl (k := 2) rfl (inc1 _) (by decide) rfl (fun ls hl => ?_)
            refine lv_goto (tgt := 19) hx hb dX5_stands_102 (by decide) ?_
            exact ih19 (k + 1) v y2 _ _ _ ⟨(by omega), hv16, ((sI_step hv hv16 (by omega)).2 (fun h9 => c12 h9.2)), hy2, hP, hD, hS, lv_sub hl [0, 3, 4, 5] rfl⟩ (by omega)
          · refine lv_iload hx hb dX5_stands_84 (lv_at hl 0 rfl) ?_
            refine lv_if_ne (tgt := 99) hx hb dX5_stands_86 (by decide) (fun c13 => absurd c13 (by decide)) (fun _ => ?_)
            refine lv_iload_n hx hb dX5_stands_89 rfl (lv_at hl 4 rfl) ?_
            refine lv_iconst (v := 1) hx hb dX5_stands_90 (by decide) ?_
            refine lv_iload_n hx hb dX5_stands_91 rfl (lv_at hl 2 rfl) ?_
            refine lv_ishl hx hb dX5_stands_92 ?_
            refine lv_iconst (v := (-1)) hx hb dX5_stands_93 (by decide) ?_
            refine lv_ixor hx hb dX5_stands_94 ?_
            refine lv_iand hx hb dX5_stands_95 ?_
            refine lv_topi (fun z14 ez14 => ?_)
            obtain rfl : z14 = nI (clr v k) := ez14.trans ((bit_all v hv16 k (by omega)).1)
            refine lv_istore_n (lv' := [(1, .int (nI (clr v k))), (5, .int 0), (4, .int (-6)), (3, .int (nI k)), (2, .int y2), (0, .ref h5)]) hx hb dX5_stands_96 rfl hl (by decide) rfl (fun ls hl => ?_)
            refine lv_iconst (v := 1) hx hb dX5_stands_97 (by decide) ?_
            refine lv_istore_n (lv' := [(2, .int 1), (1, .int (nI (clr v k))), (5, .int 0), (4, .int (-6)), (3, .int (nI k)), (0, .ref h5)]) hx hb dX5_stands_98 rfl hl (by decide) rfl (fun ls hl => ?_)
            refine lv_iinc (v := nI (k + 1)) (lv' := [(3, .int (nI (k + 1))), (2, .int 1), (1, .int (nI (clr v k))), (5, .int 0), (4, .int (-6)), (0, .ref h5)]) hx hb dX5_stands_99 hl (k := 4) rfl (inc1 _) (by decide) rfl (fun ls hl => ?_)
            refine lv_goto (tgt := 19) hx hb dX5_stands_102 (by decide) ?_
            exact ih19 (k + 1) (clr v k) 1 _ _ _ ⟨(by omega), ((clr_all v hv16 k (by omega)).1), (((sI_step hv hv16 (by omega)).1 hf c12).1), (Or.inr ⟨rfl, by
              have h9 := ((sI_step hv hv16 (by omega)).1 hf c12).2.1
              rcases hy2 with ⟨_, q2⟩ | ⟨_, q2⟩ <;> omega⟩), hP, hD, hS, lv_sub hl [0, 1, 2, 5] rfl⟩ (by omega)
      · rw [ho5] at hw5
        obtain rfl : r5 = nI b5 := hw5
        have hbb := tI_lt ho5
        have hoo := ho5
        refine lv_istore (lv' := [(4, .int (nI b5)), (3, .int (nI k)), (2, .int y2), (1, .int (nI v)), (0, .ref h5)]) hx hb dX5_stands_36 hl (by decide) rfl (fun ls hl => ?_)
        refine lv_aload_n hx hb dX5_stands_38 rfl (lv_at hl 4 rfl) ?_
        refine va_get (D := D) (ci := 5) (v := .ref (a5 8)) (C := RX5) (T := TX5) (N := 24) hx hb hts inX5_stands hown hK hP 0 rfl rfl 16 (by decide) fl39 (fun _ h9 => h9) rfl dX5_stands_39 ?_
        refine lv_bipush (v := 7) hx hb dX5_stands_42 (by decide) ?_
        refine lv_iload_n hx hb dX5_stands_44 rfl (lv_at hl 1 rfl) ?_
        refine lv_imul hx hb dX5_stands_45 ?_
        refine lv_topi (fun z15 ez15 => ?_)
        obtain rfl : z15 = nI (7 * k) := ez15.trans (pk_mul 7 k)
        refine lv_iconst (v := 4) hx hb dX5_stands_46 (by decide) ?_
        refine lv_iadd hx hb dX5_stands_47 ?_
        refine lv_topi (fun z16 ez16 => ?_)
        obtain rfl : z16 = nI (7 * k + 4) := ez16.trans ((nI_add (7 * k) 4).trans (congrArg nI (by omega)))
        refine K_iald hx hb hK hP 9 0 rfl rfl (7 * k + 4) (by omega) (Nat.le_of_ble_eq_true rfl) dX5_stands_48 ?_
        refine lv_iconst (v := 1) hx hb dX5_stands_49 (by decide) ?_
        refine lv_icmp_eq (tgt := 68) hx hb dX5_stands_50 (by decide) (fun c17 => ?_) (fun c17 => ?_)
        · have hf : ¬ ((fun t s => mgo (col 7 4 mtr t) (aH nT (BM mbk) mbl (col 7 0 mtr) (col 7 1 mtr) t) s) k (nI v)) = true := by simp [mgo, col, c17]
          refine lv_iconst (v := 1) hx hb dX5_stands_68 (by decide) ?_
          refine lv_goto (tgt := 73) hx hb dX5_stands_69 (by decide) ?_
          refine lv_istore (lv' := [(5, .int 1), (4, .int (nI b5)), (3, .int (nI k)), (2, .int y2), (1, .int (nI v)), (0, .ref h5)]) hx hb dX5_stands_73 hl (by decide) rfl (fun ls hl => ?_)
          refine lv_iload_n hx hb dX5_stands_75 rfl (lv_at hl 4 rfl) ?_
          refine lv_iload_n hx hb dX5_stands_76 rfl (lv_at hl 2 rfl) ?_
          refine lv_ishr hx hb dX5_stands_77 ?_
          refine lv_iconst (v := 1) hx hb dX5_stands_78 (by decide) ?_
          refine lv_iand hx hb dX5_stands_79 ?_
          refine lv_iconst (v := 1) hx hb dX5_stands_80 (by decide) ?_
          refine lv_icmp_ne (tgt := 99) hx hb dX5_stands_81 (by decide) (fun c18 => ?_) (fun c18 => ?_)
          · refine lv_iinc (v := nI (k + 1)) (lv' := [(3, .int (nI (k + 1))), (5, .int 1), (4, .int (nI b5)), (2, .int y2), (1, .int (nI v)), (0, .ref h5)]) hx hb dX5_stands_99 hl (k := 2) rfl (inc1 _) (by decide) rfl (fun ls hl => ?_)
            refine lv_goto (tgt := 19) hx hb dX5_stands_102 (by decide) ?_
            exact ih19 (k + 1) v y2 _ _ _ ⟨(by omega), hv16, ((sI_step hv hv16 (by omega)).2 (fun h9 => c18 h9.2)), hy2, hP, hD, hS, lv_sub hl [0, 3, 4, 5] rfl⟩ (by omega)
          · refine lv_iload hx hb dX5_stands_84 (lv_at hl 0 rfl) ?_
            refine lv_if_ne (tgt := 99) hx hb dX5_stands_86 (by decide) (fun _ => ?_) (fun c19 => absurd c19 (by decide))
            refine lv_iinc (v := nI (k + 1)) (lv' := [(3, .int (nI (k + 1))), (5, .int 1), (4, .int (nI b5)), (2, .int y2), (1, .int (nI v)), (0, .ref h5)]) hx hb dX5_stands_99 hl (k := 2) rfl (inc1 _) (by decide) rfl (fun ls hl => ?_)
            refine lv_goto (tgt := 19) hx hb dX5_stands_102 (by decide) ?_
            exact ih19 (k + 1) v y2 _ _ _ ⟨(by omega), hv16, ((sI_step hv hv16 (by omega)).2 (fun h9 => hf h9.1)), hy2, hP, hD, hS, lv_sub hl [0, 3, 4, 5] rfl⟩ (by omega)
        · have hs0 : mtr (7 * k + 4) = 0 := (hsu k).resolve_right c17
          refine lv_iload hx hb dX5_stands_53 (lv_at hl 0 rfl) ?_
          refine lv_if_lt (tgt := 72) hx hb dX5_stands_55 (by decide) (fun c20 => absurd c20 (nI_pos (by omega))) (fun c20 => ?_)
          refine lv_iload_n hx hb dX5_stands_58 rfl (lv_at hl 3 rfl) ?_
          refine lv_iload hx hb dX5_stands_59 (lv_at hl 0 rfl) ?_
          refine lv_ishr hx hb dX5_stands_61 ?_
          refine lv_iconst (v := 1) hx hb dX5_stands_62 (by decide) ?_
          refine lv_iand hx hb dX5_stands_63 ?_
          refine lv_iconst (v := 1) hx hb dX5_stands_64 (by decide) ?_
          refine lv_icmp_ne (tgt := 72) hx hb dX5_stands_65 (by decide) (fun c21 => ?_) (fun c21 => ?_)
          · have hf : ((fun t s => mgo (col 7 4 mtr t) (aH nT (BM mbk) mbl (col 7 0 mtr) (col 7 1 mtr) t) s) k (nI v)) = true := by
              have h9 := (bit_01 hv16 (show b5 < 4 by omega)).resolve_right c21
              simp [mgo, col, hs0, aH, hoo, h9]
            refine lv_iconst (v := 0) hx hb dX5_stands_72 (by decide) ?_
            refine lv_istore (lv' := [(5, .int 0), (4, .int (nI b5)), (3, .int (nI k)), (2, .int y2), (1, .int (nI v)), (0, .ref h5)]) hx hb dX5_stands_73 hl (by decide) rfl (fun ls hl => ?_)
            refine lv_iload_n hx hb dX5_stands_75 rfl (lv_at hl 4 rfl) ?_
            refine lv_iload_n hx hb dX5_stands_76 rfl (lv_at hl 2 rfl) ?_
            refine lv_ishr hx hb dX5_stands_77 ?_
            refine lv_iconst (v := 1) hx hb dX5_stands_78 (by decide) ?_
            refine lv_iand hx hb dX5_stands_79 ?_
            refine lv_iconst (v := 1) hx hb dX5_stands_80 (by decide) ?_
            refine lv_icmp_ne (tgt := 99) hx hb dX5_stands_81 (by decide) (fun c22 => ?_) (fun c22 => ?_)
            · refine lv_iinc (v := nI (k + 1)) (lv' := [(3, .int (nI (k + 1))), (5, .int 0), (4, .int (nI b5)), (2, .int y2), (1, .int (nI v)), (0, .ref h5)]) hx hb dX5_stands_99 hl (k := 2) rfl (inc1 _) (by decide) rfl (fun ls hl => ?_)
              refine lv_goto (tgt := 19) hx hb dX5_stands_102 (by decide) ?_
              exact ih19 (k + 1) v y2 _ _ _ ⟨(by omega), hv16, ((sI_step hv hv16 (by omega)).2 (fun h9 => c22 h9.2)), hy2, hP, hD, hS, lv_sub hl [0, 3, 4, 5] rfl⟩ (by omega)
            · refine lv_iload hx hb dX5_stands_84 (lv_at hl 0 rfl) ?_
              refine lv_if_ne (tgt := 99) hx hb dX5_stands_86 (by decide) (fun c23 => absurd c23 (by decide)) (fun _ => ?_)
              refine lv_iload_n hx hb dX5_stands_89 rfl (lv_at hl 4 rfl) ?_
              refine lv_iconst (v := 1) hx hb dX5_stands_90 (by decide) ?_
              refine lv_iload_n hx hb dX5_stands_91 rfl (lv_at hl 2 rfl) ?_
              refine lv_ishl hx hb dX5_stands_92 ?_
              refine lv_iconst (v := (-1)) hx hb dX5_stands_93 (by decide) ?_
              refine lv_ixor hx hb dX5_stands_94 ?_
              refine lv_iand hx hb dX5_stands_95 ?_
              refine lv_topi (fun z24 ez24 => ?_)
              obtain rfl : z24 = nI (clr v k) := ez24.trans ((bit_all v hv16 k (by omega)).1)
              refine lv_istore_n (lv' := [(1, .int (nI (clr v k))), (5, .int 0), (4, .int (nI b5)), (3, .int (nI k)), (2, .int y2), (0, .ref h5)]) hx hb dX5_stands_96 rfl hl (by decide) rfl (fun ls hl => ?_)
              refine lv_iconst (v := 1) hx hb dX5_stands_97 (by decide) ?_
              refine lv_istore_n (lv' := [(2, .int 1), (1, .int (nI (clr v k))), (5, .int 0), (4, .int (nI b5)), (3, .int (nI k)), (0, .ref h5)]) hx hb dX5_stands_98 rfl hl (by decide) rfl (fun ls hl => ?_)
              refine lv_iinc (v := nI (k + 1)) (lv' := [(3, .int (nI (k + 1))), (2, .int 1), (1, .int (nI (clr v k))), (5, .int 0), (4, .int (nI b5)), (0, .ref h5)]) hx hb dX5_stands_99 hl (k := 4) rfl (inc1 _) (by decide) rfl (fun ls hl => ?_)
              refine lv_goto (tgt := 19) hx hb dX5_stands_102 (by decide) ?_
              exact ih19 (k + 1) (clr v k) 1 _ _ _ ⟨(by omega), ((clr_all v hv16 k (by omega)).1), (((sI_step hv hv16 (by omega)).1 hf c22).1), (Or.inr ⟨rfl, by
                have h9 := ((sI_step hv hv16 (by omega)).1 hf c22).2.1
                rcases hy2 with ⟨_, q2⟩ | ⟨_, q2⟩ <;> omega⟩), hP, hD, hS, lv_sub hl [0, 1, 2, 5] rfl⟩ (by omega)
          · have hf : ¬ ((fun t s => mgo (col 7 4 mtr t) (aH nT (BM mbk) mbl (col 7 0 mtr) (col 7 1 mtr) t) s) k (nI v)) = true := by simp [mgo, col, hs0, aH, hoo, c21]
            refine lv_iconst (v := 1) hx hb dX5_stands_68 (by decide) ?_
            refine lv_goto (tgt := 73) hx hb dX5_stands_69 (by decide) ?_
            refine lv_istore (lv' := [(5, .int 1), (4, .int (nI b5)), (3, .int (nI k)), (2, .int y2), (1, .int (nI v)), (0, .ref h5)]) hx hb dX5_stands_73 hl (by decide) rfl (fun ls hl => ?_)
            refine lv_iload_n hx hb dX5_stands_75 rfl (lv_at hl 4 rfl) ?_
            refine lv_iload_n hx hb dX5_stands_76 rfl (lv_at hl 2 rfl) ?_
            refine lv_ishr hx hb dX5_stands_77 ?_
            refine lv_iconst (v := 1) hx hb dX5_stands_78 (by decide) ?_
            refine lv_iand hx hb dX5_stands_79 ?_
            refine lv_iconst (v := 1) hx hb dX5_stands_80 (by decide) ?_
            refine lv_icmp_ne (tgt := 99) hx hb dX5_stands_81 (by decide) (fun c25 => ?_) (fun c25 => ?_)
            · refine lv_iinc (v := nI (k + 1)) (lv' := [(3, .int (nI (k + 1))), (5, .int 1), (4, .int (nI b5)), (2, .int y2), (1, .int (nI v)), (0, .ref h5)]) hx hb dX5_stands_99 hl (k := 2) rfl (inc1 _) (by decide) rfl (fun ls hl => ?_)
              refine lv_goto (tgt := 19) hx hb dX5_stands_102 (by decide) ?_
              exact ih19 (k + 1) v y2 _ _ _ ⟨(by omega), hv16, ((sI_step hv hv16 (by omega)).2 (fun h9 => c25 h9.2)), hy2, hP, hD, hS, lv_sub hl [0, 3, 4, 5] rfl⟩ (by omega)
            · refine lv_iload hx hb dX5_stands_84 (lv_at hl 0 rfl) ?_
              refine lv_if_ne (tgt := 99) hx hb dX5_stands_86 (by decide) (fun _ => ?_) (fun c26 => absurd c26 (by decide))
              refine lv_iinc (v := nI (k + 1)) (lv' := [(3, .int (nI (k + 1))), (5, .int 1), (4, .int (nI b5)), (2, .int y2), (1, .int (nI v)), (0, .ref h5)]) hx hb dX5_stands_99 hl (k := 2) rfl (inc1 _) (by decide) rfl (fun ls hl => ?_)
              refine lv_goto (tgt := 19) hx hb dX5_stands_102 (by decide) ?_
              exact ih19 (k + 1) v y2 _ _ _ ⟨(by omega), hv16, ((sI_step hv hv16 (by omega)).2 (fun h9 => hf h9.1)), hy2, hP, hD, hS, lv_sub hl [0, 3, 4, 5] rfl⟩ (by omega)

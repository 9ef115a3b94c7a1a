set_option maxHeartbeats 8000000 in
set_option maxRecDepth 100000 in
/-- in -/
theorem c_X5_in (l : Launch) (D : va_G) (cI cZ cG : ClassId)  (sz : Nat) (x : Int32) (lo : Int32) (hi : Int32)  : Met l yX5_in wsX5_in ({ frames := 0, cells := 0, slots := 0, locals := 0 } : Room) (va_Pc [.int x, .int lo, .int hi] (PB D (tyL cI cZ cG) (([] : va_W)) sz)) (va_Qi (fun (r : Int32) (_ : Unit) => bo r (inR x lo hi = true)) (fun u => QB D (tyL cI cZ cG) (va_A (([] : va_W)) sz) ((fun (_ : Unit) => ([] : va_W)) u)) (va_A (([] : va_W)) sz)) 0 0 (va_A (([] : va_W)) sz) := by
  refine K_start (cc := cX5_in) (maxL := 3) (ret := some .boolean) (Qc := fun A => va_Qi (fun (r : Int32) (_ : Unit) => bo r (inR x lo hi = true)) (fun u => QB D (tyL cI cZ cG) A ((fun (_ : Unit) => ([] : va_W)) u)) A) (by decide) rfl (Nat.le_of_ble_eq_true rfl) ?_
  intro p e s m below meth c ls A hx hb hml hr hts hown hlocks hin hN hP hK hD hA hS hl hsz
  have hl : lv_has ls 3 [(0, .int x), (1, .int lo), (2, .int hi)] := hl
  refine lv_iload_n hx hb dX5_in_0 rfl (lv_at hl 0 rfl) ?_
  refine lv_iload_n hx hb dX5_in_1 rfl (lv_at hl 1 rfl) ?_
  refine lv_icmp_lt (tgt := 14) hx hb dX5_in_2 (by decide) (fun c1 => ?_) (fun c1 => ?_)
  · replace c1 := Int32.not_le.mpr c1
    refine lv_iconst (v := 0) hx hb dX5_in_14 (by decide) ?_
    exact K_zret (wf := (fun (_ : Unit) => ([] : va_W))) () hx hb hr hlocks hP hK hD hS dX5_in_15 rfl (Or.inr ⟨rfl, inR_f1 c1⟩)
  · replace c1 := Int32.not_lt.mp c1
    refine lv_iload_n hx hb dX5_in_5 rfl (lv_at hl 0 rfl) ?_
    refine lv_iload_n hx hb dX5_in_6 rfl (lv_at hl 2 rfl) ?_
    refine lv_icmp_gt (tgt := 14) hx hb dX5_in_7 (by decide) (fun c2 => ?_) (fun c2 => ?_)
    · replace c2 := Int32.not_le.mpr c2
      refine lv_iconst (v := 0) hx hb dX5_in_14 (by decide) ?_
      exact K_zret (wf := (fun (_ : Unit) => ([] : va_W))) () hx hb hr hlocks hP hK hD hS dX5_in_15 rfl (Or.inr ⟨rfl, inR_f2 c2⟩)
    · replace c2 := Int32.not_lt.mp c2
      refine lv_iconst (v := 1) hx hb dX5_in_10 (by decide) ?_
      refine lv_goto (tgt := 15) hx hb dX5_in_11 (by decide) ?_
      exact K_zret (wf := (fun (_ : Unit) => ([] : va_W))) () hx hb hr hlocks hP hK hD hS dX5_in_15 rfl (Or.inl ⟨rfl, inR_t c1 c2⟩)
set_option maxHeartbeats 8000000 in
set_option maxRecDepth 100000 in
/-- isDay -/
theorem c_X5_isDay (l : Launch) (D : va_G) (cI cZ cG : ClassId)  (sz : Nat) (x : Int32)  : Met l yX5_isDay wsX5_isDay ({ frames := 1, cells := 0, slots := 0, locals := 22 } : Room) (va_Pc [.int x] (PB D (tyL cI cZ cG) (([] : va_W)) sz)) (va_Qi (fun (r : Int32) (_ : Unit) => bo r (inR x 0 3000 = true)) (fun u => QB D (tyL cI cZ cG) (va_A (([] : va_W)) sz) ((fun (_ : Unit) => ([] : va_W)) u)) (va_A (([] : va_W)) sz)) 0 0 (va_A (([] : va_W)) sz) := by
  refine K_start (cc := cX5_isDay) (maxL := 1) (ret := some .boolean) (Qc := fun A => va_Qi (fun (r : Int32) (_ : Unit) => bo r (inR x 0 3000 = true)) (fun u => QB D (tyL cI cZ cG) A ((fun (_ : Unit) => ([] : va_W)) u)) A) (by decide) rfl (Nat.le_of_ble_eq_true rfl) ?_
  intro p e s m below meth c ls A hx hb hml hr hts hown hlocks hin hN hP hK hD hA hS hl hsz
  have hl : lv_has ls 1 [(0, .int x)] := hl
  refine lv_iload_n hx hb dX5_isDay_0 rfl (lv_at hl 0 rfl) ?_
  refine lv_iconst (v := 0) hx hb dX5_isDay_1 (by decide) ?_
  refine lv_sipush (v := 3000) hx hb dX5_isDay_2 (by decide) ?_
  refine K_none (va_runS (As := [.int x, .int 0, .int 3000]) (rest := []) ⟨hx, hb, hml, hown, hts⟩ (c_X5_in l D cI cZ cG _ x 0 3000) (va_cwS 3 hts gX5_isDay_X5_in rfl rfl rfl (by decide +kernel) ⟨(Nat.le_of_ble_eq_true rfl), (Nat.le_of_ble_eq_true rfl)⟩) (K_pre0 hN hK) rfl rfl hl.1 rfl (lv_room (Nat.le_of_ble_eq_true rfl)) dX5_isDay_5 ⟨Nat.zero_le _, Nat.zero_le _⟩) hP hS hA (fun r1 _ H locs hw1 hP hS => ?_)
  rcases hw1 with ⟨rfl, hw1⟩ | ⟨rfl, hw1⟩
  · skip
    exact K_zret (wf := (fun (_ : Unit) => ([] : va_W))) () hx hb hr hlocks hP hK hD hS dX5_isDay_8 rfl (Or.inl ⟨rfl, by assumption⟩)
  · skip
    exact K_zret (wf := (fun (_ : Unit) => ([] : va_W))) () hx hb hr hlocks hP hK hD hS dX5_isDay_8 rfl (Or.inr ⟨rfl, by assumption⟩)
set_option maxHeartbeats 8000000 in
set_option maxRecDepth 100000 in
/-- areHands -/
theorem c_X5_areHands (l : Launch) (D : va_G) (cI cZ cG : ClassId)  (sz : Nat) (x : Int32)  : Met l yX5_areHands wsX5_areHands ({ frames := 1, cells := 0, slots := 0, locals := 22 } : Room) (va_Pc [.int x] (PB D (tyL cI cZ cG) (([] : va_W)) sz)) (va_Qi (fun (r : Int32) (_ : Unit) => bo r (inR x 0 500 = true)) (fun u => QB D (tyL cI cZ cG) (va_A (([] : va_W)) sz) ((fun (_ : Unit) => ([] : va_W)) u)) (va_A (([] : va_W)) sz)) 0 0 (va_A (([] : va_W)) sz) := by
  refine K_start (cc := cX5_areHands) (maxL := 1) (ret := some .boolean) (Qc := fun A => va_Qi (fun (r : Int32) (_ : Unit) => bo r (inR x 0 500 = true)) (fun u => QB D (tyL cI cZ cG) A ((fun (_ : Unit) => ([] : va_W)) u)) A) (by decide) rfl (Nat.le_of_ble_eq_true rfl) ?_
  intro p e s m below meth c ls A hx hb hml hr hts hown hlocks hin hN hP hK hD hA hS hl hsz
  have hl : lv_has ls 1 [(0, .int x)] := hl
  refine lv_iload_n hx hb dX5_areHands_0 rfl (lv_at hl 0 rfl) ?_
  refine lv_iconst (v := 0) hx hb dX5_areHands_1 (by decide) ?_
  refine lv_sipush (v := 500) hx hb dX5_areHands_2 (by decide) ?_
  refine K_none (va_runS (As := [.int x, .int 0, .int 500]) (rest := []) ⟨hx, hb, hml, hown, hts⟩ (c_X5_in l D cI cZ cG _ x 0 500) (va_cwS 3 hts gX5_areHands_X5_in rfl rfl rfl (by decide +kernel) ⟨(Nat.le_of_ble_eq_true rfl), (Nat.le_of_ble_eq_true rfl)⟩) (K_pre0 hN hK) rfl rfl hl.1 rfl (lv_room (Nat.le_of_ble_eq_true rfl)) dX5_areHands_5 ⟨Nat.zero_le _, Nat.zero_le _⟩) hP hS hA (fun r1 _ H locs hw1 hP hS => ?_)
  rcases hw1 with ⟨rfl, hw1⟩ | ⟨rfl, hw1⟩
  · skip
    exact K_zret (wf := (fun (_ : Unit) => ([] : va_W))) () hx hb hr hlocks hP hK hD hS dX5_areHands_8 rfl (Or.inl ⟨rfl, by assumption⟩)
  · skip
    exact K_zret (wf := (fun (_ : Unit) => ([] : va_W))) () hx hb hr hlocks hP hK hD hS dX5_areHands_8 rfl (Or.inr ⟨rfl, by assumption⟩)
set_option maxHeartbeats 8000000 in
set_option maxRecDepth 100000 in
/-- isPlace -/
theorem c_X5_isPlace (l : Launch) (D : va_G) (cI cZ cG : ClassId)  (sz : Nat) (x : Int32)  : Met l yX5_isPlace wsX5_isPlace ({ frames := 1, cells := 0, slots := 0, locals := 22 } : Room) (va_Pc [.int x] (PB D (tyL cI cZ cG) (([] : va_W)) sz)) (va_Qi (fun (r : Int32) (_ : Unit) => bo r (inR x (-1) 99 = true)) (fun u => QB D (tyL cI cZ cG) (va_A (([] : va_W)) sz) ((fun (_ : Unit) => ([] : va_W)) u)) (va_A (([] : va_W)) sz)) 0 0 (va_A (([] : va_W)) sz) := by
  refine K_start (cc := cX5_isPlace) (maxL := 1) (ret := some .boolean) (Qc := fun A => va_Qi (fun (r : Int32) (_ : Unit) => bo r (inR x (-1) 99 = true)) (fun u => QB D (tyL cI cZ cG) A ((fun (_ : Unit) => ([] : va_W)) u)) A) (by decide) rfl (Nat.le_of_ble_eq_true rfl) ?_
  intro p e s m below meth c ls A hx hb hml hr hts hown hlocks hin hN hP hK hD hA hS hl hsz
  have hl : lv_has ls 1 [(0, .int x)] := hl
  refine lv_iload_n hx hb dX5_isPlace_0 rfl (lv_at hl 0 rfl) ?_
  refine lv_iconst (v := (-1)) hx hb dX5_isPlace_1 (by decide) ?_
  refine lv_bipush (v := 99) hx hb dX5_isPlace_2 (by decide) ?_
  refine K_none (va_runS (As := [.int x, .int (-1), .int 99]) (rest := []) ⟨hx, hb, hml, hown, hts⟩ (c_X5_in l D cI cZ cG _ x (-1) 99) (va_cwS 3 hts gX5_isPlace_X5_in rfl rfl rfl (by decide +kernel) ⟨(Nat.le_of_ble_eq_true rfl), (Nat.le_of_ble_eq_true rfl)⟩) (K_pre0 hN hK) rfl rfl hl.1 rfl (lv_room (Nat.le_of_ble_eq_true rfl)) dX5_isPlace_4 ⟨Nat.zero_le _, Nat.zero_le _⟩) hP hS hA (fun r1 _ H locs hw1 hP hS => ?_)
  rcases hw1 with ⟨rfl, hw1⟩ | ⟨rfl, hw1⟩
  · skip
    exact K_zret (wf := (fun (_ : Unit) => ([] : va_W))) () hx hb hr hlocks hP hK hD hS dX5_isPlace_7 rfl (Or.inl ⟨rfl, by assumption⟩)
  · skip
    exact K_zret (wf := (fun (_ : Unit) => ([] : va_W))) () hx hb hr hlocks hP hK hD hS dX5_isPlace_7 rfl (Or.inr ⟨rfl, by assumption⟩)
theorem inX5_isThing : ∀ w ∈ wsX50, w ∈ wsX5_isThing := by decide +kernel
set_option maxHeartbeats 8000000 in
set_option maxRecDepth 100000 in
/-- isThing -/
theorem c_X5_isThing (l : Launch) (D : va_G) (cI cZ cG : ClassId) (h5 : Nat) (a5 : Nat → Nat) (sz : Nat) (nr : Nat) (nt : Nat) (nc : Nat) (nw : Nat) (hd : Int32) (wk : Nat) (ng : Nat) (nT : Nat) (mi : Int32) (nf : Nat) (nn : Nat) (mru : Nat → Int32) (mth : Nat → Int32) (mcl : Nat → Int32) (mfa : Nat → Int32) (mwa : Nat → Int32) (mfz : Nat → Int32) (mbl : Nat → Int32) (mbk : Nat → Int32) (mtr : Nat → Int32) (mno : Nat → Int32) (mlo : Nat → Int32) (mip : Nat → Int32) (mto : Nat → Int32) (x : Int32) (hnr : nr ≤ 6) (hnt : nt ≤ 20) (hnc : nc ≤ 60) (hnw : nw ≤ 24) (hwk : wk ≤ 200) (hng : ng ≤ 3) (hnT : nT ≤ 4) (hnf : nf ≤ 12) (hnn : nn ≤ 60) : Met l yX5_isThing wsX5_isThing ({ frames := 1, cells := 0, slots := 0, locals := 22 } : Room) (va_Pc [.ref h5, .int x] (PB D (tyL cI cZ cG) (wX5 cI cZ cG h5 a5 (nI nr) (nI nt) (nI nc) (nI nw) hd (nI wk) (nI ng) (nI nT) mi (nI nf) (nI nn) mru mth mcl mfa mwa mfz mbl mbk mtr mno mlo mip mto) sz)) (va_Qi (fun (r : Int32) (_ : Unit) => bo r (inR x 0 (nI nt - 1) = true)) (fun u => QB D (tyL cI cZ cG) (va_A (wX5 cI cZ cG h5 a5 (nI nr) (nI nt) (nI nc) (nI nw) hd (nI wk) (nI ng) (nI nT) mi (nI nf) (nI nn) mru mth mcl mfa mwa mfz mbl mbk mtr mno mlo mip mto) sz) ((fun (_ : Unit) => wX5 cI cZ cG h5 a5 (nI nr) (nI nt) (nI nc) (nI nw) hd (nI wk) (nI ng) (nI nT) mi (nI nf) (nI nn) mru mth mcl mfa mwa mfz mbl mbk mtr mno mlo mip mto) u)) (va_A (wX5 cI cZ cG h5 a5 (nI nr) (nI nt) (nI nc) (nI nw) hd (nI wk) (nI ng) (nI nT) mi (nI nf) (nI nn) mru mth mcl mfa mwa mfz mbl mbk mtr mno mlo mip mto) sz)) 0 0 (va_A (wX5 cI cZ cG h5 a5 (nI nr) (nI nt) (nI nc) (nI nw) hd (nI wk) (nI ng) (nI nT) mi (nI nf) (nI nn) mru mth mcl mfa mwa mfz mbl mbk mtr mno mlo mip mto) sz) := by
  refine K_start (cc := cX5_isThing) (maxL := 2) (ret := some .boolean) (Qc := fun A => va_Qi (fun (r : Int32) (_ : Unit) => bo r (inR x 0 (nI nt - 1) = true)) (fun u => QB D (tyL cI cZ cG) A ((fun (_ : Unit) => wX5 cI cZ cG h5 a5 (nI nr) (nI nt) (nI nc) (nI nw) hd (nI wk) (nI ng) (nI nT) mi (nI nf) (nI nn) mru mth mcl mfa mwa mfz mbl mbk mtr mno mlo mip mto) u)) A) (by decide) rfl (Nat.le_of_ble_eq_true rfl) ?_
  intro p e s m below meth c ls A hx hb hml hr hts hown hlocks hin hN hP hK hD hA hS hl hsz
  have hl : lv_has ls 2 [(0, .ref h5), (1, .int x)] := hl
  have fl70 := hts (.fieldLink RX5 70 "ModelTownModel" "things" "I") (by decide +kernel)
  refine lv_iload_n hx hb dX5_isThing_0 rfl (lv_at hl 1 rfl) ?_
  refine lv_iconst (v := 0) hx hb dX5_isThing_1 (by decide) ?_
  refine lv_aload_n hx hb dX5_isThing_2 rfl (lv_at hl 0 rfl) ?_
  refine va_get (D := D) (ci := 5) (v := .int (nI nt)) (C := RX5) (T := TX5) (N := 24) hx hb hts inX5_isThing hown hK hP 0 rfl rfl 2 (by decide) fl70 (fun _ h9 => h9) rfl dX5_isThing_3 ?_
  refine lv_iconst (v := 1) hx hb dX5_isThing_6 (by decide) ?_
  refine lv_isub hx hb dX5_isThing_7 ?_
  refine K_none (va_runS (As := [.int x, .int 0, .int ((nI nt) - 1)]) (rest := []) ⟨hx, hb, hml, hown, hts⟩ (c_X5_in l D cI cZ cG _ x 0 ((nI nt) - 1)) (va_cwS 3 hts gX5_isThing_X5_in rfl rfl rfl (by decide +kernel) ⟨(Nat.le_of_ble_eq_true rfl), (Nat.le_of_ble_eq_true rfl)⟩) (K_pre0 hN hK) rfl rfl hl.1 rfl (lv_room (Nat.le_of_ble_eq_true rfl)) dX5_isThing_8 ⟨Nat.zero_le _, Nat.zero_le _⟩) hP hS hA (fun r1 _ H locs hw1 hP hS => ?_)
  rcases hw1 with ⟨rfl, hw1⟩ | ⟨rfl, hw1⟩
  · skip
    exact K_zret (wf := (fun (_ : Unit) => wX5 cI cZ cG h5 a5 (nI nr) (nI nt) (nI nc) (nI nw) hd (nI wk) (nI ng) (nI nT) mi (nI nf) (nI nn) mru mth mcl mfa mwa mfz mbl mbk mtr mno mlo mip mto)) () hx hb hr hlocks hP hK hD hS dX5_isThing_11 rfl (Or.inl ⟨rfl, by assumption⟩)
  · skip
    exact K_zret (wf := (fun (_ : Unit) => wX5 cI cZ cG h5 a5 (nI nr) (nI nt) (nI nc) (nI nw) hd (nI wk) (nI ng) (nI nT) mi (nI nf) (nI nn) mru mth mcl mfa mwa mfz mbl mbk mtr mno mlo mip mto)) () hx hb hr hlocks hP hK hD hS dX5_isThing_11 rfl (Or.inr ⟨rfl, by assumption⟩)
theorem inX5_isRing : ∀ w ∈ wsX50, w ∈ wsX5_isRing := by decide +kernel
set_option maxHeartbeats 8000000 in
set_option maxRecDepth 100000 in
/-- isRing -/
theorem c_X5_isRing (l : Launch) (D : va_G) (cI cZ cG : ClassId) (h5 : Nat) (a5 : Nat → Nat) (sz : Nat) (nr : Nat) (nt : Nat) (nc : Nat) (nw : Nat) (hd : Int32) (wk : Nat) (ng : Nat) (nT : Nat) (mi : Int32) (nf : Nat) (nn : Nat) (mru : Nat → Int32) (mth : Nat → Int32) (mcl : Nat → Int32) (mfa : Nat → Int32) (mwa : Nat → Int32) (mfz : Nat → Int32) (mbl : Nat → Int32) (mbk : Nat → Int32) (mtr : Nat → Int32) (mno : Nat → Int32) (mlo : Nat → Int32) (mip : Nat → Int32) (mto : Nat → Int32) (x : Int32) (hnr : nr ≤ 6) (hnt : nt ≤ 20) (hnc : nc ≤ 60) (hnw : nw ≤ 24) (hwk : wk ≤ 200) (hng : ng ≤ 3) (hnT : nT ≤ 4) (hnf : nf ≤ 12) (hnn : nn ≤ 60) : Met l yX5_isRing wsX5_isRing ({ frames := 1, cells := 0, slots := 0, locals := 22 } : Room) (va_Pc [.ref h5, .int x] (PB D (tyL cI cZ cG) (wX5 cI cZ cG h5 a5 (nI nr) (nI nt) (nI nc) (nI nw) hd (nI wk) (nI ng) (nI nT) mi (nI nf) (nI nn) mru mth mcl mfa mwa mfz mbl mbk mtr mno mlo mip mto) sz)) (va_Qi (fun (r : Int32) (_ : Unit) => bo r (inR x 0 (nI ng - 1) = true)) (fun u => QB D (tyL cI cZ cG) (va_A (wX5 cI cZ cG h5 a5 (nI nr) (nI nt) (nI nc) (nI nw) hd (nI wk) (nI ng) (nI nT) mi (nI nf) (nI nn) mru mth mcl mfa mwa mfz mbl mbk mtr mno mlo mip mto) sz) ((fun (_ : Unit) => wX5 cI cZ cG h5 a5 (nI nr) (nI nt) (nI nc) (nI nw) hd (nI wk) (nI ng) (nI nT) mi (nI nf) (nI nn) mru mth mcl mfa mwa mfz mbl mbk mtr mno mlo mip mto) u)) (va_A (wX5 cI cZ cG h5 a5 (nI nr) (nI nt) (nI nc) (nI nw) hd (nI wk) (nI ng) (nI nT) mi (nI nf) (nI nn) mru mth mcl mfa mwa mfz mbl mbk mtr mno mlo mip mto) sz)) 0 0 (va_A (wX5 cI cZ cG h5 a5 (nI nr) (nI nt) (nI nc) (nI nw) hd (nI wk) (nI ng) (nI nT) mi (nI nf) (nI nn) mru mth mcl mfa mwa mfz mbl mbk mtr mno mlo mip mto) sz) := by
  refine K_start (cc := cX5_isRing) (maxL := 2) (ret := some .boolean) (Qc := fun A => va_Qi (fun (r : Int32) (_ : Unit) => bo r (inR x 0 (nI ng - 1) = true)) (fun u => QB D (tyL cI cZ cG) A ((fun (_ : Unit) => wX5 cI cZ cG h5 a5 (nI nr) (nI nt) (nI nc) (nI nw) hd (nI wk) (nI ng) (nI nT) mi (nI nf) (nI nn) mru mth mcl mfa mwa mfz mbl mbk mtr mno mlo mip mto) u)) A) (by decide) rfl (Nat.le_of_ble_eq_true rfl) ?_
  intro p e s m below meth c ls A hx hb hml hr hts hown hlocks hin hN hP hK hD hA hS hl hsz
  have hl : lv_has ls 2 [(0, .ref h5), (1, .int x)] := hl
  have fl104 := hts (.fieldLink RX5 104 "ModelTownModel" "rings" "I") (by decide +kernel)
  refine lv_iload_n hx hb dX5_isRing_0 rfl (lv_at hl 1 rfl) ?_
  refine lv_iconst (v := 0) hx hb dX5_isRing_1 (by decide) ?_
  refine lv_aload_n hx hb dX5_isRing_2 rfl (lv_at hl 0 rfl) ?_
  refine va_get (D := D) (ci := 5) (v := .int (nI ng)) (C := RX5) (T := TX5) (N := 24) hx hb hts inX5_isRing hown hK hP 0 rfl rfl 12 (by decide) fl104 (fun _ h9 => h9) rfl dX5_isRing_3 ?_
  refine lv_iconst (v := 1) hx hb dX5_isRing_6 (by decide) ?_
  refine lv_isub hx hb dX5_isRing_7 ?_
  refine K_none (va_runS (As := [.int x, .int 0, .int ((nI ng) - 1)]) (rest := []) ⟨hx, hb, hml, hown, hts⟩ (c_X5_in l D cI cZ cG _ x 0 ((nI ng) - 1)) (va_cwS 3 hts gX5_isRing_X5_in rfl rfl rfl (by decide +kernel) ⟨(Nat.le_of_ble_eq_true rfl), (Nat.le_of_ble_eq_true rfl)⟩) (K_pre0 hN hK) rfl rfl hl.1 rfl (lv_room (Nat.le_of_ble_eq_true rfl)) dX5_isRing_8 ⟨Nat.zero_le _, Nat.zero_le _⟩) hP hS hA (fun r1 _ H locs hw1 hP hS => ?_)
  rcases hw1 with ⟨rfl, hw1⟩ | ⟨rfl, hw1⟩
  · skip
    exact K_zret (wf := (fun (_ : Unit) => wX5 cI cZ cG h5 a5 (nI nr) (nI nt) (nI nc) (nI nw) hd (nI wk) (nI ng) (nI nT) mi (nI nf) (nI nn) mru mth mcl mfa mwa mfz mbl mbk mtr mno mlo mip mto)) () hx hb hr hlocks hP hK hD hS dX5_isRing_11 rfl (Or.inl ⟨rfl, by assumption⟩)
  · skip
    exact K_zret (wf := (fun (_ : Unit) => wX5 cI cZ cG h5 a5 (nI nr) (nI nt) (nI nc) (nI nw) hd (nI wk) (nI ng) (nI nT) mi (nI nf) (nI nn) mru mth mcl mfa mwa mfz mbl mbk mtr mno mlo mip mto)) () hx hb hr hlocks hP hK hD hS dX5_isRing_11 rfl (Or.inr ⟨rfl, by assumption⟩)
theorem inX5_isTrain : ∀ w ∈ wsX50, w ∈ wsX5_isTrain := by decide +kernel
set_option maxHeartbeats 8000000 in
set_option maxRecDepth 100000 in
/-- isTrain -/
theorem c_X5_isTrain (l : Launch) (D : va_G) (cI cZ cG : ClassId) (h5 : Nat) (a5 : Nat → Nat) (sz : Nat) (nr : Nat) (nt : Nat) (nc : Nat) (nw : Nat) (hd : Int32) (wk : Nat) (ng : Nat) (nT : Nat) (mi : Int32) (nf : Nat) (nn : Nat) (mru : Nat → Int32) (mth : Nat → Int32) (mcl : Nat → Int32) (mfa : Nat → Int32) (mwa : Nat → Int32) (mfz : Nat → Int32) (mbl : Nat → Int32) (mbk : Nat → Int32) (mtr : Nat → Int32) (mno : Nat → Int32) (mlo : Nat → Int32) (mip : Nat → Int32) (mto : Nat → Int32) (x : Int32) (hnr : nr ≤ 6) (hnt : nt ≤ 20) (hnc : nc ≤ 60) (hnw : nw ≤ 24) (hwk : wk ≤ 200) (hng : ng ≤ 3) (hnT : nT ≤ 4) (hnf : nf ≤ 12) (hnn : nn ≤ 60) : Met l yX5_isTrain wsX5_isTrain ({ frames := 1, cells := 0, slots := 0, locals := 22 } : Room) (va_Pc [.ref h5, .int x] (PB D (tyL cI cZ cG) (wX5 cI cZ cG h5 a5 (nI nr) (nI nt) (nI nc) (nI nw) hd (nI wk) (nI ng) (nI nT) mi (nI nf) (nI nn) mru mth mcl mfa mwa mfz mbl mbk mtr mno mlo mip mto) sz)) (va_Qi (fun (r : Int32) (_ : Unit) => bo r (inR x 0 (nI nT - 1) = true)) (fun u => QB D (tyL cI cZ cG) (va_A (wX5 cI cZ cG h5 a5 (nI nr) (nI nt) (nI nc) (nI nw) hd (nI wk) (nI ng) (nI nT) mi (nI nf) (nI nn) mru mth mcl mfa mwa mfz mbl mbk mtr mno mlo mip mto) sz) ((fun (_ : Unit) => wX5 cI cZ cG h5 a5 (nI nr) (nI nt) (nI nc) (nI nw) hd (nI wk) (nI ng) (nI nT) mi (nI nf) (nI nn) mru mth mcl mfa mwa mfz mbl mbk mtr mno mlo mip mto) u)) (va_A (wX5 cI cZ cG h5 a5 (nI nr) (nI nt) (nI nc) (nI nw) hd (nI wk) (nI ng) (nI nT) mi (nI nf) (nI nn) mru mth mcl mfa mwa mfz mbl mbk mtr mno mlo mip mto) sz)) 0 0 (va_A (wX5 cI cZ cG h5 a5 (nI nr) (nI nt) (nI nc) (nI nw) hd (nI wk) (nI ng) (nI nT) mi (nI nf) (nI nn) mru mth mcl mfa mwa mfz mbl mbk mtr mno mlo mip mto) sz) := by
  refine K_start (cc := cX5_isTrain) (maxL := 2) (ret := some .boolean) (Qc := fun A => va_Qi (fun (r : Int32) (_ : Unit) => bo r (inR x 0 (nI nT - 1) = true)) (fun u => QB D (tyL cI cZ cG) A ((fun (_ : Unit) => wX5 cI cZ cG h5 a5 (nI nr) (nI nt) (nI nc) (nI nw) hd (nI wk) (nI ng) (nI nT) mi (nI nf) (nI nn) mru mth mcl mfa mwa mfz mbl mbk mtr mno mlo mip mto) u)) A) (by decide) rfl (Nat.le_of_ble_eq_true rfl) ?_
  intro p e s m below meth c ls A hx hb hml hr hts hown hlocks hin hN hP hK hD hA hS hl hsz
  have hl : lv_has ls 2 [(0, .ref h5), (1, .int x)] := hl
  have fl110 := hts (.fieldLink RX5 110 "ModelTownModel" "trains" "I") (by decide +kernel)
  refine lv_iload_n hx hb dX5_isTrain_0 rfl (lv_at hl 1 rfl) ?_
  refine lv_iconst (v := 0) hx hb dX5_isTrain_1 (by decide) ?_
  refine lv_aload_n hx hb dX5_isTrain_2 rfl (lv_at hl 0 rfl) ?_
  refine va_get (D := D) (ci := 5) (v := .int (nI nT)) (C := RX5) (T := TX5) (N := 24) hx hb hts inX5_isTrain hown hK hP 0 rfl rfl 15 (by decide) fl110 (fun _ h9 => h9) rfl dX5_isTrain_3 ?_
  refine lv_iconst (v := 1) hx hb dX5_isTrain_6 (by decide) ?_
  refine lv_isub hx hb dX5_isTrain_7 ?_
  refine K_none (va_runS (As := [.int x, .int 0, .int ((nI nT) - 1)]) (rest := []) ⟨hx, hb, hml, hown, hts⟩ (c_X5_in l D cI cZ cG _ x 0 ((nI nT) - 1)) (va_cwS 3 hts gX5_isTrain_X5_in rfl rfl rfl (by decide +kernel) ⟨(Nat.le_of_ble_eq_true rfl), (Nat.le_of_ble_eq_true rfl)⟩) (K_pre0 hN hK) rfl rfl hl.1 rfl (lv_room (Nat.le_of_ble_eq_true rfl)) dX5_isTrain_8 ⟨Nat.zero_le _, Nat.zero_le _⟩) hP hS hA (fun r1 _ H locs hw1 hP hS => ?_)
  rcases hw1 with ⟨rfl, hw1⟩ | ⟨rfl, hw1⟩
  · skip
    exact K_zret (wf := (fun (_ : Unit) => wX5 cI cZ cG h5 a5 (nI nr) (nI nt) (nI nc) (nI nw) hd (nI wk) (nI ng) (nI nT) mi (nI nf) (nI nn) mru mth mcl mfa mwa mfz mbl mbk mtr mno mlo mip mto)) () hx hb hr hlocks hP hK hD hS dX5_isTrain_11 rfl (Or.inl ⟨rfl, by assumption⟩)
  · skip
    exact K_zret (wf := (fun (_ : Unit) => wX5 cI cZ cG h5 a5 (nI nr) (nI nt) (nI nc) (nI nw) hd (nI wk) (nI ng) (nI nT) mi (nI nf) (nI nn) mru mth mcl mfa mwa mfz mbl mbk mtr mno mlo mip mto)) () hx hb hr hlocks hP hK hD hS dX5_isTrain_11 rfl (Or.inr ⟨rfl, by assumption⟩)
theorem inX5_isFigure : ∀ w ∈ wsX50, w ∈ wsX5_isFigure := by decide +kernel
set_option maxHeartbeats 8000000 in
set_option maxRecDepth 100000 in
/-- isFigure -/
theorem c_X5_isFigure (l : Launch) (D : va_G) (cI cZ cG : ClassId) (h5 : Nat) (a5 : Nat → Nat) (sz : Nat) (nr : Nat) (nt : Nat) (nc : Nat) (nw : Nat) (hd : Int32) (wk : Nat) (ng : Nat) (nT : Nat) (mi : Int32) (nf : Nat) (nn : Nat) (mru : Nat → Int32) (mth : Nat → Int32) (mcl : Nat → Int32) (mfa : Nat → Int32) (mwa : Nat → Int32) (mfz : Nat → Int32) (mbl : Nat → Int32) (mbk : Nat → Int32) (mtr : Nat → Int32) (mno : Nat → Int32) (mlo : Nat → Int32) (mip : Nat → Int32) (mto : Nat → Int32) (x : Int32) (hnr : nr ≤ 6) (hnt : nt ≤ 20) (hnc : nc ≤ 60) (hnw : nw ≤ 24) (hwk : wk ≤ 200) (hng : ng ≤ 3) (hnT : nT ≤ 4) (hnf : nf ≤ 12) (hnn : nn ≤ 60) : Met l yX5_isFigure wsX5_isFigure ({ frames := 1, cells := 0, slots := 0, locals := 22 } : Room) (va_Pc [.ref h5, .int x] (PB D (tyL cI cZ cG) (wX5 cI cZ cG h5 a5 (nI nr) (nI nt) (nI nc) (nI nw) hd (nI wk) (nI ng) (nI nT) mi (nI nf) (nI nn) mru mth mcl mfa mwa mfz mbl mbk mtr mno mlo mip mto) sz)) (va_Qi (fun (r : Int32) (_ : Unit) => bo r (inR x 0 (nI nf - 1) = true)) (fun u => QB D (tyL cI cZ cG) (va_A (wX5 cI cZ cG h5 a5 (nI nr) (nI nt) (nI nc) (nI nw) hd (nI wk) (nI ng) (nI nT) mi (nI nf) (nI nn) mru mth mcl mfa mwa mfz mbl mbk mtr mno mlo mip mto) sz) ((fun (_ : Unit) => wX5 cI cZ cG h5 a5 (nI nr) (nI nt) (nI nc) (nI nw) hd (nI wk) (nI ng) (nI nT) mi (nI nf) (nI nn) mru mth mcl mfa mwa mfz mbl mbk mtr mno mlo mip mto) u)) (va_A (wX5 cI cZ cG h5 a5 (nI nr) (nI nt) (nI nc) (nI nw) hd (nI wk) (nI ng) (nI nT) mi (nI nf) (nI nn) mru mth mcl mfa mwa mfz mbl mbk mtr mno mlo mip mto) sz)) 0 0 (va_A (wX5 cI cZ cG h5 a5 (nI nr) (nI nt) (nI nc) (nI nw) hd (nI wk) (nI ng) (nI nT) mi (nI nf) (nI nn) mru mth mcl mfa mwa mfz mbl mbk mtr mno mlo mip mto) sz) := by
  refine K_start (cc := cX5_isFigure) (maxL := 2) (ret := some .boolean) (Qc := fun A => va_Qi (fun (r : Int32) (_ : Unit) => bo r (inR x 0 (nI nf - 1) = true)) (fun u => QB D (tyL cI cZ cG) A ((fun (_ : Unit) => wX5 cI cZ cG h5 a5 (nI nr) (nI nt) (nI nc) (nI nw) hd (nI wk) (nI ng) (nI nT) mi (nI nf) (nI nn) mru mth mcl mfa mwa mfz mbl mbk mtr mno mlo mip mto) u)) A) (by decide) rfl (Nat.le_of_ble_eq_true rfl) ?_
  intro p e s m below meth c ls A hx hb hml hr hts hown hlocks hin hN hP hK hD hA hS hl hsz
  have hl : lv_has ls 2 [(0, .ref h5), (1, .int x)] := hl
  have fl132 := hts (.fieldLink RX5 132 "ModelTownModel" "figures" "I") (by decide +kernel)
  refine lv_iload_n hx hb dX5_isFigure_0 rfl (lv_at hl 1 rfl) ?_
  refine lv_iconst (v := 0) hx hb dX5_isFigure_1 (by decide) ?_
  refine lv_aload_n hx hb dX5_isFigure_2 rfl (lv_at hl 0 rfl) ?_
  refine va_get (D := D) (ci := 5) (v := .int (nI nf)) (C := RX5) (T := TX5) (N := 24) hx hb hts inX5_isFigure hown hK hP 0 rfl rfl 18 (by decide) fl132 (fun _ h9 => h9) rfl dX5_isFigure_3 ?_
  refine lv_iconst (v := 1) hx hb dX5_isFigure_6 (by decide) ?_
  refine lv_isub hx hb dX5_isFigure_7 ?_
  refine K_none (va_runS (As := [.int x, .int 0, .int ((nI nf) - 1)]) (rest := []) ⟨hx, hb, hml, hown, hts⟩ (c_X5_in l D cI cZ cG _ x 0 ((nI nf) - 1)) (va_cwS 3 hts gX5_isFigure_X5_in rfl rfl rfl (by decide +kernel) ⟨(Nat.le_of_ble_eq_true rfl), (Nat.le_of_ble_eq_true rfl)⟩) (K_pre0 hN hK) rfl rfl hl.1 rfl (lv_room (Nat.le_of_ble_eq_true rfl)) dX5_isFigure_8 ⟨Nat.zero_le _, Nat.zero_le _⟩) hP hS hA (fun r1 _ H locs hw1 hP hS => ?_)
  rcases hw1 with ⟨rfl, hw1⟩ | ⟨rfl, hw1⟩
  · skip
    exact K_zret (wf := (fun (_ : Unit) => wX5 cI cZ cG h5 a5 (nI nr) (nI nt) (nI nc) (nI nw) hd (nI wk) (nI ng) (nI nT) mi (nI nf) (nI nn) mru mth mcl mfa mwa mfz mbl mbk mtr mno mlo mip mto)) () hx hb hr hlocks hP hK hD hS dX5_isFigure_11 rfl (Or.inl ⟨rfl, by assumption⟩)
  · skip
    exact K_zret (wf := (fun (_ : Unit) => wX5 cI cZ cG h5 a5 (nI nr) (nI nt) (nI nc) (nI nw) hd (nI wk) (nI ng) (nI nT) mi (nI nf) (nI nn) mru mth mcl mfa mwa mfz mbl mbk mtr mno mlo mip mto)) () hx hb hr hlocks hP hK hD hS dX5_isFigure_11 rfl (Or.inr ⟨rfl, by assumption⟩)
theorem inX5_forceOf : ∀ w ∈ wsX50, w ∈ wsX5_forceOf := by decide +kernel
set_option maxHeartbeats 8000000 in
set_option maxRecDepth 100000 in
/-- forceOf -/
theorem c_X5_forceOf (l : Launch) (D : va_G) (cI cZ cG : ClassId) (h5 : Nat) (a5 : Nat → Nat) (sz : Nat) (nr : Nat) (nt : Nat) (nc : Nat) (nw : Nat) (hd : Int32) (wk : Nat) (ng : Nat) (nT : Nat) (mi : Int32) (nf : Nat) (nn : Nat) (mru : Nat → Int32) (mth : Nat → Int32) (mcl : Nat → Int32) (mfa : Nat → Int32) (mwa : Nat → Int32) (mfz : Nat → Int32) (mbl : Nat → Int32) (mbk : Nat → Int32) (mtr : Nat → Int32) (mno : Nat → Int32) (mlo : Nat → Int32) (mip : Nat → Int32) (mto : Nat → Int32) (d : Int32) (w : Nat) (hnr : nr ≤ 6) (hnt : nt ≤ 20) (hnc : nc ≤ 60) (hnw : nw ≤ 24) (hwk : wk ≤ 200) (hng : ng ≤ 3) (hnT : nT ≤ 4) (hnf : nf ≤ 12) (hnn : nn ≤ 60) (hw1 : w ≤ 1) : Met l yX5_forceOf wsX5_forceOf ({ frames := 0, cells := 0, slots := 0, locals := 0 } : Room) (va_Pc [.ref h5, .int d, .int (nI w)] (PB D (tyL cI cZ cG) (wX5 cI cZ cG h5 a5 (nI nr) (nI nt) (nI nc) (nI nw) hd (nI wk) (nI ng) (nI nT) mi (nI nf) (nI nn) mru mth mcl mfa mwa mfz mbl mbk mtr mno mlo mip mto) sz)) (va_Qi (fun (r : Int32) (_ : Unit) => r = rForceM nr mru d w) (fun u => QB D (tyL cI cZ cG) (va_A (wX5 cI cZ cG h5 a5 (nI nr) (nI nt) (nI nc) (nI nw) hd (nI wk) (nI ng) (nI nT) mi (nI nf) (nI nn) mru mth mcl mfa mwa mfz mbl mbk mtr mno mlo mip mto) sz) ((fun (_ : Unit) => wX5 cI cZ cG h5 a5 (nI nr) (nI nt) (nI nc) (nI nw) hd (nI wk) (nI ng) (nI nT) mi (nI nf) (nI nn) mru mth mcl mfa mwa mfz mbl mbk mtr mno mlo mip mto) u)) (va_A (wX5 cI cZ cG h5 a5 (nI nr) (nI nt) (nI nc) (nI nw) hd (nI wk) (nI ng) (nI nT) mi (nI nf) (nI nn) mru mth mcl mfa mwa mfz mbl mbk mtr mno mlo mip mto) sz)) 0 0 (va_A (wX5 cI cZ cG h5 a5 (nI nr) (nI nt) (nI nc) (nI nw) hd (nI wk) (nI ng) (nI nT) mi (nI nf) (nI nn) mru mth mcl mfa mwa mfz mbl mbk mtr mno mlo mip mto) sz) := by
  refine K_start (cc := cX5_forceOf) (maxL := 5) (ret := some .int) (Qc := fun A => va_Qi (fun (r : Int32) (_ : Unit) => r = rForceM nr mru d w) (fun u => QB D (tyL cI cZ cG) A ((fun (_ : Unit) => wX5 cI cZ cG h5 a5 (nI nr) (nI nt) (nI nc) (nI nw) hd (nI wk) (nI ng) (nI nT) mi (nI nf) (nI nn) mru mth mcl mfa mwa mfz mbl mbk mtr mno mlo mip mto) u)) A) (by decide) rfl (Nat.le_of_ble_eq_true rfl) ?_
  intro p e s m below meth c ls A hx hb hml hr hts hown hlocks hin hN hP hK hD hA hS hl hsz
  have hl : lv_has ls 5 [(0, .ref h5), (1, .int d), (2, .int (nI w))] := hl
  have fl62 := hts (.fieldLink RX5 62 "ModelTownModel" "rules" "I") (by decide +kernel)
  have fl7 := hts (.fieldLink RX5 7 "ModelTownModel" "rule" "[I") (by decide +kernel)
  refine lv_bipush (v := (-6)) hx hb dX5_forceOf_0 (by decide) ?_
  refine lv_istore_n (lv' := [(3, .int (-6)), (0, .ref h5), (1, .int d), (2, .int (nI w))]) hx hb dX5_forceOf_2 rfl hl (by decide) rfl (fun ls hl => ?_)
  refine lv_iconst (v := 0) hx hb dX5_forceOf_3 (by decide) ?_
  refine lv_istore (lv' := [(4, .int 0), (3, .int (-6)), (0, .ref h5), (1, .int d), (2, .int (nI w))]) hx hb dX5_forceOf_4 hl (by decide) rfl (fun ls hl => ?_)
  refine loopW2 (fun (k : Nat) (o : Option Nat) H locs ls => (k ≤ nr) ∧ (o = bR (col 3 0 mru) d k) ∧ va_P D vwCl (wX5 cI cZ cG h5 a5 (nI nr) (nI nt) (nI nc) (nI nw) hd (nI wk) (nI ng) (nI nT) mi (nI nf) (nI nn) mru mth mcl mfa mwa mfz mbl mbk mtr mno mlo mip mto) H ∧ va_D A (wX5 cI cZ cG h5 a5 (nI nr) (nI nt) (nI nc) (nI nw) hd (nI wk) (nI ng) (nI nT) mi (nI nf) (nI nn) mru mth mcl mfa mwa mfz mbl mbk mtr mno mlo mip mto) ∧ va_S A s.heap H locs ∧ lv_has ls 5 [(4, .int (nI k)), (3, .int (oI o)), (0, .ref h5), (1, .int d), (2, .int (nI w))]) (fun (k : Nat) (o : Option Nat) => nr - k) (fun k o H locs ls hI ih6 => ?_) 0 none _ _ _ ⟨(by omega), rfl, hP, hD, hS, lv_sub hl [0, 1, 2, 3, 4] rfl⟩
  obtain ⟨hk, ho, hP, hD, hS, hl⟩ := hI
  refine lv_iload hx hb dX5_forceOf_6 (lv_at hl 0 rfl) ?_
  refine lv_aload_n hx hb dX5_forceOf_8 rfl (lv_at hl 2 rfl) ?_
  refine va_get (D := D) (ci := 5) (v := .int (nI nr)) (C := RX5) (T := TX5) (N := 24) hx hb hts inX5_forceOf hown hK hP 0 rfl rfl 0 (by decide) fl62 (fun _ h9 => h9) rfl dX5_forceOf_9 ?_
  refine lv_icmp_ge (tgt := 65) hx hb dX5_forceOf_12 (by decide) (fun c1 => ?_) (fun c1 => ?_)
  · have c1 : nr ≤ k := (nI_leI (a := nr) (b := k) (by omega) (by omega)).mp c1
    have ek : k = nr := by omega
    rw [ek] at ho
    rcases o with _ | b
    · have hl : lv_has ls 5 [(4, .int (nI k)), (3, .int (-6)), (0, .ref h5), (1, .int d), (2, .int (nI w))] := hl
      refine lv_iload_n hx hb dX5_forceOf_65 rfl (lv_at hl 1 rfl) ?_
      refine lv_if_ge (tgt := 83) hx hb dX5_forceOf_66 (by decide) (fun c2 => absurd c2 (by decide)) (fun _ => ?_)
      refine lv_iload_n hx hb dX5_forceOf_69 rfl (lv_at hl 4 rfl) ?_
      refine lv_if_ne (tgt := 78) hx hb dX5_forceOf_70 (by decide) (fun c3 => ?_) (fun c3 => ?_)
      · have c3 : ¬ w = 0 := fun hq => c3 ((nI_eq (a := w) (b := 0) (by omega) (by omega)).mpr hq)
        have c3 : ¬ w = 0 := c3
        refine lv_bipush (v := 10) hx hb dX5_forceOf_78 (by decide) ?_
        refine lv_goto (tgt := 95) hx hb dX5_forceOf_80 (by decide) ?_
        exact K_iret (wf := (fun (_ : Unit) => wX5 cI cZ cG h5 a5 (nI nr) (nI nt) (nI nc) (nI nw) hd (nI wk) (nI ng) (nI nT) mi (nI nf) (nI nn) mru mth mcl mfa mwa mfz mbl mbk mtr mno mlo mip mto)) () hx hb hr hlocks hP hK hD hS dX5_forceOf_95 (by rw [rForceM, if_neg c3, slA, ← ho]; rfl)
      · have c3 : w = 0 := (nI_eq (a := w) (b := 0) (by omega) (by omega)).mp c3
        have c3 : w = 0 := by omega
        refine lv_bipush (v := 12) hx hb dX5_forceOf_73 (by decide) ?_
        refine lv_goto (tgt := 95) hx hb dX5_forceOf_75 (by decide) ?_
        exact K_iret (wf := (fun (_ : Unit) => wX5 cI cZ cG h5 a5 (nI nr) (nI nt) (nI nc) (nI nw) hd (nI wk) (nI ng) (nI nT) mi (nI nf) (nI nn) mru mth mcl mfa mwa mfz mbl mbk mtr mno mlo mip mto)) () hx hb hr hlocks hP hK hD hS dX5_forceOf_95 (by rw [rForceM, if_pos c3, raA, ← ho]; rfl)
    · have hl : lv_has ls 5 [(4, .int (nI k)), (3, .int (nI b)), (0, .ref h5), (1, .int d), (2, .int (nI w))] := hl
      have hbb := bR_lt ho.symm
      refine lv_iload_n hx hb dX5_forceOf_65 rfl (lv_at hl 1 rfl) ?_
      refine lv_if_ge (tgt := 83) hx hb dX5_forceOf_66 (by decide) (fun c4 => ?_) (fun c4 => absurd (nI_pos' (by omega)) c4)
      refine lv_aload_n hx hb dX5_forceOf_83 rfl (lv_at hl 2 rfl) ?_
      refine va_get (D := D) (ci := 5) (v := .ref (a5 0)) (C := RX5) (T := TX5) (N := 24) hx hb hts inX5_forceOf hown hK hP 0 rfl rfl 1 (by decide) fl7 (fun _ h9 => h9) rfl dX5_forceOf_84 ?_
      refine lv_iconst (v := 3) hx hb dX5_forceOf_87 (by decide) ?_
      refine lv_iload_n hx hb dX5_forceOf_88 rfl (lv_at hl 1 rfl) ?_
      refine lv_imul hx hb dX5_forceOf_89 ?_
      refine lv_topi (fun z5 ez5 => ?_)
      obtain rfl : z5 = nI (3 * b) := ez5.trans (pk_mul 3 b)
      refine lv_iconst (v := 1) hx hb dX5_forceOf_90 (by decide) ?_
      refine lv_iadd hx hb dX5_forceOf_91 ?_
      refine lv_topi (fun z6 ez6 => ?_)
      obtain rfl : z6 = nI (3 * b + 1) := ez6.trans ((nI_add (3 * b) 1).trans (congrArg nI (by omega)))
      refine lv_iload_n hx hb dX5_forceOf_92 rfl (lv_at hl 4 rfl) ?_
      refine lv_iadd hx hb dX5_forceOf_93 ?_
      refine lv_topi (fun z7 ez7 => ?_)
      obtain rfl : z7 = nI (3 * b + 1 + w) := ez7.trans ((nI_add (3 * b + 1) w).trans (congrArg nI (by omega)))
      refine K_iald hx hb hK hP 1 0 rfl rfl (3 * b + 1 + w) (by omega) (Nat.le_of_ble_eq_true rfl) dX5_forceOf_94 ?_
      exact K_iret (wf := (fun (_ : Unit) => wX5 cI cZ cG h5 a5 (nI nr) (nI nt) (nI nc) (nI nw) hd (nI wk) (nI ng) (nI nT) mi (nI nf) (nI nn) mru mth mcl mfa mwa mfz mbl mbk mtr mno mlo mip mto)) () hx hb hr hlocks hP hK hD hS dX5_forceOf_95 (by rcases (by omega : w = 0 ∨ w = 1) with rfl | rfl <;> simp [rForceM, raA, slA, ← ho, foO, col])
  · have c1 : ¬ nr ≤ k := fun hq => c1 ((nI_leI (a := nr) (b := k) (by omega) (by omega)).mpr hq)
    rcases o with _ | b
    · have hl : lv_has ls 5 [(4, .int (nI k)), (3, .int (-6)), (0, .ref h5), (1, .int d), (2, .int (nI w))] := hl
      refine lv_aload_n hx hb dX5_forceOf_15 rfl (lv_at hl 2 rfl) ?_
      refine va_get (D := D) (ci := 5) (v := .ref (a5 0)) (C := RX5) (T := TX5) (N := 24) hx hb hts inX5_forceOf hown hK hP 0 rfl rfl 1 (by decide) fl7 (fun _ h9 => h9) rfl dX5_forceOf_16 ?_
      refine lv_iconst (v := 3) hx hb dX5_forceOf_19 (by decide) ?_
      refine lv_iload hx hb dX5_forceOf_20 (lv_at hl 0 rfl) ?_
      refine lv_imul hx hb dX5_forceOf_22 ?_
      refine lv_topi (fun z8 ez8 => ?_)
      obtain rfl : z8 = nI (3 * k) := ez8.trans (pk_mul 3 k)
      refine K_iald hx hb hK hP 1 0 rfl rfl (3 * k) (by omega) (Nat.le_of_ble_eq_true rfl) dX5_forceOf_23 ?_
      refine lv_iload_n hx hb dX5_forceOf_24 rfl (lv_at hl 3 rfl) ?_
      refine lv_icmp_gt (tgt := 57) hx hb dX5_forceOf_25 (by decide) (fun c9 => ?_) (fun c9 => ?_)
      · replace c9 := Int32.not_le.mpr c9
        refine lv_iload_n hx hb dX5_forceOf_57 rfl (lv_at hl 1 rfl) ?_
        refine lv_istore_n (lv' := [(3, .int (-6)), (4, .int (nI k)), (0, .ref h5), (1, .int d), (2, .int (nI w))]) hx hb dX5_forceOf_58 rfl hl (by decide) rfl (fun ls hl => ?_)
        refine lv_iinc (v := nI (k + 1)) (lv' := [(4, .int (nI (k + 1))), (3, .int (-6)), (0, .ref h5), (1, .int d), (2, .int (nI w))]) hx hb dX5_forceOf_59 hl (k := 1) rfl (inc1 _) (by decide) rfl (fun ls hl => ?_)
        refine lv_goto (tgt := 6) hx hb dX5_forceOf_62 (by decide) ?_
        exact ih6 (k + 1) none _ _ _ ⟨(by omega), (by simp [bR, ← ho, col, c1, c9]), hP, hD, hS, lv_sub hl [0, 1, 2, 3, 4] rfl⟩ (by omega)
      · replace c9 := Int32.not_lt.mp c9
        refine lv_iload_n hx hb dX5_forceOf_28 rfl (lv_at hl 1 rfl) ?_
        refine lv_if_lt (tgt := 52) hx hb dX5_forceOf_29 (by decide) (fun _ => ?_) (fun c10 => absurd c10 (by decide))
        refine lv_iload hx hb dX5_forceOf_52 (lv_at hl 0 rfl) ?_
        refine lv_goto (tgt := 58) hx hb dX5_forceOf_54 (by decide) ?_
        refine lv_istore_n (lv' := [(3, .int (nI k)), (4, .int (nI k)), (0, .ref h5), (1, .int d), (2, .int (nI w))]) hx hb dX5_forceOf_58 rfl hl (by decide) rfl (fun ls hl => ?_)
        refine lv_iinc (v := nI (k + 1)) (lv' := [(4, .int (nI (k + 1))), (3, .int (nI k)), (0, .ref h5), (1, .int d), (2, .int (nI w))]) hx hb dX5_forceOf_59 hl (k := 1) rfl (inc1 _) (by decide) rfl (fun ls hl => ?_)
        refine lv_goto (tgt := 6) hx hb dX5_forceOf_62 (by decide) ?_
        exact ih6 (k + 1) (some k) _ _ _ ⟨(by omega), (by simp [bR, ← ho, col, c1, c9]), hP, hD, hS, lv_sub hl [0, 1, 2, 3, 4] rfl⟩ (by omega)
    · have hl : lv_has ls 5 [(4, .int (nI k)), (3, .int (nI b)), (0, .ref h5), (1, .int d), (2, .int (nI w))] := hl
      have hbb := bR_lt ho.symm
      refine lv_aload_n hx hb dX5_forceOf_15 rfl (lv_at hl 2 rfl) ?_
      refine va_get (D := D) (ci := 5) (v := .ref (a5 0)) (C := RX5) (T := TX5) (N := 24) hx hb hts inX5_forceOf hown hK hP 0 rfl rfl 1 (by decide) fl7 (fun _ h9 => h9) rfl dX5_forceOf_16 ?_
      refine lv_iconst (v := 3) hx hb dX5_forceOf_19 (by decide) ?_
      refine lv_iload hx hb dX5_forceOf_20 (lv_at hl 0 rfl) ?_
      refine lv_imul hx hb dX5_forceOf_22 ?_
      refine lv_topi (fun z11 ez11 => ?_)
      obtain rfl : z11 = nI (3 * k) := ez11.trans (pk_mul 3 k)
      refine K_iald hx hb hK hP 1 0 rfl rfl (3 * k) (by omega) (Nat.le_of_ble_eq_true rfl) dX5_forceOf_23 ?_
      refine lv_iload_n hx hb dX5_forceOf_24 rfl (lv_at hl 3 rfl) ?_
      refine lv_icmp_gt (tgt := 57) hx hb dX5_forceOf_25 (by decide) (fun c12 => ?_) (fun c12 => ?_)
      · replace c12 := Int32.not_le.mpr c12
        refine lv_iload_n hx hb dX5_forceOf_57 rfl (lv_at hl 1 rfl) ?_
        refine lv_istore_n (lv' := [(3, .int (nI b)), (4, .int (nI k)), (0, .ref h5), (1, .int d), (2, .int (nI w))]) hx hb dX5_forceOf_58 rfl hl (by decide) rfl (fun ls hl => ?_)
        refine lv_iinc (v := nI (k + 1)) (lv' := [(4, .int (nI (k + 1))), (3, .int (nI b)), (0, .ref h5), (1, .int d), (2, .int (nI w))]) hx hb dX5_forceOf_59 hl (k := 1) rfl (inc1 _) (by decide) rfl (fun ls hl => ?_)
        refine lv_goto (tgt := 6) hx hb dX5_forceOf_62 (by decide) ?_
        exact ih6 (k + 1) (some b) _ _ _ ⟨(by omega), (by simp [bR, ← ho, col, c1, c12]), hP, hD, hS, lv_sub hl [0, 1, 2, 3, 4] rfl⟩ (by omega)
      · replace c12 := Int32.not_lt.mp c12
        refine lv_iload_n hx hb dX5_forceOf_28 rfl (lv_at hl 1 rfl) ?_
        refine lv_if_lt (tgt := 52) hx hb dX5_forceOf_29 (by decide) (fun c13 => absurd c13 (nI_pos (by omega))) (fun c13 => ?_)
        refine lv_aload_n hx hb dX5_forceOf_32 rfl (lv_at hl 2 rfl) ?_
        refine va_get (D := D) (ci := 5) (v := .ref (a5 0)) (C := RX5) (T := TX5) (N := 24) hx hb hts inX5_forceOf hown hK hP 0 rfl rfl 1 (by decide) fl7 (fun _ h9 => h9) rfl dX5_forceOf_33 ?_
        refine lv_iconst (v := 3) hx hb dX5_forceOf_36 (by decide) ?_
        refine lv_iload hx hb dX5_forceOf_37 (lv_at hl 0 rfl) ?_
        refine lv_imul hx hb dX5_forceOf_39 ?_
        refine lv_topi (fun z14 ez14 => ?_)
        obtain rfl : z14 = nI (3 * k) := ez14.trans (pk_mul 3 k)
        refine K_iald hx hb hK hP 1 0 rfl rfl (3 * k) (by omega) (Nat.le_of_ble_eq_true rfl) dX5_forceOf_40 ?_
        refine lv_aload_n hx hb dX5_forceOf_41 rfl (lv_at hl 2 rfl) ?_
        refine va_get (D := D) (ci := 5) (v := .ref (a5 0)) (C := RX5) (T := TX5) (N := 24) hx hb hts inX5_forceOf hown hK hP 0 rfl rfl 1 (by decide) fl7 (fun _ h9 => h9) rfl dX5_forceOf_42 ?_
        refine lv_iconst (v := 3) hx hb dX5_forceOf_45 (by decide) ?_
        refine lv_iload_n hx hb dX5_forceOf_46 rfl (lv_at hl 1 rfl) ?_
        refine lv_imul hx hb dX5_forceOf_47 ?_
        refine lv_topi (fun z15 ez15 => ?_)
        obtain rfl : z15 = nI (3 * b) := ez15.trans (pk_mul 3 b)
        refine K_iald hx hb hK hP 1 0 rfl rfl (3 * b) (by omega) (Nat.le_of_ble_eq_true rfl) dX5_forceOf_48 ?_
        refine lv_icmp_lt (tgt := 57) hx hb dX5_forceOf_49 (by decide) (fun c16 => ?_) (fun c16 => ?_)
        · replace c16 := Int32.not_le.mpr c16
          refine lv_iload_n hx hb dX5_forceOf_57 rfl (lv_at hl 1 rfl) ?_
          refine lv_istore_n (lv' := [(3, .int (nI b)), (4, .int (nI k)), (0, .ref h5), (1, .int d), (2, .int (nI w))]) hx hb dX5_forceOf_58 rfl hl (by decide) rfl (fun ls hl => ?_)
          refine lv_iinc (v := nI (k + 1)) (lv' := [(4, .int (nI (k + 1))), (3, .int (nI b)), (0, .ref h5), (1, .int d), (2, .int (nI w))]) hx hb dX5_forceOf_59 hl (k := 1) rfl (inc1 _) (by decide) rfl (fun ls hl => ?_)
          refine lv_goto (tgt := 6) hx hb dX5_forceOf_62 (by decide) ?_
          exact ih6 (k + 1) (some b) _ _ _ ⟨(by omega), (by simp [bR, ← ho, col, c1, c12, c16]), hP, hD, hS, lv_sub hl [0, 1, 2, 3, 4] rfl⟩ (by omega)
        · replace c16 := Int32.not_lt.mp c16
          refine lv_iload hx hb dX5_forceOf_52 (lv_at hl 0 rfl) ?_
          refine lv_goto (tgt := 58) hx hb dX5_forceOf_54 (by decide) ?_
          refine lv_istore_n (lv' := [(3, .int (nI k)), (4, .int (nI k)), (0, .ref h5), (1, .int d), (2, .int (nI w))]) hx hb dX5_forceOf_58 rfl hl (by decide) rfl (fun ls hl => ?_)
          refine lv_iinc (v := nI (k + 1)) (lv' := [(4, .int (nI (k + 1))), (3, .int (nI k)), (0, .ref h5), (1, .int d), (2, .int (nI w))]) hx hb dX5_forceOf_59 hl (k := 1) rfl (inc1 _) (by decide) rfl (fun ls hl => ?_)
          refine lv_goto (tgt := 6) hx hb dX5_forceOf_62 (by decide) ?_
          exact ih6 (k + 1) (some k) _ _ _ ⟨(by omega), (by simp [bR, ← ho, col, c1, c12, c16]), hP, hD, hS, lv_sub hl [0, 1, 2, 3, 4] rfl⟩ (by omega)
set_option maxHeartbeats 8000000 in
set_option maxRecDepth 100000 in
/-- force -/
theorem c_X5_force (l : Launch) (D : va_G) (cI cZ cG : ClassId) (h5 : Nat) (a5 : Nat → Nat) (sz : Nat) (nr : Nat) (nt : Nat) (nc : Nat) (nw : Nat) (hd : Int32) (wk : Nat) (ng : Nat) (nT : Nat) (mi : Int32) (nf : Nat) (nn : Nat) (mru : Nat → Int32) (mth : Nat → Int32) (mcl : Nat → Int32) (mfa : Nat → Int32) (mwa : Nat → Int32) (mfz : Nat → Int32) (mbl : Nat → Int32) (mbk : Nat → Int32) (mtr : Nat → Int32) (mno : Nat → Int32) (mlo : Nat → Int32) (mip : Nat → Int32) (mto : Nat → Int32) (d : Int32) (w : Int32) (hnr : nr ≤ 6) (hnt : nt ≤ 20) (hnc : nc ≤ 60) (hnw : nw ≤ 24) (hwk : wk ≤ 200) (hng : ng ≤ 3) (hnT : nT ≤ 4) (hnf : nf ≤ 12) (hnn : nn ≤ 60) : Met l yX5_force wsX5_force ({ frames := 2, cells := 0, slots := 0, locals := 42 } : Room) (va_Pc [.ref h5, .int d, .int w] (PB D (tyL cI cZ cG) (wX5 cI cZ cG h5 a5 (nI nr) (nI nt) (nI nc) (nI nw) hd (nI wk) (nI ng) (nI nT) mi (nI nf) (nI nn) mru mth mcl mfa mwa mfz mbl mbk mtr mno mlo mip mto) sz)) (va_Qi (fun (r : Int32) (_ : Unit) => r = rForce nr (col 3 0 mru) (col 3 1 mru) (col 3 2 mru) d w) (fun u => QB D (tyL cI cZ cG) (va_A (wX5 cI cZ cG h5 a5 (nI nr) (nI nt) (nI nc) (nI nw) hd (nI wk) (nI ng) (nI nT) mi (nI nf) (nI nn) mru mth mcl mfa mwa mfz mbl mbk mtr mno mlo mip mto) sz) ((fun (_ : Unit) => wX5 cI cZ cG h5 a5 (nI nr) (nI nt) (nI nc) (nI nw) hd (nI wk) (nI ng) (nI nT) mi (nI nf) (nI nn) mru mth mcl mfa mwa mfz mbl mbk mtr mno mlo mip mto) u)) (va_A (wX5 cI cZ cG h5 a5 (nI nr) (nI nt) (nI nc) (nI nw) hd (nI wk) (nI ng) (nI nT) mi (nI nf) (nI nn) mru mth mcl mfa mwa mfz mbl mbk mtr mno mlo mip mto) sz)) 0 0 (va_A (wX5 cI cZ cG h5 a5 (nI nr) (nI nt) (nI nc) (nI nw) hd (nI wk) (nI ng) (nI nT) mi (nI nf) (nI nn) mru mth mcl mfa mwa mfz mbl mbk mtr mno mlo mip mto) sz) := by
  refine K_start (cc := cX5_force) (maxL := 3) (ret := some .int) (Qc := fun A => va_Qi (fun (r : Int32) (_ : Unit) => r = rForce nr (col 3 0 mru) (col 3 1 mru) (col 3 2 mru) d w) (fun u => QB D (tyL cI cZ cG) A ((fun (_ : Unit) => wX5 cI cZ cG h5 a5 (nI nr) (nI nt) (nI nc) (nI nw) hd (nI wk) (nI ng) (nI nT) mi (nI nf) (nI nn) mru mth mcl mfa mwa mfz mbl mbk mtr mno mlo mip mto) u)) A) (by decide) rfl (Nat.le_of_ble_eq_true rfl) ?_
  intro p e s m below meth c ls A hx hb hml hr hts hown hlocks hin hN hP hK hD hA hS hl hsz
  have hl : lv_has ls 3 [(0, .ref h5), (1, .int d), (2, .int w)] := hl
  refine lv_iload_n hx hb dX5_force_0 rfl (lv_at hl 1 rfl) ?_
  refine K_none (va_runS (As := [.int d]) (rest := []) ⟨hx, hb, hml, hown, hts⟩ (c_X5_isDay l D cI cZ cG _ d) (va_cwS 1 hts gX5_force_X5_isDay rfl rfl rfl (by decide +kernel) ⟨(Nat.le_of_ble_eq_true rfl), (Nat.le_of_ble_eq_true rfl)⟩) (K_pre0 hN hK) rfl rfl hl.1 rfl (lv_room (Nat.le_of_ble_eq_true rfl)) dX5_force_1 ⟨Nat.zero_le _, Nat.zero_le _⟩) hP hS hA (fun r1 _ H locs hw1 hP hS => ?_)
  rcases hw1 with ⟨rfl, hw1⟩ | ⟨rfl, hw1⟩
  · skip
    refine lv_if_eq (tgt := 25) hx hb dX5_force_4 (by decide) (fun c2 => absurd c2 (by decide)) (fun _ => ?_)
    refine lv_iload_n hx hb dX5_force_7 rfl (lv_at hl 2 rfl) ?_
    refine lv_iconst (v := 0) hx hb dX5_force_8 (by decide) ?_
    refine lv_iconst (v := 1) hx hb dX5_force_9 (by decide) ?_
    refine K_none (va_runS (As := [.int w, .int 0, .int 1]) (rest := []) ⟨hx, hb, hml, hown, hts⟩ (c_X5_in l D cI cZ cG _ w 0 1) (va_cwS 3 hts gX5_force_X5_in rfl rfl rfl (by decide +kernel) ⟨(Nat.le_of_ble_eq_true rfl), (Nat.le_of_ble_eq_true rfl)⟩) (K_pre0 hN hK) rfl rfl hl.1 rfl (lv_room (Nat.le_of_ble_eq_true rfl)) dX5_force_10 ⟨Nat.zero_le _, Nat.zero_le _⟩) hP hS hA (fun r3 _ H locs hw3 hP hS => ?_)
    rcases hw3 with ⟨rfl, hw3⟩ | ⟨rfl, hw3⟩
    · obtain ⟨w0, hw01, hw02, rfl⟩ := inR_nat1 (a := 0) (b := 1) hw3 (by decide) (by decide)
      have hcw0 : (nI w0).toNatClampNeg = w0 := nI_clamp (by omega)
      refine lv_if_eq (tgt := 25) hx hb dX5_force_13 (by decide) (fun c4 => absurd c4 (by decide)) (fun _ => ?_)
      refine lv_aload_n hx hb dX5_force_16 rfl (lv_at hl 0 rfl) ?_
      refine lv_iload_n hx hb dX5_force_17 rfl (lv_at hl 1 rfl) ?_
      refine lv_iload_n hx hb dX5_force_18 rfl (lv_at hl 2 rfl) ?_
      refine K_same (va_runV (As := [.int d, .int (nI w0)]) (rest := []) ⟨hx, hb, hml, hown, hts⟩ (c_X5_forceOf l D cI cZ cG h5 a5 _ nr nt nc nw hd wk ng nT mi nf nn mru mth mcl mfa mwa mfz mbl mbk mtr mno mlo mip mto d w0 hnr hnt hnc hnw hwk hng hnT hnf hnn (by omega)) (cwV 2 hts gX5_force_X5_forceOf rfl rfl rfl (by decide +kernel) ⟨(Nat.le_of_ble_eq_true rfl), (Nat.le_of_ble_eq_true rfl)⟩) ⟨PB_blind, va_recv hK hP (ci := 5) (q0 := 0) rfl rfl, (K_preS hN hK hP hD).2⟩ rfl rfl hl.1 rfl (lv_room (Nat.le_of_ble_eq_true rfl)) dX5_force_19 ⟨Nat.zero_le _, Nat.zero_le _⟩) hD hS hA (fun r5 u H locs hw5 hP hD hS => ?_)
      have hP : va_P D vwCl (wX5 cI cZ cG h5 a5 (nI nr) (nI nt) (nI nc) (nI nw) hd (nI wk) (nI ng) (nI nT) mi (nI nf) (nI nn) mru mth mcl mfa mwa mfz mbl mbk mtr mno mlo mip mto) H := hP
      have hD : va_D A (wX5 cI cZ cG h5 a5 (nI nr) (nI nt) (nI nc) (nI nw) hd (nI wk) (nI ng) (nI nT) mi (nI nf) (nI nn) mru mth mcl mfa mwa mfz mbl mbk mtr mno mlo mip mto) := hD
      obtain rfl := hw5
      refine lv_goto (tgt := 27) hx hb dX5_force_22 (by decide) ?_
      exact K_iret (wf := (fun (_ : Unit) => wX5 cI cZ cG h5 a5 (nI nr) (nI nt) (nI nc) (nI nw) hd (nI wk) (nI ng) (nI nT) mi (nI nf) (nI nn) mru mth mcl mfa mwa mfz mbl mbk mtr mno mlo mip mto)) () hx hb hr hlocks hP hK hD hS dX5_force_27 (by rw [rForce, if_pos ⟨by assumption, by assumption⟩, rForceM]; rcases (by omega : w0 = 0 ∨ w0 = 1) with rfl | rfl <;> rfl)
    · skip
      refine lv_if_eq (tgt := 25) hx hb dX5_force_13 (by decide) (fun _ => ?_) (fun c6 => absurd c6 (by decide))
      refine lv_bipush (v := (-2)) hx hb dX5_force_25 (by decide) ?_
      exact K_iret (wf := (fun (_ : Unit) => wX5 cI cZ cG h5 a5 (nI nr) (nI nt) (nI nc) (nI nw) hd (nI wk) (nI ng) (nI nT) mi (nI nf) (nI nn) mru mth mcl mfa mwa mfz mbl mbk mtr mno mlo mip mto)) () hx hb hr hlocks hP hK hD hS dX5_force_27 (by simp [rForce, hw1, hw3])
  · skip
    refine lv_if_eq (tgt := 25) hx hb dX5_force_4 (by decide) (fun _ => ?_) (fun c7 => absurd c7 (by decide))
    refine lv_bipush (v := (-2)) hx hb dX5_force_25 (by decide) ?_
    exact K_iret (wf := (fun (_ : Unit) => wX5 cI cZ cG h5 a5 (nI nr) (nI nt) (nI nc) (nI nw) hd (nI wk) (nI ng) (nI nT) mi (nI nf) (nI nn) mru mth mcl mfa mwa mfz mbl mbk mtr mno mlo mip mto)) () hx hb hr hlocks hP hK hD hS dX5_force_27 (by simp [rForce, hw1])
theorem inX5_sizeOn : ∀ w ∈ wsX50, w ∈ wsX5_sizeOn := by decide +kernel
set_option maxHeartbeats 8000000 in
set_option maxRecDepth 100000 in
/-- sizeOn -/
theorem c_X5_sizeOn (l : Launch) (D : va_G) (cI cZ cG : ClassId) (h5 : Nat) (a5 : Nat → Nat) (sz : Nat) (nr : Nat) (nt : Nat) (nc : Nat) (nw : Nat) (hd : Int32) (wk : Nat) (ng : Nat) (nT : Nat) (mi : Int32) (nf : Nat) (nn : Nat) (mru : Nat → Int32) (mth : Nat → Int32) (mcl : Nat → Int32) (mfa : Nat → Int32) (mwa : Nat → Int32) (mfz : Nat → Int32) (mbl : Nat → Int32) (mbk : Nat → Int32) (mtr : Nat → Int32) (mno : Nat → Int32) (mlo : Nat → Int32) (mip : Nat → Int32) (mto : Nat → Int32) (t : Nat) (d : Int32) (hnr : nr ≤ 6) (hnt : nt ≤ 20) (hnc : nc ≤ 60) (hnw : nw ≤ 24) (hwk : wk ≤ 200) (hng : ng ≤ 3) (hnT : nT ≤ 4) (hnf : nf ≤ 12) (hnn : nn ≤ 60) (ht : t < nt) : Met l yX5_sizeOn wsX5_sizeOn ({ frames := 0, cells := 0, slots := 0, locals := 0 } : Room) (va_Pc [.ref h5, .int (nI t), .int d] (PB D (tyL cI cZ cG) (wX5 cI cZ cG h5 a5 (nI nr) (nI nt) (nI nc) (nI nw) hd (nI wk) (nI ng) (nI nT) mi (nI nf) (nI nn) mru mth mcl mfa mwa mfz mbl mbk mtr mno mlo mip mto) sz)) (va_Qi (fun (r : Int32) (_ : Unit) => r = szM nc mth mcl t d) (fun u => QB D (tyL cI cZ cG) (va_A (wX5 cI cZ cG h5 a5 (nI nr) (nI nt) (nI nc) (nI nw) hd (nI wk) (nI ng) (nI nT) mi (nI nf) (nI nn) mru mth mcl mfa mwa mfz mbl mbk mtr mno mlo mip mto) sz) ((fun (_ : Unit) => wX5 cI cZ cG h5 a5 (nI nr) (nI nt) (nI nc) (nI nw) hd (nI wk) (nI ng) (nI nT) mi (nI nf) (nI nn) mru mth mcl mfa mwa mfz mbl mbk mtr mno mlo mip mto) u)) (va_A (wX5 cI cZ cG h5 a5 (nI nr) (nI nt) (nI nc) (nI nw) hd (nI wk) (nI ng) (nI nT) mi (nI nf) (nI nn) mru mth mcl mfa mwa mfz mbl mbk mtr mno mlo mip mto) sz)) 0 0 (va_A (wX5 cI cZ cG h5 a5 (nI nr) (nI nt) (nI nc) (nI nw) hd (nI wk) (nI ng) (nI nT) mi (nI nf) (nI nn) mru mth mcl mfa mwa mfz mbl mbk mtr mno mlo mip mto) sz) := by
  refine K_start (cc := cX5_sizeOn) (maxL := 6) (ret := some .int) (Qc := fun A => va_Qi (fun (r : Int32) (_ : Unit) => r = szM nc mth mcl t d) (fun u => QB D (tyL cI cZ cG) A ((fun (_ : Unit) => wX5 cI cZ cG h5 a5 (nI nr) (nI nt) (nI nc) (nI nw) hd (nI wk) (nI ng) (nI nT) mi (nI nf) (nI nn) mru mth mcl mfa mwa mfz mbl mbk mtr mno mlo mip mto) u)) A) (by decide) rfl (Nat.le_of_ble_eq_true rfl) ?_
  intro p e s m below meth c ls A hx hb hml hr hts hown hlocks hin hN hP hK hD hA hS hl hsz
  have hl : lv_has ls 6 [(0, .ref h5), (1, .int (nI t)), (2, .int d)] := hl
  have fl13 := hts (.fieldLink RX5 13 "ModelTownModel" "thing" "[I") (by decide +kernel)
  have fl73 := hts (.fieldLink RX5 73 "ModelTownModel" "clips" "I") (by decide +kernel)
  have fl16 := hts (.fieldLink RX5 16 "ModelTownModel" "clip" "[I") (by decide +kernel)
  refine lv_aload_n hx hb dX5_sizeOn_0 rfl (lv_at hl 0 rfl) ?_
  refine va_get (D := D) (ci := 5) (v := .ref (a5 1)) (C := RX5) (T := TX5) (N := 24) hx hb hts inX5_sizeOn hown hK hP 0 rfl rfl 3 (by decide) fl13 (fun _ h9 => h9) rfl dX5_sizeOn_1 ?_
  refine lv_iconst (v := 4) hx hb dX5_sizeOn_4 (by decide) ?_
  refine lv_iload_n hx hb dX5_sizeOn_5 rfl (lv_at hl 1 rfl) ?_
  refine lv_imul hx hb dX5_sizeOn_6 ?_
  refine lv_topi (fun z1 ez1 => ?_)
  obtain rfl : z1 = nI (4 * t) := ez1.trans (pk_mul 4 t)
  refine lv_iconst (v := 2) hx hb dX5_sizeOn_7 (by decide) ?_
  refine lv_iadd hx hb dX5_sizeOn_8 ?_
  refine lv_topi (fun z2 ez2 => ?_)
  obtain rfl : z2 = nI (4 * t + 2) := ez2.trans ((nI_add (4 * t) 2).trans (congrArg nI (by omega)))
  refine K_iald hx hb hK hP 2 0 rfl rfl (4 * t + 2) (by omega) (Nat.le_of_ble_eq_true rfl) dX5_sizeOn_9 ?_
  refine lv_istore_n (lv' := [(3, .int (mth (4 * t + 2))), (0, .ref h5), (1, .int (nI t)), (2, .int d)]) hx hb dX5_sizeOn_10 rfl hl (by decide) rfl (fun ls hl => ?_)
  refine lv_iconst (v := 0) hx hb dX5_sizeOn_11 (by decide) ?_
  refine lv_istore (lv' := [(4, .int 0), (3, .int (mth (4 * t + 2))), (0, .ref h5), (1, .int (nI t)), (2, .int d)]) hx hb dX5_sizeOn_12 hl (by decide) rfl (fun ls hl => ?_)
  refine lv_iconst (v := 0) hx hb dX5_sizeOn_14 (by decide) ?_
  refine lv_istore (lv' := [(5, .int 0), (4, .int 0), (3, .int (mth (4 * t + 2))), (0, .ref h5), (1, .int (nI t)), (2, .int d)]) hx hb dX5_sizeOn_15 hl (by decide) rfl (fun ls hl => ?_)
  refine loopW2 (fun (k : Nat) (o : Option Nat) H locs ls => (k ≤ nc) ∧ (lC (col 3 0 mcl) (col 3 1 mcl) (nI t) d k = o) ∧ va_P D vwCl (wX5 cI cZ cG h5 a5 (nI nr) (nI nt) (nI nc) (nI nw) hd (nI wk) (nI ng) (nI nT) mi (nI nf) (nI nn) mru mth mcl mfa mwa mfz mbl mbk mtr mno mlo mip mto) H ∧ va_D A (wX5 cI cZ cG h5 a5 (nI nr) (nI nt) (nI nc) (nI nw) hd (nI wk) (nI ng) (nI nT) mi (nI nf) (nI nn) mru mth mcl mfa mwa mfz mbl mbk mtr mno mlo mip mto) ∧ va_S A s.heap H locs ∧ lv_has ls 6 [(5, .int (nI k)), (4, .int (foO (col 3 1 mcl) 0 o)), (3, .int (siO (col 3 2 mcl) (mth (4 * t + 2)) o)), (0, .ref h5), (1, .int (nI t)), (2, .int d)]) (fun (k : Nat) (o : Option Nat) => nc - k) (fun k o H locs ls hI ih17 => ?_) 0 none _ _ _ ⟨(by omega), rfl, hP, hD, hS, lv_sub hl [0, 1, 2, 3, 4, 5] rfl⟩
  obtain ⟨hk, ho, hP, hD, hS, hl⟩ := hI
  refine lv_iload hx hb dX5_sizeOn_17 (lv_at hl 0 rfl) ?_
  refine lv_aload_n hx hb dX5_sizeOn_19 rfl (lv_at hl 3 rfl) ?_
  refine va_get (D := D) (ci := 5) (v := .int (nI nc)) (C := RX5) (T := TX5) (N := 24) hx hb hts inX5_sizeOn hown hK hP 0 rfl rfl 4 (by decide) fl73 (fun _ h9 => h9) rfl dX5_sizeOn_20 ?_
  refine lv_icmp_ge (tgt := 85) hx hb dX5_sizeOn_23 (by decide) (fun c3 => ?_) (fun c3 => ?_)
  · have c3 : nc ≤ k := (nI_leI (a := nc) (b := k) (by omega) (by omega)).mp c3
    have ek : k = nc := by omega
    rw [ek] at ho
    refine lv_aload_n hx hb dX5_sizeOn_85 rfl (lv_at hl 3 rfl) ?_
    refine va_get (D := D) (ci := 5) (v := .ref (a5 1)) (C := RX5) (T := TX5) (N := 24) hx hb hts inX5_sizeOn hown hK hP 0 rfl rfl 3 (by decide) fl13 (fun _ h9 => h9) rfl dX5_sizeOn_86 ?_
    refine lv_iconst (v := 4) hx hb dX5_sizeOn_89 (by decide) ?_
    refine lv_iload_n hx hb dX5_sizeOn_90 rfl (lv_at hl 4 rfl) ?_
    refine lv_imul hx hb dX5_sizeOn_91 ?_
    refine lv_topi (fun z4 ez4 => ?_)
    obtain rfl : z4 = nI (4 * t) := ez4.trans (pk_mul 4 t)
    refine K_iald hx hb hK hP 2 0 rfl rfl (4 * t) (by omega) (Nat.le_of_ble_eq_true rfl) dX5_sizeOn_92 ?_
    refine lv_iconst (v := 1) hx hb dX5_sizeOn_93 (by decide) ?_
    refine lv_icmp_ne (tgt := 120) hx hb dX5_sizeOn_94 (by decide) (fun c5 => ?_) (fun c5 => ?_)
    · refine lv_iload_n hx hb dX5_sizeOn_120 rfl (lv_at hl 2 rfl) ?_
      exact K_iret (wf := (fun (_ : Unit) => wX5 cI cZ cG h5 a5 (nI nr) (nI nt) (nI nc) (nI nw) hd (nI wk) (nI ng) (nI nT) mi (nI nf) (nI nn) mru mth mcl mfa mwa mfz mbl mbk mtr mno mlo mip mto)) () hx hb hr hlocks hP hK hD hS dX5_sizeOn_121 (by rw [szM_eq ho, if_neg c5, szO_0])
    · refine lv_iload_n hx hb dX5_sizeOn_97 rfl (lv_at hl 2 rfl) ?_
      refine lv_aload_n hx hb dX5_sizeOn_98 rfl (lv_at hl 3 rfl) ?_
      refine va_get (D := D) (ci := 5) (v := .ref (a5 1)) (C := RX5) (T := TX5) (N := 24) hx hb hts inX5_sizeOn hown hK hP 0 rfl rfl 3 (by decide) fl13 (fun _ h9 => h9) rfl dX5_sizeOn_99 ?_
      refine lv_iconst (v := 4) hx hb dX5_sizeOn_102 (by decide) ?_
      refine lv_iload_n hx hb dX5_sizeOn_103 rfl (lv_at hl 4 rfl) ?_
      refine lv_imul hx hb dX5_sizeOn_104 ?_
      refine lv_topi (fun z6 ez6 => ?_)
      obtain rfl : z6 = nI (4 * t) := ez6.trans (pk_mul 4 t)
      refine lv_iconst (v := 3) hx hb dX5_sizeOn_105 (by decide) ?_
      refine lv_iadd hx hb dX5_sizeOn_106 ?_
      refine lv_topi (fun z7 ez7 => ?_)
      obtain rfl : z7 = nI (4 * t + 3) := ez7.trans ((nI_add (4 * t) 3).trans (congrArg nI (by omega)))
      refine K_iald hx hb hK hP 2 0 rfl rfl (4 * t + 3) (by omega) (Nat.le_of_ble_eq_true rfl) dX5_sizeOn_107 ?_
      refine lv_iload_n hx hb dX5_sizeOn_108 rfl (lv_at hl 5 rfl) ?_
      refine lv_iload hx hb dX5_sizeOn_109 (lv_at hl 1 rfl) ?_
      refine lv_isub hx hb dX5_sizeOn_111 ?_
      refine lv_bipush (v := 7) hx hb dX5_sizeOn_112 (by decide) ?_
      refine lv_idiv hx hb dX5_sizeOn_114 (by decide) ?_
      refine lv_imul hx hb dX5_sizeOn_115 ?_
      refine lv_iadd hx hb dX5_sizeOn_116 ?_
      refine lv_goto (tgt := 121) hx hb dX5_sizeOn_117 (by decide) ?_
      exact K_iret (wf := (fun (_ : Unit) => wX5 cI cZ cG h5 a5 (nI nr) (nI nt) (nI nc) (nI nw) hd (nI wk) (nI ng) (nI nT) mi (nI nf) (nI nn) mru mth mcl mfa mwa mfz mbl mbk mtr mno mlo mip mto)) () hx hb hr hlocks hP hK hD hS dX5_sizeOn_121 (by rw [szM_eq ho, if_pos c5, szO_t])
  · have c3 : ¬ nc ≤ k := fun hq => c3 ((nI_leI (a := nc) (b := k) (by omega) (by omega)).mpr hq)
    refine lv_aload_n hx hb dX5_sizeOn_26 rfl (lv_at hl 3 rfl) ?_
    refine va_get (D := D) (ci := 5) (v := .ref (a5 2)) (C := RX5) (T := TX5) (N := 24) hx hb hts inX5_sizeOn hown hK hP 0 rfl rfl 5 (by decide) fl16 (fun _ h9 => h9) rfl dX5_sizeOn_27 ?_
    refine lv_iconst (v := 3) hx hb dX5_sizeOn_30 (by decide) ?_
    refine lv_iload hx hb dX5_sizeOn_31 (lv_at hl 0 rfl) ?_
    refine lv_imul hx hb dX5_sizeOn_33 ?_
    refine lv_topi (fun z8 ez8 => ?_)
    obtain rfl : z8 = nI (3 * k) := ez8.trans (pk_mul 3 k)
    refine K_iald hx hb hK hP 3 0 rfl rfl (3 * k) (by omega) (Nat.le_of_ble_eq_true rfl) dX5_sizeOn_34 ?_
    refine lv_iload_n hx hb dX5_sizeOn_35 rfl (lv_at hl 4 rfl) ?_
    refine lv_icmp_ne (tgt := 79) hx hb dX5_sizeOn_36 (by decide) (fun c9 => ?_) (fun c9 => ?_)
    · refine lv_iinc (v := nI (k + 1)) (lv' := [(5, .int (nI (k + 1))), (4, .int (foO (col 3 1 mcl) 0 o)), (3, .int (siO (col 3 2 mcl) (mth (4 * t + 2)) o)), (0, .ref h5), (1, .int (nI t)), (2, .int d)]) hx hb dX5_sizeOn_79 hl (k := 0) rfl (inc1 _) (by decide) rfl (fun ls hl => ?_)
      refine lv_goto (tgt := 17) hx hb dX5_sizeOn_82 (by decide) ?_
      exact ih17 (k + 1) o _ _ _ ⟨(by omega), (by simp [lC, col, ho, c3, c9]), hP, hD, hS, lv_sub hl [0, 1, 2, 3, 4, 5] rfl⟩ (by omega)
    · refine lv_aload_n hx hb dX5_sizeOn_39 rfl (lv_at hl 3 rfl) ?_
      refine va_get (D := D) (ci := 5) (v := .ref (a5 2)) (C := RX5) (T := TX5) (N := 24) hx hb hts inX5_sizeOn hown hK hP 0 rfl rfl 5 (by decide) fl16 (fun _ h9 => h9) rfl dX5_sizeOn_40 ?_
      refine lv_iconst (v := 3) hx hb dX5_sizeOn_43 (by decide) ?_
      refine lv_iload hx hb dX5_sizeOn_44 (lv_at hl 0 rfl) ?_
      refine lv_imul hx hb dX5_sizeOn_46 ?_
      refine lv_topi (fun z10 ez10 => ?_)
      obtain rfl : z10 = nI (3 * k) := ez10.trans (pk_mul 3 k)
      refine lv_iconst (v := 1) hx hb dX5_sizeOn_47 (by decide) ?_
      refine lv_iadd hx hb dX5_sizeOn_48 ?_
      refine lv_topi (fun z11 ez11 => ?_)
      obtain rfl : z11 = nI (3 * k + 1) := ez11.trans ((nI_add (3 * k) 1).trans (congrArg nI (by omega)))
      refine K_iald hx hb hK hP 3 0 rfl rfl (3 * k + 1) (by omega) (Nat.le_of_ble_eq_true rfl) dX5_sizeOn_49 ?_
      refine lv_iload_n hx hb dX5_sizeOn_50 rfl (lv_at hl 5 rfl) ?_
      refine lv_icmp_gt (tgt := 79) hx hb dX5_sizeOn_51 (by decide) (fun c12 => ?_) (fun c12 => ?_)
      · replace c12 := Int32.not_le.mpr c12
        refine lv_iinc (v := nI (k + 1)) (lv' := [(5, .int (nI (k + 1))), (4, .int (foO (col 3 1 mcl) 0 o)), (3, .int (siO (col 3 2 mcl) (mth (4 * t + 2)) o)), (0, .ref h5), (1, .int (nI t)), (2, .int d)]) hx hb dX5_sizeOn_79 hl (k := 0) rfl (inc1 _) (by decide) rfl (fun ls hl => ?_)
        refine lv_goto (tgt := 17) hx hb dX5_sizeOn_82 (by decide) ?_
        exact ih17 (k + 1) o _ _ _ ⟨(by omega), (by simp [lC, col, ho, c3, eq_true c9, c12]), hP, hD, hS, lv_sub hl [0, 1, 2, 3, 4, 5] rfl⟩ (by omega)
      · replace c12 := Int32.not_lt.mp c12
        refine lv_aload_n hx hb dX5_sizeOn_54 rfl (lv_at hl 3 rfl) ?_
        refine va_get (D := D) (ci := 5) (v := .ref (a5 2)) (C := RX5) (T := TX5) (N := 24) hx hb hts inX5_sizeOn hown hK hP 0 rfl rfl 5 (by decide) fl16 (fun _ h9 => h9) rfl dX5_sizeOn_55 ?_
        refine lv_iconst (v := 3) hx hb dX5_sizeOn_58 (by decide) ?_
        refine lv_iload hx hb dX5_sizeOn_59 (lv_at hl 0 rfl) ?_
        refine lv_imul hx hb dX5_sizeOn_61 ?_
        refine lv_topi (fun z13 ez13 => ?_)
        obtain rfl : z13 = nI (3 * k) := ez13.trans (pk_mul 3 k)
        refine lv_iconst (v := 1) hx hb dX5_sizeOn_62 (by decide) ?_
        refine lv_iadd hx hb dX5_sizeOn_63 ?_
        refine lv_topi (fun z14 ez14 => ?_)
        obtain rfl : z14 = nI (3 * k + 1) := ez14.trans ((nI_add (3 * k) 1).trans (congrArg nI (by omega)))
        refine K_iald hx hb hK hP 3 0 rfl rfl (3 * k + 1) (by omega) (Nat.le_of_ble_eq_true rfl) dX5_sizeOn_64 ?_
        refine lv_istore (lv' := [(4, .int (mcl (3 * k + 1))), (5, .int (nI k)), (3, .int (siO (col 3 2 mcl) (mth (4 * t + 2)) o)), (0, .ref h5), (1, .int (nI t)), (2, .int d)]) hx hb dX5_sizeOn_65 hl (by decide) rfl (fun ls hl => ?_)
        refine lv_aload_n hx hb dX5_sizeOn_67 rfl (lv_at hl 3 rfl) ?_
        refine va_get (D := D) (ci := 5) (v := .ref (a5 2)) (C := RX5) (T := TX5) (N := 24) hx hb hts inX5_sizeOn hown hK hP 0 rfl rfl 5 (by decide) fl16 (fun _ h9 => h9) rfl dX5_sizeOn_68 ?_
        refine lv_iconst (v := 3) hx hb dX5_sizeOn_71 (by decide) ?_
        refine lv_iload hx hb dX5_sizeOn_72 (lv_at hl 1 rfl) ?_
        refine lv_imul hx hb dX5_sizeOn_74 ?_
        refine lv_topi (fun z15 ez15 => ?_)
        obtain rfl : z15 = nI (3 * k) := ez15.trans (pk_mul 3 k)
        refine lv_iconst (v := 2) hx hb dX5_sizeOn_75 (by decide) ?_
        refine lv_iadd hx hb dX5_sizeOn_76 ?_
        refine lv_topi (fun z16 ez16 => ?_)
        obtain rfl : z16 = nI (3 * k + 2) := ez16.trans ((nI_add (3 * k) 2).trans (congrArg nI (by omega)))
        refine K_iald hx hb hK hP 3 0 rfl rfl (3 * k + 2) (by omega) (Nat.le_of_ble_eq_true rfl) dX5_sizeOn_77 ?_
        refine lv_istore_n (lv' := [(3, .int (mcl (3 * k + 2))), (4, .int (mcl (3 * k + 1))), (5, .int (nI k)), (0, .ref h5), (1, .int (nI t)), (2, .int d)]) hx hb dX5_sizeOn_78 rfl hl (by decide) rfl (fun ls hl => ?_)
        refine lv_iinc (v := nI (k + 1)) (lv' := [(5, .int (nI (k + 1))), (3, .int (mcl (3 * k + 2))), (4, .int (mcl (3 * k + 1))), (0, .ref h5), (1, .int (nI t)), (2, .int d)]) hx hb dX5_sizeOn_79 hl (k := 2) rfl (inc1 _) (by decide) rfl (fun ls hl => ?_)
        refine lv_goto (tgt := 17) hx hb dX5_sizeOn_82 (by decide) ?_
        exact ih17 (k + 1) (some k) _ _ _ ⟨(by omega), (by simp [lC, col, ho, c3, eq_true c9, c12]), hP, hD, hS, lv_sub hl [0, 2, 1, 3, 4, 5] rfl⟩ (by omega)
theorem inX5_faultOn : ∀ w ∈ wsX50, w ∈ wsX5_faultOn := by decide +kernel
set_option maxHeartbeats 8000000 in
set_option maxRecDepth 100000 in
/-- faultOn -/
theorem c_X5_faultOn (l : Launch) (D : va_G) (cI cZ cG : ClassId) (h5 : Nat) (a5 : Nat → Nat) (sz : Nat) (nr : Nat) (nt : Nat) (nc : Nat) (nw : Nat) (hd : Int32) (wk : Nat) (ng : Nat) (nT : Nat) (mi : Int32) (nf : Nat) (nn : Nat) (mru : Nat → Int32) (mth : Nat → Int32) (mcl : Nat → Int32) (mfa : Nat → Int32) (mwa : Nat → Int32) (mfz : Nat → Int32) (mbl : Nat → Int32) (mbk : Nat → Int32) (mtr : Nat → Int32) (mno : Nat → Int32) (mlo : Nat → Int32) (mip : Nat → Int32) (mto : Nat → Int32) (t : Nat) (d : Int32) (hnr : nr ≤ 6) (hnt : nt ≤ 20) (hnc : nc ≤ 60) (hnw : nw ≤ 24) (hwk : wk ≤ 200) (hng : ng ≤ 3) (hnT : nT ≤ 4) (hnf : nf ≤ 12) (hnn : nn ≤ 60) (ht : t < nt) (hrr : ∀ k, k < nr → ¬ col 3 1 mru k = 0) : Met l yX5_faultOn wsX5_faultOn ({ frames := 1, cells := 0, slots := 0, locals := 25 } : Room) (va_Pc [.ref h5, .int (nI t), .int d] (PB D (tyL cI cZ cG) (wX5 cI cZ cG h5 a5 (nI nr) (nI nt) (nI nc) (nI nw) hd (nI wk) (nI ng) (nI nT) mi (nI nf) (nI nn) mru mth mcl mfa mwa mfz mbl mbk mtr mno mlo mip mto) sz)) (va_Qi (fun (r : Int32) (_ : Unit) => r = fM nr nc mru mth mcl t d) (fun u => QB D (tyL cI cZ cG) (va_A (wX5 cI cZ cG h5 a5 (nI nr) (nI nt) (nI nc) (nI nw) hd (nI wk) (nI ng) (nI nT) mi (nI nf) (nI nn) mru mth mcl mfa mwa mfz mbl mbk mtr mno mlo mip mto) sz) ((fun (_ : Unit) => wX5 cI cZ cG h5 a5 (nI nr) (nI nt) (nI nc) (nI nw) hd (nI wk) (nI ng) (nI nT) mi (nI nf) (nI nn) mru mth mcl mfa mwa mfz mbl mbk mtr mno mlo mip mto) u)) (va_A (wX5 cI cZ cG h5 a5 (nI nr) (nI nt) (nI nc) (nI nw) hd (nI wk) (nI ng) (nI nT) mi (nI nf) (nI nn) mru mth mcl mfa mwa mfz mbl mbk mtr mno mlo mip mto) sz)) 0 0 (va_A (wX5 cI cZ cG h5 a5 (nI nr) (nI nt) (nI nc) (nI nw) hd (nI wk) (nI ng) (nI nT) mi (nI nf) (nI nn) mru mth mcl mfa mwa mfz mbl mbk mtr mno mlo mip mto) sz) := by
  refine K_start (cc := cX5_faultOn) (maxL := 7) (ret := some .int) (Qc := fun A => va_Qi (fun (r : Int32) (_ : Unit) => r = fM nr nc mru mth mcl t d) (fun u => QB D (tyL cI cZ cG) A ((fun (_ : Unit) => wX5 cI cZ cG h5 a5 (nI nr) (nI nt) (nI nc) (nI nw) hd (nI wk) (nI ng) (nI nT) mi (nI nf) (nI nn) mru mth mcl mfa mwa mfz mbl mbk mtr mno mlo mip mto) u)) A) (by decide) rfl (Nat.le_of_ble_eq_true rfl) ?_
  intro p e s m below meth c ls A hx hb hml hr hts hown hlocks hin hN hP hK hD hA hS hl hsz
  have hl : lv_has ls 7 [(0, .ref h5), (1, .int (nI t)), (2, .int d)] := hl
  have fl13 := hts (.fieldLink RX5 13 "ModelTownModel" "thing" "[I") (by decide +kernel)
  refine lv_aload_n hx hb dX5_faultOn_0 rfl (lv_at hl 0 rfl) ?_
  refine va_get (D := D) (ci := 5) (v := .ref (a5 1)) (C := RX5) (T := TX5) (N := 24) hx hb hts inX5_faultOn hown hK hP 0 rfl rfl 3 (by decide) fl13 (fun _ h9 => h9) rfl dX5_faultOn_1 ?_
  refine lv_iconst (v := 4) hx hb dX5_faultOn_4 (by decide) ?_
  refine lv_iload_n hx hb dX5_faultOn_5 rfl (lv_at hl 1 rfl) ?_
  refine lv_imul hx hb dX5_faultOn_6 ?_
  refine lv_topi (fun z1 ez1 => ?_)
  obtain rfl : z1 = nI (4 * t) := ez1.trans (pk_mul 4 t)
  refine lv_iconst (v := 1) hx hb dX5_faultOn_7 (by decide) ?_
  refine lv_iadd hx hb dX5_faultOn_8 ?_
  refine lv_topi (fun z2 ez2 => ?_)
  obtain rfl : z2 = nI (4 * t + 1) := ez2.trans ((nI_add (4 * t) 1).trans (congrArg nI (by omega)))
  refine K_iald hx hb hK hP 2 0 rfl rfl (4 * t + 1) (by omega) (Nat.le_of_ble_eq_true rfl) dX5_faultOn_9 ?_
  refine lv_aload_n hx hb dX5_faultOn_10 rfl (lv_at hl 0 rfl) ?_
  refine lv_iload_n hx hb dX5_faultOn_11 rfl (lv_at hl 2 rfl) ?_
  refine lv_iconst (v := 0) hx hb dX5_faultOn_12 (by decide) ?_
  refine K_same (va_runV (As := [.int d, .int 0]) (rest := [.int (mth (4 * t + 1))]) ⟨hx, hb, hml, hown, hts⟩ (c_X5_forceOf l D cI cZ cG h5 a5 _ nr nt nc nw hd wk ng nT mi nf nn mru mth mcl mfa mwa mfz mbl mbk mtr mno mlo mip mto d 0 hnr hnt hnc hnw hwk hng hnT hnf hnn (by omega)) (cwV 2 hts gX5_faultOn_X5_forceOf rfl rfl rfl (by decide +kernel) ⟨(Nat.le_of_ble_eq_true rfl), (Nat.le_of_ble_eq_true rfl)⟩) ⟨PB_blind, va_recv hK hP (ci := 5) (q0 := 0) rfl rfl, (K_preS hN hK hP hD).2⟩ rfl rfl hl.1 rfl (lv_room (Nat.le_of_ble_eq_true rfl)) dX5_faultOn_13 ⟨Nat.zero_le _, Nat.zero_le _⟩) hD hS hA (fun r3 u H locs hw3 hP hD hS => ?_)
  have hP : va_P D vwCl (wX5 cI cZ cG h5 a5 (nI nr) (nI nt) (nI nc) (nI nw) hd (nI wk) (nI ng) (nI nT) mi (nI nf) (nI nn) mru mth mcl mfa mwa mfz mbl mbk mtr mno mlo mip mto) H := hP
  have hD : va_D A (wX5 cI cZ cG h5 a5 (nI nr) (nI nt) (nI nc) (nI nw) hd (nI wk) (nI ng) (nI nT) mi (nI nf) (nI nn) mru mth mcl mfa mwa mfz mbl mbk mtr mno mlo mip mto) := hD
  obtain rfl : r3 = raA nr (col 3 0 mru) (col 3 1 mru) d := hw3.trans (if_pos rfl)
  refine lv_idiv hx hb dX5_faultOn_16 (raA_ne d hrr) ?_
  refine lv_istore_n (lv' := [(3, .int ((mth (4 * t + 1)) / (raA nr (col 3 0 mru) (col 3 1 mru) d))), (0, .ref h5), (1, .int (nI t)), (2, .int d)]) hx hb dX5_faultOn_17 rfl hl (by decide) rfl (fun ls hl => ?_)
  refine lv_aload_n hx hb dX5_faultOn_18 rfl (lv_at hl 1 rfl) ?_
  refine lv_iload_n hx hb dX5_faultOn_19 rfl (lv_at hl 2 rfl) ?_
  refine lv_iload_n hx hb dX5_faultOn_20 rfl (lv_at hl 3 rfl) ?_
  refine K_same (va_runV (As := [.int (nI t), .int d]) (rest := []) ⟨hx, hb, hml, hown, hts⟩ (c_X5_sizeOn l D cI cZ cG h5 a5 _ nr nt nc nw hd wk ng nT mi nf nn mru mth mcl mfa mwa mfz mbl mbk mtr mno mlo mip mto t d hnr hnt hnc hnw hwk hng hnT hnf hnn ht) (cwV 2 hts gX5_faultOn_X5_sizeOn rfl rfl rfl (by decide +kernel) ⟨(Nat.le_of_ble_eq_true rfl), (Nat.le_of_ble_eq_true rfl)⟩) ⟨PB_blind, va_recv hK hP (ci := 5) (q0 := 0) rfl rfl, (K_preS hN hK hP hD).2⟩ rfl rfl hl.1 rfl (lv_room (Nat.le_of_ble_eq_true rfl)) dX5_faultOn_21 ⟨Nat.zero_le _, Nat.zero_le _⟩) hD hS hA (fun r4 u H locs hw4 hP hD hS => ?_)
  have hP : va_P D vwCl (wX5 cI cZ cG h5 a5 (nI nr) (nI nt) (nI nc) (nI nw) hd (nI wk) (nI ng) (nI nT) mi (nI nf) (nI nn) mru mth mcl mfa mwa mfz mbl mbk mtr mno mlo mip mto) H := hP
  have hD : va_D A (wX5 cI cZ cG h5 a5 (nI nr) (nI nt) (nI nc) (nI nw) hd (nI wk) (nI ng) (nI nT) mi (nI nf) (nI nn) mru mth mcl mfa mwa mfz mbl mbk mtr mno mlo mip mto) := hD
  obtain rfl := hw4
  refine lv_iload_n hx hb dX5_faultOn_24 rfl (lv_at hl 0 rfl) ?_
  refine lv_isub hx hb dX5_faultOn_25 ?_
  refine lv_istore (lv' := [(4, .int ((szM nc mth mcl t d) - ((mth (4 * t + 1)) / (raA nr (col 3 0 mru) (col 3 1 mru) d)))), (3, .int ((mth (4 * t + 1)) / (raA nr (col 3 0 mru) (col 3 1 mru) d))), (0, .ref h5), (1, .int (nI t)), (2, .int d)]) hx hb dX5_faultOn_26 hl (by decide) rfl (fun ls hl => ?_)
  refine lv_iload_n hx hb dX5_faultOn_28 rfl (lv_at hl 1 rfl) ?_
  refine lv_aload_n hx hb dX5_faultOn_29 rfl (lv_at hl 2 rfl) ?_
  refine lv_iload_n hx hb dX5_faultOn_30 rfl (lv_at hl 4 rfl) ?_
  refine lv_iconst (v := 1) hx hb dX5_faultOn_31 (by decide) ?_
  refine K_same (va_runV (As := [.int d, .int 1]) (rest := [.int ((mth (4 * t + 1)) / (raA nr (col 3 0 mru) (col 3 1 mru) d))]) ⟨hx, hb, hml, hown, hts⟩ (c_X5_forceOf l D cI cZ cG h5 a5 _ nr nt nc nw hd wk ng nT mi nf nn mru mth mcl mfa mwa mfz mbl mbk mtr mno mlo mip mto d 1 hnr hnt hnc hnw hwk hng hnT hnf hnn (by omega)) (cwV 2 hts gX5_faultOn_X5_forceOf rfl rfl rfl (by decide +kernel) ⟨(Nat.le_of_ble_eq_true rfl), (Nat.le_of_ble_eq_true rfl)⟩) ⟨PB_blind, va_recv hK hP (ci := 5) (q0 := 0) rfl rfl, (K_preS hN hK hP hD).2⟩ rfl rfl hl.1 rfl (lv_room (Nat.le_of_ble_eq_true rfl)) dX5_faultOn_32 ⟨Nat.zero_le _, Nat.zero_le _⟩) hD hS hA (fun r5 u H locs hw5 hP hD hS => ?_)
  have hP : va_P D vwCl (wX5 cI cZ cG h5 a5 (nI nr) (nI nt) (nI nc) (nI nw) hd (nI wk) (nI ng) (nI nT) mi (nI nf) (nI nn) mru mth mcl mfa mwa mfz mbl mbk mtr mno mlo mip mto) H := hP
  have hD : va_D A (wX5 cI cZ cG h5 a5 (nI nr) (nI nt) (nI nc) (nI nw) hd (nI wk) (nI ng) (nI nT) mi (nI nf) (nI nn) mru mth mcl mfa mwa mfz mbl mbk mtr mno mlo mip mto) := hD
  obtain rfl : r5 = slA nr (col 3 0 mru) (col 3 2 mru) d := hw5.trans (if_neg (by decide))
  refine lv_imul hx hb dX5_faultOn_35 ?_
  refine lv_bipush (v := 100) hx hb dX5_faultOn_36 (by decide) ?_
  refine lv_idiv hx hb dX5_faultOn_38 (by decide) ?_
  refine lv_istore (lv' := [(5, .int ((((mth (4 * t + 1)) / (raA nr (col 3 0 mru) (col 3 1 mru) d)) * (slA nr (col 3 0 mru) (col 3 2 mru) d)) / 100)), (4, .int ((szM nc mth mcl t d) - ((mth (4 * t + 1)) / (raA nr (col 3 0 mru) (col 3 1 mru) d)))), (3, .int ((mth (4 * t + 1)) / (raA nr (col 3 0 mru) (col 3 1 mru) d))), (0, .ref h5), (1, .int (nI t)), (2, .int d)]) hx hb dX5_faultOn_39 hl (by decide) rfl (fun ls hl => ?_)
  refine lv_aload_n hx hb dX5_faultOn_41 rfl (lv_at hl 3 rfl) ?_
  refine va_get (D := D) (ci := 5) (v := .ref (a5 1)) (C := RX5) (T := TX5) (N := 24) hx hb hts inX5_faultOn hown hK hP 0 rfl rfl 3 (by decide) fl13 (fun _ h9 => h9) rfl dX5_faultOn_42 ?_
  refine lv_iconst (v := 4) hx hb dX5_faultOn_45 (by decide) ?_
  refine lv_iload_n hx hb dX5_faultOn_46 rfl (lv_at hl 4 rfl) ?_
  refine lv_imul hx hb dX5_faultOn_47 ?_
  refine lv_topi (fun z6 ez6 => ?_)
  obtain rfl : z6 = nI (4 * t) := ez6.trans (pk_mul 4 t)
  refine K_iald hx hb hK hP 2 0 rfl rfl (4 * t) (by omega) (Nat.le_of_ble_eq_true rfl) dX5_faultOn_48 ?_
  refine lv_istore (lv' := [(6, .int (mth (4 * t))), (5, .int ((((mth (4 * t + 1)) / (raA nr (col 3 0 mru) (col 3 1 mru) d)) * (slA nr (col 3 0 mru) (col 3 2 mru) d)) / 100)), (4, .int ((szM nc mth mcl t d) - ((mth (4 * t + 1)) / (raA nr (col 3 0 mru) (col 3 1 mru) d)))), (3, .int ((mth (4 * t + 1)) / (raA nr (col 3 0 mru) (col 3 1 mru) d))), (0, .ref h5), (1, .int (nI t)), (2, .int d)]) hx hb dX5_faultOn_49 hl (by decide) rfl (fun ls hl => ?_)
  refine lv_iload hx hb dX5_faultOn_51 (lv_at hl 0 rfl) ?_
  refine lv_iconst (v := 2) hx hb dX5_faultOn_53 (by decide) ?_
  refine lv_icmp_eq (tgt := 68) hx hb dX5_faultOn_54 (by decide) (fun c7 => ?_) (fun c7 => ?_)
  · refine lv_iload hx hb dX5_faultOn_68 (lv_at hl 0 rfl) ?_
    refine lv_iconst (v := 1) hx hb dX5_faultOn_70 (by decide) ?_
    refine lv_icmp_eq (tgt := 86) hx hb dX5_faultOn_71 (by decide) (fun c8 => ?_) (fun c8 => ?_)
    · refine lv_iconst (v := 0) hx hb dX5_faultOn_86 (by decide) ?_
      exact K_iret (wf := (fun (_ : Unit) => wX5 cI cZ cG h5 a5 (nI nr) (nI nt) (nI nc) (nI nw) hd (nI wk) (nI ng) (nI nT) mi (nI nf) (nI nn) mru mth mcl mfa mwa mfz mbl mbk mtr mno mlo mip mto)) () hx hb hr hlocks hP hK hD hS dX5_faultOn_87 ((flt_0 (by first | exact Or.inl (by assumption) | exact Or.inr (by assumption)) (by first | exact Or.inl (by assumption) | exact Or.inr (by assumption))).symm)
    · refine lv_iload hx hb dX5_faultOn_74 (lv_at hl 2 rfl) ?_
      refine lv_ineg hx hb dX5_faultOn_76 ?_
      refine lv_iload hx hb dX5_faultOn_77 (lv_at hl 1 rfl) ?_
      refine lv_icmp_le (tgt := 86) hx hb dX5_faultOn_79 (by decide) (fun c9 => ?_) (fun c9 => ?_)
      · refine lv_iconst (v := 0) hx hb dX5_faultOn_86 (by decide) ?_
        exact K_iret (wf := (fun (_ : Unit) => wX5 cI cZ cG h5 a5 (nI nr) (nI nt) (nI nc) (nI nw) hd (nI wk) (nI ng) (nI nT) mi (nI nf) (nI nn) mru mth mcl mfa mwa mfz mbl mbk mtr mno mlo mip mto)) () hx hb hr hlocks hP hK hD hS dX5_faultOn_87 ((flt_0 (by first | exact Or.inl (by assumption) | exact Or.inr (by assumption)) (by first | exact Or.inl (by assumption) | exact Or.inr (by assumption))).symm)
      · refine lv_iconst (v := 2) hx hb dX5_faultOn_82 (by decide) ?_
        refine lv_goto (tgt := 87) hx hb dX5_faultOn_83 (by decide) ?_
        exact K_iret (wf := (fun (_ : Unit) => wX5 cI cZ cG h5 a5 (nI nr) (nI nt) (nI nc) (nI nw) hd (nI wk) (nI ng) (nI nT) mi (nI nf) (nI nn) mru mth mcl mfa mwa mfz mbl mbk mtr mno mlo mip mto)) () hx hb hr hlocks hP hK hD hS dX5_faultOn_87 ((flt_2 (by first | exact Or.inl (by assumption) | exact Or.inr (by assumption)) (by assumption) (by assumption)).symm)
  · refine lv_iload hx hb dX5_faultOn_57 (lv_at hl 2 rfl) ?_
    refine lv_iload hx hb dX5_faultOn_59 (lv_at hl 1 rfl) ?_
    refine lv_icmp_le (tgt := 68) hx hb dX5_faultOn_61 (by decide) (fun c10 => ?_) (fun c10 => ?_)
    · refine lv_iload hx hb dX5_faultOn_68 (lv_at hl 0 rfl) ?_
      refine lv_iconst (v := 1) hx hb dX5_faultOn_70 (by decide) ?_
      refine lv_icmp_eq (tgt := 86) hx hb dX5_faultOn_71 (by decide) (fun c11 => ?_) (fun c11 => ?_)
      · refine lv_iconst (v := 0) hx hb dX5_faultOn_86 (by decide) ?_
        exact K_iret (wf := (fun (_ : Unit) => wX5 cI cZ cG h5 a5 (nI nr) (nI nt) (nI nc) (nI nw) hd (nI wk) (nI ng) (nI nT) mi (nI nf) (nI nn) mru mth mcl mfa mwa mfz mbl mbk mtr mno mlo mip mto)) () hx hb hr hlocks hP hK hD hS dX5_faultOn_87 ((flt_0 (by first | exact Or.inl (by assumption) | exact Or.inr (by assumption)) (by first | exact Or.inl (by assumption) | exact Or.inr (by assumption))).symm)
      · refine lv_iload hx hb dX5_faultOn_74 (lv_at hl 2 rfl) ?_
        refine lv_ineg hx hb dX5_faultOn_76 ?_
        refine lv_iload hx hb dX5_faultOn_77 (lv_at hl 1 rfl) ?_
        refine lv_icmp_le (tgt := 86) hx hb dX5_faultOn_79 (by decide) (fun c12 => ?_) (fun c12 => ?_)
        · refine lv_iconst (v := 0) hx hb dX5_faultOn_86 (by decide) ?_
          exact K_iret (wf := (fun (_ : Unit) => wX5 cI cZ cG h5 a5 (nI nr) (nI nt) (nI nc) (nI nw) hd (nI wk) (nI ng) (nI nT) mi (nI nf) (nI nn) mru mth mcl mfa mwa mfz mbl mbk mtr mno mlo mip mto)) () hx hb hr hlocks hP hK hD hS dX5_faultOn_87 ((flt_0 (by first | exact Or.inl (by assumption) | exact Or.inr (by assumption)) (by first | exact Or.inl (by assumption) | exact Or.inr (by assumption))).symm)
        · refine lv_iconst (v := 2) hx hb dX5_faultOn_82 (by decide) ?_
          refine lv_goto (tgt := 87) hx hb dX5_faultOn_83 (by decide) ?_
          exact K_iret (wf := (fun (_ : Unit) => wX5 cI cZ cG h5 a5 (nI nr) (nI nt) (nI nc) (nI nw) hd (nI wk) (nI ng) (nI nT) mi (nI nf) (nI nn) mru mth mcl mfa mwa mfz mbl mbk mtr mno mlo mip mto)) () hx hb hr hlocks hP hK hD hS dX5_faultOn_87 ((flt_2 (by first | exact Or.inl (by assumption) | exact Or.inr (by assumption)) (by assumption) (by assumption)).symm)
    · refine lv_iconst (v := 1) hx hb dX5_faultOn_64 (by decide) ?_
      refine lv_goto (tgt := 87) hx hb dX5_faultOn_65 (by decide) ?_
      exact K_iret (wf := (fun (_ : Unit) => wX5 cI cZ cG h5 a5 (nI nr) (nI nt) (nI nc) (nI nw) hd (nI wk) (nI ng) (nI nT) mi (nI nf) (nI nn) mru mth mcl mfa mwa mfz mbl mbk mtr mno mlo mip mto)) () hx hb hr hlocks hP hK hD hS dX5_faultOn_87 ((flt_1 (by assumption) (by assumption)).symm)
theorem inX5_look : ∀ w ∈ wsX50, w ∈ wsX5_look := by decide +kernel
set_option maxHeartbeats 8000000 in
set_option maxRecDepth 100000 in
/-- look -/
theorem c_X5_look (l : Launch) (D : va_G) (cI cZ cG : ClassId) (h5 : Nat) (a5 : Nat → Nat) (sz : Nat) (nr : Nat) (nt : Nat) (nc : Nat) (nw : Nat) (hd : Int32) (wk : Nat) (ng : Nat) (nT : Nat) (mi : Int32) (nf : Nat) (nn : Nat) (mru : Nat → Int32) (mth : Nat → Int32) (mcl : Nat → Int32) (mfa : Nat → Int32) (mwa : Nat → Int32) (mfz : Nat → Int32) (mbl : Nat → Int32) (mbk : Nat → Int32) (mtr : Nat → Int32) (mno : Nat → Int32) (mlo : Nat → Int32) (mip : Nat → Int32) (mto : Nat → Int32) (x : Int32) (d : Int32) (w : Int32) (hnr : nr ≤ 6) (hnt : nt ≤ 20) (hnc : nc ≤ 60) (hnw : nw ≤ 24) (hwk : wk ≤ 200) (hng : ng ≤ 3) (hnT : nT ≤ 4) (hnf : nf ≤ 12) (hnn : nn ≤ 60) (hrr : ∀ k, k < nr → ¬ col 3 1 mru k = 0) : Met l yX5_look wsX5_look ({ frames := 2, cells := 0, slots := 0, locals := 51 } : Room) (va_Pc [.ref h5, .int x, .int d, .int w] (PB D (tyL cI cZ cG) (wX5 cI cZ cG h5 a5 (nI nr) (nI nt) (nI nc) (nI nw) hd (nI wk) (nI ng) (nI nT) mi (nI nf) (nI nn) mru mth mcl mfa mwa mfz mbl mbk mtr mno mlo mip mto) sz)) (va_Qi (fun (r : Int32) (_ : Unit) => r = rLookM nr nt nc mru mth mcl x d w) (fun u => QB D (tyL cI cZ cG) (va_A (wX5 cI cZ cG h5 a5 (nI nr) (nI nt) (nI nc) (nI nw) hd (nI wk) (nI ng) (nI nT) mi (nI nf) (nI nn) mru mth mcl mfa mwa mfz mbl mbk mtr mno mlo mip mto) sz) ((fun (_ : Unit) => wX5 cI cZ cG h5 a5 (nI nr) (nI nt) (nI nc) (nI nw) hd (nI wk) (nI ng) (nI nT) mi (nI nf) (nI nn) mru mth mcl mfa mwa mfz mbl mbk mtr mno mlo mip mto) u)) (va_A (wX5 cI cZ cG h5 a5 (nI nr) (nI nt) (nI nc) (nI nw) hd (nI wk) (nI ng) (nI nT) mi (nI nf) (nI nn) mru mth mcl mfa mwa mfz mbl mbk mtr mno mlo mip mto) sz)) 0 0 (va_A (wX5 cI cZ cG h5 a5 (nI nr) (nI nt) (nI nc) (nI nw) hd (nI wk) (nI ng) (nI nT) mi (nI nf) (nI nn) mru mth mcl mfa mwa mfz mbl mbk mtr mno mlo mip mto) sz) := by
  refine K_start (cc := cX5_look) (maxL := 4) (ret := some .int) (Qc := fun A => va_Qi (fun (r : Int32) (_ : Unit) => r = rLookM nr nt nc mru mth mcl x d w) (fun u => QB D (tyL cI cZ cG) A ((fun (_ : Unit) => wX5 cI cZ cG h5 a5 (nI nr) (nI nt) (nI nc) (nI nw) hd (nI wk) (nI ng) (nI nT) mi (nI nf) (nI nn) mru mth mcl mfa mwa mfz mbl mbk mtr mno mlo mip mto) u)) A) (by decide) rfl (Nat.le_of_ble_eq_true rfl) ?_
  intro p e s m below meth c ls A hx hb hml hr hts hown hlocks hin hN hP hK hD hA hS hl hsz
  have hl : lv_has ls 4 [(0, .ref h5), (1, .int x), (2, .int d), (3, .int w)] := hl
  have fl13 := hts (.fieldLink RX5 13 "ModelTownModel" "thing" "[I") (by decide +kernel)
  refine lv_aload_n hx hb dX5_look_0 rfl (lv_at hl 0 rfl) ?_
  refine lv_iload_n hx hb dX5_look_1 rfl (lv_at hl 1 rfl) ?_
  refine K_same (va_runV (As := [.int x]) (rest := []) ⟨hx, hb, hml, hown, hts⟩ (c_X5_isThing l D cI cZ cG h5 a5 _ nr nt nc nw hd wk ng nT mi nf nn mru mth mcl mfa mwa mfz mbl mbk mtr mno mlo mip mto x hnr hnt hnc hnw hwk hng hnT hnf hnn) (cwV 1 hts gX5_look_X5_isThing rfl rfl rfl (by decide +kernel) ⟨(Nat.le_of_ble_eq_true rfl), (Nat.le_of_ble_eq_true rfl)⟩) ⟨PB_blind, va_recv hK hP (ci := 5) (q0 := 0) rfl rfl, (K_preS hN hK hP hD).2⟩ rfl rfl hl.1 rfl (lv_room (Nat.le_of_ble_eq_true rfl)) dX5_look_2 ⟨Nat.zero_le _, Nat.zero_le _⟩) hD hS hA (fun r1 u H locs hw1 hP hD hS => ?_)
  have hP : va_P D vwCl (wX5 cI cZ cG h5 a5 (nI nr) (nI nt) (nI nc) (nI nw) hd (nI wk) (nI ng) (nI nT) mi (nI nf) (nI nn) mru mth mcl mfa mwa mfz mbl mbk mtr mno mlo mip mto) H := hP
  have hD : va_D A (wX5 cI cZ cG h5 a5 (nI nr) (nI nt) (nI nc) (nI nw) hd (nI wk) (nI ng) (nI nT) mi (nI nf) (nI nn) mru mth mcl mfa mwa mfz mbl mbk mtr mno mlo mip mto) := hD
  rcases hw1 with ⟨rfl, hw1⟩ | ⟨rfl, hw1⟩
  · obtain ⟨t, ht, rfl⟩ := inR_lt (by omega) hw1
    have hct : (nI t).toNatClampNeg = t := nI_clamp (by omega)
    refine lv_if_ne (tgt := 10) hx hb dX5_look_5 (by decide) (fun _ => ?_) (fun c2 => absurd c2 (by decide))
    refine lv_iload_n hx hb dX5_look_10 rfl (lv_at hl 2 rfl) ?_
    refine K_none (va_runS (As := [.int d]) (rest := []) ⟨hx, hb, hml, hown, hts⟩ (c_X5_isDay l D cI cZ cG _ d) (va_cwS 1 hts gX5_look_X5_isDay rfl rfl rfl (by decide +kernel) ⟨(Nat.le_of_ble_eq_true rfl), (Nat.le_of_ble_eq_true rfl)⟩) (K_pre0 hN hK) rfl rfl hl.1 rfl (lv_room (Nat.le_of_ble_eq_true rfl)) dX5_look_11 ⟨Nat.zero_le _, Nat.zero_le _⟩) hP hS hA (fun r3 _ H locs hw3 hP hS => ?_)
    rcases hw3 with ⟨rfl, hw3⟩ | ⟨rfl, hw3⟩
    · skip
      refine lv_if_eq (tgt := 26) hx hb dX5_look_14 (by decide) (fun c4 => absurd c4 (by decide)) (fun _ => ?_)
      refine lv_iload_n hx hb dX5_look_17 rfl (lv_at hl 3 rfl) ?_
      refine lv_iconst (v := 0) hx hb dX5_look_18 (by decide) ?_
      refine lv_iconst (v := 2) hx hb dX5_look_19 (by decide) ?_
      refine K_none (va_runS (As := [.int w, .int 0, .int 2]) (rest := []) ⟨hx, hb, hml, hown, hts⟩ (c_X5_in l D cI cZ cG _ w 0 2) (va_cwS 3 hts gX5_look_X5_in rfl rfl rfl (by decide +kernel) ⟨(Nat.le_of_ble_eq_true rfl), (Nat.le_of_ble_eq_true rfl)⟩) (K_pre0 hN hK) rfl rfl hl.1 rfl (lv_room (Nat.le_of_ble_eq_true rfl)) dX5_look_20 ⟨Nat.zero_le _, Nat.zero_le _⟩) hP hS hA (fun r5 _ H locs hw5 hP hS => ?_)
      rcases hw5 with ⟨rfl, hw5⟩ | ⟨rfl, hw5⟩
      · skip
        refine lv_if_ne (tgt := 29) hx hb dX5_look_23 (by decide) (fun _ => ?_) (fun c6 => absurd c6 (by decide))
        refine lv_iload_n hx hb dX5_look_29 rfl (lv_at hl 3 rfl) ?_
        refine lv_if_ne (tgt := 42) hx hb dX5_look_30 (by decide) (fun c7 => ?_) (fun c7 => ?_)
        · refine lv_iload_n hx hb dX5_look_42 rfl (lv_at hl 3 rfl) ?_
          refine lv_iconst (v := 1) hx hb dX5_look_43 (by decide) ?_
          refine lv_icmp_ne (tgt := 67) hx hb dX5_look_44 (by decide) (fun c8 => ?_) (fun c8 => ?_)
          · refine lv_aload_n hx hb dX5_look_67 rfl (lv_at hl 0 rfl) ?_
            refine lv_iload_n hx hb dX5_look_68 rfl (lv_at hl 1 rfl) ?_
            refine lv_iload_n hx hb dX5_look_69 rfl (lv_at hl 2 rfl) ?_
            refine K_same (va_runV (As := [.int (nI t), .int d]) (rest := []) ⟨hx, hb, hml, hown, hts⟩ (c_X5_faultOn l D cI cZ cG h5 a5 _ nr nt nc nw hd wk ng nT mi nf nn mru mth mcl mfa mwa mfz mbl mbk mtr mno mlo mip mto t d hnr hnt hnc hnw hwk hng hnT hnf hnn (by omega) hrr) (cwV 2 hts gX5_look_X5_faultOn rfl rfl rfl (by decide +kernel) ⟨(Nat.le_of_ble_eq_true rfl), (Nat.le_of_ble_eq_true rfl)⟩) ⟨PB_blind, va_recv hK hP (ci := 5) (q0 := 0) rfl rfl, (K_preS hN hK hP hD).2⟩ rfl rfl hl.1 rfl (lv_room (Nat.le_of_ble_eq_true rfl)) dX5_look_70 ⟨Nat.zero_le _, Nat.zero_le _⟩) hD hS hA (fun r9 u H locs hw9 hP hD hS => ?_)
            have hP : va_P D vwCl (wX5 cI cZ cG h5 a5 (nI nr) (nI nt) (nI nc) (nI nw) hd (nI wk) (nI ng) (nI nT) mi (nI nf) (nI nn) mru mth mcl mfa mwa mfz mbl mbk mtr mno mlo mip mto) H := hP
            have hD : va_D A (wX5 cI cZ cG h5 a5 (nI nr) (nI nt) (nI nc) (nI nw) hd (nI wk) (nI ng) (nI nT) mi (nI nf) (nI nn) mru mth mcl mfa mwa mfz mbl mbk mtr mno mlo mip mto) := hD
            obtain rfl := hw9
            exact K_iret (wf := (fun (_ : Unit) => wX5 cI cZ cG h5 a5 (nI nr) (nI nt) (nI nc) (nI nw) hd (nI wk) (nI ng) (nI nT) mi (nI nf) (nI nn) mru mth mcl mfa mwa mfz mbl mbk mtr mno mlo mip mto)) () hx hb hr hlocks hP hK hD hS dX5_look_73 (by simp [rLookM, duA, col, hw1, hct, hw3, hw5, c7, c8])
          · refine lv_aload_n hx hb dX5_look_47 rfl (lv_at hl 0 rfl) ?_
            refine va_get (D := D) (ci := 5) (v := .ref (a5 1)) (C := RX5) (T := TX5) (N := 24) hx hb hts inX5_look hown hK hP 0 rfl rfl 3 (by decide) fl13 (fun _ h9 => h9) rfl dX5_look_48 ?_
            refine lv_iconst (v := 4) hx hb dX5_look_51 (by decide) ?_
            refine lv_iload_n hx hb dX5_look_52 rfl (lv_at hl 1 rfl) ?_
            refine lv_imul hx hb dX5_look_53 ?_
            refine lv_topi (fun z10 ez10 => ?_)
            obtain rfl : z10 = nI (4 * t) := ez10.trans (pk_mul 4 t)
            refine lv_iconst (v := 1) hx hb dX5_look_54 (by decide) ?_
            refine lv_iadd hx hb dX5_look_55 ?_
            refine lv_topi (fun z11 ez11 => ?_)
            obtain rfl : z11 = nI (4 * t + 1) := ez11.trans ((nI_add (4 * t) 1).trans (congrArg nI (by omega)))
            refine K_iald hx hb hK hP 2 0 rfl rfl (4 * t + 1) (by omega) (Nat.le_of_ble_eq_true rfl) dX5_look_56 ?_
            refine lv_aload_n hx hb dX5_look_57 rfl (lv_at hl 0 rfl) ?_
            refine lv_iload_n hx hb dX5_look_58 rfl (lv_at hl 2 rfl) ?_
            refine lv_iconst (v := 0) hx hb dX5_look_59 (by decide) ?_
            refine K_same (va_runV (As := [.int d, .int 0]) (rest := [.int (mth (4 * t + 1))]) ⟨hx, hb, hml, hown, hts⟩ (c_X5_forceOf l D cI cZ cG h5 a5 _ nr nt nc nw hd wk ng nT mi nf nn mru mth mcl mfa mwa mfz mbl mbk mtr mno mlo mip mto d 0 hnr hnt hnc hnw hwk hng hnT hnf hnn (by omega)) (cwV 2 hts gX5_look_X5_forceOf rfl rfl rfl (by decide +kernel) ⟨(Nat.le_of_ble_eq_true rfl), (Nat.le_of_ble_eq_true rfl)⟩) ⟨PB_blind, va_recv hK hP (ci := 5) (q0 := 0) rfl rfl, (K_preS hN hK hP hD).2⟩ rfl rfl hl.1 rfl (lv_room (Nat.le_of_ble_eq_true rfl)) dX5_look_60 ⟨Nat.zero_le _, Nat.zero_le _⟩) hD hS hA (fun r12 u H locs hw12 hP hD hS => ?_)
            have hP : va_P D vwCl (wX5 cI cZ cG h5 a5 (nI nr) (nI nt) (nI nc) (nI nw) hd (nI wk) (nI ng) (nI nT) mi (nI nf) (nI nn) mru mth mcl mfa mwa mfz mbl mbk mtr mno mlo mip mto) H := hP
            have hD : va_D A (wX5 cI cZ cG h5 a5 (nI nr) (nI nt) (nI nc) (nI nw) hd (nI wk) (nI ng) (nI nT) mi (nI nf) (nI nn) mru mth mcl mfa mwa mfz mbl mbk mtr mno mlo mip mto) := hD
            obtain rfl : r12 = raA nr (col 3 0 mru) (col 3 1 mru) d := hw12.trans (if_pos rfl)
            refine lv_idiv hx hb dX5_look_63 (raA_ne d hrr) ?_
            refine lv_goto (tgt := 73) hx hb dX5_look_64 (by decide) ?_
            exact K_iret (wf := (fun (_ : Unit) => wX5 cI cZ cG h5 a5 (nI nr) (nI nt) (nI nc) (nI nw) hd (nI wk) (nI ng) (nI nT) mi (nI nf) (nI nn) mru mth mcl mfa mwa mfz mbl mbk mtr mno mlo mip mto)) () hx hb hr hlocks hP hK hD hS dX5_look_73 (by simp [rLookM, duA, col, hw1, hct, hw3, hw5, c7, eq_true c8])
        · refine lv_aload_n hx hb dX5_look_33 rfl (lv_at hl 0 rfl) ?_
          refine lv_iload_n hx hb dX5_look_34 rfl (lv_at hl 1 rfl) ?_
          refine lv_iload_n hx hb dX5_look_35 rfl (lv_at hl 2 rfl) ?_
          refine K_same (va_runV (As := [.int (nI t), .int d]) (rest := []) ⟨hx, hb, hml, hown, hts⟩ (c_X5_sizeOn l D cI cZ cG h5 a5 _ nr nt nc nw hd wk ng nT mi nf nn mru mth mcl mfa mwa mfz mbl mbk mtr mno mlo mip mto t d hnr hnt hnc hnw hwk hng hnT hnf hnn (by omega)) (cwV 2 hts gX5_look_X5_sizeOn rfl rfl rfl (by decide +kernel) ⟨(Nat.le_of_ble_eq_true rfl), (Nat.le_of_ble_eq_true rfl)⟩) ⟨PB_blind, va_recv hK hP (ci := 5) (q0 := 0) rfl rfl, (K_preS hN hK hP hD).2⟩ rfl rfl hl.1 rfl (lv_room (Nat.le_of_ble_eq_true rfl)) dX5_look_36 ⟨Nat.zero_le _, Nat.zero_le _⟩) hD hS hA (fun r13 u H locs hw13 hP hD hS => ?_)
          have hP : va_P D vwCl (wX5 cI cZ cG h5 a5 (nI nr) (nI nt) (nI nc) (nI nw) hd (nI wk) (nI ng) (nI nT) mi (nI nf) (nI nn) mru mth mcl mfa mwa mfz mbl mbk mtr mno mlo mip mto) H := hP
          have hD : va_D A (wX5 cI cZ cG h5 a5 (nI nr) (nI nt) (nI nc) (nI nw) hd (nI wk) (nI ng) (nI nT) mi (nI nf) (nI nn) mru mth mcl mfa mwa mfz mbl mbk mtr mno mlo mip mto) := hD
          obtain rfl := hw13
          refine lv_goto (tgt := 73) hx hb dX5_look_39 (by decide) ?_
          exact K_iret (wf := (fun (_ : Unit) => wX5 cI cZ cG h5 a5 (nI nr) (nI nt) (nI nc) (nI nw) hd (nI wk) (nI ng) (nI nT) mi (nI nf) (nI nn) mru mth mcl mfa mwa mfz mbl mbk mtr mno mlo mip mto)) () hx hb hr hlocks hP hK hD hS dX5_look_73 (by simp [rLookM, duA, col, hw1, hct, hw3, hw5, eq_true c7])
      · skip
        refine lv_if_ne (tgt := 29) hx hb dX5_look_23 (by decide) (fun c14 => absurd c14 (by decide)) (fun _ => ?_)
        refine lv_bipush (v := (-2)) hx hb dX5_look_26 (by decide) ?_
        exact K_iret (wf := (fun (_ : Unit) => wX5 cI cZ cG h5 a5 (nI nr) (nI nt) (nI nc) (nI nw) hd (nI wk) (nI ng) (nI nT) mi (nI nf) (nI nn) mru mth mcl mfa mwa mfz mbl mbk mtr mno mlo mip mto)) () hx hb hr hlocks hP hK hD hS dX5_look_28 (by simp [rLookM, duA, col, hw1, hct, hw3, hw5])
    · skip
      refine lv_if_eq (tgt := 26) hx hb dX5_look_14 (by decide) (fun _ => ?_) (fun c15 => absurd c15 (by decide))
      refine lv_bipush (v := (-2)) hx hb dX5_look_26 (by decide) ?_
      exact K_iret (wf := (fun (_ : Unit) => wX5 cI cZ cG h5 a5 (nI nr) (nI nt) (nI nc) (nI nw) hd (nI wk) (nI ng) (nI nT) mi (nI nf) (nI nn) mru mth mcl mfa mwa mfz mbl mbk mtr mno mlo mip mto)) () hx hb hr hlocks hP hK hD hS dX5_look_28 (by simp [rLookM, duA, col, hw1, hct, hw3])
  · skip
    refine lv_if_ne (tgt := 10) hx hb dX5_look_5 (by decide) (fun c16 => absurd c16 (by decide)) (fun _ => ?_)
    refine lv_iconst (v := (-1)) hx hb dX5_look_8 (by decide) ?_
    exact K_iret (wf := (fun (_ : Unit) => wX5 cI cZ cG h5 a5 (nI nr) (nI nt) (nI nc) (nI nw) hd (nI wk) (nI ng) (nI nT) mi (nI nf) (nI nn) mru mth mcl mfa mwa mfz mbl mbk mtr mno mlo mip mto)) () hx hb hr hlocks hP hK hD hS dX5_look_9 (by simp [rLookM, duA, col, hw1])
theorem inX5_fault : ∀ w ∈ wsX50, w ∈ wsX5_fault := by decide +kernel
set_option maxHeartbeats 8000000 in
set_option maxRecDepth 100000 in
/-- fault -/
theorem c_X5_fault (l : Launch) (D : va_G) (cI cZ cG : ClassId) (h5 : Nat) (a5 : Nat → Nat) (sz : Nat) (nr : Nat) (nt : Nat) (nc : Nat) (nw : Nat) (hd : Int32) (wk : Nat) (ng : Nat) (nT : Nat) (mi : Int32) (nf : Nat) (nn : Nat) (mru : Nat → Int32) (mth : Nat → Int32) (mcl : Nat → Int32) (mfa : Nat → Int32) (mwa : Nat → Int32) (mfz : Nat → Int32) (mbl : Nat → Int32) (mbk : Nat → Int32) (mtr : Nat → Int32) (mno : Nat → Int32) (mlo : Nat → Int32) (mip : Nat → Int32) (mto : Nat → Int32) (d : Int32) (hnr : nr ≤ 6) (hnt : nt ≤ 20) (hnc : nc ≤ 60) (hnw : nw ≤ 24) (hwk : wk ≤ 200) (hng : ng ≤ 3) (hnT : nT ≤ 4) (hnf : nf ≤ 12) (hnn : nn ≤ 60) (hrr : ∀ k, k < nr → ¬ col 3 1 mru k = 0) : Met l yX5_fault wsX5_fault ({ frames := 2, cells := 0, slots := 0, locals := 51 } : Room) (va_Pc [.ref h5, .int d] (PB D (tyL cI cZ cG) (wX5 cI cZ cG h5 a5 (nI nr) (nI nt) (nI nc) (nI nw) hd (nI wk) (nI ng) (nI nT) mi (nI nf) (nI nn) mru mth mcl mfa mwa mfz mbl mbk mtr mno mlo mip mto) sz)) (va_Qi (fun (r : Int32) (_ : Unit) => if inR d 0 3000 = true then fst (fun t => ¬ fM nr nc mru mth mcl t d = 0) 0 nt r else r = -2) (fun u => QB D (tyL cI cZ cG) (va_A (wX5 cI cZ cG h5 a5 (nI nr) (nI nt) (nI nc) (nI nw) hd (nI wk) (nI ng) (nI nT) mi (nI nf) (nI nn) mru mth mcl mfa mwa mfz mbl mbk mtr mno mlo mip mto) sz) ((fun (_ : Unit) => wX5 cI cZ cG h5 a5 (nI nr) (nI nt) (nI nc) (nI nw) hd (nI wk) (nI ng) (nI nT) mi (nI nf) (nI nn) mru mth mcl mfa mwa mfz mbl mbk mtr mno mlo mip mto) u)) (va_A (wX5 cI cZ cG h5 a5 (nI nr) (nI nt) (nI nc) (nI nw) hd (nI wk) (nI ng) (nI nT) mi (nI nf) (nI nn) mru mth mcl mfa mwa mfz mbl mbk mtr mno mlo mip mto) sz)) 0 0 (va_A (wX5 cI cZ cG h5 a5 (nI nr) (nI nt) (nI nc) (nI nw) hd (nI wk) (nI ng) (nI nT) mi (nI nf) (nI nn) mru mth mcl mfa mwa mfz mbl mbk mtr mno mlo mip mto) sz) := by
  refine K_start (cc := cX5_fault) (maxL := 3) (ret := some .int) (Qc := fun A => va_Qi (fun (r : Int32) (_ : Unit) => if inR d 0 3000 = true then fst (fun t => ¬ fM nr nc mru mth mcl t d = 0) 0 nt r else r = -2) (fun u => QB D (tyL cI cZ cG) A ((fun (_ : Unit) => wX5 cI cZ cG h5 a5 (nI nr) (nI nt) (nI nc) (nI nw) hd (nI wk) (nI ng) (nI nT) mi (nI nf) (nI nn) mru mth mcl mfa mwa mfz mbl mbk mtr mno mlo mip mto) u)) A) (by decide) rfl (Nat.le_of_ble_eq_true rfl) ?_
  intro p e s m below meth c ls A hx hb hml hr hts hown hlocks hin hN hP hK hD hA hS hl hsz
  have hl : lv_has ls 3 [(0, .ref h5), (1, .int d)] := hl
  have fl70 := hts (.fieldLink RX5 70 "ModelTownModel" "things" "I") (by decide +kernel)
  refine lv_iload_n hx hb dX5_fault_0 rfl (lv_at hl 1 rfl) ?_
  refine K_none (va_runS (As := [.int d]) (rest := []) ⟨hx, hb, hml, hown, hts⟩ (c_X5_isDay l D cI cZ cG _ d) (va_cwS 1 hts gX5_fault_X5_isDay rfl rfl rfl (by decide +kernel) ⟨(Nat.le_of_ble_eq_true rfl), (Nat.le_of_ble_eq_true rfl)⟩) (K_pre0 hN hK) rfl rfl hl.1 rfl (lv_room (Nat.le_of_ble_eq_true rfl)) dX5_fault_1 ⟨Nat.zero_le _, Nat.zero_le _⟩) hP hS hA (fun r1 _ H locs hw1 hP hS => ?_)
  rcases hw1 with ⟨rfl, hw1⟩ | ⟨rfl, hw1⟩
  · skip
    refine lv_if_ne (tgt := 10) hx hb dX5_fault_4 (by decide) (fun _ => ?_) (fun c2 => absurd c2 (by decide))
    refine lv_iconst (v := 0) hx hb dX5_fault_10 (by decide) ?_
    refine lv_istore_n (lv' := [(2, .int 0), (0, .ref h5), (1, .int d)]) hx hb dX5_fault_11 rfl hl (by decide) rfl (fun ls hl => ?_)
    refine loopW1 (fun (t : Nat) H locs ls => (t ≤ nt) ∧ (∀ j, 0 ≤ j → j < t → ¬ ¬ fM nr nc mru mth mcl j d = 0) ∧ va_P D vwCl (wX5 cI cZ cG h5 a5 (nI nr) (nI nt) (nI nc) (nI nw) hd (nI wk) (nI ng) (nI nT) mi (nI nf) (nI nn) mru mth mcl mfa mwa mfz mbl mbk mtr mno mlo mip mto) H ∧ va_D A (wX5 cI cZ cG h5 a5 (nI nr) (nI nt) (nI nc) (nI nw) hd (nI wk) (nI ng) (nI nT) mi (nI nf) (nI nn) mru mth mcl mfa mwa mfz mbl mbk mtr mno mlo mip mto) ∧ va_S A s.heap H locs ∧ lv_has ls 3 [(2, .int (nI t)), (0, .ref h5), (1, .int d)]) (fun (t : Nat) => nt - t) (fun t H locs ls hI ih12 => ?_) 0 _ _ _ ⟨(by omega), (fun j _ hj => absurd hj (by omega)), hP, hD, hS, lv_sub hl [0, 1, 2] rfl⟩
    obtain ⟨htt, hz, hP, hD, hS, hl⟩ := hI
    refine lv_iload_n hx hb dX5_fault_12 rfl (lv_at hl 0 rfl) ?_
    refine lv_aload_n hx hb dX5_fault_13 rfl (lv_at hl 1 rfl) ?_
    refine va_get (D := D) (ci := 5) (v := .int (nI nt)) (C := RX5) (T := TX5) (N := 24) hx hb hts inX5_fault hown hK hP 0 rfl rfl 2 (by decide) fl70 (fun _ h9 => h9) rfl dX5_fault_14 ?_
    refine lv_icmp_ge (tgt := 37) hx hb dX5_fault_17 (by decide) (fun c3 => ?_) (fun c3 => ?_)
    · have c3 : nt ≤ t := (nI_leI (a := nt) (b := t) (by omega) (by omega)).mp c3
      have ek : t = nt := by omega
      rw [ek] at hz
      refine lv_bipush (v := (-6)) hx hb dX5_fault_37 (by decide) ?_
      exact K_iret (wf := (fun (_ : Unit) => wX5 cI cZ cG h5 a5 (nI nr) (nI nt) (nI nc) (nI nw) hd (nI wk) (nI ng) (nI nT) mi (nI nf) (nI nn) mru mth mcl mfa mwa mfz mbl mbk mtr mno mlo mip mto)) () hx hb hr hlocks hP hK hD hS dX5_fault_39 (by rw [if_pos hw1]; exact Or.inr ⟨rfl, hz⟩)
    · have c3 : ¬ nt ≤ t := fun hq => c3 ((nI_leI (a := nt) (b := t) (by omega) (by omega)).mpr hq)
      have ht : t < nt := by omega
      refine lv_aload_n hx hb dX5_fault_20 rfl (lv_at hl 1 rfl) ?_
      refine lv_iload_n hx hb dX5_fault_21 rfl (lv_at hl 0 rfl) ?_
      refine lv_iload_n hx hb dX5_fault_22 rfl (lv_at hl 2 rfl) ?_
      refine K_same (va_runV (As := [.int (nI t), .int d]) (rest := []) ⟨hx, hb, hml, hown, hts⟩ (c_X5_faultOn l D cI cZ cG h5 a5 _ nr nt nc nw hd wk ng nT mi nf nn mru mth mcl mfa mwa mfz mbl mbk mtr mno mlo mip mto t d hnr hnt hnc hnw hwk hng hnT hnf hnn ht hrr) (cwV 2 hts gX5_fault_X5_faultOn rfl rfl rfl (by decide +kernel) ⟨(Nat.le_of_ble_eq_true rfl), (Nat.le_of_ble_eq_true rfl)⟩) ⟨PB_blind, va_recv hK hP (ci := 5) (q0 := 0) rfl rfl, (K_preS hN hK hP hD).2⟩ rfl rfl hl.1 rfl (lv_room (Nat.le_of_ble_eq_true rfl)) dX5_fault_23 ⟨Nat.zero_le _, Nat.zero_le _⟩) hD hS hA (fun r4 u H locs hw4 hP hD hS => ?_)
      have hP : va_P D vwCl (wX5 cI cZ cG h5 a5 (nI nr) (nI nt) (nI nc) (nI nw) hd (nI wk) (nI ng) (nI nT) mi (nI nf) (nI nn) mru mth mcl mfa mwa mfz mbl mbk mtr mno mlo mip mto) H := hP
      have hD : va_D A (wX5 cI cZ cG h5 a5 (nI nr) (nI nt) (nI nc) (nI nw) hd (nI wk) (nI ng) (nI nT) mi (nI nf) (nI nn) mru mth mcl mfa mwa mfz mbl mbk mtr mno mlo mip mto) := hD
      obtain rfl := hw4
      refine lv_if_le (tgt := 31) hx hb dX5_fault_26 (by decide) (fun c5 => ?_) (fun c5 => ?_)
      · refine lv_iinc (v := nI (t + 1)) (lv' := [(2, .int (nI (t + 1))), (0, .ref h5), (1, .int d)]) hx hb dX5_fault_31 hl (k := 0) rfl (inc1 _) (by decide) rfl (fun ls hl => ?_)
        refine lv_goto (tgt := 12) hx hb dX5_fault_34 (by decide) ?_
        exact ih12 (t + 1) _ _ _ ⟨(by omega), (fun j hj0 hj => by
          rcases Nat.lt_or_ge j t with q9 | q9
          · exact hz j hj0 q9
          · obtain rfl : j = t := by omega
            exact fun hq => hq (fM_0 c5)), hP, hD, hS, lv_sub hl [0, 1, 2] rfl⟩ (by omega)
      · refine lv_iload_n hx hb dX5_fault_29 rfl (lv_at hl 0 rfl) ?_
        exact K_iret (wf := (fun (_ : Unit) => wX5 cI cZ cG h5 a5 (nI nr) (nI nt) (nI nc) (nI nw) hd (nI wk) (nI ng) (nI nT) mi (nI nf) (nI nn) mru mth mcl mfa mwa mfz mbl mbk mtr mno mlo mip mto)) () hx hb hr hlocks hP hK hD hS dX5_fault_30 (by rw [if_pos hw1]; exact Or.inl ⟨t, by omega, by omega, rfl, fM_ne c5, hz⟩)
  · skip
    refine lv_if_ne (tgt := 10) hx hb dX5_fault_4 (by decide) (fun c6 => absurd c6 (by decide)) (fun _ => ?_)
    refine lv_bipush (v := (-2)) hx hb dX5_fault_7 (by decide) ?_
    exact K_iret (wf := (fun (_ : Unit) => wX5 cI cZ cG h5 a5 (nI nr) (nI nt) (nI nc) (nI nw) hd (nI wk) (nI ng) (nI nT) mi (nI nf) (nI nn) mru mth mcl mfa mwa mfz mbl mbk mtr mno mlo mip mto)) () hx hb hr hlocks hP hK hD hS dX5_fault_9 (by rw [if_neg hw1])
set_option maxHeartbeats 8000000 in
set_option maxRecDepth 100000 in
/-- spoils -/
theorem c_X5_spoils (l : Launch) (D : va_G) (cI cZ cG : ClassId) (h5 : Nat) (a5 : Nat → Nat) (sz : Nat) (nr : Nat) (nt : Nat) (nc : Nat) (nw : Nat) (hd : Int32) (wk : Nat) (ng : Nat) (nT : Nat) (mi : Int32) (nf : Nat) (nn : Nat) (mru : Nat → Int32) (mth : Nat → Int32) (mcl : Nat → Int32) (mfa : Nat → Int32) (mwa : Nat → Int32) (mfz : Nat → Int32) (mbl : Nat → Int32) (mbk : Nat → Int32) (mtr : Nat → Int32) (mno : Nat → Int32) (mlo : Nat → Int32) (mip : Nat → Int32) (mto : Nat → Int32) (x : Int32) (f : Int32) (hnr : nr ≤ 6) (hnt : nt ≤ 20) (hnc : nc ≤ 60) (hnw : nw ≤ 24) (hwk : wk ≤ 200) (hng : ng ≤ 3) (hnT : nT ≤ 4) (hnf : nf ≤ 12) (hnn : nn ≤ 60) (hrr : ∀ k, k < nr → ¬ col 3 1 mru k = 0) : Met l yX5_spoils wsX5_spoils ({ frames := 2, cells := 0, slots := 0, locals := 51 } : Room) (va_Pc [.ref h5, .int x, .int f] (PB D (tyL cI cZ cG) (wX5 cI cZ cG h5 a5 (nI nr) (nI nt) (nI nc) (nI nw) hd (nI wk) (nI ng) (nI nT) mi (nI nf) (nI nn) mru mth mcl mfa mwa mfz mbl mbk mtr mno mlo mip mto) sz)) (va_Qi (fun (r : Int32) (_ : Unit) => if inR x 0 (nI nt - 1) = true then (if inR f 0 3000 = true then fst (fun k => ¬ fM nr nc mru mth mcl x.toNatClampNeg (nI k) = 0) f.toNatClampNeg 3001 r else r = -2) else r = -1) (fun u => QB D (tyL cI cZ cG) (va_A (wX5 cI cZ cG h5 a5 (nI nr) (nI nt) (nI nc) (nI nw) hd (nI wk) (nI ng) (nI nT) mi (nI nf) (nI nn) mru mth mcl mfa mwa mfz mbl mbk mtr mno mlo mip mto) sz) ((fun (_ : Unit) => wX5 cI cZ cG h5 a5 (nI nr) (nI nt) (nI nc) (nI nw) hd (nI wk) (nI ng) (nI nT) mi (nI nf) (nI nn) mru mth mcl mfa mwa mfz mbl mbk mtr mno mlo mip mto) u)) (va_A (wX5 cI cZ cG h5 a5 (nI nr) (nI nt) (nI nc) (nI nw) hd (nI wk) (nI ng) (nI nT) mi (nI nf) (nI nn) mru mth mcl mfa mwa mfz mbl mbk mtr mno mlo mip mto) sz)) 0 0 (va_A (wX5 cI cZ cG h5 a5 (nI nr) (nI nt) (nI nc) (nI nw) hd (nI wk) (nI ng) (nI nT) mi (nI nf) (nI nn) mru mth mcl mfa mwa mfz mbl mbk mtr mno mlo mip mto) sz) := by
  refine K_start (cc := cX5_spoils) (maxL := 4) (ret := some .int) (Qc := fun A => va_Qi (fun (r : Int32) (_ : Unit) => if inR x 0 (nI nt - 1) = true then (if inR f 0 3000 = true then fst (fun k => ¬ fM nr nc mru mth mcl x.toNatClampNeg (nI k) = 0) f.toNatClampNeg 3001 r else r = -2) else r = -1) (fun u => QB D (tyL cI cZ cG) A ((fun (_ : Unit) => wX5 cI cZ cG h5 a5 (nI nr) (nI nt) (nI nc) (nI nw) hd (nI wk) (nI ng) (nI nT) mi (nI nf) (nI nn) mru mth mcl mfa mwa mfz mbl mbk mtr mno mlo mip mto) u)) A) (by decide) rfl (Nat.le_of_ble_eq_true rfl) ?_
  intro p e s m below meth c ls A hx hb hml hr hts hown hlocks hin hN hP hK hD hA hS hl hsz
  have hl : lv_has ls 4 [(0, .ref h5), (1, .int x), (2, .int f)] := hl
  refine lv_aload_n hx hb dX5_spoils_0 rfl (lv_at hl 0 rfl) ?_
  refine lv_iload_n hx hb dX5_spoils_1 rfl (lv_at hl 1 rfl) ?_
  refine K_same (va_runV (As := [.int x]) (rest := []) ⟨hx, hb, hml, hown, hts⟩ (c_X5_isThing l D cI cZ cG h5 a5 _ nr nt nc nw hd wk ng nT mi nf nn mru mth mcl mfa mwa mfz mbl mbk mtr mno mlo mip mto x hnr hnt hnc hnw hwk hng hnT hnf hnn) (cwV 1 hts gX5_spoils_X5_isThing rfl rfl rfl (by decide +kernel) ⟨(Nat.le_of_ble_eq_true rfl), (Nat.le_of_ble_eq_true rfl)⟩) ⟨PB_blind, va_recv hK hP (ci := 5) (q0 := 0) rfl rfl, (K_preS hN hK hP hD).2⟩ rfl rfl hl.1 rfl (lv_room (Nat.le_of_ble_eq_true rfl)) dX5_spoils_2 ⟨Nat.zero_le _, Nat.zero_le _⟩) hD hS hA (fun r1 u H locs hw1 hP hD hS => ?_)
  have hP : va_P D vwCl (wX5 cI cZ cG h5 a5 (nI nr) (nI nt) (nI nc) (nI nw) hd (nI wk) (nI ng) (nI nT) mi (nI nf) (nI nn) mru mth mcl mfa mwa mfz mbl mbk mtr mno mlo mip mto) H := hP
  have hD : va_D A (wX5 cI cZ cG h5 a5 (nI nr) (nI nt) (nI nc) (nI nw) hd (nI wk) (nI ng) (nI nT) mi (nI nf) (nI nn) mru mth mcl mfa mwa mfz mbl mbk mtr mno mlo mip mto) := hD
  rcases hw1 with ⟨rfl, hw1⟩ | ⟨rfl, hw1⟩
  · obtain ⟨t, ht, rfl⟩ := inR_lt (by omega) hw1
    have hct : (nI t).toNatClampNeg = t := nI_clamp (by omega)
    refine lv_if_ne (tgt := 10) hx hb dX5_spoils_5 (by decide) (fun _ => ?_) (fun c2 => absurd c2 (by decide))
    refine lv_iload_n hx hb dX5_spoils_10 rfl (lv_at hl 2 rfl) ?_
    refine K_none (va_runS (As := [.int f]) (rest := []) ⟨hx, hb, hml, hown, hts⟩ (c_X5_isDay l D cI cZ cG _ f) (va_cwS 1 hts gX5_spoils_X5_isDay rfl rfl rfl (by decide +kernel) ⟨(Nat.le_of_ble_eq_true rfl), (Nat.le_of_ble_eq_true rfl)⟩) (K_pre0 hN hK) rfl rfl hl.1 rfl (lv_room (Nat.le_of_ble_eq_true rfl)) dX5_spoils_11 ⟨Nat.zero_le _, Nat.zero_le _⟩) hP hS hA (fun r3 _ H locs hw3 hP hS => ?_)
    rcases hw3 with ⟨rfl, hw3⟩ | ⟨rfl, hw3⟩
    · obtain ⟨f0, hf0, rfl⟩ := inR_nat (n := 3000) hw3 (by decide)
      have hcf0 : (nI f0).toNatClampNeg = f0 := nI_clamp (by omega)
      refine lv_if_ne (tgt := 20) hx hb dX5_spoils_14 (by decide) (fun _ => ?_) (fun c4 => absurd c4 (by decide))
      refine lv_iload_n hx hb dX5_spoils_20 rfl (lv_at hl 2 rfl) ?_
      refine lv_istore_n (lv' := [(3, .int (nI f0)), (0, .ref h5), (1, .int (nI t)), (2, .int (nI f0))]) hx hb dX5_spoils_21 rfl hl (by decide) rfl (fun ls hl => ?_)
      refine loopW1 (fun (k : Nat) H locs ls => (f0 ≤ k) ∧ (k ≤ 3001) ∧ (∀ j, f0 ≤ j → j < k → ¬ ¬ fM nr nc mru mth mcl t (nI j) = 0) ∧ va_P D vwCl (wX5 cI cZ cG h5 a5 (nI nr) (nI nt) (nI nc) (nI nw) hd (nI wk) (nI ng) (nI nT) mi (nI nf) (nI nn) mru mth mcl mfa mwa mfz mbl mbk mtr mno mlo mip mto) H ∧ va_D A (wX5 cI cZ cG h5 a5 (nI nr) (nI nt) (nI nc) (nI nw) hd (nI wk) (nI ng) (nI nT) mi (nI nf) (nI nn) mru mth mcl mfa mwa mfz mbl mbk mtr mno mlo mip mto) ∧ va_S A s.heap H locs ∧ lv_has ls 4 [(3, .int (nI k)), (0, .ref h5), (1, .int (nI t)), (2, .int (nI f0))]) (fun (k : Nat) => 3001 - k) (fun k H locs ls hI ih22 => ?_) f0 _ _ _ ⟨(by omega), (by omega), (fun j _ hj => absurd hj (by omega)), hP, hD, hS, lv_sub hl [0, 1, 2, 3] rfl⟩
      obtain ⟨hk1, hk2, hz, hP, hD, hS, hl⟩ := hI
      refine lv_iload_n hx hb dX5_spoils_22 rfl (lv_at hl 0 rfl) ?_
      refine lv_sipush (v := 3000) hx hb dX5_spoils_23 (by decide) ?_
      refine lv_icmp_gt (tgt := 46) hx hb dX5_spoils_26 (by decide) (fun c5 => ?_) (fun c5 => ?_)
      · have c5 : 3000 < k := (nI_ltI (a := 3000) (b := k) (by omega) (by omega)).mp c5
        refine lv_bipush (v := (-6)) hx hb dX5_spoils_46 (by decide) ?_
        exact K_iret (wf := (fun (_ : Unit) => wX5 cI cZ cG h5 a5 (nI nr) (nI nt) (nI nc) (nI nw) hd (nI wk) (nI ng) (nI nT) mi (nI nf) (nI nn) mru mth mcl mfa mwa mfz mbl mbk mtr mno mlo mip mto)) () hx hb hr hlocks hP hK hD hS dX5_spoils_48 (by rw [if_pos hw1, if_pos hw3, hct, hcf0]; exact Or.inr ⟨rfl, fun j a b => hz j a (by omega)⟩)
      · have c5 : ¬ 3000 < k := fun hq => c5 ((nI_ltI (a := 3000) (b := k) (by omega) (by omega)).mpr hq)
        refine lv_aload_n hx hb dX5_spoils_29 rfl (lv_at hl 1 rfl) ?_
        refine lv_iload_n hx hb dX5_spoils_30 rfl (lv_at hl 2 rfl) ?_
        refine lv_iload_n hx hb dX5_spoils_31 rfl (lv_at hl 0 rfl) ?_
        refine K_same (va_runV (As := [.int (nI t), .int (nI k)]) (rest := []) ⟨hx, hb, hml, hown, hts⟩ (c_X5_faultOn l D cI cZ cG h5 a5 _ nr nt nc nw hd wk ng nT mi nf nn mru mth mcl mfa mwa mfz mbl mbk mtr mno mlo mip mto t (nI k) hnr hnt hnc hnw hwk hng hnT hnf hnn (by omega) hrr) (cwV 2 hts gX5_spoils_X5_faultOn rfl rfl rfl (by decide +kernel) ⟨(Nat.le_of_ble_eq_true rfl), (Nat.le_of_ble_eq_true rfl)⟩) ⟨PB_blind, va_recv hK hP (ci := 5) (q0 := 0) rfl rfl, (K_preS hN hK hP hD).2⟩ rfl rfl hl.1 rfl (lv_room (Nat.le_of_ble_eq_true rfl)) dX5_spoils_32 ⟨Nat.zero_le _, Nat.zero_le _⟩) hD hS hA (fun r6 u H locs hw6 hP hD hS => ?_)
        have hP : va_P D vwCl (wX5 cI cZ cG h5 a5 (nI nr) (nI nt) (nI nc) (nI nw) hd (nI wk) (nI ng) (nI nT) mi (nI nf) (nI nn) mru mth mcl mfa mwa mfz mbl mbk mtr mno mlo mip mto) H := hP
        have hD : va_D A (wX5 cI cZ cG h5 a5 (nI nr) (nI nt) (nI nc) (nI nw) hd (nI wk) (nI ng) (nI nT) mi (nI nf) (nI nn) mru mth mcl mfa mwa mfz mbl mbk mtr mno mlo mip mto) := hD
        obtain rfl := hw6
        refine lv_if_le (tgt := 40) hx hb dX5_spoils_35 (by decide) (fun c7 => ?_) (fun c7 => ?_)
        · refine lv_iinc (v := nI (k + 1)) (lv' := [(3, .int (nI (k + 1))), (0, .ref h5), (1, .int (nI t)), (2, .int (nI f0))]) hx hb dX5_spoils_40 hl (k := 0) rfl (inc1 _) (by decide) rfl (fun ls hl => ?_)
          refine lv_goto (tgt := 22) hx hb dX5_spoils_43 (by decide) ?_
          exact ih22 (k + 1) _ _ _ ⟨(by omega), (by omega), (fun j hj0 hj => by
            rcases Nat.lt_or_ge j k with q9 | q9
            · exact hz j hj0 q9
            · obtain rfl : j = k := by omega
              exact fun hq => hq (fM_0 c7)), hP, hD, hS, lv_sub hl [0, 1, 2, 3] rfl⟩ (by omega)
        · refine lv_iload_n hx hb dX5_spoils_38 rfl (lv_at hl 0 rfl) ?_
          exact K_iret (wf := (fun (_ : Unit) => wX5 cI cZ cG h5 a5 (nI nr) (nI nt) (nI nc) (nI nw) hd (nI wk) (nI ng) (nI nT) mi (nI nf) (nI nn) mru mth mcl mfa mwa mfz mbl mbk mtr mno mlo mip mto)) () hx hb hr hlocks hP hK hD hS dX5_spoils_39 (by rw [if_pos hw1, if_pos hw3, hct, hcf0]; exact Or.inl ⟨k, by omega, by omega, rfl, fM_ne c7, hz⟩)
    · skip
      refine lv_if_ne (tgt := 20) hx hb dX5_spoils_14 (by decide) (fun c8 => absurd c8 (by decide)) (fun _ => ?_)
      refine lv_bipush (v := (-2)) hx hb dX5_spoils_17 (by decide) ?_
      exact K_iret (wf := (fun (_ : Unit) => wX5 cI cZ cG h5 a5 (nI nr) (nI nt) (nI nc) (nI nw) hd (nI wk) (nI ng) (nI nT) mi (nI nf) (nI nn) mru mth mcl mfa mwa mfz mbl mbk mtr mno mlo mip mto)) () hx hb hr hlocks hP hK hD hS dX5_spoils_19 (by rw [if_pos hw1, if_neg hw3])
  · skip
    refine lv_if_ne (tgt := 10) hx hb dX5_spoils_5 (by decide) (fun c9 => absurd c9 (by decide)) (fun _ => ?_)
    refine lv_iconst (v := (-1)) hx hb dX5_spoils_8 (by decide) ?_
    exact K_iret (wf := (fun (_ : Unit) => wX5 cI cZ cG h5 a5 (nI nr) (nI nt) (nI nc) (nI nw) hd (nI wk) (nI ng) (nI nT) mi (nI nf) (nI nn) mru mth mcl mfa mwa mfz mbl mbk mtr mno mlo mip mto)) () hx hb hr hlocks hP hK hD hS dX5_spoils_9 (by rw [if_neg hw1])
theorem inX5_rule : ∀ w ∈ wsX50, w ∈ wsX5_rule := by decide +kernel
set_option maxHeartbeats 8000000 in
set_option maxRecDepth 100000 in
/-- rule -/
theorem c_X5_rule (l : Launch) (D : va_G) (cI cZ cG : ClassId) (h5 : Nat) (a5 : Nat → Nat) (sz : Nat) (nr : Nat) (nt : Nat) (nc : Nat) (nw : Nat) (hd : Int32) (wk : Nat) (ng : Nat) (nT : Nat) (mi : Int32) (nf : Nat) (nn : Nat) (mru : Nat → Int32) (mth : Nat → Int32) (mcl : Nat → Int32) (mfa : Nat → Int32) (mwa : Nat → Int32) (mfz : Nat → Int32) (mbl : Nat → Int32) (mbk : Nat → Int32) (mtr : Nat → Int32) (mno : Nat → Int32) (mlo : Nat → Int32) (mip : Nat → Int32) (mto : Nat → Int32) (d : Int32) (q : Int32) (v : Int32) (hnr : nr ≤ 6) (hnt : nt ≤ 20) (hnc : nc ≤ 60) (hnw : nw ≤ 24) (hwk : wk ≤ 200) (hng : ng ≤ 3) (hnT : nT ≤ 4) (hnf : nf ≤ 12) (hnn : nn ≤ 60) : Met l yX5_rule wsX5_rule ({ frames := 2, cells := 0, slots := 0, locals := 42 } : Room) (va_Pc [.ref h5, .int d, .int q, .int v] (PB D (tyL cI cZ cG) (wX5 cI cZ cG h5 a5 (nI nr) (nI nt) (nI nc) (nI nw) hd (nI wk) (nI ng) (nI nT) mi (nI nf) (nI nn) mru mth mcl mfa mwa mfz mbl mbk mtr mno mlo mip mto) sz)) (va_Qi (fun (r : Int32) (u : Nat × (Nat → Int32)) => r = rRule nr d q v ∧ u = if okRule d q v = true ∧ ¬ nr = 6 then (nr + 1, upd (upd (upd mru (3 * nr) d) (3 * nr + 1) q) (3 * nr + 2) v) else (nr, mru)) (fun u => QB D (tyL cI cZ cG) (va_A (wX5 cI cZ cG h5 a5 (nI nr) (nI nt) (nI nc) (nI nw) hd (nI wk) (nI ng) (nI nT) mi (nI nf) (nI nn) mru mth mcl mfa mwa mfz mbl mbk mtr mno mlo mip mto) sz) ((fun (u : Nat × (Nat → Int32)) => wX5 cI cZ cG h5 a5 (nI u.1) (nI nt) (nI nc) (nI nw) hd (nI wk) (nI ng) (nI nT) mi (nI nf) (nI nn) u.2 mth mcl mfa mwa mfz mbl mbk mtr mno mlo mip mto) u)) (va_A (wX5 cI cZ cG h5 a5 (nI nr) (nI nt) (nI nc) (nI nw) hd (nI wk) (nI ng) (nI nT) mi (nI nf) (nI nn) mru mth mcl mfa mwa mfz mbl mbk mtr mno mlo mip mto) sz)) 0 0 (va_A (wX5 cI cZ cG h5 a5 (nI nr) (nI nt) (nI nc) (nI nw) hd (nI wk) (nI ng) (nI nT) mi (nI nf) (nI nn) mru mth mcl mfa mwa mfz mbl mbk mtr mno mlo mip mto) sz) := by
  refine K_start (cc := cX5_rule) (maxL := 4) (ret := some .int) (Qc := fun A => va_Qi (fun (r : Int32) (u : Nat × (Nat → Int32)) => r = rRule nr d q v ∧ u = if okRule d q v = true ∧ ¬ nr = 6 then (nr + 1, upd (upd (upd mru (3 * nr) d) (3 * nr + 1) q) (3 * nr + 2) v) else (nr, mru)) (fun u => QB D (tyL cI cZ cG) A ((fun (u : Nat × (Nat → Int32)) => wX5 cI cZ cG h5 a5 (nI u.1) (nI nt) (nI nc) (nI nw) hd (nI wk) (nI ng) (nI nT) mi (nI nf) (nI nn) u.2 mth mcl mfa mwa mfz mbl mbk mtr mno mlo mip mto) u)) A) (by decide) rfl (Nat.le_of_ble_eq_true rfl) ?_
  intro p e s m below meth c ls A hx hb hml hr hts hown hlocks hin hN hP hK hD hA hS hl hsz
  have hl : lv_has ls 4 [(0, .ref h5), (1, .int d), (2, .int q), (3, .int v)] := hl
  have fl62 := hts (.fieldLink RX5 62 "ModelTownModel" "rules" "I") (by decide +kernel)
  have fl7 := hts (.fieldLink RX5 7 "ModelTownModel" "rule" "[I") (by decide +kernel)
  refine lv_iload_n hx hb dX5_rule_0 rfl (lv_at hl 1 rfl) ?_
  refine K_none (va_runS (As := [.int d]) (rest := []) ⟨hx, hb, hml, hown, hts⟩ (c_X5_isDay l D cI cZ cG _ d) (va_cwS 1 hts gX5_rule_X5_isDay rfl rfl rfl (by decide +kernel) ⟨(Nat.le_of_ble_eq_true rfl), (Nat.le_of_ble_eq_true rfl)⟩) (K_pre0 hN hK) rfl rfl hl.1 rfl (lv_room (Nat.le_of_ble_eq_true rfl)) dX5_rule_1 ⟨Nat.zero_le _, Nat.zero_le _⟩) hP hS hA (fun r1 _ H locs hw1 hP hS => ?_)
  rcases hw1 with ⟨rfl, hw1⟩ | ⟨rfl, hw1⟩
  · skip
    refine lv_if_eq (tgt := 27) hx hb dX5_rule_4 (by decide) (fun c2 => absurd c2 (by decide)) (fun _ => ?_)
    refine lv_iload_n hx hb dX5_rule_7 rfl (lv_at hl 2 rfl) ?_
    refine lv_iconst (v := 2) hx hb dX5_rule_8 (by decide) ?_
    refine lv_bipush (v := 30) hx hb dX5_rule_9 (by decide) ?_
    refine K_none (va_runS (As := [.int q, .int 2, .int 30]) (rest := []) ⟨hx, hb, hml, hown, hts⟩ (c_X5_in l D cI cZ cG _ q 2 30) (va_cwS 3 hts gX5_rule_X5_in rfl rfl rfl (by decide +kernel) ⟨(Nat.le_of_ble_eq_true rfl), (Nat.le_of_ble_eq_true rfl)⟩) (K_pre0 hN hK) rfl rfl hl.1 rfl (lv_room (Nat.le_of_ble_eq_true rfl)) dX5_rule_11 ⟨Nat.zero_le _, Nat.zero_le _⟩) hP hS hA (fun r3 _ H locs hw3 hP hS => ?_)
    rcases hw3 with ⟨rfl, hw3⟩ | ⟨rfl, hw3⟩
    · skip
      refine lv_if_eq (tgt := 27) hx hb dX5_rule_14 (by decide) (fun c4 => absurd c4 (by decide)) (fun _ => ?_)
      refine lv_iload_n hx hb dX5_rule_17 rfl (lv_at hl 3 rfl) ?_
      refine lv_iconst (v := 0) hx hb dX5_rule_18 (by decide) ?_
      refine lv_bipush (v := 50) hx hb dX5_rule_19 (by decide) ?_
      refine K_none (va_runS (As := [.int v, .int 0, .int 50]) (rest := []) ⟨hx, hb, hml, hown, hts⟩ (c_X5_in l D cI cZ cG _ v 0 50) (va_cwS 3 hts gX5_rule_X5_in rfl rfl rfl (by decide +kernel) ⟨(Nat.le_of_ble_eq_true rfl), (Nat.le_of_ble_eq_true rfl)⟩) (K_pre0 hN hK) rfl rfl hl.1 rfl (lv_room (Nat.le_of_ble_eq_true rfl)) dX5_rule_21 ⟨Nat.zero_le _, Nat.zero_le _⟩) hP hS hA (fun r5 _ H locs hw5 hP hS => ?_)
      rcases hw5 with ⟨rfl, hw5⟩ | ⟨rfl, hw5⟩
      · skip
        refine lv_if_ne (tgt := 30) hx hb dX5_rule_24 (by decide) (fun _ => ?_) (fun c6 => absurd c6 (by decide))
        refine lv_aload_n hx hb dX5_rule_30 rfl (lv_at hl 0 rfl) ?_
        refine va_get (D := D) (ci := 5) (v := .int (nI nr)) (C := RX5) (T := TX5) (N := 24) hx hb hts inX5_rule hown hK hP 0 rfl rfl 0 (by decide) fl62 (fun _ h9 => h9) rfl dX5_rule_31 ?_
        refine lv_bipush (v := 6) hx hb dX5_rule_34 (by decide) ?_
        refine lv_icmp_ne (tgt := 42) hx hb dX5_rule_36 (by decide) (fun c7 => ?_) (fun c7 => ?_)
        · have c7 : ¬ nr = 6 := fun hq => c7 ((nI_eq (a := nr) (b := 6) (by omega) (by omega)).mpr hq)
          refine lv_aload_n hx hb dX5_rule_42 rfl (lv_at hl 0 rfl) ?_
          refine va_get (D := D) (ci := 5) (v := .ref (a5 0)) (C := RX5) (T := TX5) (N := 24) hx hb hts inX5_rule hown hK hP 0 rfl rfl 1 (by decide) fl7 (fun _ h9 => h9) rfl dX5_rule_43 ?_
          refine lv_iconst (v := 3) hx hb dX5_rule_46 (by decide) ?_
          refine lv_aload_n hx hb dX5_rule_47 rfl (lv_at hl 0 rfl) ?_
          refine va_get (D := D) (ci := 5) (v := .int (nI nr)) (C := RX5) (T := TX5) (N := 24) hx hb hts inX5_rule hown hK hP 0 rfl rfl 0 (by decide) fl62 (fun _ h9 => h9) rfl dX5_rule_48 ?_
          refine lv_imul hx hb dX5_rule_51 ?_
          refine lv_topi (fun z8 ez8 => ?_)
          obtain rfl : z8 = nI (3 * nr) := ez8.trans (pk_mul 3 nr)
          refine lv_iload_n hx hb dX5_rule_52 rfl (lv_at hl 1 rfl) ?_
          refine K_iast hx hb hK hP hD hS 1 0 rfl rfl (3 * nr) (by omega) (Nat.le_of_ble_eq_true rfl) dX5_rule_53 (fun H locs hP hD hS => ?_)
          have hP : va_P D vwCl (wX5 cI cZ cG h5 a5 (nI nr) (nI nt) (nI nc) (nI nw) hd (nI wk) (nI ng) (nI nT) mi (nI nf) (nI nn) (upd mru (3 * nr) d) mth mcl mfa mwa mfz mbl mbk mtr mno mlo mip mto) H := hP
          have hD : va_D A (wX5 cI cZ cG h5 a5 (nI nr) (nI nt) (nI nc) (nI nw) hd (nI wk) (nI ng) (nI nT) mi (nI nf) (nI nn) (upd mru (3 * nr) d) mth mcl mfa mwa mfz mbl mbk mtr mno mlo mip mto) := hD
          refine lv_aload_n hx hb dX5_rule_54 rfl (lv_at hl 0 rfl) ?_
          refine va_get (D := D) (ci := 5) (v := .ref (a5 0)) (C := RX5) (T := TX5) (N := 24) hx hb hts inX5_rule hown hK hP 0 rfl rfl 1 (by decide) fl7 (fun _ h9 => h9) rfl dX5_rule_55 ?_
          refine lv_iconst (v := 3) hx hb dX5_rule_58 (by decide) ?_
          refine lv_aload_n hx hb dX5_rule_59 rfl (lv_at hl 0 rfl) ?_
          refine va_get (D := D) (ci := 5) (v := .int (nI nr)) (C := RX5) (T := TX5) (N := 24) hx hb hts inX5_rule hown hK hP 0 rfl rfl 0 (by decide) fl62 (fun _ h9 => h9) rfl dX5_rule_60 ?_
          refine lv_imul hx hb dX5_rule_63 ?_
          refine lv_topi (fun z9 ez9 => ?_)
          obtain rfl : z9 = nI (3 * nr) := ez9.trans (pk_mul 3 nr)
          refine lv_iconst (v := 1) hx hb dX5_rule_64 (by decide) ?_
          refine lv_iadd hx hb dX5_rule_65 ?_
          refine lv_topi (fun z10 ez10 => ?_)
          obtain rfl : z10 = nI (3 * nr + 1) := ez10.trans ((nI_add (3 * nr) 1).trans (congrArg nI (by omega)))
          refine lv_iload_n hx hb dX5_rule_66 rfl (lv_at hl 2 rfl) ?_
          refine K_iast hx hb hK hP hD hS 1 0 rfl rfl (3 * nr + 1) (by omega) (Nat.le_of_ble_eq_true rfl) dX5_rule_67 (fun H locs hP hD hS => ?_)
          have hP : va_P D vwCl (wX5 cI cZ cG h5 a5 (nI nr) (nI nt) (nI nc) (nI nw) hd (nI wk) (nI ng) (nI nT) mi (nI nf) (nI nn) (upd (upd mru (3 * nr) d) (3 * nr + 1) q) mth mcl mfa mwa mfz mbl mbk mtr mno mlo mip mto) H := hP
          have hD : va_D A (wX5 cI cZ cG h5 a5 (nI nr) (nI nt) (nI nc) (nI nw) hd (nI wk) (nI ng) (nI nT) mi (nI nf) (nI nn) (upd (upd mru (3 * nr) d) (3 * nr + 1) q) mth mcl mfa mwa mfz mbl mbk mtr mno mlo mip mto) := hD
          refine lv_aload_n hx hb dX5_rule_68 rfl (lv_at hl 0 rfl) ?_
          refine va_get (D := D) (ci := 5) (v := .ref (a5 0)) (C := RX5) (T := TX5) (N := 24) hx hb hts inX5_rule hown hK hP 0 rfl rfl 1 (by decide) fl7 (fun _ h9 => h9) rfl dX5_rule_69 ?_
          refine lv_iconst (v := 3) hx hb dX5_rule_72 (by decide) ?_
          refine lv_aload_n hx hb dX5_rule_73 rfl (lv_at hl 0 rfl) ?_
          refine va_get (D := D) (ci := 5) (v := .int (nI nr)) (C := RX5) (T := TX5) (N := 24) hx hb hts inX5_rule hown hK hP 0 rfl rfl 0 (by decide) fl62 (fun _ h9 => h9) rfl dX5_rule_74 ?_
          refine lv_imul hx hb dX5_rule_77 ?_
          refine lv_topi (fun z11 ez11 => ?_)
          obtain rfl : z11 = nI (3 * nr) := ez11.trans (pk_mul 3 nr)
          refine lv_iconst (v := 2) hx hb dX5_rule_78 (by decide) ?_
          refine lv_iadd hx hb dX5_rule_79 ?_
          refine lv_topi (fun z12 ez12 => ?_)
          obtain rfl : z12 = nI (3 * nr + 2) := ez12.trans ((nI_add (3 * nr) 2).trans (congrArg nI (by omega)))
          refine lv_iload_n hx hb dX5_rule_80 rfl (lv_at hl 3 rfl) ?_
          refine K_iast hx hb hK hP hD hS 1 0 rfl rfl (3 * nr + 2) (by omega) (Nat.le_of_ble_eq_true rfl) dX5_rule_81 (fun H locs hP hD hS => ?_)
          have hP : va_P D vwCl (wX5 cI cZ cG h5 a5 (nI nr) (nI nt) (nI nc) (nI nw) hd (nI wk) (nI ng) (nI nT) mi (nI nf) (nI nn) (upd (upd (upd mru (3 * nr) d) (3 * nr + 1) q) (3 * nr + 2) v) mth mcl mfa mwa mfz mbl mbk mtr mno mlo mip mto) H := hP
          have hD : va_D A (wX5 cI cZ cG h5 a5 (nI nr) (nI nt) (nI nc) (nI nw) hd (nI wk) (nI ng) (nI nT) mi (nI nf) (nI nn) (upd (upd (upd mru (3 * nr) d) (3 * nr + 1) q) (3 * nr + 2) v) mth mcl mfa mwa mfz mbl mbk mtr mno mlo mip mto) := hD
          refine lv_aload_n hx hb dX5_rule_82 rfl (lv_at hl 0 rfl) ?_
          refine lv_dup hx hb dX5_rule_83 rfl ?_
          refine va_get (D := D) (ci := 5) (v := .int (nI nr)) (C := RX5) (T := TX5) (N := 24) hx hb hts inX5_rule hown hK hP 0 rfl rfl 0 (by decide) fl62 (fun _ h9 => h9) rfl dX5_rule_84 ?_
          refine lv_iconst (v := 1) hx hb dX5_rule_87 (by decide) ?_
          refine lv_iadd hx hb dX5_rule_88 ?_
          refine lv_topi (fun z13 ez13 => ?_)
          obtain rfl : z13 = nI (nr + 1) := ez13.trans (nI_add nr 1)
          refine va_put (D := D) (ci := 5) (v := .int (nI (nr + 1))) (ty := .int) (C := RX5) (T := TX5) (N := 24) hx hb hts inX5_rule tyX5 tyX5_ok nmX5 hown hK hP hD hS 0 rfl rfl 0 (by decide) fl62 (fun _ h9 => h9) rfl (by decide +kernel) rfl rfl (Nat.le_of_ble_eq_true rfl) dX5_rule_89 (fun H locs hP hD hS => ?_)
          have hP : va_P D vwCl (wX5 cI cZ cG h5 a5 (nI (nr + 1)) (nI nt) (nI nc) (nI nw) hd (nI wk) (nI ng) (nI nT) mi (nI nf) (nI nn) (upd (upd (upd mru (3 * nr) d) (3 * nr + 1) q) (3 * nr + 2) v) mth mcl mfa mwa mfz mbl mbk mtr mno mlo mip mto) H := hP
          have hD : va_D A (wX5 cI cZ cG h5 a5 (nI (nr + 1)) (nI nt) (nI nc) (nI nw) hd (nI wk) (nI ng) (nI nT) mi (nI nf) (nI nn) (upd (upd (upd mru (3 * nr) d) (3 * nr + 1) q) (3 * nr + 2) v) mth mcl mfa mwa mfz mbl mbk mtr mno mlo mip mto) := hD
          refine lv_aload_n hx hb dX5_rule_92 rfl (lv_at hl 0 rfl) ?_
          refine va_get (D := D) (ci := 5) (v := .int (nI (nr + 1))) (C := RX5) (T := TX5) (N := 24) hx hb hts inX5_rule hown hK hP 0 rfl rfl 0 (by decide) fl62 (fun _ h9 => h9) rfl dX5_rule_93 ?_
          exact K_iret (wf := (fun (u : Nat × (Nat → Int32)) => wX5 cI cZ cG h5 a5 (nI u.1) (nI nt) (nI nc) (nI nw) hd (nI wk) (nI ng) (nI nT) mi (nI nf) (nI nn) u.2 mth mcl mfa mwa mfz mbl mbk mtr mno mlo mip mto)) (nr + 1, upd (upd (upd mru (3 * nr) d) (3 * nr + 1) q) (3 * nr + 2) v) hx hb hr hlocks hP hK hD hS dX5_rule_96 (by simp [rRule, okRule, hw1, hw3, hw5, c7])
        · have c7 : nr = 6 := (nI_eq (a := nr) (b := 6) (by omega) (by omega)).mp c7
          refine lv_bipush (v := (-4)) hx hb dX5_rule_39 (by decide) ?_
          exact K_iret (wf := (fun (u : Nat × (Nat → Int32)) => wX5 cI cZ cG h5 a5 (nI u.1) (nI nt) (nI nc) (nI nw) hd (nI wk) (nI ng) (nI nT) mi (nI nf) (nI nn) u.2 mth mcl mfa mwa mfz mbl mbk mtr mno mlo mip mto)) (nr, mru) hx hb hr hlocks hP hK hD hS dX5_rule_41 (by simp [rRule, okRule, hw1, hw3, hw5, eq_true c7])
      · skip
        refine lv_if_ne (tgt := 30) hx hb dX5_rule_24 (by decide) (fun c14 => absurd c14 (by decide)) (fun _ => ?_)
        refine lv_bipush (v := (-2)) hx hb dX5_rule_27 (by decide) ?_
        exact K_iret (wf := (fun (u : Nat × (Nat → Int32)) => wX5 cI cZ cG h5 a5 (nI u.1) (nI nt) (nI nc) (nI nw) hd (nI wk) (nI ng) (nI nT) mi (nI nf) (nI nn) u.2 mth mcl mfa mwa mfz mbl mbk mtr mno mlo mip mto)) (nr, mru) hx hb hr hlocks hP hK hD hS dX5_rule_29 (by simp [rRule, okRule, hw1, hw3, hw5])
    · skip
      refine lv_if_eq (tgt := 27) hx hb dX5_rule_14 (by decide) (fun _ => ?_) (fun c15 => absurd c15 (by decide))
      refine lv_bipush (v := (-2)) hx hb dX5_rule_27 (by decide) ?_
      exact K_iret (wf := (fun (u : Nat × (Nat → Int32)) => wX5 cI cZ cG h5 a5 (nI u.1) (nI nt) (nI nc) (nI nw) hd (nI wk) (nI ng) (nI nT) mi (nI nf) (nI nn) u.2 mth mcl mfa mwa mfz mbl mbk mtr mno mlo mip mto)) (nr, mru) hx hb hr hlocks hP hK hD hS dX5_rule_29 (by simp [rRule, okRule, hw1, hw3])
  · skip
    refine lv_if_eq (tgt := 27) hx hb dX5_rule_4 (by decide) (fun _ => ?_) (fun c16 => absurd c16 (by decide))
    refine lv_bipush (v := (-2)) hx hb dX5_rule_27 (by decide) ?_
    exact K_iret (wf := (fun (u : Nat × (Nat → Int32)) => wX5 cI cZ cG h5 a5 (nI u.1) (nI nt) (nI nc) (nI nw) hd (nI wk) (nI ng) (nI nT) mi (nI nf) (nI nn) u.2 mth mcl mfa mwa mfz mbl mbk mtr mno mlo mip mto)) (nr, mru) hx hb hr hlocks hP hK hD hS dX5_rule_29 (by simp [rRule, okRule, hw1])
theorem inX5_thing : ∀ w ∈ wsX50, w ∈ wsX5_thing := by decide +kernel
set_option maxHeartbeats 8000000 in
set_option maxRecDepth 100000 in
/-- thing -/
theorem c_X5_thing (l : Launch) (D : va_G) (cI cZ cG : ClassId) (h5 : Nat) (a5 : Nat → Nat) (sz : Nat) (nr : Nat) (nt : Nat) (nc : Nat) (nw : Nat) (hd : Int32) (wk : Nat) (ng : Nat) (nT : Nat) (mi : Int32) (nf : Nat) (nn : Nat) (mru : Nat → Int32) (mth : Nat → Int32) (mcl : Nat → Int32) (mfa : Nat → Int32) (mwa : Nat → Int32) (mfz : Nat → Int32) (mbl : Nat → Int32) (mbk : Nat → Int32) (mtr : Nat → Int32) (mno : Nat → Int32) (mlo : Nat → Int32) (mip : Nat → Int32) (mto : Nat → Int32) (p0 : Int32) (q : Int32) (v : Int32) (g : Int32) (hnr : nr ≤ 6) (hnt : nt ≤ 20) (hnc : nc ≤ 60) (hnw : nw ≤ 24) (hwk : wk ≤ 200) (hng : ng ≤ 3) (hnT : nT ≤ 4) (hnf : nf ≤ 12) (hnn : nn ≤ 60) : Met l yX5_thing wsX5_thing ({ frames := 1, cells := 0, slots := 0, locals := 22 } : Room) (va_Pc [.ref h5, .int p0, .int q, .int v, .int g] (PB D (tyL cI cZ cG) (wX5 cI cZ cG h5 a5 (nI nr) (nI nt) (nI nc) (nI nw) hd (nI wk) (nI ng) (nI nT) mi (nI nf) (nI nn) mru mth mcl mfa mwa mfz mbl mbk mtr mno mlo mip mto) sz)) (va_Qi (fun (r : Int32) (u : Nat × (Nat → Int32)) => r = rThing nt p0 q v g ∧ u = if okThing p0 q v g = true ∧ ¬ nt = 20 then (nt + 1, upd (upd (upd (upd mth (4 * nt) p0) (4 * nt + 1) q) (4 * nt + 2) v) (4 * nt + 3) g) else (nt, mth)) (fun u => QB D (tyL cI cZ cG) (va_A (wX5 cI cZ cG h5 a5 (nI nr) (nI nt) (nI nc) (nI nw) hd (nI wk) (nI ng) (nI nT) mi (nI nf) (nI nn) mru mth mcl mfa mwa mfz mbl mbk mtr mno mlo mip mto) sz) ((fun (u : Nat × (Nat → Int32)) => wX5 cI cZ cG h5 a5 (nI nr) (nI u.1) (nI nc) (nI nw) hd (nI wk) (nI ng) (nI nT) mi (nI nf) (nI nn) mru u.2 mcl mfa mwa mfz mbl mbk mtr mno mlo mip mto) u)) (va_A (wX5 cI cZ cG h5 a5 (nI nr) (nI nt) (nI nc) (nI nw) hd (nI wk) (nI ng) (nI nT) mi (nI nf) (nI nn) mru mth mcl mfa mwa mfz mbl mbk mtr mno mlo mip mto) sz)) 0 0 (va_A (wX5 cI cZ cG h5 a5 (nI nr) (nI nt) (nI nc) (nI nw) hd (nI wk) (nI ng) (nI nT) mi (nI nf) (nI nn) mru mth mcl mfa mwa mfz mbl mbk mtr mno mlo mip mto) sz) := by
  refine K_start (cc := cX5_thing) (maxL := 5) (ret := some .int) (Qc := fun A => va_Qi (fun (r : Int32) (u : Nat × (Nat → Int32)) => r = rThing nt p0 q v g ∧ u = if okThing p0 q v g = true ∧ ¬ nt = 20 then (nt + 1, upd (upd (upd (upd mth (4 * nt) p0) (4 * nt + 1) q) (4 * nt + 2) v) (4 * nt + 3) g) else (nt, mth)) (fun u => QB D (tyL cI cZ cG) A ((fun (u : Nat × (Nat → Int32)) => wX5 cI cZ cG h5 a5 (nI nr) (nI u.1) (nI nc) (nI nw) hd (nI wk) (nI ng) (nI nT) mi (nI nf) (nI nn) mru u.2 mcl mfa mwa mfz mbl mbk mtr mno mlo mip mto) u)) A) (by decide) rfl (Nat.le_of_ble_eq_true rfl) ?_
  intro p e s m below meth c ls A hx hb hml hr hts hown hlocks hin hN hP hK hD hA hS hl hsz
  have hl : lv_has ls 5 [(0, .ref h5), (1, .int p0), (2, .int q), (3, .int v), (4, .int g)] := hl
  have fl70 := hts (.fieldLink RX5 70 "ModelTownModel" "things" "I") (by decide +kernel)
  have fl13 := hts (.fieldLink RX5 13 "ModelTownModel" "thing" "[I") (by decide +kernel)
  refine lv_iload_n hx hb dX5_thing_0 rfl (lv_at hl 1 rfl) ?_
  refine lv_iconst (v := 0) hx hb dX5_thing_1 (by decide) ?_
  refine lv_iconst (v := 2) hx hb dX5_thing_2 (by decide) ?_
  refine K_none (va_runS (As := [.int p0, .int 0, .int 2]) (rest := []) ⟨hx, hb, hml, hown, hts⟩ (c_X5_in l D cI cZ cG _ p0 0 2) (va_cwS 3 hts gX5_thing_X5_in rfl rfl rfl (by decide +kernel) ⟨(Nat.le_of_ble_eq_true rfl), (Nat.le_of_ble_eq_true rfl)⟩) (K_pre0 hN hK) rfl rfl hl.1 rfl (lv_room (Nat.le_of_ble_eq_true rfl)) dX5_thing_3 ⟨Nat.zero_le _, Nat.zero_le _⟩) hP hS hA (fun r1 _ H locs hw1 hP hS => ?_)
  rcases hw1 with ⟨rfl, hw1⟩ | ⟨rfl, hw1⟩
  · skip
    refine lv_if_eq (tgt := 42) hx hb dX5_thing_6 (by decide) (fun c2 => absurd c2 (by decide)) (fun _ => ?_)
    refine lv_iload_n hx hb dX5_thing_9 rfl (lv_at hl 2 rfl) ?_
    refine lv_bipush (v := 100) hx hb dX5_thing_10 (by decide) ?_
    refine lv_ldc (v := 60000) hx hb hown (hts (.constant RX5 69 60000) (by decide +kernel)) dX5_thing_12 ?_
    refine K_none (va_runS (As := [.int q, .int 100, .int 60000]) (rest := []) ⟨hx, hb, hml, hown, hts⟩ (c_X5_in l D cI cZ cG _ q 100 60000) (va_cwS 3 hts gX5_thing_X5_in rfl rfl rfl (by decide +kernel) ⟨(Nat.le_of_ble_eq_true rfl), (Nat.le_of_ble_eq_true rfl)⟩) (K_pre0 hN hK) rfl rfl hl.1 rfl (lv_room (Nat.le_of_ble_eq_true rfl)) dX5_thing_14 ⟨Nat.zero_le _, Nat.zero_le _⟩) hP hS hA (fun r3 _ H locs hw3 hP hS => ?_)
    rcases hw3 with ⟨rfl, hw3⟩ | ⟨rfl, hw3⟩
    · skip
      refine lv_if_eq (tgt := 42) hx hb dX5_thing_17 (by decide) (fun c4 => absurd c4 (by decide)) (fun _ => ?_)
      refine lv_iload_n hx hb dX5_thing_20 rfl (lv_at hl 3 rfl) ?_
      refine lv_iconst (v := 1) hx hb dX5_thing_21 (by decide) ?_
      refine lv_sipush (v := 9000) hx hb dX5_thing_22 (by decide) ?_
      refine K_none (va_runS (As := [.int v, .int 1, .int 9000]) (rest := []) ⟨hx, hb, hml, hown, hts⟩ (c_X5_in l D cI cZ cG _ v 1 9000) (va_cwS 3 hts gX5_thing_X5_in rfl rfl rfl (by decide +kernel) ⟨(Nat.le_of_ble_eq_true rfl), (Nat.le_of_ble_eq_true rfl)⟩) (K_pre0 hN hK) rfl rfl hl.1 rfl (lv_room (Nat.le_of_ble_eq_true rfl)) dX5_thing_25 ⟨Nat.zero_le _, Nat.zero_le _⟩) hP hS hA (fun r5 _ H locs hw5 hP hS => ?_)
      rcases hw5 with ⟨rfl, hw5⟩ | ⟨rfl, hw5⟩
      · skip
        refine lv_if_eq (tgt := 42) hx hb dX5_thing_28 (by decide) (fun c6 => absurd c6 (by decide)) (fun _ => ?_)
        refine lv_iload hx hb dX5_thing_31 (lv_at hl 4 rfl) ?_
        refine lv_iconst (v := 0) hx hb dX5_thing_33 (by decide) ?_
        refine lv_bipush (v := 50) hx hb dX5_thing_34 (by decide) ?_
        refine K_none (va_runS (As := [.int g, .int 0, .int 50]) (rest := []) ⟨hx, hb, hml, hown, hts⟩ (c_X5_in l D cI cZ cG _ g 0 50) (va_cwS 3 hts gX5_thing_X5_in rfl rfl rfl (by decide +kernel) ⟨(Nat.le_of_ble_eq_true rfl), (Nat.le_of_ble_eq_true rfl)⟩) (K_pre0 hN hK) rfl rfl hl.1 rfl (lv_room (Nat.le_of_ble_eq_true rfl)) dX5_thing_36 ⟨Nat.zero_le _, Nat.zero_le _⟩) hP hS hA (fun r7 _ H locs hw7 hP hS => ?_)
        rcases hw7 with ⟨rfl, hw7⟩ | ⟨rfl, hw7⟩
        · skip
          refine lv_if_ne (tgt := 45) hx hb dX5_thing_39 (by decide) (fun _ => ?_) (fun c8 => absurd c8 (by decide))
          refine lv_aload_n hx hb dX5_thing_45 rfl (lv_at hl 0 rfl) ?_
          refine va_get (D := D) (ci := 5) (v := .int (nI nt)) (C := RX5) (T := TX5) (N := 24) hx hb hts inX5_thing hown hK hP 0 rfl rfl 2 (by decide) fl70 (fun _ h9 => h9) rfl dX5_thing_46 ?_
          refine lv_bipush (v := 20) hx hb dX5_thing_49 (by decide) ?_
          refine lv_icmp_ne (tgt := 57) hx hb dX5_thing_51 (by decide) (fun c9 => ?_) (fun c9 => ?_)
          · have c9 : ¬ nt = 20 := fun hq => c9 ((nI_eq (a := nt) (b := 20) (by omega) (by omega)).mpr hq)
            refine lv_aload_n hx hb dX5_thing_57 rfl (lv_at hl 0 rfl) ?_
            refine va_get (D := D) (ci := 5) (v := .ref (a5 1)) (C := RX5) (T := TX5) (N := 24) hx hb hts inX5_thing hown hK hP 0 rfl rfl 3 (by decide) fl13 (fun _ h9 => h9) rfl dX5_thing_58 ?_
            refine lv_iconst (v := 4) hx hb dX5_thing_61 (by decide) ?_
            refine lv_aload_n hx hb dX5_thing_62 rfl (lv_at hl 0 rfl) ?_
            refine va_get (D := D) (ci := 5) (v := .int (nI nt)) (C := RX5) (T := TX5) (N := 24) hx hb hts inX5_thing hown hK hP 0 rfl rfl 2 (by decide) fl70 (fun _ h9 => h9) rfl dX5_thing_63 ?_
            refine lv_imul hx hb dX5_thing_66 ?_
            refine lv_topi (fun z10 ez10 => ?_)
            obtain rfl : z10 = nI (4 * nt) := ez10.trans (pk_mul 4 nt)
            refine lv_iload_n hx hb dX5_thing_67 rfl (lv_at hl 1 rfl) ?_
            refine K_iast hx hb hK hP hD hS 2 0 rfl rfl (4 * nt) (by omega) (Nat.le_of_ble_eq_true rfl) dX5_thing_68 (fun H locs hP hD hS => ?_)
            have hP : va_P D vwCl (wX5 cI cZ cG h5 a5 (nI nr) (nI nt) (nI nc) (nI nw) hd (nI wk) (nI ng) (nI nT) mi (nI nf) (nI nn) mru (upd mth (4 * nt) p0) mcl mfa mwa mfz mbl mbk mtr mno mlo mip mto) H := hP
            have hD : va_D A (wX5 cI cZ cG h5 a5 (nI nr) (nI nt) (nI nc) (nI nw) hd (nI wk) (nI ng) (nI nT) mi (nI nf) (nI nn) mru (upd mth (4 * nt) p0) mcl mfa mwa mfz mbl mbk mtr mno mlo mip mto) := hD
            refine lv_aload_n hx hb dX5_thing_69 rfl (lv_at hl 0 rfl) ?_
            refine va_get (D := D) (ci := 5) (v := .ref (a5 1)) (C := RX5) (T := TX5) (N := 24) hx hb hts inX5_thing hown hK hP 0 rfl rfl 3 (by decide) fl13 (fun _ h9 => h9) rfl dX5_thing_70 ?_
            refine lv_iconst (v := 4) hx hb dX5_thing_73 (by decide) ?_
            refine lv_aload_n hx hb dX5_thing_74 rfl (lv_at hl 0 rfl) ?_
            refine va_get (D := D) (ci := 5) (v := .int (nI nt)) (C := RX5) (T := TX5) (N := 24) hx hb hts inX5_thing hown hK hP 0 rfl rfl 2 (by decide) fl70 (fun _ h9 => h9) rfl dX5_thing_75 ?_
            refine lv_imul hx hb dX5_thing_78 ?_
            refine lv_topi (fun z11 ez11 => ?_)
            obtain rfl : z11 = nI (4 * nt) := ez11.trans (pk_mul 4 nt)
            refine lv_iconst (v := 1) hx hb dX5_thing_79 (by decide) ?_
            refine lv_iadd hx hb dX5_thing_80 ?_
            refine lv_topi (fun z12 ez12 => ?_)
            obtain rfl : z12 = nI (4 * nt + 1) := ez12.trans ((nI_add (4 * nt) 1).trans (congrArg nI (by omega)))
            refine lv_iload_n hx hb dX5_thing_81 rfl (lv_at hl 2 rfl) ?_
            refine K_iast hx hb hK hP hD hS 2 0 rfl rfl (4 * nt + 1) (by omega) (Nat.le_of_ble_eq_true rfl) dX5_thing_82 (fun H locs hP hD hS => ?_)
            have hP : va_P D vwCl (wX5 cI cZ cG h5 a5 (nI nr) (nI nt) (nI nc) (nI nw) hd (nI wk) (nI ng) (nI nT) mi (nI nf) (nI nn) mru (upd (upd mth (4 * nt) p0) (4 * nt + 1) q) mcl mfa mwa mfz mbl mbk mtr mno mlo mip mto) H := hP
            have hD : va_D A (wX5 cI cZ cG h5 a5 (nI nr) (nI nt) (nI nc) (nI nw) hd (nI wk) (nI ng) (nI nT) mi (nI nf) (nI nn) mru (upd (upd mth (4 * nt) p0) (4 * nt + 1) q) mcl mfa mwa mfz mbl mbk mtr mno mlo mip mto) := hD
            refine lv_aload_n hx hb dX5_thing_83 rfl (lv_at hl 0 rfl) ?_
            refine va_get (D := D) (ci := 5) (v := .ref (a5 1)) (C := RX5) (T := TX5) (N := 24) hx hb hts inX5_thing hown hK hP 0 rfl rfl 3 (by decide) fl13 (fun _ h9 => h9) rfl dX5_thing_84 ?_
            refine lv_iconst (v := 4) hx hb dX5_thing_87 (by decide) ?_
            refine lv_aload_n hx hb dX5_thing_88 rfl (lv_at hl 0 rfl) ?_
            refine va_get (D := D) (ci := 5) (v := .int (nI nt)) (C := RX5) (T := TX5) (N := 24) hx hb hts inX5_thing hown hK hP 0 rfl rfl 2 (by decide) fl70 (fun _ h9 => h9) rfl dX5_thing_89 ?_
            refine lv_imul hx hb dX5_thing_92 ?_
            refine lv_topi (fun z13 ez13 => ?_)
            obtain rfl : z13 = nI (4 * nt) := ez13.trans (pk_mul 4 nt)
            refine lv_iconst (v := 2) hx hb dX5_thing_93 (by decide) ?_
            refine lv_iadd hx hb dX5_thing_94 ?_
            refine lv_topi (fun z14 ez14 => ?_)
            obtain rfl : z14 = nI (4 * nt + 2) := ez14.trans ((nI_add (4 * nt) 2).trans (congrArg nI (by omega)))
            refine lv_iload_n hx hb dX5_thing_95 rfl (lv_at hl 3 rfl) ?_
            refine K_iast hx hb hK hP hD hS 2 0 rfl rfl (4 * nt + 2) (by omega) (Nat.le_of_ble_eq_true rfl) dX5_thing_96 (fun H locs hP hD hS => ?_)
            have hP : va_P D vwCl (wX5 cI cZ cG h5 a5 (nI nr) (nI nt) (nI nc) (nI nw) hd (nI wk) (nI ng) (nI nT) mi (nI nf) (nI nn) mru (upd (upd (upd mth (4 * nt) p0) (4 * nt + 1) q) (4 * nt + 2) v) mcl mfa mwa mfz mbl mbk mtr mno mlo mip mto) H := hP
            have hD : va_D A (wX5 cI cZ cG h5 a5 (nI nr) (nI nt) (nI nc) (nI nw) hd (nI wk) (nI ng) (nI nT) mi (nI nf) (nI nn) mru (upd (upd (upd mth (4 * nt) p0) (4 * nt + 1) q) (4 * nt + 2) v) mcl mfa mwa mfz mbl mbk mtr mno mlo mip mto) := hD
            refine lv_aload_n hx hb dX5_thing_97 rfl (lv_at hl 0 rfl) ?_
            refine va_get (D := D) (ci := 5) (v := .ref (a5 1)) (C := RX5) (T := TX5) (N := 24) hx hb hts inX5_thing hown hK hP 0 rfl rfl 3 (by decide) fl13 (fun _ h9 => h9) rfl dX5_thing_98 ?_
            refine lv_iconst (v := 4) hx hb dX5_thing_101 (by decide) ?_
            refine lv_aload_n hx hb dX5_thing_102 rfl (lv_at hl 0 rfl) ?_
            refine va_get (D := D) (ci := 5) (v := .int (nI nt)) (C := RX5) (T := TX5) (N := 24) hx hb hts inX5_thing hown hK hP 0 rfl rfl 2 (by decide) fl70 (fun _ h9 => h9) rfl dX5_thing_103 ?_
            refine lv_imul hx hb dX5_thing_106 ?_
            refine lv_topi (fun z15 ez15 => ?_)
            obtain rfl : z15 = nI (4 * nt) := ez15.trans (pk_mul 4 nt)
            refine lv_iconst (v := 3) hx hb dX5_thing_107 (by decide) ?_
            refine lv_iadd hx hb dX5_thing_108 ?_
            refine lv_topi (fun z16 ez16 => ?_)
            obtain rfl : z16 = nI (4 * nt + 3) := ez16.trans ((nI_add (4 * nt) 3).trans (congrArg nI (by omega)))
            refine lv_iload hx hb dX5_thing_109 (lv_at hl 4 rfl) ?_
            refine K_iast hx hb hK hP hD hS 2 0 rfl rfl (4 * nt + 3) (by omega) (Nat.le_of_ble_eq_true rfl) dX5_thing_111 (fun H locs hP hD hS => ?_)
            have hP : va_P D vwCl (wX5 cI cZ cG h5 a5 (nI nr) (nI nt) (nI nc) (nI nw) hd (nI wk) (nI ng) (nI nT) mi (nI nf) (nI nn) mru (upd (upd (upd (upd mth (4 * nt) p0) (4 * nt + 1) q) (4 * nt + 2) v) (4 * nt + 3) g) mcl mfa mwa mfz mbl mbk mtr mno mlo mip mto) H := hP
            have hD : va_D A (wX5 cI cZ cG h5 a5 (nI nr) (nI nt) (nI nc) (nI nw) hd (nI wk) (nI ng) (nI nT) mi (nI nf) (nI nn) mru (upd (upd (upd (upd mth (4 * nt) p0) (4 * nt + 1) q) (4 * nt + 2) v) (4 * nt + 3) g) mcl mfa mwa mfz mbl mbk mtr mno mlo mip mto) := hD
            refine lv_aload_n hx hb dX5_thing_112 rfl (lv_at hl 0 rfl) ?_
            refine lv_dup hx hb dX5_thing_113 rfl ?_
            refine va_get (D := D) (ci := 5) (v := .int (nI nt)) (C := RX5) (T := TX5) (N := 24) hx hb hts inX5_thing hown hK hP 0 rfl rfl 2 (by decide) fl70 (fun _ h9 => h9) rfl dX5_thing_114 ?_
            refine lv_iconst (v := 1) hx hb dX5_thing_117 (by decide) ?_
            refine lv_iadd hx hb dX5_thing_118 ?_
            refine lv_topi (fun z17 ez17 => ?_)
            obtain rfl : z17 = nI (nt + 1) := ez17.trans (nI_add nt 1)
            refine va_put (D := D) (ci := 5) (v := .int (nI (nt + 1))) (ty := .int) (C := RX5) (T := TX5) (N := 24) hx hb hts inX5_thing tyX5 tyX5_ok nmX5 hown hK hP hD hS 0 rfl rfl 2 (by decide) fl70 (fun _ h9 => h9) rfl (by decide +kernel) rfl rfl (Nat.le_of_ble_eq_true rfl) dX5_thing_119 (fun H locs hP hD hS => ?_)
            have hP : va_P D vwCl (wX5 cI cZ cG h5 a5 (nI nr) (nI (nt + 1)) (nI nc) (nI nw) hd (nI wk) (nI ng) (nI nT) mi (nI nf) (nI nn) mru (upd (upd (upd (upd mth (4 * nt) p0) (4 * nt + 1) q) (4 * nt + 2) v) (4 * nt + 3) g) mcl mfa mwa mfz mbl mbk mtr mno mlo mip mto) H := hP
            have hD : va_D A (wX5 cI cZ cG h5 a5 (nI nr) (nI (nt + 1)) (nI nc) (nI nw) hd (nI wk) (nI ng) (nI nT) mi (nI nf) (nI nn) mru (upd (upd (upd (upd mth (4 * nt) p0) (4 * nt + 1) q) (4 * nt + 2) v) (4 * nt + 3) g) mcl mfa mwa mfz mbl mbk mtr mno mlo mip mto) := hD
            refine lv_aload_n hx hb dX5_thing_122 rfl (lv_at hl 0 rfl) ?_
            refine va_get (D := D) (ci := 5) (v := .int (nI (nt + 1))) (C := RX5) (T := TX5) (N := 24) hx hb hts inX5_thing hown hK hP 0 rfl rfl 2 (by decide) fl70 (fun _ h9 => h9) rfl dX5_thing_123 ?_
            refine lv_iconst (v := 1) hx hb dX5_thing_126 (by decide) ?_
            refine lv_isub hx hb dX5_thing_127 ?_
            refine lv_topi (fun z18 ez18 => ?_)
            obtain rfl : z18 = nI nt := ez18.trans (nI_pred nt)
            exact K_iret (wf := (fun (u : Nat × (Nat → Int32)) => wX5 cI cZ cG h5 a5 (nI nr) (nI u.1) (nI nc) (nI nw) hd (nI wk) (nI ng) (nI nT) mi (nI nf) (nI nn) mru u.2 mcl mfa mwa mfz mbl mbk mtr mno mlo mip mto)) (nt + 1, upd (upd (upd (upd mth (4 * nt) p0) (4 * nt + 1) q) (4 * nt + 2) v) (4 * nt + 3) g) hx hb hr hlocks hP hK hD hS dX5_thing_128 (by simp [rThing, okThing, hw1, hw3, hw5, hw7, c9])
          · have c9 : nt = 20 := (nI_eq (a := nt) (b := 20) (by omega) (by omega)).mp c9
            refine lv_bipush (v := (-4)) hx hb dX5_thing_54 (by decide) ?_
            exact K_iret (wf := (fun (u : Nat × (Nat → Int32)) => wX5 cI cZ cG h5 a5 (nI nr) (nI u.1) (nI nc) (nI nw) hd (nI wk) (nI ng) (nI nT) mi (nI nf) (nI nn) mru u.2 mcl mfa mwa mfz mbl mbk mtr mno mlo mip mto)) (nt, mth) hx hb hr hlocks hP hK hD hS dX5_thing_56 (by simp [rThing, okThing, hw1, hw3, hw5, hw7, eq_true c9])
        · skip
          refine lv_if_ne (tgt := 45) hx hb dX5_thing_39 (by decide) (fun c19 => absurd c19 (by decide)) (fun _ => ?_)
          refine lv_bipush (v := (-2)) hx hb dX5_thing_42 (by decide) ?_
          exact K_iret (wf := (fun (u : Nat × (Nat → Int32)) => wX5 cI cZ cG h5 a5 (nI nr) (nI u.1) (nI nc) (nI nw) hd (nI wk) (nI ng) (nI nT) mi (nI nf) (nI nn) mru u.2 mcl mfa mwa mfz mbl mbk mtr mno mlo mip mto)) (nt, mth) hx hb hr hlocks hP hK hD hS dX5_thing_44 (by simp [rThing, okThing, hw1, hw3, hw5, hw7])
      · skip
        refine lv_if_eq (tgt := 42) hx hb dX5_thing_28 (by decide) (fun _ => ?_) (fun c20 => absurd c20 (by decide))
        refine lv_bipush (v := (-2)) hx hb dX5_thing_42 (by decide) ?_
        exact K_iret (wf := (fun (u : Nat × (Nat → Int32)) => wX5 cI cZ cG h5 a5 (nI nr) (nI u.1) (nI nc) (nI nw) hd (nI wk) (nI ng) (nI nT) mi (nI nf) (nI nn) mru u.2 mcl mfa mwa mfz mbl mbk mtr mno mlo mip mto)) (nt, mth) hx hb hr hlocks hP hK hD hS dX5_thing_44 (by simp [rThing, okThing, hw1, hw3, hw5])
    · skip
      refine lv_if_eq (tgt := 42) hx hb dX5_thing_17 (by decide) (fun _ => ?_) (fun c21 => absurd c21 (by decide))
      refine lv_bipush (v := (-2)) hx hb dX5_thing_42 (by decide) ?_
      exact K_iret (wf := (fun (u : Nat × (Nat → Int32)) => wX5 cI cZ cG h5 a5 (nI nr) (nI u.1) (nI nc) (nI nw) hd (nI wk) (nI ng) (nI nT) mi (nI nf) (nI nn) mru u.2 mcl mfa mwa mfz mbl mbk mtr mno mlo mip mto)) (nt, mth) hx hb hr hlocks hP hK hD hS dX5_thing_44 (by simp [rThing, okThing, hw1, hw3])
  · skip
    refine lv_if_eq (tgt := 42) hx hb dX5_thing_6 (by decide) (fun _ => ?_) (fun c22 => absurd c22 (by decide))
    refine lv_bipush (v := (-2)) hx hb dX5_thing_42 (by decide) ?_
    exact K_iret (wf := (fun (u : Nat × (Nat → Int32)) => wX5 cI cZ cG h5 a5 (nI nr) (nI u.1) (nI nc) (nI nw) hd (nI wk) (nI ng) (nI nT) mi (nI nf) (nI nn) mru u.2 mcl mfa mwa mfz mbl mbk mtr mno mlo mip mto)) (nt, mth) hx hb hr hlocks hP hK hD hS dX5_thing_44 (by simp [rThing, okThing, hw1])
theorem inX5_clip : ∀ w ∈ wsX50, w ∈ wsX5_clip := by decide +kernel
set_option maxHeartbeats 8000000 in
set_option maxRecDepth 100000 in
/-- clip -/
theorem c_X5_clip (l : Launch) (D : va_G) (cI cZ cG : ClassId) (h5 : Nat) (a5 : Nat → Nat) (sz : Nat) (nr : Nat) (nt : Nat) (nc : Nat) (nw : Nat) (hd : Int32) (wk : Nat) (ng : Nat) (nT : Nat) (mi : Int32) (nf : Nat) (nn : Nat) (mru : Nat → Int32) (mth : Nat → Int32) (mcl : Nat → Int32) (mfa : Nat → Int32) (mwa : Nat → Int32) (mfz : Nat → Int32) (mbl : Nat → Int32) (mbk : Nat → Int32) (mtr : Nat → Int32) (mno : Nat → Int32) (mlo : Nat → Int32) (mip : Nat → Int32) (mto : Nat → Int32) (x : Int32) (d : Int32) (v : Int32) (hnr : nr ≤ 6) (hnt : nt ≤ 20) (hnc : nc ≤ 60) (hnw : nw ≤ 24) (hwk : wk ≤ 200) (hng : ng ≤ 3) (hnT : nT ≤ 4) (hnf : nf ≤ 12) (hnn : nn ≤ 60) : Met l yX5_clip wsX5_clip ({ frames := 2, cells := 0, slots := 0, locals := 43 } : Room) (va_Pc [.ref h5, .int x, .int d, .int v] (PB D (tyL cI cZ cG) (wX5 cI cZ cG h5 a5 (nI nr) (nI nt) (nI nc) (nI nw) hd (nI wk) (nI ng) (nI nT) mi (nI nf) (nI nn) mru mth mcl mfa mwa mfz mbl mbk mtr mno mlo mip mto) sz)) (va_Qi (fun (r : Int32) (u : Nat × (Nat → Int32)) => r = rClipM nt nc mth mcl x d v ∧ u = if okClipM nt nc mth mcl x d v = true then (nc + 1, upd (upd (upd mcl (3 * nc) x) (3 * nc + 1) d) (3 * nc + 2) v) else (nc, mcl)) (fun u => QB D (tyL cI cZ cG) (va_A (wX5 cI cZ cG h5 a5 (nI nr) (nI nt) (nI nc) (nI nw) hd (nI wk) (nI ng) (nI nT) mi (nI nf) (nI nn) mru mth mcl mfa mwa mfz mbl mbk mtr mno mlo mip mto) sz) ((fun (u : Nat × (Nat → Int32)) => wX5 cI cZ cG h5 a5 (nI nr) (nI nt) (nI u.1) (nI nw) hd (nI wk) (nI ng) (nI nT) mi (nI nf) (nI nn) mru mth u.2 mfa mwa mfz mbl mbk mtr mno mlo mip mto) u)) (va_A (wX5 cI cZ cG h5 a5 (nI nr) (nI nt) (nI nc) (nI nw) hd (nI wk) (nI ng) (nI nT) mi (nI nf) (nI nn) mru mth mcl mfa mwa mfz mbl mbk mtr mno mlo mip mto) sz)) 0 0 (va_A (wX5 cI cZ cG h5 a5 (nI nr) (nI nt) (nI nc) (nI nw) hd (nI wk) (nI ng) (nI nT) mi (nI nf) (nI nn) mru mth mcl mfa mwa mfz mbl mbk mtr mno mlo mip mto) sz) := by
  refine K_start (cc := cX5_clip) (maxL := 5) (ret := some .int) (Qc := fun A => va_Qi (fun (r : Int32) (u : Nat × (Nat → Int32)) => r = rClipM nt nc mth mcl x d v ∧ u = if okClipM nt nc mth mcl x d v = true then (nc + 1, upd (upd (upd mcl (3 * nc) x) (3 * nc + 1) d) (3 * nc + 2) v) else (nc, mcl)) (fun u => QB D (tyL cI cZ cG) A ((fun (u : Nat × (Nat → Int32)) => wX5 cI cZ cG h5 a5 (nI nr) (nI nt) (nI u.1) (nI nw) hd (nI wk) (nI ng) (nI nT) mi (nI nf) (nI nn) mru mth u.2 mfa mwa mfz mbl mbk mtr mno mlo mip mto) u)) A) (by decide) rfl (Nat.le_of_ble_eq_true rfl) ?_
  intro p e s m below meth c ls A hx hb hml hr hts hown hlocks hin hN hP hK hD hA hS hl hsz
  have hl : lv_has ls 5 [(0, .ref h5), (1, .int x), (2, .int d), (3, .int v)] := hl
  have fl13 := hts (.fieldLink RX5 13 "ModelTownModel" "thing" "[I") (by decide +kernel)
  have fl73 := hts (.fieldLink RX5 73 "ModelTownModel" "clips" "I") (by decide +kernel)
  have fl16 := hts (.fieldLink RX5 16 "ModelTownModel" "clip" "[I") (by decide +kernel)
  refine lv_aload_n hx hb dX5_clip_0 rfl (lv_at hl 0 rfl) ?_
  refine lv_iload_n hx hb dX5_clip_1 rfl (lv_at hl 1 rfl) ?_
  refine K_same (va_runV (As := [.int x]) (rest := []) ⟨hx, hb, hml, hown, hts⟩ (c_X5_isThing l D cI cZ cG h5 a5 _ nr nt nc nw hd wk ng nT mi nf nn mru mth mcl mfa mwa mfz mbl mbk mtr mno mlo mip mto x hnr hnt hnc hnw hwk hng hnT hnf hnn) (cwV 1 hts gX5_clip_X5_isThing rfl rfl rfl (by decide +kernel) ⟨(Nat.le_of_ble_eq_true rfl), (Nat.le_of_ble_eq_true rfl)⟩) ⟨PB_blind, va_recv hK hP (ci := 5) (q0 := 0) rfl rfl, (K_preS hN hK hP hD).2⟩ rfl rfl hl.1 rfl (lv_room (Nat.le_of_ble_eq_true rfl)) dX5_clip_2 ⟨Nat.zero_le _, Nat.zero_le _⟩) hD hS hA (fun r1 u H locs hw1 hP hD hS => ?_)
  have hP : va_P D vwCl (wX5 cI cZ cG h5 a5 (nI nr) (nI nt) (nI nc) (nI nw) hd (nI wk) (nI ng) (nI nT) mi (nI nf) (nI nn) mru mth mcl mfa mwa mfz mbl mbk mtr mno mlo mip mto) H := hP
  have hD : va_D A (wX5 cI cZ cG h5 a5 (nI nr) (nI nt) (nI nc) (nI nw) hd (nI wk) (nI ng) (nI nT) mi (nI nf) (nI nn) mru mth mcl mfa mwa mfz mbl mbk mtr mno mlo mip mto) := hD
  rcases hw1 with ⟨rfl, hw1⟩ | ⟨rfl, hw1⟩
  · obtain ⟨t, ht, rfl⟩ := inR_lt (by omega) hw1
    have hct : (nI t).toNatClampNeg = t := nI_clamp (by omega)
    refine lv_if_ne (tgt := 10) hx hb dX5_clip_5 (by decide) (fun _ => ?_) (fun c2 => absurd c2 (by decide))
    refine lv_iload_n hx hb dX5_clip_10 rfl (lv_at hl 2 rfl) ?_
    refine K_none (va_runS (As := [.int d]) (rest := []) ⟨hx, hb, hml, hown, hts⟩ (c_X5_isDay l D cI cZ cG _ d) (va_cwS 1 hts gX5_clip_X5_isDay rfl rfl rfl (by decide +kernel) ⟨(Nat.le_of_ble_eq_true rfl), (Nat.le_of_ble_eq_true rfl)⟩) (K_pre0 hN hK) rfl rfl hl.1 rfl (lv_room (Nat.le_of_ble_eq_true rfl)) dX5_clip_11 ⟨Nat.zero_le _, Nat.zero_le _⟩) hP hS hA (fun r3 _ H locs hw3 hP hS => ?_)
    rcases hw3 with ⟨rfl, hw3⟩ | ⟨rfl, hw3⟩
    · skip
      refine lv_if_eq (tgt := 28) hx hb dX5_clip_14 (by decide) (fun c4 => absurd c4 (by decide)) (fun _ => ?_)
      refine lv_iload_n hx hb dX5_clip_17 rfl (lv_at hl 3 rfl) ?_
      refine lv_iconst (v := 1) hx hb dX5_clip_18 (by decide) ?_
      refine lv_sipush (v := 9000) hx hb dX5_clip_19 (by decide) ?_
      refine K_none (va_runS (As := [.int v, .int 1, .int 9000]) (rest := []) ⟨hx, hb, hml, hown, hts⟩ (c_X5_in l D cI cZ cG _ v 1 9000) (va_cwS 3 hts gX5_clip_X5_in rfl rfl rfl (by decide +kernel) ⟨(Nat.le_of_ble_eq_true rfl), (Nat.le_of_ble_eq_true rfl)⟩) (K_pre0 hN hK) rfl rfl hl.1 rfl (lv_room (Nat.le_of_ble_eq_true rfl)) dX5_clip_22 ⟨Nat.zero_le _, Nat.zero_le _⟩) hP hS hA (fun r5 _ H locs hw5 hP hS => ?_)
      rcases hw5 with ⟨rfl, hw5⟩ | ⟨rfl, hw5⟩
      · skip
        refine lv_if_ne (tgt := 31) hx hb dX5_clip_25 (by decide) (fun _ => ?_) (fun c6 => absurd c6 (by decide))
        refine lv_aload_n hx hb dX5_clip_31 rfl (lv_at hl 0 rfl) ?_
        refine va_get (D := D) (ci := 5) (v := .ref (a5 1)) (C := RX5) (T := TX5) (N := 24) hx hb hts inX5_clip hown hK hP 0 rfl rfl 3 (by decide) fl13 (fun _ h9 => h9) rfl dX5_clip_32 ?_
        refine lv_iconst (v := 4) hx hb dX5_clip_35 (by decide) ?_
        refine lv_iload_n hx hb dX5_clip_36 rfl (lv_at hl 1 rfl) ?_
        refine lv_imul hx hb dX5_clip_37 ?_
        refine lv_topi (fun z7 ez7 => ?_)
        obtain rfl : z7 = nI (4 * t) := ez7.trans (pk_mul 4 t)
        refine K_iald hx hb hK hP 2 0 rfl rfl (4 * t) (by omega) (Nat.le_of_ble_eq_true rfl) dX5_clip_38 ?_
        refine lv_iconst (v := 1) hx hb dX5_clip_39 (by decide) ?_
        refine lv_icmp_eq (tgt := 46) hx hb dX5_clip_40 (by decide) (fun c8 => ?_) (fun c8 => ?_)
        · refine lv_aload_n hx hb dX5_clip_46 rfl (lv_at hl 0 rfl) ?_
          refine va_get (D := D) (ci := 5) (v := .int (nI nc)) (C := RX5) (T := TX5) (N := 24) hx hb hts inX5_clip hown hK hP 0 rfl rfl 4 (by decide) fl73 (fun _ h9 => h9) rfl dX5_clip_47 ?_
          refine lv_bipush (v := 60) hx hb dX5_clip_50 (by decide) ?_
          refine lv_icmp_ne (tgt := 58) hx hb dX5_clip_52 (by decide) (fun c9 => ?_) (fun c9 => ?_)
          · have c9 : ¬ nc = 60 := fun hq => c9 ((nI_eq (a := nc) (b := 60) (by omega) (by omega)).mpr hq)
            refine lv_iconst (v := 0) hx hb dX5_clip_58 (by decide) ?_
            refine lv_istore (lv' := [(4, .int 0), (0, .ref h5), (1, .int (nI t)), (2, .int d), (3, .int v)]) hx hb dX5_clip_59 hl (by decide) rfl (fun ls hl => ?_)
            refine loopW1 (fun (k : Nat) H locs ls => (k ≤ nc) ∧ (∀ j, j < k → ¬ (mcl (3 * j) = nI t ∧ ¬ mcl (3 * j + 1) ≤ d)) ∧ va_P D vwCl (wX5 cI cZ cG h5 a5 (nI nr) (nI nt) (nI nc) (nI nw) hd (nI wk) (nI ng) (nI nT) mi (nI nf) (nI nn) mru mth mcl mfa mwa mfz mbl mbk mtr mno mlo mip mto) H ∧ va_D A (wX5 cI cZ cG h5 a5 (nI nr) (nI nt) (nI nc) (nI nw) hd (nI wk) (nI ng) (nI nT) mi (nI nf) (nI nn) mru mth mcl mfa mwa mfz mbl mbk mtr mno mlo mip mto) ∧ va_S A s.heap H locs ∧ lv_has ls 5 [(4, .int (nI k)), (0, .ref h5), (1, .int (nI t)), (2, .int d), (3, .int v)]) (fun (k : Nat) => nc - k) (fun k H locs ls hI ih61 => ?_) 0 _ _ _ ⟨(by omega), (fun j hj => absurd hj (by omega)), hP, hD, hS, lv_sub hl [0, 1, 2, 3, 4] rfl⟩
            obtain ⟨hk, hz, hP, hD, hS, hl⟩ := hI
            refine lv_iload hx hb dX5_clip_61 (lv_at hl 0 rfl) ?_
            refine lv_aload_n hx hb dX5_clip_63 rfl (lv_at hl 1 rfl) ?_
            refine va_get (D := D) (ci := 5) (v := .int (nI nc)) (C := RX5) (T := TX5) (N := 24) hx hb hts inX5_clip hown hK hP 0 rfl rfl 4 (by decide) fl73 (fun _ h9 => h9) rfl dX5_clip_64 ?_
            refine lv_icmp_ge (tgt := 107) hx hb dX5_clip_67 (by decide) (fun c10 => ?_) (fun c10 => ?_)
            · have c10 : nc ≤ k := (nI_leI (a := nc) (b := k) (by omega) (by omega)).mp c10
              have ek : k = nc := by omega
              rw [ek] at hz
              have hlate := lateM_f hz
              refine lv_aload_n hx hb dX5_clip_107 rfl (lv_at hl 1 rfl) ?_
              refine lv_iload_n hx hb dX5_clip_108 rfl (lv_at hl 2 rfl) ?_
              refine lv_iload_n hx hb dX5_clip_109 rfl (lv_at hl 3 rfl) ?_
              refine K_same (va_runV (As := [.int (nI t), .int d]) (rest := []) ⟨hx, hb, hml, hown, hts⟩ (c_X5_sizeOn l D cI cZ cG h5 a5 _ nr nt nc nw hd wk ng nT mi nf nn mru mth mcl mfa mwa mfz mbl mbk mtr mno mlo mip mto t d hnr hnt hnc hnw hwk hng hnT hnf hnn (by omega)) (cwV 2 hts gX5_clip_X5_sizeOn rfl rfl rfl (by decide +kernel) ⟨(Nat.le_of_ble_eq_true rfl), (Nat.le_of_ble_eq_true rfl)⟩) ⟨PB_blind, va_recv hK hP (ci := 5) (q0 := 0) rfl rfl, (K_preS hN hK hP hD).2⟩ rfl rfl hl.1 rfl (lv_room (Nat.le_of_ble_eq_true rfl)) dX5_clip_110 ⟨Nat.zero_le _, Nat.zero_le _⟩) hD hS hA (fun r11 u H locs hw11 hP hD hS => ?_)
              have hP : va_P D vwCl (wX5 cI cZ cG h5 a5 (nI nr) (nI nt) (nI nc) (nI nw) hd (nI wk) (nI ng) (nI nT) mi (nI nf) (nI nn) mru mth mcl mfa mwa mfz mbl mbk mtr mno mlo mip mto) H := hP
              have hD : va_D A (wX5 cI cZ cG h5 a5 (nI nr) (nI nt) (nI nc) (nI nw) hd (nI wk) (nI ng) (nI nT) mi (nI nf) (nI nn) mru mth mcl mfa mwa mfz mbl mbk mtr mno mlo mip mto) := hD
              obtain rfl := hw11
              refine lv_istore (lv' := [(4, .int (szM nc mth mcl t d)), (0, .ref h5), (1, .int (nI t)), (2, .int d), (3, .int v)]) hx hb dX5_clip_113 hl (by decide) rfl (fun ls hl => ?_)
              refine lv_aload_n hx hb dX5_clip_115 rfl (lv_at hl 1 rfl) ?_
              refine va_get (D := D) (ci := 5) (v := .ref (a5 2)) (C := RX5) (T := TX5) (N := 24) hx hb hts inX5_clip hown hK hP 0 rfl rfl 5 (by decide) fl16 (fun _ h9 => h9) rfl dX5_clip_116 ?_
              refine lv_iconst (v := 3) hx hb dX5_clip_119 (by decide) ?_
              refine lv_aload_n hx hb dX5_clip_120 rfl (lv_at hl 1 rfl) ?_
              refine va_get (D := D) (ci := 5) (v := .int (nI nc)) (C := RX5) (T := TX5) (N := 24) hx hb hts inX5_clip hown hK hP 0 rfl rfl 4 (by decide) fl73 (fun _ h9 => h9) rfl dX5_clip_121 ?_
              refine lv_imul hx hb dX5_clip_124 ?_
              refine lv_topi (fun z12 ez12 => ?_)
              obtain rfl : z12 = nI (3 * nc) := ez12.trans (pk_mul 3 nc)
              refine lv_iload_n hx hb dX5_clip_125 rfl (lv_at hl 2 rfl) ?_
              refine K_iast hx hb hK hP hD hS 3 0 rfl rfl (3 * nc) (by omega) (Nat.le_of_ble_eq_true rfl) dX5_clip_126 (fun H locs hP hD hS => ?_)
              have hP : va_P D vwCl (wX5 cI cZ cG h5 a5 (nI nr) (nI nt) (nI nc) (nI nw) hd (nI wk) (nI ng) (nI nT) mi (nI nf) (nI nn) mru mth (upd mcl (3 * nc) (nI t)) mfa mwa mfz mbl mbk mtr mno mlo mip mto) H := hP
              have hD : va_D A (wX5 cI cZ cG h5 a5 (nI nr) (nI nt) (nI nc) (nI nw) hd (nI wk) (nI ng) (nI nT) mi (nI nf) (nI nn) mru mth (upd mcl (3 * nc) (nI t)) mfa mwa mfz mbl mbk mtr mno mlo mip mto) := hD
              refine lv_aload_n hx hb dX5_clip_127 rfl (lv_at hl 1 rfl) ?_
              refine va_get (D := D) (ci := 5) (v := .ref (a5 2)) (C := RX5) (T := TX5) (N := 24) hx hb hts inX5_clip hown hK hP 0 rfl rfl 5 (by decide) fl16 (fun _ h9 => h9) rfl dX5_clip_128 ?_
              refine lv_iconst (v := 3) hx hb dX5_clip_131 (by decide) ?_
              refine lv_aload_n hx hb dX5_clip_132 rfl (lv_at hl 1 rfl) ?_
              refine va_get (D := D) (ci := 5) (v := .int (nI nc)) (C := RX5) (T := TX5) (N := 24) hx hb hts inX5_clip hown hK hP 0 rfl rfl 4 (by decide) fl73 (fun _ h9 => h9) rfl dX5_clip_133 ?_
              refine lv_imul hx hb dX5_clip_136 ?_
              refine lv_topi (fun z13 ez13 => ?_)
              obtain rfl : z13 = nI (3 * nc) := ez13.trans (pk_mul 3 nc)
              refine lv_iconst (v := 1) hx hb dX5_clip_137 (by decide) ?_
              refine lv_iadd hx hb dX5_clip_138 ?_
              refine lv_topi (fun z14 ez14 => ?_)
              obtain rfl : z14 = nI (3 * nc + 1) := ez14.trans ((nI_add (3 * nc) 1).trans (congrArg nI (by omega)))
              refine lv_iload_n hx hb dX5_clip_139 rfl (lv_at hl 3 rfl) ?_
              refine K_iast hx hb hK hP hD hS 3 0 rfl rfl (3 * nc + 1) (by omega) (Nat.le_of_ble_eq_true rfl) dX5_clip_140 (fun H locs hP hD hS => ?_)
              have hP : va_P D vwCl (wX5 cI cZ cG h5 a5 (nI nr) (nI nt) (nI nc) (nI nw) hd (nI wk) (nI ng) (nI nT) mi (nI nf) (nI nn) mru mth (upd (upd mcl (3 * nc) (nI t)) (3 * nc + 1) d) mfa mwa mfz mbl mbk mtr mno mlo mip mto) H := hP
              have hD : va_D A (wX5 cI cZ cG h5 a5 (nI nr) (nI nt) (nI nc) (nI nw) hd (nI wk) (nI ng) (nI nT) mi (nI nf) (nI nn) mru mth (upd (upd mcl (3 * nc) (nI t)) (3 * nc + 1) d) mfa mwa mfz mbl mbk mtr mno mlo mip mto) := hD
              refine lv_aload_n hx hb dX5_clip_141 rfl (lv_at hl 1 rfl) ?_
              refine va_get (D := D) (ci := 5) (v := .ref (a5 2)) (C := RX5) (T := TX5) (N := 24) hx hb hts inX5_clip hown hK hP 0 rfl rfl 5 (by decide) fl16 (fun _ h9 => h9) rfl dX5_clip_142 ?_
              refine lv_iconst (v := 3) hx hb dX5_clip_145 (by decide) ?_
              refine lv_aload_n hx hb dX5_clip_146 rfl (lv_at hl 1 rfl) ?_
              refine va_get (D := D) (ci := 5) (v := .int (nI nc)) (C := RX5) (T := TX5) (N := 24) hx hb hts inX5_clip hown hK hP 0 rfl rfl 4 (by decide) fl73 (fun _ h9 => h9) rfl dX5_clip_147 ?_
              refine lv_imul hx hb dX5_clip_150 ?_
              refine lv_topi (fun z15 ez15 => ?_)
              obtain rfl : z15 = nI (3 * nc) := ez15.trans (pk_mul 3 nc)
              refine lv_iconst (v := 2) hx hb dX5_clip_151 (by decide) ?_
              refine lv_iadd hx hb dX5_clip_152 ?_
              refine lv_topi (fun z16 ez16 => ?_)
              obtain rfl : z16 = nI (3 * nc + 2) := ez16.trans ((nI_add (3 * nc) 2).trans (congrArg nI (by omega)))
              refine lv_iload_n hx hb dX5_clip_153 rfl (lv_at hl 4 rfl) ?_
              refine K_iast hx hb hK hP hD hS 3 0 rfl rfl (3 * nc + 2) (by omega) (Nat.le_of_ble_eq_true rfl) dX5_clip_154 (fun H locs hP hD hS => ?_)
              have hP : va_P D vwCl (wX5 cI cZ cG h5 a5 (nI nr) (nI nt) (nI nc) (nI nw) hd (nI wk) (nI ng) (nI nT) mi (nI nf) (nI nn) mru mth (upd (upd (upd mcl (3 * nc) (nI t)) (3 * nc + 1) d) (3 * nc + 2) v) mfa mwa mfz mbl mbk mtr mno mlo mip mto) H := hP
              have hD : va_D A (wX5 cI cZ cG h5 a5 (nI nr) (nI nt) (nI nc) (nI nw) hd (nI wk) (nI ng) (nI nT) mi (nI nf) (nI nn) mru mth (upd (upd (upd mcl (3 * nc) (nI t)) (3 * nc + 1) d) (3 * nc + 2) v) mfa mwa mfz mbl mbk mtr mno mlo mip mto) := hD
              refine lv_aload_n hx hb dX5_clip_155 rfl (lv_at hl 1 rfl) ?_
              refine lv_dup hx hb dX5_clip_156 rfl ?_
              refine va_get (D := D) (ci := 5) (v := .int (nI nc)) (C := RX5) (T := TX5) (N := 24) hx hb hts inX5_clip hown hK hP 0 rfl rfl 4 (by decide) fl73 (fun _ h9 => h9) rfl dX5_clip_157 ?_
              refine lv_iconst (v := 1) hx hb dX5_clip_160 (by decide) ?_
              refine lv_iadd hx hb dX5_clip_161 ?_
              refine lv_topi (fun z17 ez17 => ?_)
              obtain rfl : z17 = nI (nc + 1) := ez17.trans (nI_add nc 1)
              refine va_put (D := D) (ci := 5) (v := .int (nI (nc + 1))) (ty := .int) (C := RX5) (T := TX5) (N := 24) hx hb hts inX5_clip tyX5 tyX5_ok nmX5 hown hK hP hD hS 0 rfl rfl 4 (by decide) fl73 (fun _ h9 => h9) rfl (by decide +kernel) rfl rfl (Nat.le_of_ble_eq_true rfl) dX5_clip_162 (fun H locs hP hD hS => ?_)
              have hP : va_P D vwCl (wX5 cI cZ cG h5 a5 (nI nr) (nI nt) (nI (nc + 1)) (nI nw) hd (nI wk) (nI ng) (nI nT) mi (nI nf) (nI nn) mru mth (upd (upd (upd mcl (3 * nc) (nI t)) (3 * nc + 1) d) (3 * nc + 2) v) mfa mwa mfz mbl mbk mtr mno mlo mip mto) H := hP
              have hD : va_D A (wX5 cI cZ cG h5 a5 (nI nr) (nI nt) (nI (nc + 1)) (nI nw) hd (nI wk) (nI ng) (nI nT) mi (nI nf) (nI nn) mru mth (upd (upd (upd mcl (3 * nc) (nI t)) (3 * nc + 1) d) (3 * nc + 2) v) mfa mwa mfz mbl mbk mtr mno mlo mip mto) := hD
              refine lv_iload hx hb dX5_clip_165 (lv_at hl 0 rfl) ?_
              exact K_iret (wf := (fun (u : Nat × (Nat → Int32)) => wX5 cI cZ cG h5 a5 (nI nr) (nI nt) (nI u.1) (nI nw) hd (nI wk) (nI ng) (nI nT) mi (nI nf) (nI nn) mru mth u.2 mfa mwa mfz mbl mbk mtr mno mlo mip mto)) (nc + 1, upd (upd (upd mcl (3 * nc) (nI t)) (3 * nc + 1) d) (3 * nc + 2) v) hx hb hr hlocks hP hK hD hS dX5_clip_167 (by simp [rClipM, okClipM, hw1, hct, hw3, hw5, eq_true c8, c9, hlate])
            · have c10 : ¬ nc ≤ k := fun hq => c10 ((nI_leI (a := nc) (b := k) (by omega) (by omega)).mpr hq)
              have hk9 : k < nc := by omega
              refine lv_aload_n hx hb dX5_clip_70 rfl (lv_at hl 1 rfl) ?_
              refine va_get (D := D) (ci := 5) (v := .ref (a5 2)) (C := RX5) (T := TX5) (N := 24) hx hb hts inX5_clip hown hK hP 0 rfl rfl 5 (by decide) fl16 (fun _ h9 => h9) rfl dX5_clip_71 ?_
              refine lv_iconst (v := 3) hx hb dX5_clip_74 (by decide) ?_
              refine lv_iload hx hb dX5_clip_75 (lv_at hl 0 rfl) ?_
              refine lv_imul hx hb dX5_clip_77 ?_
              refine lv_topi (fun z18 ez18 => ?_)
              obtain rfl : z18 = nI (3 * k) := ez18.trans (pk_mul 3 k)
              refine K_iald hx hb hK hP 3 0 rfl rfl (3 * k) (by omega) (Nat.le_of_ble_eq_true rfl) dX5_clip_78 ?_
              refine lv_iload_n hx hb dX5_clip_79 rfl (lv_at hl 2 rfl) ?_
              refine lv_icmp_ne (tgt := 101) hx hb dX5_clip_80 (by decide) (fun c19 => ?_) (fun c19 => ?_)
              · refine lv_iinc (v := nI (k + 1)) (lv' := [(4, .int (nI (k + 1))), (0, .ref h5), (1, .int (nI t)), (2, .int d), (3, .int v)]) hx hb dX5_clip_101 hl (k := 0) rfl (inc1 _) (by decide) rfl (fun ls hl => ?_)
                refine lv_goto (tgt := 61) hx hb dX5_clip_104 (by decide) ?_
                exact ih61 (k + 1) _ _ _ ⟨(by omega), (fun j hj => by
                  rcases Nat.lt_or_ge j k with q9 | q9
                  · exact hz j q9
                  · rw [show j = k by omega]
                    first | exact fun hq => c19 hq.1 | exact fun hq => hq.2 c19), hP, hD, hS, lv_sub hl [0, 1, 2, 3, 4] rfl⟩ (by omega)
              · refine lv_aload_n hx hb dX5_clip_83 rfl (lv_at hl 1 rfl) ?_
                refine va_get (D := D) (ci := 5) (v := .ref (a5 2)) (C := RX5) (T := TX5) (N := 24) hx hb hts inX5_clip hown hK hP 0 rfl rfl 5 (by decide) fl16 (fun _ h9 => h9) rfl dX5_clip_84 ?_
                refine lv_iconst (v := 3) hx hb dX5_clip_87 (by decide) ?_
                refine lv_iload hx hb dX5_clip_88 (lv_at hl 0 rfl) ?_
                refine lv_imul hx hb dX5_clip_90 ?_
                refine lv_topi (fun z20 ez20 => ?_)
                obtain rfl : z20 = nI (3 * k) := ez20.trans (pk_mul 3 k)
                refine lv_iconst (v := 1) hx hb dX5_clip_91 (by decide) ?_
                refine lv_iadd hx hb dX5_clip_92 ?_
                refine lv_topi (fun z21 ez21 => ?_)
                obtain rfl : z21 = nI (3 * k + 1) := ez21.trans ((nI_add (3 * k) 1).trans (congrArg nI (by omega)))
                refine K_iald hx hb hK hP 3 0 rfl rfl (3 * k + 1) (by omega) (Nat.le_of_ble_eq_true rfl) dX5_clip_93 ?_
                refine lv_iload_n hx hb dX5_clip_94 rfl (lv_at hl 3 rfl) ?_
                refine lv_icmp_le (tgt := 101) hx hb dX5_clip_95 (by decide) (fun c22 => ?_) (fun c22 => ?_)
                · refine lv_iinc (v := nI (k + 1)) (lv' := [(4, .int (nI (k + 1))), (0, .ref h5), (1, .int (nI t)), (2, .int d), (3, .int v)]) hx hb dX5_clip_101 hl (k := 0) rfl (inc1 _) (by decide) rfl (fun ls hl => ?_)
                  refine lv_goto (tgt := 61) hx hb dX5_clip_104 (by decide) ?_
                  exact ih61 (k + 1) _ _ _ ⟨(by omega), (fun j hj => by
                    rcases Nat.lt_or_ge j k with q9 | q9
                    · exact hz j q9
                    · rw [show j = k by omega]
                      first | exact fun hq => c22 hq.1 | exact fun hq => hq.2 c22), hP, hD, hS, lv_sub hl [0, 1, 2, 3, 4] rfl⟩ (by omega)
                · have hlate := lateM_t hk9 c19 c22
                  refine lv_bipush (v := (-5)) hx hb dX5_clip_98 (by decide) ?_
                  exact K_iret (wf := (fun (u : Nat × (Nat → Int32)) => wX5 cI cZ cG h5 a5 (nI nr) (nI nt) (nI u.1) (nI nw) hd (nI wk) (nI ng) (nI nT) mi (nI nf) (nI nn) mru mth u.2 mfa mwa mfz mbl mbk mtr mno mlo mip mto)) (nc, mcl) hx hb hr hlocks hP hK hD hS dX5_clip_100 (by simp [rClipM, okClipM, hw1, hct, hw3, hw5, eq_true c8, c9, c10, hlate])
          · have c9 : nc = 60 := (nI_eq (a := nc) (b := 60) (by omega) (by omega)).mp c9
            refine lv_bipush (v := (-4)) hx hb dX5_clip_55 (by decide) ?_
            exact K_iret (wf := (fun (u : Nat × (Nat → Int32)) => wX5 cI cZ cG h5 a5 (nI nr) (nI nt) (nI u.1) (nI nw) hd (nI wk) (nI ng) (nI nT) mi (nI nf) (nI nn) mru mth u.2 mfa mwa mfz mbl mbk mtr mno mlo mip mto)) (nc, mcl) hx hb hr hlocks hP hK hD hS dX5_clip_57 (by simp [rClipM, okClipM, hw1, hct, hw3, hw5, eq_true c8, eq_true c9])
        · refine lv_bipush (v := (-3)) hx hb dX5_clip_43 (by decide) ?_
          exact K_iret (wf := (fun (u : Nat × (Nat → Int32)) => wX5 cI cZ cG h5 a5 (nI nr) (nI nt) (nI u.1) (nI nw) hd (nI wk) (nI ng) (nI nT) mi (nI nf) (nI nn) mru mth u.2 mfa mwa mfz mbl mbk mtr mno mlo mip mto)) (nc, mcl) hx hb hr hlocks hP hK hD hS dX5_clip_45 (by simp [rClipM, okClipM, hw1, hct, hw3, hw5, c8])
      · skip
        refine lv_if_ne (tgt := 31) hx hb dX5_clip_25 (by decide) (fun c23 => absurd c23 (by decide)) (fun _ => ?_)
        refine lv_bipush (v := (-2)) hx hb dX5_clip_28 (by decide) ?_
        exact K_iret (wf := (fun (u : Nat × (Nat → Int32)) => wX5 cI cZ cG h5 a5 (nI nr) (nI nt) (nI u.1) (nI nw) hd (nI wk) (nI ng) (nI nT) mi (nI nf) (nI nn) mru mth u.2 mfa mwa mfz mbl mbk mtr mno mlo mip mto)) (nc, mcl) hx hb hr hlocks hP hK hD hS dX5_clip_30 (by simp [rClipM, okClipM, hw1, hct, hw3, hw5])
    · skip
      refine lv_if_eq (tgt := 28) hx hb dX5_clip_14 (by decide) (fun _ => ?_) (fun c24 => absurd c24 (by decide))
      refine lv_bipush (v := (-2)) hx hb dX5_clip_28 (by decide) ?_
      exact K_iret (wf := (fun (u : Nat × (Nat → Int32)) => wX5 cI cZ cG h5 a5 (nI nr) (nI nt) (nI u.1) (nI nw) hd (nI wk) (nI ng) (nI nT) mi (nI nf) (nI nn) mru mth u.2 mfa mwa mfz mbl mbk mtr mno mlo mip mto)) (nc, mcl) hx hb hr hlocks hP hK hD hS dX5_clip_30 (by simp [rClipM, okClipM, hw1, hct, hw3])
  · skip
    refine lv_if_ne (tgt := 10) hx hb dX5_clip_5 (by decide) (fun c25 => absurd c25 (by decide)) (fun _ => ?_)
    refine lv_iconst (v := (-1)) hx hb dX5_clip_8 (by decide) ?_
    exact K_iret (wf := (fun (u : Nat × (Nat → Int32)) => wX5 cI cZ cG h5 a5 (nI nr) (nI nt) (nI u.1) (nI nw) hd (nI wk) (nI ng) (nI nT) mi (nI nf) (nI nn) mru mth u.2 mfa mwa mfz mbl mbk mtr mno mlo mip mto)) (nc, mcl) hx hb hr hlocks hP hK hD hS dX5_clip_9 (by simp [rClipM, okClipM, hw1])

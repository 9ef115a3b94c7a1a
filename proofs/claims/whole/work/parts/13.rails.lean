theorem inX2_isRing : ∀ w ∈ wsX20, w ∈ wsX2_isRing := by decide +kernel
set_option maxHeartbeats 8000000 in
set_option maxRecDepth 100000 in
/-- isRing -/
theorem c_X2_isRing (l : Launch) (D : va_G) (cI cZ cG : ClassId) (h2 : Nat) (a2 : Nat → Nat) (sz : Nat) (ng : Nat) (nT : Nat) (mi : Int32) (rl : Nat → Int32) (tR : Nat → Int32) (pc : Nat → Int32) (mn : Nat → Int32) (mb : Nat → Int32) (mw : Nat → Int32) (mg : Nat → Int32) (su : Nat → Int32) (B : Nat → Nat → Int32) (x : Int32) (hng : ng ≤ 3) (hnT : nT ≤ 4) : Met l yX2_isRing wsX2_isRing ({ frames := 1, cells := 0, slots := 0, locals := 22 } : Room) (va_Pc [.ref h2, .int x] (PB D (tyL cI cZ cG) (wX2 cI cZ cG h2 a2 (nI ng) (nI nT) mi rl tR pc mn mb mw mg su B) sz)) (va_Qi (fun (r : Int32) (_ : Unit) => bo r (inR x 0 (nI ng - 1) = true)) (fun u => QB D (tyL cI cZ cG) (va_A (wX2 cI cZ cG h2 a2 (nI ng) (nI nT) mi rl tR pc mn mb mw mg su B) sz) ((fun (_ : Unit) => wX2 cI cZ cG h2 a2 (nI ng) (nI nT) mi rl tR pc mn mb mw mg su B) u)) (va_A (wX2 cI cZ cG h2 a2 (nI ng) (nI nT) mi rl tR pc mn mb mw mg su B) sz)) 0 0 (va_A (wX2 cI cZ cG h2 a2 (nI ng) (nI nT) mi rl tR pc mn mb mw mg su B) sz) := by
  refine K_start (cc := cX2_isRing) (maxL := 2) (ret := some .boolean) (Qc := fun A => va_Qi (fun (r : Int32) (_ : Unit) => bo r (inR x 0 (nI ng - 1) = true)) (fun u => QB D (tyL cI cZ cG) A ((fun (_ : Unit) => wX2 cI cZ cG h2 a2 (nI ng) (nI nT) mi rl tR pc mn mb mw mg su B) u)) A) (by decide) rfl (Nat.le_of_ble_eq_true rfl) ?_
  intro p e s m below meth c ls A hx hb hml hr hts hown hlocks hin hN hP hK hD hA hS hl hsz
  have hl : lv_has ls 2 [(0, .ref h2), (1, .int x)] := hl
  have fl42 := hts (.fieldLink RX2 42 "ModelTown$Rails" "rings" "I") (by decide +kernel)
  refine lv_iload_n hx hb dX2_isRing_0 rfl (lv_at hl 1 rfl) ?_
  refine lv_iconst (v := 0) hx hb dX2_isRing_1 (by decide) ?_
  refine lv_aload_n hx hb dX2_isRing_2 rfl (lv_at hl 0 rfl) ?_
  refine va_get (D := D) (ci := 2) (v := .int (nI ng)) (C := RX2) (T := TX2) (N := 12) hx hb hts inX2_isRing hown hK hP 0 rfl rfl 2 (by decide) fl42 (fun _ h9 => h9) rfl dX2_isRing_3 ?_
  refine lv_iconst (v := 1) hx hb dX2_isRing_6 (by decide) ?_
  refine lv_isub hx hb dX2_isRing_7 ?_
  refine K_none (va_runSN (As := [.int x, .int 0, .int ((nI ng) - 1)]) (rest := []) ⟨hx, hb, hml, hown, hts⟩ (c_X4_isWithin l D cI cZ cG _ x 0 ((nI ng) - 1)) ⟨va_cnB (host := "ModelTown") 3 hts gX2_isRing_X4_isWithin_n50 rfl rfl rfl hN.2.2.2.2.1 (hts (.initialized RX4) (by decide +kernel)) (by decide +kernel) ⟨(Nat.le_of_ble_eq_true rfl), (Nat.le_of_ble_eq_true rfl)⟩, hts (.static yX4_isWithin) (by decide +kernel), trivial⟩ (K_pre0 hN hK) rfl rfl hl.1 rfl (lv_room (Nat.le_of_ble_eq_true rfl)) dX2_isRing_8 ⟨Nat.zero_le _, Nat.zero_le _⟩) hP hS hA (fun r1 _ H locs hw1 hP hS => ?_)
  rcases hw1 with ⟨rfl, hw1⟩ | ⟨rfl, hw1⟩
  · skip
    exact K_zret (wf := (fun (_ : Unit) => wX2 cI cZ cG h2 a2 (nI ng) (nI nT) mi rl tR pc mn mb mw mg su B)) () hx hb hr hlocks hP hK hD hS dX2_isRing_11 rfl (Or.inl ⟨rfl, by assumption⟩)
  · skip
    exact K_zret (wf := (fun (_ : Unit) => wX2 cI cZ cG h2 a2 (nI ng) (nI nT) mi rl tR pc mn mb mw mg su B)) () hx hb hr hlocks hP hK hD hS dX2_isRing_11 rfl (Or.inr ⟨rfl, by assumption⟩)
theorem inX2_isTrain : ∀ w ∈ wsX20, w ∈ wsX2_isTrain := by decide +kernel
set_option maxHeartbeats 8000000 in
set_option maxRecDepth 100000 in
/-- isTrain -/
theorem c_X2_isTrain (l : Launch) (D : va_G) (cI cZ cG : ClassId) (h2 : Nat) (a2 : Nat → Nat) (sz : Nat) (ng : Nat) (nT : Nat) (mi : Int32) (rl : Nat → Int32) (tR : Nat → Int32) (pc : Nat → Int32) (mn : Nat → Int32) (mb : Nat → Int32) (mw : Nat → Int32) (mg : Nat → Int32) (su : Nat → Int32) (B : Nat → Nat → Int32) (x : Int32) (hng : ng ≤ 3) (hnT : nT ≤ 4) : Met l yX2_isTrain wsX2_isTrain ({ frames := 1, cells := 0, slots := 0, locals := 22 } : Room) (va_Pc [.ref h2, .int x] (PB D (tyL cI cZ cG) (wX2 cI cZ cG h2 a2 (nI ng) (nI nT) mi rl tR pc mn mb mw mg su B) sz)) (va_Qi (fun (r : Int32) (_ : Unit) => bo r (inR x 0 (nI nT - 1) = true)) (fun u => QB D (tyL cI cZ cG) (va_A (wX2 cI cZ cG h2 a2 (nI ng) (nI nT) mi rl tR pc mn mb mw mg su B) sz) ((fun (_ : Unit) => wX2 cI cZ cG h2 a2 (nI ng) (nI nT) mi rl tR pc mn mb mw mg su B) u)) (va_A (wX2 cI cZ cG h2 a2 (nI ng) (nI nT) mi rl tR pc mn mb mw mg su B) sz)) 0 0 (va_A (wX2 cI cZ cG h2 a2 (nI ng) (nI nT) mi rl tR pc mn mb mw mg su B) sz) := by
  refine K_start (cc := cX2_isTrain) (maxL := 2) (ret := some .boolean) (Qc := fun A => va_Qi (fun (r : Int32) (_ : Unit) => bo r (inR x 0 (nI nT - 1) = true)) (fun u => QB D (tyL cI cZ cG) A ((fun (_ : Unit) => wX2 cI cZ cG h2 a2 (nI ng) (nI nT) mi rl tR pc mn mb mw mg su B) u)) A) (by decide) rfl (Nat.le_of_ble_eq_true rfl) ?_
  intro p e s m below meth c ls A hx hb hml hr hts hown hlocks hin hN hP hK hD hA hS hl hsz
  have hl : lv_has ls 2 [(0, .ref h2), (1, .int x)] := hl
  have fl61 := hts (.fieldLink RX2 61 "ModelTown$Rails" "trains" "I") (by decide +kernel)
  refine lv_iload_n hx hb dX2_isTrain_0 rfl (lv_at hl 1 rfl) ?_
  refine lv_iconst (v := 0) hx hb dX2_isTrain_1 (by decide) ?_
  refine lv_aload_n hx hb dX2_isTrain_2 rfl (lv_at hl 0 rfl) ?_
  refine va_get (D := D) (ci := 2) (v := .int (nI nT)) (C := RX2) (T := TX2) (N := 12) hx hb hts inX2_isTrain hown hK hP 0 rfl rfl 10 (by decide) fl61 (fun _ h9 => h9) rfl dX2_isTrain_3 ?_
  refine lv_iconst (v := 1) hx hb dX2_isTrain_6 (by decide) ?_
  refine lv_isub hx hb dX2_isTrain_7 ?_
  refine K_none (va_runSN (As := [.int x, .int 0, .int ((nI nT) - 1)]) (rest := []) ⟨hx, hb, hml, hown, hts⟩ (c_X4_isWithin l D cI cZ cG _ x 0 ((nI nT) - 1)) ⟨va_cnB (host := "ModelTown") 3 hts gX2_isTrain_X4_isWithin_n50 rfl rfl rfl hN.2.2.2.2.1 (hts (.initialized RX4) (by decide +kernel)) (by decide +kernel) ⟨(Nat.le_of_ble_eq_true rfl), (Nat.le_of_ble_eq_true rfl)⟩, hts (.static yX4_isWithin) (by decide +kernel), trivial⟩ (K_pre0 hN hK) rfl rfl hl.1 rfl (lv_room (Nat.le_of_ble_eq_true rfl)) dX2_isTrain_8 ⟨Nat.zero_le _, Nat.zero_le _⟩) hP hS hA (fun r1 _ H locs hw1 hP hS => ?_)
  rcases hw1 with ⟨rfl, hw1⟩ | ⟨rfl, hw1⟩
  · skip
    exact K_zret (wf := (fun (_ : Unit) => wX2 cI cZ cG h2 a2 (nI ng) (nI nT) mi rl tR pc mn mb mw mg su B)) () hx hb hr hlocks hP hK hD hS dX2_isTrain_11 rfl (Or.inl ⟨rfl, by assumption⟩)
  · skip
    exact K_zret (wf := (fun (_ : Unit) => wX2 cI cZ cG h2 a2 (nI ng) (nI nT) mi rl tR pc mn mb mw mg su B)) () hx hb hr hlocks hP hK hD hS dX2_isTrain_11 rfl (Or.inr ⟨rfl, by assumption⟩)
theorem inX2_hasTrain : ∀ w ∈ wsX20, w ∈ wsX2_hasTrain := by decide +kernel
set_option maxHeartbeats 8000000 in
set_option maxRecDepth 100000 in
/-- hasTrain -/
theorem c_X2_hasTrain (l : Launch) (D : va_G) (cI cZ cG : ClassId) (h2 : Nat) (a2 : Nat → Nat) (sz : Nat) (ng : Nat) (nT : Nat) (mi : Int32) (rl : Nat → Int32) (tR : Nat → Int32) (pc : Nat → Int32) (mn : Nat → Int32) (mb : Nat → Int32) (mw : Nat → Int32) (mg : Nat → Int32) (su : Nat → Int32) (B : Nat → Nat → Int32) (x : Int32) (hng : ng ≤ 3) (hnT : nT ≤ 4) : Met l yX2_hasTrain wsX2_hasTrain ({ frames := 0, cells := 0, slots := 0, locals := 0 } : Room) (va_Pc [.ref h2, .int x] (PB D (tyL cI cZ cG) (wX2 cI cZ cG h2 a2 (nI ng) (nI nT) mi rl tR pc mn mb mw mg su B) sz)) (va_Qi (fun (r : Int32) (_ : Unit) => bo r (anyL nT tR x = true)) (fun u => QB D (tyL cI cZ cG) (va_A (wX2 cI cZ cG h2 a2 (nI ng) (nI nT) mi rl tR pc mn mb mw mg su B) sz) ((fun (_ : Unit) => wX2 cI cZ cG h2 a2 (nI ng) (nI nT) mi rl tR pc mn mb mw mg su B) u)) (va_A (wX2 cI cZ cG h2 a2 (nI ng) (nI nT) mi rl tR pc mn mb mw mg su B) sz)) 0 0 (va_A (wX2 cI cZ cG h2 a2 (nI ng) (nI nT) mi rl tR pc mn mb mw mg su B) sz) := by
  refine K_start (cc := cX2_hasTrain) (maxL := 3) (ret := some .boolean) (Qc := fun A => va_Qi (fun (r : Int32) (_ : Unit) => bo r (anyL nT tR x = true)) (fun u => QB D (tyL cI cZ cG) A ((fun (_ : Unit) => wX2 cI cZ cG h2 a2 (nI ng) (nI nT) mi rl tR pc mn mb mw mg su B) u)) A) (by decide) rfl (Nat.le_of_ble_eq_true rfl) ?_
  intro p e s m below meth c ls A hx hb hml hr hts hown hlocks hin hN hP hK hD hA hS hl hsz
  have hl : lv_has ls 3 [(0, .ref h2), (1, .int x)] := hl
  have fl61 := hts (.fieldLink RX2 61 "ModelTown$Rails" "trains" "I") (by decide +kernel)
  have fl20 := hts (.fieldLink RX2 20 "ModelTown$Rails" "trainRings" "[I") (by decide +kernel)
  refine lv_iconst (v := 0) hx hb dX2_hasTrain_0 (by decide) ?_
  refine lv_istore_n (lv' := [(2, .int 0), (0, .ref h2), (1, .int x)]) hx hb dX2_hasTrain_1 rfl hl (by decide) rfl (fun ls hl => ?_)
  refine loopW1 (fun (k : Nat) H locs ls => (k ≤ nT) ∧ (∀ j, j < k → ¬ tR j = x) ∧ va_P D vwCl (wX2 cI cZ cG h2 a2 (nI ng) (nI nT) mi rl tR pc mn mb mw mg su B) H ∧ va_D A (wX2 cI cZ cG h2 a2 (nI ng) (nI nT) mi rl tR pc mn mb mw mg su B) ∧ va_S A s.heap H locs ∧ lv_has ls 3 [(2, .int (nI k)), (0, .ref h2), (1, .int x)]) (fun (k : Nat) => nT - k) (fun k H locs ls hI ih2 => ?_) 0 _ _ _ ⟨(by omega), (fun j hj => absurd hj (by omega)), hP, hD, hS, lv_sub hl [0, 1, 2] rfl⟩
  obtain ⟨hk, hz, hP, hD, hS, hl⟩ := hI
  refine lv_iload_n hx hb dX2_hasTrain_2 rfl (lv_at hl 0 rfl) ?_
  refine lv_aload_n hx hb dX2_hasTrain_3 rfl (lv_at hl 1 rfl) ?_
  refine va_get (D := D) (ci := 2) (v := .int (nI nT)) (C := RX2) (T := TX2) (N := 12) hx hb hts inX2_hasTrain hown hK hP 0 rfl rfl 10 (by decide) fl61 (fun _ h9 => h9) rfl dX2_hasTrain_4 ?_
  refine lv_icmp_ge (tgt := 28) hx hb dX2_hasTrain_7 (by decide) (fun c1 => ?_) (fun c1 => ?_)
  · have c1 : nT ≤ k := (nI_leI (a := nT) (b := k) (by omega) (by omega)).mp c1
    have ek : k = nT := by omega
    rw [ek] at hz
    refine lv_iconst (v := 0) hx hb dX2_hasTrain_28 (by decide) ?_
    exact K_zret (wf := (fun (_ : Unit) => wX2 cI cZ cG h2 a2 (nI ng) (nI nT) mi rl tR pc mn mb mw mg su B)) () hx hb hr hlocks hP hK hD hS dX2_hasTrain_29 rfl (Or.inr ⟨rfl, anyL_f hz⟩)
  · have c1 : ¬ nT ≤ k := fun hq => c1 ((nI_leI (a := nT) (b := k) (by omega) (by omega)).mpr hq)
    have hk9 : k < nT := by omega
    refine lv_aload_n hx hb dX2_hasTrain_10 rfl (lv_at hl 1 rfl) ?_
    refine va_get (D := D) (ci := 2) (v := .ref (a2 2)) (C := RX2) (T := TX2) (N := 12) hx hb hts inX2_hasTrain hown hK hP 0 rfl rfl 3 (by decide) fl20 (fun _ h9 => h9) rfl dX2_hasTrain_11 ?_
    refine lv_iload_n hx hb dX2_hasTrain_14 rfl (lv_at hl 0 rfl) ?_
    refine K_iald hx hb hK hP 3 0 rfl rfl k (by omega) (Nat.le_of_ble_eq_true rfl) dX2_hasTrain_15 ?_
    refine lv_iload_n hx hb dX2_hasTrain_16 rfl (lv_at hl 2 rfl) ?_
    refine lv_icmp_ne (tgt := 22) hx hb dX2_hasTrain_17 (by decide) (fun c2 => ?_) (fun c2 => ?_)
    · refine lv_iinc (v := nI (k + 1)) (lv' := [(2, .int (nI (k + 1))), (0, .ref h2), (1, .int x)]) hx hb dX2_hasTrain_22 hl (k := 0) rfl (inc1 _) (by decide) rfl (fun ls hl => ?_)
      refine lv_goto (tgt := 2) hx hb dX2_hasTrain_25 (by decide) ?_
      exact ih2 (k + 1) _ _ _ ⟨(by omega), (fun j hj => by
        rcases Nat.lt_or_ge j k with q9 | q9
        · exact hz j q9
        · rw [show j = k by omega]; exact c2), hP, hD, hS, lv_sub hl [0, 1, 2] rfl⟩ (by omega)
    · refine lv_iconst (v := 1) hx hb dX2_hasTrain_20 (by decide) ?_
      exact K_zret (wf := (fun (_ : Unit) => wX2 cI cZ cG h2 a2 (nI ng) (nI nT) mi rl tR pc mn mb mw mg su B)) () hx hb hr hlocks hP hK hD hS dX2_hasTrain_21 rfl (Or.inl ⟨rfl, anyL_t hk9 c2⟩)
theorem inX2_hasBlock : ∀ w ∈ wsX20, w ∈ wsX2_hasBlock := by decide +kernel
set_option maxHeartbeats 8000000 in
set_option maxRecDepth 100000 in
/-- hasBlock -/
theorem c_X2_hasBlock (l : Launch) (D : va_G) (cI cZ cG : ClassId) (h2 : Nat) (a2 : Nat → Nat) (sz : Nat) (ng : Nat) (nT : Nat) (mi : Int32) (rl : Nat → Int32) (tR : Nat → Int32) (pc : Nat → Int32) (mn : Nat → Int32) (mb : Nat → Int32) (mw : Nat → Int32) (mg : Nat → Int32) (su : Nat → Int32) (B : Nat → Nat → Int32) (r0 : Nat) (n : Nat) (x : Int32) (hng : ng ≤ 3) (hnT : nT ≤ 4) (hr3 : r0 < 3) (hn12 : n ≤ 12) (hnE : rl r0 = nI n) : Met l yX2_hasBlock wsX2_hasBlock ({ frames := 0, cells := 0, slots := 0, locals := 0 } : Room) (va_Pc [.ref h2, .int (nI r0), .int x] (PB D (tyL cI cZ cG) (wX2 cI cZ cG h2 a2 (nI ng) (nI nT) mi rl tR pc mn mb mw mg su B) sz)) (va_Qi (fun (r : Int32) (_ : Unit) => bo r (anyL n (B r0) x = true)) (fun u => QB D (tyL cI cZ cG) (va_A (wX2 cI cZ cG h2 a2 (nI ng) (nI nT) mi rl tR pc mn mb mw mg su B) sz) ((fun (_ : Unit) => wX2 cI cZ cG h2 a2 (nI ng) (nI nT) mi rl tR pc mn mb mw mg su B) u)) (va_A (wX2 cI cZ cG h2 a2 (nI ng) (nI nT) mi rl tR pc mn mb mw mg su B) sz)) 0 0 (va_A (wX2 cI cZ cG h2 a2 (nI ng) (nI nT) mi rl tR pc mn mb mw mg su B) sz) := by
  refine K_start (cc := cX2_hasBlock) (maxL := 4) (ret := some .boolean) (Qc := fun A => va_Qi (fun (r : Int32) (_ : Unit) => bo r (anyL n (B r0) x = true)) (fun u => QB D (tyL cI cZ cG) A ((fun (_ : Unit) => wX2 cI cZ cG h2 a2 (nI ng) (nI nT) mi rl tR pc mn mb mw mg su B) u)) A) (by decide) rfl (Nat.le_of_ble_eq_true rfl) ?_
  intro p e s m below meth c ls A hx hb hml hr hts hown hlocks hin hN hP hK hD hA hS hl hsz
  have hl : lv_has ls 4 [(0, .ref h2), (1, .int (nI r0)), (2, .int x)] := hl
  have fl16 := hts (.fieldLink RX2 16 "ModelTown$Rails" "ringLengths" "[I") (by decide +kernel)
  have fl13 := hts (.fieldLink RX2 13 "ModelTown$Rails" "ringBlocks" "[[I") (by decide +kernel)
  refine lv_iconst (v := 0) hx hb dX2_hasBlock_0 (by decide) ?_
  refine lv_istore_n (lv' := [(3, .int 0), (0, .ref h2), (1, .int (nI r0)), (2, .int x)]) hx hb dX2_hasBlock_1 rfl hl (by decide) rfl (fun ls hl => ?_)
  refine loopW1 (fun (k : Nat) H locs ls => (k ≤ n) ∧ (∀ j, j < k → ¬ B r0 j = x) ∧ va_P D vwCl (wX2 cI cZ cG h2 a2 (nI ng) (nI nT) mi rl tR pc mn mb mw mg su B) H ∧ va_D A (wX2 cI cZ cG h2 a2 (nI ng) (nI nT) mi rl tR pc mn mb mw mg su B) ∧ va_S A s.heap H locs ∧ lv_has ls 4 [(3, .int (nI k)), (0, .ref h2), (1, .int (nI r0)), (2, .int x)]) (fun (k : Nat) => n - k) (fun k H locs ls hI ih2 => ?_) 0 _ _ _ ⟨(by omega), (fun j hj => absurd hj (by omega)), hP, hD, hS, lv_sub hl [0, 1, 2, 3] rfl⟩
  obtain ⟨hk, hz, hP, hD, hS, hl⟩ := hI
  refine lv_iload_n hx hb dX2_hasBlock_2 rfl (lv_at hl 0 rfl) ?_
  refine lv_aload_n hx hb dX2_hasBlock_3 rfl (lv_at hl 1 rfl) ?_
  refine va_get (D := D) (ci := 2) (v := .ref (a2 1)) (C := RX2) (T := TX2) (N := 12) hx hb hts inX2_hasBlock hown hK hP 0 rfl rfl 1 (by decide) fl16 (fun _ h9 => h9) rfl dX2_hasBlock_4 ?_
  refine lv_iload_n hx hb dX2_hasBlock_7 rfl (lv_at hl 2 rfl) ?_
  refine K_iald hx hb hK hP 2 0 rfl rfl r0 (by omega) (Nat.le_of_ble_eq_true rfl) dX2_hasBlock_8 ?_
  refine lv_topi (fun z1 ez1 => ?_)
  obtain rfl : z1 = nI n := ez1.trans hnE
  refine lv_icmp_ge (tgt := 32) hx hb dX2_hasBlock_9 (by decide) (fun c2 => ?_) (fun c2 => ?_)
  · have c2 : n ≤ k := (nI_leI (a := n) (b := k) (by omega) (by omega)).mp c2
    have ek : k = n := by omega
    rw [ek] at hz
    refine lv_iconst (v := 0) hx hb dX2_hasBlock_32 (by decide) ?_
    exact K_zret (wf := (fun (_ : Unit) => wX2 cI cZ cG h2 a2 (nI ng) (nI nT) mi rl tR pc mn mb mw mg su B)) () hx hb hr hlocks hP hK hD hS dX2_hasBlock_33 rfl (Or.inr ⟨rfl, anyL_f hz⟩)
  · have c2 : ¬ n ≤ k := fun hq => c2 ((nI_leI (a := n) (b := k) (by omega) (by omega)).mpr hq)
    have hk9 : k < n := by omega
    refine lv_aload_n hx hb dX2_hasBlock_12 rfl (lv_at hl 1 rfl) ?_
    refine va_get (D := D) (ci := 2) (v := .ref (a2 0)) (C := RX2) (T := TX2) (N := 12) hx hb hts inX2_hasBlock hown hK hP 0 rfl rfl 0 (by decide) fl13 (fun _ h9 => h9) rfl dX2_hasBlock_13 ?_
    refine lv_iload_n hx hb dX2_hasBlock_16 rfl (lv_at hl 2 rfl) ?_
    refine K_aald hx hb hK hP 1 2 rfl rfl r0 (by omega) (Nat.le_of_ble_eq_true rfl) (if_pos (by omega)) dX2_hasBlock_17 ?_
    refine lv_iload_n hx hb dX2_hasBlock_18 rfl (lv_at hl 0 rfl) ?_
    refine K_iald hx hb hK hP (10 + r0) 0 (wX2_row (by omega)) rfl k (by omega) (Nat.le_of_ble_eq_true rfl) dX2_hasBlock_19 ?_
    refine lv_iload_n hx hb dX2_hasBlock_20 rfl (lv_at hl 3 rfl) ?_
    refine lv_icmp_ne (tgt := 26) hx hb dX2_hasBlock_21 (by decide) (fun c3 => ?_) (fun c3 => ?_)
    · refine lv_iinc (v := nI (k + 1)) (lv' := [(3, .int (nI (k + 1))), (0, .ref h2), (1, .int (nI r0)), (2, .int x)]) hx hb dX2_hasBlock_26 hl (k := 0) rfl (inc1 _) (by decide) rfl (fun ls hl => ?_)
      refine lv_goto (tgt := 2) hx hb dX2_hasBlock_29 (by decide) ?_
      exact ih2 (k + 1) _ _ _ ⟨(by omega), (fun j hj => by
        rcases Nat.lt_or_ge j k with q9 | q9
        · exact hz j q9
        · rw [show j = k by omega]; exact c3), hP, hD, hS, lv_sub hl [0, 1, 2, 3] rfl⟩ (by omega)
    · refine lv_iconst (v := 1) hx hb dX2_hasBlock_24 (by decide) ?_
      exact K_zret (wf := (fun (_ : Unit) => wX2 cI cZ cG h2 a2 (nI ng) (nI nT) mi rl tR pc mn mb mw mg su B)) () hx hb hr hlocks hP hK hD hS dX2_hasBlock_25 rfl (Or.inl ⟨rfl, anyL_t hk9 c3⟩)
theorem inX2_blockOf : ∀ w ∈ wsX20, w ∈ wsX2_blockOf := by decide +kernel
set_option maxHeartbeats 8000000 in
set_option maxRecDepth 100000 in
/-- blockOf -/
theorem c_X2_blockOf (l : Launch) (D : va_G) (cI cZ cG : ClassId) (h2 : Nat) (a2 : Nat → Nat) (sz : Nat) (ng : Nat) (nT : Nat) (mi : Int32) (rl : Nat → Int32) (tR : Nat → Int32) (pc : Nat → Int32) (mn : Nat → Int32) (mb : Nat → Int32) (mw : Nat → Int32) (mg : Nat → Int32) (su : Nat → Int32) (B : Nat → Nat → Int32) (t : Nat) (hng : ng ≤ 3) (hnT : nT ≤ 4) (ht : t < nT) (hokT : okT ng nT rl tR pc) : Met l yX2_blockOf wsX2_blockOf ({ frames := 0, cells := 0, slots := 0, locals := 0 } : Room) (va_Pc [.ref h2, .int (nI t)] (PB D (tyL cI cZ cG) (wX2 cI cZ cG h2 a2 (nI ng) (nI nT) mi rl tR pc mn mb mw mg su B) sz)) (va_Qi (fun (r : Int32) (_ : Unit) => r = bkO B tR pc t) (fun u => QB D (tyL cI cZ cG) (va_A (wX2 cI cZ cG h2 a2 (nI ng) (nI nT) mi rl tR pc mn mb mw mg su B) sz) ((fun (_ : Unit) => wX2 cI cZ cG h2 a2 (nI ng) (nI nT) mi rl tR pc mn mb mw mg su B) u)) (va_A (wX2 cI cZ cG h2 a2 (nI ng) (nI nT) mi rl tR pc mn mb mw mg su B) sz)) 0 0 (va_A (wX2 cI cZ cG h2 a2 (nI ng) (nI nT) mi rl tR pc mn mb mw mg su B) sz) := by
  refine K_start (cc := cX2_blockOf) (maxL := 2) (ret := some .int) (Qc := fun A => va_Qi (fun (r : Int32) (_ : Unit) => r = bkO B tR pc t) (fun u => QB D (tyL cI cZ cG) A ((fun (_ : Unit) => wX2 cI cZ cG h2 a2 (nI ng) (nI nT) mi rl tR pc mn mb mw mg su B) u)) A) (by decide) rfl (Nat.le_of_ble_eq_true rfl) ?_
  intro p e s m below meth c ls A hx hb hml hr hts hown hlocks hin hN hP hK hD hA hS hl hsz
  have hl : lv_has ls 2 [(0, .ref h2), (1, .int (nI t))] := hl
  have fl13 := hts (.fieldLink RX2 13 "ModelTown$Rails" "ringBlocks" "[[I") (by decide +kernel)
  have fl20 := hts (.fieldLink RX2 20 "ModelTown$Rails" "trainRings" "[I") (by decide +kernel)
  have fl23 := hts (.fieldLink RX2 23 "ModelTown$Rails" "places" "[I") (by decide +kernel)
  obtain ⟨r, n, q, hr0, hrE, hn2, hn12, hnE, hq0, hqE⟩ := hokT t (by omega)
  have hcr : (nI r).toNatClampNeg = r := nI_clamp (by omega)
  have hcq : (nI q).toNatClampNeg = q := nI_clamp (by omega)
  refine lv_aload_n hx hb dX2_blockOf_0 rfl (lv_at hl 0 rfl) ?_
  refine va_get (D := D) (ci := 2) (v := .ref (a2 0)) (C := RX2) (T := TX2) (N := 12) hx hb hts inX2_blockOf hown hK hP 0 rfl rfl 0 (by decide) fl13 (fun _ h9 => h9) rfl dX2_blockOf_1 ?_
  refine lv_aload_n hx hb dX2_blockOf_4 rfl (lv_at hl 0 rfl) ?_
  refine va_get (D := D) (ci := 2) (v := .ref (a2 2)) (C := RX2) (T := TX2) (N := 12) hx hb hts inX2_blockOf hown hK hP 0 rfl rfl 3 (by decide) fl20 (fun _ h9 => h9) rfl dX2_blockOf_5 ?_
  refine lv_iload_n hx hb dX2_blockOf_8 rfl (lv_at hl 1 rfl) ?_
  refine K_iald hx hb hK hP 3 0 rfl rfl t (by omega) (Nat.le_of_ble_eq_true rfl) dX2_blockOf_9 ?_
  refine lv_topi (fun z1 ez1 => ?_)
  obtain rfl : z1 = nI r := ez1.trans hrE
  refine K_aald hx hb hK hP 1 2 rfl rfl r (by omega) (Nat.le_of_ble_eq_true rfl) (if_pos (by omega)) dX2_blockOf_10 ?_
  refine lv_aload_n hx hb dX2_blockOf_11 rfl (lv_at hl 0 rfl) ?_
  refine va_get (D := D) (ci := 2) (v := .ref (a2 3)) (C := RX2) (T := TX2) (N := 12) hx hb hts inX2_blockOf hown hK hP 0 rfl rfl 4 (by decide) fl23 (fun _ h9 => h9) rfl dX2_blockOf_12 ?_
  refine lv_iload_n hx hb dX2_blockOf_15 rfl (lv_at hl 1 rfl) ?_
  refine K_iald hx hb hK hP 4 0 rfl rfl t (by omega) (Nat.le_of_ble_eq_true rfl) dX2_blockOf_16 ?_
  refine lv_topi (fun z2 ez2 => ?_)
  obtain rfl : z2 = nI q := ez2.trans hqE
  refine K_iald hx hb hK hP (10 + r) 0 (wX2_row (by omega)) rfl q (by omega) (Nat.le_of_ble_eq_true rfl) dX2_blockOf_17 ?_
  exact K_iret (wf := (fun (_ : Unit) => wX2 cI cZ cG h2 a2 (nI ng) (nI nT) mi rl tR pc mn mb mw mg su B)) () hx hb hr hlocks hP hK hD hS dX2_blockOf_18 (by rw [bkO, hrE, hqE, hcr, hcq])
theorem inX2_nextPlace : ∀ w ∈ wsX20, w ∈ wsX2_nextPlace := by decide +kernel
set_option maxHeartbeats 8000000 in
set_option maxRecDepth 100000 in
/-- nextPlace -/
theorem c_X2_nextPlace (l : Launch) (D : va_G) (cI cZ cG : ClassId) (h2 : Nat) (a2 : Nat → Nat) (sz : Nat) (ng : Nat) (nT : Nat) (mi : Int32) (rl : Nat → Int32) (tR : Nat → Int32) (pc : Nat → Int32) (mn : Nat → Int32) (mb : Nat → Int32) (mw : Nat → Int32) (mg : Nat → Int32) (su : Nat → Int32) (B : Nat → Nat → Int32) (t : Nat) (hng : ng ≤ 3) (hnT : nT ≤ 4) (ht : t < nT) (hokT : okT ng nT rl tR pc) : Met l yX2_nextPlace wsX2_nextPlace ({ frames := 0, cells := 0, slots := 0, locals := 0 } : Room) (va_Pc [.ref h2, .int (nI t)] (PB D (tyL cI cZ cG) (wX2 cI cZ cG h2 a2 (nI ng) (nI nT) mi rl tR pc mn mb mw mg su B) sz)) (va_Qi (fun (r : Int32) (_ : Unit) => r = nxP rl tR pc t) (fun u => QB D (tyL cI cZ cG) (va_A (wX2 cI cZ cG h2 a2 (nI ng) (nI nT) mi rl tR pc mn mb mw mg su B) sz) ((fun (_ : Unit) => wX2 cI cZ cG h2 a2 (nI ng) (nI nT) mi rl tR pc mn mb mw mg su B) u)) (va_A (wX2 cI cZ cG h2 a2 (nI ng) (nI nT) mi rl tR pc mn mb mw mg su B) sz)) 0 0 (va_A (wX2 cI cZ cG h2 a2 (nI ng) (nI nT) mi rl tR pc mn mb mw mg su B) sz) := by
  refine K_start (cc := cX2_nextPlace) (maxL := 3) (ret := some .int) (Qc := fun A => va_Qi (fun (r : Int32) (_ : Unit) => r = nxP rl tR pc t) (fun u => QB D (tyL cI cZ cG) A ((fun (_ : Unit) => wX2 cI cZ cG h2 a2 (nI ng) (nI nT) mi rl tR pc mn mb mw mg su B) u)) A) (by decide) rfl (Nat.le_of_ble_eq_true rfl) ?_
  intro p e s m below meth c ls A hx hb hml hr hts hown hlocks hin hN hP hK hD hA hS hl hsz
  have hl : lv_has ls 3 [(0, .ref h2), (1, .int (nI t))] := hl
  have fl23 := hts (.fieldLink RX2 23 "ModelTown$Rails" "places" "[I") (by decide +kernel)
  have fl16 := hts (.fieldLink RX2 16 "ModelTown$Rails" "ringLengths" "[I") (by decide +kernel)
  have fl20 := hts (.fieldLink RX2 20 "ModelTown$Rails" "trainRings" "[I") (by decide +kernel)
  obtain ⟨r, n, q, hr0, hrE, hn2, hn12, hnE, hq0, hqE⟩ := hokT t (by omega)
  have hcr : (nI r).toNatClampNeg = r := nI_clamp (by omega)
  have hcq : (nI q).toNatClampNeg = q := nI_clamp (by omega)
  refine lv_aload_n hx hb dX2_nextPlace_0 rfl (lv_at hl 0 rfl) ?_
  refine va_get (D := D) (ci := 2) (v := .ref (a2 3)) (C := RX2) (T := TX2) (N := 12) hx hb hts inX2_nextPlace hown hK hP 0 rfl rfl 4 (by decide) fl23 (fun _ h9 => h9) rfl dX2_nextPlace_1 ?_
  refine lv_iload_n hx hb dX2_nextPlace_4 rfl (lv_at hl 1 rfl) ?_
  refine K_iald hx hb hK hP 4 0 rfl rfl t (by omega) (Nat.le_of_ble_eq_true rfl) dX2_nextPlace_5 ?_
  refine lv_topi (fun z1 ez1 => ?_)
  obtain rfl : z1 = nI q := ez1.trans hqE
  refine lv_iconst (v := 1) hx hb dX2_nextPlace_6 (by decide) ?_
  refine lv_iadd hx hb dX2_nextPlace_7 ?_
  refine lv_topi (fun z2 ez2 => ?_)
  obtain rfl : z2 = nI (q + 1) := ez2.trans (nI_add q 1)
  refine lv_istore_n (lv' := [(2, .int (nI (q + 1))), (0, .ref h2), (1, .int (nI t))]) hx hb dX2_nextPlace_8 rfl hl (by decide) rfl (fun ls hl => ?_)
  refine lv_iload_n hx hb dX2_nextPlace_9 rfl (lv_at hl 0 rfl) ?_
  refine lv_aload_n hx hb dX2_nextPlace_10 rfl (lv_at hl 1 rfl) ?_
  refine va_get (D := D) (ci := 2) (v := .ref (a2 1)) (C := RX2) (T := TX2) (N := 12) hx hb hts inX2_nextPlace hown hK hP 0 rfl rfl 1 (by decide) fl16 (fun _ h9 => h9) rfl dX2_nextPlace_11 ?_
  refine lv_aload_n hx hb dX2_nextPlace_14 rfl (lv_at hl 1 rfl) ?_
  refine va_get (D := D) (ci := 2) (v := .ref (a2 2)) (C := RX2) (T := TX2) (N := 12) hx hb hts inX2_nextPlace hown hK hP 0 rfl rfl 3 (by decide) fl20 (fun _ h9 => h9) rfl dX2_nextPlace_15 ?_
  refine lv_iload_n hx hb dX2_nextPlace_18 rfl (lv_at hl 2 rfl) ?_
  refine K_iald hx hb hK hP 3 0 rfl rfl t (by omega) (Nat.le_of_ble_eq_true rfl) dX2_nextPlace_19 ?_
  refine lv_topi (fun z3 ez3 => ?_)
  obtain rfl : z3 = nI r := ez3.trans hrE
  refine K_iald hx hb hK hP 2 0 rfl rfl r (by omega) (Nat.le_of_ble_eq_true rfl) dX2_nextPlace_20 ?_
  refine lv_topi (fun z4 ez4 => ?_)
  obtain rfl : z4 = nI n := ez4.trans hnE
  refine lv_icmp_ge (tgt := 28) hx hb dX2_nextPlace_21 (by decide) (fun c5 => ?_) (fun c5 => ?_)
  · have c5 : n ≤ (q + 1) := (nI_leI (a := n) (b := q + 1) (by omega) (by omega)).mp c5
    refine lv_iconst (v := 0) hx hb dX2_nextPlace_28 (by decide) ?_
    exact K_iret (wf := (fun (_ : Unit) => wX2 cI cZ cG h2 a2 (nI ng) (nI nT) mi rl tR pc mn mb mw mg su B)) () hx hb hr hlocks hP hK hD hS dX2_nextPlace_29 (by rw [nxP, hrE, hqE, hcr, hnE, nI_1, if_pos ((nI_leI (by omega) (by omega)).mpr c5)])
  · have c5 : ¬ n ≤ (q + 1) := fun hq => c5 ((nI_leI (a := n) (b := q + 1) (by omega) (by omega)).mpr hq)
    refine lv_iload_n hx hb dX2_nextPlace_24 rfl (lv_at hl 0 rfl) ?_
    refine lv_goto (tgt := 29) hx hb dX2_nextPlace_25 (by decide) ?_
    exact K_iret (wf := (fun (_ : Unit) => wX2 cI cZ cG h2 a2 (nI ng) (nI nT) mi rl tR pc mn mb mw mg su B)) () hx hb hr hlocks hP hK hD hS dX2_nextPlace_29 (by rw [nxP, hrE, hqE, hcr, hnE, nI_1, if_neg (fun h9 => c5 ((nI_leI (by omega) (by omega)).mp h9))])
theorem inX2_trainIn : ∀ w ∈ wsX20, w ∈ wsX2_trainIn := by decide +kernel
set_option maxHeartbeats 8000000 in
set_option maxRecDepth 100000 in
/-- trainIn -/
theorem c_X2_trainIn (l : Launch) (D : va_G) (cI cZ cG : ClassId) (h2 : Nat) (a2 : Nat → Nat) (sz : Nat) (ng : Nat) (nT : Nat) (mi : Int32) (rl : Nat → Int32) (tR : Nat → Int32) (pc : Nat → Int32) (mn : Nat → Int32) (mb : Nat → Int32) (mw : Nat → Int32) (mg : Nat → Int32) (su : Nat → Int32) (B : Nat → Nat → Int32) (b : Int32) (hng : ng ≤ 3) (hnT : nT ≤ 4) (hokT : okT ng nT rl tR pc) : Met l yX2_trainIn wsX2_trainIn ({ frames := 1, cells := 0, slots := 0, locals := 21 } : Room) (va_Pc [.ref h2, .int b] (PB D (tyL cI cZ cG) (wX2 cI cZ cG h2 a2 (nI ng) (nI nT) mi rl tR pc mn mb mw mg su B) sz)) (va_Qi (fun (r : Int32) (_ : Unit) => r = oI (tI (bkO B tR pc) b nT)) (fun u => QB D (tyL cI cZ cG) (va_A (wX2 cI cZ cG h2 a2 (nI ng) (nI nT) mi rl tR pc mn mb mw mg su B) sz) ((fun (_ : Unit) => wX2 cI cZ cG h2 a2 (nI ng) (nI nT) mi rl tR pc mn mb mw mg su B) u)) (va_A (wX2 cI cZ cG h2 a2 (nI ng) (nI nT) mi rl tR pc mn mb mw mg su B) sz)) 0 0 (va_A (wX2 cI cZ cG h2 a2 (nI ng) (nI nT) mi rl tR pc mn mb mw mg su B) sz) := by
  refine K_start (cc := cX2_trainIn) (maxL := 3) (ret := some .int) (Qc := fun A => va_Qi (fun (r : Int32) (_ : Unit) => r = oI (tI (bkO B tR pc) b nT)) (fun u => QB D (tyL cI cZ cG) A ((fun (_ : Unit) => wX2 cI cZ cG h2 a2 (nI ng) (nI nT) mi rl tR pc mn mb mw mg su B) u)) A) (by decide) rfl (Nat.le_of_ble_eq_true rfl) ?_
  intro p e s m below meth c ls A hx hb hml hr hts hown hlocks hin hN hP hK hD hA hS hl hsz
  have hl : lv_has ls 3 [(0, .ref h2), (1, .int b)] := hl
  have fl61 := hts (.fieldLink RX2 61 "ModelTown$Rails" "trains" "I") (by decide +kernel)
  refine lv_iconst (v := 0) hx hb dX2_trainIn_0 (by decide) ?_
  refine lv_istore_n (lv' := [(2, .int 0), (0, .ref h2), (1, .int b)]) hx hb dX2_trainIn_1 rfl hl (by decide) rfl (fun ls hl => ?_)
  refine loopW1 (fun (k : Nat) H locs ls => (k ≤ nT) ∧ (tI (bkO B tR pc) b k = none) ∧ va_P D vwCl (wX2 cI cZ cG h2 a2 (nI ng) (nI nT) mi rl tR pc mn mb mw mg su B) H ∧ va_D A (wX2 cI cZ cG h2 a2 (nI ng) (nI nT) mi rl tR pc mn mb mw mg su B) ∧ va_S A s.heap H locs ∧ lv_has ls 3 [(2, .int (nI k)), (0, .ref h2), (1, .int b)]) (fun (k : Nat) => nT - k) (fun k H locs ls hI ih2 => ?_) 0 _ _ _ ⟨(by omega), rfl, hP, hD, hS, lv_sub hl [0, 1, 2] rfl⟩
  obtain ⟨hk, hz, hP, hD, hS, hl⟩ := hI
  refine lv_iload_n hx hb dX2_trainIn_2 rfl (lv_at hl 0 rfl) ?_
  refine lv_aload_n hx hb dX2_trainIn_3 rfl (lv_at hl 1 rfl) ?_
  refine va_get (D := D) (ci := 2) (v := .int (nI nT)) (C := RX2) (T := TX2) (N := 12) hx hb hts inX2_trainIn hown hK hP 0 rfl rfl 10 (by decide) fl61 (fun _ h9 => h9) rfl dX2_trainIn_4 ?_
  refine lv_icmp_ge (tgt := 27) hx hb dX2_trainIn_7 (by decide) (fun c1 => ?_) (fun c1 => ?_)
  · have c1 : nT ≤ k := (nI_leI (a := nT) (b := k) (by omega) (by omega)).mp c1
    have ek : k = nT := by omega
    rw [ek] at hz
    refine lv_bipush (v := (-6)) hx hb dX2_trainIn_27 (by decide) ?_
    exact K_iret (wf := (fun (_ : Unit) => wX2 cI cZ cG h2 a2 (nI ng) (nI nT) mi rl tR pc mn mb mw mg su B)) () hx hb hr hlocks hP hK hD hS dX2_trainIn_29 (by rw [hz]; rfl)
  · have c1 : ¬ nT ≤ k := fun hq => c1 ((nI_leI (a := nT) (b := k) (by omega) (by omega)).mpr hq)
    have hk9 : k < nT := by omega
    refine lv_aload_n hx hb dX2_trainIn_10 rfl (lv_at hl 1 rfl) ?_
    refine lv_iload_n hx hb dX2_trainIn_11 rfl (lv_at hl 0 rfl) ?_
    refine K_same (va_runV (As := [.int (nI k)]) (rest := []) ⟨hx, hb, hml, hown, hts⟩ (c_X2_blockOf l D cI cZ cG h2 a2 _ ng nT mi rl tR pc mn mb mw mg su B k hng hnT (by omega) hokT) (cwV 1 hts gX2_trainIn_X2_blockOf rfl rfl rfl (by decide +kernel) ⟨(Nat.le_of_ble_eq_true rfl), (Nat.le_of_ble_eq_true rfl)⟩) ⟨PB_blind, va_recv hK hP (ci := 2) (q0 := 0) rfl rfl, (K_preS hN hK hP hD).2⟩ rfl rfl hl.1 rfl (lv_room (Nat.le_of_ble_eq_true rfl)) dX2_trainIn_12 ⟨Nat.zero_le _, Nat.zero_le _⟩) hD hS hA (fun r2 u H locs hw2 hP hD hS => ?_)
    have hP : va_P D vwCl (wX2 cI cZ cG h2 a2 (nI ng) (nI nT) mi rl tR pc mn mb mw mg su B) H := hP
    have hD : va_D A (wX2 cI cZ cG h2 a2 (nI ng) (nI nT) mi rl tR pc mn mb mw mg su B) := hD
    obtain rfl := hw2
    refine lv_iload_n hx hb dX2_trainIn_15 rfl (lv_at hl 2 rfl) ?_
    refine lv_icmp_ne (tgt := 21) hx hb dX2_trainIn_16 (by decide) (fun c3 => ?_) (fun c3 => ?_)
    · refine lv_iinc (v := nI (k + 1)) (lv' := [(2, .int (nI (k + 1))), (0, .ref h2), (1, .int b)]) hx hb dX2_trainIn_21 hl (k := 0) rfl (inc1 _) (by decide) rfl (fun ls hl => ?_)
      refine lv_goto (tgt := 2) hx hb dX2_trainIn_24 (by decide) ?_
      exact ih2 (k + 1) _ _ _ ⟨(by omega), (by rw [tI, hz]; exact if_neg c3), hP, hD, hS, lv_sub hl [0, 1, 2] rfl⟩ (by omega)
    · refine lv_iload_n hx hb dX2_trainIn_19 rfl (lv_at hl 0 rfl) ?_
      exact K_iret (wf := (fun (_ : Unit) => wX2 cI cZ cG h2 a2 (nI ng) (nI nT) mi rl tR pc mn mb mw mg su B)) () hx hb hr hlocks hP hK hD hS dX2_trainIn_20 (by rw [tI_hit hz c3 hk9]; rfl)
theorem inX2_trainAhead : ∀ w ∈ wsX20, w ∈ wsX2_trainAhead := by decide +kernel
set_option maxHeartbeats 8000000 in
set_option maxRecDepth 100000 in
/-- trainAhead -/
theorem c_X2_trainAhead (l : Launch) (D : va_G) (cI cZ cG : ClassId) (h2 : Nat) (a2 : Nat → Nat) (sz : Nat) (ng : Nat) (nT : Nat) (mi : Int32) (rl : Nat → Int32) (tR : Nat → Int32) (pc : Nat → Int32) (mn : Nat → Int32) (mb : Nat → Int32) (mw : Nat → Int32) (mg : Nat → Int32) (su : Nat → Int32) (B : Nat → Nat → Int32) (t : Nat) (hng : ng ≤ 3) (hnT : nT ≤ 4) (ht : t < nT) (hokT : okT ng nT rl tR pc) : Met l yX2_trainAhead wsX2_trainAhead ({ frames := 2, cells := 0, slots := 0, locals := 43 } : Room) (va_Pc [.ref h2, .int (nI t)] (PB D (tyL cI cZ cG) (wX2 cI cZ cG h2 a2 (nI ng) (nI nT) mi rl tR pc mn mb mw mg su B) sz)) (va_Qi (fun (r : Int32) (_ : Unit) => r = oI (aH nT B rl tR pc t)) (fun u => QB D (tyL cI cZ cG) (va_A (wX2 cI cZ cG h2 a2 (nI ng) (nI nT) mi rl tR pc mn mb mw mg su B) sz) ((fun (_ : Unit) => wX2 cI cZ cG h2 a2 (nI ng) (nI nT) mi rl tR pc mn mb mw mg su B) u)) (va_A (wX2 cI cZ cG h2 a2 (nI ng) (nI nT) mi rl tR pc mn mb mw mg su B) sz)) 0 0 (va_A (wX2 cI cZ cG h2 a2 (nI ng) (nI nT) mi rl tR pc mn mb mw mg su B) sz) := by
  refine K_start (cc := cX2_trainAhead) (maxL := 2) (ret := some .int) (Qc := fun A => va_Qi (fun (r : Int32) (_ : Unit) => r = oI (aH nT B rl tR pc t)) (fun u => QB D (tyL cI cZ cG) A ((fun (_ : Unit) => wX2 cI cZ cG h2 a2 (nI ng) (nI nT) mi rl tR pc mn mb mw mg su B) u)) A) (by decide) rfl (Nat.le_of_ble_eq_true rfl) ?_
  intro p e s m below meth c ls A hx hb hml hr hts hown hlocks hin hN hP hK hD hA hS hl hsz
  have hl : lv_has ls 2 [(0, .ref h2), (1, .int (nI t))] := hl
  have fl13 := hts (.fieldLink RX2 13 "ModelTown$Rails" "ringBlocks" "[[I") (by decide +kernel)
  have fl20 := hts (.fieldLink RX2 20 "ModelTown$Rails" "trainRings" "[I") (by decide +kernel)
  obtain ⟨r, n, q, hr0, hrE, hn2, hn12, hnE, hq0, hqE⟩ := hokT t (by omega)
  have hcr : (nI r).toNatClampNeg = r := nI_clamp (by omega)
  have hcq : (nI q).toNatClampNeg = q := nI_clamp (by omega)
  refine lv_aload_n hx hb dX2_trainAhead_0 rfl (lv_at hl 0 rfl) ?_
  refine lv_aload_n hx hb dX2_trainAhead_1 rfl (lv_at hl 0 rfl) ?_
  refine va_get (D := D) (ci := 2) (v := .ref (a2 0)) (C := RX2) (T := TX2) (N := 12) hx hb hts inX2_trainAhead hown hK hP 0 rfl rfl 0 (by decide) fl13 (fun _ h9 => h9) rfl dX2_trainAhead_2 ?_
  refine lv_aload_n hx hb dX2_trainAhead_5 rfl (lv_at hl 0 rfl) ?_
  refine va_get (D := D) (ci := 2) (v := .ref (a2 2)) (C := RX2) (T := TX2) (N := 12) hx hb hts inX2_trainAhead hown hK hP 0 rfl rfl 3 (by decide) fl20 (fun _ h9 => h9) rfl dX2_trainAhead_6 ?_
  refine lv_iload_n hx hb dX2_trainAhead_9 rfl (lv_at hl 1 rfl) ?_
  refine K_iald hx hb hK hP 3 0 rfl rfl t (by omega) (Nat.le_of_ble_eq_true rfl) dX2_trainAhead_10 ?_
  refine lv_topi (fun z1 ez1 => ?_)
  obtain rfl : z1 = nI r := ez1.trans hrE
  refine K_aald hx hb hK hP 1 2 rfl rfl r (by omega) (Nat.le_of_ble_eq_true rfl) (if_pos (by omega)) dX2_trainAhead_11 ?_
  refine lv_aload_n hx hb dX2_trainAhead_12 rfl (lv_at hl 0 rfl) ?_
  refine lv_iload_n hx hb dX2_trainAhead_13 rfl (lv_at hl 1 rfl) ?_
  refine K_same (va_runV (As := [.int (nI t)]) (rest := [.ref (a2 (9 + r)), .ref h2]) ⟨hx, hb, hml, hown, hts⟩ (c_X2_nextPlace l D cI cZ cG h2 a2 _ ng nT mi rl tR pc mn mb mw mg su B t hng hnT ht hokT) (cwV 1 hts gX2_trainAhead_X2_nextPlace rfl rfl rfl (by decide +kernel) ⟨(Nat.le_of_ble_eq_true rfl), (Nat.le_of_ble_eq_true rfl)⟩) ⟨PB_blind, va_recv hK hP (ci := 2) (q0 := 0) rfl rfl, (K_preS hN hK hP hD).2⟩ rfl rfl hl.1 rfl (lv_room (Nat.le_of_ble_eq_true rfl)) dX2_trainAhead_14 ⟨Nat.zero_le _, Nat.zero_le _⟩) hD hS hA (fun r2 u H locs hw2 hP hD hS => ?_)
  have hP : va_P D vwCl (wX2 cI cZ cG h2 a2 (nI ng) (nI nT) mi rl tR pc mn mb mw mg su B) H := hP
  have hD : va_D A (wX2 cI cZ cG h2 a2 (nI ng) (nI nT) mi rl tR pc mn mb mw mg su B) := hD
  obtain ⟨j2, hj2, hnp2⟩ := nxP_in (by omega) hrE hn12 hnE hq0 hqE
  obtain rfl : r2 = nI j2 := hw2.trans hnp2
  have hcj2 : (nI j2).toNatClampNeg = j2 := nI_clamp (by omega)
  refine K_iald hx hb hK hP (10 + r) 0 (wX2_row (by omega)) rfl j2 (by omega) (Nat.le_of_ble_eq_true rfl) dX2_trainAhead_17 ?_
  refine K_same (va_runV (As := [.int (B r j2)]) (rest := []) ⟨hx, hb, hml, hown, hts⟩ (c_X2_trainIn l D cI cZ cG h2 a2 _ ng nT mi rl tR pc mn mb mw mg su B (B r j2) hng hnT hokT) (cwV 1 hts gX2_trainAhead_X2_trainIn rfl rfl rfl (by decide +kernel) ⟨(Nat.le_of_ble_eq_true rfl), (Nat.le_of_ble_eq_true rfl)⟩) ⟨PB_blind, va_recv hK hP (ci := 2) (q0 := 0) rfl rfl, (K_preS hN hK hP hD).2⟩ rfl rfl hl.1 rfl (lv_room (Nat.le_of_ble_eq_true rfl)) dX2_trainAhead_18 ⟨Nat.zero_le _, Nat.zero_le _⟩) hD hS hA (fun r3 u H locs hw3 hP hD hS => ?_)
  have hP : va_P D vwCl (wX2 cI cZ cG h2 a2 (nI ng) (nI nT) mi rl tR pc mn mb mw mg su B) H := hP
  have hD : va_D A (wX2 cI cZ cG h2 a2 (nI ng) (nI nT) mi rl tR pc mn mb mw mg su B) := hD
  rcases ho3 : tI (bkO B tR pc) (B r j2) nT with _ | b3
  · rw [ho3] at hw3
    obtain rfl : r3 = -6 := hw3
    exact K_iret (wf := (fun (_ : Unit) => wX2 cI cZ cG h2 a2 (nI ng) (nI nT) mi rl tR pc mn mb mw mg su B)) () hx hb hr hlocks hP hK hD hS dX2_trainAhead_21 (by rw [aH, bkN, hrE, hcr, hnp2, hcj2, ho3]; rfl)
  · rw [ho3] at hw3
    obtain rfl : r3 = nI b3 := hw3
    exact K_iret (wf := (fun (_ : Unit) => wX2 cI cZ cG h2 a2 (nI ng) (nI nT) mi rl tR pc mn mb mw mg su B)) () hx hb hr hlocks hP hK hD hS dX2_trainAhead_21 (by rw [aH, bkN, hrE, hcr, hnp2, hcj2, ho3]; rfl)
theorem inX2_goesOn : ∀ w ∈ wsX20, w ∈ wsX2_goesOn := by decide +kernel
set_option maxHeartbeats 8000000 in
set_option maxRecDepth 100000 in
/-- goesOn -/
theorem c_X2_goesOn (l : Launch) (D : va_G) (cI cZ cG : ClassId) (h2 : Nat) (a2 : Nat → Nat) (sz : Nat) (ng : Nat) (nT : Nat) (mi : Int32) (rl : Nat → Int32) (tR : Nat → Int32) (pc : Nat → Int32) (mn : Nat → Int32) (mb : Nat → Int32) (mw : Nat → Int32) (mg : Nat → Int32) (su : Nat → Int32) (B : Nat → Nat → Int32) (t : Nat) (hng : ng ≤ 3) (hnT : nT ≤ 4) (ht : t < nT) (hokT : okT ng nT rl tR pc) : Met l yX2_goesOn wsX2_goesOn ({ frames := 3, cells := 0, slots := 0, locals := 64 } : Room) (va_Pc [.ref h2, .int (nI t)] (PB D (tyL cI cZ cG) (wX2 cI cZ cG h2 a2 (nI ng) (nI nT) mi rl tR pc mn mb mw mg su B) sz)) (va_Qi (fun (r : Int32) (u : (Nat → Int32) × (Nat → Int32) × (Nat → Int32) × (Nat → Int32)) => r = (gO nT B rl tR mn t (pc, mb, mw, mg)).1 ∧ u = (gO nT B rl tR mn t (pc, mb, mw, mg)).2) (fun u => QB D (tyL cI cZ cG) (va_A (wX2 cI cZ cG h2 a2 (nI ng) (nI nT) mi rl tR pc mn mb mw mg su B) sz) ((fun (u : (Nat → Int32) × (Nat → Int32) × (Nat → Int32) × (Nat → Int32)) => wX2 cI cZ cG h2 a2 (nI ng) (nI nT) mi rl tR u.1 mn u.2.1 u.2.2.1 u.2.2.2 su B) u)) (va_A (wX2 cI cZ cG h2 a2 (nI ng) (nI nT) mi rl tR pc mn mb mw mg su B) sz)) 0 0 (va_A (wX2 cI cZ cG h2 a2 (nI ng) (nI nT) mi rl tR pc mn mb mw mg su B) sz) := by
  refine K_start (cc := cX2_goesOn) (maxL := 2) (ret := some .boolean) (Qc := fun A => va_Qi (fun (r : Int32) (u : (Nat → Int32) × (Nat → Int32) × (Nat → Int32) × (Nat → Int32)) => r = (gO nT B rl tR mn t (pc, mb, mw, mg)).1 ∧ u = (gO nT B rl tR mn t (pc, mb, mw, mg)).2) (fun u => QB D (tyL cI cZ cG) A ((fun (u : (Nat → Int32) × (Nat → Int32) × (Nat → Int32) × (Nat → Int32)) => wX2 cI cZ cG h2 a2 (nI ng) (nI nT) mi rl tR u.1 mn u.2.1 u.2.2.1 u.2.2.2 su B) u)) A) (by decide) rfl (Nat.le_of_ble_eq_true rfl) ?_
  intro p e s m below meth c ls A hx hb hml hr hts hown hlocks hin hN hP hK hD hA hS hl hsz
  have hl : lv_has ls 2 [(0, .ref h2), (1, .int (nI t))] := hl
  have fl29 := hts (.fieldLink RX2 29 "ModelTown$Rails" "minutesInBlock" "[I") (by decide +kernel)
  have fl26 := hts (.fieldLink RX2 26 "ModelTown$Rails" "minutesNeeded" "[I") (by decide +kernel)
  have fl23 := hts (.fieldLink RX2 23 "ModelTown$Rails" "places" "[I") (by decide +kernel)
  have fl35 := hts (.fieldLink RX2 35 "ModelTown$Rails" "blocksGone" "[I") (by decide +kernel)
  have fl32 := hts (.fieldLink RX2 32 "ModelTown$Rails" "minutesWaited" "[I") (by decide +kernel)
  obtain ⟨r, n, q, hr0, hrE, hn2, hn12, hnE, hq0, hqE⟩ := hokT t (by omega)
  have hcr : (nI r).toNatClampNeg = r := nI_clamp (by omega)
  have hcq : (nI q).toNatClampNeg = q := nI_clamp (by omega)
  refine lv_aload_n hx hb dX2_goesOn_0 rfl (lv_at hl 0 rfl) ?_
  refine va_get (D := D) (ci := 2) (v := .ref (a2 5)) (C := RX2) (T := TX2) (N := 12) hx hb hts inX2_goesOn hown hK hP 0 rfl rfl 6 (by decide) fl29 (fun _ h9 => h9) rfl dX2_goesOn_1 ?_
  refine lv_iload_n hx hb dX2_goesOn_4 rfl (lv_at hl 1 rfl) ?_
  refine lv_dup2_11 hx hb dX2_goesOn_5 rfl rfl ?_
  refine K_iald hx hb hK hP 6 0 rfl rfl t (by omega) (Nat.le_of_ble_eq_true rfl) dX2_goesOn_6 ?_
  refine lv_iconst (v := 1) hx hb dX2_goesOn_7 (by decide) ?_
  refine lv_iadd hx hb dX2_goesOn_8 ?_
  refine K_iast hx hb hK hP hD hS 6 0 rfl rfl t (by omega) (Nat.le_of_ble_eq_true rfl) dX2_goesOn_9 (fun H locs hP hD hS => ?_)
  have hP : va_P D vwCl (wX2 cI cZ cG h2 a2 (nI ng) (nI nT) mi rl tR pc mn (upd mb t ((mb t) + 1)) mw mg su B) H := hP
  have hD : va_D A (wX2 cI cZ cG h2 a2 (nI ng) (nI nT) mi rl tR pc mn (upd mb t ((mb t) + 1)) mw mg su B) := hD
  refine lv_aload_n hx hb dX2_goesOn_10 rfl (lv_at hl 0 rfl) ?_
  refine va_get (D := D) (ci := 2) (v := .ref (a2 5)) (C := RX2) (T := TX2) (N := 12) hx hb hts inX2_goesOn hown hK hP 0 rfl rfl 6 (by decide) fl29 (fun _ h9 => h9) rfl dX2_goesOn_11 ?_
  refine lv_iload_n hx hb dX2_goesOn_14 rfl (lv_at hl 1 rfl) ?_
  refine K_iald hx hb hK hP 6 0 rfl rfl t (by omega) (Nat.le_of_ble_eq_true rfl) dX2_goesOn_15 ?_
  refine lv_topi (fun z1 ez1 => ?_)
  obtain rfl : z1 = mb t + 1 := ez1.trans pk_us
  refine lv_aload_n hx hb dX2_goesOn_16 rfl (lv_at hl 0 rfl) ?_
  refine va_get (D := D) (ci := 2) (v := .ref (a2 4)) (C := RX2) (T := TX2) (N := 12) hx hb hts inX2_goesOn hown hK hP 0 rfl rfl 5 (by decide) fl26 (fun _ h9 => h9) rfl dX2_goesOn_17 ?_
  refine lv_iload_n hx hb dX2_goesOn_20 rfl (lv_at hl 1 rfl) ?_
  refine K_iald hx hb hK hP 5 0 rfl rfl t (by omega) (Nat.le_of_ble_eq_true rfl) dX2_goesOn_21 ?_
  refine lv_icmp_ge (tgt := 27) hx hb dX2_goesOn_22 (by decide) (fun c2 => ?_) (fun c2 => ?_)
  · refine lv_aload_n hx hb dX2_goesOn_27 rfl (lv_at hl 0 rfl) ?_
    refine lv_iload_n hx hb dX2_goesOn_28 rfl (lv_at hl 1 rfl) ?_
    refine K_same (va_runV (As := [.int (nI t)]) (rest := []) ⟨hx, hb, hml, hown, hts⟩ (c_X2_trainAhead l D cI cZ cG h2 a2 _ ng nT mi rl tR pc mn (upd mb t ((mb t) + 1)) mw mg su B t hng hnT ht hokT) (cwV 1 hts gX2_goesOn_X2_trainAhead rfl rfl rfl (by decide +kernel) ⟨(Nat.le_of_ble_eq_true rfl), (Nat.le_of_ble_eq_true rfl)⟩) ⟨PB_blind, va_recv hK hP (ci := 2) (q0 := 0) rfl rfl, (K_preS hN hK hP hD).2⟩ rfl rfl hl.1 rfl (lv_room (Nat.le_of_ble_eq_true rfl)) dX2_goesOn_29 ⟨Nat.zero_le _, Nat.zero_le _⟩) hD hS hA (fun r3 u H locs hw3 hP hD hS => ?_)
    have hP : va_P D vwCl (wX2 cI cZ cG h2 a2 (nI ng) (nI nT) mi rl tR pc mn (upd mb t ((mb t) + 1)) mw mg su B) H := hP
    have hD : va_D A (wX2 cI cZ cG h2 a2 (nI ng) (nI nT) mi rl tR pc mn (upd mb t ((mb t) + 1)) mw mg su B) := hD
    rcases ho3 : aH nT B rl tR pc t with _ | b3
    · rw [ho3] at hw3
      obtain rfl : r3 = -6 := hw3
      refine lv_bipush (v := (-6)) hx hb dX2_goesOn_32 (by decide) ?_
      refine lv_icmp_eq (tgt := 49) hx hb dX2_goesOn_34 (by decide) (fun _ => ?_) (fun c4 => absurd c4 (by decide))
      refine lv_aload_n hx hb dX2_goesOn_49 rfl (lv_at hl 0 rfl) ?_
      refine va_get (D := D) (ci := 2) (v := .ref (a2 3)) (C := RX2) (T := TX2) (N := 12) hx hb hts inX2_goesOn hown hK hP 0 rfl rfl 4 (by decide) fl23 (fun _ h9 => h9) rfl dX2_goesOn_50 ?_
      refine lv_iload_n hx hb dX2_goesOn_53 rfl (lv_at hl 1 rfl) ?_
      refine lv_aload_n hx hb dX2_goesOn_54 rfl (lv_at hl 0 rfl) ?_
      refine lv_iload_n hx hb dX2_goesOn_55 rfl (lv_at hl 1 rfl) ?_
      refine K_same (va_runV (As := [.int (nI t)]) (rest := [.int (nI t), .ref (a2 3)]) ⟨hx, hb, hml, hown, hts⟩ (c_X2_nextPlace l D cI cZ cG h2 a2 _ ng nT mi rl tR pc mn (upd mb t ((mb t) + 1)) mw mg su B t hng hnT ht hokT) (cwV 1 hts gX2_goesOn_X2_nextPlace rfl rfl rfl (by decide +kernel) ⟨(Nat.le_of_ble_eq_true rfl), (Nat.le_of_ble_eq_true rfl)⟩) ⟨PB_blind, va_recv hK hP (ci := 2) (q0 := 0) rfl rfl, (K_preS hN hK hP hD).2⟩ rfl rfl hl.1 rfl (lv_room (Nat.le_of_ble_eq_true rfl)) dX2_goesOn_56 ⟨Nat.zero_le _, Nat.zero_le _⟩) hD hS hA (fun r5 u H locs hw5 hP hD hS => ?_)
      have hP : va_P D vwCl (wX2 cI cZ cG h2 a2 (nI ng) (nI nT) mi rl tR pc mn (upd mb t ((mb t) + 1)) mw mg su B) H := hP
      have hD : va_D A (wX2 cI cZ cG h2 a2 (nI ng) (nI nT) mi rl tR pc mn (upd mb t ((mb t) + 1)) mw mg su B) := hD
      obtain ⟨j5, hj5, hnp5⟩ := nxP_in (by omega) hrE hn12 hnE hq0 hqE
      obtain rfl : r5 = nI j5 := hw5.trans hnp5
      have hcj5 : (nI j5).toNatClampNeg = j5 := nI_clamp (by omega)
      refine K_iast hx hb hK hP hD hS 4 0 rfl rfl t (by omega) (Nat.le_of_ble_eq_true rfl) dX2_goesOn_59 (fun H locs hP hD hS => ?_)
      have hP : va_P D vwCl (wX2 cI cZ cG h2 a2 (nI ng) (nI nT) mi rl tR (upd pc t (nI j5)) mn (upd mb t ((mb t) + 1)) mw mg su B) H := hP
      have hD : va_D A (wX2 cI cZ cG h2 a2 (nI ng) (nI nT) mi rl tR (upd pc t (nI j5)) mn (upd mb t ((mb t) + 1)) mw mg su B) := hD
      refine lv_aload_n hx hb dX2_goesOn_60 rfl (lv_at hl 0 rfl) ?_
      refine va_get (D := D) (ci := 2) (v := .ref (a2 5)) (C := RX2) (T := TX2) (N := 12) hx hb hts inX2_goesOn hown hK hP 0 rfl rfl 6 (by decide) fl29 (fun _ h9 => h9) rfl dX2_goesOn_61 ?_
      refine lv_iload_n hx hb dX2_goesOn_64 rfl (lv_at hl 1 rfl) ?_
      refine lv_iconst (v := 0) hx hb dX2_goesOn_65 (by decide) ?_
      refine K_iast hx hb hK hP hD hS 6 0 rfl rfl t (by omega) (Nat.le_of_ble_eq_true rfl) dX2_goesOn_66 (fun H locs hP hD hS => ?_)
      have hP : va_P D vwCl (wX2 cI cZ cG h2 a2 (nI ng) (nI nT) mi rl tR (upd pc t (nI j5)) mn (upd (upd mb t ((mb t) + 1)) t 0) mw mg su B) H := hP
      have hD : va_D A (wX2 cI cZ cG h2 a2 (nI ng) (nI nT) mi rl tR (upd pc t (nI j5)) mn (upd (upd mb t ((mb t) + 1)) t 0) mw mg su B) := hD
      refine lv_aload_n hx hb dX2_goesOn_67 rfl (lv_at hl 0 rfl) ?_
      refine va_get (D := D) (ci := 2) (v := .ref (a2 7)) (C := RX2) (T := TX2) (N := 12) hx hb hts inX2_goesOn hown hK hP 0 rfl rfl 8 (by decide) fl35 (fun _ h9 => h9) rfl dX2_goesOn_68 ?_
      refine lv_iload_n hx hb dX2_goesOn_71 rfl (lv_at hl 1 rfl) ?_
      refine lv_dup2_11 hx hb dX2_goesOn_72 rfl rfl ?_
      refine K_iald hx hb hK hP 8 0 rfl rfl t (by omega) (Nat.le_of_ble_eq_true rfl) dX2_goesOn_73 ?_
      refine lv_iconst (v := 1) hx hb dX2_goesOn_74 (by decide) ?_
      refine lv_iadd hx hb dX2_goesOn_75 ?_
      refine K_iast hx hb hK hP hD hS 8 0 rfl rfl t (by omega) (Nat.le_of_ble_eq_true rfl) dX2_goesOn_76 (fun H locs hP hD hS => ?_)
      have hP : va_P D vwCl (wX2 cI cZ cG h2 a2 (nI ng) (nI nT) mi rl tR (upd pc t (nI j5)) mn (upd (upd mb t ((mb t) + 1)) t 0) mw (upd mg t ((mg t) + 1)) su B) H := hP
      have hD : va_D A (wX2 cI cZ cG h2 a2 (nI ng) (nI nT) mi rl tR (upd pc t (nI j5)) mn (upd (upd mb t ((mb t) + 1)) t 0) mw (upd mg t ((mg t) + 1)) su B) := hD
      refine lv_iconst (v := 1) hx hb dX2_goesOn_77 (by decide) ?_
      exact K_zret (wf := (fun (u : (Nat → Int32) × (Nat → Int32) × (Nat → Int32) × (Nat → Int32)) => wX2 cI cZ cG h2 a2 (nI ng) (nI nT) mi rl tR u.1 mn u.2.1 u.2.2.1 u.2.2.2 su B)) (upd pc t (nI j5), upd (upd mb t ((mb t) + 1)) t 0, mw, upd mg t ((mg t) + 1)) hx hb hr hlocks hP hK hD hS dX2_goesOn_78 rfl (by simp [gO, c2, ho3, hnp5, hcj5])
    · rw [ho3] at hw3
      obtain rfl : r3 = nI b3 := hw3
      have hbb := aH_lt ho3
      refine lv_bipush (v := (-6)) hx hb dX2_goesOn_32 (by decide) ?_
      refine lv_icmp_eq (tgt := 49) hx hb dX2_goesOn_34 (by decide) (fun c6 => absurd c6 (nI_neN (by omega) (by decide))) (fun c6 => ?_)
      refine lv_aload_n hx hb dX2_goesOn_37 rfl (lv_at hl 0 rfl) ?_
      refine va_get (D := D) (ci := 2) (v := .ref (a2 6)) (C := RX2) (T := TX2) (N := 12) hx hb hts inX2_goesOn hown hK hP 0 rfl rfl 7 (by decide) fl32 (fun _ h9 => h9) rfl dX2_goesOn_38 ?_
      refine lv_iload_n hx hb dX2_goesOn_41 rfl (lv_at hl 1 rfl) ?_
      refine lv_dup2_11 hx hb dX2_goesOn_42 rfl rfl ?_
      refine K_iald hx hb hK hP 7 0 rfl rfl t (by omega) (Nat.le_of_ble_eq_true rfl) dX2_goesOn_43 ?_
      refine lv_iconst (v := 1) hx hb dX2_goesOn_44 (by decide) ?_
      refine lv_iadd hx hb dX2_goesOn_45 ?_
      refine K_iast hx hb hK hP hD hS 7 0 rfl rfl t (by omega) (Nat.le_of_ble_eq_true rfl) dX2_goesOn_46 (fun H locs hP hD hS => ?_)
      have hP : va_P D vwCl (wX2 cI cZ cG h2 a2 (nI ng) (nI nT) mi rl tR pc mn (upd mb t ((mb t) + 1)) (upd mw t ((mw t) + 1)) mg su B) H := hP
      have hD : va_D A (wX2 cI cZ cG h2 a2 (nI ng) (nI nT) mi rl tR pc mn (upd mb t ((mb t) + 1)) (upd mw t ((mw t) + 1)) mg su B) := hD
      refine lv_iconst (v := 0) hx hb dX2_goesOn_47 (by decide) ?_
      exact K_zret (wf := (fun (u : (Nat → Int32) × (Nat → Int32) × (Nat → Int32) × (Nat → Int32)) => wX2 cI cZ cG h2 a2 (nI ng) (nI nT) mi rl tR u.1 mn u.2.1 u.2.2.1 u.2.2.2 su B)) (pc, upd mb t ((mb t) + 1), upd mw t ((mw t) + 1), mg) hx hb hr hlocks hP hK hD hS dX2_goesOn_48 rfl (by simp [gO, c2, ho3])
  · refine lv_iconst (v := 0) hx hb dX2_goesOn_25 (by decide) ?_
    exact K_zret (wf := (fun (u : (Nat → Int32) × (Nat → Int32) × (Nat → Int32) × (Nat → Int32)) => wX2 cI cZ cG h2 a2 (nI ng) (nI nT) mi rl tR u.1 mn u.2.1 u.2.2.1 u.2.2.2 su B)) (pc, upd mb t ((mb t) + 1), mw, mg) hx hb hr hlocks hP hK hD hS dX2_goesOn_26 rfl (by simp [gO, c2])
theorem inX2_goMinutes : ∀ w ∈ wsX20, w ∈ wsX2_goMinutes := by decide +kernel
set_option maxHeartbeats 8000000 in
set_option maxRecDepth 100000 in
/-- goMinutes -/
theorem c_X2_goMinutes (l : Launch) (D : va_G) (cI cZ cG : ClassId) (h2 : Nat) (a2 : Nat → Nat) (sz : Nat) (ng : Nat) (nT : Nat) (mi : Int32) (rl : Nat → Int32) (tR : Nat → Int32) (pc : Nat → Int32) (mn : Nat → Int32) (mb : Nat → Int32) (mw : Nat → Int32) (mg : Nat → Int32) (su : Nat → Int32) (B : Nat → Nat → Int32) (x : Int32) (hng : ng ≤ 3) (hnT : nT ≤ 4) (hokT : okT ng nT rl tR pc) (hsu : ∀ t, su t = 0 ∨ su t = 1) : Met l yX2_goMinutes wsX2_goMinutes ({ frames := 4, cells := 0, slots := 0, locals := 85 } : Room) (va_Pc [.ref h2, .int x] (PB D (tyL cI cZ cG) (wX2 cI cZ cG h2 a2 (nI ng) (nI nT) mi rl tR pc mn mb mw mg su B) sz)) (va_Qi (fun (r : Int32) (u : (Nat → Int32) × (Nat → Int32) × (Nat → Int32) × (Nat → Int32) × Int32) => r = (if inR x 1 500 = true then (gM nT B rl tR mn su (0, pc, mb, mw, mg) x.toNatClampNeg).1 else -2) ∧ u = if inR x 1 500 = true then ((gM nT B rl tR mn su (0, pc, mb, mw, mg) x.toNatClampNeg).2.1, (gM nT B rl tR mn su (0, pc, mb, mw, mg) x.toNatClampNeg).2.2.1, (gM nT B rl tR mn su (0, pc, mb, mw, mg) x.toNatClampNeg).2.2.2.1, (gM nT B rl tR mn su (0, pc, mb, mw, mg) x.toNatClampNeg).2.2.2.2, mi + x) else (pc, mb, mw, mg, mi)) (fun u => QB D (tyL cI cZ cG) (va_A (wX2 cI cZ cG h2 a2 (nI ng) (nI nT) mi rl tR pc mn mb mw mg su B) sz) ((fun (u : (Nat → Int32) × (Nat → Int32) × (Nat → Int32) × (Nat → Int32) × Int32) => wX2 cI cZ cG h2 a2 (nI ng) (nI nT) u.2.2.2.2 rl tR u.1 mn u.2.1 u.2.2.1 u.2.2.2.1 su B) u)) (va_A (wX2 cI cZ cG h2 a2 (nI ng) (nI nT) mi rl tR pc mn mb mw mg su B) sz)) 0 0 (va_A (wX2 cI cZ cG h2 a2 (nI ng) (nI nT) mi rl tR pc mn mb mw mg su B) sz) := by
  refine K_start (cc := cX2_goMinutes) (maxL := 5) (ret := some .int) (Qc := fun A => va_Qi (fun (r : Int32) (u : (Nat → Int32) × (Nat → Int32) × (Nat → Int32) × (Nat → Int32) × Int32) => r = (if inR x 1 500 = true then (gM nT B rl tR mn su (0, pc, mb, mw, mg) x.toNatClampNeg).1 else -2) ∧ u = if inR x 1 500 = true then ((gM nT B rl tR mn su (0, pc, mb, mw, mg) x.toNatClampNeg).2.1, (gM nT B rl tR mn su (0, pc, mb, mw, mg) x.toNatClampNeg).2.2.1, (gM nT B rl tR mn su (0, pc, mb, mw, mg) x.toNatClampNeg).2.2.2.1, (gM nT B rl tR mn su (0, pc, mb, mw, mg) x.toNatClampNeg).2.2.2.2, mi + x) else (pc, mb, mw, mg, mi)) (fun u => QB D (tyL cI cZ cG) A ((fun (u : (Nat → Int32) × (Nat → Int32) × (Nat → Int32) × (Nat → Int32) × Int32) => wX2 cI cZ cG h2 a2 (nI ng) (nI nT) u.2.2.2.2 rl tR u.1 mn u.2.1 u.2.2.1 u.2.2.2.1 su B) u)) A) (by decide) rfl (Nat.le_of_ble_eq_true rfl) ?_
  intro p e s m below meth c ls A hx hb hml hr hts hown hlocks hin hN hP hK hD hA hS hl hsz
  have hl : lv_has ls 5 [(0, .ref h2), (1, .int x)] := hl
  have fl78 := hts (.fieldLink RX2 78 "ModelTown$Rails" "minutesGone" "I") (by decide +kernel)
  have fl61 := hts (.fieldLink RX2 61 "ModelTown$Rails" "trains" "I") (by decide +kernel)
  have fl38 := hts (.fieldLink RX2 38 "ModelTown$Rails" "stuck" "[Z") (by decide +kernel)
  refine lv_iload_n hx hb dX2_goMinutes_0 rfl (lv_at hl 1 rfl) ?_
  refine lv_iconst (v := 1) hx hb dX2_goMinutes_1 (by decide) ?_
  refine lv_sipush (v := 500) hx hb dX2_goMinutes_2 (by decide) ?_
  refine K_none (va_runSN (As := [.int x, .int 1, .int 500]) (rest := []) ⟨hx, hb, hml, hown, hts⟩ (c_X4_isWithin l D cI cZ cG _ x 1 500) ⟨va_cnB (host := "ModelTown") 3 hts gX2_goMinutes_X4_isWithin_n50 rfl rfl rfl hN.2.2.2.2.1 (hts (.initialized RX4) (by decide +kernel)) (by decide +kernel) ⟨(Nat.le_of_ble_eq_true rfl), (Nat.le_of_ble_eq_true rfl)⟩, hts (.static yX4_isWithin) (by decide +kernel), trivial⟩ (K_pre0 hN hK) rfl rfl hl.1 rfl (lv_room (Nat.le_of_ble_eq_true rfl)) dX2_goMinutes_5 ⟨Nat.zero_le _, Nat.zero_le _⟩) hP hS hA (fun r1 _ H locs hw1 hP hS => ?_)
  rcases hw1 with ⟨rfl, hw1⟩ | ⟨rfl, hw1⟩
  · obtain ⟨n, hn1, hn2, rfl⟩ := inR_nat1 (a := 1) (b := 500) hw1 (by decide) (by decide)
    have hcn : (nI n).toNatClampNeg = n := nI_clamp (by omega)
    refine lv_if_ne (tgt := 14) hx hb dX2_goMinutes_8 (by decide) (fun _ => ?_) (fun c2 => absurd c2 (by decide))
    refine lv_iconst (v := 0) hx hb dX2_goMinutes_14 (by decide) ?_
    refine lv_istore_n (lv' := [(2, .int 0), (0, .ref h2), (1, .int (nI n))]) hx hb dX2_goMinutes_15 rfl hl (by decide) rfl (fun ls hl => ?_)
    refine lv_iconst (v := 0) hx hb dX2_goMinutes_16 (by decide) ?_
    refine lv_istore_n (lv' := [(3, .int 0), (2, .int 0), (0, .ref h2), (1, .int (nI n))]) hx hb dX2_goMinutes_17 rfl hl (by decide) rfl (fun ls hl => ?_)
    refine loopW6 (fun (i : Nat) (v : Int32) (P : Nat → Int32) (Mb : Nat → Int32) (Mw : Nat → Int32) (Mg : Nat → Int32) H locs ls => (i ≤ n) ∧ ((v, P, Mb, Mw, Mg) = gM nT B rl tR mn su (0, pc, mb, mw, mg) i) ∧ (okT ng nT rl tR P) ∧ va_P D vwCl (wX2 cI cZ cG h2 a2 (nI ng) (nI nT) mi rl tR P mn Mb Mw Mg su B) H ∧ va_D A (wX2 cI cZ cG h2 a2 (nI ng) (nI nT) mi rl tR P mn Mb Mw Mg su B) ∧ va_S A s.heap H locs ∧ lv_has ls 5 [(3, .int (nI i)), (2, .int v), (0, .ref h2), (1, .int (nI n))]) (fun (i : Nat) (v : Int32) (P : Nat → Int32) (Mb : Nat → Int32) (Mw : Nat → Int32) (Mg : Nat → Int32) => n - i) (fun i v P Mb Mw Mg H locs ls hI ih18 => ?_) 0 0 pc mb mw mg _ _ _ ⟨(by omega), rfl, hokT, hP, hD, hS, lv_sub hl [0, 1, 2, 3] rfl⟩
    obtain ⟨hi, hq, hok, hP, hD, hS, hl⟩ := hI
    refine lv_iload_n hx hb dX2_goMinutes_18 rfl (lv_at hl 0 rfl) ?_
    refine lv_iload_n hx hb dX2_goMinutes_19 rfl (lv_at hl 3 rfl) ?_
    refine lv_icmp_ge (tgt := 77) hx hb dX2_goMinutes_20 (by decide) (fun c3 => ?_) (fun c3 => ?_)
    · have c3 : n ≤ i := (nI_leI (a := n) (b := i) (by omega) (by omega)).mp c3
      have ek : i = n := by omega
      rw [ek] at hq
      refine lv_aload_n hx hb dX2_goMinutes_77 rfl (lv_at hl 2 rfl) ?_
      refine lv_dup hx hb dX2_goMinutes_78 rfl ?_
      refine va_get (D := D) (ci := 2) (v := .int mi) (C := RX2) (T := TX2) (N := 12) hx hb hts inX2_goMinutes hown hK hP 0 rfl rfl 11 (by decide) fl78 (fun _ h9 => h9) rfl dX2_goMinutes_79 ?_
      refine lv_iload_n hx hb dX2_goMinutes_82 rfl (lv_at hl 3 rfl) ?_
      refine lv_iadd hx hb dX2_goMinutes_83 ?_
      refine va_put (D := D) (ci := 2) (v := .int (mi + (nI n))) (ty := .int) (C := RX2) (T := TX2) (N := 12) hx hb hts inX2_goMinutes tyX2 tyX2_ok nmX2 hown hK hP hD hS 0 rfl rfl 11 (by decide) fl78 (fun _ h9 => h9) rfl (by decide +kernel) rfl rfl (Nat.le_of_ble_eq_true rfl) dX2_goMinutes_84 (fun H locs hP hD hS => ?_)
      have hP : va_P D vwCl (wX2 cI cZ cG h2 a2 (nI ng) (nI nT) (mi + (nI n)) rl tR P mn Mb Mw Mg su B) H := hP
      have hD : va_D A (wX2 cI cZ cG h2 a2 (nI ng) (nI nT) (mi + (nI n)) rl tR P mn Mb Mw Mg su B) := hD
      refine lv_iload_n hx hb dX2_goMinutes_87 rfl (lv_at hl 1 rfl) ?_
      exact K_iret (wf := (fun (u : (Nat → Int32) × (Nat → Int32) × (Nat → Int32) × (Nat → Int32) × Int32) => wX2 cI cZ cG h2 a2 (nI ng) (nI nT) u.2.2.2.2 rl tR u.1 mn u.2.1 u.2.2.1 u.2.2.2.1 su B)) (P, Mb, Mw, Mg, mi + (nI n)) hx hb hr hlocks hP hK hD hS dX2_goMinutes_88 (by rw [if_pos (by assumption), if_pos (by assumption), hcn, ← hq]; exact ⟨rfl, rfl⟩)
    · have c3 : ¬ n ≤ i := fun hq => c3 ((nI_leI (a := n) (b := i) (by omega) (by omega)).mpr hq)
      refine lv_iconst (v := 0) hx hb dX2_goMinutes_23 (by decide) ?_
      refine lv_istore (lv' := [(4, .int 0), (3, .int (nI i)), (2, .int v), (0, .ref h2), (1, .int (nI n))]) hx hb dX2_goMinutes_24 hl (by decide) rfl (fun ls hl => ?_)
      refine loopW6 (fun (k : Nat) (w : Int32) (P2 : Nat → Int32) (Mb2 : Nat → Int32) (Mw2 : Nat → Int32) (Mg2 : Nat → Int32) H locs ls => (k ≤ nT) ∧ ((w, P2, Mb2, Mw2, Mg2) = gT nT B rl tR mn su (v, P, Mb, Mw, Mg) k) ∧ (okT ng nT rl tR P2) ∧ va_P D vwCl (wX2 cI cZ cG h2 a2 (nI ng) (nI nT) mi rl tR P2 mn Mb2 Mw2 Mg2 su B) H ∧ va_D A (wX2 cI cZ cG h2 a2 (nI ng) (nI nT) mi rl tR P2 mn Mb2 Mw2 Mg2 su B) ∧ va_S A s.heap H locs ∧ lv_has ls 5 [(4, .int (nI k)), (3, .int (nI i)), (2, .int w), (0, .ref h2), (1, .int (nI n))]) (fun (k : Nat) (w : Int32) (P2 : Nat → Int32) (Mb2 : Nat → Int32) (Mw2 : Nat → Int32) (Mg2 : Nat → Int32) => nT - k) (fun k w P2 Mb2 Mw2 Mg2 H locs ls hI ih26 => ?_) 0 v P Mb Mw Mg _ _ _ ⟨(by omega), rfl, hok, hP, hD, hS, lv_sub hl [0, 1, 2, 3, 4] rfl⟩
      obtain ⟨hk, hq2, hok2, hP, hD, hS, hl⟩ := hI
      refine lv_iload hx hb dX2_goMinutes_26 (lv_at hl 0 rfl) ?_
      refine lv_aload_n hx hb dX2_goMinutes_28 rfl (lv_at hl 3 rfl) ?_
      refine va_get (D := D) (ci := 2) (v := .int (nI nT)) (C := RX2) (T := TX2) (N := 12) hx hb hts inX2_goMinutes hown hK hP 0 rfl rfl 10 (by decide) fl61 (fun _ h9 => h9) rfl dX2_goMinutes_29 ?_
      refine lv_icmp_ge (tgt := 71) hx hb dX2_goMinutes_32 (by decide) (fun c4 => ?_) (fun c4 => ?_)
      · have c4 : nT ≤ k := (nI_leI (a := nT) (b := k) (by omega) (by omega)).mp c4
        have ek2 : k = nT := by omega
        rw [ek2] at hq2
        refine lv_iinc (v := nI (i + 1)) (lv' := [(3, .int (nI (i + 1))), (4, .int (nI k)), (2, .int w), (0, .ref h2), (1, .int (nI n))]) hx hb dX2_goMinutes_71 hl (k := 1) rfl (inc1 _) (by decide) rfl (fun ls hl => ?_)
        refine lv_goto (tgt := 18) hx hb dX2_goMinutes_74 (by decide) ?_
        exact ih18 (i + 1) w P2 Mb2 Mw2 Mg2 _ _ _ ⟨(by omega), (by rw [gM, ← hq]; exact hq2), hok2, hP, hD, hS, lv_sub hl [0, 2, 3, 4] rfl⟩ (by omega)
      · have c4 : ¬ nT ≤ k := fun hq => c4 ((nI_leI (a := nT) (b := k) (by omega) (by omega)).mpr hq)
        have hk9 : k < nT := by omega
        refine lv_iload_n hx hb dX2_goMinutes_35 rfl (lv_at hl 2 rfl) ?_
        refine lv_aload_n hx hb dX2_goMinutes_36 rfl (lv_at hl 3 rfl) ?_
        refine va_get (D := D) (ci := 2) (v := .ref (a2 8)) (C := RX2) (T := TX2) (N := 12) hx hb hts inX2_goMinutes hown hK hP 0 rfl rfl 9 (by decide) fl38 (fun _ h9 => h9) rfl dX2_goMinutes_37 ?_
        refine lv_iload hx hb dX2_goMinutes_40 (lv_at hl 0 rfl) ?_
        refine K_zald hx hb hK hP 9 1 rfl rfl k (by omega) (Nat.le_of_ble_eq_true rfl) dX2_goMinutes_42 ?_
        refine lv_if_ne (tgt := 59) hx hb dX2_goMinutes_43 (by decide) (fun c5 => ?_) (fun c5 => ?_)
        · refine lv_iconst (v := 0) hx hb dX2_goMinutes_59 (by decide) ?_
          refine K_none (va_runSN (As := [.int 0]) (rest := [.int w]) ⟨hx, hb, hml, hown, hts⟩ (c_X4_oneIf l D cI cZ cG _ 0 (by decide)) ⟨va_cnB (host := "ModelTown") 1 hts gX2_goMinutes_X4_oneIf_n71 rfl rfl rfl hN.2.2.2.2.2.1 (hts (.initialized RX4) (by decide +kernel)) (by decide +kernel) ⟨(Nat.le_of_ble_eq_true rfl), (Nat.le_of_ble_eq_true rfl)⟩, hts (.static yX4_oneIf) (by decide +kernel), trivial⟩ (K_pre0 hN hK) rfl rfl hl.1 rfl (lv_room (Nat.le_of_ble_eq_true rfl)) dX2_goMinutes_60 ⟨Nat.zero_le _, Nat.zero_le _⟩) hP hS hA (fun r6 _ H locs hw6 hP hS => ?_)
          obtain rfl := hw6
          refine lv_iadd hx hb dX2_goMinutes_63 ?_
          refine lv_istore_n (lv' := [(2, .int (w + 0)), (4, .int (nI k)), (3, .int (nI i)), (0, .ref h2), (1, .int (nI n))]) hx hb dX2_goMinutes_64 rfl hl (by decide) rfl (fun ls hl => ?_)
          refine lv_iinc (v := nI (k + 1)) (lv' := [(4, .int (nI (k + 1))), (2, .int (w + 0)), (3, .int (nI i)), (0, .ref h2), (1, .int (nI n))]) hx hb dX2_goMinutes_65 hl (k := 1) rfl (inc1 _) (by decide) rfl (fun ls hl => ?_)
          refine lv_goto (tgt := 26) hx hb dX2_goMinutes_68 (by decide) ?_
          exact ih26 (k + 1) (w + 0) P2 Mb2 Mw2 Mg2 _ _ _ ⟨(by omega), (by rw [gT, ← hq2]; exact (if_neg c5).symm), hok2, hP, hD, hS, lv_sub hl [0, 2, 1, 3, 4] rfl⟩ (by omega)
        · refine lv_aload_n hx hb dX2_goMinutes_46 rfl (lv_at hl 3 rfl) ?_
          refine lv_iload hx hb dX2_goMinutes_47 (lv_at hl 0 rfl) ?_
          refine K_same (va_runV (As := [.int (nI k)]) (rest := [.int w]) ⟨hx, hb, hml, hown, hts⟩ (c_X2_goesOn l D cI cZ cG h2 a2 _ ng nT mi rl tR P2 mn Mb2 Mw2 Mg2 su B k hng hnT (by omega) hok2) (cwV 1 hts gX2_goMinutes_X2_goesOn rfl rfl rfl (by decide +kernel) ⟨(Nat.le_of_ble_eq_true rfl), (Nat.le_of_ble_eq_true rfl)⟩) ⟨PB_blind, va_recv hK hP (ci := 2) (q0 := 0) rfl rfl, (K_preS hN hK hP hD).2⟩ rfl rfl hl.1 rfl (lv_room (Nat.le_of_ble_eq_true rfl)) dX2_goMinutes_49 ⟨Nat.zero_le _, Nat.zero_le _⟩) hD hS hA (fun r7 u H locs hw7 hP hD hS => ?_)
          obtain ⟨pc27, mb27, mw27, mg27⟩ := u
          try dsimp only at hw7
          have hP : va_P D vwCl (wX2 cI cZ cG h2 a2 (nI ng) (nI nT) mi rl tR pc27 mn mb27 mw27 mg27 su B) H := hP
          have hD : va_D A (wX2 cI cZ cG h2 a2 (nI ng) (nI nT) mi rl tR pc27 mn mb27 mw27 mg27 su B) := hD
          have hr7 := hw7.1
          have hu7 := hw7.2
          have hr017 : r7 = 0 ∨ r7 = 1 := by rw [hr7]; exact gO_01
          rcases hr017 with rfl | rfl
          · skip
            refine lv_if_eq (tgt := 59) hx hb dX2_goMinutes_52 (by decide) (fun _ => ?_) (fun c8 => absurd c8 (by decide))
            refine lv_iconst (v := 0) hx hb dX2_goMinutes_59 (by decide) ?_
            refine K_none (va_runSN (As := [.int 0]) (rest := [.int w]) ⟨hx, hb, hml, hown, hts⟩ (c_X4_oneIf l D cI cZ cG _ 0 (by decide)) ⟨va_cnB (host := "ModelTown") 1 hts gX2_goMinutes_X4_oneIf_n71 rfl rfl rfl hN.2.2.2.2.2.1 (hts (.initialized RX4) (by decide +kernel)) (by decide +kernel) ⟨(Nat.le_of_ble_eq_true rfl), (Nat.le_of_ble_eq_true rfl)⟩, hts (.static yX4_oneIf) (by decide +kernel), trivial⟩ (K_pre0 hN hK) rfl rfl hl.1 rfl (lv_room (Nat.le_of_ble_eq_true rfl)) dX2_goMinutes_60 ⟨Nat.zero_le _, Nat.zero_le _⟩) hP hS hA (fun r9 _ H locs hw9 hP hS => ?_)
            obtain rfl := hw9
            refine lv_iadd hx hb dX2_goMinutes_63 ?_
            refine lv_istore_n (lv' := [(2, .int (w + 0)), (4, .int (nI k)), (3, .int (nI i)), (0, .ref h2), (1, .int (nI n))]) hx hb dX2_goMinutes_64 rfl hl (by decide) rfl (fun ls hl => ?_)
            refine lv_iinc (v := nI (k + 1)) (lv' := [(4, .int (nI (k + 1))), (2, .int (w + 0)), (3, .int (nI i)), (0, .ref h2), (1, .int (nI n))]) hx hb dX2_goMinutes_65 hl (k := 1) rfl (inc1 _) (by decide) rfl (fun ls hl => ?_)
            refine lv_goto (tgt := 26) hx hb dX2_goMinutes_68 (by decide) ?_
            exact ih26 (k + 1) (w + 0) pc27 mb27 mw27 mg27 _ _ _ ⟨(by omega), (by
              rw [gT, ← hq2]
              refine Eq.trans ?_ (if_pos c5).symm
              show (w + 0, pc27, mb27, mw27, mg27) = (w + (gO nT B rl tR mn k (P2, Mb2, Mw2, Mg2)).1, (gO nT B rl tR mn k (P2, Mb2, Mw2, Mg2)).2)
              rw [← hr7, ← hu7]), (by
              have h9 := gO_ok (B := B) (mn := mn) (t := k) (s := (P2, Mb2, Mw2, Mg2)) hng hok2 (by omega)
              rw [← hu7] at h9
              exact h9), hP, hD, hS, lv_sub hl [0, 2, 1, 3, 4] rfl⟩ (by omega)
          · skip
            refine lv_if_eq (tgt := 59) hx hb dX2_goMinutes_52 (by decide) (fun c10 => absurd c10 (by decide)) (fun _ => ?_)
            refine lv_iconst (v := 1) hx hb dX2_goMinutes_55 (by decide) ?_
            refine lv_goto (tgt := 60) hx hb dX2_goMinutes_56 (by decide) ?_
            refine K_none (va_runSN (As := [.int 1]) (rest := [.int w]) ⟨hx, hb, hml, hown, hts⟩ (c_X4_oneIf l D cI cZ cG _ 1 (by decide)) ⟨va_cnB (host := "ModelTown") 1 hts gX2_goMinutes_X4_oneIf_n71 rfl rfl rfl hN.2.2.2.2.2.1 (hts (.initialized RX4) (by decide +kernel)) (by decide +kernel) ⟨(Nat.le_of_ble_eq_true rfl), (Nat.le_of_ble_eq_true rfl)⟩, hts (.static yX4_oneIf) (by decide +kernel), trivial⟩ (K_pre0 hN hK) rfl rfl hl.1 rfl (lv_room (Nat.le_of_ble_eq_true rfl)) dX2_goMinutes_60 ⟨Nat.zero_le _, Nat.zero_le _⟩) hP hS hA (fun r11 _ H locs hw11 hP hS => ?_)
            obtain rfl := hw11
            refine lv_iadd hx hb dX2_goMinutes_63 ?_
            refine lv_istore_n (lv' := [(2, .int (w + 1)), (4, .int (nI k)), (3, .int (nI i)), (0, .ref h2), (1, .int (nI n))]) hx hb dX2_goMinutes_64 rfl hl (by decide) rfl (fun ls hl => ?_)
            refine lv_iinc (v := nI (k + 1)) (lv' := [(4, .int (nI (k + 1))), (2, .int (w + 1)), (3, .int (nI i)), (0, .ref h2), (1, .int (nI n))]) hx hb dX2_goMinutes_65 hl (k := 1) rfl (inc1 _) (by decide) rfl (fun ls hl => ?_)
            refine lv_goto (tgt := 26) hx hb dX2_goMinutes_68 (by decide) ?_
            exact ih26 (k + 1) (w + 1) pc27 mb27 mw27 mg27 _ _ _ ⟨(by omega), (by
              rw [gT, ← hq2]
              refine Eq.trans ?_ (if_pos c5).symm
              show (w + 1, pc27, mb27, mw27, mg27) = (w + (gO nT B rl tR mn k (P2, Mb2, Mw2, Mg2)).1, (gO nT B rl tR mn k (P2, Mb2, Mw2, Mg2)).2)
              rw [← hr7, ← hu7]), (by
              have h9 := gO_ok (B := B) (mn := mn) (t := k) (s := (P2, Mb2, Mw2, Mg2)) hng hok2 (by omega)
              rw [← hu7] at h9
              exact h9), hP, hD, hS, lv_sub hl [0, 2, 1, 3, 4] rfl⟩ (by omega)
  · skip
    refine lv_if_ne (tgt := 14) hx hb dX2_goMinutes_8 (by decide) (fun c12 => absurd c12 (by decide)) (fun _ => ?_)
    refine lv_bipush (v := (-2)) hx hb dX2_goMinutes_11 (by decide) ?_
    exact K_iret (wf := (fun (u : (Nat → Int32) × (Nat → Int32) × (Nat → Int32) × (Nat → Int32) × Int32) => wX2 cI cZ cG h2 a2 (nI ng) (nI nT) u.2.2.2.2 rl tR u.1 mn u.2.1 u.2.2.1 u.2.2.2.1 su B)) (pc, mb, mw, mg, mi) hx hb hr hlocks hP hK hD hS dX2_goMinutes_13 (by simp [hw1])
theorem inX2_aboutTrain : ∀ w ∈ wsX20, w ∈ wsX2_aboutTrain := by decide +kernel
set_option maxHeartbeats 8000000 in
set_option maxRecDepth 100000 in
/-- aboutTrain -/
theorem c_X2_aboutTrain (l : Launch) (D : va_G) (cI cZ cG : ClassId) (h2 : Nat) (a2 : Nat → Nat) (sz : Nat) (ng : Nat) (nT : Nat) (mi : Int32) (rl : Nat → Int32) (tR : Nat → Int32) (pc : Nat → Int32) (mn : Nat → Int32) (mb : Nat → Int32) (mw : Nat → Int32) (mg : Nat → Int32) (su : Nat → Int32) (B : Nat → Nat → Int32) (x : Int32) (w : Int32) (hng : ng ≤ 3) (hnT : nT ≤ 4) (hokT : okT ng nT rl tR pc) (hsu : ∀ t, su t = 0 ∨ su t = 1) : Met l yX2_aboutTrain wsX2_aboutTrain ({ frames := 3, cells := 0, slots := 0, locals := 64 } : Room) (va_Pc [.ref h2, .int x, .int w] (PB D (tyL cI cZ cG) (wX2 cI cZ cG h2 a2 (nI ng) (nI nT) mi rl tR pc mn mb mw mg su B) sz)) (va_Qi (fun (r : Int32) (_ : Unit) => r = rAbout nT B rl tR pc mb mw mg su x w) (fun u => QB D (tyL cI cZ cG) (va_A (wX2 cI cZ cG h2 a2 (nI ng) (nI nT) mi rl tR pc mn mb mw mg su B) sz) ((fun (_ : Unit) => wX2 cI cZ cG h2 a2 (nI ng) (nI nT) mi rl tR pc mn mb mw mg su B) u)) (va_A (wX2 cI cZ cG h2 a2 (nI ng) (nI nT) mi rl tR pc mn mb mw mg su B) sz)) 0 0 (va_A (wX2 cI cZ cG h2 a2 (nI ng) (nI nT) mi rl tR pc mn mb mw mg su B) sz) := by
  refine K_start (cc := cX2_aboutTrain) (maxL := 3) (ret := some .int) (Qc := fun A => va_Qi (fun (r : Int32) (_ : Unit) => r = rAbout nT B rl tR pc mb mw mg su x w) (fun u => QB D (tyL cI cZ cG) A ((fun (_ : Unit) => wX2 cI cZ cG h2 a2 (nI ng) (nI nT) mi rl tR pc mn mb mw mg su B) u)) A) (by decide) rfl (Nat.le_of_ble_eq_true rfl) ?_
  intro p e s m below meth c ls A hx hb hml hr hts hown hlocks hin hN hP hK hD hA hS hl hsz
  have hl : lv_has ls 3 [(0, .ref h2), (1, .int x), (2, .int w)] := hl
  have fl20 := hts (.fieldLink RX2 20 "ModelTown$Rails" "trainRings" "[I") (by decide +kernel)
  have fl23 := hts (.fieldLink RX2 23 "ModelTown$Rails" "places" "[I") (by decide +kernel)
  have fl29 := hts (.fieldLink RX2 29 "ModelTown$Rails" "minutesInBlock" "[I") (by decide +kernel)
  have fl38 := hts (.fieldLink RX2 38 "ModelTown$Rails" "stuck" "[Z") (by decide +kernel)
  have fl32 := hts (.fieldLink RX2 32 "ModelTown$Rails" "minutesWaited" "[I") (by decide +kernel)
  have fl35 := hts (.fieldLink RX2 35 "ModelTown$Rails" "blocksGone" "[I") (by decide +kernel)
  refine lv_aload_n hx hb dX2_aboutTrain_0 rfl (lv_at hl 0 rfl) ?_
  refine lv_iload_n hx hb dX2_aboutTrain_1 rfl (lv_at hl 1 rfl) ?_
  refine K_same (va_runV (As := [.int x]) (rest := []) ⟨hx, hb, hml, hown, hts⟩ (c_X2_isTrain l D cI cZ cG h2 a2 _ ng nT mi rl tR pc mn mb mw mg su B x hng hnT) (cwV 1 hts gX2_aboutTrain_X2_isTrain rfl rfl rfl (by decide +kernel) ⟨(Nat.le_of_ble_eq_true rfl), (Nat.le_of_ble_eq_true rfl)⟩) ⟨PB_blind, va_recv hK hP (ci := 2) (q0 := 0) rfl rfl, (K_preS hN hK hP hD).2⟩ rfl rfl hl.1 rfl (lv_room (Nat.le_of_ble_eq_true rfl)) dX2_aboutTrain_2 ⟨Nat.zero_le _, Nat.zero_le _⟩) hD hS hA (fun r1 u H locs hw1 hP hD hS => ?_)
  have hP : va_P D vwCl (wX2 cI cZ cG h2 a2 (nI ng) (nI nT) mi rl tR pc mn mb mw mg su B) H := hP
  have hD : va_D A (wX2 cI cZ cG h2 a2 (nI ng) (nI nT) mi rl tR pc mn mb mw mg su B) := hD
  rcases hw1 with ⟨rfl, hw1⟩ | ⟨rfl, hw1⟩
  · obtain ⟨t, ht, rfl⟩ := inR_lt (by omega) hw1
    have hct : (nI t).toNatClampNeg = t := nI_clamp (by omega)
    refine lv_if_ne (tgt := 10) hx hb dX2_aboutTrain_5 (by decide) (fun _ => ?_) (fun c2 => absurd c2 (by decide))
    refine lv_iload_n hx hb dX2_aboutTrain_10 rfl (lv_at hl 2 rfl) ?_
    rcases (sw_8 w : w = 0 ∨ w = 1 ∨ w = 2 ∨ w = 3 ∨ w = 4 ∨ w = 5 ∨ w = 6 ∨ w = 7 ∨ (w.toInt < 0 ∨ 7 < w.toInt)) with hsw3 | hsw3 | hsw3 | hsw3 | hsw3 | hsw3 | hsw3 | hsw3 | hsw3
    · subst hsw3
      refine lv_tableIn (off := 45) (tgt := 56) hx hb dX2_aboutTrain_11 (by decide) (by decide) (by rfl) (by decide) ?_
      refine lv_aload_n hx hb dX2_aboutTrain_56 rfl (lv_at hl 0 rfl) ?_
      refine va_get (D := D) (ci := 2) (v := .ref (a2 2)) (C := RX2) (T := TX2) (N := 12) hx hb hts inX2_aboutTrain hown hK hP 0 rfl rfl 3 (by decide) fl20 (fun _ h9 => h9) rfl dX2_aboutTrain_57 ?_
      refine lv_iload_n hx hb dX2_aboutTrain_60 rfl (lv_at hl 1 rfl) ?_
      refine K_iald hx hb hK hP 3 0 rfl rfl t (by omega) (Nat.le_of_ble_eq_true rfl) dX2_aboutTrain_61 ?_
      exact K_iret (wf := (fun (_ : Unit) => wX2 cI cZ cG h2 a2 (nI ng) (nI nT) mi rl tR pc mn mb mw mg su B)) () hx hb hr hlocks hP hK hD hS dX2_aboutTrain_62 (by simp [rAbout, oI, hw1, hct])
    · subst hsw3
      refine lv_tableIn (off := 52) (tgt := 63) hx hb dX2_aboutTrain_11 (by decide) (by decide) (by rfl) (by decide) ?_
      refine lv_aload_n hx hb dX2_aboutTrain_63 rfl (lv_at hl 0 rfl) ?_
      refine va_get (D := D) (ci := 2) (v := .ref (a2 3)) (C := RX2) (T := TX2) (N := 12) hx hb hts inX2_aboutTrain hown hK hP 0 rfl rfl 4 (by decide) fl23 (fun _ h9 => h9) rfl dX2_aboutTrain_64 ?_
      refine lv_iload_n hx hb dX2_aboutTrain_67 rfl (lv_at hl 1 rfl) ?_
      refine K_iald hx hb hK hP 4 0 rfl rfl t (by omega) (Nat.le_of_ble_eq_true rfl) dX2_aboutTrain_68 ?_
      exact K_iret (wf := (fun (_ : Unit) => wX2 cI cZ cG h2 a2 (nI ng) (nI nT) mi rl tR pc mn mb mw mg su B)) () hx hb hr hlocks hP hK hD hS dX2_aboutTrain_69 (by simp [rAbout, oI, hw1, hct])
    · subst hsw3
      refine lv_tableIn (off := 59) (tgt := 70) hx hb dX2_aboutTrain_11 (by decide) (by decide) (by rfl) (by decide) ?_
      refine lv_aload_n hx hb dX2_aboutTrain_70 rfl (lv_at hl 0 rfl) ?_
      refine lv_iload_n hx hb dX2_aboutTrain_71 rfl (lv_at hl 1 rfl) ?_
      refine K_same (va_runV (As := [.int (nI t)]) (rest := []) ⟨hx, hb, hml, hown, hts⟩ (c_X2_blockOf l D cI cZ cG h2 a2 _ ng nT mi rl tR pc mn mb mw mg su B t hng hnT (by omega) hokT) (cwV 1 hts gX2_aboutTrain_X2_blockOf rfl rfl rfl (by decide +kernel) ⟨(Nat.le_of_ble_eq_true rfl), (Nat.le_of_ble_eq_true rfl)⟩) ⟨PB_blind, va_recv hK hP (ci := 2) (q0 := 0) rfl rfl, (K_preS hN hK hP hD).2⟩ rfl rfl hl.1 rfl (lv_room (Nat.le_of_ble_eq_true rfl)) dX2_aboutTrain_72 ⟨Nat.zero_le _, Nat.zero_le _⟩) hD hS hA (fun r4 u H locs hw4 hP hD hS => ?_)
      have hP : va_P D vwCl (wX2 cI cZ cG h2 a2 (nI ng) (nI nT) mi rl tR pc mn mb mw mg su B) H := hP
      have hD : va_D A (wX2 cI cZ cG h2 a2 (nI ng) (nI nT) mi rl tR pc mn mb mw mg su B) := hD
      obtain rfl := hw4
      exact K_iret (wf := (fun (_ : Unit) => wX2 cI cZ cG h2 a2 (nI ng) (nI nT) mi rl tR pc mn mb mw mg su B)) () hx hb hr hlocks hP hK hD hS dX2_aboutTrain_75 (by simp [rAbout, oI, hw1, hct])
    · subst hsw3
      refine lv_tableIn (off := 65) (tgt := 76) hx hb dX2_aboutTrain_11 (by decide) (by decide) (by rfl) (by decide) ?_
      refine lv_aload_n hx hb dX2_aboutTrain_76 rfl (lv_at hl 0 rfl) ?_
      refine va_get (D := D) (ci := 2) (v := .ref (a2 5)) (C := RX2) (T := TX2) (N := 12) hx hb hts inX2_aboutTrain hown hK hP 0 rfl rfl 6 (by decide) fl29 (fun _ h9 => h9) rfl dX2_aboutTrain_77 ?_
      refine lv_iload_n hx hb dX2_aboutTrain_80 rfl (lv_at hl 1 rfl) ?_
      refine K_iald hx hb hK hP 6 0 rfl rfl t (by omega) (Nat.le_of_ble_eq_true rfl) dX2_aboutTrain_81 ?_
      exact K_iret (wf := (fun (_ : Unit) => wX2 cI cZ cG h2 a2 (nI ng) (nI nT) mi rl tR pc mn mb mw mg su B)) () hx hb hr hlocks hP hK hD hS dX2_aboutTrain_82 (by simp [rAbout, oI, hw1, hct])
    · subst hsw3
      refine lv_tableIn (off := 72) (tgt := 83) hx hb dX2_aboutTrain_11 (by decide) (by decide) (by rfl) (by decide) ?_
      refine lv_aload_n hx hb dX2_aboutTrain_83 rfl (lv_at hl 0 rfl) ?_
      refine va_get (D := D) (ci := 2) (v := .ref (a2 8)) (C := RX2) (T := TX2) (N := 12) hx hb hts inX2_aboutTrain hown hK hP 0 rfl rfl 9 (by decide) fl38 (fun _ h9 => h9) rfl dX2_aboutTrain_84 ?_
      refine lv_iload_n hx hb dX2_aboutTrain_87 rfl (lv_at hl 1 rfl) ?_
      refine K_zald hx hb hK hP 9 1 rfl rfl t (by omega) (Nat.le_of_ble_eq_true rfl) dX2_aboutTrain_88 ?_
      refine K_none (va_runSN (As := [.int (su t)]) (rest := []) ⟨hx, hb, hml, hown, hts⟩ (c_X4_oneIf l D cI cZ cG _ (su t) (hsu t)) ⟨va_cnB (host := "ModelTown") 1 hts gX2_aboutTrain_X4_oneIf_n71 rfl rfl rfl hN.2.2.2.2.2.1 (hts (.initialized RX4) (by decide +kernel)) (by decide +kernel) ⟨(Nat.le_of_ble_eq_true rfl), (Nat.le_of_ble_eq_true rfl)⟩, hts (.static yX4_oneIf) (by decide +kernel), trivial⟩ (K_pre0 hN hK) rfl rfl hl.1 rfl (lv_room (Nat.le_of_ble_eq_true rfl)) dX2_aboutTrain_89 ⟨Nat.zero_le _, Nat.zero_le _⟩) hP hS hA (fun r5 _ H locs hw5 hP hS => ?_)
      obtain rfl := hw5
      exact K_iret (wf := (fun (_ : Unit) => wX2 cI cZ cG h2 a2 (nI ng) (nI nT) mi rl tR pc mn mb mw mg su B)) () hx hb hr hlocks hP hK hD hS dX2_aboutTrain_92 (by simp [rAbout, oI, hw1, hct])
    · subst hsw3
      refine lv_tableIn (off := 82) (tgt := 93) hx hb dX2_aboutTrain_11 (by decide) (by decide) (by rfl) (by decide) ?_
      refine lv_aload_n hx hb dX2_aboutTrain_93 rfl (lv_at hl 0 rfl) ?_
      refine va_get (D := D) (ci := 2) (v := .ref (a2 6)) (C := RX2) (T := TX2) (N := 12) hx hb hts inX2_aboutTrain hown hK hP 0 rfl rfl 7 (by decide) fl32 (fun _ h9 => h9) rfl dX2_aboutTrain_94 ?_
      refine lv_iload_n hx hb dX2_aboutTrain_97 rfl (lv_at hl 1 rfl) ?_
      refine K_iald hx hb hK hP 7 0 rfl rfl t (by omega) (Nat.le_of_ble_eq_true rfl) dX2_aboutTrain_98 ?_
      exact K_iret (wf := (fun (_ : Unit) => wX2 cI cZ cG h2 a2 (nI ng) (nI nT) mi rl tR pc mn mb mw mg su B)) () hx hb hr hlocks hP hK hD hS dX2_aboutTrain_99 (by simp [rAbout, oI, hw1, hct])
    · subst hsw3
      refine lv_tableIn (off := 89) (tgt := 100) hx hb dX2_aboutTrain_11 (by decide) (by decide) (by rfl) (by decide) ?_
      refine lv_aload_n hx hb dX2_aboutTrain_100 rfl (lv_at hl 0 rfl) ?_
      refine va_get (D := D) (ci := 2) (v := .ref (a2 7)) (C := RX2) (T := TX2) (N := 12) hx hb hts inX2_aboutTrain hown hK hP 0 rfl rfl 8 (by decide) fl35 (fun _ h9 => h9) rfl dX2_aboutTrain_101 ?_
      refine lv_iload_n hx hb dX2_aboutTrain_104 rfl (lv_at hl 1 rfl) ?_
      refine K_iald hx hb hK hP 8 0 rfl rfl t (by omega) (Nat.le_of_ble_eq_true rfl) dX2_aboutTrain_105 ?_
      exact K_iret (wf := (fun (_ : Unit) => wX2 cI cZ cG h2 a2 (nI ng) (nI nT) mi rl tR pc mn mb mw mg su B)) () hx hb hr hlocks hP hK hD hS dX2_aboutTrain_106 (by simp [rAbout, oI, hw1, hct])
    · subst hsw3
      refine lv_tableIn (off := 96) (tgt := 107) hx hb dX2_aboutTrain_11 (by decide) (by decide) (by rfl) (by decide) ?_
      refine lv_aload_n hx hb dX2_aboutTrain_107 rfl (lv_at hl 0 rfl) ?_
      refine lv_iload_n hx hb dX2_aboutTrain_108 rfl (lv_at hl 1 rfl) ?_
      refine K_same (va_runV (As := [.int (nI t)]) (rest := []) ⟨hx, hb, hml, hown, hts⟩ (c_X2_trainAhead l D cI cZ cG h2 a2 _ ng nT mi rl tR pc mn mb mw mg su B t hng hnT (by omega) hokT) (cwV 1 hts gX2_aboutTrain_X2_trainAhead rfl rfl rfl (by decide +kernel) ⟨(Nat.le_of_ble_eq_true rfl), (Nat.le_of_ble_eq_true rfl)⟩) ⟨PB_blind, va_recv hK hP (ci := 2) (q0 := 0) rfl rfl, (K_preS hN hK hP hD).2⟩ rfl rfl hl.1 rfl (lv_room (Nat.le_of_ble_eq_true rfl)) dX2_aboutTrain_109 ⟨Nat.zero_le _, Nat.zero_le _⟩) hD hS hA (fun r6 u H locs hw6 hP hD hS => ?_)
      have hP : va_P D vwCl (wX2 cI cZ cG h2 a2 (nI ng) (nI nT) mi rl tR pc mn mb mw mg su B) H := hP
      have hD : va_D A (wX2 cI cZ cG h2 a2 (nI ng) (nI nT) mi rl tR pc mn mb mw mg su B) := hD
      rcases ho6 : aH nT B rl tR pc t with _ | b6
      · rw [ho6] at hw6
        obtain rfl : r6 = -6 := hw6
        exact K_iret (wf := (fun (_ : Unit) => wX2 cI cZ cG h2 a2 (nI ng) (nI nT) mi rl tR pc mn mb mw mg su B)) () hx hb hr hlocks hP hK hD hS dX2_aboutTrain_112 (by simp [rAbout, oI, hw1, hct, ho6])
      · rw [ho6] at hw6
        obtain rfl : r6 = nI b6 := hw6
        have hbb := aH_lt ho6
        exact K_iret (wf := (fun (_ : Unit) => wX2 cI cZ cG h2 a2 (nI ng) (nI nT) mi rl tR pc mn mb mw mg su B)) () hx hb hr hlocks hP hK hD hS dX2_aboutTrain_112 (by simp [rAbout, oI, hw1, hct, ho6])
    · have n7 : ¬ w = 0 := fun hq => by rw [hq] at hsw3; revert hsw3; decide
      have n8 : ¬ w = 1 := fun hq => by rw [hq] at hsw3; revert hsw3; decide
      have n9 : ¬ w = 2 := fun hq => by rw [hq] at hsw3; revert hsw3; decide
      have n10 : ¬ w = 3 := fun hq => by rw [hq] at hsw3; revert hsw3; decide
      have n11 : ¬ w = 4 := fun hq => by rw [hq] at hsw3; revert hsw3; decide
      have n12 : ¬ w = 5 := fun hq => by rw [hq] at hsw3; revert hsw3; decide
      have n13 : ¬ w = 6 := fun hq => by rw [hq] at hsw3; revert hsw3; decide
      have n14 : ¬ w = 7 := fun hq => by rw [hq] at hsw3; revert hsw3; decide
      refine lv_tableOut (tgt := 113) hx hb dX2_aboutTrain_11 hsw3 (by decide) ?_
      refine lv_bipush (v := (-2)) hx hb dX2_aboutTrain_113 (by decide) ?_
      exact K_iret (wf := (fun (_ : Unit) => wX2 cI cZ cG h2 a2 (nI ng) (nI nT) mi rl tR pc mn mb mw mg su B)) () hx hb hr hlocks hP hK hD hS dX2_aboutTrain_115 (by simp [rAbout, oI, hw1, hct, n7, n8, n9, n10, n11, n12, n13, n14])
  · skip
    refine lv_if_ne (tgt := 10) hx hb dX2_aboutTrain_5 (by decide) (fun c15 => absurd c15 (by decide)) (fun _ => ?_)
    refine lv_iconst (v := (-1)) hx hb dX2_aboutTrain_8 (by decide) ?_
    exact K_iret (wf := (fun (_ : Unit) => wX2 cI cZ cG h2 a2 (nI ng) (nI nT) mi rl tR pc mn mb mw mg su B)) () hx hb hr hlocks hP hK hD hS dX2_aboutTrain_9 (by simp [rAbout, oI, hw1])
theorem inX2_mayGoOn : ∀ w ∈ wsX20, w ∈ wsX2_mayGoOn := by decide +kernel
set_option maxHeartbeats 8000000 in
set_option maxRecDepth 100000 in
/-- mayGoOn -/
theorem c_X2_mayGoOn (l : Launch) (D : va_G) (cI cZ cG : ClassId) (h2 : Nat) (a2 : Nat → Nat) (sz : Nat) (ng : Nat) (nT : Nat) (mi : Int32) (rl : Nat → Int32) (tR : Nat → Int32) (pc : Nat → Int32) (mn : Nat → Int32) (mb : Nat → Int32) (mw : Nat → Int32) (mg : Nat → Int32) (su : Nat → Int32) (B : Nat → Nat → Int32) (t : Nat) (z : Int32) (hng : ng ≤ 3) (hnT : nT ≤ 4) (ht : t < nT) (hokT : okT ng nT rl tR pc) : Met l yX2_mayGoOn wsX2_mayGoOn ({ frames := 3, cells := 0, slots := 0, locals := 64 } : Room) (va_Pc [.ref h2, .int (nI t), .int z] (PB D (tyL cI cZ cG) (wX2 cI cZ cG h2 a2 (nI ng) (nI nT) mi rl tR pc mn mb mw mg su B) sz)) (va_Qi (fun (r : Int32) (_ : Unit) => bo r (mgo (su t) (aH nT B rl tR pc t) z = true)) (fun u => QB D (tyL cI cZ cG) (va_A (wX2 cI cZ cG h2 a2 (nI ng) (nI nT) mi rl tR pc mn mb mw mg su B) sz) ((fun (_ : Unit) => wX2 cI cZ cG h2 a2 (nI ng) (nI nT) mi rl tR pc mn mb mw mg su B) u)) (va_A (wX2 cI cZ cG h2 a2 (nI ng) (nI nT) mi rl tR pc mn mb mw mg su B) sz)) 0 0 (va_A (wX2 cI cZ cG h2 a2 (nI ng) (nI nT) mi rl tR pc mn mb mw mg su B) sz) := by
  refine K_start (cc := cX2_mayGoOn) (maxL := 4) (ret := some .boolean) (Qc := fun A => va_Qi (fun (r : Int32) (_ : Unit) => bo r (mgo (su t) (aH nT B rl tR pc t) z = true)) (fun u => QB D (tyL cI cZ cG) A ((fun (_ : Unit) => wX2 cI cZ cG h2 a2 (nI ng) (nI nT) mi rl tR pc mn mb mw mg su B) u)) A) (by decide) rfl (Nat.le_of_ble_eq_true rfl) ?_
  intro p e s m below meth c ls A hx hb hml hr hts hown hlocks hin hN hP hK hD hA hS hl hsz
  have hl : lv_has ls 4 [(0, .ref h2), (1, .int (nI t)), (2, .int z)] := hl
  have fl38 := hts (.fieldLink RX2 38 "ModelTown$Rails" "stuck" "[Z") (by decide +kernel)
  refine lv_aload_n hx hb dX2_mayGoOn_0 rfl (lv_at hl 0 rfl) ?_
  refine va_get (D := D) (ci := 2) (v := .ref (a2 8)) (C := RX2) (T := TX2) (N := 12) hx hb hts inX2_mayGoOn hown hK hP 0 rfl rfl 9 (by decide) fl38 (fun _ h9 => h9) rfl dX2_mayGoOn_1 ?_
  refine lv_iload_n hx hb dX2_mayGoOn_4 rfl (lv_at hl 1 rfl) ?_
  refine K_zald hx hb hK hP 9 1 rfl rfl t (by omega) (Nat.le_of_ble_eq_true rfl) dX2_mayGoOn_5 ?_
  refine lv_if_eq (tgt := 11) hx hb dX2_mayGoOn_6 (by decide) (fun c1 => ?_) (fun c1 => ?_)
  · refine lv_aload_n hx hb dX2_mayGoOn_11 rfl (lv_at hl 0 rfl) ?_
    refine lv_iload_n hx hb dX2_mayGoOn_12 rfl (lv_at hl 1 rfl) ?_
    refine K_same (va_runV (As := [.int (nI t)]) (rest := []) ⟨hx, hb, hml, hown, hts⟩ (c_X2_trainAhead l D cI cZ cG h2 a2 _ ng nT mi rl tR pc mn mb mw mg su B t hng hnT ht hokT) (cwV 1 hts gX2_mayGoOn_X2_trainAhead rfl rfl rfl (by decide +kernel) ⟨(Nat.le_of_ble_eq_true rfl), (Nat.le_of_ble_eq_true rfl)⟩) ⟨PB_blind, va_recv hK hP (ci := 2) (q0 := 0) rfl rfl, (K_preS hN hK hP hD).2⟩ rfl rfl hl.1 rfl (lv_room (Nat.le_of_ble_eq_true rfl)) dX2_mayGoOn_13 ⟨Nat.zero_le _, Nat.zero_le _⟩) hD hS hA (fun r2 u H locs hw2 hP hD hS => ?_)
    have hP : va_P D vwCl (wX2 cI cZ cG h2 a2 (nI ng) (nI nT) mi rl tR pc mn mb mw mg su B) H := hP
    have hD : va_D A (wX2 cI cZ cG h2 a2 (nI ng) (nI nT) mi rl tR pc mn mb mw mg su B) := hD
    rcases ho2 : aH nT B rl tR pc t with _ | b2
    · rw [ho2] at hw2
      obtain rfl : r2 = -6 := hw2
      refine lv_istore_n (lv' := [(3, .int (-6)), (0, .ref h2), (1, .int (nI t)), (2, .int z)]) hx hb dX2_mayGoOn_16 rfl hl (by decide) rfl (fun ls hl => ?_)
      refine lv_iload_n hx hb dX2_mayGoOn_17 rfl (lv_at hl 0 rfl) ?_
      refine lv_bipush (v := (-6)) hx hb dX2_mayGoOn_18 (by decide) ?_
      refine lv_icmp_eq (tgt := 31) hx hb dX2_mayGoOn_20 (by decide) (fun _ => ?_) (fun c3 => absurd c3 (by decide))
      refine lv_iconst (v := 1) hx hb dX2_mayGoOn_31 (by decide) ?_
      refine lv_goto (tgt := 36) hx hb dX2_mayGoOn_32 (by decide) ?_
      exact K_zret (wf := (fun (_ : Unit) => wX2 cI cZ cG h2 a2 (nI ng) (nI nT) mi rl tR pc mn mb mw mg su B)) () hx hb hr hlocks hP hK hD hS dX2_mayGoOn_36 rfl (Or.inl ⟨rfl, by simp [mgo, eq_true c1, ho2]⟩)
    · rw [ho2] at hw2
      obtain rfl : r2 = nI b2 := hw2
      have hbb := aH_lt ho2
      refine lv_istore_n (lv' := [(3, .int (nI b2)), (0, .ref h2), (1, .int (nI t)), (2, .int z)]) hx hb dX2_mayGoOn_16 rfl hl (by decide) rfl (fun ls hl => ?_)
      refine lv_iload_n hx hb dX2_mayGoOn_17 rfl (lv_at hl 0 rfl) ?_
      refine lv_bipush (v := (-6)) hx hb dX2_mayGoOn_18 (by decide) ?_
      refine lv_icmp_eq (tgt := 31) hx hb dX2_mayGoOn_20 (by decide) (fun c4 => absurd c4 (nI_neN (by omega) (by decide))) (fun c4 => ?_)
      refine lv_iload_n hx hb dX2_mayGoOn_23 rfl (lv_at hl 3 rfl) ?_
      refine lv_iload_n hx hb dX2_mayGoOn_24 rfl (lv_at hl 0 rfl) ?_
      refine lv_ishr hx hb dX2_mayGoOn_25 ?_
      refine lv_iconst (v := 1) hx hb dX2_mayGoOn_26 (by decide) ?_
      refine lv_iand hx hb dX2_mayGoOn_27 ?_
      refine lv_if_ne (tgt := 35) hx hb dX2_mayGoOn_28 (by decide) (fun c5 => ?_) (fun c5 => ?_)
      · refine lv_iconst (v := 0) hx hb dX2_mayGoOn_35 (by decide) ?_
        exact K_zret (wf := (fun (_ : Unit) => wX2 cI cZ cG h2 a2 (nI ng) (nI nT) mi rl tR pc mn mb mw mg su B)) () hx hb hr hlocks hP hK hD hS dX2_mayGoOn_36 rfl (Or.inr ⟨rfl, by simp [mgo, eq_true c1, ho2, c5]⟩)
      · refine lv_iconst (v := 1) hx hb dX2_mayGoOn_31 (by decide) ?_
        refine lv_goto (tgt := 36) hx hb dX2_mayGoOn_32 (by decide) ?_
        exact K_zret (wf := (fun (_ : Unit) => wX2 cI cZ cG h2 a2 (nI ng) (nI nT) mi rl tR pc mn mb mw mg su B)) () hx hb hr hlocks hP hK hD hS dX2_mayGoOn_36 rfl (Or.inl ⟨rfl, by simp [mgo, eq_true c1, ho2, eq_true c5]⟩)
  · refine lv_iconst (v := 0) hx hb dX2_mayGoOn_9 (by decide) ?_
    exact K_zret (wf := (fun (_ : Unit) => wX2 cI cZ cG h2 a2 (nI ng) (nI nT) mi rl tR pc mn mb mw mg su B)) () hx hb hr hlocks hP hK hD hS dX2_mayGoOn_10 rfl (Or.inr ⟨rfl, by simp [mgo, c1]⟩)
theorem inX2_standing : ∀ w ∈ wsX20, w ∈ wsX2_standing := by decide +kernel
set_option maxHeartbeats 8000000 in
set_option maxRecDepth 100000 in
/-- standing -/
theorem c_X2_standing (l : Launch) (D : va_G) (cI cZ cG : ClassId) (h2 : Nat) (a2 : Nat → Nat) (sz : Nat) (ng : Nat) (nT : Nat) (mi : Int32) (rl : Nat → Int32) (tR : Nat → Int32) (pc : Nat → Int32) (mn : Nat → Int32) (mb : Nat → Int32) (mw : Nat → Int32) (mg : Nat → Int32) (su : Nat → Int32) (B : Nat → Nat → Int32) (hng : ng ≤ 3) (hnT : nT ≤ 4) (hokT : okT ng nT rl tR pc) : Met l yX2_standing wsX2_standing ({ frames := 4, cells := 0, slots := 0, locals := 87 } : Room) (va_Pc [.ref h2] (PB D (tyL cI cZ cG) (wX2 cI cZ cG h2 a2 (nI ng) (nI nT) mi rl tR pc mn mb mw mg su B) sz)) (va_Qi (fun (r : Int32) (_ : Unit) => r = sO (fun t s => mgo (su t) (aH nT B rl tR pc t) s) nT nT) (fun u => QB D (tyL cI cZ cG) (va_A (wX2 cI cZ cG h2 a2 (nI ng) (nI nT) mi rl tR pc mn mb mw mg su B) sz) ((fun (_ : Unit) => wX2 cI cZ cG h2 a2 (nI ng) (nI nT) mi rl tR pc mn mb mw mg su B) u)) (va_A (wX2 cI cZ cG h2 a2 (nI ng) (nI nT) mi rl tR pc mn mb mw mg su B) sz)) 0 0 (va_A (wX2 cI cZ cG h2 a2 (nI ng) (nI nT) mi rl tR pc mn mb mw mg su B) sz) := by
  refine K_start (cc := cX2_standing) (maxL := 4) (ret := some .int) (Qc := fun A => va_Qi (fun (r : Int32) (_ : Unit) => r = sO (fun t s => mgo (su t) (aH nT B rl tR pc t) s) nT nT) (fun u => QB D (tyL cI cZ cG) A ((fun (_ : Unit) => wX2 cI cZ cG h2 a2 (nI ng) (nI nT) mi rl tR pc mn mb mw mg su B) u)) A) (by decide) rfl (Nat.le_of_ble_eq_true rfl) ?_
  intro p e s m below meth c ls A hx hb hml hr hts hown hlocks hin hN hP hK hD hA hS hl hsz
  have hl : lv_has ls 4 [(0, .ref h2)] := hl
  have fl61 := hts (.fieldLink RX2 61 "ModelTown$Rails" "trains" "I") (by decide +kernel)
  refine lv_iconst (v := 1) hx hb dX2_standing_0 (by decide) ?_
  refine lv_aload_n hx hb dX2_standing_1 rfl (lv_at hl 0 rfl) ?_
  refine va_get (D := D) (ci := 2) (v := .int (nI nT)) (C := RX2) (T := TX2) (N := 12) hx hb hts inX2_standing hown hK hP 0 rfl rfl 10 (by decide) fl61 (fun _ h9 => h9) rfl dX2_standing_2 ?_
  refine lv_ishl hx hb dX2_standing_5 ?_
  refine lv_iconst (v := 1) hx hb dX2_standing_6 (by decide) ?_
  refine lv_isub hx hb dX2_standing_7 ?_
  refine lv_istore_n (lv' := [(1, .int ((1 <<< ((nI nT) &&& 31)) - 1)), (0, .ref h2)]) hx hb dX2_standing_8 rfl hl (by decide) rfl (fun ls hl => ?_)
  refine lv_iconst (v := 0) hx hb dX2_standing_9 (by decide) ?_
  refine lv_istore_n (lv' := [(2, .int 0), (1, .int ((1 <<< ((nI nT) &&& 31)) - 1)), (0, .ref h2)]) hx hb dX2_standing_10 rfl hl (by decide) rfl (fun ls hl => ?_)
  refine loopW2 (fun (r : Nat) (z : Int32) H locs ls => (r ≤ nT) ∧ (z = sO (fun t s => mgo (su t) (aH nT B rl tR pc t) s) nT r) ∧ va_P D vwCl (wX2 cI cZ cG h2 a2 (nI ng) (nI nT) mi rl tR pc mn mb mw mg su B) H ∧ va_D A (wX2 cI cZ cG h2 a2 (nI ng) (nI nT) mi rl tR pc mn mb mw mg su B) ∧ va_S A s.heap H locs ∧ lv_has ls 4 [(2, .int (nI r)), (1, .int z), (0, .ref h2)]) (fun (r : Nat) (z : Int32) => nT - r) (fun r z H locs ls hI ih11 => ?_) 0 ((1 <<< ((nI nT) &&& 31)) - 1) _ _ _ ⟨(by omega), rfl, hP, hD, hS, lv_sub hl [0, 1, 2] rfl⟩
  obtain ⟨hr9, hz, hP, hD, hS, hl⟩ := hI
  refine lv_iload_n hx hb dX2_standing_11 rfl (lv_at hl 0 rfl) ?_
  refine lv_aload_n hx hb dX2_standing_12 rfl (lv_at hl 2 rfl) ?_
  refine va_get (D := D) (ci := 2) (v := .int (nI nT)) (C := RX2) (T := TX2) (N := 12) hx hb hts inX2_standing hown hK hP 0 rfl rfl 10 (by decide) fl61 (fun _ h9 => h9) rfl dX2_standing_13 ?_
  refine lv_icmp_ge (tgt := 58) hx hb dX2_standing_16 (by decide) (fun c1 => ?_) (fun c1 => ?_)
  · have c1 : nT ≤ r := (nI_leI (a := nT) (b := r) (by omega) (by omega)).mp c1
    have ek : r = nT := by omega
    rw [ek] at hz
    refine lv_iload_n hx hb dX2_standing_58 rfl (lv_at hl 1 rfl) ?_
    exact K_iret (wf := (fun (_ : Unit) => wX2 cI cZ cG h2 a2 (nI ng) (nI nT) mi rl tR pc mn mb mw mg su B)) () hx hb hr hlocks hP hK hD hS dX2_standing_59 hz
  · have c1 : ¬ nT ≤ r := fun hq => c1 ((nI_leI (a := nT) (b := r) (by omega) (by omega)).mpr hq)
    refine lv_iconst (v := 0) hx hb dX2_standing_19 (by decide) ?_
    refine lv_istore_n (lv' := [(3, .int 0), (2, .int (nI r)), (1, .int z), (0, .ref h2)]) hx hb dX2_standing_20 rfl hl (by decide) rfl (fun ls hl => ?_)
    refine loopW2 (fun (k : Nat) (y : Int32) H locs ls => (k ≤ nT) ∧ (y = sI (fun t s => mgo (su t) (aH nT B rl tR pc t) s) z k) ∧ va_P D vwCl (wX2 cI cZ cG h2 a2 (nI ng) (nI nT) mi rl tR pc mn mb mw mg su B) H ∧ va_D A (wX2 cI cZ cG h2 a2 (nI ng) (nI nT) mi rl tR pc mn mb mw mg su B) ∧ va_S A s.heap H locs ∧ lv_has ls 4 [(3, .int (nI k)), (2, .int (nI r)), (1, .int y), (0, .ref h2)]) (fun (k : Nat) (y : Int32) => nT - k) (fun k y H locs ls hI ih21 => ?_) 0 z _ _ _ ⟨(by omega), rfl, hP, hD, hS, lv_sub hl [0, 1, 2, 3] rfl⟩
    obtain ⟨hk, hy, hP, hD, hS, hl⟩ := hI
    refine lv_iload_n hx hb dX2_standing_21 rfl (lv_at hl 0 rfl) ?_
    refine lv_aload_n hx hb dX2_standing_22 rfl (lv_at hl 3 rfl) ?_
    refine va_get (D := D) (ci := 2) (v := .int (nI nT)) (C := RX2) (T := TX2) (N := 12) hx hb hts inX2_standing hown hK hP 0 rfl rfl 10 (by decide) fl61 (fun _ h9 => h9) rfl dX2_standing_23 ?_
    refine lv_icmp_ge (tgt := 52) hx hb dX2_standing_26 (by decide) (fun c2 => ?_) (fun c2 => ?_)
    · have c2 : nT ≤ k := (nI_leI (a := nT) (b := k) (by omega) (by omega)).mp c2
      have ek2 : k = nT := by omega
      rw [ek2] at hy
      refine lv_iinc (v := nI (r + 1)) (lv' := [(2, .int (nI (r + 1))), (3, .int (nI k)), (1, .int y), (0, .ref h2)]) hx hb dX2_standing_52 hl (k := 1) rfl (inc1 _) (by decide) rfl (fun ls hl => ?_)
      refine lv_goto (tgt := 11) hx hb dX2_standing_55 (by decide) ?_
      exact ih11 (r + 1) y _ _ _ ⟨(by omega), (by rw [sO, ← hz]; exact hy), hP, hD, hS, lv_sub hl [0, 2, 3] rfl⟩ (by omega)
    · have c2 : ¬ nT ≤ k := fun hq => c2 ((nI_leI (a := nT) (b := k) (by omega) (by omega)).mpr hq)
      have hk9 : k < nT := by omega
      refine lv_aload_n hx hb dX2_standing_29 rfl (lv_at hl 3 rfl) ?_
      refine lv_iload_n hx hb dX2_standing_30 rfl (lv_at hl 0 rfl) ?_
      refine lv_iload_n hx hb dX2_standing_31 rfl (lv_at hl 2 rfl) ?_
      refine K_same (va_runV (As := [.int (nI k), .int y]) (rest := []) ⟨hx, hb, hml, hown, hts⟩ (c_X2_mayGoOn l D cI cZ cG h2 a2 _ ng nT mi rl tR pc mn mb mw mg su B k y hng hnT (by omega) hokT) (cwV 2 hts gX2_standing_X2_mayGoOn rfl rfl rfl (by decide +kernel) ⟨(Nat.le_of_ble_eq_true rfl), (Nat.le_of_ble_eq_true rfl)⟩) ⟨PB_blind, va_recv hK hP (ci := 2) (q0 := 0) rfl rfl, (K_preS hN hK hP hD).2⟩ rfl rfl hl.1 rfl (lv_room (Nat.le_of_ble_eq_true rfl)) dX2_standing_32 ⟨Nat.zero_le _, Nat.zero_le _⟩) hD hS hA (fun r3 u H locs hw3 hP hD hS => ?_)
      have hP : va_P D vwCl (wX2 cI cZ cG h2 a2 (nI ng) (nI nT) mi rl tR pc mn mb mw mg su B) H := hP
      have hD : va_D A (wX2 cI cZ cG h2 a2 (nI ng) (nI nT) mi rl tR pc mn mb mw mg su B) := hD
      rcases hw3 with ⟨rfl, hw3⟩ | ⟨rfl, hw3⟩
      · skip
        refine lv_if_eq (tgt := 46) hx hb dX2_standing_35 (by decide) (fun c4 => absurd c4 (by decide)) (fun _ => ?_)
        refine lv_iload_n hx hb dX2_standing_38 rfl (lv_at hl 2 rfl) ?_
        refine lv_iconst (v := 1) hx hb dX2_standing_39 (by decide) ?_
        refine lv_iload_n hx hb dX2_standing_40 rfl (lv_at hl 0 rfl) ?_
        refine lv_ishl hx hb dX2_standing_41 ?_
        refine lv_iconst (v := (-1)) hx hb dX2_standing_42 (by decide) ?_
        refine lv_ixor hx hb dX2_standing_43 ?_
        refine lv_iand hx hb dX2_standing_44 ?_
        refine lv_istore_n (lv' := [(1, .int (y &&& ((1 <<< ((nI k) &&& 31)) ^^^ (-1)))), (3, .int (nI k)), (2, .int (nI r)), (0, .ref h2)]) hx hb dX2_standing_45 rfl hl (by decide) rfl (fun ls hl => ?_)
        refine lv_iinc (v := nI (k + 1)) (lv' := [(3, .int (nI (k + 1))), (1, .int (y &&& ((1 <<< ((nI k) &&& 31)) ^^^ (-1)))), (2, .int (nI r)), (0, .ref h2)]) hx hb dX2_standing_46 hl (k := 1) rfl (inc1 _) (by decide) rfl (fun ls hl => ?_)
        refine lv_goto (tgt := 21) hx hb dX2_standing_49 (by decide) ?_
        exact ih21 (k + 1) (y &&& ((1 <<< ((nI k) &&& 31)) ^^^ (-1))) _ _ _ ⟨(by omega), (by rw [sI, ← hy]; exact (if_pos hw3).symm), hP, hD, hS, lv_sub hl [0, 2, 1, 3] rfl⟩ (by omega)
      · skip
        refine lv_if_eq (tgt := 46) hx hb dX2_standing_35 (by decide) (fun _ => ?_) (fun c5 => absurd c5 (by decide))
        refine lv_iinc (v := nI (k + 1)) (lv' := [(3, .int (nI (k + 1))), (2, .int (nI r)), (1, .int y), (0, .ref h2)]) hx hb dX2_standing_46 hl (k := 0) rfl (inc1 _) (by decide) rfl (fun ls hl => ?_)
        refine lv_goto (tgt := 21) hx hb dX2_standing_49 (by decide) ?_
        exact ih21 (k + 1) y _ _ _ ⟨(by omega), (by rw [sI, ← hy]; exact (if_neg hw3).symm), hP, hD, hS, lv_sub hl [0, 1, 2, 3] rfl⟩ (by omega)
theorem inX2_addRing : ∀ w ∈ wsX20, w ∈ wsX2_addRing := by decide +kernel
set_option maxHeartbeats 8000000 in
set_option maxRecDepth 100000 in
/-- addRing -/
theorem c_X2_addRing (l : Launch) (D : va_G) (cI cZ cG : ClassId) (h2 : Nat) (a2 : Nat → Nat) (sz : Nat) (ng : Nat) (nT : Nat) (mi : Int32) (rl : Nat → Int32) (tR : Nat → Int32) (pc : Nat → Int32) (mn : Nat → Int32) (mb : Nat → Int32) (mw : Nat → Int32) (mg : Nat → Int32) (su : Nat → Int32) (B : Nat → Nat → Int32) (hng : ng ≤ 3) (hnT : nT ≤ 4) : Met l yX2_addRing wsX2_addRing ({ frames := 0, cells := 0, slots := 0, locals := 0 } : Room) (va_Pc [.ref h2] (PB D (tyL cI cZ cG) (wX2 cI cZ cG h2 a2 (nI ng) (nI nT) mi rl tR pc mn mb mw mg su B) sz)) (va_Qi (fun (r : Int32) (u : Nat) => r = rRing ng ∧ u = if ng = 3 then ng else ng + 1) (fun u => QB D (tyL cI cZ cG) (va_A (wX2 cI cZ cG h2 a2 (nI ng) (nI nT) mi rl tR pc mn mb mw mg su B) sz) ((fun (u : Nat) => wX2 cI cZ cG h2 a2 (nI u) (nI nT) mi rl tR pc mn mb mw mg su B) u)) (va_A (wX2 cI cZ cG h2 a2 (nI ng) (nI nT) mi rl tR pc mn mb mw mg su B) sz)) 0 0 (va_A (wX2 cI cZ cG h2 a2 (nI ng) (nI nT) mi rl tR pc mn mb mw mg su B) sz) := by
  refine K_start (cc := cX2_addRing) (maxL := 1) (ret := some .int) (Qc := fun A => va_Qi (fun (r : Int32) (u : Nat) => r = rRing ng ∧ u = if ng = 3 then ng else ng + 1) (fun u => QB D (tyL cI cZ cG) A ((fun (u : Nat) => wX2 cI cZ cG h2 a2 (nI u) (nI nT) mi rl tR pc mn mb mw mg su B) u)) A) (by decide) rfl (Nat.le_of_ble_eq_true rfl) ?_
  intro p e s m below meth c ls A hx hb hml hr hts hown hlocks hin hN hP hK hD hA hS hl hsz
  have hl : lv_has ls 1 [(0, .ref h2)] := hl
  have fl42 := hts (.fieldLink RX2 42 "ModelTown$Rails" "rings" "I") (by decide +kernel)
  refine lv_aload_n hx hb dX2_addRing_0 rfl (lv_at hl 0 rfl) ?_
  refine va_get (D := D) (ci := 2) (v := .int (nI ng)) (C := RX2) (T := TX2) (N := 12) hx hb hts inX2_addRing hown hK hP 0 rfl rfl 2 (by decide) fl42 (fun _ h9 => h9) rfl dX2_addRing_1 ?_
  refine lv_iconst (v := 3) hx hb dX2_addRing_4 (by decide) ?_
  refine lv_icmp_lt (tgt := 11) hx hb dX2_addRing_5 (by decide) (fun c1 => ?_) (fun c1 => ?_)
  · have c1 : ng < 3 := (nI_ltI (a := ng) (b := 3) (by omega) (by omega)).mp c1
    have c1 : ¬ ng = 3 := by omega
    refine lv_aload_n hx hb dX2_addRing_11 rfl (lv_at hl 0 rfl) ?_
    refine lv_dup hx hb dX2_addRing_12 rfl ?_
    refine va_get (D := D) (ci := 2) (v := .int (nI ng)) (C := RX2) (T := TX2) (N := 12) hx hb hts inX2_addRing hown hK hP 0 rfl rfl 2 (by decide) fl42 (fun _ h9 => h9) rfl dX2_addRing_13 ?_
    refine lv_iconst (v := 1) hx hb dX2_addRing_16 (by decide) ?_
    refine lv_iadd hx hb dX2_addRing_17 ?_
    refine lv_topi (fun z2 ez2 => ?_)
    obtain rfl : z2 = nI (ng + 1) := ez2.trans (nI_add ng 1)
    refine va_put (D := D) (ci := 2) (v := .int (nI (ng + 1))) (ty := .int) (C := RX2) (T := TX2) (N := 12) hx hb hts inX2_addRing tyX2 tyX2_ok nmX2 hown hK hP hD hS 0 rfl rfl 2 (by decide) fl42 (fun _ h9 => h9) rfl (by decide +kernel) rfl rfl (Nat.le_of_ble_eq_true rfl) dX2_addRing_18 (fun H locs hP hD hS => ?_)
    have hP : va_P D vwCl (wX2 cI cZ cG h2 a2 (nI (ng + 1)) (nI nT) mi rl tR pc mn mb mw mg su B) H := hP
    have hD : va_D A (wX2 cI cZ cG h2 a2 (nI (ng + 1)) (nI nT) mi rl tR pc mn mb mw mg su B) := hD
    refine lv_aload_n hx hb dX2_addRing_21 rfl (lv_at hl 0 rfl) ?_
    refine va_get (D := D) (ci := 2) (v := .int (nI (ng + 1))) (C := RX2) (T := TX2) (N := 12) hx hb hts inX2_addRing hown hK hP 0 rfl rfl 2 (by decide) fl42 (fun _ h9 => h9) rfl dX2_addRing_22 ?_
    refine lv_iconst (v := 1) hx hb dX2_addRing_25 (by decide) ?_
    refine lv_isub hx hb dX2_addRing_26 ?_
    refine lv_topi (fun z3 ez3 => ?_)
    obtain rfl : z3 = nI ng := ez3.trans (nI_pred ng)
    exact K_iret (wf := (fun (u : Nat) => wX2 cI cZ cG h2 a2 (nI u) (nI nT) mi rl tR pc mn mb mw mg su B)) (ng + 1) hx hb hr hlocks hP hK hD hS dX2_addRing_27 (by simp [rRing, c1])
  · have c1 : ¬ ng < 3 := fun hq => c1 ((nI_ltI (a := ng) (b := 3) (by omega) (by omega)).mpr hq)
    have c1 : ng = 3 := by omega
    refine lv_bipush (v := (-4)) hx hb dX2_addRing_8 (by decide) ?_
    exact K_iret (wf := (fun (u : Nat) => wX2 cI cZ cG h2 a2 (nI u) (nI nT) mi rl tR pc mn mb mw mg su B)) ng hx hb hr hlocks hP hK hD hS dX2_addRing_10 (by simp [rRing, eq_true c1])
theorem inX2_setStuck : ∀ w ∈ wsX20, w ∈ wsX2_setStuck := by decide +kernel
set_option maxHeartbeats 8000000 in
set_option maxRecDepth 100000 in
/-- setStuck -/
theorem c_X2_setStuck (l : Launch) (D : va_G) (cI cZ cG : ClassId) (h2 : Nat) (a2 : Nat → Nat) (sz : Nat) (ng : Nat) (nT : Nat) (mi : Int32) (rl : Nat → Int32) (tR : Nat → Int32) (pc : Nat → Int32) (mn : Nat → Int32) (mb : Nat → Int32) (mw : Nat → Int32) (mg : Nat → Int32) (su : Nat → Int32) (B : Nat → Nat → Int32) (x : Int32) (z : Int32) (hng : ng ≤ 3) (hnT : nT ≤ 4) (hsu : ∀ t, su t = 0 ∨ su t = 1) (hz01 : z = 0 ∨ z = 1) : Met l yX2_setStuck wsX2_setStuck ({ frames := 2, cells := 0, slots := 0, locals := 43 } : Room) (va_Pc [.ref h2, .int x, .int z] (PB D (tyL cI cZ cG) (wX2 cI cZ cG h2 a2 (nI ng) (nI nT) mi rl tR pc mn mb mw mg su B) sz)) (va_Qi (fun (r : Int32) (u : Nat → Int32) => r = (if inR x 0 (nI nT - 1) = true then su x.toNatClampNeg else -1) ∧ u = if inR x 0 (nI nT - 1) = true then upd su x.toNatClampNeg z else su) (fun u => QB D (tyL cI cZ cG) (va_A (wX2 cI cZ cG h2 a2 (nI ng) (nI nT) mi rl tR pc mn mb mw mg su B) sz) ((fun (u : (Nat → Int32)) => wX2 cI cZ cG h2 a2 (nI ng) (nI nT) mi rl tR pc mn mb mw mg u B) u)) (va_A (wX2 cI cZ cG h2 a2 (nI ng) (nI nT) mi rl tR pc mn mb mw mg su B) sz)) 0 0 (va_A (wX2 cI cZ cG h2 a2 (nI ng) (nI nT) mi rl tR pc mn mb mw mg su B) sz) := by
  refine K_start (cc := cX2_setStuck) (maxL := 4) (ret := some .int) (Qc := fun A => va_Qi (fun (r : Int32) (u : Nat → Int32) => r = (if inR x 0 (nI nT - 1) = true then su x.toNatClampNeg else -1) ∧ u = if inR x 0 (nI nT - 1) = true then upd su x.toNatClampNeg z else su) (fun u => QB D (tyL cI cZ cG) A ((fun (u : (Nat → Int32)) => wX2 cI cZ cG h2 a2 (nI ng) (nI nT) mi rl tR pc mn mb mw mg u B) u)) A) (by decide) rfl (Nat.le_of_ble_eq_true rfl) ?_
  intro p e s m below meth c ls A hx hb hml hr hts hown hlocks hin hN hP hK hD hA hS hl hsz
  have hl : lv_has ls 4 [(0, .ref h2), (1, .int x), (2, .int z)] := hl
  have fl38 := hts (.fieldLink RX2 38 "ModelTown$Rails" "stuck" "[Z") (by decide +kernel)
  refine lv_aload_n hx hb dX2_setStuck_0 rfl (lv_at hl 0 rfl) ?_
  refine lv_iload_n hx hb dX2_setStuck_1 rfl (lv_at hl 1 rfl) ?_
  refine K_same (va_runV (As := [.int x]) (rest := []) ⟨hx, hb, hml, hown, hts⟩ (c_X2_isTrain l D cI cZ cG h2 a2 _ ng nT mi rl tR pc mn mb mw mg su B x hng hnT) (cwV 1 hts gX2_setStuck_X2_isTrain rfl rfl rfl (by decide +kernel) ⟨(Nat.le_of_ble_eq_true rfl), (Nat.le_of_ble_eq_true rfl)⟩) ⟨PB_blind, va_recv hK hP (ci := 2) (q0 := 0) rfl rfl, (K_preS hN hK hP hD).2⟩ rfl rfl hl.1 rfl (lv_room (Nat.le_of_ble_eq_true rfl)) dX2_setStuck_2 ⟨Nat.zero_le _, Nat.zero_le _⟩) hD hS hA (fun r1 u H locs hw1 hP hD hS => ?_)
  have hP : va_P D vwCl (wX2 cI cZ cG h2 a2 (nI ng) (nI nT) mi rl tR pc mn mb mw mg su B) H := hP
  have hD : va_D A (wX2 cI cZ cG h2 a2 (nI ng) (nI nT) mi rl tR pc mn mb mw mg su B) := hD
  rcases hw1 with ⟨rfl, hw1⟩ | ⟨rfl, hw1⟩
  · obtain ⟨t, ht, rfl⟩ := inR_lt (by omega) hw1
    have hct : (nI t).toNatClampNeg = t := nI_clamp (by omega)
    refine lv_if_ne (tgt := 10) hx hb dX2_setStuck_5 (by decide) (fun _ => ?_) (fun c2 => absurd c2 (by decide))
    refine lv_aload_n hx hb dX2_setStuck_10 rfl (lv_at hl 0 rfl) ?_
    refine va_get (D := D) (ci := 2) (v := .ref (a2 8)) (C := RX2) (T := TX2) (N := 12) hx hb hts inX2_setStuck hown hK hP 0 rfl rfl 9 (by decide) fl38 (fun _ h9 => h9) rfl dX2_setStuck_11 ?_
    refine lv_iload_n hx hb dX2_setStuck_14 rfl (lv_at hl 1 rfl) ?_
    refine K_zald hx hb hK hP 9 1 rfl rfl t (by omega) (Nat.le_of_ble_eq_true rfl) dX2_setStuck_15 ?_
    refine K_none (va_runSN (As := [.int (su t)]) (rest := []) ⟨hx, hb, hml, hown, hts⟩ (c_X4_oneIf l D cI cZ cG _ (su t) (hsu t)) ⟨va_cnB (host := "ModelTown") 1 hts gX2_setStuck_X4_oneIf_n71 rfl rfl rfl hN.2.2.2.2.2.1 (hts (.initialized RX4) (by decide +kernel)) (by decide +kernel) ⟨(Nat.le_of_ble_eq_true rfl), (Nat.le_of_ble_eq_true rfl)⟩, hts (.static yX4_oneIf) (by decide +kernel), trivial⟩ (K_pre0 hN hK) rfl rfl hl.1 rfl (lv_room (Nat.le_of_ble_eq_true rfl)) dX2_setStuck_16 ⟨Nat.zero_le _, Nat.zero_le _⟩) hP hS hA (fun r3 _ H locs hw3 hP hS => ?_)
    obtain rfl := hw3
    refine lv_istore_n (lv' := [(3, .int (su t)), (0, .ref h2), (1, .int (nI t)), (2, .int z)]) hx hb dX2_setStuck_19 rfl hl (by decide) rfl (fun ls hl => ?_)
    refine lv_aload_n hx hb dX2_setStuck_20 rfl (lv_at hl 1 rfl) ?_
    refine va_get (D := D) (ci := 2) (v := .ref (a2 8)) (C := RX2) (T := TX2) (N := 12) hx hb hts inX2_setStuck hown hK hP 0 rfl rfl 9 (by decide) fl38 (fun _ h9 => h9) rfl dX2_setStuck_21 ?_
    refine lv_iload_n hx hb dX2_setStuck_24 rfl (lv_at hl 2 rfl) ?_
    refine lv_iload_n hx hb dX2_setStuck_25 rfl (lv_at hl 3 rfl) ?_
    refine K_zast hx hb hK hP hD hS 9 1 rfl rfl t (by omega) (Nat.le_of_ble_eq_true rfl) (nar01 hz01) dX2_setStuck_26 (fun H locs hP hD hS => ?_)
    have hP : va_P D vwCl (wX2 cI cZ cG h2 a2 (nI ng) (nI nT) mi rl tR pc mn mb mw mg (upd su t z) B) H := hP
    have hD : va_D A (wX2 cI cZ cG h2 a2 (nI ng) (nI nT) mi rl tR pc mn mb mw mg (upd su t z) B) := hD
    refine lv_iload_n hx hb dX2_setStuck_27 rfl (lv_at hl 0 rfl) ?_
    exact K_iret (wf := (fun (u : (Nat → Int32)) => wX2 cI cZ cG h2 a2 (nI ng) (nI nT) mi rl tR pc mn mb mw mg u B)) (upd su t z) hx hb hr hlocks hP hK hD hS dX2_setStuck_28 (by simp [if_true, hw1, hct])
  · skip
    refine lv_if_ne (tgt := 10) hx hb dX2_setStuck_5 (by decide) (fun c4 => absurd c4 (by decide)) (fun _ => ?_)
    refine lv_iconst (v := (-1)) hx hb dX2_setStuck_8 (by decide) ?_
    exact K_iret (wf := (fun (u : (Nat → Int32)) => wX2 cI cZ cG h2 a2 (nI ng) (nI nT) mi rl tR pc mn mb mw mg u B)) su hx hb hr hlocks hP hK hD hS dX2_setStuck_9 (by simp [if_true, hw1])
theorem inX2_addBlock : ∀ w ∈ wsX20, w ∈ wsX2_addBlock := by decide +kernel
set_option maxHeartbeats 8000000 in
set_option maxRecDepth 100000 in
/-- addBlock -/
theorem c_X2_addBlock (l : Launch) (D : va_G) (cI cZ cG : ClassId) (h2 : Nat) (a2 : Nat → Nat) (sz : Nat) (ng : Nat) (nT : Nat) (mi : Int32) (rl : Nat → Int32) (tR : Nat → Int32) (pc : Nat → Int32) (mn : Nat → Int32) (mb : Nat → Int32) (mw : Nat → Int32) (mg : Nat → Int32) (su : Nat → Int32) (B : Nat → Nat → Int32) (x : Int32) (b : Int32) (hng : ng ≤ 3) (hnT : nT ≤ 4) (hokL : okL rl) : Met l yX2_addBlock wsX2_addBlock ({ frames := 2, cells := 0, slots := 0, locals := 43 } : Room) (va_Pc [.ref h2, .int x, .int b] (PB D (tyL cI cZ cG) (wX2 cI cZ cG h2 a2 (nI ng) (nI nT) mi rl tR pc mn mb mw mg su B) sz)) (va_Qi (fun (r : Int32) (u : (Nat → Int32) × (Nat → Nat → Int32)) => r = rBlock ng nT rl tR B x b ∧ u = if okBlock ng nT rl tR B x b = true then (upd rl x.toNatClampNeg (rl x.toNatClampNeg + 1), vB B x.toNatClampNeg (upd (B x.toNatClampNeg) (rl x.toNatClampNeg).toNatClampNeg b)) else (rl, B)) (fun u => QB D (tyL cI cZ cG) (va_A (wX2 cI cZ cG h2 a2 (nI ng) (nI nT) mi rl tR pc mn mb mw mg su B) sz) ((fun (u : (Nat → Int32) × (Nat → Nat → Int32)) => wX2 cI cZ cG h2 a2 (nI ng) (nI nT) mi u.1 tR pc mn mb mw mg su u.2) u)) (va_A (wX2 cI cZ cG h2 a2 (nI ng) (nI nT) mi rl tR pc mn mb mw mg su B) sz)) 0 0 (va_A (wX2 cI cZ cG h2 a2 (nI ng) (nI nT) mi rl tR pc mn mb mw mg su B) sz) := by
  refine K_start (cc := cX2_addBlock) (maxL := 4) (ret := some .int) (Qc := fun A => va_Qi (fun (r : Int32) (u : (Nat → Int32) × (Nat → Nat → Int32)) => r = rBlock ng nT rl tR B x b ∧ u = if okBlock ng nT rl tR B x b = true then (upd rl x.toNatClampNeg (rl x.toNatClampNeg + 1), vB B x.toNatClampNeg (upd (B x.toNatClampNeg) (rl x.toNatClampNeg).toNatClampNeg b)) else (rl, B)) (fun u => QB D (tyL cI cZ cG) A ((fun (u : (Nat → Int32) × (Nat → Nat → Int32)) => wX2 cI cZ cG h2 a2 (nI ng) (nI nT) mi u.1 tR pc mn mb mw mg su u.2) u)) A) (by decide) rfl (Nat.le_of_ble_eq_true rfl) ?_
  intro p e s m below meth c ls A hx hb hml hr hts hown hlocks hin hN hP hK hD hA hS hl hsz
  have hl : lv_has ls 4 [(0, .ref h2), (1, .int x), (2, .int b)] := hl
  have fl16 := hts (.fieldLink RX2 16 "ModelTown$Rails" "ringLengths" "[I") (by decide +kernel)
  have fl13 := hts (.fieldLink RX2 13 "ModelTown$Rails" "ringBlocks" "[[I") (by decide +kernel)
  refine lv_aload_n hx hb dX2_addBlock_0 rfl (lv_at hl 0 rfl) ?_
  refine lv_iload_n hx hb dX2_addBlock_1 rfl (lv_at hl 1 rfl) ?_
  refine K_same (va_runV (As := [.int x]) (rest := []) ⟨hx, hb, hml, hown, hts⟩ (c_X2_isRing l D cI cZ cG h2 a2 _ ng nT mi rl tR pc mn mb mw mg su B x hng hnT) (cwV 1 hts gX2_addBlock_X2_isRing rfl rfl rfl (by decide +kernel) ⟨(Nat.le_of_ble_eq_true rfl), (Nat.le_of_ble_eq_true rfl)⟩) ⟨PB_blind, va_recv hK hP (ci := 2) (q0 := 0) rfl rfl, (K_preS hN hK hP hD).2⟩ rfl rfl hl.1 rfl (lv_room (Nat.le_of_ble_eq_true rfl)) dX2_addBlock_2 ⟨Nat.zero_le _, Nat.zero_le _⟩) hD hS hA (fun r1 u H locs hw1 hP hD hS => ?_)
  have hP : va_P D vwCl (wX2 cI cZ cG h2 a2 (nI ng) (nI nT) mi rl tR pc mn mb mw mg su B) H := hP
  have hD : va_D A (wX2 cI cZ cG h2 a2 (nI ng) (nI nT) mi rl tR pc mn mb mw mg su B) := hD
  rcases hw1 with ⟨rfl, hw1⟩ | ⟨rfl, hw1⟩
  · obtain ⟨r0, hr0, rfl⟩ := inR_lt (by omega) hw1
    have hcr0 : (nI r0).toNatClampNeg = r0 := nI_clamp (by omega)
    obtain ⟨n, hn12, hnE⟩ := hokL r0 (by omega)
    have hcn : (nI n).toNatClampNeg = n := nI_clamp (by omega)
    refine lv_if_ne (tgt := 10) hx hb dX2_addBlock_5 (by decide) (fun _ => ?_) (fun c2 => absurd c2 (by decide))
    refine lv_iload_n hx hb dX2_addBlock_10 rfl (lv_at hl 2 rfl) ?_
    refine lv_iconst (v := 0) hx hb dX2_addBlock_11 (by decide) ?_
    refine lv_bipush (v := 29) hx hb dX2_addBlock_12 (by decide) ?_
    refine K_none (va_runSN (As := [.int b, .int 0, .int 29]) (rest := []) ⟨hx, hb, hml, hown, hts⟩ (c_X4_isWithin l D cI cZ cG _ b 0 29) ⟨va_cnB (host := "ModelTown") 3 hts gX2_addBlock_X4_isWithin_n50 rfl rfl rfl hN.2.2.2.2.1 (hts (.initialized RX4) (by decide +kernel)) (by decide +kernel) ⟨(Nat.le_of_ble_eq_true rfl), (Nat.le_of_ble_eq_true rfl)⟩, hts (.static yX4_isWithin) (by decide +kernel), trivial⟩ (K_pre0 hN hK) rfl rfl hl.1 rfl (lv_room (Nat.le_of_ble_eq_true rfl)) dX2_addBlock_14 ⟨Nat.zero_le _, Nat.zero_le _⟩) hP hS hA (fun r3 _ H locs hw3 hP hS => ?_)
    rcases hw3 with ⟨rfl, hw3⟩ | ⟨rfl, hw3⟩
    · skip
      refine lv_if_ne (tgt := 23) hx hb dX2_addBlock_17 (by decide) (fun _ => ?_) (fun c4 => absurd c4 (by decide))
      refine lv_aload_n hx hb dX2_addBlock_23 rfl (lv_at hl 0 rfl) ?_
      refine lv_iload_n hx hb dX2_addBlock_24 rfl (lv_at hl 1 rfl) ?_
      refine K_same (va_runV (As := [.int (nI r0)]) (rest := []) ⟨hx, hb, hml, hown, hts⟩ (c_X2_hasTrain l D cI cZ cG h2 a2 _ ng nT mi rl tR pc mn mb mw mg su B (nI r0) hng hnT) (cwV 1 hts gX2_addBlock_X2_hasTrain rfl rfl rfl (by decide +kernel) ⟨(Nat.le_of_ble_eq_true rfl), (Nat.le_of_ble_eq_true rfl)⟩) ⟨PB_blind, va_recv hK hP (ci := 2) (q0 := 0) rfl rfl, (K_preS hN hK hP hD).2⟩ rfl rfl hl.1 rfl (lv_room (Nat.le_of_ble_eq_true rfl)) dX2_addBlock_25 ⟨Nat.zero_le _, Nat.zero_le _⟩) hD hS hA (fun r5 u H locs hw5 hP hD hS => ?_)
      have hP : va_P D vwCl (wX2 cI cZ cG h2 a2 (nI ng) (nI nT) mi rl tR pc mn mb mw mg su B) H := hP
      have hD : va_D A (wX2 cI cZ cG h2 a2 (nI ng) (nI nT) mi rl tR pc mn mb mw mg su B) := hD
      rcases hw5 with ⟨rfl, hw5⟩ | ⟨rfl, hw5⟩
      · skip
        refine lv_if_eq (tgt := 34) hx hb dX2_addBlock_28 (by decide) (fun c6 => absurd c6 (by decide)) (fun _ => ?_)
        refine lv_bipush (v := (-3)) hx hb dX2_addBlock_31 (by decide) ?_
        exact K_iret (wf := (fun (u : (Nat → Int32) × (Nat → Nat → Int32)) => wX2 cI cZ cG h2 a2 (nI ng) (nI nT) mi u.1 tR pc mn mb mw mg su u.2)) (rl, B) hx hb hr hlocks hP hK hD hS dX2_addBlock_33 (by simp [rBlock, okBlock, nI_1, hw1, hcr0, hnE, hcn, hw3, hw5])
      · skip
        refine lv_if_eq (tgt := 34) hx hb dX2_addBlock_28 (by decide) (fun _ => ?_) (fun c7 => absurd c7 (by decide))
        refine lv_aload_n hx hb dX2_addBlock_34 rfl (lv_at hl 0 rfl) ?_
        refine va_get (D := D) (ci := 2) (v := .ref (a2 1)) (C := RX2) (T := TX2) (N := 12) hx hb hts inX2_addBlock hown hK hP 0 rfl rfl 1 (by decide) fl16 (fun _ h9 => h9) rfl dX2_addBlock_35 ?_
        refine lv_iload_n hx hb dX2_addBlock_38 rfl (lv_at hl 1 rfl) ?_
        refine K_iald hx hb hK hP 2 0 rfl rfl r0 (by omega) (Nat.le_of_ble_eq_true rfl) dX2_addBlock_39 ?_
        refine lv_topi (fun z8 ez8 => ?_)
        obtain rfl : z8 = nI n := ez8.trans hnE
        refine lv_istore_n (lv' := [(3, .int (nI n)), (0, .ref h2), (1, .int (nI r0)), (2, .int b)]) hx hb dX2_addBlock_40 rfl hl (by decide) rfl (fun ls hl => ?_)
        refine lv_iload_n hx hb dX2_addBlock_41 rfl (lv_at hl 0 rfl) ?_
        refine lv_bipush (v := 12) hx hb dX2_addBlock_42 (by decide) ?_
        refine lv_icmp_lt (tgt := 50) hx hb dX2_addBlock_44 (by decide) (fun c9 => ?_) (fun c9 => ?_)
        · have c9 : n < 12 := (nI_ltI (a := n) (b := 12) (by omega) (by omega)).mp c9
          have hn11 : n < 12 := by omega
          have c9 : ¬ nI n = 12 := fun h => absurd ((nI_eq (b := 12) (by omega) (by omega)).mp h) (by omega)
          refine lv_aload_n hx hb dX2_addBlock_50 rfl (lv_at hl 1 rfl) ?_
          refine lv_iload_n hx hb dX2_addBlock_51 rfl (lv_at hl 2 rfl) ?_
          refine lv_iload_n hx hb dX2_addBlock_52 rfl (lv_at hl 3 rfl) ?_
          refine K_same (va_runV (As := [.int (nI r0), .int b]) (rest := []) ⟨hx, hb, hml, hown, hts⟩ (c_X2_hasBlock l D cI cZ cG h2 a2 _ ng nT mi rl tR pc mn mb mw mg su B r0 n b hng hnT (by omega) (by omega) hnE) (cwV 2 hts gX2_addBlock_X2_hasBlock rfl rfl rfl (by decide +kernel) ⟨(Nat.le_of_ble_eq_true rfl), (Nat.le_of_ble_eq_true rfl)⟩) ⟨PB_blind, va_recv hK hP (ci := 2) (q0 := 0) rfl rfl, (K_preS hN hK hP hD).2⟩ rfl rfl hl.1 rfl (lv_room (Nat.le_of_ble_eq_true rfl)) dX2_addBlock_53 ⟨Nat.zero_le _, Nat.zero_le _⟩) hD hS hA (fun r10 u H locs hw10 hP hD hS => ?_)
          have hP : va_P D vwCl (wX2 cI cZ cG h2 a2 (nI ng) (nI nT) mi rl tR pc mn mb mw mg su B) H := hP
          have hD : va_D A (wX2 cI cZ cG h2 a2 (nI ng) (nI nT) mi rl tR pc mn mb mw mg su B) := hD
          rcases hw10 with ⟨rfl, hw10⟩ | ⟨rfl, hw10⟩
          · skip
            refine lv_if_eq (tgt := 62) hx hb dX2_addBlock_56 (by decide) (fun c11 => absurd c11 (by decide)) (fun _ => ?_)
            refine lv_bipush (v := (-5)) hx hb dX2_addBlock_59 (by decide) ?_
            exact K_iret (wf := (fun (u : (Nat → Int32) × (Nat → Nat → Int32)) => wX2 cI cZ cG h2 a2 (nI ng) (nI nT) mi u.1 tR pc mn mb mw mg su u.2)) (rl, B) hx hb hr hlocks hP hK hD hS dX2_addBlock_61 (by simp [rBlock, okBlock, nI_1, hw1, hcr0, hnE, hcn, hw3, hw5, c9, hw10])
          · skip
            refine lv_if_eq (tgt := 62) hx hb dX2_addBlock_56 (by decide) (fun _ => ?_) (fun c12 => absurd c12 (by decide))
            refine lv_aload_n hx hb dX2_addBlock_62 rfl (lv_at hl 1 rfl) ?_
            refine va_get (D := D) (ci := 2) (v := .ref (a2 0)) (C := RX2) (T := TX2) (N := 12) hx hb hts inX2_addBlock hown hK hP 0 rfl rfl 0 (by decide) fl13 (fun _ h9 => h9) rfl dX2_addBlock_63 ?_
            refine lv_iload_n hx hb dX2_addBlock_66 rfl (lv_at hl 2 rfl) ?_
            refine K_aald hx hb hK hP 1 2 rfl rfl r0 (by omega) (Nat.le_of_ble_eq_true rfl) (if_pos (by omega)) dX2_addBlock_67 ?_
            refine lv_iload_n hx hb dX2_addBlock_68 rfl (lv_at hl 0 rfl) ?_
            refine lv_iload_n hx hb dX2_addBlock_69 rfl (lv_at hl 3 rfl) ?_
            refine K_iast hx hb hK hP hD hS (10 + r0) 0 (wX2_row (by omega)) rfl n (by omega) (Nat.le_of_ble_eq_true rfl) dX2_addBlock_70 (fun H locs hP hD hS => ?_)
            rw [wX2_rset (by omega)] at hP hD
            refine lv_aload_n hx hb dX2_addBlock_71 rfl (lv_at hl 1 rfl) ?_
            refine va_get (D := D) (ci := 2) (v := .ref (a2 1)) (C := RX2) (T := TX2) (N := 12) hx hb hts inX2_addBlock hown hK hP 0 rfl rfl 1 (by decide) fl16 (fun _ h9 => h9) rfl dX2_addBlock_72 ?_
            refine lv_iload_n hx hb dX2_addBlock_75 rfl (lv_at hl 2 rfl) ?_
            refine lv_iload_n hx hb dX2_addBlock_76 rfl (lv_at hl 0 rfl) ?_
            refine lv_iconst (v := 1) hx hb dX2_addBlock_77 (by decide) ?_
            refine lv_iadd hx hb dX2_addBlock_78 ?_
            refine lv_topi (fun z13 ez13 => ?_)
            obtain rfl : z13 = nI (n + 1) := ez13.trans (nI_add n 1)
            refine K_iast hx hb hK hP hD hS 2 0 rfl rfl r0 (by omega) (Nat.le_of_ble_eq_true rfl) dX2_addBlock_79 (fun H locs hP hD hS => ?_)
            have hP : va_P D vwCl (wX2 cI cZ cG h2 a2 (nI ng) (nI nT) mi (upd rl r0 (nI (n + 1))) tR pc mn mb mw mg su (vB B r0 (upd (B r0) n b))) H := hP
            have hD : va_D A (wX2 cI cZ cG h2 a2 (nI ng) (nI nT) mi (upd rl r0 (nI (n + 1))) tR pc mn mb mw mg su (vB B r0 (upd (B r0) n b))) := hD
            refine lv_iload_n hx hb dX2_addBlock_80 rfl (lv_at hl 0 rfl) ?_
            refine lv_iconst (v := 1) hx hb dX2_addBlock_81 (by decide) ?_
            refine lv_iadd hx hb dX2_addBlock_82 ?_
            refine lv_topi (fun z14 ez14 => ?_)
            obtain rfl : z14 = nI (n + 1) := ez14.trans (nI_add n 1)
            exact K_iret (wf := (fun (u : (Nat → Int32) × (Nat → Nat → Int32)) => wX2 cI cZ cG h2 a2 (nI ng) (nI nT) mi u.1 tR pc mn mb mw mg su u.2)) (upd rl r0 (nI (n + 1)), vB B r0 (upd (B r0) n b)) hx hb hr hlocks hP hK hD hS dX2_addBlock_83 (by simp [rBlock, okBlock, nI_1, hw1, hcr0, hnE, hcn, hw3, hw5, c9, hw10])
        · have c9 : ¬ n < 12 := fun hq => c9 ((nI_ltI (a := n) (b := 12) (by omega) (by omega)).mpr hq)
          have c9 : nI n = 12 := by rw [show n = 12 by omega]; rfl
          refine lv_bipush (v := (-4)) hx hb dX2_addBlock_47 (by decide) ?_
          exact K_iret (wf := (fun (u : (Nat → Int32) × (Nat → Nat → Int32)) => wX2 cI cZ cG h2 a2 (nI ng) (nI nT) mi u.1 tR pc mn mb mw mg su u.2)) (rl, B) hx hb hr hlocks hP hK hD hS dX2_addBlock_49 (by simp [rBlock, okBlock, nI_1, hw1, hcr0, hnE, hcn, hw3, hw5, eq_true c9])
    · skip
      refine lv_if_ne (tgt := 23) hx hb dX2_addBlock_17 (by decide) (fun c15 => absurd c15 (by decide)) (fun _ => ?_)
      refine lv_bipush (v := (-2)) hx hb dX2_addBlock_20 (by decide) ?_
      exact K_iret (wf := (fun (u : (Nat → Int32) × (Nat → Nat → Int32)) => wX2 cI cZ cG h2 a2 (nI ng) (nI nT) mi u.1 tR pc mn mb mw mg su u.2)) (rl, B) hx hb hr hlocks hP hK hD hS dX2_addBlock_22 (by simp [rBlock, okBlock, nI_1, hw1, hcr0, hnE, hcn, hw3])
  · skip
    refine lv_if_ne (tgt := 10) hx hb dX2_addBlock_5 (by decide) (fun c16 => absurd c16 (by decide)) (fun _ => ?_)
    refine lv_iconst (v := (-1)) hx hb dX2_addBlock_8 (by decide) ?_
    exact K_iret (wf := (fun (u : (Nat → Int32) × (Nat → Nat → Int32)) => wX2 cI cZ cG h2 a2 (nI ng) (nI nT) mi u.1 tR pc mn mb mw mg su u.2)) (rl, B) hx hb hr hlocks hP hK hD hS dX2_addBlock_9 (by simp [rBlock, okBlock, nI_1, hw1])
theorem inX2_addTrain : ∀ w ∈ wsX20, w ∈ wsX2_addTrain := by decide +kernel
set_option maxHeartbeats 8000000 in
set_option maxRecDepth 100000 in
/-- addTrain -/
theorem c_X2_addTrain (l : Launch) (D : va_G) (cI cZ cG : ClassId) (h2 : Nat) (a2 : Nat → Nat) (sz : Nat) (ng : Nat) (nT : Nat) (mi : Int32) (rl : Nat → Int32) (tR : Nat → Int32) (pc : Nat → Int32) (mn : Nat → Int32) (mb : Nat → Int32) (mw : Nat → Int32) (mg : Nat → Int32) (su : Nat → Int32) (B : Nat → Nat → Int32) (x : Int32) (p0 : Int32) (m0 : Int32) (hng : ng ≤ 3) (hnT : nT ≤ 4) (hokL : okL rl) (hokT : okT ng nT rl tR pc) : Met l yX2_addTrain wsX2_addTrain ({ frames := 2, cells := 0, slots := 0, locals := 43 } : Room) (va_Pc [.ref h2, .int x, .int p0, .int m0] (PB D (tyL cI cZ cG) (wX2 cI cZ cG h2 a2 (nI ng) (nI nT) mi rl tR pc mn mb mw mg su B) sz)) (va_Qi (fun (r : Int32) (u : Nat × (Nat → Int32) × (Nat → Int32) × (Nat → Int32)) => r = rTrain ng nT rl tR pc B x p0 m0 ∧ u = if okTrain ng nT rl tR pc B x p0 m0 = true then (nT + 1, upd tR nT x, upd pc nT p0, upd mn nT m0) else (nT, tR, pc, mn)) (fun u => QB D (tyL cI cZ cG) (va_A (wX2 cI cZ cG h2 a2 (nI ng) (nI nT) mi rl tR pc mn mb mw mg su B) sz) ((fun (u : Nat × (Nat → Int32) × (Nat → Int32) × (Nat → Int32)) => wX2 cI cZ cG h2 a2 (nI ng) (nI u.1) mi rl u.2.1 u.2.2.1 u.2.2.2 mb mw mg su B) u)) (va_A (wX2 cI cZ cG h2 a2 (nI ng) (nI nT) mi rl tR pc mn mb mw mg su B) sz)) 0 0 (va_A (wX2 cI cZ cG h2 a2 (nI ng) (nI nT) mi rl tR pc mn mb mw mg su B) sz) := by
  refine K_start (cc := cX2_addTrain) (maxL := 6) (ret := some .int) (Qc := fun A => va_Qi (fun (r : Int32) (u : Nat × (Nat → Int32) × (Nat → Int32) × (Nat → Int32)) => r = rTrain ng nT rl tR pc B x p0 m0 ∧ u = if okTrain ng nT rl tR pc B x p0 m0 = true then (nT + 1, upd tR nT x, upd pc nT p0, upd mn nT m0) else (nT, tR, pc, mn)) (fun u => QB D (tyL cI cZ cG) A ((fun (u : Nat × (Nat → Int32) × (Nat → Int32) × (Nat → Int32)) => wX2 cI cZ cG h2 a2 (nI ng) (nI u.1) mi rl u.2.1 u.2.2.1 u.2.2.2 mb mw mg su B) u)) A) (by decide) rfl (Nat.le_of_ble_eq_true rfl) ?_
  intro p e s m below meth c ls A hx hb hml hr hts hown hlocks hin hN hP hK hD hA hS hl hsz
  have hl : lv_has ls 6 [(0, .ref h2), (1, .int x), (2, .int p0), (3, .int m0)] := hl
  have fl16 := hts (.fieldLink RX2 16 "ModelTown$Rails" "ringLengths" "[I") (by decide +kernel)
  have fl61 := hts (.fieldLink RX2 61 "ModelTown$Rails" "trains" "I") (by decide +kernel)
  have fl13 := hts (.fieldLink RX2 13 "ModelTown$Rails" "ringBlocks" "[[I") (by decide +kernel)
  have fl20 := hts (.fieldLink RX2 20 "ModelTown$Rails" "trainRings" "[I") (by decide +kernel)
  have fl23 := hts (.fieldLink RX2 23 "ModelTown$Rails" "places" "[I") (by decide +kernel)
  have fl26 := hts (.fieldLink RX2 26 "ModelTown$Rails" "minutesNeeded" "[I") (by decide +kernel)
  refine lv_aload_n hx hb dX2_addTrain_0 rfl (lv_at hl 0 rfl) ?_
  refine lv_iload_n hx hb dX2_addTrain_1 rfl (lv_at hl 1 rfl) ?_
  refine K_same (va_runV (As := [.int x]) (rest := []) ⟨hx, hb, hml, hown, hts⟩ (c_X2_isRing l D cI cZ cG h2 a2 _ ng nT mi rl tR pc mn mb mw mg su B x hng hnT) (cwV 1 hts gX2_addTrain_X2_isRing rfl rfl rfl (by decide +kernel) ⟨(Nat.le_of_ble_eq_true rfl), (Nat.le_of_ble_eq_true rfl)⟩) ⟨PB_blind, va_recv hK hP (ci := 2) (q0 := 0) rfl rfl, (K_preS hN hK hP hD).2⟩ rfl rfl hl.1 rfl (lv_room (Nat.le_of_ble_eq_true rfl)) dX2_addTrain_2 ⟨Nat.zero_le _, Nat.zero_le _⟩) hD hS hA (fun r1 u H locs hw1 hP hD hS => ?_)
  have hP : va_P D vwCl (wX2 cI cZ cG h2 a2 (nI ng) (nI nT) mi rl tR pc mn mb mw mg su B) H := hP
  have hD : va_D A (wX2 cI cZ cG h2 a2 (nI ng) (nI nT) mi rl tR pc mn mb mw mg su B) := hD
  rcases hw1 with ⟨rfl, hw1⟩ | ⟨rfl, hw1⟩
  · obtain ⟨r0, hr0, rfl⟩ := inR_lt (by omega) hw1
    have hcr0 : (nI r0).toNatClampNeg = r0 := nI_clamp (by omega)
    obtain ⟨n, hn12, hnE⟩ := hokL r0 (by omega)
    have hcn : (nI n).toNatClampNeg = n := nI_clamp (by omega)
    refine lv_if_ne (tgt := 10) hx hb dX2_addTrain_5 (by decide) (fun _ => ?_) (fun c2 => absurd c2 (by decide))
    refine lv_aload_n hx hb dX2_addTrain_10 rfl (lv_at hl 0 rfl) ?_
    refine va_get (D := D) (ci := 2) (v := .ref (a2 1)) (C := RX2) (T := TX2) (N := 12) hx hb hts inX2_addTrain hown hK hP 0 rfl rfl 1 (by decide) fl16 (fun _ h9 => h9) rfl dX2_addTrain_11 ?_
    refine lv_iload_n hx hb dX2_addTrain_14 rfl (lv_at hl 1 rfl) ?_
    refine K_iald hx hb hK hP 2 0 rfl rfl r0 (by omega) (Nat.le_of_ble_eq_true rfl) dX2_addTrain_15 ?_
    refine lv_topi (fun z3 ez3 => ?_)
    obtain rfl : z3 = nI n := ez3.trans hnE
    refine lv_istore (lv' := [(4, .int (nI n)), (0, .ref h2), (1, .int (nI r0)), (2, .int p0), (3, .int m0)]) hx hb dX2_addTrain_16 hl (by decide) rfl (fun ls hl => ?_)
    refine lv_iload hx hb dX2_addTrain_18 (lv_at hl 0 rfl) ?_
    refine lv_iconst (v := 2) hx hb dX2_addTrain_20 (by decide) ?_
    refine lv_icmp_ge (tgt := 29) hx hb dX2_addTrain_21 (by decide) (fun c4 => ?_) (fun c4 => ?_)
    · have c4 : 2 ≤ n := (nI_leI (a := 2) (b := n) (by omega) (by omega)).mp c4
      refine lv_iload hx hb dX2_addTrain_29 (lv_at hl 0 rfl) ?_
      refine lv_iconst (v := 1) hx hb dX2_addTrain_31 (by decide) ?_
      refine lv_isub hx hb dX2_addTrain_32 ?_
      refine lv_istore (lv' := [(5, .int ((nI n) - 1)), (4, .int (nI n)), (0, .ref h2), (1, .int (nI r0)), (2, .int p0), (3, .int m0)]) hx hb dX2_addTrain_33 hl (by decide) rfl (fun ls hl => ?_)
      refine lv_iload_n hx hb dX2_addTrain_35 rfl (lv_at hl 4 rfl) ?_
      refine lv_iconst (v := 0) hx hb dX2_addTrain_36 (by decide) ?_
      refine lv_iload hx hb dX2_addTrain_37 (lv_at hl 0 rfl) ?_
      refine K_none (va_runSN (As := [.int p0, .int 0, .int ((nI n) - 1)]) (rest := []) ⟨hx, hb, hml, hown, hts⟩ (c_X4_isWithin l D cI cZ cG _ p0 0 ((nI n) - 1)) ⟨va_cnB (host := "ModelTown") 3 hts gX2_addTrain_X4_isWithin_n50 rfl rfl rfl hN.2.2.2.2.1 (hts (.initialized RX4) (by decide +kernel)) (by decide +kernel) ⟨(Nat.le_of_ble_eq_true rfl), (Nat.le_of_ble_eq_true rfl)⟩, hts (.static yX4_isWithin) (by decide +kernel), trivial⟩ (K_pre0 hN hK) rfl rfl hl.1 rfl (lv_room (Nat.le_of_ble_eq_true rfl)) dX2_addTrain_39 ⟨Nat.zero_le _, Nat.zero_le _⟩) hP hS hA (fun r5 _ H locs hw5 hP hS => ?_)
      rcases hw5 with ⟨rfl, hw5⟩ | ⟨rfl, hw5⟩
      · obtain ⟨q, hq, rfl⟩ := inR_lt (by omega) hw5
        have hcq : (nI q).toNatClampNeg = q := nI_clamp (by omega)
        refine lv_if_eq (tgt := 55) hx hb dX2_addTrain_42 (by decide) (fun c6 => absurd c6 (by decide)) (fun _ => ?_)
        refine lv_iload_n hx hb dX2_addTrain_45 rfl (lv_at hl 5 rfl) ?_
        refine lv_iconst (v := 1) hx hb dX2_addTrain_46 (by decide) ?_
        refine lv_bipush (v := 9) hx hb dX2_addTrain_47 (by decide) ?_
        refine K_none (va_runSN (As := [.int m0, .int 1, .int 9]) (rest := []) ⟨hx, hb, hml, hown, hts⟩ (c_X4_isWithin l D cI cZ cG _ m0 1 9) ⟨va_cnB (host := "ModelTown") 3 hts gX2_addTrain_X4_isWithin_n50 rfl rfl rfl hN.2.2.2.2.1 (hts (.initialized RX4) (by decide +kernel)) (by decide +kernel) ⟨(Nat.le_of_ble_eq_true rfl), (Nat.le_of_ble_eq_true rfl)⟩, hts (.static yX4_isWithin) (by decide +kernel), trivial⟩ (K_pre0 hN hK) rfl rfl hl.1 rfl (lv_room (Nat.le_of_ble_eq_true rfl)) dX2_addTrain_49 ⟨Nat.zero_le _, Nat.zero_le _⟩) hP hS hA (fun r7 _ H locs hw7 hP hS => ?_)
        rcases hw7 with ⟨rfl, hw7⟩ | ⟨rfl, hw7⟩
        · skip
          refine lv_if_ne (tgt := 58) hx hb dX2_addTrain_52 (by decide) (fun _ => ?_) (fun c8 => absurd c8 (by decide))
          refine lv_iload hx hb dX2_addTrain_58 (lv_at hl 1 rfl) ?_
          refine lv_iconst (v := 2) hx hb dX2_addTrain_60 (by decide) ?_
          refine lv_icmp_ge (tgt := 67) hx hb dX2_addTrain_61 (by decide) (fun c9 => ?_) (fun c9 => ?_)
          · have c9 : 2 ≤ n := (nI_leI (a := 2) (b := n) (by omega) (by omega)).mp c9
            refine lv_aload_n hx hb dX2_addTrain_67 rfl (lv_at hl 2 rfl) ?_
            refine va_get (D := D) (ci := 2) (v := .int (nI nT)) (C := RX2) (T := TX2) (N := 12) hx hb hts inX2_addTrain hown hK hP 0 rfl rfl 10 (by decide) fl61 (fun _ h9 => h9) rfl dX2_addTrain_68 ?_
            refine lv_iconst (v := 4) hx hb dX2_addTrain_71 (by decide) ?_
            refine lv_icmp_lt (tgt := 78) hx hb dX2_addTrain_72 (by decide) (fun c10 => ?_) (fun c10 => ?_)
            · have c10 : nT < 4 := (nI_ltI (a := nT) (b := 4) (by omega) (by omega)).mp c10
              have c10 : ¬ nT = 4 := by omega
              refine lv_aload_n hx hb dX2_addTrain_78 rfl (lv_at hl 2 rfl) ?_
              refine lv_aload_n hx hb dX2_addTrain_79 rfl (lv_at hl 2 rfl) ?_
              refine va_get (D := D) (ci := 2) (v := .ref (a2 0)) (C := RX2) (T := TX2) (N := 12) hx hb hts inX2_addTrain hown hK hP 0 rfl rfl 0 (by decide) fl13 (fun _ h9 => h9) rfl dX2_addTrain_80 ?_
              refine lv_iload_n hx hb dX2_addTrain_83 rfl (lv_at hl 3 rfl) ?_
              refine K_aald hx hb hK hP 1 2 rfl rfl r0 (by omega) (Nat.le_of_ble_eq_true rfl) (if_pos (by omega)) dX2_addTrain_84 ?_
              refine lv_iload_n hx hb dX2_addTrain_85 rfl (lv_at hl 4 rfl) ?_
              refine K_iald hx hb hK hP (10 + r0) 0 (wX2_row (by omega)) rfl q (by omega) (Nat.le_of_ble_eq_true rfl) dX2_addTrain_86 ?_
              refine K_same (va_runV (As := [.int (B r0 q)]) (rest := []) ⟨hx, hb, hml, hown, hts⟩ (c_X2_trainIn l D cI cZ cG h2 a2 _ ng nT mi rl tR pc mn mb mw mg su B (B r0 q) hng hnT hokT) (cwV 1 hts gX2_addTrain_X2_trainIn rfl rfl rfl (by decide +kernel) ⟨(Nat.le_of_ble_eq_true rfl), (Nat.le_of_ble_eq_true rfl)⟩) ⟨PB_blind, va_recv hK hP (ci := 2) (q0 := 0) rfl rfl, (K_preS hN hK hP hD).2⟩ rfl rfl hl.1 rfl (lv_room (Nat.le_of_ble_eq_true rfl)) dX2_addTrain_87 ⟨Nat.zero_le _, Nat.zero_le _⟩) hD hS hA (fun r11 u H locs hw11 hP hD hS => ?_)
              have hP : va_P D vwCl (wX2 cI cZ cG h2 a2 (nI ng) (nI nT) mi rl tR pc mn mb mw mg su B) H := hP
              have hD : va_D A (wX2 cI cZ cG h2 a2 (nI ng) (nI nT) mi rl tR pc mn mb mw mg su B) := hD
              rcases ho11 : tI (bkO B tR pc) (B r0 q) nT with _ | b11
              · rw [ho11] at hw11
                obtain rfl : r11 = -6 := hw11
                refine lv_bipush (v := (-6)) hx hb dX2_addTrain_90 (by decide) ?_
                refine lv_icmp_eq (tgt := 98) hx hb dX2_addTrain_92 (by decide) (fun _ => ?_) (fun c12 => absurd c12 (by decide))
                refine lv_aload_n hx hb dX2_addTrain_98 rfl (lv_at hl 2 rfl) ?_
                refine va_get (D := D) (ci := 2) (v := .ref (a2 2)) (C := RX2) (T := TX2) (N := 12) hx hb hts inX2_addTrain hown hK hP 0 rfl rfl 3 (by decide) fl20 (fun _ h9 => h9) rfl dX2_addTrain_99 ?_
                refine lv_aload_n hx hb dX2_addTrain_102 rfl (lv_at hl 2 rfl) ?_
                refine va_get (D := D) (ci := 2) (v := .int (nI nT)) (C := RX2) (T := TX2) (N := 12) hx hb hts inX2_addTrain hown hK hP 0 rfl rfl 10 (by decide) fl61 (fun _ h9 => h9) rfl dX2_addTrain_103 ?_
                refine lv_iload_n hx hb dX2_addTrain_106 rfl (lv_at hl 3 rfl) ?_
                refine K_iast hx hb hK hP hD hS 3 0 rfl rfl nT (by omega) (Nat.le_of_ble_eq_true rfl) dX2_addTrain_107 (fun H locs hP hD hS => ?_)
                have hP : va_P D vwCl (wX2 cI cZ cG h2 a2 (nI ng) (nI nT) mi rl (upd tR nT (nI r0)) pc mn mb mw mg su B) H := hP
                have hD : va_D A (wX2 cI cZ cG h2 a2 (nI ng) (nI nT) mi rl (upd tR nT (nI r0)) pc mn mb mw mg su B) := hD
                refine lv_aload_n hx hb dX2_addTrain_108 rfl (lv_at hl 2 rfl) ?_
                refine va_get (D := D) (ci := 2) (v := .ref (a2 3)) (C := RX2) (T := TX2) (N := 12) hx hb hts inX2_addTrain hown hK hP 0 rfl rfl 4 (by decide) fl23 (fun _ h9 => h9) rfl dX2_addTrain_109 ?_
                refine lv_aload_n hx hb dX2_addTrain_112 rfl (lv_at hl 2 rfl) ?_
                refine va_get (D := D) (ci := 2) (v := .int (nI nT)) (C := RX2) (T := TX2) (N := 12) hx hb hts inX2_addTrain hown hK hP 0 rfl rfl 10 (by decide) fl61 (fun _ h9 => h9) rfl dX2_addTrain_113 ?_
                refine lv_iload_n hx hb dX2_addTrain_116 rfl (lv_at hl 4 rfl) ?_
                refine K_iast hx hb hK hP hD hS 4 0 rfl rfl nT (by omega) (Nat.le_of_ble_eq_true rfl) dX2_addTrain_117 (fun H locs hP hD hS => ?_)
                have hP : va_P D vwCl (wX2 cI cZ cG h2 a2 (nI ng) (nI nT) mi rl (upd tR nT (nI r0)) (upd pc nT (nI q)) mn mb mw mg su B) H := hP
                have hD : va_D A (wX2 cI cZ cG h2 a2 (nI ng) (nI nT) mi rl (upd tR nT (nI r0)) (upd pc nT (nI q)) mn mb mw mg su B) := hD
                refine lv_aload_n hx hb dX2_addTrain_118 rfl (lv_at hl 2 rfl) ?_
                refine va_get (D := D) (ci := 2) (v := .ref (a2 4)) (C := RX2) (T := TX2) (N := 12) hx hb hts inX2_addTrain hown hK hP 0 rfl rfl 5 (by decide) fl26 (fun _ h9 => h9) rfl dX2_addTrain_119 ?_
                refine lv_aload_n hx hb dX2_addTrain_122 rfl (lv_at hl 2 rfl) ?_
                refine va_get (D := D) (ci := 2) (v := .int (nI nT)) (C := RX2) (T := TX2) (N := 12) hx hb hts inX2_addTrain hown hK hP 0 rfl rfl 10 (by decide) fl61 (fun _ h9 => h9) rfl dX2_addTrain_123 ?_
                refine lv_iload_n hx hb dX2_addTrain_126 rfl (lv_at hl 5 rfl) ?_
                refine K_iast hx hb hK hP hD hS 5 0 rfl rfl nT (by omega) (Nat.le_of_ble_eq_true rfl) dX2_addTrain_127 (fun H locs hP hD hS => ?_)
                have hP : va_P D vwCl (wX2 cI cZ cG h2 a2 (nI ng) (nI nT) mi rl (upd tR nT (nI r0)) (upd pc nT (nI q)) (upd mn nT m0) mb mw mg su B) H := hP
                have hD : va_D A (wX2 cI cZ cG h2 a2 (nI ng) (nI nT) mi rl (upd tR nT (nI r0)) (upd pc nT (nI q)) (upd mn nT m0) mb mw mg su B) := hD
                refine lv_aload_n hx hb dX2_addTrain_128 rfl (lv_at hl 2 rfl) ?_
                refine lv_dup hx hb dX2_addTrain_129 rfl ?_
                refine va_get (D := D) (ci := 2) (v := .int (nI nT)) (C := RX2) (T := TX2) (N := 12) hx hb hts inX2_addTrain hown hK hP 0 rfl rfl 10 (by decide) fl61 (fun _ h9 => h9) rfl dX2_addTrain_130 ?_
                refine lv_iconst (v := 1) hx hb dX2_addTrain_133 (by decide) ?_
                refine lv_iadd hx hb dX2_addTrain_134 ?_
                refine lv_topi (fun z13 ez13 => ?_)
                obtain rfl : z13 = nI (nT + 1) := ez13.trans (nI_add nT 1)
                refine va_put (D := D) (ci := 2) (v := .int (nI (nT + 1))) (ty := .int) (C := RX2) (T := TX2) (N := 12) hx hb hts inX2_addTrain tyX2 tyX2_ok nmX2 hown hK hP hD hS 0 rfl rfl 10 (by decide) fl61 (fun _ h9 => h9) rfl (by decide +kernel) rfl rfl (Nat.le_of_ble_eq_true rfl) dX2_addTrain_135 (fun H locs hP hD hS => ?_)
                have hP : va_P D vwCl (wX2 cI cZ cG h2 a2 (nI ng) (nI (nT + 1)) mi rl (upd tR nT (nI r0)) (upd pc nT (nI q)) (upd mn nT m0) mb mw mg su B) H := hP
                have hD : va_D A (wX2 cI cZ cG h2 a2 (nI ng) (nI (nT + 1)) mi rl (upd tR nT (nI r0)) (upd pc nT (nI q)) (upd mn nT m0) mb mw mg su B) := hD
                refine lv_aload_n hx hb dX2_addTrain_138 rfl (lv_at hl 2 rfl) ?_
                refine va_get (D := D) (ci := 2) (v := .int (nI (nT + 1))) (C := RX2) (T := TX2) (N := 12) hx hb hts inX2_addTrain hown hK hP 0 rfl rfl 10 (by decide) fl61 (fun _ h9 => h9) rfl dX2_addTrain_139 ?_
                refine lv_iconst (v := 1) hx hb dX2_addTrain_142 (by decide) ?_
                refine lv_isub hx hb dX2_addTrain_143 ?_
                refine lv_topi (fun z14 ez14 => ?_)
                obtain rfl : z14 = nI nT := ez14.trans (nI_pred nT)
                exact K_iret (wf := (fun (u : Nat × (Nat → Int32) × (Nat → Int32) × (Nat → Int32)) => wX2 cI cZ cG h2 a2 (nI ng) (nI u.1) mi rl u.2.1 u.2.2.1 u.2.2.2 mb mw mg su B)) (nT + 1, upd tR nT (nI r0), upd pc nT (nI q), upd mn nT m0) hx hb hr hlocks hP hK hD hS dX2_addTrain_144 (by simp [rTrain, okTrain, okPl, hw1, hcr0, hnE, hcn, c4, hw5, hcq, hw7, c9, c10, ho11])
              · rw [ho11] at hw11
                obtain rfl : r11 = nI b11 := hw11
                have hbb := tI_lt ho11
                refine lv_bipush (v := (-6)) hx hb dX2_addTrain_90 (by decide) ?_
                refine lv_icmp_eq (tgt := 98) hx hb dX2_addTrain_92 (by decide) (fun c15 => absurd c15 (nI_neN (by omega) (by decide))) (fun c15 => ?_)
                refine lv_bipush (v := (-5)) hx hb dX2_addTrain_95 (by decide) ?_
                exact K_iret (wf := (fun (u : Nat × (Nat → Int32) × (Nat → Int32) × (Nat → Int32)) => wX2 cI cZ cG h2 a2 (nI ng) (nI u.1) mi rl u.2.1 u.2.2.1 u.2.2.2 mb mw mg su B)) (nT, tR, pc, mn) hx hb hr hlocks hP hK hD hS dX2_addTrain_97 (by simp [rTrain, okTrain, okPl, hw1, hcr0, hnE, hcn, c4, hw5, hcq, hw7, c9, c10, ho11])
            · have c10 : ¬ nT < 4 := fun hq => c10 ((nI_ltI (a := nT) (b := 4) (by omega) (by omega)).mpr hq)
              have c10 : nT = 4 := by omega
              refine lv_bipush (v := (-4)) hx hb dX2_addTrain_75 (by decide) ?_
              exact K_iret (wf := (fun (u : Nat × (Nat → Int32) × (Nat → Int32) × (Nat → Int32)) => wX2 cI cZ cG h2 a2 (nI ng) (nI u.1) mi rl u.2.1 u.2.2.1 u.2.2.2 mb mw mg su B)) (nT, tR, pc, mn) hx hb hr hlocks hP hK hD hS dX2_addTrain_77 (by simp [rTrain, okTrain, okPl, hw1, hcr0, hnE, hcn, c4, hw5, hcq, hw7, c9, eq_true c10])
          · have c9 : ¬ 2 ≤ n := fun hq => c9 ((nI_leI (a := 2) (b := n) (by omega) (by omega)).mpr hq)
            omega
        · skip
          refine lv_if_ne (tgt := 58) hx hb dX2_addTrain_52 (by decide) (fun c16 => absurd c16 (by decide)) (fun _ => ?_)
          refine lv_bipush (v := (-2)) hx hb dX2_addTrain_55 (by decide) ?_
          exact K_iret (wf := (fun (u : Nat × (Nat → Int32) × (Nat → Int32) × (Nat → Int32)) => wX2 cI cZ cG h2 a2 (nI ng) (nI u.1) mi rl u.2.1 u.2.2.1 u.2.2.2 mb mw mg su B)) (nT, tR, pc, mn) hx hb hr hlocks hP hK hD hS dX2_addTrain_57 (by simp [rTrain, okTrain, okPl, hw1, hcr0, hnE, hcn, c4, hw5, hcq, hw7])
      · skip
        refine lv_if_eq (tgt := 55) hx hb dX2_addTrain_42 (by decide) (fun _ => ?_) (fun c17 => absurd c17 (by decide))
        refine lv_bipush (v := (-2)) hx hb dX2_addTrain_55 (by decide) ?_
        exact K_iret (wf := (fun (u : Nat × (Nat → Int32) × (Nat → Int32) × (Nat → Int32)) => wX2 cI cZ cG h2 a2 (nI ng) (nI u.1) mi rl u.2.1 u.2.2.1 u.2.2.2 mb mw mg su B)) (nT, tR, pc, mn) hx hb hr hlocks hP hK hD hS dX2_addTrain_57 (by simp [rTrain, okTrain, okPl, hw1, hcr0, hnE, hcn, c4, hw5])
    · have c4 : ¬ 2 ≤ n := fun hq => c4 ((nI_leI (a := 2) (b := n) (by omega) (by omega)).mpr hq)
      refine lv_bipush (v := 11) hx hb dX2_addTrain_24 (by decide) ?_
      refine lv_goto (tgt := 33) hx hb dX2_addTrain_26 (by decide) ?_
      refine lv_istore (lv' := [(5, .int 11), (4, .int (nI n)), (0, .ref h2), (1, .int (nI r0)), (2, .int p0), (3, .int m0)]) hx hb dX2_addTrain_33 hl (by decide) rfl (fun ls hl => ?_)
      refine lv_iload_n hx hb dX2_addTrain_35 rfl (lv_at hl 4 rfl) ?_
      refine lv_iconst (v := 0) hx hb dX2_addTrain_36 (by decide) ?_
      refine lv_iload hx hb dX2_addTrain_37 (lv_at hl 0 rfl) ?_
      refine K_none (va_runSN (As := [.int p0, .int 0, .int 11]) (rest := []) ⟨hx, hb, hml, hown, hts⟩ (c_X4_isWithin l D cI cZ cG _ p0 0 11) ⟨va_cnB (host := "ModelTown") 3 hts gX2_addTrain_X4_isWithin_n50 rfl rfl rfl hN.2.2.2.2.1 (hts (.initialized RX4) (by decide +kernel)) (by decide +kernel) ⟨(Nat.le_of_ble_eq_true rfl), (Nat.le_of_ble_eq_true rfl)⟩, hts (.static yX4_isWithin) (by decide +kernel), trivial⟩ (K_pre0 hN hK) rfl rfl hl.1 rfl (lv_room (Nat.le_of_ble_eq_true rfl)) dX2_addTrain_39 ⟨Nat.zero_le _, Nat.zero_le _⟩) hP hS hA (fun r18 _ H locs hw18 hP hS => ?_)
      rcases hw18 with ⟨rfl, hw18⟩ | ⟨rfl, hw18⟩
      · skip
        refine lv_if_eq (tgt := 55) hx hb dX2_addTrain_42 (by decide) (fun c19 => absurd c19 (by decide)) (fun _ => ?_)
        refine lv_iload_n hx hb dX2_addTrain_45 rfl (lv_at hl 5 rfl) ?_
        refine lv_iconst (v := 1) hx hb dX2_addTrain_46 (by decide) ?_
        refine lv_bipush (v := 9) hx hb dX2_addTrain_47 (by decide) ?_
        refine K_none (va_runSN (As := [.int m0, .int 1, .int 9]) (rest := []) ⟨hx, hb, hml, hown, hts⟩ (c_X4_isWithin l D cI cZ cG _ m0 1 9) ⟨va_cnB (host := "ModelTown") 3 hts gX2_addTrain_X4_isWithin_n50 rfl rfl rfl hN.2.2.2.2.1 (hts (.initialized RX4) (by decide +kernel)) (by decide +kernel) ⟨(Nat.le_of_ble_eq_true rfl), (Nat.le_of_ble_eq_true rfl)⟩, hts (.static yX4_isWithin) (by decide +kernel), trivial⟩ (K_pre0 hN hK) rfl rfl hl.1 rfl (lv_room (Nat.le_of_ble_eq_true rfl)) dX2_addTrain_49 ⟨Nat.zero_le _, Nat.zero_le _⟩) hP hS hA (fun r20 _ H locs hw20 hP hS => ?_)
        rcases hw20 with ⟨rfl, hw20⟩ | ⟨rfl, hw20⟩
        · skip
          refine lv_if_ne (tgt := 58) hx hb dX2_addTrain_52 (by decide) (fun _ => ?_) (fun c21 => absurd c21 (by decide))
          refine lv_iload hx hb dX2_addTrain_58 (lv_at hl 1 rfl) ?_
          refine lv_iconst (v := 2) hx hb dX2_addTrain_60 (by decide) ?_
          refine lv_icmp_ge (tgt := 67) hx hb dX2_addTrain_61 (by decide) (fun c22 => ?_) (fun c22 => ?_)
          · have c22 : 2 ≤ n := (nI_leI (a := 2) (b := n) (by omega) (by omega)).mp c22
            omega
          · have c22 : ¬ 2 ≤ n := fun hq => c22 ((nI_leI (a := 2) (b := n) (by omega) (by omega)).mpr hq)
            refine lv_bipush (v := (-3)) hx hb dX2_addTrain_64 (by decide) ?_
            exact K_iret (wf := (fun (u : Nat × (Nat → Int32) × (Nat → Int32) × (Nat → Int32)) => wX2 cI cZ cG h2 a2 (nI ng) (nI u.1) mi rl u.2.1 u.2.2.1 u.2.2.2 mb mw mg su B)) (nT, tR, pc, mn) hx hb hr hlocks hP hK hD hS dX2_addTrain_66 (by simp [rTrain, okTrain, okPl, hw1, hcr0, hnE, hcn, c4, hw18, hw20, c22])
        · skip
          refine lv_if_ne (tgt := 58) hx hb dX2_addTrain_52 (by decide) (fun c23 => absurd c23 (by decide)) (fun _ => ?_)
          refine lv_bipush (v := (-2)) hx hb dX2_addTrain_55 (by decide) ?_
          exact K_iret (wf := (fun (u : Nat × (Nat → Int32) × (Nat → Int32) × (Nat → Int32)) => wX2 cI cZ cG h2 a2 (nI ng) (nI u.1) mi rl u.2.1 u.2.2.1 u.2.2.2 mb mw mg su B)) (nT, tR, pc, mn) hx hb hr hlocks hP hK hD hS dX2_addTrain_57 (by simp [rTrain, okTrain, okPl, hw1, hcr0, hnE, hcn, c4, hw18, hw20])
      · skip
        refine lv_if_eq (tgt := 55) hx hb dX2_addTrain_42 (by decide) (fun _ => ?_) (fun c24 => absurd c24 (by decide))
        refine lv_bipush (v := (-2)) hx hb dX2_addTrain_55 (by decide) ?_
        exact K_iret (wf := (fun (u : Nat × (Nat → Int32) × (Nat → Int32) × (Nat → Int32)) => wX2 cI cZ cG h2 a2 (nI ng) (nI u.1) mi rl u.2.1 u.2.2.1 u.2.2.2 mb mw mg su B)) (nT, tR, pc, mn) hx hb hr hlocks hP hK hD hS dX2_addTrain_57 (by simp [rTrain, okTrain, okPl, hw1, hcr0, hnE, hcn, c4, hw18])
  · skip
    refine lv_if_ne (tgt := 10) hx hb dX2_addTrain_5 (by decide) (fun c25 => absurd c25 (by decide)) (fun _ => ?_)
    refine lv_iconst (v := (-1)) hx hb dX2_addTrain_8 (by decide) ?_
    exact K_iret (wf := (fun (u : Nat × (Nat → Int32) × (Nat → Int32) × (Nat → Int32)) => wX2 cI cZ cG h2 a2 (nI ng) (nI u.1) mi rl u.2.1 u.2.2.1 u.2.2.2 mb mw mg su B)) (nT, tR, pc, mn) hx hb hr hlocks hP hK hD hS dX2_addTrain_9 (by simp [rTrain, okTrain, okPl, hw1])

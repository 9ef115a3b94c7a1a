theorem inX0_isFigure : ∀ w ∈ wsX00, w ∈ wsX0_isFigure := by decide +kernel
set_option maxHeartbeats 8000000 in
set_option maxRecDepth 100000 in
/-- isFigure -/
theorem c_X0_isFigure (l : Launch) (D : va_G) (cI cZ cG : ClassId) (h0 : Nat) (a0 : Nat → Nat) (sz : Nat) (nf : Nat) (nn : Nat) (fg : Nat → Int32) (dy : Nat → Int32) (tl : Nat → Int32) (pl : Nat → Int32) (x : Int32) (hnf : nf ≤ 12) (hnn : nn ≤ 60) : Met l yX0_isFigure wsX0_isFigure ({ frames := 1, cells := 0, slots := 0, locals := 22 } : Room) (va_Pc [.ref h0, .int x] (PB D (tyL cI cZ cG) (wX0 cI cZ cG h0 a0 (nI nf) (nI nn) fg dy tl pl) sz)) (va_Qi (fun (r : Int32) (_ : Unit) => bo r (inR x 0 (nI nf - 1) = true)) (fun u => QB D (tyL cI cZ cG) (va_A (wX0 cI cZ cG h0 a0 (nI nf) (nI nn) fg dy tl pl) sz) ((fun (_ : Unit) => wX0 cI cZ cG h0 a0 (nI nf) (nI nn) fg dy tl pl) u)) (va_A (wX0 cI cZ cG h0 a0 (nI nf) (nI nn) fg dy tl pl) sz)) 0 0 (va_A (wX0 cI cZ cG h0 a0 (nI nf) (nI nn) fg dy tl pl) sz) := by
  refine K_start (cc := cX0_isFigure) (maxL := 2) (ret := some .boolean) (Qc := fun A => va_Qi (fun (r : Int32) (_ : Unit) => bo r (inR x 0 (nI nf - 1) = true)) (fun u => QB D (tyL cI cZ cG) A ((fun (_ : Unit) => wX0 cI cZ cG h0 a0 (nI nf) (nI nn) fg dy tl pl) u)) A) (by decide) rfl (Nat.le_of_ble_eq_true rfl) ?_
  intro p e s m below meth c ls A hx hb hml hr hts hown hlocks hin hN hP hK hD hA hS hl hsz
  have hl : lv_has ls 2 [(0, .ref h0), (1, .int x)] := hl
  have fl24 := hts (.fieldLink RX0 24 "ModelTown$Book" "figures" "I") (by decide +kernel)
  refine lv_iload_n hx hb dX0_isFigure_0 rfl (lv_at hl 1 rfl) ?_
  refine lv_iconst (v := 0) hx hb dX0_isFigure_1 (by decide) ?_
  refine lv_aload_n hx hb dX0_isFigure_2 rfl (lv_at hl 0 rfl) ?_
  refine va_get (D := D) (ci := 0) (v := .int (nI nf)) (C := RX0) (T := TX0) (N := 6) hx hb hts inX0_isFigure hown hK hP 0 rfl rfl 0 (by decide) fl24 (fun _ h9 => h9) rfl dX0_isFigure_3 ?_
  refine lv_iconst (v := 1) hx hb dX0_isFigure_6 (by decide) ?_
  refine lv_isub hx hb dX0_isFigure_7 ?_
  refine K_none (va_runSN (As := [.int x, .int 0, .int ((nI nf) - 1)]) (rest := []) ⟨hx, hb, hml, hown, hts⟩ (c_X4_isWithin l D cI cZ cG _ x 0 ((nI nf) - 1)) ⟨va_cnB (host := "ModelTown") 3 hts gX0_isFigure_X4_isWithin_n35 rfl rfl rfl hN.2.1 (hts (.initialized RX4) (by decide +kernel)) (by decide +kernel) ⟨(Nat.le_of_ble_eq_true rfl), (Nat.le_of_ble_eq_true rfl)⟩, hts (.static yX4_isWithin) (by decide +kernel), trivial⟩ (K_pre0 hN hK) rfl rfl hl.1 rfl (lv_room (Nat.le_of_ble_eq_true rfl)) dX0_isFigure_8 ⟨Nat.zero_le _, Nat.zero_le _⟩) hP hS hA (fun r1 _ H locs hw1 hP hS => ?_)
  rcases hw1 with ⟨rfl, hw1⟩ | ⟨rfl, hw1⟩
  · skip
    exact K_zret (wf := (fun (_ : Unit) => wX0 cI cZ cG h0 a0 (nI nf) (nI nn) fg dy tl pl)) () hx hb hr hlocks hP hK hD hS dX0_isFigure_11 rfl (Or.inl ⟨rfl, by assumption⟩)
  · skip
    exact K_zret (wf := (fun (_ : Unit) => wX0 cI cZ cG h0 a0 (nI nf) (nI nn) fg dy tl pl)) () hx hb hr hlocks hP hK hD hS dX0_isFigure_11 rfl (Or.inr ⟨rfl, by assumption⟩)
theorem inX0_tellsOf : ∀ w ∈ wsX00, w ∈ wsX0_tellsOf := by decide +kernel
set_option maxHeartbeats 8000000 in
set_option maxRecDepth 100000 in
/-- tellsOf -/
theorem c_X0_tellsOf (l : Launch) (D : va_G) (cI cZ cG : ClassId) (h0 : Nat) (a0 : Nat → Nat) (sz : Nat) (nf : Nat) (nn : Nat) (fg : Nat → Int32) (dy : Nat → Int32) (tl : Nat → Int32) (pl : Nat → Int32) (k : Nat) (f : Int32) (d : Int32) (hnf : nf ≤ 12) (hnn : nn ≤ 60) (hk60 : k < 60) : Met l yX0_tellsOf wsX0_tellsOf ({ frames := 0, cells := 0, slots := 0, locals := 0 } : Room) (va_Pc [.ref h0, .int (nI k), .int f, .int d] (PB D (tyL cI cZ cG) (wX0 cI cZ cG h0 a0 (nI nf) (nI nn) fg dy tl pl) sz)) (va_Qi (fun (r : Int32) (_ : Unit) => bo r (fg k = f ∧ dy k ≤ d)) (fun u => QB D (tyL cI cZ cG) (va_A (wX0 cI cZ cG h0 a0 (nI nf) (nI nn) fg dy tl pl) sz) ((fun (_ : Unit) => wX0 cI cZ cG h0 a0 (nI nf) (nI nn) fg dy tl pl) u)) (va_A (wX0 cI cZ cG h0 a0 (nI nf) (nI nn) fg dy tl pl) sz)) 0 0 (va_A (wX0 cI cZ cG h0 a0 (nI nf) (nI nn) fg dy tl pl) sz) := by
  refine K_start (cc := cX0_tellsOf) (maxL := 4) (ret := some .boolean) (Qc := fun A => va_Qi (fun (r : Int32) (_ : Unit) => bo r (fg k = f ∧ dy k ≤ d)) (fun u => QB D (tyL cI cZ cG) A ((fun (_ : Unit) => wX0 cI cZ cG h0 a0 (nI nf) (nI nn) fg dy tl pl) u)) A) (by decide) rfl (Nat.le_of_ble_eq_true rfl) ?_
  intro p e s m below meth c ls A hx hb hml hr hts hown hlocks hin hN hP hK hD hA hS hl hsz
  have hl : lv_has ls 4 [(0, .ref h0), (1, .int (nI k)), (2, .int f), (3, .int d)] := hl
  have fl11 := hts (.fieldLink RX0 11 "ModelTown$Book" "noteFigure" "[I") (by decide +kernel)
  have fl15 := hts (.fieldLink RX0 15 "ModelTown$Book" "noteDay" "[I") (by decide +kernel)
  refine lv_aload_n hx hb dX0_tellsOf_0 rfl (lv_at hl 0 rfl) ?_
  refine va_get (D := D) (ci := 0) (v := .ref (a0 0)) (C := RX0) (T := TX0) (N := 6) hx hb hts inX0_tellsOf hown hK hP 0 rfl rfl 1 (by decide) fl11 (fun _ h9 => h9) rfl dX0_tellsOf_1 ?_
  refine lv_iload_n hx hb dX0_tellsOf_4 rfl (lv_at hl 1 rfl) ?_
  refine K_iald hx hb hK hP 1 0 rfl rfl k (by omega) (Nat.le_of_ble_eq_true rfl) dX0_tellsOf_5 ?_
  refine lv_iload_n hx hb dX0_tellsOf_6 rfl (lv_at hl 2 rfl) ?_
  refine lv_icmp_ne (tgt := 24) hx hb dX0_tellsOf_7 (by decide) (fun c1 => ?_) (fun c1 => ?_)
  · refine lv_iconst (v := 0) hx hb dX0_tellsOf_24 (by decide) ?_
    exact K_zret (wf := (fun (_ : Unit) => wX0 cI cZ cG h0 a0 (nI nf) (nI nn) fg dy tl pl)) () hx hb hr hlocks hP hK hD hS dX0_tellsOf_25 rfl (Or.inr ⟨rfl, by simp [c1]⟩)
  · refine lv_aload_n hx hb dX0_tellsOf_10 rfl (lv_at hl 0 rfl) ?_
    refine va_get (D := D) (ci := 0) (v := .ref (a0 1)) (C := RX0) (T := TX0) (N := 6) hx hb hts inX0_tellsOf hown hK hP 0 rfl rfl 2 (by decide) fl15 (fun _ h9 => h9) rfl dX0_tellsOf_11 ?_
    refine lv_iload_n hx hb dX0_tellsOf_14 rfl (lv_at hl 1 rfl) ?_
    refine K_iald hx hb hK hP 2 0 rfl rfl k (by omega) (Nat.le_of_ble_eq_true rfl) dX0_tellsOf_15 ?_
    refine lv_iload_n hx hb dX0_tellsOf_16 rfl (lv_at hl 3 rfl) ?_
    refine lv_icmp_gt (tgt := 24) hx hb dX0_tellsOf_17 (by decide) (fun c2 => ?_) (fun c2 => ?_)
    · replace c2 := Int32.not_le.mpr c2
      refine lv_iconst (v := 0) hx hb dX0_tellsOf_24 (by decide) ?_
      exact K_zret (wf := (fun (_ : Unit) => wX0 cI cZ cG h0 a0 (nI nf) (nI nn) fg dy tl pl)) () hx hb hr hlocks hP hK hD hS dX0_tellsOf_25 rfl (Or.inr ⟨rfl, by simp [eq_true c1, c2]⟩)
    · replace c2 := Int32.not_lt.mp c2
      refine lv_iconst (v := 1) hx hb dX0_tellsOf_20 (by decide) ?_
      refine lv_goto (tgt := 25) hx hb dX0_tellsOf_21 (by decide) ?_
      exact K_zret (wf := (fun (_ : Unit) => wX0 cI cZ cG h0 a0 (nI nf) (nI nn) fg dy tl pl)) () hx hb hr hlocks hP hK hD hS dX0_tellsOf_25 rfl (Or.inl ⟨rfl, by simp [eq_true c1, c2]⟩)
theorem inX0_prevails : ∀ w ∈ wsX00, w ∈ wsX0_prevails := by decide +kernel
set_option maxHeartbeats 8000000 in
set_option maxRecDepth 100000 in
/-- prevails -/
theorem c_X0_prevails (l : Launch) (D : va_G) (cI cZ cG : ClassId) (h0 : Nat) (a0 : Nat → Nat) (sz : Nat) (nf : Nat) (nn : Nat) (fg : Nat → Int32) (dy : Nat → Int32) (tl : Nat → Int32) (pl : Nat → Int32) (k : Nat) (o : Option Nat) (hnf : nf ≤ 12) (hnn : nn ≤ 60) (hk60 : k < 60) (hob : ∀ b, o = some b → b < 60) : Met l yX0_prevails wsX0_prevails ({ frames := 0, cells := 0, slots := 0, locals := 0 } : Room) (va_Pc [.ref h0, .int (nI k), .int (oI o)] (PB D (tyL cI cZ cG) (wX0 cI cZ cG h0 a0 (nI nf) (nI nn) fg dy tl pl) sz)) (va_Qi (fun (r : Int32) (_ : Unit) => bo r (pvO dy k o = true)) (fun u => QB D (tyL cI cZ cG) (va_A (wX0 cI cZ cG h0 a0 (nI nf) (nI nn) fg dy tl pl) sz) ((fun (_ : Unit) => wX0 cI cZ cG h0 a0 (nI nf) (nI nn) fg dy tl pl) u)) (va_A (wX0 cI cZ cG h0 a0 (nI nf) (nI nn) fg dy tl pl) sz)) 0 0 (va_A (wX0 cI cZ cG h0 a0 (nI nf) (nI nn) fg dy tl pl) sz) := by
  refine K_start (cc := cX0_prevails) (maxL := 3) (ret := some .boolean) (Qc := fun A => va_Qi (fun (r : Int32) (_ : Unit) => bo r (pvO dy k o = true)) (fun u => QB D (tyL cI cZ cG) A ((fun (_ : Unit) => wX0 cI cZ cG h0 a0 (nI nf) (nI nn) fg dy tl pl) u)) A) (by decide) rfl (Nat.le_of_ble_eq_true rfl) ?_
  intro p e s m below meth c ls A hx hb hml hr hts hown hlocks hin hN hP hK hD hA hS hl hsz
  have hl : lv_has ls 3 [(0, .ref h0), (1, .int (nI k)), (2, .int (oI o))] := hl
  have fl15 := hts (.fieldLink RX0 15 "ModelTown$Book" "noteDay" "[I") (by decide +kernel)
  rcases o with _ | b
  · have hl : lv_has ls 3 [(0, .ref h0), (1, .int (nI k)), (2, .int (-6))] := hl
    refine lv_iload_n hx hb dX0_prevails_0 rfl (lv_at hl 2 rfl) ?_
    refine lv_bipush (v := (-6)) hx hb dX0_prevails_1 (by decide) ?_
    refine lv_icmp_eq (tgt := 21) hx hb dX0_prevails_3 (by decide) (fun _ => ?_) (fun c1 => absurd c1 (by decide))
    refine lv_iconst (v := 1) hx hb dX0_prevails_21 (by decide) ?_
    refine lv_goto (tgt := 26) hx hb dX0_prevails_22 (by decide) ?_
    exact K_zret (wf := (fun (_ : Unit) => wX0 cI cZ cG h0 a0 (nI nf) (nI nn) fg dy tl pl)) () hx hb hr hlocks hP hK hD hS dX0_prevails_26 rfl (Or.inl ⟨rfl, by simp [pvO]⟩)
  · have hl : lv_has ls 3 [(0, .ref h0), (1, .int (nI k)), (2, .int (nI b))] := hl
    have hbb := hob b rfl
    refine lv_iload_n hx hb dX0_prevails_0 rfl (lv_at hl 2 rfl) ?_
    refine lv_bipush (v := (-6)) hx hb dX0_prevails_1 (by decide) ?_
    refine lv_icmp_eq (tgt := 21) hx hb dX0_prevails_3 (by decide) (fun c2 => absurd c2 (nI_neN (by omega) (by decide))) (fun c2 => ?_)
    refine lv_aload_n hx hb dX0_prevails_6 rfl (lv_at hl 0 rfl) ?_
    refine va_get (D := D) (ci := 0) (v := .ref (a0 1)) (C := RX0) (T := TX0) (N := 6) hx hb hts inX0_prevails hown hK hP 0 rfl rfl 2 (by decide) fl15 (fun _ h9 => h9) rfl dX0_prevails_7 ?_
    refine lv_iload_n hx hb dX0_prevails_10 rfl (lv_at hl 1 rfl) ?_
    refine K_iald hx hb hK hP 2 0 rfl rfl k (by omega) (Nat.le_of_ble_eq_true rfl) dX0_prevails_11 ?_
    refine lv_aload_n hx hb dX0_prevails_12 rfl (lv_at hl 0 rfl) ?_
    refine va_get (D := D) (ci := 0) (v := .ref (a0 1)) (C := RX0) (T := TX0) (N := 6) hx hb hts inX0_prevails hown hK hP 0 rfl rfl 2 (by decide) fl15 (fun _ h9 => h9) rfl dX0_prevails_13 ?_
    refine lv_iload_n hx hb dX0_prevails_16 rfl (lv_at hl 2 rfl) ?_
    refine K_iald hx hb hK hP 2 0 rfl rfl b (by omega) (Nat.le_of_ble_eq_true rfl) dX0_prevails_17 ?_
    refine lv_icmp_lt (tgt := 25) hx hb dX0_prevails_18 (by decide) (fun c3 => ?_) (fun c3 => ?_)
    · replace c3 := Int32.not_le.mpr c3
      refine lv_iconst (v := 0) hx hb dX0_prevails_25 (by decide) ?_
      exact K_zret (wf := (fun (_ : Unit) => wX0 cI cZ cG h0 a0 (nI nf) (nI nn) fg dy tl pl)) () hx hb hr hlocks hP hK hD hS dX0_prevails_26 rfl (Or.inr ⟨rfl, by simp [pvO, c3]⟩)
    · replace c3 := Int32.not_lt.mp c3
      refine lv_iconst (v := 1) hx hb dX0_prevails_21 (by decide) ?_
      refine lv_goto (tgt := 26) hx hb dX0_prevails_22 (by decide) ?_
      exact K_zret (wf := (fun (_ : Unit) => wX0 cI cZ cG h0 a0 (nI nf) (nI nn) fg dy tl pl)) () hx hb hr hlocks hP hK hD hS dX0_prevails_26 rfl (Or.inl ⟨rfl, by simp [pvO, c3]⟩)
theorem inX0_placeOn : ∀ w ∈ wsX00, w ∈ wsX0_placeOn := by decide +kernel
set_option maxHeartbeats 8000000 in
set_option maxRecDepth 100000 in
/-- placeOn -/
theorem c_X0_placeOn (l : Launch) (D : va_G) (cI cZ cG : ClassId) (h0 : Nat) (a0 : Nat → Nat) (sz : Nat) (nf : Nat) (nn : Nat) (fg : Nat → Int32) (dy : Nat → Int32) (tl : Nat → Int32) (pl : Nat → Int32) (f : Int32) (d : Int32) (as : Int32) (hnf : nf ≤ 12) (hnn : nn ≤ 60) : Met l yX0_placeOn wsX0_placeOn ({ frames := 1, cells := 0, slots := 0, locals := 23 } : Room) (va_Pc [.ref h0, .int f, .int d, .int as] (PB D (tyL cI cZ cG) (wX0 cI cZ cG h0 a0 (nI nf) (nI nn) fg dy tl pl) sz)) (va_Qi (fun (r : Int32) (_ : Unit) => r = foO pl (-6) (pO fg dy tl f d as nn)) (fun u => QB D (tyL cI cZ cG) (va_A (wX0 cI cZ cG h0 a0 (nI nf) (nI nn) fg dy tl pl) sz) ((fun (_ : Unit) => wX0 cI cZ cG h0 a0 (nI nf) (nI nn) fg dy tl pl) u)) (va_A (wX0 cI cZ cG h0 a0 (nI nf) (nI nn) fg dy tl pl) sz)) 0 0 (va_A (wX0 cI cZ cG h0 a0 (nI nf) (nI nn) fg dy tl pl) sz) := by
  refine K_start (cc := cX0_placeOn) (maxL := 6) (ret := some .int) (Qc := fun A => va_Qi (fun (r : Int32) (_ : Unit) => r = foO pl (-6) (pO fg dy tl f d as nn)) (fun u => QB D (tyL cI cZ cG) A ((fun (_ : Unit) => wX0 cI cZ cG h0 a0 (nI nf) (nI nn) fg dy tl pl) u)) A) (by decide) rfl (Nat.le_of_ble_eq_true rfl) ?_
  intro p e s m below meth c ls A hx hb hml hr hts hown hlocks hin hN hP hK hD hA hS hl hsz
  have hl : lv_has ls 6 [(0, .ref h0), (1, .int f), (2, .int d), (3, .int as)] := hl
  have fl39 := hts (.fieldLink RX0 39 "ModelTown$Book" "notes" "I") (by decide +kernel)
  have fl21 := hts (.fieldLink RX0 21 "ModelTown$Book" "notePlace" "[I") (by decide +kernel)
  have fl18 := hts (.fieldLink RX0 18 "ModelTown$Book" "noteToldOn" "[I") (by decide +kernel)
  refine lv_bipush (v := (-6)) hx hb dX0_placeOn_0 (by decide) ?_
  refine lv_istore (lv' := [(4, .int (-6)), (0, .ref h0), (1, .int f), (2, .int d), (3, .int as)]) hx hb dX0_placeOn_2 hl (by decide) rfl (fun ls hl => ?_)
  refine lv_iconst (v := 0) hx hb dX0_placeOn_4 (by decide) ?_
  refine lv_istore (lv' := [(5, .int 0), (4, .int (-6)), (0, .ref h0), (1, .int f), (2, .int d), (3, .int as)]) hx hb dX0_placeOn_5 hl (by decide) rfl (fun ls hl => ?_)
  refine loopW2 (fun (k : Nat) (o : Option Nat) H locs ls => (k ≤ nn) ∧ (o = pO fg dy tl f d as k) ∧ va_P D vwCl (wX0 cI cZ cG h0 a0 (nI nf) (nI nn) fg dy tl pl) H ∧ va_D A (wX0 cI cZ cG h0 a0 (nI nf) (nI nn) fg dy tl pl) ∧ va_S A s.heap H locs ∧ lv_has ls 6 [(5, .int (nI k)), (4, .int (oI o)), (0, .ref h0), (1, .int f), (2, .int d), (3, .int as)]) (fun (k : Nat) (o : Option Nat) => nn - k) (fun k o H locs ls hI ih7 => ?_) 0 none _ _ _ ⟨(by omega), rfl, hP, hD, hS, lv_sub hl [0, 1, 2, 3, 4, 5] rfl⟩
  obtain ⟨hk, ho, hP, hD, hS, hl⟩ := hI
  refine lv_iload hx hb dX0_placeOn_7 (lv_at hl 0 rfl) ?_
  refine lv_aload_n hx hb dX0_placeOn_9 rfl (lv_at hl 2 rfl) ?_
  refine va_get (D := D) (ci := 0) (v := .int (nI nn)) (C := RX0) (T := TX0) (N := 6) hx hb hts inX0_placeOn hown hK hP 0 rfl rfl 5 (by decide) fl39 (fun _ h9 => h9) rfl dX0_placeOn_10 ?_
  refine lv_icmp_ge (tgt := 59) hx hb dX0_placeOn_13 (by decide) (fun c1 => ?_) (fun c1 => ?_)
  · have c1 : nn ≤ k := (nI_leI (a := nn) (b := k) (by omega) (by omega)).mp c1
    have ek : k = nn := by omega
    rw [ek] at ho
    rcases o with _ | b
    · have hl : lv_has ls 6 [(5, .int (nI k)), (4, .int (-6)), (0, .ref h0), (1, .int f), (2, .int d), (3, .int as)] := hl
      refine lv_iload hx hb dX0_placeOn_59 (lv_at hl 1 rfl) ?_
      refine lv_bipush (v := (-6)) hx hb dX0_placeOn_61 (by decide) ?_
      refine lv_icmp_ne (tgt := 71) hx hb dX0_placeOn_63 (by decide) (fun c2 => absurd c2 (by decide)) (fun _ => ?_)
      refine lv_bipush (v := (-6)) hx hb dX0_placeOn_66 (by decide) ?_
      refine lv_goto (tgt := 78) hx hb dX0_placeOn_68 (by decide) ?_
      exact K_iret (wf := (fun (_ : Unit) => wX0 cI cZ cG h0 a0 (nI nf) (nI nn) fg dy tl pl)) () hx hb hr hlocks hP hK hD hS dX0_placeOn_78 (by rw [← ho]; rfl)
    · have hl : lv_has ls 6 [(5, .int (nI k)), (4, .int (nI b)), (0, .ref h0), (1, .int f), (2, .int d), (3, .int as)] := hl
      have hbb := pO_lt ho.symm
      refine lv_iload hx hb dX0_placeOn_59 (lv_at hl 1 rfl) ?_
      refine lv_bipush (v := (-6)) hx hb dX0_placeOn_61 (by decide) ?_
      refine lv_icmp_ne (tgt := 71) hx hb dX0_placeOn_63 (by decide) (fun c3 => ?_) (fun c3 => absurd c3 (nI_neN (by omega) (by decide)))
      refine lv_aload_n hx hb dX0_placeOn_71 rfl (lv_at hl 2 rfl) ?_
      refine va_get (D := D) (ci := 0) (v := .ref (a0 3)) (C := RX0) (T := TX0) (N := 6) hx hb hts inX0_placeOn hown hK hP 0 rfl rfl 4 (by decide) fl21 (fun _ h9 => h9) rfl dX0_placeOn_72 ?_
      refine lv_iload hx hb dX0_placeOn_75 (lv_at hl 1 rfl) ?_
      refine K_iald hx hb hK hP 4 0 rfl rfl b (by omega) (Nat.le_of_ble_eq_true rfl) dX0_placeOn_77 ?_
      exact K_iret (wf := (fun (_ : Unit) => wX0 cI cZ cG h0 a0 (nI nf) (nI nn) fg dy tl pl)) () hx hb hr hlocks hP hK hD hS dX0_placeOn_78 (by rw [← ho]; rfl)
  · have c1 : ¬ nn ≤ k := fun hq => c1 ((nI_leI (a := nn) (b := k) (by omega) (by omega)).mpr hq)
    refine lv_aload_n hx hb dX0_placeOn_16 rfl (lv_at hl 2 rfl) ?_
    refine va_get (D := D) (ci := 0) (v := .ref (a0 2)) (C := RX0) (T := TX0) (N := 6) hx hb hts inX0_placeOn hown hK hP 0 rfl rfl 3 (by decide) fl18 (fun _ h9 => h9) rfl dX0_placeOn_17 ?_
    refine lv_iload hx hb dX0_placeOn_20 (lv_at hl 0 rfl) ?_
    refine K_iald hx hb hK hP 3 0 rfl rfl k (by omega) (Nat.le_of_ble_eq_true rfl) dX0_placeOn_22 ?_
    refine lv_iload_n hx hb dX0_placeOn_23 rfl (lv_at hl 5 rfl) ?_
    refine lv_icmp_gt (tgt := 53) hx hb dX0_placeOn_24 (by decide) (fun c4 => ?_) (fun c4 => ?_)
    · replace c4 := Int32.not_le.mpr c4
      refine lv_iinc (v := nI (k + 1)) (lv' := [(5, .int (nI (k + 1))), (4, .int (oI o)), (0, .ref h0), (1, .int f), (2, .int d), (3, .int as)]) hx hb dX0_placeOn_53 hl (k := 0) rfl (inc1 _) (by decide) rfl (fun ls hl => ?_)
      refine lv_goto (tgt := 7) hx hb dX0_placeOn_56 (by decide) ?_
      exact ih7 (k + 1) o _ _ _ ⟨(by omega), (by simp [pO, ← ho, c1, c4]), hP, hD, hS, lv_sub hl [0, 1, 2, 3, 4, 5] rfl⟩ (by omega)
    · replace c4 := Int32.not_lt.mp c4
      refine lv_aload_n hx hb dX0_placeOn_27 rfl (lv_at hl 2 rfl) ?_
      refine lv_iload hx hb dX0_placeOn_28 (lv_at hl 0 rfl) ?_
      refine lv_iload_n hx hb dX0_placeOn_30 rfl (lv_at hl 3 rfl) ?_
      refine lv_iload_n hx hb dX0_placeOn_31 rfl (lv_at hl 4 rfl) ?_
      refine K_same (va_runV (As := [.int (nI k), .int f, .int d]) (rest := []) ⟨hx, hb, hml, hown, hts⟩ (c_X0_tellsOf l D cI cZ cG h0 a0 _ nf nn fg dy tl pl k f d hnf hnn (by omega)) (cwV 3 hts gX0_placeOn_X0_tellsOf rfl rfl rfl (by decide +kernel) ⟨(Nat.le_of_ble_eq_true rfl), (Nat.le_of_ble_eq_true rfl)⟩) ⟨PB_blind, va_recv hK hP (ci := 0) (q0 := 0) rfl rfl, (K_preS hN hK hP hD).2⟩ rfl rfl hl.1 rfl (lv_room (Nat.le_of_ble_eq_true rfl)) dX0_placeOn_32 ⟨Nat.zero_le _, Nat.zero_le _⟩) hD hS hA (fun r5 u H locs hw5 hP hD hS => ?_)
      have hP : va_P D vwCl (wX0 cI cZ cG h0 a0 (nI nf) (nI nn) fg dy tl pl) H := hP
      have hD : va_D A (wX0 cI cZ cG h0 a0 (nI nf) (nI nn) fg dy tl pl) := hD
      rcases hw5 with ⟨rfl, hw5⟩ | ⟨rfl, hw5⟩
      · skip
        refine lv_if_eq (tgt := 53) hx hb dX0_placeOn_35 (by decide) (fun c6 => absurd c6 (by decide)) (fun _ => ?_)
        refine lv_aload_n hx hb dX0_placeOn_38 rfl (lv_at hl 2 rfl) ?_
        refine lv_iload hx hb dX0_placeOn_39 (lv_at hl 0 rfl) ?_
        refine lv_iload hx hb dX0_placeOn_41 (lv_at hl 1 rfl) ?_
        refine K_same (va_runV (As := [.int (nI k), .int (oI o)]) (rest := []) ⟨hx, hb, hml, hown, hts⟩ (c_X0_prevails l D cI cZ cG h0 a0 _ nf nn fg dy tl pl k o hnf hnn (by omega) (fun b hb => by have := pO_lt (ho.symm.trans hb); omega)) (cwV 2 hts gX0_placeOn_X0_prevails rfl rfl rfl (by decide +kernel) ⟨(Nat.le_of_ble_eq_true rfl), (Nat.le_of_ble_eq_true rfl)⟩) ⟨PB_blind, va_recv hK hP (ci := 0) (q0 := 0) rfl rfl, (K_preS hN hK hP hD).2⟩ rfl rfl hl.1 rfl (lv_room (Nat.le_of_ble_eq_true rfl)) dX0_placeOn_43 ⟨Nat.zero_le _, Nat.zero_le _⟩) hD hS hA (fun r7 u H locs hw7 hP hD hS => ?_)
        have hP : va_P D vwCl (wX0 cI cZ cG h0 a0 (nI nf) (nI nn) fg dy tl pl) H := hP
        have hD : va_D A (wX0 cI cZ cG h0 a0 (nI nf) (nI nn) fg dy tl pl) := hD
        rcases hw7 with ⟨rfl, hw7⟩ | ⟨rfl, hw7⟩
        · skip
          refine lv_if_eq (tgt := 53) hx hb dX0_placeOn_46 (by decide) (fun c8 => absurd c8 (by decide)) (fun _ => ?_)
          refine lv_iload hx hb dX0_placeOn_49 (lv_at hl 0 rfl) ?_
          refine lv_istore (lv' := [(4, .int (nI k)), (5, .int (nI k)), (0, .ref h0), (1, .int f), (2, .int d), (3, .int as)]) hx hb dX0_placeOn_51 hl (by decide) rfl (fun ls hl => ?_)
          refine lv_iinc (v := nI (k + 1)) (lv' := [(5, .int (nI (k + 1))), (4, .int (nI k)), (0, .ref h0), (1, .int f), (2, .int d), (3, .int as)]) hx hb dX0_placeOn_53 hl (k := 1) rfl (inc1 _) (by decide) rfl (fun ls hl => ?_)
          refine lv_goto (tgt := 7) hx hb dX0_placeOn_56 (by decide) ?_
          exact ih7 (k + 1) (some k) _ _ _ ⟨(by omega), (by simp [pO, ← ho, c1, c4, hw5, hw7]), hP, hD, hS, lv_sub hl [0, 1, 2, 3, 4, 5] rfl⟩ (by omega)
        · skip
          refine lv_if_eq (tgt := 53) hx hb dX0_placeOn_46 (by decide) (fun _ => ?_) (fun c9 => absurd c9 (by decide))
          refine lv_iinc (v := nI (k + 1)) (lv' := [(5, .int (nI (k + 1))), (4, .int (oI o)), (0, .ref h0), (1, .int f), (2, .int d), (3, .int as)]) hx hb dX0_placeOn_53 hl (k := 0) rfl (inc1 _) (by decide) rfl (fun ls hl => ?_)
          refine lv_goto (tgt := 7) hx hb dX0_placeOn_56 (by decide) ?_
          exact ih7 (k + 1) o _ _ _ ⟨(by omega), (by simp [pO, ← ho, c1, c4, hw5, hw7]), hP, hD, hS, lv_sub hl [0, 1, 2, 3, 4, 5] rfl⟩ (by omega)
      · skip
        refine lv_if_eq (tgt := 53) hx hb dX0_placeOn_35 (by decide) (fun _ => ?_) (fun c10 => absurd c10 (by decide))
        refine lv_iinc (v := nI (k + 1)) (lv' := [(5, .int (nI (k + 1))), (4, .int (oI o)), (0, .ref h0), (1, .int f), (2, .int d), (3, .int as)]) hx hb dX0_placeOn_53 hl (k := 0) rfl (inc1 _) (by decide) rfl (fun ls hl => ?_)
        refine lv_goto (tgt := 7) hx hb dX0_placeOn_56 (by decide) ?_
        exact ih7 (k + 1) o _ _ _ ⟨(by omega), (by simp [pO, ← ho, c1, c4, hw5]), hP, hD, hS, lv_sub hl [0, 1, 2, 3, 4, 5] rfl⟩ (by omega)
set_option maxHeartbeats 8000000 in
set_option maxRecDepth 100000 in
/-- whereIs -/
theorem c_X0_whereIs (l : Launch) (D : va_G) (cI cZ cG : ClassId) (h0 : Nat) (a0 : Nat → Nat) (sz : Nat) (nf : Nat) (nn : Nat) (fg : Nat → Int32) (dy : Nat → Int32) (tl : Nat → Int32) (pl : Nat → Int32) (x : Int32) (d : Int32) (as : Int32) (hnf : nf ≤ 12) (hnn : nn ≤ 60) : Met l yX0_whereIs wsX0_whereIs ({ frames := 2, cells := 0, slots := 0, locals := 48 } : Room) (va_Pc [.ref h0, .int x, .int d, .int as] (PB D (tyL cI cZ cG) (wX0 cI cZ cG h0 a0 (nI nf) (nI nn) fg dy tl pl) sz)) (va_Qi (fun (r : Int32) (_ : Unit) => r = rWhere nf nn fg dy tl pl x d as) (fun u => QB D (tyL cI cZ cG) (va_A (wX0 cI cZ cG h0 a0 (nI nf) (nI nn) fg dy tl pl) sz) ((fun (_ : Unit) => wX0 cI cZ cG h0 a0 (nI nf) (nI nn) fg dy tl pl) u)) (va_A (wX0 cI cZ cG h0 a0 (nI nf) (nI nn) fg dy tl pl) sz)) 0 0 (va_A (wX0 cI cZ cG h0 a0 (nI nf) (nI nn) fg dy tl pl) sz) := by
  refine K_start (cc := cX0_whereIs) (maxL := 4) (ret := some .int) (Qc := fun A => va_Qi (fun (r : Int32) (_ : Unit) => r = rWhere nf nn fg dy tl pl x d as) (fun u => QB D (tyL cI cZ cG) A ((fun (_ : Unit) => wX0 cI cZ cG h0 a0 (nI nf) (nI nn) fg dy tl pl) u)) A) (by decide) rfl (Nat.le_of_ble_eq_true rfl) ?_
  intro p e s m below meth c ls A hx hb hml hr hts hown hlocks hin hN hP hK hD hA hS hl hsz
  have hl : lv_has ls 4 [(0, .ref h0), (1, .int x), (2, .int d), (3, .int as)] := hl
  refine lv_aload_n hx hb dX0_whereIs_0 rfl (lv_at hl 0 rfl) ?_
  refine lv_iload_n hx hb dX0_whereIs_1 rfl (lv_at hl 1 rfl) ?_
  refine K_same (va_runV (As := [.int x]) (rest := []) ⟨hx, hb, hml, hown, hts⟩ (c_X0_isFigure l D cI cZ cG h0 a0 _ nf nn fg dy tl pl x hnf hnn) (cwV 1 hts gX0_whereIs_X0_isFigure rfl rfl rfl (by decide +kernel) ⟨(Nat.le_of_ble_eq_true rfl), (Nat.le_of_ble_eq_true rfl)⟩) ⟨PB_blind, va_recv hK hP (ci := 0) (q0 := 0) rfl rfl, (K_preS hN hK hP hD).2⟩ rfl rfl hl.1 rfl (lv_room (Nat.le_of_ble_eq_true rfl)) dX0_whereIs_2 ⟨Nat.zero_le _, Nat.zero_le _⟩) hD hS hA (fun r1 u H locs hw1 hP hD hS => ?_)
  have hP : va_P D vwCl (wX0 cI cZ cG h0 a0 (nI nf) (nI nn) fg dy tl pl) H := hP
  have hD : va_D A (wX0 cI cZ cG h0 a0 (nI nf) (nI nn) fg dy tl pl) := hD
  rcases hw1 with ⟨rfl, hw1⟩ | ⟨rfl, hw1⟩
  · skip
    refine lv_if_ne (tgt := 11) hx hb dX0_whereIs_5 (by decide) (fun _ => ?_) (fun c2 => absurd c2 (by decide))
    refine lv_iload_n hx hb dX0_whereIs_11 rfl (lv_at hl 2 rfl) ?_
    refine K_none (va_runSN (As := [.int d]) (rest := []) ⟨hx, hb, hml, hown, hts⟩ (c_X4_isDay l D cI cZ cG _ d) ⟨va_cnB (host := "ModelTown") 1 hts gX0_whereIs_X4_isDay_n32 rfl rfl rfl hN.1 (hts (.initialized RX4) (by decide +kernel)) (by decide +kernel) ⟨(Nat.le_of_ble_eq_true rfl), (Nat.le_of_ble_eq_true rfl)⟩, hts (.static yX4_isDay) (by decide +kernel), trivial⟩ (K_pre0 hN hK) rfl rfl hl.1 rfl (lv_room (Nat.le_of_ble_eq_true rfl)) dX0_whereIs_12 ⟨Nat.zero_le _, Nat.zero_le _⟩) hP hS hA (fun r3 _ H locs hw3 hP hS => ?_)
    rcases hw3 with ⟨rfl, hw3⟩ | ⟨rfl, hw3⟩
    · skip
      refine lv_if_eq (tgt := 25) hx hb dX0_whereIs_15 (by decide) (fun c4 => absurd c4 (by decide)) (fun _ => ?_)
      refine lv_iload_n hx hb dX0_whereIs_18 rfl (lv_at hl 3 rfl) ?_
      refine K_none (va_runSN (As := [.int as]) (rest := []) ⟨hx, hb, hml, hown, hts⟩ (c_X4_isDay l D cI cZ cG _ as) ⟨va_cnB (host := "ModelTown") 1 hts gX0_whereIs_X4_isDay_n32 rfl rfl rfl hN.1 (hts (.initialized RX4) (by decide +kernel)) (by decide +kernel) ⟨(Nat.le_of_ble_eq_true rfl), (Nat.le_of_ble_eq_true rfl)⟩, hts (.static yX4_isDay) (by decide +kernel), trivial⟩ (K_pre0 hN hK) rfl rfl hl.1 rfl (lv_room (Nat.le_of_ble_eq_true rfl)) dX0_whereIs_19 ⟨Nat.zero_le _, Nat.zero_le _⟩) hP hS hA (fun r5 _ H locs hw5 hP hS => ?_)
      rcases hw5 with ⟨rfl, hw5⟩ | ⟨rfl, hw5⟩
      · skip
        refine lv_if_ne (tgt := 28) hx hb dX0_whereIs_22 (by decide) (fun _ => ?_) (fun c6 => absurd c6 (by decide))
        refine lv_aload_n hx hb dX0_whereIs_28 rfl (lv_at hl 0 rfl) ?_
        refine lv_iload_n hx hb dX0_whereIs_29 rfl (lv_at hl 1 rfl) ?_
        refine lv_iload_n hx hb dX0_whereIs_30 rfl (lv_at hl 2 rfl) ?_
        refine lv_iload_n hx hb dX0_whereIs_31 rfl (lv_at hl 3 rfl) ?_
        refine K_same (va_runV (As := [.int x, .int d, .int as]) (rest := []) ⟨hx, hb, hml, hown, hts⟩ (c_X0_placeOn l D cI cZ cG h0 a0 _ nf nn fg dy tl pl x d as hnf hnn) (cwV 3 hts gX0_whereIs_X0_placeOn rfl rfl rfl (by decide +kernel) ⟨(Nat.le_of_ble_eq_true rfl), (Nat.le_of_ble_eq_true rfl)⟩) ⟨PB_blind, va_recv hK hP (ci := 0) (q0 := 0) rfl rfl, (K_preS hN hK hP hD).2⟩ rfl rfl hl.1 rfl (lv_room (Nat.le_of_ble_eq_true rfl)) dX0_whereIs_32 ⟨Nat.zero_le _, Nat.zero_le _⟩) hD hS hA (fun r7 u H locs hw7 hP hD hS => ?_)
        have hP : va_P D vwCl (wX0 cI cZ cG h0 a0 (nI nf) (nI nn) fg dy tl pl) H := hP
        have hD : va_D A (wX0 cI cZ cG h0 a0 (nI nf) (nI nn) fg dy tl pl) := hD
        obtain rfl := hw7
        exact K_iret (wf := (fun (_ : Unit) => wX0 cI cZ cG h0 a0 (nI nf) (nI nn) fg dy tl pl)) () hx hb hr hlocks hP hK hD hS dX0_whereIs_35 (by simp [rWhere, hw1, hw3, hw5])
      · skip
        refine lv_if_ne (tgt := 28) hx hb dX0_whereIs_22 (by decide) (fun c8 => absurd c8 (by decide)) (fun _ => ?_)
        refine lv_bipush (v := (-102)) hx hb dX0_whereIs_25 (by decide) ?_
        exact K_iret (wf := (fun (_ : Unit) => wX0 cI cZ cG h0 a0 (nI nf) (nI nn) fg dy tl pl)) () hx hb hr hlocks hP hK hD hS dX0_whereIs_27 (by simp [rWhere, hw1, hw3, hw5])
    · skip
      refine lv_if_eq (tgt := 25) hx hb dX0_whereIs_15 (by decide) (fun _ => ?_) (fun c9 => absurd c9 (by decide))
      refine lv_bipush (v := (-102)) hx hb dX0_whereIs_25 (by decide) ?_
      exact K_iret (wf := (fun (_ : Unit) => wX0 cI cZ cG h0 a0 (nI nf) (nI nn) fg dy tl pl)) () hx hb hr hlocks hP hK hD hS dX0_whereIs_27 (by simp [rWhere, hw1, hw3])
  · skip
    refine lv_if_ne (tgt := 11) hx hb dX0_whereIs_5 (by decide) (fun c10 => absurd c10 (by decide)) (fun _ => ?_)
    refine lv_bipush (v := (-101)) hx hb dX0_whereIs_8 (by decide) ?_
    exact K_iret (wf := (fun (_ : Unit) => wX0 cI cZ cG h0 a0 (nI nf) (nI nn) fg dy tl pl)) () hx hb hr hlocks hP hK hD hS dX0_whereIs_10 (by simp [rWhere, hw1])
theorem inX0_figuresAt : ∀ w ∈ wsX00, w ∈ wsX0_figuresAt := by decide +kernel
set_option maxHeartbeats 8000000 in
set_option maxRecDepth 100000 in
/-- figuresAt -/
theorem c_X0_figuresAt (l : Launch) (D : va_G) (cI cZ cG : ClassId) (h0 : Nat) (a0 : Nat → Nat) (sz : Nat) (nf : Nat) (nn : Nat) (fg : Nat → Int32) (dy : Nat → Int32) (tl : Nat → Int32) (pl : Nat → Int32) (q : Int32) (d : Int32) (as : Int32) (hnf : nf ≤ 12) (hnn : nn ≤ 60) : Met l yX0_figuresAt wsX0_figuresAt ({ frames := 2, cells := 0, slots := 0, locals := 48 } : Room) (va_Pc [.ref h0, .int q, .int d, .int as] (PB D (tyL cI cZ cG) (wX0 cI cZ cG h0 a0 (nI nf) (nI nn) fg dy tl pl) sz)) (va_Qi (fun (r : Int32) (_ : Unit) => r = rAt nf nn fg dy tl pl q d as) (fun u => QB D (tyL cI cZ cG) (va_A (wX0 cI cZ cG h0 a0 (nI nf) (nI nn) fg dy tl pl) sz) ((fun (_ : Unit) => wX0 cI cZ cG h0 a0 (nI nf) (nI nn) fg dy tl pl) u)) (va_A (wX0 cI cZ cG h0 a0 (nI nf) (nI nn) fg dy tl pl) sz)) 0 0 (va_A (wX0 cI cZ cG h0 a0 (nI nf) (nI nn) fg dy tl pl) sz) := by
  refine K_start (cc := cX0_figuresAt) (maxL := 6) (ret := some .int) (Qc := fun A => va_Qi (fun (r : Int32) (_ : Unit) => r = rAt nf nn fg dy tl pl q d as) (fun u => QB D (tyL cI cZ cG) A ((fun (_ : Unit) => wX0 cI cZ cG h0 a0 (nI nf) (nI nn) fg dy tl pl) u)) A) (by decide) rfl (Nat.le_of_ble_eq_true rfl) ?_
  intro p e s m below meth c ls A hx hb hml hr hts hown hlocks hin hN hP hK hD hA hS hl hsz
  have hl : lv_has ls 6 [(0, .ref h0), (1, .int q), (2, .int d), (3, .int as)] := hl
  have fl24 := hts (.fieldLink RX0 24 "ModelTown$Book" "figures" "I") (by decide +kernel)
  refine lv_iload_n hx hb dX0_figuresAt_0 rfl (lv_at hl 1 rfl) ?_
  refine lv_iconst (v := (-1)) hx hb dX0_figuresAt_1 (by decide) ?_
  refine lv_bipush (v := 99) hx hb dX0_figuresAt_2 (by decide) ?_
  refine K_none (va_runSN (As := [.int q, .int (-1), .int 99]) (rest := []) ⟨hx, hb, hml, hown, hts⟩ (c_X4_isWithin l D cI cZ cG _ q (-1) 99) ⟨va_cnB (host := "ModelTown") 3 hts gX0_figuresAt_X4_isWithin_n35 rfl rfl rfl hN.2.1 (hts (.initialized RX4) (by decide +kernel)) (by decide +kernel) ⟨(Nat.le_of_ble_eq_true rfl), (Nat.le_of_ble_eq_true rfl)⟩, hts (.static yX4_isWithin) (by decide +kernel), trivial⟩ (K_pre0 hN hK) rfl rfl hl.1 rfl (lv_room (Nat.le_of_ble_eq_true rfl)) dX0_figuresAt_4 ⟨Nat.zero_le _, Nat.zero_le _⟩) hP hS hA (fun r1 _ H locs hw1 hP hS => ?_)
  rcases hw1 with ⟨rfl, hw1⟩ | ⟨rfl, hw1⟩
  · skip
    refine lv_if_eq (tgt := 24) hx hb dX0_figuresAt_7 (by decide) (fun c2 => absurd c2 (by decide)) (fun _ => ?_)
    refine lv_iload_n hx hb dX0_figuresAt_10 rfl (lv_at hl 2 rfl) ?_
    refine K_none (va_runSN (As := [.int d]) (rest := []) ⟨hx, hb, hml, hown, hts⟩ (c_X4_isDay l D cI cZ cG _ d) ⟨va_cnB (host := "ModelTown") 1 hts gX0_figuresAt_X4_isDay_n32 rfl rfl rfl hN.1 (hts (.initialized RX4) (by decide +kernel)) (by decide +kernel) ⟨(Nat.le_of_ble_eq_true rfl), (Nat.le_of_ble_eq_true rfl)⟩, hts (.static yX4_isDay) (by decide +kernel), trivial⟩ (K_pre0 hN hK) rfl rfl hl.1 rfl (lv_room (Nat.le_of_ble_eq_true rfl)) dX0_figuresAt_11 ⟨Nat.zero_le _, Nat.zero_le _⟩) hP hS hA (fun r3 _ H locs hw3 hP hS => ?_)
    rcases hw3 with ⟨rfl, hw3⟩ | ⟨rfl, hw3⟩
    · skip
      refine lv_if_eq (tgt := 24) hx hb dX0_figuresAt_14 (by decide) (fun c4 => absurd c4 (by decide)) (fun _ => ?_)
      refine lv_iload_n hx hb dX0_figuresAt_17 rfl (lv_at hl 3 rfl) ?_
      refine K_none (va_runSN (As := [.int as]) (rest := []) ⟨hx, hb, hml, hown, hts⟩ (c_X4_isDay l D cI cZ cG _ as) ⟨va_cnB (host := "ModelTown") 1 hts gX0_figuresAt_X4_isDay_n32 rfl rfl rfl hN.1 (hts (.initialized RX4) (by decide +kernel)) (by decide +kernel) ⟨(Nat.le_of_ble_eq_true rfl), (Nat.le_of_ble_eq_true rfl)⟩, hts (.static yX4_isDay) (by decide +kernel), trivial⟩ (K_pre0 hN hK) rfl rfl hl.1 rfl (lv_room (Nat.le_of_ble_eq_true rfl)) dX0_figuresAt_18 ⟨Nat.zero_le _, Nat.zero_le _⟩) hP hS hA (fun r5 _ H locs hw5 hP hS => ?_)
      rcases hw5 with ⟨rfl, hw5⟩ | ⟨rfl, hw5⟩
      · skip
        refine lv_if_ne (tgt := 27) hx hb dX0_figuresAt_21 (by decide) (fun _ => ?_) (fun c6 => absurd c6 (by decide))
        refine lv_iconst (v := 0) hx hb dX0_figuresAt_27 (by decide) ?_
        refine lv_istore (lv' := [(4, .int 0), (0, .ref h0), (1, .int q), (2, .int d), (3, .int as)]) hx hb dX0_figuresAt_28 hl (by decide) rfl (fun ls hl => ?_)
        refine lv_iconst (v := 0) hx hb dX0_figuresAt_30 (by decide) ?_
        refine lv_istore (lv' := [(5, .int 0), (4, .int 0), (0, .ref h0), (1, .int q), (2, .int d), (3, .int as)]) hx hb dX0_figuresAt_31 hl (by decide) rfl (fun ls hl => ?_)
        refine loopW2 (fun (k : Nat) (v : Int32) H locs ls => (k ≤ nf) ∧ (v = bA nn fg dy tl pl q d as k) ∧ va_P D vwCl (wX0 cI cZ cG h0 a0 (nI nf) (nI nn) fg dy tl pl) H ∧ va_D A (wX0 cI cZ cG h0 a0 (nI nf) (nI nn) fg dy tl pl) ∧ va_S A s.heap H locs ∧ lv_has ls 6 [(5, .int (nI k)), (4, .int v), (0, .ref h0), (1, .int q), (2, .int d), (3, .int as)]) (fun (k : Nat) (v : Int32) => nf - k) (fun k v H locs ls hI ih33 => ?_) 0 0 _ _ _ ⟨(by omega), rfl, hP, hD, hS, lv_sub hl [0, 1, 2, 3, 4, 5] rfl⟩
        obtain ⟨hk, hv, hP, hD, hS, hl⟩ := hI
        refine lv_iload hx hb dX0_figuresAt_33 (lv_at hl 0 rfl) ?_
        refine lv_aload_n hx hb dX0_figuresAt_35 rfl (lv_at hl 2 rfl) ?_
        refine va_get (D := D) (ci := 0) (v := .int (nI nf)) (C := RX0) (T := TX0) (N := 6) hx hb hts inX0_figuresAt hown hK hP 0 rfl rfl 0 (by decide) fl24 (fun _ h9 => h9) rfl dX0_figuresAt_36 ?_
        refine lv_icmp_ge (tgt := 69) hx hb dX0_figuresAt_39 (by decide) (fun c7 => ?_) (fun c7 => ?_)
        · have c7 : nf ≤ k := (nI_leI (a := nf) (b := k) (by omega) (by omega)).mp c7
          have ek : k = nf := by omega
          rw [ek] at hv
          refine lv_iload hx hb dX0_figuresAt_69 (lv_at hl 1 rfl) ?_
          exact K_iret (wf := (fun (_ : Unit) => wX0 cI cZ cG h0 a0 (nI nf) (nI nn) fg dy tl pl)) () hx hb hr hlocks hP hK hD hS dX0_figuresAt_71 (by rw [rAt, if_pos ⟨hw1, hw3, hw5⟩]; exact hv)
        · have c7 : ¬ nf ≤ k := fun hq => c7 ((nI_leI (a := nf) (b := k) (by omega) (by omega)).mpr hq)
          refine lv_aload_n hx hb dX0_figuresAt_42 rfl (lv_at hl 2 rfl) ?_
          refine lv_iload hx hb dX0_figuresAt_43 (lv_at hl 0 rfl) ?_
          refine lv_iload_n hx hb dX0_figuresAt_45 rfl (lv_at hl 4 rfl) ?_
          refine lv_iload_n hx hb dX0_figuresAt_46 rfl (lv_at hl 5 rfl) ?_
          refine K_same (va_runV (As := [.int (nI k), .int d, .int as]) (rest := []) ⟨hx, hb, hml, hown, hts⟩ (c_X0_placeOn l D cI cZ cG h0 a0 _ nf nn fg dy tl pl (nI k) d as hnf hnn) (cwV 3 hts gX0_figuresAt_X0_placeOn rfl rfl rfl (by decide +kernel) ⟨(Nat.le_of_ble_eq_true rfl), (Nat.le_of_ble_eq_true rfl)⟩) ⟨PB_blind, va_recv hK hP (ci := 0) (q0 := 0) rfl rfl, (K_preS hN hK hP hD).2⟩ rfl rfl hl.1 rfl (lv_room (Nat.le_of_ble_eq_true rfl)) dX0_figuresAt_47 ⟨Nat.zero_le _, Nat.zero_le _⟩) hD hS hA (fun r8 u H locs hw8 hP hD hS => ?_)
          have hP : va_P D vwCl (wX0 cI cZ cG h0 a0 (nI nf) (nI nn) fg dy tl pl) H := hP
          have hD : va_D A (wX0 cI cZ cG h0 a0 (nI nf) (nI nn) fg dy tl pl) := hD
          obtain rfl := hw8
          refine lv_iload_n hx hb dX0_figuresAt_50 rfl (lv_at hl 3 rfl) ?_
          refine lv_icmp_ne (tgt := 63) hx hb dX0_figuresAt_51 (by decide) (fun c9 => ?_) (fun c9 => ?_)
          · refine lv_iinc (v := nI (k + 1)) (lv' := [(5, .int (nI (k + 1))), (4, .int v), (0, .ref h0), (1, .int q), (2, .int d), (3, .int as)]) hx hb dX0_figuresAt_63 hl (k := 0) rfl (inc1 _) (by decide) rfl (fun ls hl => ?_)
            refine lv_goto (tgt := 33) hx hb dX0_figuresAt_66 (by decide) ?_
            exact ih33 (k + 1) v _ _ _ ⟨(by omega), (by simp [bA, ← hv, c9]), hP, hD, hS, lv_sub hl [0, 1, 2, 3, 4, 5] rfl⟩ (by omega)
          · refine lv_iload hx hb dX0_figuresAt_54 (lv_at hl 1 rfl) ?_
            refine lv_iconst (v := 1) hx hb dX0_figuresAt_56 (by decide) ?_
            refine lv_iload hx hb dX0_figuresAt_57 (lv_at hl 0 rfl) ?_
            refine lv_ishl hx hb dX0_figuresAt_59 ?_
            refine lv_ior hx hb dX0_figuresAt_60 ?_
            refine lv_istore (lv' := [(4, .int (v ||| (1 <<< ((nI k) &&& 31)))), (5, .int (nI k)), (0, .ref h0), (1, .int q), (2, .int d), (3, .int as)]) hx hb dX0_figuresAt_61 hl (by decide) rfl (fun ls hl => ?_)
            refine lv_iinc (v := nI (k + 1)) (lv' := [(5, .int (nI (k + 1))), (4, .int (v ||| (1 <<< ((nI k) &&& 31)))), (0, .ref h0), (1, .int q), (2, .int d), (3, .int as)]) hx hb dX0_figuresAt_63 hl (k := 1) rfl (inc1 _) (by decide) rfl (fun ls hl => ?_)
            refine lv_goto (tgt := 33) hx hb dX0_figuresAt_66 (by decide) ?_
            exact ih33 (k + 1) (v ||| (1 <<< ((nI k) &&& 31))) _ _ _ ⟨(by omega), (by simp [bA, ← hv, c9]), hP, hD, hS, lv_sub hl [0, 1, 2, 3, 4, 5] rfl⟩ (by omega)
      · skip
        refine lv_if_ne (tgt := 27) hx hb dX0_figuresAt_21 (by decide) (fun c10 => absurd c10 (by decide)) (fun _ => ?_)
        refine lv_bipush (v := (-2)) hx hb dX0_figuresAt_24 (by decide) ?_
        exact K_iret (wf := (fun (_ : Unit) => wX0 cI cZ cG h0 a0 (nI nf) (nI nn) fg dy tl pl)) () hx hb hr hlocks hP hK hD hS dX0_figuresAt_26 (by simp [rAt, hw1, hw3, hw5])
    · skip
      refine lv_if_eq (tgt := 24) hx hb dX0_figuresAt_14 (by decide) (fun _ => ?_) (fun c11 => absurd c11 (by decide))
      refine lv_bipush (v := (-2)) hx hb dX0_figuresAt_24 (by decide) ?_
      exact K_iret (wf := (fun (_ : Unit) => wX0 cI cZ cG h0 a0 (nI nf) (nI nn) fg dy tl pl)) () hx hb hr hlocks hP hK hD hS dX0_figuresAt_26 (by simp [rAt, hw1, hw3])
  · skip
    refine lv_if_eq (tgt := 24) hx hb dX0_figuresAt_7 (by decide) (fun _ => ?_) (fun c12 => absurd c12 (by decide))
    refine lv_bipush (v := (-2)) hx hb dX0_figuresAt_24 (by decide) ?_
    exact K_iret (wf := (fun (_ : Unit) => wX0 cI cZ cG h0 a0 (nI nf) (nI nn) fg dy tl pl)) () hx hb hr hlocks hP hK hD hS dX0_figuresAt_26 (by simp [rAt, hw1])
theorem inX0_turnsOf : ∀ w ∈ wsX00, w ∈ wsX0_turnsOf := by decide +kernel
set_option maxHeartbeats 8000000 in
set_option maxRecDepth 100000 in
/-- turnsOf -/
theorem c_X0_turnsOf (l : Launch) (D : va_G) (cI cZ cG : ClassId) (h0 : Nat) (a0 : Nat → Nat) (sz : Nat) (nf : Nat) (nn : Nat) (fg : Nat → Int32) (dy : Nat → Int32) (tl : Nat → Int32) (pl : Nat → Int32) (x : Int32) (d : Int32) (hnf : nf ≤ 12) (hnn : nn ≤ 60) : Met l yX0_turnsOf wsX0_turnsOf ({ frames := 2, cells := 0, slots := 0, locals := 43 } : Room) (va_Pc [.ref h0, .int x, .int d] (PB D (tyL cI cZ cG) (wX0 cI cZ cG h0 a0 (nI nf) (nI nn) fg dy tl pl) sz)) (va_Qi (fun (r : Int32) (_ : Unit) => r = rTurns nf nn fg dy pl x d) (fun u => QB D (tyL cI cZ cG) (va_A (wX0 cI cZ cG h0 a0 (nI nf) (nI nn) fg dy tl pl) sz) ((fun (_ : Unit) => wX0 cI cZ cG h0 a0 (nI nf) (nI nn) fg dy tl pl) u)) (va_A (wX0 cI cZ cG h0 a0 (nI nf) (nI nn) fg dy tl pl) sz)) 0 0 (va_A (wX0 cI cZ cG h0 a0 (nI nf) (nI nn) fg dy tl pl) sz) := by
  refine K_start (cc := cX0_turnsOf) (maxL := 6) (ret := some .int) (Qc := fun A => va_Qi (fun (r : Int32) (_ : Unit) => r = rTurns nf nn fg dy pl x d) (fun u => QB D (tyL cI cZ cG) A ((fun (_ : Unit) => wX0 cI cZ cG h0 a0 (nI nf) (nI nn) fg dy tl pl) u)) A) (by decide) rfl (Nat.le_of_ble_eq_true rfl) ?_
  intro p e s m below meth c ls A hx hb hml hr hts hown hlocks hin hN hP hK hD hA hS hl hsz
  have hl : lv_has ls 6 [(0, .ref h0), (1, .int x), (2, .int d)] := hl
  have fl39 := hts (.fieldLink RX0 39 "ModelTown$Book" "notes" "I") (by decide +kernel)
  have fl21 := hts (.fieldLink RX0 21 "ModelTown$Book" "notePlace" "[I") (by decide +kernel)
  refine lv_aload_n hx hb dX0_turnsOf_0 rfl (lv_at hl 0 rfl) ?_
  refine lv_iload_n hx hb dX0_turnsOf_1 rfl (lv_at hl 1 rfl) ?_
  refine K_same (va_runV (As := [.int x]) (rest := []) ⟨hx, hb, hml, hown, hts⟩ (c_X0_isFigure l D cI cZ cG h0 a0 _ nf nn fg dy tl pl x hnf hnn) (cwV 1 hts gX0_turnsOf_X0_isFigure rfl rfl rfl (by decide +kernel) ⟨(Nat.le_of_ble_eq_true rfl), (Nat.le_of_ble_eq_true rfl)⟩) ⟨PB_blind, va_recv hK hP (ci := 0) (q0 := 0) rfl rfl, (K_preS hN hK hP hD).2⟩ rfl rfl hl.1 rfl (lv_room (Nat.le_of_ble_eq_true rfl)) dX0_turnsOf_2 ⟨Nat.zero_le _, Nat.zero_le _⟩) hD hS hA (fun r1 u H locs hw1 hP hD hS => ?_)
  have hP : va_P D vwCl (wX0 cI cZ cG h0 a0 (nI nf) (nI nn) fg dy tl pl) H := hP
  have hD : va_D A (wX0 cI cZ cG h0 a0 (nI nf) (nI nn) fg dy tl pl) := hD
  rcases hw1 with ⟨rfl, hw1⟩ | ⟨rfl, hw1⟩
  · skip
    refine lv_if_ne (tgt := 10) hx hb dX0_turnsOf_5 (by decide) (fun _ => ?_) (fun c2 => absurd c2 (by decide))
    refine lv_iload_n hx hb dX0_turnsOf_10 rfl (lv_at hl 2 rfl) ?_
    refine K_none (va_runSN (As := [.int d]) (rest := []) ⟨hx, hb, hml, hown, hts⟩ (c_X4_isDay l D cI cZ cG _ d) ⟨va_cnB (host := "ModelTown") 1 hts gX0_turnsOf_X4_isDay_n32 rfl rfl rfl hN.1 (hts (.initialized RX4) (by decide +kernel)) (by decide +kernel) ⟨(Nat.le_of_ble_eq_true rfl), (Nat.le_of_ble_eq_true rfl)⟩, hts (.static yX4_isDay) (by decide +kernel), trivial⟩ (K_pre0 hN hK) rfl rfl hl.1 rfl (lv_room (Nat.le_of_ble_eq_true rfl)) dX0_turnsOf_11 ⟨Nat.zero_le _, Nat.zero_le _⟩) hP hS hA (fun r3 _ H locs hw3 hP hS => ?_)
    rcases hw3 with ⟨rfl, hw3⟩ | ⟨rfl, hw3⟩
    · skip
      refine lv_if_ne (tgt := 20) hx hb dX0_turnsOf_14 (by decide) (fun _ => ?_) (fun c4 => absurd c4 (by decide))
      refine lv_iconst (v := 0) hx hb dX0_turnsOf_20 (by decide) ?_
      refine lv_istore_n (lv' := [(3, .int 0), (0, .ref h0), (1, .int x), (2, .int d)]) hx hb dX0_turnsOf_21 rfl hl (by decide) rfl (fun ls hl => ?_)
      refine lv_bipush (v := (-6)) hx hb dX0_turnsOf_22 (by decide) ?_
      refine lv_istore (lv' := [(4, .int (-6)), (3, .int 0), (0, .ref h0), (1, .int x), (2, .int d)]) hx hb dX0_turnsOf_24 hl (by decide) rfl (fun ls hl => ?_)
      refine lv_iconst (v := 0) hx hb dX0_turnsOf_26 (by decide) ?_
      refine lv_istore (lv' := [(5, .int 0), (4, .int (-6)), (3, .int 0), (0, .ref h0), (1, .int x), (2, .int d)]) hx hb dX0_turnsOf_27 hl (by decide) rfl (fun ls hl => ?_)
      refine loopW3 (fun (k : Nat) (o : Option Nat) (v : Int32) H locs ls => (k ≤ nn) ∧ (o = tB fg dy x d k) ∧ (v = tC fg dy pl x d k) ∧ va_P D vwCl (wX0 cI cZ cG h0 a0 (nI nf) (nI nn) fg dy tl pl) H ∧ va_D A (wX0 cI cZ cG h0 a0 (nI nf) (nI nn) fg dy tl pl) ∧ va_S A s.heap H locs ∧ lv_has ls 6 [(5, .int (nI k)), (4, .int (oI o)), (3, .int v), (0, .ref h0), (1, .int x), (2, .int d)]) (fun (k : Nat) (o : Option Nat) (v : Int32) => nn - k) (fun k o v H locs ls hI ih29 => ?_) 0 none 0 _ _ _ ⟨(by omega), rfl, rfl, hP, hD, hS, lv_sub hl [0, 1, 2, 3, 4, 5] rfl⟩
      obtain ⟨hk, ho, hv, hP, hD, hS, hl⟩ := hI
      refine lv_iload hx hb dX0_turnsOf_29 (lv_at hl 0 rfl) ?_
      refine lv_aload_n hx hb dX0_turnsOf_31 rfl (lv_at hl 3 rfl) ?_
      refine va_get (D := D) (ci := 0) (v := .int (nI nn)) (C := RX0) (T := TX0) (N := 6) hx hb hts inX0_turnsOf hown hK hP 0 rfl rfl 5 (by decide) fl39 (fun _ h9 => h9) rfl dX0_turnsOf_32 ?_
      refine lv_icmp_ge (tgt := 97) hx hb dX0_turnsOf_35 (by decide) (fun c5 => ?_) (fun c5 => ?_)
      · have c5 : nn ≤ k := (nI_leI (a := nn) (b := k) (by omega) (by omega)).mp c5
        have ek : k = nn := by omega
        rw [ek] at ho
        rw [ek] at hv
        refine lv_iload_n hx hb dX0_turnsOf_97 rfl (lv_at hl 2 rfl) ?_
        exact K_iret (wf := (fun (_ : Unit) => wX0 cI cZ cG h0 a0 (nI nf) (nI nn) fg dy tl pl)) () hx hb hr hlocks hP hK hD hS dX0_turnsOf_98 (by rw [rTurns, if_pos hw1, if_pos hw3]; exact hv)
      · have c5 : ¬ nn ≤ k := fun hq => c5 ((nI_leI (a := nn) (b := k) (by omega) (by omega)).mpr hq)
        refine lv_aload_n hx hb dX0_turnsOf_38 rfl (lv_at hl 3 rfl) ?_
        refine lv_iload hx hb dX0_turnsOf_39 (lv_at hl 0 rfl) ?_
        refine lv_iload_n hx hb dX0_turnsOf_41 rfl (lv_at hl 4 rfl) ?_
        refine lv_iload_n hx hb dX0_turnsOf_42 rfl (lv_at hl 5 rfl) ?_
        refine K_same (va_runV (As := [.int (nI k), .int x, .int d]) (rest := []) ⟨hx, hb, hml, hown, hts⟩ (c_X0_tellsOf l D cI cZ cG h0 a0 _ nf nn fg dy tl pl k x d hnf hnn (by omega)) (cwV 3 hts gX0_turnsOf_X0_tellsOf rfl rfl rfl (by decide +kernel) ⟨(Nat.le_of_ble_eq_true rfl), (Nat.le_of_ble_eq_true rfl)⟩) ⟨PB_blind, va_recv hK hP (ci := 0) (q0 := 0) rfl rfl, (K_preS hN hK hP hD).2⟩ rfl rfl hl.1 rfl (lv_room (Nat.le_of_ble_eq_true rfl)) dX0_turnsOf_43 ⟨Nat.zero_le _, Nat.zero_le _⟩) hD hS hA (fun r6 u H locs hw6 hP hD hS => ?_)
        have hP : va_P D vwCl (wX0 cI cZ cG h0 a0 (nI nf) (nI nn) fg dy tl pl) H := hP
        have hD : va_D A (wX0 cI cZ cG h0 a0 (nI nf) (nI nn) fg dy tl pl) := hD
        rcases hw6 with ⟨rfl, hw6⟩ | ⟨rfl, hw6⟩
        · skip
          refine lv_if_eq (tgt := 91) hx hb dX0_turnsOf_46 (by decide) (fun c7 => absurd c7 (by decide)) (fun _ => ?_)
          refine lv_aload_n hx hb dX0_turnsOf_49 rfl (lv_at hl 3 rfl) ?_
          refine lv_iload hx hb dX0_turnsOf_50 (lv_at hl 0 rfl) ?_
          refine lv_iload hx hb dX0_turnsOf_52 (lv_at hl 1 rfl) ?_
          refine K_same (va_runV (As := [.int (nI k), .int (oI o)]) (rest := []) ⟨hx, hb, hml, hown, hts⟩ (c_X0_prevails l D cI cZ cG h0 a0 _ nf nn fg dy tl pl k o hnf hnn (by omega) (fun b hb => by have := tB_lt (ho.symm.trans hb); omega)) (cwV 2 hts gX0_turnsOf_X0_prevails rfl rfl rfl (by decide +kernel) ⟨(Nat.le_of_ble_eq_true rfl), (Nat.le_of_ble_eq_true rfl)⟩) ⟨PB_blind, va_recv hK hP (ci := 0) (q0 := 0) rfl rfl, (K_preS hN hK hP hD).2⟩ rfl rfl hl.1 rfl (lv_room (Nat.le_of_ble_eq_true rfl)) dX0_turnsOf_54 ⟨Nat.zero_le _, Nat.zero_le _⟩) hD hS hA (fun r8 u H locs hw8 hP hD hS => ?_)
          have hP : va_P D vwCl (wX0 cI cZ cG h0 a0 (nI nf) (nI nn) fg dy tl pl) H := hP
          have hD : va_D A (wX0 cI cZ cG h0 a0 (nI nf) (nI nn) fg dy tl pl) := hD
          rcases hw8 with ⟨rfl, hw8⟩ | ⟨rfl, hw8⟩
          · skip
            refine lv_if_eq (tgt := 91) hx hb dX0_turnsOf_57 (by decide) (fun c9 => absurd c9 (by decide)) (fun _ => ?_)
            rcases o with _ | b
            · have hl : lv_has ls 6 [(5, .int (nI k)), (4, .int (-6)), (3, .int v), (0, .ref h0), (1, .int x), (2, .int d)] := hl
              refine lv_iload hx hb dX0_turnsOf_60 (lv_at hl 1 rfl) ?_
              refine lv_bipush (v := (-6)) hx hb dX0_turnsOf_62 (by decide) ?_
              refine lv_icmp_eq (tgt := 84) hx hb dX0_turnsOf_64 (by decide) (fun _ => ?_) (fun c10 => absurd c10 (by decide))
              refine lv_iinc (v := v + 1) (lv' := [(3, .int (v + 1)), (5, .int (nI k)), (4, .int (-6)), (0, .ref h0), (1, .int x), (2, .int d)]) hx hb dX0_turnsOf_84 hl (k := 2) rfl rfl (by decide) rfl (fun ls hl => ?_)
              refine lv_iload hx hb dX0_turnsOf_87 (lv_at hl 1 rfl) ?_
              refine lv_istore (lv' := [(4, .int (nI k)), (3, .int (v + 1)), (5, .int (nI k)), (0, .ref h0), (1, .int x), (2, .int d)]) hx hb dX0_turnsOf_89 hl (by decide) rfl (fun ls hl => ?_)
              refine lv_iinc (v := nI (k + 1)) (lv' := [(5, .int (nI (k + 1))), (4, .int (nI k)), (3, .int (v + 1)), (0, .ref h0), (1, .int x), (2, .int d)]) hx hb dX0_turnsOf_91 hl (k := 2) rfl (inc1 _) (by decide) rfl (fun ls hl => ?_)
              refine lv_goto (tgt := 29) hx hb dX0_turnsOf_94 (by decide) ?_
              exact ih29 (k + 1) (some k) (v + 1) _ _ _ ⟨(by omega), (by simp [tB, ← ho, hw1, hw3, c5, hw6, hw8]), (by simp [tC, neO, ← ho, ← hv, hw1, hw3, c5, hw6, hw8]), hP, hD, hS, lv_sub hl [0, 1, 2, 3, 4, 5] rfl⟩ (by omega)
            · have hl : lv_has ls 6 [(5, .int (nI k)), (4, .int (nI b)), (3, .int v), (0, .ref h0), (1, .int x), (2, .int d)] := hl
              have hbb := tB_lt ho.symm
              refine lv_iload hx hb dX0_turnsOf_60 (lv_at hl 1 rfl) ?_
              refine lv_bipush (v := (-6)) hx hb dX0_turnsOf_62 (by decide) ?_
              refine lv_icmp_eq (tgt := 84) hx hb dX0_turnsOf_64 (by decide) (fun c11 => absurd c11 (nI_neN (by omega) (by decide))) (fun c11 => ?_)
              refine lv_aload_n hx hb dX0_turnsOf_67 rfl (lv_at hl 3 rfl) ?_
              refine va_get (D := D) (ci := 0) (v := .ref (a0 3)) (C := RX0) (T := TX0) (N := 6) hx hb hts inX0_turnsOf hown hK hP 0 rfl rfl 4 (by decide) fl21 (fun _ h9 => h9) rfl dX0_turnsOf_68 ?_
              refine lv_iload hx hb dX0_turnsOf_71 (lv_at hl 0 rfl) ?_
              refine K_iald hx hb hK hP 4 0 rfl rfl k (by omega) (Nat.le_of_ble_eq_true rfl) dX0_turnsOf_73 ?_
              refine lv_aload_n hx hb dX0_turnsOf_74 rfl (lv_at hl 3 rfl) ?_
              refine va_get (D := D) (ci := 0) (v := .ref (a0 3)) (C := RX0) (T := TX0) (N := 6) hx hb hts inX0_turnsOf hown hK hP 0 rfl rfl 4 (by decide) fl21 (fun _ h9 => h9) rfl dX0_turnsOf_75 ?_
              refine lv_iload hx hb dX0_turnsOf_78 (lv_at hl 1 rfl) ?_
              refine K_iald hx hb hK hP 4 0 rfl rfl b (by omega) (Nat.le_of_ble_eq_true rfl) dX0_turnsOf_80 ?_
              refine lv_icmp_eq (tgt := 87) hx hb dX0_turnsOf_81 (by decide) (fun c12 => ?_) (fun c12 => ?_)
              · refine lv_iload hx hb dX0_turnsOf_87 (lv_at hl 0 rfl) ?_
                refine lv_istore (lv' := [(4, .int (nI k)), (5, .int (nI k)), (3, .int v), (0, .ref h0), (1, .int x), (2, .int d)]) hx hb dX0_turnsOf_89 hl (by decide) rfl (fun ls hl => ?_)
                refine lv_iinc (v := nI (k + 1)) (lv' := [(5, .int (nI (k + 1))), (4, .int (nI k)), (3, .int v), (0, .ref h0), (1, .int x), (2, .int d)]) hx hb dX0_turnsOf_91 hl (k := 1) rfl (inc1 _) (by decide) rfl (fun ls hl => ?_)
                refine lv_goto (tgt := 29) hx hb dX0_turnsOf_94 (by decide) ?_
                exact ih29 (k + 1) (some k) v _ _ _ ⟨(by omega), (by simp [tB, ← ho, hw1, hw3, c5, hw6, hw8, eq_true c12]), (by simp [tC, neO, ← ho, ← hv, hw1, hw3, c5, hw6, hw8, eq_true c12]), hP, hD, hS, lv_sub hl [0, 1, 2, 3, 4, 5] rfl⟩ (by omega)
              · refine lv_iinc (v := v + 1) (lv' := [(3, .int (v + 1)), (5, .int (nI k)), (4, .int (nI b)), (0, .ref h0), (1, .int x), (2, .int d)]) hx hb dX0_turnsOf_84 hl (k := 2) rfl rfl (by decide) rfl (fun ls hl => ?_)
                refine lv_iload hx hb dX0_turnsOf_87 (lv_at hl 1 rfl) ?_
                refine lv_istore (lv' := [(4, .int (nI k)), (3, .int (v + 1)), (5, .int (nI k)), (0, .ref h0), (1, .int x), (2, .int d)]) hx hb dX0_turnsOf_89 hl (by decide) rfl (fun ls hl => ?_)
                refine lv_iinc (v := nI (k + 1)) (lv' := [(5, .int (nI (k + 1))), (4, .int (nI k)), (3, .int (v + 1)), (0, .ref h0), (1, .int x), (2, .int d)]) hx hb dX0_turnsOf_91 hl (k := 2) rfl (inc1 _) (by decide) rfl (fun ls hl => ?_)
                refine lv_goto (tgt := 29) hx hb dX0_turnsOf_94 (by decide) ?_
                exact ih29 (k + 1) (some k) (v + 1) _ _ _ ⟨(by omega), (by simp [tB, ← ho, hw1, hw3, c5, hw6, hw8, c12]), (by simp [tC, neO, ← ho, ← hv, hw1, hw3, c5, hw6, hw8, c12]), hP, hD, hS, lv_sub hl [0, 1, 2, 3, 4, 5] rfl⟩ (by omega)
          · skip
            refine lv_if_eq (tgt := 91) hx hb dX0_turnsOf_57 (by decide) (fun _ => ?_) (fun c13 => absurd c13 (by decide))
            refine lv_iinc (v := nI (k + 1)) (lv' := [(5, .int (nI (k + 1))), (4, .int (oI o)), (3, .int v), (0, .ref h0), (1, .int x), (2, .int d)]) hx hb dX0_turnsOf_91 hl (k := 0) rfl (inc1 _) (by decide) rfl (fun ls hl => ?_)
            refine lv_goto (tgt := 29) hx hb dX0_turnsOf_94 (by decide) ?_
            exact ih29 (k + 1) o v _ _ _ ⟨(by omega), (by simp [tB, ← ho, hw1, hw3, c5, hw6, hw8]), (by simp [tC, neO, ← ho, ← hv, hw1, hw3, c5, hw6, hw8]), hP, hD, hS, lv_sub hl [0, 1, 2, 3, 4, 5] rfl⟩ (by omega)
        · skip
          refine lv_if_eq (tgt := 91) hx hb dX0_turnsOf_46 (by decide) (fun _ => ?_) (fun c14 => absurd c14 (by decide))
          refine lv_iinc (v := nI (k + 1)) (lv' := [(5, .int (nI (k + 1))), (4, .int (oI o)), (3, .int v), (0, .ref h0), (1, .int x), (2, .int d)]) hx hb dX0_turnsOf_91 hl (k := 0) rfl (inc1 _) (by decide) rfl (fun ls hl => ?_)
          refine lv_goto (tgt := 29) hx hb dX0_turnsOf_94 (by decide) ?_
          exact ih29 (k + 1) o v _ _ _ ⟨(by omega), (by simp [tB, ← ho, hw1, hw3, c5, hw6]), (by simp [tC, neO, ← ho, ← hv, hw1, hw3, c5, hw6]), hP, hD, hS, lv_sub hl [0, 1, 2, 3, 4, 5] rfl⟩ (by omega)
    · skip
      refine lv_if_ne (tgt := 20) hx hb dX0_turnsOf_14 (by decide) (fun c15 => absurd c15 (by decide)) (fun _ => ?_)
      refine lv_bipush (v := (-2)) hx hb dX0_turnsOf_17 (by decide) ?_
      exact K_iret (wf := (fun (_ : Unit) => wX0 cI cZ cG h0 a0 (nI nf) (nI nn) fg dy tl pl)) () hx hb hr hlocks hP hK hD hS dX0_turnsOf_19 (by simp [rTurns, hw1, hw3])
  · skip
    refine lv_if_ne (tgt := 10) hx hb dX0_turnsOf_5 (by decide) (fun c16 => absurd c16 (by decide)) (fun _ => ?_)
    refine lv_iconst (v := (-1)) hx hb dX0_turnsOf_8 (by decide) ?_
    exact K_iret (wf := (fun (_ : Unit) => wX0 cI cZ cG h0 a0 (nI nf) (nI nn) fg dy tl pl)) () hx hb hr hlocks hP hK hD hS dX0_turnsOf_9 (by simp [rTurns, hw1])
theorem inX0_addFigure : ∀ w ∈ wsX00, w ∈ wsX0_addFigure := by decide +kernel
set_option maxHeartbeats 8000000 in
set_option maxRecDepth 100000 in
/-- addFigure -/
theorem c_X0_addFigure (l : Launch) (D : va_G) (cI cZ cG : ClassId) (h0 : Nat) (a0 : Nat → Nat) (sz : Nat) (nf : Nat) (nn : Nat) (fg : Nat → Int32) (dy : Nat → Int32) (tl : Nat → Int32) (pl : Nat → Int32) (hnf : nf ≤ 12) (hnn : nn ≤ 60) : Met l yX0_addFigure wsX0_addFigure ({ frames := 0, cells := 0, slots := 0, locals := 0 } : Room) (va_Pc [.ref h0] (PB D (tyL cI cZ cG) (wX0 cI cZ cG h0 a0 (nI nf) (nI nn) fg dy tl pl) sz)) (va_Qi (fun (r : Int32) (u : Nat) => r = rFigure nf ∧ u = if nf = 12 then nf else nf + 1) (fun u => QB D (tyL cI cZ cG) (va_A (wX0 cI cZ cG h0 a0 (nI nf) (nI nn) fg dy tl pl) sz) ((fun (u : Nat) => wX0 cI cZ cG h0 a0 (nI u) (nI nn) fg dy tl pl) u)) (va_A (wX0 cI cZ cG h0 a0 (nI nf) (nI nn) fg dy tl pl) sz)) 0 0 (va_A (wX0 cI cZ cG h0 a0 (nI nf) (nI nn) fg dy tl pl) sz) := by
  refine K_start (cc := cX0_addFigure) (maxL := 1) (ret := some .int) (Qc := fun A => va_Qi (fun (r : Int32) (u : Nat) => r = rFigure nf ∧ u = if nf = 12 then nf else nf + 1) (fun u => QB D (tyL cI cZ cG) A ((fun (u : Nat) => wX0 cI cZ cG h0 a0 (nI u) (nI nn) fg dy tl pl) u)) A) (by decide) rfl (Nat.le_of_ble_eq_true rfl) ?_
  intro p e s m below meth c ls A hx hb hml hr hts hown hlocks hin hN hP hK hD hA hS hl hsz
  have hl : lv_has ls 1 [(0, .ref h0)] := hl
  have fl24 := hts (.fieldLink RX0 24 "ModelTown$Book" "figures" "I") (by decide +kernel)
  refine lv_aload_n hx hb dX0_addFigure_0 rfl (lv_at hl 0 rfl) ?_
  refine va_get (D := D) (ci := 0) (v := .int (nI nf)) (C := RX0) (T := TX0) (N := 6) hx hb hts inX0_addFigure hown hK hP 0 rfl rfl 0 (by decide) fl24 (fun _ h9 => h9) rfl dX0_addFigure_1 ?_
  refine lv_bipush (v := 12) hx hb dX0_addFigure_4 (by decide) ?_
  refine lv_icmp_lt (tgt := 12) hx hb dX0_addFigure_6 (by decide) (fun c1 => ?_) (fun c1 => ?_)
  · have c1 : nf < 12 := (nI_ltI (a := nf) (b := 12) (by omega) (by omega)).mp c1
    have c1 : ¬ nf = 12 := by omega
    refine lv_aload_n hx hb dX0_addFigure_12 rfl (lv_at hl 0 rfl) ?_
    refine lv_dup hx hb dX0_addFigure_13 rfl ?_
    refine va_get (D := D) (ci := 0) (v := .int (nI nf)) (C := RX0) (T := TX0) (N := 6) hx hb hts inX0_addFigure hown hK hP 0 rfl rfl 0 (by decide) fl24 (fun _ h9 => h9) rfl dX0_addFigure_14 ?_
    refine lv_iconst (v := 1) hx hb dX0_addFigure_17 (by decide) ?_
    refine lv_iadd hx hb dX0_addFigure_18 ?_
    refine lv_topi (fun z2 ez2 => ?_)
    obtain rfl : z2 = nI (nf + 1) := ez2.trans (nI_add nf 1)
    refine va_put (D := D) (ci := 0) (v := .int (nI (nf + 1))) (ty := .int) (C := RX0) (T := TX0) (N := 6) hx hb hts inX0_addFigure tyX0 tyX0_ok nmX0 hown hK hP hD hS 0 rfl rfl 0 (by decide) fl24 (fun _ h9 => h9) rfl (by decide +kernel) rfl rfl (Nat.le_of_ble_eq_true rfl) dX0_addFigure_19 (fun H locs hP hD hS => ?_)
    have hP : va_P D vwCl (wX0 cI cZ cG h0 a0 (nI (nf + 1)) (nI nn) fg dy tl pl) H := hP
    have hD : va_D A (wX0 cI cZ cG h0 a0 (nI (nf + 1)) (nI nn) fg dy tl pl) := hD
    refine lv_aload_n hx hb dX0_addFigure_22 rfl (lv_at hl 0 rfl) ?_
    refine va_get (D := D) (ci := 0) (v := .int (nI (nf + 1))) (C := RX0) (T := TX0) (N := 6) hx hb hts inX0_addFigure hown hK hP 0 rfl rfl 0 (by decide) fl24 (fun _ h9 => h9) rfl dX0_addFigure_23 ?_
    refine lv_iconst (v := 1) hx hb dX0_addFigure_26 (by decide) ?_
    refine lv_isub hx hb dX0_addFigure_27 ?_
    refine lv_topi (fun z3 ez3 => ?_)
    obtain rfl : z3 = nI nf := ez3.trans (nI_pred nf)
    exact K_iret (wf := (fun (u : Nat) => wX0 cI cZ cG h0 a0 (nI u) (nI nn) fg dy tl pl)) (nf + 1) hx hb hr hlocks hP hK hD hS dX0_addFigure_28 (by simp [rFigure, c1])
  · have c1 : ¬ nf < 12 := fun hq => c1 ((nI_ltI (a := nf) (b := 12) (by omega) (by omega)).mpr hq)
    have c1 : nf = 12 := by omega
    refine lv_bipush (v := (-4)) hx hb dX0_addFigure_9 (by decide) ?_
    exact K_iret (wf := (fun (u : Nat) => wX0 cI cZ cG h0 a0 (nI u) (nI nn) fg dy tl pl)) nf hx hb hr hlocks hP hK hD hS dX0_addFigure_11 (by simp [rFigure, eq_true c1])
theorem inX0_addNote : ∀ w ∈ wsX00, w ∈ wsX0_addNote := by decide +kernel
set_option maxHeartbeats 8000000 in
set_option maxRecDepth 100000 in
/-- addNote -/
theorem c_X0_addNote (l : Launch) (D : va_G) (cI cZ cG : ClassId) (h0 : Nat) (a0 : Nat → Nat) (sz : Nat) (nf : Nat) (nn : Nat) (fg : Nat → Int32) (dy : Nat → Int32) (tl : Nat → Int32) (pl : Nat → Int32) (x : Int32) (d : Int32) (t : Int32) (q : Int32) (hnf : nf ≤ 12) (hnn : nn ≤ 60) : Met l yX0_addNote wsX0_addNote ({ frames := 2, cells := 0, slots := 0, locals := 43 } : Room) (va_Pc [.ref h0, .int x, .int d, .int t, .int q] (PB D (tyL cI cZ cG) (wX0 cI cZ cG h0 a0 (nI nf) (nI nn) fg dy tl pl) sz)) (va_Qi (fun (r : Int32) (u : Nat × (Nat → Int32) × (Nat → Int32) × (Nat → Int32) × (Nat → Int32)) => r = rNote nf nn tl x d t q ∧ u = if okNote nf nn tl x d t q = true then (nn + 1, upd fg nn x, upd dy nn d, upd tl nn t, upd pl nn q) else (nn, fg, dy, tl, pl)) (fun u => QB D (tyL cI cZ cG) (va_A (wX0 cI cZ cG h0 a0 (nI nf) (nI nn) fg dy tl pl) sz) ((fun (u : Nat × (Nat → Int32) × (Nat → Int32) × (Nat → Int32) × (Nat → Int32)) => wX0 cI cZ cG h0 a0 (nI nf) (nI u.1) u.2.1 u.2.2.1 u.2.2.2.1 u.2.2.2.2) u)) (va_A (wX0 cI cZ cG h0 a0 (nI nf) (nI nn) fg dy tl pl) sz)) 0 0 (va_A (wX0 cI cZ cG h0 a0 (nI nf) (nI nn) fg dy tl pl) sz) := by
  refine K_start (cc := cX0_addNote) (maxL := 5) (ret := some .int) (Qc := fun A => va_Qi (fun (r : Int32) (u : Nat × (Nat → Int32) × (Nat → Int32) × (Nat → Int32) × (Nat → Int32)) => r = rNote nf nn tl x d t q ∧ u = if okNote nf nn tl x d t q = true then (nn + 1, upd fg nn x, upd dy nn d, upd tl nn t, upd pl nn q) else (nn, fg, dy, tl, pl)) (fun u => QB D (tyL cI cZ cG) A ((fun (u : Nat × (Nat → Int32) × (Nat → Int32) × (Nat → Int32) × (Nat → Int32)) => wX0 cI cZ cG h0 a0 (nI nf) (nI u.1) u.2.1 u.2.2.1 u.2.2.2.1 u.2.2.2.2) u)) A) (by decide) rfl (Nat.le_of_ble_eq_true rfl) ?_
  intro p e s m below meth c ls A hx hb hml hr hts hown hlocks hin hN hP hK hD hA hS hl hsz
  have hl : lv_has ls 5 [(0, .ref h0), (1, .int x), (2, .int d), (3, .int t), (4, .int q)] := hl
  have fl39 := hts (.fieldLink RX0 39 "ModelTown$Book" "notes" "I") (by decide +kernel)
  have fl11 := hts (.fieldLink RX0 11 "ModelTown$Book" "noteFigure" "[I") (by decide +kernel)
  have fl15 := hts (.fieldLink RX0 15 "ModelTown$Book" "noteDay" "[I") (by decide +kernel)
  have fl18 := hts (.fieldLink RX0 18 "ModelTown$Book" "noteToldOn" "[I") (by decide +kernel)
  have fl21 := hts (.fieldLink RX0 21 "ModelTown$Book" "notePlace" "[I") (by decide +kernel)
  refine lv_aload_n hx hb dX0_addNote_0 rfl (lv_at hl 0 rfl) ?_
  refine lv_iload_n hx hb dX0_addNote_1 rfl (lv_at hl 1 rfl) ?_
  refine K_same (va_runV (As := [.int x]) (rest := []) ⟨hx, hb, hml, hown, hts⟩ (c_X0_isFigure l D cI cZ cG h0 a0 _ nf nn fg dy tl pl x hnf hnn) (cwV 1 hts gX0_addNote_X0_isFigure rfl rfl rfl (by decide +kernel) ⟨(Nat.le_of_ble_eq_true rfl), (Nat.le_of_ble_eq_true rfl)⟩) ⟨PB_blind, va_recv hK hP (ci := 0) (q0 := 0) rfl rfl, (K_preS hN hK hP hD).2⟩ rfl rfl hl.1 rfl (lv_room (Nat.le_of_ble_eq_true rfl)) dX0_addNote_2 ⟨Nat.zero_le _, Nat.zero_le _⟩) hD hS hA (fun r1 u H locs hw1 hP hD hS => ?_)
  have hP : va_P D vwCl (wX0 cI cZ cG h0 a0 (nI nf) (nI nn) fg dy tl pl) H := hP
  have hD : va_D A (wX0 cI cZ cG h0 a0 (nI nf) (nI nn) fg dy tl pl) := hD
  rcases hw1 with ⟨rfl, hw1⟩ | ⟨rfl, hw1⟩
  · skip
    refine lv_if_ne (tgt := 10) hx hb dX0_addNote_5 (by decide) (fun _ => ?_) (fun c2 => absurd c2 (by decide))
    refine lv_iload_n hx hb dX0_addNote_10 rfl (lv_at hl 2 rfl) ?_
    refine K_none (va_runSN (As := [.int d]) (rest := []) ⟨hx, hb, hml, hown, hts⟩ (c_X4_isDay l D cI cZ cG _ d) ⟨va_cnB (host := "ModelTown") 1 hts gX0_addNote_X4_isDay_n32 rfl rfl rfl hN.1 (hts (.initialized RX4) (by decide +kernel)) (by decide +kernel) ⟨(Nat.le_of_ble_eq_true rfl), (Nat.le_of_ble_eq_true rfl)⟩, hts (.static yX4_isDay) (by decide +kernel), trivial⟩ (K_pre0 hN hK) rfl rfl hl.1 rfl (lv_room (Nat.le_of_ble_eq_true rfl)) dX0_addNote_11 ⟨Nat.zero_le _, Nat.zero_le _⟩) hP hS hA (fun r3 _ H locs hw3 hP hS => ?_)
    rcases hw3 with ⟨rfl, hw3⟩ | ⟨rfl, hw3⟩
    · skip
      refine lv_if_eq (tgt := 35) hx hb dX0_addNote_14 (by decide) (fun c4 => absurd c4 (by decide)) (fun _ => ?_)
      refine lv_iload_n hx hb dX0_addNote_17 rfl (lv_at hl 3 rfl) ?_
      refine K_none (va_runSN (As := [.int t]) (rest := []) ⟨hx, hb, hml, hown, hts⟩ (c_X4_isDay l D cI cZ cG _ t) ⟨va_cnB (host := "ModelTown") 1 hts gX0_addNote_X4_isDay_n32 rfl rfl rfl hN.1 (hts (.initialized RX4) (by decide +kernel)) (by decide +kernel) ⟨(Nat.le_of_ble_eq_true rfl), (Nat.le_of_ble_eq_true rfl)⟩, hts (.static yX4_isDay) (by decide +kernel), trivial⟩ (K_pre0 hN hK) rfl rfl hl.1 rfl (lv_room (Nat.le_of_ble_eq_true rfl)) dX0_addNote_18 ⟨Nat.zero_le _, Nat.zero_le _⟩) hP hS hA (fun r5 _ H locs hw5 hP hS => ?_)
      rcases hw5 with ⟨rfl, hw5⟩ | ⟨rfl, hw5⟩
      · skip
        refine lv_if_eq (tgt := 35) hx hb dX0_addNote_21 (by decide) (fun c6 => absurd c6 (by decide)) (fun _ => ?_)
        refine lv_iload hx hb dX0_addNote_24 (lv_at hl 4 rfl) ?_
        refine lv_iconst (v := (-1)) hx hb dX0_addNote_26 (by decide) ?_
        refine lv_bipush (v := 99) hx hb dX0_addNote_27 (by decide) ?_
        refine K_none (va_runSN (As := [.int q, .int (-1), .int 99]) (rest := []) ⟨hx, hb, hml, hown, hts⟩ (c_X4_isWithin l D cI cZ cG _ q (-1) 99) ⟨va_cnB (host := "ModelTown") 3 hts gX0_addNote_X4_isWithin_n35 rfl rfl rfl hN.2.1 (hts (.initialized RX4) (by decide +kernel)) (by decide +kernel) ⟨(Nat.le_of_ble_eq_true rfl), (Nat.le_of_ble_eq_true rfl)⟩, hts (.static yX4_isWithin) (by decide +kernel), trivial⟩ (K_pre0 hN hK) rfl rfl hl.1 rfl (lv_room (Nat.le_of_ble_eq_true rfl)) dX0_addNote_29 ⟨Nat.zero_le _, Nat.zero_le _⟩) hP hS hA (fun r7 _ H locs hw7 hP hS => ?_)
        rcases hw7 with ⟨rfl, hw7⟩ | ⟨rfl, hw7⟩
        · skip
          refine lv_if_ne (tgt := 38) hx hb dX0_addNote_32 (by decide) (fun _ => ?_) (fun c8 => absurd c8 (by decide))
          refine lv_aload_n hx hb dX0_addNote_38 rfl (lv_at hl 0 rfl) ?_
          refine va_get (D := D) (ci := 0) (v := .int (nI nn)) (C := RX0) (T := TX0) (N := 6) hx hb hts inX0_addNote hown hK hP 0 rfl rfl 5 (by decide) fl39 (fun _ h9 => h9) rfl dX0_addNote_39 ?_
          refine lv_bipush (v := 60) hx hb dX0_addNote_42 (by decide) ?_
          refine lv_icmp_lt (tgt := 50) hx hb dX0_addNote_44 (by decide) (fun c9 => ?_) (fun c9 => ?_)
          · have c9 : nn < 60 := (nI_ltI (a := nn) (b := 60) (by omega) (by omega)).mp c9
            have c9 : ¬ nn = 60 := by omega
            refine lv_iload_n hx hb dX0_addNote_50 rfl (lv_at hl 2 rfl) ?_
            refine lv_iload_n hx hb dX0_addNote_51 rfl (lv_at hl 3 rfl) ?_
            refine lv_icmp_gt (tgt := 77) hx hb dX0_addNote_52 (by decide) (fun c10 => ?_) (fun c10 => ?_)
            · replace c10 := Int32.not_le.mpr c10
              refine lv_bipush (v := (-5)) hx hb dX0_addNote_77 (by decide) ?_
              exact K_iret (wf := (fun (u : Nat × (Nat → Int32) × (Nat → Int32) × (Nat → Int32) × (Nat → Int32)) => wX0 cI cZ cG h0 a0 (nI nf) (nI u.1) u.2.1 u.2.2.1 u.2.2.2.1 u.2.2.2.2)) (nn, fg, dy, tl, pl) hx hb hr hlocks hP hK hD hS dX0_addNote_79 (by simp [rNote, okNote, hw1, hw3, hw5, hw7, c9, c10])
            · replace c10 := Int32.not_lt.mp c10
              refine lv_aload_n hx hb dX0_addNote_55 rfl (lv_at hl 0 rfl) ?_
              refine va_get (D := D) (ci := 0) (v := .int (nI nn)) (C := RX0) (T := TX0) (N := 6) hx hb hts inX0_addNote hown hK hP 0 rfl rfl 5 (by decide) fl39 (fun _ h9 => h9) rfl dX0_addNote_56 ?_
              refine lv_if_le (tgt := 80) hx hb dX0_addNote_59 (by decide) (fun c11 => ?_) (fun c11 => ?_)
              · have c11 : nn ≤ 0 := (nI_leI (a := nn) (b := 0) (by omega) (by omega)).mp c11
                have c11 : nn = 0 := by omega
                refine lv_aload_n hx hb dX0_addNote_80 rfl (lv_at hl 0 rfl) ?_
                refine va_get (D := D) (ci := 0) (v := .ref (a0 0)) (C := RX0) (T := TX0) (N := 6) hx hb hts inX0_addNote hown hK hP 0 rfl rfl 1 (by decide) fl11 (fun _ h9 => h9) rfl dX0_addNote_81 ?_
                refine lv_aload_n hx hb dX0_addNote_84 rfl (lv_at hl 0 rfl) ?_
                refine va_get (D := D) (ci := 0) (v := .int (nI nn)) (C := RX0) (T := TX0) (N := 6) hx hb hts inX0_addNote hown hK hP 0 rfl rfl 5 (by decide) fl39 (fun _ h9 => h9) rfl dX0_addNote_85 ?_
                refine lv_iload_n hx hb dX0_addNote_88 rfl (lv_at hl 1 rfl) ?_
                refine K_iast hx hb hK hP hD hS 1 0 rfl rfl nn (by omega) (Nat.le_of_ble_eq_true rfl) dX0_addNote_89 (fun H locs hP hD hS => ?_)
                have hP : va_P D vwCl (wX0 cI cZ cG h0 a0 (nI nf) (nI nn) (upd fg nn x) dy tl pl) H := hP
                have hD : va_D A (wX0 cI cZ cG h0 a0 (nI nf) (nI nn) (upd fg nn x) dy tl pl) := hD
                refine lv_aload_n hx hb dX0_addNote_90 rfl (lv_at hl 0 rfl) ?_
                refine va_get (D := D) (ci := 0) (v := .ref (a0 1)) (C := RX0) (T := TX0) (N := 6) hx hb hts inX0_addNote hown hK hP 0 rfl rfl 2 (by decide) fl15 (fun _ h9 => h9) rfl dX0_addNote_91 ?_
                refine lv_aload_n hx hb dX0_addNote_94 rfl (lv_at hl 0 rfl) ?_
                refine va_get (D := D) (ci := 0) (v := .int (nI nn)) (C := RX0) (T := TX0) (N := 6) hx hb hts inX0_addNote hown hK hP 0 rfl rfl 5 (by decide) fl39 (fun _ h9 => h9) rfl dX0_addNote_95 ?_
                refine lv_iload_n hx hb dX0_addNote_98 rfl (lv_at hl 2 rfl) ?_
                refine K_iast hx hb hK hP hD hS 2 0 rfl rfl nn (by omega) (Nat.le_of_ble_eq_true rfl) dX0_addNote_99 (fun H locs hP hD hS => ?_)
                have hP : va_P D vwCl (wX0 cI cZ cG h0 a0 (nI nf) (nI nn) (upd fg nn x) (upd dy nn d) tl pl) H := hP
                have hD : va_D A (wX0 cI cZ cG h0 a0 (nI nf) (nI nn) (upd fg nn x) (upd dy nn d) tl pl) := hD
                refine lv_aload_n hx hb dX0_addNote_100 rfl (lv_at hl 0 rfl) ?_
                refine va_get (D := D) (ci := 0) (v := .ref (a0 2)) (C := RX0) (T := TX0) (N := 6) hx hb hts inX0_addNote hown hK hP 0 rfl rfl 3 (by decide) fl18 (fun _ h9 => h9) rfl dX0_addNote_101 ?_
                refine lv_aload_n hx hb dX0_addNote_104 rfl (lv_at hl 0 rfl) ?_
                refine va_get (D := D) (ci := 0) (v := .int (nI nn)) (C := RX0) (T := TX0) (N := 6) hx hb hts inX0_addNote hown hK hP 0 rfl rfl 5 (by decide) fl39 (fun _ h9 => h9) rfl dX0_addNote_105 ?_
                refine lv_iload_n hx hb dX0_addNote_108 rfl (lv_at hl 3 rfl) ?_
                refine K_iast hx hb hK hP hD hS 3 0 rfl rfl nn (by omega) (Nat.le_of_ble_eq_true rfl) dX0_addNote_109 (fun H locs hP hD hS => ?_)
                have hP : va_P D vwCl (wX0 cI cZ cG h0 a0 (nI nf) (nI nn) (upd fg nn x) (upd dy nn d) (upd tl nn t) pl) H := hP
                have hD : va_D A (wX0 cI cZ cG h0 a0 (nI nf) (nI nn) (upd fg nn x) (upd dy nn d) (upd tl nn t) pl) := hD
                refine lv_aload_n hx hb dX0_addNote_110 rfl (lv_at hl 0 rfl) ?_
                refine va_get (D := D) (ci := 0) (v := .ref (a0 3)) (C := RX0) (T := TX0) (N := 6) hx hb hts inX0_addNote hown hK hP 0 rfl rfl 4 (by decide) fl21 (fun _ h9 => h9) rfl dX0_addNote_111 ?_
                refine lv_aload_n hx hb dX0_addNote_114 rfl (lv_at hl 0 rfl) ?_
                refine va_get (D := D) (ci := 0) (v := .int (nI nn)) (C := RX0) (T := TX0) (N := 6) hx hb hts inX0_addNote hown hK hP 0 rfl rfl 5 (by decide) fl39 (fun _ h9 => h9) rfl dX0_addNote_115 ?_
                refine lv_iload hx hb dX0_addNote_118 (lv_at hl 4 rfl) ?_
                refine K_iast hx hb hK hP hD hS 4 0 rfl rfl nn (by omega) (Nat.le_of_ble_eq_true rfl) dX0_addNote_120 (fun H locs hP hD hS => ?_)
                have hP : va_P D vwCl (wX0 cI cZ cG h0 a0 (nI nf) (nI nn) (upd fg nn x) (upd dy nn d) (upd tl nn t) (upd pl nn q)) H := hP
                have hD : va_D A (wX0 cI cZ cG h0 a0 (nI nf) (nI nn) (upd fg nn x) (upd dy nn d) (upd tl nn t) (upd pl nn q)) := hD
                refine lv_aload_n hx hb dX0_addNote_121 rfl (lv_at hl 0 rfl) ?_
                refine lv_dup hx hb dX0_addNote_122 rfl ?_
                refine va_get (D := D) (ci := 0) (v := .int (nI nn)) (C := RX0) (T := TX0) (N := 6) hx hb hts inX0_addNote hown hK hP 0 rfl rfl 5 (by decide) fl39 (fun _ h9 => h9) rfl dX0_addNote_123 ?_
                refine lv_iconst (v := 1) hx hb dX0_addNote_126 (by decide) ?_
                refine lv_iadd hx hb dX0_addNote_127 ?_
                refine lv_topi (fun z12 ez12 => ?_)
                obtain rfl : z12 = nI (nn + 1) := ez12.trans (nI_add nn 1)
                refine va_put (D := D) (ci := 0) (v := .int (nI (nn + 1))) (ty := .int) (C := RX0) (T := TX0) (N := 6) hx hb hts inX0_addNote tyX0 tyX0_ok nmX0 hown hK hP hD hS 0 rfl rfl 5 (by decide) fl39 (fun _ h9 => h9) rfl (by decide +kernel) rfl rfl (Nat.le_of_ble_eq_true rfl) dX0_addNote_128 (fun H locs hP hD hS => ?_)
                have hP : va_P D vwCl (wX0 cI cZ cG h0 a0 (nI nf) (nI (nn + 1)) (upd fg nn x) (upd dy nn d) (upd tl nn t) (upd pl nn q)) H := hP
                have hD : va_D A (wX0 cI cZ cG h0 a0 (nI nf) (nI (nn + 1)) (upd fg nn x) (upd dy nn d) (upd tl nn t) (upd pl nn q)) := hD
                refine lv_aload_n hx hb dX0_addNote_131 rfl (lv_at hl 0 rfl) ?_
                refine va_get (D := D) (ci := 0) (v := .int (nI (nn + 1))) (C := RX0) (T := TX0) (N := 6) hx hb hts inX0_addNote hown hK hP 0 rfl rfl 5 (by decide) fl39 (fun _ h9 => h9) rfl dX0_addNote_132 ?_
                exact K_iret (wf := (fun (u : Nat × (Nat → Int32) × (Nat → Int32) × (Nat → Int32) × (Nat → Int32)) => wX0 cI cZ cG h0 a0 (nI nf) (nI u.1) u.2.1 u.2.2.1 u.2.2.2.1 u.2.2.2.2)) (nn + 1, upd fg nn x, upd dy nn d, upd tl nn t, upd pl nn q) hx hb hr hlocks hP hK hD hS dX0_addNote_135 (by simp [rNote, okNote, hw1, hw3, hw5, hw7, c9, c10, eq_true c11])
              · have c11 : ¬ nn ≤ 0 := fun hq => c11 ((nI_leI (a := nn) (b := 0) (by omega) (by omega)).mpr hq)
                have c11 : ¬ nn = 0 := by omega
                refine lv_iload_n hx hb dX0_addNote_62 rfl (lv_at hl 3 rfl) ?_
                refine lv_aload_n hx hb dX0_addNote_63 rfl (lv_at hl 0 rfl) ?_
                refine va_get (D := D) (ci := 0) (v := .ref (a0 2)) (C := RX0) (T := TX0) (N := 6) hx hb hts inX0_addNote hown hK hP 0 rfl rfl 3 (by decide) fl18 (fun _ h9 => h9) rfl dX0_addNote_64 ?_
                refine lv_aload_n hx hb dX0_addNote_67 rfl (lv_at hl 0 rfl) ?_
                refine va_get (D := D) (ci := 0) (v := .int (nI nn)) (C := RX0) (T := TX0) (N := 6) hx hb hts inX0_addNote hown hK hP 0 rfl rfl 5 (by decide) fl39 (fun _ h9 => h9) rfl dX0_addNote_68 ?_
                refine lv_iconst (v := 1) hx hb dX0_addNote_71 (by decide) ?_
                refine lv_isub hx hb dX0_addNote_72 ?_
                refine lv_topi (fun z13 ez13 => ?_)
                obtain rfl : z13 = nI (nn - 1) := ez13.trans (pk_sub (a := nn) (b := 1) (by omega))
                refine K_iald hx hb hK hP 3 0 rfl rfl (nn - 1) (by omega) (Nat.le_of_ble_eq_true rfl) dX0_addNote_73 ?_
                refine lv_icmp_ge (tgt := 80) hx hb dX0_addNote_74 (by decide) (fun c14 => ?_) (fun c14 => ?_)
                · refine lv_aload_n hx hb dX0_addNote_80 rfl (lv_at hl 0 rfl) ?_
                  refine va_get (D := D) (ci := 0) (v := .ref (a0 0)) (C := RX0) (T := TX0) (N := 6) hx hb hts inX0_addNote hown hK hP 0 rfl rfl 1 (by decide) fl11 (fun _ h9 => h9) rfl dX0_addNote_81 ?_
                  refine lv_aload_n hx hb dX0_addNote_84 rfl (lv_at hl 0 rfl) ?_
                  refine va_get (D := D) (ci := 0) (v := .int (nI nn)) (C := RX0) (T := TX0) (N := 6) hx hb hts inX0_addNote hown hK hP 0 rfl rfl 5 (by decide) fl39 (fun _ h9 => h9) rfl dX0_addNote_85 ?_
                  refine lv_iload_n hx hb dX0_addNote_88 rfl (lv_at hl 1 rfl) ?_
                  refine K_iast hx hb hK hP hD hS 1 0 rfl rfl nn (by omega) (Nat.le_of_ble_eq_true rfl) dX0_addNote_89 (fun H locs hP hD hS => ?_)
                  have hP : va_P D vwCl (wX0 cI cZ cG h0 a0 (nI nf) (nI nn) (upd fg nn x) dy tl pl) H := hP
                  have hD : va_D A (wX0 cI cZ cG h0 a0 (nI nf) (nI nn) (upd fg nn x) dy tl pl) := hD
                  refine lv_aload_n hx hb dX0_addNote_90 rfl (lv_at hl 0 rfl) ?_
                  refine va_get (D := D) (ci := 0) (v := .ref (a0 1)) (C := RX0) (T := TX0) (N := 6) hx hb hts inX0_addNote hown hK hP 0 rfl rfl 2 (by decide) fl15 (fun _ h9 => h9) rfl dX0_addNote_91 ?_
                  refine lv_aload_n hx hb dX0_addNote_94 rfl (lv_at hl 0 rfl) ?_
                  refine va_get (D := D) (ci := 0) (v := .int (nI nn)) (C := RX0) (T := TX0) (N := 6) hx hb hts inX0_addNote hown hK hP 0 rfl rfl 5 (by decide) fl39 (fun _ h9 => h9) rfl dX0_addNote_95 ?_
                  refine lv_iload_n hx hb dX0_addNote_98 rfl (lv_at hl 2 rfl) ?_
                  refine K_iast hx hb hK hP hD hS 2 0 rfl rfl nn (by omega) (Nat.le_of_ble_eq_true rfl) dX0_addNote_99 (fun H locs hP hD hS => ?_)
                  have hP : va_P D vwCl (wX0 cI cZ cG h0 a0 (nI nf) (nI nn) (upd fg nn x) (upd dy nn d) tl pl) H := hP
                  have hD : va_D A (wX0 cI cZ cG h0 a0 (nI nf) (nI nn) (upd fg nn x) (upd dy nn d) tl pl) := hD
                  refine lv_aload_n hx hb dX0_addNote_100 rfl (lv_at hl 0 rfl) ?_
                  refine va_get (D := D) (ci := 0) (v := .ref (a0 2)) (C := RX0) (T := TX0) (N := 6) hx hb hts inX0_addNote hown hK hP 0 rfl rfl 3 (by decide) fl18 (fun _ h9 => h9) rfl dX0_addNote_101 ?_
                  refine lv_aload_n hx hb dX0_addNote_104 rfl (lv_at hl 0 rfl) ?_
                  refine va_get (D := D) (ci := 0) (v := .int (nI nn)) (C := RX0) (T := TX0) (N := 6) hx hb hts inX0_addNote hown hK hP 0 rfl rfl 5 (by decide) fl39 (fun _ h9 => h9) rfl dX0_addNote_105 ?_
                  refine lv_iload_n hx hb dX0_addNote_108 rfl (lv_at hl 3 rfl) ?_
                  refine K_iast hx hb hK hP hD hS 3 0 rfl rfl nn (by omega) (Nat.le_of_ble_eq_true rfl) dX0_addNote_109 (fun H locs hP hD hS => ?_)
                  have hP : va_P D vwCl (wX0 cI cZ cG h0 a0 (nI nf) (nI nn) (upd fg nn x) (upd dy nn d) (upd tl nn t) pl) H := hP
                  have hD : va_D A (wX0 cI cZ cG h0 a0 (nI nf) (nI nn) (upd fg nn x) (upd dy nn d) (upd tl nn t) pl) := hD
                  refine lv_aload_n hx hb dX0_addNote_110 rfl (lv_at hl 0 rfl) ?_
                  refine va_get (D := D) (ci := 0) (v := .ref (a0 3)) (C := RX0) (T := TX0) (N := 6) hx hb hts inX0_addNote hown hK hP 0 rfl rfl 4 (by decide) fl21 (fun _ h9 => h9) rfl dX0_addNote_111 ?_
                  refine lv_aload_n hx hb dX0_addNote_114 rfl (lv_at hl 0 rfl) ?_
                  refine va_get (D := D) (ci := 0) (v := .int (nI nn)) (C := RX0) (T := TX0) (N := 6) hx hb hts inX0_addNote hown hK hP 0 rfl rfl 5 (by decide) fl39 (fun _ h9 => h9) rfl dX0_addNote_115 ?_
                  refine lv_iload hx hb dX0_addNote_118 (lv_at hl 4 rfl) ?_
                  refine K_iast hx hb hK hP hD hS 4 0 rfl rfl nn (by omega) (Nat.le_of_ble_eq_true rfl) dX0_addNote_120 (fun H locs hP hD hS => ?_)
                  have hP : va_P D vwCl (wX0 cI cZ cG h0 a0 (nI nf) (nI nn) (upd fg nn x) (upd dy nn d) (upd tl nn t) (upd pl nn q)) H := hP
                  have hD : va_D A (wX0 cI cZ cG h0 a0 (nI nf) (nI nn) (upd fg nn x) (upd dy nn d) (upd tl nn t) (upd pl nn q)) := hD
                  refine lv_aload_n hx hb dX0_addNote_121 rfl (lv_at hl 0 rfl) ?_
                  refine lv_dup hx hb dX0_addNote_122 rfl ?_
                  refine va_get (D := D) (ci := 0) (v := .int (nI nn)) (C := RX0) (T := TX0) (N := 6) hx hb hts inX0_addNote hown hK hP 0 rfl rfl 5 (by decide) fl39 (fun _ h9 => h9) rfl dX0_addNote_123 ?_
                  refine lv_iconst (v := 1) hx hb dX0_addNote_126 (by decide) ?_
                  refine lv_iadd hx hb dX0_addNote_127 ?_
                  refine lv_topi (fun z15 ez15 => ?_)
                  obtain rfl : z15 = nI (nn + 1) := ez15.trans (nI_add nn 1)
                  refine va_put (D := D) (ci := 0) (v := .int (nI (nn + 1))) (ty := .int) (C := RX0) (T := TX0) (N := 6) hx hb hts inX0_addNote tyX0 tyX0_ok nmX0 hown hK hP hD hS 0 rfl rfl 5 (by decide) fl39 (fun _ h9 => h9) rfl (by decide +kernel) rfl rfl (Nat.le_of_ble_eq_true rfl) dX0_addNote_128 (fun H locs hP hD hS => ?_)
                  have hP : va_P D vwCl (wX0 cI cZ cG h0 a0 (nI nf) (nI (nn + 1)) (upd fg nn x) (upd dy nn d) (upd tl nn t) (upd pl nn q)) H := hP
                  have hD : va_D A (wX0 cI cZ cG h0 a0 (nI nf) (nI (nn + 1)) (upd fg nn x) (upd dy nn d) (upd tl nn t) (upd pl nn q)) := hD
                  refine lv_aload_n hx hb dX0_addNote_131 rfl (lv_at hl 0 rfl) ?_
                  refine va_get (D := D) (ci := 0) (v := .int (nI (nn + 1))) (C := RX0) (T := TX0) (N := 6) hx hb hts inX0_addNote hown hK hP 0 rfl rfl 5 (by decide) fl39 (fun _ h9 => h9) rfl dX0_addNote_132 ?_
                  exact K_iret (wf := (fun (u : Nat × (Nat → Int32) × (Nat → Int32) × (Nat → Int32) × (Nat → Int32)) => wX0 cI cZ cG h0 a0 (nI nf) (nI u.1) u.2.1 u.2.2.1 u.2.2.2.1 u.2.2.2.2)) (nn + 1, upd fg nn x, upd dy nn d, upd tl nn t, upd pl nn q) hx hb hr hlocks hP hK hD hS dX0_addNote_135 (by simp [rNote, okNote, hw1, hw3, hw5, hw7, c9, c10, c11, c14])
                · refine lv_bipush (v := (-5)) hx hb dX0_addNote_77 (by decide) ?_
                  exact K_iret (wf := (fun (u : Nat × (Nat → Int32) × (Nat → Int32) × (Nat → Int32) × (Nat → Int32)) => wX0 cI cZ cG h0 a0 (nI nf) (nI u.1) u.2.1 u.2.2.1 u.2.2.2.1 u.2.2.2.2)) (nn, fg, dy, tl, pl) hx hb hr hlocks hP hK hD hS dX0_addNote_79 (by simp [rNote, okNote, hw1, hw3, hw5, hw7, c9, c10, c11, c14])
          · have c9 : ¬ nn < 60 := fun hq => c9 ((nI_ltI (a := nn) (b := 60) (by omega) (by omega)).mpr hq)
            have c9 : nn = 60 := by omega
            refine lv_bipush (v := (-4)) hx hb dX0_addNote_47 (by decide) ?_
            exact K_iret (wf := (fun (u : Nat × (Nat → Int32) × (Nat → Int32) × (Nat → Int32) × (Nat → Int32)) => wX0 cI cZ cG h0 a0 (nI nf) (nI u.1) u.2.1 u.2.2.1 u.2.2.2.1 u.2.2.2.2)) (nn, fg, dy, tl, pl) hx hb hr hlocks hP hK hD hS dX0_addNote_49 (by simp [rNote, okNote, hw1, hw3, hw5, hw7, eq_true c9])
        · skip
          refine lv_if_ne (tgt := 38) hx hb dX0_addNote_32 (by decide) (fun c16 => absurd c16 (by decide)) (fun _ => ?_)
          refine lv_bipush (v := (-2)) hx hb dX0_addNote_35 (by decide) ?_
          exact K_iret (wf := (fun (u : Nat × (Nat → Int32) × (Nat → Int32) × (Nat → Int32) × (Nat → Int32)) => wX0 cI cZ cG h0 a0 (nI nf) (nI u.1) u.2.1 u.2.2.1 u.2.2.2.1 u.2.2.2.2)) (nn, fg, dy, tl, pl) hx hb hr hlocks hP hK hD hS dX0_addNote_37 (by simp [rNote, okNote, hw1, hw3, hw5, hw7])
      · skip
        refine lv_if_eq (tgt := 35) hx hb dX0_addNote_21 (by decide) (fun _ => ?_) (fun c17 => absurd c17 (by decide))
        refine lv_bipush (v := (-2)) hx hb dX0_addNote_35 (by decide) ?_
        exact K_iret (wf := (fun (u : Nat × (Nat → Int32) × (Nat → Int32) × (Nat → Int32) × (Nat → Int32)) => wX0 cI cZ cG h0 a0 (nI nf) (nI u.1) u.2.1 u.2.2.1 u.2.2.2.1 u.2.2.2.2)) (nn, fg, dy, tl, pl) hx hb hr hlocks hP hK hD hS dX0_addNote_37 (by simp [rNote, okNote, hw1, hw3, hw5])
    · skip
      refine lv_if_eq (tgt := 35) hx hb dX0_addNote_14 (by decide) (fun _ => ?_) (fun c18 => absurd c18 (by decide))
      refine lv_bipush (v := (-2)) hx hb dX0_addNote_35 (by decide) ?_
      exact K_iret (wf := (fun (u : Nat × (Nat → Int32) × (Nat → Int32) × (Nat → Int32) × (Nat → Int32)) => wX0 cI cZ cG h0 a0 (nI nf) (nI u.1) u.2.1 u.2.2.1 u.2.2.2.1 u.2.2.2.2)) (nn, fg, dy, tl, pl) hx hb hr hlocks hP hK hD hS dX0_addNote_37 (by simp [rNote, okNote, hw1, hw3])
  · skip
    refine lv_if_ne (tgt := 10) hx hb dX0_addNote_5 (by decide) (fun c19 => absurd c19 (by decide)) (fun _ => ?_)
    refine lv_iconst (v := (-1)) hx hb dX0_addNote_8 (by decide) ?_
    exact K_iret (wf := (fun (u : Nat × (Nat → Int32) × (Nat → Int32) × (Nat → Int32) × (Nat → Int32)) => wX0 cI cZ cG h0 a0 (nI nf) (nI u.1) u.2.1 u.2.2.1 u.2.2.2.1 u.2.2.2.2)) (nn, fg, dy, tl, pl) hx hb hr hlocks hP hK hD hS dX0_addNote_9 (by simp [rNote, okNote, hw1])

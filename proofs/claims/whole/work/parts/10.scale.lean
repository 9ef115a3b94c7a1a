set_option maxHeartbeats 8000000 in
set_option maxRecDepth 100000 in
/-- isWithin -/
theorem c_X4_isWithin (l : Launch) (D : va_G) (cI cZ cG : ClassId)  (sz : Nat) (x : Int32) (lo : Int32) (hi : Int32)  : Met l yX4_isWithin wsX4_isWithin ({ frames := 0, cells := 0, slots := 0, locals := 0 } : Room) (va_Pc [.int x, .int lo, .int hi] (PB D (tyL cI cZ cG) (([] : va_W)) sz)) (va_Qi (fun (r : Int32) (_ : Unit) => bo r (inR x lo hi = true)) (fun u => QB D (tyL cI cZ cG) (va_A (([] : va_W)) sz) ((fun (_ : Unit) => ([] : va_W)) u)) (va_A (([] : va_W)) sz)) 0 0 (va_A (([] : va_W)) sz) := by
  refine K_start (cc := cX4_isWithin) (maxL := 3) (ret := some .boolean) (Qc := fun A => va_Qi (fun (r : Int32) (_ : Unit) => bo r (inR x lo hi = true)) (fun u => QB D (tyL cI cZ cG) A ((fun (_ : Unit) => ([] : va_W)) u)) A) (by decide) rfl (Nat.le_of_ble_eq_true rfl) ?_
  intro p e s m below meth c ls A hx hb hml hr hts hown hlocks hin hN hP hK hD hA hS hl hsz
  have hl : lv_has ls 3 [(0, .int x), (1, .int lo), (2, .int hi)] := hl
  refine lv_iload_n hx hb dX4_isWithin_0 rfl (lv_at hl 0 rfl) ?_
  refine lv_iload_n hx hb dX4_isWithin_1 rfl (lv_at hl 1 rfl) ?_
  refine lv_icmp_lt (tgt := 14) hx hb dX4_isWithin_2 (by decide) (fun c1 => ?_) (fun c1 => ?_)
  · replace c1 := Int32.not_le.mpr c1
    refine lv_iconst (v := 0) hx hb dX4_isWithin_14 (by decide) ?_
    exact K_zret (wf := (fun (_ : Unit) => ([] : va_W))) () hx hb hr hlocks hP hK hD hS dX4_isWithin_15 rfl (Or.inr ⟨rfl, inR_f1 c1⟩)
  · replace c1 := Int32.not_lt.mp c1
    refine lv_iload_n hx hb dX4_isWithin_5 rfl (lv_at hl 0 rfl) ?_
    refine lv_iload_n hx hb dX4_isWithin_6 rfl (lv_at hl 2 rfl) ?_
    refine lv_icmp_gt (tgt := 14) hx hb dX4_isWithin_7 (by decide) (fun c2 => ?_) (fun c2 => ?_)
    · replace c2 := Int32.not_le.mpr c2
      refine lv_iconst (v := 0) hx hb dX4_isWithin_14 (by decide) ?_
      exact K_zret (wf := (fun (_ : Unit) => ([] : va_W))) () hx hb hr hlocks hP hK hD hS dX4_isWithin_15 rfl (Or.inr ⟨rfl, inR_f2 c2⟩)
    · replace c2 := Int32.not_lt.mp c2
      refine lv_iconst (v := 1) hx hb dX4_isWithin_10 (by decide) ?_
      refine lv_goto (tgt := 15) hx hb dX4_isWithin_11 (by decide) ?_
      exact K_zret (wf := (fun (_ : Unit) => ([] : va_W))) () hx hb hr hlocks hP hK hD hS dX4_isWithin_15 rfl (Or.inl ⟨rfl, inR_t c1 c2⟩)
set_option maxHeartbeats 8000000 in
set_option maxRecDepth 100000 in
/-- isDay -/
theorem c_X4_isDay (l : Launch) (D : va_G) (cI cZ cG : ClassId)  (sz : Nat) (x : Int32)  : Met l yX4_isDay wsX4_isDay ({ frames := 1, cells := 0, slots := 0, locals := 22 } : Room) (va_Pc [.int x] (PB D (tyL cI cZ cG) (([] : va_W)) sz)) (va_Qi (fun (r : Int32) (_ : Unit) => bo r (inR x 0 3000 = true)) (fun u => QB D (tyL cI cZ cG) (va_A (([] : va_W)) sz) ((fun (_ : Unit) => ([] : va_W)) u)) (va_A (([] : va_W)) sz)) 0 0 (va_A (([] : va_W)) sz) := by
  refine K_start (cc := cX4_isDay) (maxL := 1) (ret := some .boolean) (Qc := fun A => va_Qi (fun (r : Int32) (_ : Unit) => bo r (inR x 0 3000 = true)) (fun u => QB D (tyL cI cZ cG) A ((fun (_ : Unit) => ([] : va_W)) u)) A) (by decide) rfl (Nat.le_of_ble_eq_true rfl) ?_
  intro p e s m below meth c ls A hx hb hml hr hts hown hlocks hin hN hP hK hD hA hS hl hsz
  have hl : lv_has ls 1 [(0, .int x)] := hl
  refine lv_iload_n hx hb dX4_isDay_0 rfl (lv_at hl 0 rfl) ?_
  refine lv_iconst (v := 0) hx hb dX4_isDay_1 (by decide) ?_
  refine lv_sipush (v := 3000) hx hb dX4_isDay_2 (by decide) ?_
  refine K_none (va_runS (As := [.int x, .int 0, .int 3000]) (rest := []) ⟨hx, hb, hml, hown, hts⟩ (c_X4_isWithin l D cI cZ cG _ x 0 3000) (va_cwS 3 hts gX4_isDay_X4_isWithin rfl rfl rfl (by decide +kernel) ⟨(Nat.le_of_ble_eq_true rfl), (Nat.le_of_ble_eq_true rfl)⟩) (K_pre0 hN hK) rfl rfl hl.1 rfl (lv_room (Nat.le_of_ble_eq_true rfl)) dX4_isDay_5 ⟨Nat.zero_le _, Nat.zero_le _⟩) hP hS hA (fun r1 _ H locs hw1 hP hS => ?_)
  rcases hw1 with ⟨rfl, hw1⟩ | ⟨rfl, hw1⟩
  · skip
    exact K_zret (wf := (fun (_ : Unit) => ([] : va_W))) () hx hb hr hlocks hP hK hD hS dX4_isDay_8 rfl (Or.inl ⟨rfl, by assumption⟩)
  · skip
    exact K_zret (wf := (fun (_ : Unit) => ([] : va_W))) () hx hb hr hlocks hP hK hD hS dX4_isDay_8 rfl (Or.inr ⟨rfl, by assumption⟩)
set_option maxHeartbeats 8000000 in
set_option maxRecDepth 100000 in
/-- oneIf -/
theorem c_X4_oneIf (l : Launch) (D : va_G) (cI cZ cG : ClassId)  (sz : Nat) (x : Int32) (hx01 : x = 0 ∨ x = 1) : Met l yX4_oneIf wsX4_oneIf ({ frames := 0, cells := 0, slots := 0, locals := 0 } : Room) (va_Pc [.int x] (PB D (tyL cI cZ cG) (([] : va_W)) sz)) (va_Qi (fun (r : Int32) (_ : Unit) => r = x) (fun u => QB D (tyL cI cZ cG) (va_A (([] : va_W)) sz) ((fun (_ : Unit) => ([] : va_W)) u)) (va_A (([] : va_W)) sz)) 0 0 (va_A (([] : va_W)) sz) := by
  refine K_start (cc := cX4_oneIf) (maxL := 1) (ret := some .int) (Qc := fun A => va_Qi (fun (r : Int32) (_ : Unit) => r = x) (fun u => QB D (tyL cI cZ cG) A ((fun (_ : Unit) => ([] : va_W)) u)) A) (by decide) rfl (Nat.le_of_ble_eq_true rfl) ?_
  intro p e s m below meth c ls A hx hb hml hr hts hown hlocks hin hN hP hK hD hA hS hl hsz
  have hl : lv_has ls 1 [(0, .int x)] := hl
  refine lv_iload_n hx hb dX4_oneIf_0 rfl (lv_at hl 0 rfl) ?_
  refine lv_if_eq (tgt := 8) hx hb dX4_oneIf_1 (by decide) (fun c1 => ?_) (fun c1 => ?_)
  · have c1 : x = 0 := c1
    refine lv_iconst (v := 0) hx hb dX4_oneIf_8 (by decide) ?_
    exact K_iret (wf := (fun (_ : Unit) => ([] : va_W))) () hx hb hr hlocks hP hK hD hS dX4_oneIf_9 (by rw [c1])
  · have c1 : x = 1 := hx01.resolve_left c1
    refine lv_iconst (v := 1) hx hb dX4_oneIf_4 (by decide) ?_
    refine lv_goto (tgt := 9) hx hb dX4_oneIf_5 (by decide) ?_
    exact K_iret (wf := (fun (_ : Unit) => ([] : va_W))) () hx hb hr hlocks hP hK hD hS dX4_oneIf_9 (by rw [c1])
theorem inX3_isThing : ∀ w ∈ wsX30, w ∈ wsX3_isThing := by decide +kernel
set_option maxHeartbeats 8000000 in
set_option maxRecDepth 100000 in
/-- isThing -/
theorem c_X3_isThing (l : Launch) (D : va_G) (cI cZ cG : ClassId) (h3 : Nat) (a3 : Nat → Nat) (sz : Nat) (nr : Nat) (nt : Nat) (nc : Nat) (rd : Nat → Int32) (rr : Nat → Int32) (rs : Nat → Int32) (so : Nat → Int32) (tr : Nat → Int32) (si : Nat → Int32) (gr : Nat → Int32) (ct : Nat → Int32) (cd : Nat → Int32) (cs : Nat → Int32) (x : Int32) (hnr : nr ≤ 6) (hnt : nt ≤ 20) (hnc : nc ≤ 60) : Met l yX3_isThing wsX3_isThing ({ frames := 1, cells := 0, slots := 0, locals := 22 } : Room) (va_Pc [.ref h3, .int x] (PB D (tyL cI cZ cG) (wX3 cI cZ cG h3 a3 (nI nr) (nI nt) (nI nc) rd rr rs so tr si gr ct cd cs) sz)) (va_Qi (fun (r : Int32) (_ : Unit) => bo r (inR x 0 (nI nt - 1) = true)) (fun u => QB D (tyL cI cZ cG) (va_A (wX3 cI cZ cG h3 a3 (nI nr) (nI nt) (nI nc) rd rr rs so tr si gr ct cd cs) sz) ((fun (_ : Unit) => wX3 cI cZ cG h3 a3 (nI nr) (nI nt) (nI nc) rd rr rs so tr si gr ct cd cs) u)) (va_A (wX3 cI cZ cG h3 a3 (nI nr) (nI nt) (nI nc) rd rr rs so tr si gr ct cd cs) sz)) 0 0 (va_A (wX3 cI cZ cG h3 a3 (nI nr) (nI nt) (nI nc) rd rr rs so tr si gr ct cd cs) sz) := by
  refine K_start (cc := cX3_isThing) (maxL := 2) (ret := some .boolean) (Qc := fun A => va_Qi (fun (r : Int32) (_ : Unit) => bo r (inR x 0 (nI nt - 1) = true)) (fun u => QB D (tyL cI cZ cG) A ((fun (_ : Unit) => wX3 cI cZ cG h3 a3 (nI nr) (nI nt) (nI nc) rd rr rs so tr si gr ct cd cs) u)) A) (by decide) rfl (Nat.le_of_ble_eq_true rfl) ?_
  intro p e s m below meth c ls A hx hb hml hr hts hown hlocks hin hN hP hK hD hA hS hl hsz
  have hl : lv_has ls 2 [(0, .ref h3), (1, .int x)] := hl
  have fl62 := hts (.fieldLink RX3 62 "ModelTown$Scale" "things" "I") (by decide +kernel)
  refine lv_iload_n hx hb dX3_isThing_0 rfl (lv_at hl 1 rfl) ?_
  refine lv_iconst (v := 0) hx hb dX3_isThing_1 (by decide) ?_
  refine lv_aload_n hx hb dX3_isThing_2 rfl (lv_at hl 0 rfl) ?_
  refine va_get (D := D) (ci := 3) (v := .int (nI nt)) (C := RX3) (T := TX3) (N := 13) hx hb hts inX3_isThing hown hK hP 0 rfl rfl 8 (by decide) fl62 (fun _ h9 => h9) rfl dX3_isThing_3 ?_
  refine lv_iconst (v := 1) hx hb dX3_isThing_6 (by decide) ?_
  refine lv_isub hx hb dX3_isThing_7 ?_
  refine K_none (va_runSN (As := [.int x, .int 0, .int ((nI nt) - 1)]) (rest := []) ⟨hx, hb, hml, hown, hts⟩ (c_X4_isWithin l D cI cZ cG _ x 0 ((nI nt) - 1)) ⟨va_cnB (host := "ModelTown") 3 hts gX3_isThing_X4_isWithin_n46 rfl rfl rfl hN.2.2.2.2.2.2.2.1 (hts (.initialized RX4) (by decide +kernel)) (by decide +kernel) ⟨(Nat.le_of_ble_eq_true rfl), (Nat.le_of_ble_eq_true rfl)⟩, hts (.static yX4_isWithin) (by decide +kernel), trivial⟩ (K_pre0 hN hK) rfl rfl hl.1 rfl (lv_room (Nat.le_of_ble_eq_true rfl)) dX3_isThing_8 ⟨Nat.zero_le _, Nat.zero_le _⟩) hP hS hA (fun r1 _ H locs hw1 hP hS => ?_)
  rcases hw1 with ⟨rfl, hw1⟩ | ⟨rfl, hw1⟩
  · skip
    exact K_zret (wf := (fun (_ : Unit) => wX3 cI cZ cG h3 a3 (nI nr) (nI nt) (nI nc) rd rr rs so tr si gr ct cd cs)) () hx hb hr hlocks hP hK hD hS dX3_isThing_11 rfl (Or.inl ⟨rfl, by assumption⟩)
  · skip
    exact K_zret (wf := (fun (_ : Unit) => wX3 cI cZ cG h3 a3 (nI nr) (nI nt) (nI nc) rd rr rs so tr si gr ct cd cs)) () hx hb hr hlocks hP hK hD hS dX3_isThing_11 rfl (Or.inr ⟨rfl, by assumption⟩)
theorem inX3_ruleOn : ∀ w ∈ wsX30, w ∈ wsX3_ruleOn := by decide +kernel
set_option maxHeartbeats 8000000 in
set_option maxRecDepth 100000 in
/-- ruleOn: the rule in force -/
theorem c_X3_ruleOn (l : Launch) (D : va_G) (cI cZ cG : ClassId) (h3 : Nat) (a3 : Nat → Nat) (sz : Nat) (nr : Nat) (nt : Nat) (nc : Nat) (rd : Nat → Int32) (rr : Nat → Int32) (rs : Nat → Int32) (so : Nat → Int32) (tr : Nat → Int32) (si : Nat → Int32) (gr : Nat → Int32) (ct : Nat → Int32) (cd : Nat → Int32) (cs : Nat → Int32) (d : Int32) (hnr : nr ≤ 6) (hnt : nt ≤ 20) (hnc : nc ≤ 60) : Met l yX3_ruleOn wsX3_ruleOn ({ frames := 0, cells := 0, slots := 0, locals := 0 } : Room) (va_Pc [.ref h3, .int d] (PB D (tyL cI cZ cG) (wX3 cI cZ cG h3 a3 (nI nr) (nI nt) (nI nc) rd rr rs so tr si gr ct cd cs) sz)) (va_Qi (fun (r : Int32) (_ : Unit) => r = oI (bR rd d nr)) (fun u => QB D (tyL cI cZ cG) (va_A (wX3 cI cZ cG h3 a3 (nI nr) (nI nt) (nI nc) rd rr rs so tr si gr ct cd cs) sz) ((fun (_ : Unit) => wX3 cI cZ cG h3 a3 (nI nr) (nI nt) (nI nc) rd rr rs so tr si gr ct cd cs) u)) (va_A (wX3 cI cZ cG h3 a3 (nI nr) (nI nt) (nI nc) rd rr rs so tr si gr ct cd cs) sz)) 0 0 (va_A (wX3 cI cZ cG h3 a3 (nI nr) (nI nt) (nI nc) rd rr rs so tr si gr ct cd cs) sz) := by
  refine K_start (cc := cX3_ruleOn) (maxL := 4) (ret := some .int) (Qc := fun A => va_Qi (fun (r : Int32) (_ : Unit) => r = oI (bR rd d nr)) (fun u => QB D (tyL cI cZ cG) A ((fun (_ : Unit) => wX3 cI cZ cG h3 a3 (nI nr) (nI nt) (nI nc) rd rr rs so tr si gr ct cd cs) u)) A) (by decide) rfl (Nat.le_of_ble_eq_true rfl) ?_
  intro p e s m below meth c ls A hx hb hml hr hts hown hlocks hin hN hP hK hD hA hS hl hsz
  have hl : lv_has ls 4 [(0, .ref h3), (1, .int d)] := hl
  have fl50 := hts (.fieldLink RX3 50 "ModelTown$Scale" "rules" "I") (by decide +kernel)
  have fl11 := hts (.fieldLink RX3 11 "ModelTown$Scale" "ruleDay" "[I") (by decide +kernel)
  refine lv_bipush (v := (-6)) hx hb dX3_ruleOn_0 (by decide) ?_
  refine lv_istore_n (lv' := [(2, .int (-6)), (0, .ref h3), (1, .int d)]) hx hb dX3_ruleOn_2 rfl hl (by decide) rfl (fun ls hl => ?_)
  refine lv_iconst (v := 0) hx hb dX3_ruleOn_3 (by decide) ?_
  refine lv_istore_n (lv' := [(3, .int 0), (2, .int (-6)), (0, .ref h3), (1, .int d)]) hx hb dX3_ruleOn_4 rfl hl (by decide) rfl (fun ls hl => ?_)
  refine loopW2 (fun (k : Nat) (o : Option Nat) H locs ls => (k ≤ nr) ∧ (o = bR rd d k) ∧ va_P D vwCl (wX3 cI cZ cG h3 a3 (nI nr) (nI nt) (nI nc) rd rr rs so tr si gr ct cd cs) H ∧ va_D A (wX3 cI cZ cG h3 a3 (nI nr) (nI nt) (nI nc) rd rr rs so tr si gr ct cd cs) ∧ va_S A s.heap H locs ∧ lv_has ls 4 [(3, .int (nI k)), (2, .int (oI o)), (0, .ref h3), (1, .int d)]) (fun (k : Nat) (o : Option Nat) => nr - k) (fun k o H locs ls hI ih5 => ?_) 0 none _ _ _ ⟨(by omega), rfl, hP, hD, hS, lv_sub hl [0, 1, 2, 3] rfl⟩
  obtain ⟨hk, ho, hP, hD, hS, hl⟩ := hI
  refine lv_iload_n hx hb dX3_ruleOn_5 rfl (lv_at hl 0 rfl) ?_
  refine lv_aload_n hx hb dX3_ruleOn_6 rfl (lv_at hl 2 rfl) ?_
  refine va_get (D := D) (ci := 3) (v := .int (nI nr)) (C := RX3) (T := TX3) (N := 13) hx hb hts inX3_ruleOn hown hK hP 0 rfl rfl 3 (by decide) fl50 (fun _ h9 => h9) rfl dX3_ruleOn_7 ?_
  refine lv_icmp_ge (tgt := 52) hx hb dX3_ruleOn_10 (by decide) (fun c1 => ?_) (fun c1 => ?_)
  · have c1 : nr ≤ k := (nI_leI (a := nr) (b := k) (by omega) (by omega)).mp c1
    have ek : k = nr := by omega
    rw [ek] at ho
    refine lv_iload_n hx hb dX3_ruleOn_52 rfl (lv_at hl 1 rfl) ?_
    exact K_iret (wf := (fun (_ : Unit) => wX3 cI cZ cG h3 a3 (nI nr) (nI nt) (nI nc) rd rr rs so tr si gr ct cd cs)) () hx hb hr hlocks hP hK hD hS dX3_ruleOn_53 (congrArg oI ho)
  · have c1 : ¬ nr ≤ k := fun hq => c1 ((nI_leI (a := nr) (b := k) (by omega) (by omega)).mpr hq)
    rcases o with _ | b
    · have hl : lv_has ls 4 [(3, .int (nI k)), (2, .int (-6)), (0, .ref h3), (1, .int d)] := hl
      refine lv_aload_n hx hb dX3_ruleOn_13 rfl (lv_at hl 2 rfl) ?_
      refine va_get (D := D) (ci := 3) (v := .ref (a3 0)) (C := RX3) (T := TX3) (N := 13) hx hb hts inX3_ruleOn hown hK hP 0 rfl rfl 0 (by decide) fl11 (fun _ h9 => h9) rfl dX3_ruleOn_14 ?_
      refine lv_iload_n hx hb dX3_ruleOn_17 rfl (lv_at hl 0 rfl) ?_
      refine K_iald hx hb hK hP 1 0 rfl rfl k (by omega) (Nat.le_of_ble_eq_true rfl) dX3_ruleOn_18 ?_
      refine lv_iload_n hx hb dX3_ruleOn_19 rfl (lv_at hl 3 rfl) ?_
      refine lv_icmp_gt (tgt := 46) hx hb dX3_ruleOn_20 (by decide) (fun c2 => ?_) (fun c2 => ?_)
      · replace c2 := Int32.not_le.mpr c2
        refine lv_iinc (v := nI (k + 1)) (lv' := [(3, .int (nI (k + 1))), (2, .int (-6)), (0, .ref h3), (1, .int d)]) hx hb dX3_ruleOn_46 hl (k := 0) rfl (inc1 _) (by decide) rfl (fun ls hl => ?_)
        refine lv_goto (tgt := 5) hx hb dX3_ruleOn_49 (by decide) ?_
        exact ih5 (k + 1) none _ _ _ ⟨(by omega), (by simp [bR, ← ho, c1, c2]), hP, hD, hS, lv_sub hl [0, 1, 2, 3] rfl⟩ (by omega)
      · replace c2 := Int32.not_lt.mp c2
        refine lv_iload_n hx hb dX3_ruleOn_23 rfl (lv_at hl 1 rfl) ?_
        refine lv_bipush (v := (-6)) hx hb dX3_ruleOn_24 (by decide) ?_
        refine lv_icmp_eq (tgt := 44) hx hb dX3_ruleOn_26 (by decide) (fun _ => ?_) (fun c3 => absurd c3 (by decide))
        refine lv_iload_n hx hb dX3_ruleOn_44 rfl (lv_at hl 0 rfl) ?_
        refine lv_istore_n (lv' := [(2, .int (nI k)), (3, .int (nI k)), (0, .ref h3), (1, .int d)]) hx hb dX3_ruleOn_45 rfl hl (by decide) rfl (fun ls hl => ?_)
        refine lv_iinc (v := nI (k + 1)) (lv' := [(3, .int (nI (k + 1))), (2, .int (nI k)), (0, .ref h3), (1, .int d)]) hx hb dX3_ruleOn_46 hl (k := 1) rfl (inc1 _) (by decide) rfl (fun ls hl => ?_)
        refine lv_goto (tgt := 5) hx hb dX3_ruleOn_49 (by decide) ?_
        exact ih5 (k + 1) (some k) _ _ _ ⟨(by omega), (by simp [bR, ← ho, c1, c2]), hP, hD, hS, lv_sub hl [0, 1, 2, 3] rfl⟩ (by omega)
    · have hl : lv_has ls 4 [(3, .int (nI k)), (2, .int (nI b)), (0, .ref h3), (1, .int d)] := hl
      have hbb := bR_lt ho.symm
      refine lv_aload_n hx hb dX3_ruleOn_13 rfl (lv_at hl 2 rfl) ?_
      refine va_get (D := D) (ci := 3) (v := .ref (a3 0)) (C := RX3) (T := TX3) (N := 13) hx hb hts inX3_ruleOn hown hK hP 0 rfl rfl 0 (by decide) fl11 (fun _ h9 => h9) rfl dX3_ruleOn_14 ?_
      refine lv_iload_n hx hb dX3_ruleOn_17 rfl (lv_at hl 0 rfl) ?_
      refine K_iald hx hb hK hP 1 0 rfl rfl k (by omega) (Nat.le_of_ble_eq_true rfl) dX3_ruleOn_18 ?_
      refine lv_iload_n hx hb dX3_ruleOn_19 rfl (lv_at hl 3 rfl) ?_
      refine lv_icmp_gt (tgt := 46) hx hb dX3_ruleOn_20 (by decide) (fun c4 => ?_) (fun c4 => ?_)
      · replace c4 := Int32.not_le.mpr c4
        refine lv_iinc (v := nI (k + 1)) (lv' := [(3, .int (nI (k + 1))), (2, .int (nI b)), (0, .ref h3), (1, .int d)]) hx hb dX3_ruleOn_46 hl (k := 0) rfl (inc1 _) (by decide) rfl (fun ls hl => ?_)
        refine lv_goto (tgt := 5) hx hb dX3_ruleOn_49 (by decide) ?_
        exact ih5 (k + 1) (some b) _ _ _ ⟨(by omega), (by simp [bR, ← ho, c1, c4]), hP, hD, hS, lv_sub hl [0, 1, 2, 3] rfl⟩ (by omega)
      · replace c4 := Int32.not_lt.mp c4
        refine lv_iload_n hx hb dX3_ruleOn_23 rfl (lv_at hl 1 rfl) ?_
        refine lv_bipush (v := (-6)) hx hb dX3_ruleOn_24 (by decide) ?_
        refine lv_icmp_eq (tgt := 44) hx hb dX3_ruleOn_26 (by decide) (fun c5 => absurd c5 (nI_neN (by omega) (by decide))) (fun c5 => ?_)
        refine lv_aload_n hx hb dX3_ruleOn_29 rfl (lv_at hl 2 rfl) ?_
        refine va_get (D := D) (ci := 3) (v := .ref (a3 0)) (C := RX3) (T := TX3) (N := 13) hx hb hts inX3_ruleOn hown hK hP 0 rfl rfl 0 (by decide) fl11 (fun _ h9 => h9) rfl dX3_ruleOn_30 ?_
        refine lv_iload_n hx hb dX3_ruleOn_33 rfl (lv_at hl 0 rfl) ?_
        refine K_iald hx hb hK hP 1 0 rfl rfl k (by omega) (Nat.le_of_ble_eq_true rfl) dX3_ruleOn_34 ?_
        refine lv_aload_n hx hb dX3_ruleOn_35 rfl (lv_at hl 2 rfl) ?_
        refine va_get (D := D) (ci := 3) (v := .ref (a3 0)) (C := RX3) (T := TX3) (N := 13) hx hb hts inX3_ruleOn hown hK hP 0 rfl rfl 0 (by decide) fl11 (fun _ h9 => h9) rfl dX3_ruleOn_36 ?_
        refine lv_iload_n hx hb dX3_ruleOn_39 rfl (lv_at hl 1 rfl) ?_
        refine K_iald hx hb hK hP 1 0 rfl rfl b (by omega) (Nat.le_of_ble_eq_true rfl) dX3_ruleOn_40 ?_
        refine lv_icmp_lt (tgt := 46) hx hb dX3_ruleOn_41 (by decide) (fun c6 => ?_) (fun c6 => ?_)
        · replace c6 := Int32.not_le.mpr c6
          refine lv_iinc (v := nI (k + 1)) (lv' := [(3, .int (nI (k + 1))), (2, .int (nI b)), (0, .ref h3), (1, .int d)]) hx hb dX3_ruleOn_46 hl (k := 0) rfl (inc1 _) (by decide) rfl (fun ls hl => ?_)
          refine lv_goto (tgt := 5) hx hb dX3_ruleOn_49 (by decide) ?_
          exact ih5 (k + 1) (some b) _ _ _ ⟨(by omega), (by simp [bR, ← ho, c1, c4, c6]), hP, hD, hS, lv_sub hl [0, 1, 2, 3] rfl⟩ (by omega)
        · replace c6 := Int32.not_lt.mp c6
          refine lv_iload_n hx hb dX3_ruleOn_44 rfl (lv_at hl 0 rfl) ?_
          refine lv_istore_n (lv' := [(2, .int (nI k)), (3, .int (nI k)), (0, .ref h3), (1, .int d)]) hx hb dX3_ruleOn_45 rfl hl (by decide) rfl (fun ls hl => ?_)
          refine lv_iinc (v := nI (k + 1)) (lv' := [(3, .int (nI (k + 1))), (2, .int (nI k)), (0, .ref h3), (1, .int d)]) hx hb dX3_ruleOn_46 hl (k := 1) rfl (inc1 _) (by decide) rfl (fun ls hl => ?_)
          refine lv_goto (tgt := 5) hx hb dX3_ruleOn_49 (by decide) ?_
          exact ih5 (k + 1) (some k) _ _ _ ⟨(by omega), (by simp [bR, ← ho, c1, c4, c6]), hP, hD, hS, lv_sub hl [0, 1, 2, 3] rfl⟩ (by omega)
theorem inX3_ratioOn : ∀ w ∈ wsX30, w ∈ wsX3_ratioOn := by decide +kernel
set_option maxHeartbeats 8000000 in
set_option maxRecDepth 100000 in
/-- ratioOn -/
theorem c_X3_ratioOn (l : Launch) (D : va_G) (cI cZ cG : ClassId) (h3 : Nat) (a3 : Nat → Nat) (sz : Nat) (nr : Nat) (nt : Nat) (nc : Nat) (rd : Nat → Int32) (rr : Nat → Int32) (rs : Nat → Int32) (so : Nat → Int32) (tr : Nat → Int32) (si : Nat → Int32) (gr : Nat → Int32) (ct : Nat → Int32) (cd : Nat → Int32) (cs : Nat → Int32) (d : Int32) (hnr : nr ≤ 6) (hnt : nt ≤ 20) (hnc : nc ≤ 60) : Met l yX3_ratioOn wsX3_ratioOn ({ frames := 1, cells := 0, slots := 0, locals := 23 } : Room) (va_Pc [.ref h3, .int d] (PB D (tyL cI cZ cG) (wX3 cI cZ cG h3 a3 (nI nr) (nI nt) (nI nc) rd rr rs so tr si gr ct cd cs) sz)) (va_Qi (fun (r : Int32) (_ : Unit) => r = raA nr rd rr d) (fun u => QB D (tyL cI cZ cG) (va_A (wX3 cI cZ cG h3 a3 (nI nr) (nI nt) (nI nc) rd rr rs so tr si gr ct cd cs) sz) ((fun (_ : Unit) => wX3 cI cZ cG h3 a3 (nI nr) (nI nt) (nI nc) rd rr rs so tr si gr ct cd cs) u)) (va_A (wX3 cI cZ cG h3 a3 (nI nr) (nI nt) (nI nc) rd rr rs so tr si gr ct cd cs) sz)) 0 0 (va_A (wX3 cI cZ cG h3 a3 (nI nr) (nI nt) (nI nc) rd rr rs so tr si gr ct cd cs) sz) := by
  refine K_start (cc := cX3_ratioOn) (maxL := 3) (ret := some .int) (Qc := fun A => va_Qi (fun (r : Int32) (_ : Unit) => r = raA nr rd rr d) (fun u => QB D (tyL cI cZ cG) A ((fun (_ : Unit) => wX3 cI cZ cG h3 a3 (nI nr) (nI nt) (nI nc) rd rr rs so tr si gr ct cd cs) u)) A) (by decide) rfl (Nat.le_of_ble_eq_true rfl) ?_
  intro p e s m below meth c ls A hx hb hml hr hts hown hlocks hin hN hP hK hD hA hS hl hsz
  have hl : lv_has ls 3 [(0, .ref h3), (1, .int d)] := hl
  have fl15 := hts (.fieldLink RX3 15 "ModelTown$Scale" "ruleRatio" "[I") (by decide +kernel)
  refine lv_aload_n hx hb dX3_ratioOn_0 rfl (lv_at hl 0 rfl) ?_
  refine lv_iload_n hx hb dX3_ratioOn_1 rfl (lv_at hl 1 rfl) ?_
  refine K_same (va_runV (As := [.int d]) (rest := []) ⟨hx, hb, hml, hown, hts⟩ (c_X3_ruleOn l D cI cZ cG h3 a3 _ nr nt nc rd rr rs so tr si gr ct cd cs d hnr hnt hnc) (cwV 1 hts gX3_ratioOn_X3_ruleOn rfl rfl rfl (by decide +kernel) ⟨(Nat.le_of_ble_eq_true rfl), (Nat.le_of_ble_eq_true rfl)⟩) ⟨PB_blind, va_recv hK hP (ci := 3) (q0 := 0) rfl rfl, (K_preS hN hK hP hD).2⟩ rfl rfl hl.1 rfl (lv_room (Nat.le_of_ble_eq_true rfl)) dX3_ratioOn_2 ⟨Nat.zero_le _, Nat.zero_le _⟩) hD hS hA (fun r1 u H locs hw1 hP hD hS => ?_)
  have hP : va_P D vwCl (wX3 cI cZ cG h3 a3 (nI nr) (nI nt) (nI nc) rd rr rs so tr si gr ct cd cs) H := hP
  have hD : va_D A (wX3 cI cZ cG h3 a3 (nI nr) (nI nt) (nI nc) rd rr rs so tr si gr ct cd cs) := hD
  rcases ho1 : bR rd d nr with _ | b1
  · rw [ho1] at hw1
    obtain rfl : r1 = -6 := hw1
    refine lv_istore_n (lv' := [(2, .int (-6)), (0, .ref h3), (1, .int d)]) hx hb dX3_ratioOn_5 rfl hl (by decide) rfl (fun ls hl => ?_)
    refine lv_iload_n hx hb dX3_ratioOn_6 rfl (lv_at hl 0 rfl) ?_
    refine lv_bipush (v := (-6)) hx hb dX3_ratioOn_7 (by decide) ?_
    refine lv_icmp_ne (tgt := 17) hx hb dX3_ratioOn_9 (by decide) (fun c2 => absurd c2 (by decide)) (fun _ => ?_)
    refine lv_bipush (v := 12) hx hb dX3_ratioOn_12 (by decide) ?_
    refine lv_goto (tgt := 23) hx hb dX3_ratioOn_14 (by decide) ?_
    exact K_iret (wf := (fun (_ : Unit) => wX3 cI cZ cG h3 a3 (nI nr) (nI nt) (nI nc) rd rr rs so tr si gr ct cd cs)) () hx hb hr hlocks hP hK hD hS dX3_ratioOn_23 (by rw [raA, ho1]; rfl)
  · rw [ho1] at hw1
    obtain rfl : r1 = nI b1 := hw1
    have hbb := bR_lt ho1
    refine lv_istore_n (lv' := [(2, .int (nI b1)), (0, .ref h3), (1, .int d)]) hx hb dX3_ratioOn_5 rfl hl (by decide) rfl (fun ls hl => ?_)
    refine lv_iload_n hx hb dX3_ratioOn_6 rfl (lv_at hl 0 rfl) ?_
    refine lv_bipush (v := (-6)) hx hb dX3_ratioOn_7 (by decide) ?_
    refine lv_icmp_ne (tgt := 17) hx hb dX3_ratioOn_9 (by decide) (fun c3 => ?_) (fun c3 => absurd c3 (nI_neN (by omega) (by decide)))
    refine lv_aload_n hx hb dX3_ratioOn_17 rfl (lv_at hl 1 rfl) ?_
    refine va_get (D := D) (ci := 3) (v := .ref (a3 1)) (C := RX3) (T := TX3) (N := 13) hx hb hts inX3_ratioOn hown hK hP 0 rfl rfl 1 (by decide) fl15 (fun _ h9 => h9) rfl dX3_ratioOn_18 ?_
    refine lv_iload_n hx hb dX3_ratioOn_21 rfl (lv_at hl 0 rfl) ?_
    refine K_iald hx hb hK hP 2 0 rfl rfl b1 (by omega) (Nat.le_of_ble_eq_true rfl) dX3_ratioOn_22 ?_
    exact K_iret (wf := (fun (_ : Unit) => wX3 cI cZ cG h3 a3 (nI nr) (nI nt) (nI nc) rd rr rs so tr si gr ct cd cs)) () hx hb hr hlocks hP hK hD hS dX3_ratioOn_23 (by rw [raA, ho1]; rfl)
theorem inX3_slackOn : ∀ w ∈ wsX30, w ∈ wsX3_slackOn := by decide +kernel
set_option maxHeartbeats 8000000 in
set_option maxRecDepth 100000 in
/-- slackOn -/
theorem c_X3_slackOn (l : Launch) (D : va_G) (cI cZ cG : ClassId) (h3 : Nat) (a3 : Nat → Nat) (sz : Nat) (nr : Nat) (nt : Nat) (nc : Nat) (rd : Nat → Int32) (rr : Nat → Int32) (rs : Nat → Int32) (so : Nat → Int32) (tr : Nat → Int32) (si : Nat → Int32) (gr : Nat → Int32) (ct : Nat → Int32) (cd : Nat → Int32) (cs : Nat → Int32) (d : Int32) (hnr : nr ≤ 6) (hnt : nt ≤ 20) (hnc : nc ≤ 60) : Met l yX3_slackOn wsX3_slackOn ({ frames := 1, cells := 0, slots := 0, locals := 23 } : Room) (va_Pc [.ref h3, .int d] (PB D (tyL cI cZ cG) (wX3 cI cZ cG h3 a3 (nI nr) (nI nt) (nI nc) rd rr rs so tr si gr ct cd cs) sz)) (va_Qi (fun (r : Int32) (_ : Unit) => r = slA nr rd rs d) (fun u => QB D (tyL cI cZ cG) (va_A (wX3 cI cZ cG h3 a3 (nI nr) (nI nt) (nI nc) rd rr rs so tr si gr ct cd cs) sz) ((fun (_ : Unit) => wX3 cI cZ cG h3 a3 (nI nr) (nI nt) (nI nc) rd rr rs so tr si gr ct cd cs) u)) (va_A (wX3 cI cZ cG h3 a3 (nI nr) (nI nt) (nI nc) rd rr rs so tr si gr ct cd cs) sz)) 0 0 (va_A (wX3 cI cZ cG h3 a3 (nI nr) (nI nt) (nI nc) rd rr rs so tr si gr ct cd cs) sz) := by
  refine K_start (cc := cX3_slackOn) (maxL := 3) (ret := some .int) (Qc := fun A => va_Qi (fun (r : Int32) (_ : Unit) => r = slA nr rd rs d) (fun u => QB D (tyL cI cZ cG) A ((fun (_ : Unit) => wX3 cI cZ cG h3 a3 (nI nr) (nI nt) (nI nc) rd rr rs so tr si gr ct cd cs) u)) A) (by decide) rfl (Nat.le_of_ble_eq_true rfl) ?_
  intro p e s m below meth c ls A hx hb hml hr hts hown hlocks hin hN hP hK hD hA hS hl hsz
  have hl : lv_has ls 3 [(0, .ref h3), (1, .int d)] := hl
  have fl18 := hts (.fieldLink RX3 18 "ModelTown$Scale" "ruleSlack" "[I") (by decide +kernel)
  refine lv_aload_n hx hb dX3_slackOn_0 rfl (lv_at hl 0 rfl) ?_
  refine lv_iload_n hx hb dX3_slackOn_1 rfl (lv_at hl 1 rfl) ?_
  refine K_same (va_runV (As := [.int d]) (rest := []) ⟨hx, hb, hml, hown, hts⟩ (c_X3_ruleOn l D cI cZ cG h3 a3 _ nr nt nc rd rr rs so tr si gr ct cd cs d hnr hnt hnc) (cwV 1 hts gX3_slackOn_X3_ruleOn rfl rfl rfl (by decide +kernel) ⟨(Nat.le_of_ble_eq_true rfl), (Nat.le_of_ble_eq_true rfl)⟩) ⟨PB_blind, va_recv hK hP (ci := 3) (q0 := 0) rfl rfl, (K_preS hN hK hP hD).2⟩ rfl rfl hl.1 rfl (lv_room (Nat.le_of_ble_eq_true rfl)) dX3_slackOn_2 ⟨Nat.zero_le _, Nat.zero_le _⟩) hD hS hA (fun r1 u H locs hw1 hP hD hS => ?_)
  have hP : va_P D vwCl (wX3 cI cZ cG h3 a3 (nI nr) (nI nt) (nI nc) rd rr rs so tr si gr ct cd cs) H := hP
  have hD : va_D A (wX3 cI cZ cG h3 a3 (nI nr) (nI nt) (nI nc) rd rr rs so tr si gr ct cd cs) := hD
  rcases ho1 : bR rd d nr with _ | b1
  · rw [ho1] at hw1
    obtain rfl : r1 = -6 := hw1
    refine lv_istore_n (lv' := [(2, .int (-6)), (0, .ref h3), (1, .int d)]) hx hb dX3_slackOn_5 rfl hl (by decide) rfl (fun ls hl => ?_)
    refine lv_iload_n hx hb dX3_slackOn_6 rfl (lv_at hl 0 rfl) ?_
    refine lv_bipush (v := (-6)) hx hb dX3_slackOn_7 (by decide) ?_
    refine lv_icmp_ne (tgt := 17) hx hb dX3_slackOn_9 (by decide) (fun c2 => absurd c2 (by decide)) (fun _ => ?_)
    refine lv_bipush (v := 10) hx hb dX3_slackOn_12 (by decide) ?_
    refine lv_goto (tgt := 23) hx hb dX3_slackOn_14 (by decide) ?_
    exact K_iret (wf := (fun (_ : Unit) => wX3 cI cZ cG h3 a3 (nI nr) (nI nt) (nI nc) rd rr rs so tr si gr ct cd cs)) () hx hb hr hlocks hP hK hD hS dX3_slackOn_23 (by rw [slA, ho1]; rfl)
  · rw [ho1] at hw1
    obtain rfl : r1 = nI b1 := hw1
    have hbb := bR_lt ho1
    refine lv_istore_n (lv' := [(2, .int (nI b1)), (0, .ref h3), (1, .int d)]) hx hb dX3_slackOn_5 rfl hl (by decide) rfl (fun ls hl => ?_)
    refine lv_iload_n hx hb dX3_slackOn_6 rfl (lv_at hl 0 rfl) ?_
    refine lv_bipush (v := (-6)) hx hb dX3_slackOn_7 (by decide) ?_
    refine lv_icmp_ne (tgt := 17) hx hb dX3_slackOn_9 (by decide) (fun c3 => ?_) (fun c3 => absurd c3 (nI_neN (by omega) (by decide)))
    refine lv_aload_n hx hb dX3_slackOn_17 rfl (lv_at hl 1 rfl) ?_
    refine va_get (D := D) (ci := 3) (v := .ref (a3 2)) (C := RX3) (T := TX3) (N := 13) hx hb hts inX3_slackOn hown hK hP 0 rfl rfl 2 (by decide) fl18 (fun _ h9 => h9) rfl dX3_slackOn_18 ?_
    refine lv_iload_n hx hb dX3_slackOn_21 rfl (lv_at hl 0 rfl) ?_
    refine K_iald hx hb hK hP 3 0 rfl rfl b1 (by omega) (Nat.le_of_ble_eq_true rfl) dX3_slackOn_22 ?_
    exact K_iret (wf := (fun (_ : Unit) => wX3 cI cZ cG h3 a3 (nI nr) (nI nt) (nI nc) rd rr rs so tr si gr ct cd cs)) () hx hb hr hlocks hP hK hD hS dX3_slackOn_23 (by rw [slA, ho1]; rfl)
set_option maxHeartbeats 8000000 in
set_option maxRecDepth 100000 in
/-- inForce -/
theorem c_X3_inForce (l : Launch) (D : va_G) (cI cZ cG : ClassId) (h3 : Nat) (a3 : Nat → Nat) (sz : Nat) (nr : Nat) (nt : Nat) (nc : Nat) (rd : Nat → Int32) (rr : Nat → Int32) (rs : Nat → Int32) (so : Nat → Int32) (tr : Nat → Int32) (si : Nat → Int32) (gr : Nat → Int32) (ct : Nat → Int32) (cd : Nat → Int32) (cs : Nat → Int32) (d : Int32) (w : Int32) (hnr : nr ≤ 6) (hnt : nt ≤ 20) (hnc : nc ≤ 60) : Met l yX3_inForce wsX3_inForce ({ frames := 2, cells := 0, slots := 0, locals := 45 } : Room) (va_Pc [.ref h3, .int d, .int w] (PB D (tyL cI cZ cG) (wX3 cI cZ cG h3 a3 (nI nr) (nI nt) (nI nc) rd rr rs so tr si gr ct cd cs) sz)) (va_Qi (fun (r : Int32) (_ : Unit) => r = rForce nr rd rr rs d w) (fun u => QB D (tyL cI cZ cG) (va_A (wX3 cI cZ cG h3 a3 (nI nr) (nI nt) (nI nc) rd rr rs so tr si gr ct cd cs) sz) ((fun (_ : Unit) => wX3 cI cZ cG h3 a3 (nI nr) (nI nt) (nI nc) rd rr rs so tr si gr ct cd cs) u)) (va_A (wX3 cI cZ cG h3 a3 (nI nr) (nI nt) (nI nc) rd rr rs so tr si gr ct cd cs) sz)) 0 0 (va_A (wX3 cI cZ cG h3 a3 (nI nr) (nI nt) (nI nc) rd rr rs so tr si gr ct cd cs) sz) := by
  refine K_start (cc := cX3_inForce) (maxL := 3) (ret := some .int) (Qc := fun A => va_Qi (fun (r : Int32) (_ : Unit) => r = rForce nr rd rr rs d w) (fun u => QB D (tyL cI cZ cG) A ((fun (_ : Unit) => wX3 cI cZ cG h3 a3 (nI nr) (nI nt) (nI nc) rd rr rs so tr si gr ct cd cs) u)) A) (by decide) rfl (Nat.le_of_ble_eq_true rfl) ?_
  intro p e s m below meth c ls A hx hb hml hr hts hown hlocks hin hN hP hK hD hA hS hl hsz
  have hl : lv_has ls 3 [(0, .ref h3), (1, .int d), (2, .int w)] := hl
  refine lv_iload_n hx hb dX3_inForce_0 rfl (lv_at hl 1 rfl) ?_
  refine K_none (va_runSN (As := [.int d]) (rest := []) ⟨hx, hb, hml, hown, hts⟩ (c_X4_isDay l D cI cZ cG _ d) ⟨va_cnB (host := "ModelTown") 1 hts gX3_inForce_X4_isDay_n42 rfl rfl rfl hN.2.2.2.2.2.2.1 (hts (.initialized RX4) (by decide +kernel)) (by decide +kernel) ⟨(Nat.le_of_ble_eq_true rfl), (Nat.le_of_ble_eq_true rfl)⟩, hts (.static yX4_isDay) (by decide +kernel), trivial⟩ (K_pre0 hN hK) rfl rfl hl.1 rfl (lv_room (Nat.le_of_ble_eq_true rfl)) dX3_inForce_1 ⟨Nat.zero_le _, Nat.zero_le _⟩) hP hS hA (fun r1 _ H locs hw1 hP hS => ?_)
  rcases hw1 with ⟨rfl, hw1⟩ | ⟨rfl, hw1⟩
  · skip
    refine lv_if_eq (tgt := 16) hx hb dX3_inForce_4 (by decide) (fun c2 => absurd c2 (by decide)) (fun _ => ?_)
    refine lv_iload_n hx hb dX3_inForce_7 rfl (lv_at hl 2 rfl) ?_
    refine lv_iconst (v := 0) hx hb dX3_inForce_8 (by decide) ?_
    refine lv_iconst (v := 1) hx hb dX3_inForce_9 (by decide) ?_
    refine K_none (va_runSN (As := [.int w, .int 0, .int 1]) (rest := []) ⟨hx, hb, hml, hown, hts⟩ (c_X4_isWithin l D cI cZ cG _ w 0 1) ⟨va_cnB (host := "ModelTown") 3 hts gX3_inForce_X4_isWithin_n46 rfl rfl rfl hN.2.2.2.2.2.2.2.1 (hts (.initialized RX4) (by decide +kernel)) (by decide +kernel) ⟨(Nat.le_of_ble_eq_true rfl), (Nat.le_of_ble_eq_true rfl)⟩, hts (.static yX4_isWithin) (by decide +kernel), trivial⟩ (K_pre0 hN hK) rfl rfl hl.1 rfl (lv_room (Nat.le_of_ble_eq_true rfl)) dX3_inForce_10 ⟨Nat.zero_le _, Nat.zero_le _⟩) hP hS hA (fun r3 _ H locs hw3 hP hS => ?_)
    rcases hw3 with ⟨rfl, hw3⟩ | ⟨rfl, hw3⟩
    · skip
      refine lv_if_ne (tgt := 19) hx hb dX3_inForce_13 (by decide) (fun _ => ?_) (fun c4 => absurd c4 (by decide))
      refine lv_iload_n hx hb dX3_inForce_19 rfl (lv_at hl 2 rfl) ?_
      refine lv_if_ne (tgt := 31) hx hb dX3_inForce_20 (by decide) (fun c5 => ?_) (fun c5 => ?_)
      · refine lv_aload_n hx hb dX3_inForce_31 rfl (lv_at hl 0 rfl) ?_
        refine lv_iload_n hx hb dX3_inForce_32 rfl (lv_at hl 1 rfl) ?_
        refine K_same (va_runV (As := [.int d]) (rest := []) ⟨hx, hb, hml, hown, hts⟩ (c_X3_slackOn l D cI cZ cG h3 a3 _ nr nt nc rd rr rs so tr si gr ct cd cs d hnr hnt hnc) (cwV 1 hts gX3_inForce_X3_slackOn rfl rfl rfl (by decide +kernel) ⟨(Nat.le_of_ble_eq_true rfl), (Nat.le_of_ble_eq_true rfl)⟩) ⟨PB_blind, va_recv hK hP (ci := 3) (q0 := 0) rfl rfl, (K_preS hN hK hP hD).2⟩ rfl rfl hl.1 rfl (lv_room (Nat.le_of_ble_eq_true rfl)) dX3_inForce_33 ⟨Nat.zero_le _, Nat.zero_le _⟩) hD hS hA (fun r6 u H locs hw6 hP hD hS => ?_)
        have hP : va_P D vwCl (wX3 cI cZ cG h3 a3 (nI nr) (nI nt) (nI nc) rd rr rs so tr si gr ct cd cs) H := hP
        have hD : va_D A (wX3 cI cZ cG h3 a3 (nI nr) (nI nt) (nI nc) rd rr rs so tr si gr ct cd cs) := hD
        obtain rfl := hw6
        exact K_iret (wf := (fun (_ : Unit) => wX3 cI cZ cG h3 a3 (nI nr) (nI nt) (nI nc) rd rr rs so tr si gr ct cd cs)) () hx hb hr hlocks hP hK hD hS dX3_inForce_36 (by rw [rForce, if_pos ⟨hw1, hw3⟩, if_neg c5])
      · refine lv_aload_n hx hb dX3_inForce_23 rfl (lv_at hl 0 rfl) ?_
        refine lv_iload_n hx hb dX3_inForce_24 rfl (lv_at hl 1 rfl) ?_
        refine K_same (va_runV (As := [.int d]) (rest := []) ⟨hx, hb, hml, hown, hts⟩ (c_X3_ratioOn l D cI cZ cG h3 a3 _ nr nt nc rd rr rs so tr si gr ct cd cs d hnr hnt hnc) (cwV 1 hts gX3_inForce_X3_ratioOn rfl rfl rfl (by decide +kernel) ⟨(Nat.le_of_ble_eq_true rfl), (Nat.le_of_ble_eq_true rfl)⟩) ⟨PB_blind, va_recv hK hP (ci := 3) (q0 := 0) rfl rfl, (K_preS hN hK hP hD).2⟩ rfl rfl hl.1 rfl (lv_room (Nat.le_of_ble_eq_true rfl)) dX3_inForce_25 ⟨Nat.zero_le _, Nat.zero_le _⟩) hD hS hA (fun r7 u H locs hw7 hP hD hS => ?_)
        have hP : va_P D vwCl (wX3 cI cZ cG h3 a3 (nI nr) (nI nt) (nI nc) rd rr rs so tr si gr ct cd cs) H := hP
        have hD : va_D A (wX3 cI cZ cG h3 a3 (nI nr) (nI nt) (nI nc) rd rr rs so tr si gr ct cd cs) := hD
        obtain rfl := hw7
        refine lv_goto (tgt := 36) hx hb dX3_inForce_28 (by decide) ?_
        exact K_iret (wf := (fun (_ : Unit) => wX3 cI cZ cG h3 a3 (nI nr) (nI nt) (nI nc) rd rr rs so tr si gr ct cd cs)) () hx hb hr hlocks hP hK hD hS dX3_inForce_36 (by rw [rForce, if_pos ⟨hw1, hw3⟩, if_pos c5])
    · skip
      refine lv_if_ne (tgt := 19) hx hb dX3_inForce_13 (by decide) (fun c8 => absurd c8 (by decide)) (fun _ => ?_)
      refine lv_bipush (v := (-2)) hx hb dX3_inForce_16 (by decide) ?_
      exact K_iret (wf := (fun (_ : Unit) => wX3 cI cZ cG h3 a3 (nI nr) (nI nt) (nI nc) rd rr rs so tr si gr ct cd cs)) () hx hb hr hlocks hP hK hD hS dX3_inForce_18 (by simp [rForce, hw1, hw3])
  · skip
    refine lv_if_eq (tgt := 16) hx hb dX3_inForce_4 (by decide) (fun _ => ?_) (fun c9 => absurd c9 (by decide))
    refine lv_bipush (v := (-2)) hx hb dX3_inForce_16 (by decide) ?_
    exact K_iret (wf := (fun (_ : Unit) => wX3 cI cZ cG h3 a3 (nI nr) (nI nt) (nI nc) rd rr rs so tr si gr ct cd cs)) () hx hb hr hlocks hP hK hD hS dX3_inForce_18 (by simp [rForce, hw1])
theorem inX3_clippingOn : ∀ w ∈ wsX30, w ∈ wsX3_clippingOn := by decide +kernel
set_option maxHeartbeats 8000000 in
set_option maxRecDepth 100000 in
/-- clippingOn: from behind -/
theorem c_X3_clippingOn (l : Launch) (D : va_G) (cI cZ cG : ClassId) (h3 : Nat) (a3 : Nat → Nat) (sz : Nat) (nr : Nat) (nt : Nat) (nc : Nat) (rd : Nat → Int32) (rr : Nat → Int32) (rs : Nat → Int32) (so : Nat → Int32) (tr : Nat → Int32) (si : Nat → Int32) (gr : Nat → Int32) (ct : Nat → Int32) (cd : Nat → Int32) (cs : Nat → Int32) (t : Int32) (d : Int32) (hnr : nr ≤ 6) (hnt : nt ≤ 20) (hnc : nc ≤ 60) : Met l yX3_clippingOn wsX3_clippingOn ({ frames := 0, cells := 0, slots := 0, locals := 0 } : Room) (va_Pc [.ref h3, .int t, .int d] (PB D (tyL cI cZ cG) (wX3 cI cZ cG h3 a3 (nI nr) (nI nt) (nI nc) rd rr rs so tr si gr ct cd cs) sz)) (va_Qi (fun (r : Int32) (_ : Unit) => r = oI (lC ct cd t d nc)) (fun u => QB D (tyL cI cZ cG) (va_A (wX3 cI cZ cG h3 a3 (nI nr) (nI nt) (nI nc) rd rr rs so tr si gr ct cd cs) sz) ((fun (_ : Unit) => wX3 cI cZ cG h3 a3 (nI nr) (nI nt) (nI nc) rd rr rs so tr si gr ct cd cs) u)) (va_A (wX3 cI cZ cG h3 a3 (nI nr) (nI nt) (nI nc) rd rr rs so tr si gr ct cd cs) sz)) 0 0 (va_A (wX3 cI cZ cG h3 a3 (nI nr) (nI nt) (nI nc) rd rr rs so tr si gr ct cd cs) sz) := by
  refine K_start (cc := cX3_clippingOn) (maxL := 4) (ret := some .int) (Qc := fun A => va_Qi (fun (r : Int32) (_ : Unit) => r = oI (lC ct cd t d nc)) (fun u => QB D (tyL cI cZ cG) A ((fun (_ : Unit) => wX3 cI cZ cG h3 a3 (nI nr) (nI nt) (nI nc) rd rr rs so tr si gr ct cd cs) u)) A) (by decide) rfl (Nat.le_of_ble_eq_true rfl) ?_
  intro p e s m below meth c ls A hx hb hml hr hts hown hlocks hin hN hP hK hD hA hS hl hsz
  have hl : lv_has ls 4 [(0, .ref h3), (1, .int t), (2, .int d)] := hl
  have fl68 := hts (.fieldLink RX3 68 "ModelTown$Scale" "clippings" "I") (by decide +kernel)
  have fl33 := hts (.fieldLink RX3 33 "ModelTown$Scale" "clipThing" "[I") (by decide +kernel)
  have fl36 := hts (.fieldLink RX3 36 "ModelTown$Scale" "clipDay" "[I") (by decide +kernel)
  refine lv_aload_n hx hb dX3_clippingOn_0 rfl (lv_at hl 0 rfl) ?_
  refine va_get (D := D) (ci := 3) (v := .int (nI nc)) (C := RX3) (T := TX3) (N := 13) hx hb hts inX3_clippingOn hown hK hP 0 rfl rfl 12 (by decide) fl68 (fun _ h9 => h9) rfl dX3_clippingOn_1 ?_
  refine lv_iconst (v := 1) hx hb dX3_clippingOn_4 (by decide) ?_
  refine lv_isub hx hb dX3_clippingOn_5 ?_
  refine lv_topi (fun z1 ez1 => ?_)
  obtain rfl : z1 = dI nc := ez1.trans (dI_sub nc)
  refine lv_istore_n (lv' := [(3, .int (dI nc)), (0, .ref h3), (1, .int t), (2, .int d)]) hx hb dX3_clippingOn_6 rfl hl (by decide) rfl (fun ls hl => ?_)
  refine loopW1 (fun (j : Nat) H locs ls => (j ≤ nc) ∧ (lC ct cd t d nc = lC ct cd t d j) ∧ va_P D vwCl (wX3 cI cZ cG h3 a3 (nI nr) (nI nt) (nI nc) rd rr rs so tr si gr ct cd cs) H ∧ va_D A (wX3 cI cZ cG h3 a3 (nI nr) (nI nt) (nI nc) rd rr rs so tr si gr ct cd cs) ∧ va_S A s.heap H locs ∧ lv_has ls 4 [(3, .int (dI j)), (0, .ref h3), (1, .int t), (2, .int d)]) (fun (j : Nat) => j) (fun j H locs ls hI ih7 => ?_) nc _ _ _ ⟨(by omega), rfl, hP, hD, hS, lv_sub hl [0, 1, 2, 3] rfl⟩
  obtain ⟨hj, ho, hP, hD, hS, hl⟩ := hI
  rcases j with _ | j
  · have hl : lv_has ls 4 [(3, .int (-1)), (0, .ref h3), (1, .int t), (2, .int d)] := hl
    refine lv_iload_n hx hb dX3_clippingOn_7 rfl (lv_at hl 0 rfl) ?_
    refine lv_if_lt (tgt := 39) hx hb dX3_clippingOn_8 (by decide) (fun _ => ?_) (fun c2 => absurd c2 (by decide))
    refine lv_bipush (v := (-6)) hx hb dX3_clippingOn_39 (by decide) ?_
    exact K_iret (wf := (fun (_ : Unit) => wX3 cI cZ cG h3 a3 (nI nr) (nI nt) (nI nc) rd rr rs so tr si gr ct cd cs)) () hx hb hr hlocks hP hK hD hS dX3_clippingOn_41 (by rw [ho]; rfl)
  · have hl : lv_has ls 4 [(3, .int (nI j)), (0, .ref h3), (1, .int t), (2, .int d)] := hl
    refine lv_iload_n hx hb dX3_clippingOn_7 rfl (lv_at hl 0 rfl) ?_
    refine lv_if_lt (tgt := 39) hx hb dX3_clippingOn_8 (by decide) (fun c3 => absurd c3 (nI_pos (by omega))) (fun c3 => ?_)
    refine lv_aload_n hx hb dX3_clippingOn_11 rfl (lv_at hl 1 rfl) ?_
    refine va_get (D := D) (ci := 3) (v := .ref (a3 7)) (C := RX3) (T := TX3) (N := 13) hx hb hts inX3_clippingOn hown hK hP 0 rfl rfl 9 (by decide) fl33 (fun _ h9 => h9) rfl dX3_clippingOn_12 ?_
    refine lv_iload_n hx hb dX3_clippingOn_15 rfl (lv_at hl 0 rfl) ?_
    refine K_iald hx hb hK hP 8 0 rfl rfl j (by omega) (Nat.le_of_ble_eq_true rfl) dX3_clippingOn_16 ?_
    refine lv_iload_n hx hb dX3_clippingOn_17 rfl (lv_at hl 2 rfl) ?_
    refine lv_icmp_ne (tgt := 33) hx hb dX3_clippingOn_18 (by decide) (fun c4 => ?_) (fun c4 => ?_)
    · refine lv_iinc (v := dI j) (lv' := [(3, .int (dI j)), (0, .ref h3), (1, .int t), (2, .int d)]) hx hb dX3_clippingOn_33 hl (k := 0) rfl (dec1 j) (by decide) rfl (fun ls hl => ?_)
      refine lv_goto (tgt := 7) hx hb dX3_clippingOn_36 (by decide) ?_
      exact ih7 j _ _ _ ⟨(by omega), (ho.trans (by simp [lC, c4])), hP, hD, hS, lv_sub hl [0, 1, 2, 3] rfl⟩ (by omega)
    · refine lv_aload_n hx hb dX3_clippingOn_21 rfl (lv_at hl 1 rfl) ?_
      refine va_get (D := D) (ci := 3) (v := .ref (a3 8)) (C := RX3) (T := TX3) (N := 13) hx hb hts inX3_clippingOn hown hK hP 0 rfl rfl 10 (by decide) fl36 (fun _ h9 => h9) rfl dX3_clippingOn_22 ?_
      refine lv_iload_n hx hb dX3_clippingOn_25 rfl (lv_at hl 0 rfl) ?_
      refine K_iald hx hb hK hP 9 0 rfl rfl j (by omega) (Nat.le_of_ble_eq_true rfl) dX3_clippingOn_26 ?_
      refine lv_iload_n hx hb dX3_clippingOn_27 rfl (lv_at hl 3 rfl) ?_
      refine lv_icmp_gt (tgt := 33) hx hb dX3_clippingOn_28 (by decide) (fun c5 => ?_) (fun c5 => ?_)
      · replace c5 := Int32.not_le.mpr c5
        refine lv_iinc (v := dI j) (lv' := [(3, .int (dI j)), (0, .ref h3), (1, .int t), (2, .int d)]) hx hb dX3_clippingOn_33 hl (k := 0) rfl (dec1 j) (by decide) rfl (fun ls hl => ?_)
        refine lv_goto (tgt := 7) hx hb dX3_clippingOn_36 (by decide) ?_
        exact ih7 j _ _ _ ⟨(by omega), (ho.trans (by simp [lC, eq_true c4, c5])), hP, hD, hS, lv_sub hl [0, 1, 2, 3] rfl⟩ (by omega)
      · replace c5 := Int32.not_lt.mp c5
        refine lv_iload_n hx hb dX3_clippingOn_31 rfl (lv_at hl 0 rfl) ?_
        exact K_iret (wf := (fun (_ : Unit) => wX3 cI cZ cG h3 a3 (nI nr) (nI nt) (nI nc) rd rr rs so tr si gr ct cd cs)) () hx hb hr hlocks hP hK hD hS dX3_clippingOn_32 (by rw [ho, lC, if_pos ⟨c4, c5⟩]; rfl)
theorem inX3_sizeOn : ∀ w ∈ wsX30, w ∈ wsX3_sizeOn := by decide +kernel
set_option maxHeartbeats 8000000 in
set_option maxRecDepth 100000 in
/-- sizeOn -/
theorem c_X3_sizeOn (l : Launch) (D : va_G) (cI cZ cG : ClassId) (h3 : Nat) (a3 : Nat → Nat) (sz : Nat) (nr : Nat) (nt : Nat) (nc : Nat) (rd : Nat → Int32) (rr : Nat → Int32) (rs : Nat → Int32) (so : Nat → Int32) (tr : Nat → Int32) (si : Nat → Int32) (gr : Nat → Int32) (ct : Nat → Int32) (cd : Nat → Int32) (cs : Nat → Int32) (t : Nat) (d : Int32) (hnr : nr ≤ 6) (hnt : nt ≤ 20) (hnc : nc ≤ 60) (ht : t < nt) : Met l yX3_sizeOn wsX3_sizeOn ({ frames := 1, cells := 0, slots := 0, locals := 23 } : Room) (va_Pc [.ref h3, .int (nI t), .int d] (PB D (tyL cI cZ cG) (wX3 cI cZ cG h3 a3 (nI nr) (nI nt) (nI nc) rd rr rs so tr si gr ct cd cs) sz)) (va_Qi (fun (r : Int32) (_ : Unit) => r = szA nc ct cd cs si gr t d) (fun u => QB D (tyL cI cZ cG) (va_A (wX3 cI cZ cG h3 a3 (nI nr) (nI nt) (nI nc) rd rr rs so tr si gr ct cd cs) sz) ((fun (_ : Unit) => wX3 cI cZ cG h3 a3 (nI nr) (nI nt) (nI nc) rd rr rs so tr si gr ct cd cs) u)) (va_A (wX3 cI cZ cG h3 a3 (nI nr) (nI nt) (nI nc) rd rr rs so tr si gr ct cd cs) sz)) 0 0 (va_A (wX3 cI cZ cG h3 a3 (nI nr) (nI nt) (nI nc) rd rr rs so tr si gr ct cd cs) sz) := by
  refine K_start (cc := cX3_sizeOn) (maxL := 6) (ret := some .int) (Qc := fun A => va_Qi (fun (r : Int32) (_ : Unit) => r = szA nc ct cd cs si gr t d) (fun u => QB D (tyL cI cZ cG) A ((fun (_ : Unit) => wX3 cI cZ cG h3 a3 (nI nr) (nI nt) (nI nc) rd rr rs so tr si gr ct cd cs) u)) A) (by decide) rfl (Nat.le_of_ble_eq_true rfl) ?_
  intro p e s m below meth c ls A hx hb hml hr hts hown hlocks hin hN hP hK hD hA hS hl hsz
  have hl : lv_has ls 6 [(0, .ref h3), (1, .int (nI t)), (2, .int d)] := hl
  have fl27 := hts (.fieldLink RX3 27 "ModelTown$Scale" "firstSizes" "[I") (by decide +kernel)
  have fl30 := hts (.fieldLink RX3 30 "ModelTown$Scale" "grows" "[I") (by decide +kernel)
  have fl36 := hts (.fieldLink RX3 36 "ModelTown$Scale" "clipDay" "[I") (by decide +kernel)
  have fl39 := hts (.fieldLink RX3 39 "ModelTown$Scale" "clipSize" "[I") (by decide +kernel)
  refine lv_aload_n hx hb dX3_sizeOn_0 rfl (lv_at hl 0 rfl) ?_
  refine lv_iload_n hx hb dX3_sizeOn_1 rfl (lv_at hl 1 rfl) ?_
  refine lv_iload_n hx hb dX3_sizeOn_2 rfl (lv_at hl 2 rfl) ?_
  refine K_same (va_runV (As := [.int (nI t), .int d]) (rest := []) ⟨hx, hb, hml, hown, hts⟩ (c_X3_clippingOn l D cI cZ cG h3 a3 _ nr nt nc rd rr rs so tr si gr ct cd cs (nI t) d hnr hnt hnc) (cwV 2 hts gX3_sizeOn_X3_clippingOn rfl rfl rfl (by decide +kernel) ⟨(Nat.le_of_ble_eq_true rfl), (Nat.le_of_ble_eq_true rfl)⟩) ⟨PB_blind, va_recv hK hP (ci := 3) (q0 := 0) rfl rfl, (K_preS hN hK hP hD).2⟩ rfl rfl hl.1 rfl (lv_room (Nat.le_of_ble_eq_true rfl)) dX3_sizeOn_3 ⟨Nat.zero_le _, Nat.zero_le _⟩) hD hS hA (fun r1 u H locs hw1 hP hD hS => ?_)
  have hP : va_P D vwCl (wX3 cI cZ cG h3 a3 (nI nr) (nI nt) (nI nc) rd rr rs so tr si gr ct cd cs) H := hP
  have hD : va_D A (wX3 cI cZ cG h3 a3 (nI nr) (nI nt) (nI nc) rd rr rs so tr si gr ct cd cs) := hD
  rcases ho1 : lC ct cd (nI t) d nc with _ | b1
  · rw [ho1] at hw1
    obtain rfl : r1 = -6 := hw1
    refine lv_istore_n (lv' := [(3, .int (-6)), (0, .ref h3), (1, .int (nI t)), (2, .int d)]) hx hb dX3_sizeOn_6 rfl hl (by decide) rfl (fun ls hl => ?_)
    refine lv_iload_n hx hb dX3_sizeOn_7 rfl (lv_at hl 0 rfl) ?_
    refine lv_bipush (v := (-6)) hx hb dX3_sizeOn_8 (by decide) ?_
    refine lv_icmp_ne (tgt := 17) hx hb dX3_sizeOn_10 (by decide) (fun c2 => absurd c2 (by decide)) (fun _ => ?_)
    refine lv_iconst (v := 0) hx hb dX3_sizeOn_13 (by decide) ?_
    refine lv_goto (tgt := 23) hx hb dX3_sizeOn_14 (by decide) ?_
    refine lv_istore (lv' := [(4, .int 0), (3, .int (-6)), (0, .ref h3), (1, .int (nI t)), (2, .int d)]) hx hb dX3_sizeOn_23 hl (by decide) rfl (fun ls hl => ?_)
    refine lv_iload_n hx hb dX3_sizeOn_25 rfl (lv_at hl 1 rfl) ?_
    refine lv_bipush (v := (-6)) hx hb dX3_sizeOn_26 (by decide) ?_
    refine lv_icmp_ne (tgt := 40) hx hb dX3_sizeOn_28 (by decide) (fun c3 => absurd c3 (by decide)) (fun _ => ?_)
    refine lv_aload_n hx hb dX3_sizeOn_31 rfl (lv_at hl 2 rfl) ?_
    refine va_get (D := D) (ci := 3) (v := .ref (a3 5)) (C := RX3) (T := TX3) (N := 13) hx hb hts inX3_sizeOn hown hK hP 0 rfl rfl 6 (by decide) fl27 (fun _ h9 => h9) rfl dX3_sizeOn_32 ?_
    refine lv_iload_n hx hb dX3_sizeOn_35 rfl (lv_at hl 3 rfl) ?_
    refine K_iald hx hb hK hP 6 0 rfl rfl t (by omega) (Nat.le_of_ble_eq_true rfl) dX3_sizeOn_36 ?_
    refine lv_goto (tgt := 46) hx hb dX3_sizeOn_37 (by decide) ?_
    refine lv_istore (lv' := [(5, .int (si t)), (4, .int 0), (3, .int (-6)), (0, .ref h3), (1, .int (nI t)), (2, .int d)]) hx hb dX3_sizeOn_46 hl (by decide) rfl (fun ls hl => ?_)
    refine lv_iload hx hb dX3_sizeOn_48 (lv_at hl 0 rfl) ?_
    refine lv_iload_n hx hb dX3_sizeOn_50 rfl (lv_at hl 5 rfl) ?_
    refine lv_iload hx hb dX3_sizeOn_51 (lv_at hl 1 rfl) ?_
    refine lv_isub hx hb dX3_sizeOn_53 ?_
    refine lv_bipush (v := 7) hx hb dX3_sizeOn_54 (by decide) ?_
    refine lv_idiv hx hb dX3_sizeOn_56 (by decide) ?_
    refine lv_aload_n hx hb dX3_sizeOn_57 rfl (lv_at hl 3 rfl) ?_
    refine va_get (D := D) (ci := 3) (v := .ref (a3 6)) (C := RX3) (T := TX3) (N := 13) hx hb hts inX3_sizeOn hown hK hP 0 rfl rfl 7 (by decide) fl30 (fun _ h9 => h9) rfl dX3_sizeOn_58 ?_
    refine lv_iload_n hx hb dX3_sizeOn_61 rfl (lv_at hl 4 rfl) ?_
    refine K_iald hx hb hK hP 7 0 rfl rfl t (by omega) (Nat.le_of_ble_eq_true rfl) dX3_sizeOn_62 ?_
    refine lv_imul hx hb dX3_sizeOn_63 ?_
    refine lv_iadd hx hb dX3_sizeOn_64 ?_
    exact K_iret (wf := (fun (_ : Unit) => wX3 cI cZ cG h3 a3 (nI nr) (nI nt) (nI nc) rd rr rs so tr si gr ct cd cs)) () hx hb hr hlocks hP hK hD hS dX3_sizeOn_65 (by rw [szA, ho1]; rfl)
  · rw [ho1] at hw1
    obtain rfl : r1 = nI b1 := hw1
    have hbb := lC_lt ho1
    refine lv_istore_n (lv' := [(3, .int (nI b1)), (0, .ref h3), (1, .int (nI t)), (2, .int d)]) hx hb dX3_sizeOn_6 rfl hl (by decide) rfl (fun ls hl => ?_)
    refine lv_iload_n hx hb dX3_sizeOn_7 rfl (lv_at hl 0 rfl) ?_
    refine lv_bipush (v := (-6)) hx hb dX3_sizeOn_8 (by decide) ?_
    refine lv_icmp_ne (tgt := 17) hx hb dX3_sizeOn_10 (by decide) (fun c4 => ?_) (fun c4 => absurd c4 (nI_neN (by omega) (by decide)))
    refine lv_aload_n hx hb dX3_sizeOn_17 rfl (lv_at hl 1 rfl) ?_
    refine va_get (D := D) (ci := 3) (v := .ref (a3 8)) (C := RX3) (T := TX3) (N := 13) hx hb hts inX3_sizeOn hown hK hP 0 rfl rfl 10 (by decide) fl36 (fun _ h9 => h9) rfl dX3_sizeOn_18 ?_
    refine lv_iload_n hx hb dX3_sizeOn_21 rfl (lv_at hl 0 rfl) ?_
    refine K_iald hx hb hK hP 9 0 rfl rfl b1 (by omega) (Nat.le_of_ble_eq_true rfl) dX3_sizeOn_22 ?_
    refine lv_istore (lv' := [(4, .int (cd b1)), (3, .int (nI b1)), (0, .ref h3), (1, .int (nI t)), (2, .int d)]) hx hb dX3_sizeOn_23 hl (by decide) rfl (fun ls hl => ?_)
    refine lv_iload_n hx hb dX3_sizeOn_25 rfl (lv_at hl 1 rfl) ?_
    refine lv_bipush (v := (-6)) hx hb dX3_sizeOn_26 (by decide) ?_
    refine lv_icmp_ne (tgt := 40) hx hb dX3_sizeOn_28 (by decide) (fun c5 => ?_) (fun c5 => absurd c5 (nI_neN (by omega) (by decide)))
    refine lv_aload_n hx hb dX3_sizeOn_40 rfl (lv_at hl 2 rfl) ?_
    refine va_get (D := D) (ci := 3) (v := .ref (a3 9)) (C := RX3) (T := TX3) (N := 13) hx hb hts inX3_sizeOn hown hK hP 0 rfl rfl 11 (by decide) fl39 (fun _ h9 => h9) rfl dX3_sizeOn_41 ?_
    refine lv_iload_n hx hb dX3_sizeOn_44 rfl (lv_at hl 1 rfl) ?_
    refine K_iald hx hb hK hP 10 0 rfl rfl b1 (by omega) (Nat.le_of_ble_eq_true rfl) dX3_sizeOn_45 ?_
    refine lv_istore (lv' := [(5, .int (cs b1)), (4, .int (cd b1)), (3, .int (nI b1)), (0, .ref h3), (1, .int (nI t)), (2, .int d)]) hx hb dX3_sizeOn_46 hl (by decide) rfl (fun ls hl => ?_)
    refine lv_iload hx hb dX3_sizeOn_48 (lv_at hl 0 rfl) ?_
    refine lv_iload_n hx hb dX3_sizeOn_50 rfl (lv_at hl 5 rfl) ?_
    refine lv_iload hx hb dX3_sizeOn_51 (lv_at hl 1 rfl) ?_
    refine lv_isub hx hb dX3_sizeOn_53 ?_
    refine lv_bipush (v := 7) hx hb dX3_sizeOn_54 (by decide) ?_
    refine lv_idiv hx hb dX3_sizeOn_56 (by decide) ?_
    refine lv_aload_n hx hb dX3_sizeOn_57 rfl (lv_at hl 3 rfl) ?_
    refine va_get (D := D) (ci := 3) (v := .ref (a3 6)) (C := RX3) (T := TX3) (N := 13) hx hb hts inX3_sizeOn hown hK hP 0 rfl rfl 7 (by decide) fl30 (fun _ h9 => h9) rfl dX3_sizeOn_58 ?_
    refine lv_iload_n hx hb dX3_sizeOn_61 rfl (lv_at hl 4 rfl) ?_
    refine K_iald hx hb hK hP 7 0 rfl rfl t (by omega) (Nat.le_of_ble_eq_true rfl) dX3_sizeOn_62 ?_
    refine lv_imul hx hb dX3_sizeOn_63 ?_
    refine lv_iadd hx hb dX3_sizeOn_64 ?_
    exact K_iret (wf := (fun (_ : Unit) => wX3 cI cZ cG h3 a3 (nI nr) (nI nt) (nI nc) rd rr rs so tr si gr ct cd cs)) () hx hb hr hlocks hP hK hD hS dX3_sizeOn_65 (by rw [szA, ho1]; rfl)
theorem inX3_dueOn : ∀ w ∈ wsX30, w ∈ wsX3_dueOn := by decide +kernel
set_option maxHeartbeats 8000000 in
set_option maxRecDepth 100000 in
/-- dueOn -/
theorem c_X3_dueOn (l : Launch) (D : va_G) (cI cZ cG : ClassId) (h3 : Nat) (a3 : Nat → Nat) (sz : Nat) (nr : Nat) (nt : Nat) (nc : Nat) (rd : Nat → Int32) (rr : Nat → Int32) (rs : Nat → Int32) (so : Nat → Int32) (tr : Nat → Int32) (si : Nat → Int32) (gr : Nat → Int32) (ct : Nat → Int32) (cd : Nat → Int32) (cs : Nat → Int32) (t : Nat) (d : Int32) (hnr : nr ≤ 6) (hnt : nt ≤ 20) (hnc : nc ≤ 60) (ht : t < nt) (hrr : ∀ k, k < nr → ¬ rr k = 0) : Met l yX3_dueOn wsX3_dueOn ({ frames := 2, cells := 0, slots := 0, locals := 45 } : Room) (va_Pc [.ref h3, .int (nI t), .int d] (PB D (tyL cI cZ cG) (wX3 cI cZ cG h3 a3 (nI nr) (nI nt) (nI nc) rd rr rs so tr si gr ct cd cs) sz)) (va_Qi (fun (r : Int32) (_ : Unit) => r = duA nr rd rr tr t d) (fun u => QB D (tyL cI cZ cG) (va_A (wX3 cI cZ cG h3 a3 (nI nr) (nI nt) (nI nc) rd rr rs so tr si gr ct cd cs) sz) ((fun (_ : Unit) => wX3 cI cZ cG h3 a3 (nI nr) (nI nt) (nI nc) rd rr rs so tr si gr ct cd cs) u)) (va_A (wX3 cI cZ cG h3 a3 (nI nr) (nI nt) (nI nc) rd rr rs so tr si gr ct cd cs) sz)) 0 0 (va_A (wX3 cI cZ cG h3 a3 (nI nr) (nI nt) (nI nc) rd rr rs so tr si gr ct cd cs) sz) := by
  refine K_start (cc := cX3_dueOn) (maxL := 3) (ret := some .int) (Qc := fun A => va_Qi (fun (r : Int32) (_ : Unit) => r = duA nr rd rr tr t d) (fun u => QB D (tyL cI cZ cG) A ((fun (_ : Unit) => wX3 cI cZ cG h3 a3 (nI nr) (nI nt) (nI nc) rd rr rs so tr si gr ct cd cs) u)) A) (by decide) rfl (Nat.le_of_ble_eq_true rfl) ?_
  intro p e s m below meth c ls A hx hb hml hr hts hown hlocks hin hN hP hK hD hA hS hl hsz
  have hl : lv_has ls 3 [(0, .ref h3), (1, .int (nI t)), (2, .int d)] := hl
  have fl24 := hts (.fieldLink RX3 24 "ModelTown$Scale" "trueSizes" "[I") (by decide +kernel)
  refine lv_aload_n hx hb dX3_dueOn_0 rfl (lv_at hl 0 rfl) ?_
  refine va_get (D := D) (ci := 3) (v := .ref (a3 4)) (C := RX3) (T := TX3) (N := 13) hx hb hts inX3_dueOn hown hK hP 0 rfl rfl 5 (by decide) fl24 (fun _ h9 => h9) rfl dX3_dueOn_1 ?_
  refine lv_iload_n hx hb dX3_dueOn_4 rfl (lv_at hl 1 rfl) ?_
  refine K_iald hx hb hK hP 5 0 rfl rfl t (by omega) (Nat.le_of_ble_eq_true rfl) dX3_dueOn_5 ?_
  refine lv_aload_n hx hb dX3_dueOn_6 rfl (lv_at hl 0 rfl) ?_
  refine lv_iload_n hx hb dX3_dueOn_7 rfl (lv_at hl 2 rfl) ?_
  refine K_same (va_runV (As := [.int d]) (rest := [.int (tr t)]) ⟨hx, hb, hml, hown, hts⟩ (c_X3_ratioOn l D cI cZ cG h3 a3 _ nr nt nc rd rr rs so tr si gr ct cd cs d hnr hnt hnc) (cwV 1 hts gX3_dueOn_X3_ratioOn rfl rfl rfl (by decide +kernel) ⟨(Nat.le_of_ble_eq_true rfl), (Nat.le_of_ble_eq_true rfl)⟩) ⟨PB_blind, va_recv hK hP (ci := 3) (q0 := 0) rfl rfl, (K_preS hN hK hP hD).2⟩ rfl rfl hl.1 rfl (lv_room (Nat.le_of_ble_eq_true rfl)) dX3_dueOn_8 ⟨Nat.zero_le _, Nat.zero_le _⟩) hD hS hA (fun r1 u H locs hw1 hP hD hS => ?_)
  have hP : va_P D vwCl (wX3 cI cZ cG h3 a3 (nI nr) (nI nt) (nI nc) rd rr rs so tr si gr ct cd cs) H := hP
  have hD : va_D A (wX3 cI cZ cG h3 a3 (nI nr) (nI nt) (nI nc) rd rr rs so tr si gr ct cd cs) := hD
  obtain rfl := hw1
  refine lv_idiv hx hb dX3_dueOn_11 (raA_ne d hrr) ?_
  exact K_iret (wf := (fun (_ : Unit) => wX3 cI cZ cG h3 a3 (nI nr) (nI nt) (nI nc) rd rr rs so tr si gr ct cd cs)) () hx hb hr hlocks hP hK hD hS dX3_dueOn_12 rfl
theorem inX3_faultOn : ∀ w ∈ wsX30, w ∈ wsX3_faultOn := by decide +kernel
set_option maxHeartbeats 8000000 in
set_option maxRecDepth 100000 in
/-- faultOn -/
theorem c_X3_faultOn (l : Launch) (D : va_G) (cI cZ cG : ClassId) (h3 : Nat) (a3 : Nat → Nat) (sz : Nat) (nr : Nat) (nt : Nat) (nc : Nat) (rd : Nat → Int32) (rr : Nat → Int32) (rs : Nat → Int32) (so : Nat → Int32) (tr : Nat → Int32) (si : Nat → Int32) (gr : Nat → Int32) (ct : Nat → Int32) (cd : Nat → Int32) (cs : Nat → Int32) (t : Nat) (d : Int32) (hnr : nr ≤ 6) (hnt : nt ≤ 20) (hnc : nc ≤ 60) (ht : t < nt) (hrr : ∀ k, k < nr → ¬ rr k = 0) : Met l yX3_faultOn wsX3_faultOn ({ frames := 3, cells := 0, slots := 0, locals := 67 } : Room) (va_Pc [.ref h3, .int (nI t), .int d] (PB D (tyL cI cZ cG) (wX3 cI cZ cG h3 a3 (nI nr) (nI nt) (nI nc) rd rr rs so tr si gr ct cd cs) sz)) (va_Qi (fun (r : Int32) (_ : Unit) => r = fA nr nc rd rr rs so tr si gr ct cd cs t d) (fun u => QB D (tyL cI cZ cG) (va_A (wX3 cI cZ cG h3 a3 (nI nr) (nI nt) (nI nc) rd rr rs so tr si gr ct cd cs) sz) ((fun (_ : Unit) => wX3 cI cZ cG h3 a3 (nI nr) (nI nt) (nI nc) rd rr rs so tr si gr ct cd cs) u)) (va_A (wX3 cI cZ cG h3 a3 (nI nr) (nI nt) (nI nc) rd rr rs so tr si gr ct cd cs) sz)) 0 0 (va_A (wX3 cI cZ cG h3 a3 (nI nr) (nI nt) (nI nc) rd rr rs so tr si gr ct cd cs) sz) := by
  refine K_start (cc := cX3_faultOn) (maxL := 6) (ret := some .int) (Qc := fun A => va_Qi (fun (r : Int32) (_ : Unit) => r = fA nr nc rd rr rs so tr si gr ct cd cs t d) (fun u => QB D (tyL cI cZ cG) A ((fun (_ : Unit) => wX3 cI cZ cG h3 a3 (nI nr) (nI nt) (nI nc) rd rr rs so tr si gr ct cd cs) u)) A) (by decide) rfl (Nat.le_of_ble_eq_true rfl) ?_
  intro p e s m below meth c ls A hx hb hml hr hts hown hlocks hin hN hP hK hD hA hS hl hsz
  have hl : lv_has ls 6 [(0, .ref h3), (1, .int (nI t)), (2, .int d)] := hl
  have fl21 := hts (.fieldLink RX3 21 "ModelTown$Scale" "sorts" "[I") (by decide +kernel)
  refine lv_aload_n hx hb dX3_faultOn_0 rfl (lv_at hl 0 rfl) ?_
  refine lv_iload_n hx hb dX3_faultOn_1 rfl (lv_at hl 1 rfl) ?_
  refine lv_iload_n hx hb dX3_faultOn_2 rfl (lv_at hl 2 rfl) ?_
  refine K_same (va_runV (As := [.int (nI t), .int d]) (rest := []) ⟨hx, hb, hml, hown, hts⟩ (c_X3_dueOn l D cI cZ cG h3 a3 _ nr nt nc rd rr rs so tr si gr ct cd cs t d hnr hnt hnc ht hrr) (cwV 2 hts gX3_faultOn_X3_dueOn rfl rfl rfl (by decide +kernel) ⟨(Nat.le_of_ble_eq_true rfl), (Nat.le_of_ble_eq_true rfl)⟩) ⟨PB_blind, va_recv hK hP (ci := 3) (q0 := 0) rfl rfl, (K_preS hN hK hP hD).2⟩ rfl rfl hl.1 rfl (lv_room (Nat.le_of_ble_eq_true rfl)) dX3_faultOn_3 ⟨Nat.zero_le _, Nat.zero_le _⟩) hD hS hA (fun r1 u H locs hw1 hP hD hS => ?_)
  have hP : va_P D vwCl (wX3 cI cZ cG h3 a3 (nI nr) (nI nt) (nI nc) rd rr rs so tr si gr ct cd cs) H := hP
  have hD : va_D A (wX3 cI cZ cG h3 a3 (nI nr) (nI nt) (nI nc) rd rr rs so tr si gr ct cd cs) := hD
  obtain rfl := hw1
  refine lv_istore_n (lv' := [(3, .int (duA nr rd rr tr t d)), (0, .ref h3), (1, .int (nI t)), (2, .int d)]) hx hb dX3_faultOn_6 rfl hl (by decide) rfl (fun ls hl => ?_)
  refine lv_iload_n hx hb dX3_faultOn_7 rfl (lv_at hl 0 rfl) ?_
  refine lv_aload_n hx hb dX3_faultOn_8 rfl (lv_at hl 1 rfl) ?_
  refine lv_iload_n hx hb dX3_faultOn_9 rfl (lv_at hl 3 rfl) ?_
  refine K_same (va_runV (As := [.int d]) (rest := [.int (duA nr rd rr tr t d)]) ⟨hx, hb, hml, hown, hts⟩ (c_X3_slackOn l D cI cZ cG h3 a3 _ nr nt nc rd rr rs so tr si gr ct cd cs d hnr hnt hnc) (cwV 1 hts gX3_faultOn_X3_slackOn rfl rfl rfl (by decide +kernel) ⟨(Nat.le_of_ble_eq_true rfl), (Nat.le_of_ble_eq_true rfl)⟩) ⟨PB_blind, va_recv hK hP (ci := 3) (q0 := 0) rfl rfl, (K_preS hN hK hP hD).2⟩ rfl rfl hl.1 rfl (lv_room (Nat.le_of_ble_eq_true rfl)) dX3_faultOn_10 ⟨Nat.zero_le _, Nat.zero_le _⟩) hD hS hA (fun r2 u H locs hw2 hP hD hS => ?_)
  have hP : va_P D vwCl (wX3 cI cZ cG h3 a3 (nI nr) (nI nt) (nI nc) rd rr rs so tr si gr ct cd cs) H := hP
  have hD : va_D A (wX3 cI cZ cG h3 a3 (nI nr) (nI nt) (nI nc) rd rr rs so tr si gr ct cd cs) := hD
  obtain rfl := hw2
  refine lv_imul hx hb dX3_faultOn_13 ?_
  refine lv_bipush (v := 100) hx hb dX3_faultOn_14 (by decide) ?_
  refine lv_idiv hx hb dX3_faultOn_16 (by decide) ?_
  refine lv_istore (lv' := [(4, .int (((duA nr rd rr tr t d) * (slA nr rd rs d)) / 100)), (3, .int (duA nr rd rr tr t d)), (0, .ref h3), (1, .int (nI t)), (2, .int d)]) hx hb dX3_faultOn_17 hl (by decide) rfl (fun ls hl => ?_)
  refine lv_aload_n hx hb dX3_faultOn_19 rfl (lv_at hl 2 rfl) ?_
  refine lv_iload_n hx hb dX3_faultOn_20 rfl (lv_at hl 3 rfl) ?_
  refine lv_iload_n hx hb dX3_faultOn_21 rfl (lv_at hl 4 rfl) ?_
  refine K_same (va_runV (As := [.int (nI t), .int d]) (rest := []) ⟨hx, hb, hml, hown, hts⟩ (c_X3_sizeOn l D cI cZ cG h3 a3 _ nr nt nc rd rr rs so tr si gr ct cd cs t d hnr hnt hnc ht) (cwV 2 hts gX3_faultOn_X3_sizeOn rfl rfl rfl (by decide +kernel) ⟨(Nat.le_of_ble_eq_true rfl), (Nat.le_of_ble_eq_true rfl)⟩) ⟨PB_blind, va_recv hK hP (ci := 3) (q0 := 0) rfl rfl, (K_preS hN hK hP hD).2⟩ rfl rfl hl.1 rfl (lv_room (Nat.le_of_ble_eq_true rfl)) dX3_faultOn_22 ⟨Nat.zero_le _, Nat.zero_le _⟩) hD hS hA (fun r3 u H locs hw3 hP hD hS => ?_)
  have hP : va_P D vwCl (wX3 cI cZ cG h3 a3 (nI nr) (nI nt) (nI nc) rd rr rs so tr si gr ct cd cs) H := hP
  have hD : va_D A (wX3 cI cZ cG h3 a3 (nI nr) (nI nt) (nI nc) rd rr rs so tr si gr ct cd cs) := hD
  obtain rfl := hw3
  refine lv_iload_n hx hb dX3_faultOn_25 rfl (lv_at hl 1 rfl) ?_
  refine lv_isub hx hb dX3_faultOn_26 ?_
  refine lv_istore (lv' := [(5, .int ((szA nc ct cd cs si gr t d) - (duA nr rd rr tr t d))), (4, .int (((duA nr rd rr tr t d) * (slA nr rd rs d)) / 100)), (3, .int (duA nr rd rr tr t d)), (0, .ref h3), (1, .int (nI t)), (2, .int d)]) hx hb dX3_faultOn_27 hl (by decide) rfl (fun ls hl => ?_)
  refine lv_iload hx hb dX3_faultOn_29 (lv_at hl 0 rfl) ?_
  refine lv_iload hx hb dX3_faultOn_31 (lv_at hl 1 rfl) ?_
  refine lv_icmp_le (tgt := 48) hx hb dX3_faultOn_33 (by decide) (fun c4 => ?_) (fun c4 => ?_)
  · refine lv_iload hx hb dX3_faultOn_48 (lv_at hl 0 rfl) ?_
    refine lv_ineg hx hb dX3_faultOn_50 ?_
    refine lv_iload hx hb dX3_faultOn_51 (lv_at hl 1 rfl) ?_
    refine lv_icmp_le (tgt := 68) hx hb dX3_faultOn_53 (by decide) (fun c5 => ?_) (fun c5 => ?_)
    · refine lv_iconst (v := 0) hx hb dX3_faultOn_68 (by decide) ?_
      exact K_iret (wf := (fun (_ : Unit) => wX3 cI cZ cG h3 a3 (nI nr) (nI nt) (nI nc) rd rr rs so tr si gr ct cd cs)) () hx hb hr hlocks hP hK hD hS dX3_faultOn_69 ((flt_0 (by first | exact Or.inl (by assumption) | exact Or.inr (by assumption)) (by first | exact Or.inl (by assumption) | exact Or.inr (by assumption))).symm)
    · refine lv_aload_n hx hb dX3_faultOn_56 rfl (lv_at hl 3 rfl) ?_
      refine va_get (D := D) (ci := 3) (v := .ref (a3 3)) (C := RX3) (T := TX3) (N := 13) hx hb hts inX3_faultOn hown hK hP 0 rfl rfl 4 (by decide) fl21 (fun _ h9 => h9) rfl dX3_faultOn_57 ?_
      refine lv_iload_n hx hb dX3_faultOn_60 rfl (lv_at hl 4 rfl) ?_
      refine K_iald hx hb hK hP 4 0 rfl rfl t (by omega) (Nat.le_of_ble_eq_true rfl) dX3_faultOn_61 ?_
      refine lv_iconst (v := 1) hx hb dX3_faultOn_62 (by decide) ?_
      refine lv_icmp_eq (tgt := 68) hx hb dX3_faultOn_63 (by decide) (fun c6 => ?_) (fun c6 => ?_)
      · refine lv_iconst (v := 0) hx hb dX3_faultOn_68 (by decide) ?_
        exact K_iret (wf := (fun (_ : Unit) => wX3 cI cZ cG h3 a3 (nI nr) (nI nt) (nI nc) rd rr rs so tr si gr ct cd cs)) () hx hb hr hlocks hP hK hD hS dX3_faultOn_69 ((flt_0 (by first | exact Or.inl (by assumption) | exact Or.inr (by assumption)) (by first | exact Or.inl (by assumption) | exact Or.inr (by assumption))).symm)
      · refine lv_iconst (v := 2) hx hb dX3_faultOn_66 (by decide) ?_
        exact K_iret (wf := (fun (_ : Unit) => wX3 cI cZ cG h3 a3 (nI nr) (nI nt) (nI nc) rd rr rs so tr si gr ct cd cs)) () hx hb hr hlocks hP hK hD hS dX3_faultOn_67 ((flt_2 (by first | exact Or.inl (by assumption) | exact Or.inr (by assumption)) (by assumption) (by assumption)).symm)
  · refine lv_aload_n hx hb dX3_faultOn_36 rfl (lv_at hl 3 rfl) ?_
    refine va_get (D := D) (ci := 3) (v := .ref (a3 3)) (C := RX3) (T := TX3) (N := 13) hx hb hts inX3_faultOn hown hK hP 0 rfl rfl 4 (by decide) fl21 (fun _ h9 => h9) rfl dX3_faultOn_37 ?_
    refine lv_iload_n hx hb dX3_faultOn_40 rfl (lv_at hl 4 rfl) ?_
    refine K_iald hx hb hK hP 4 0 rfl rfl t (by omega) (Nat.le_of_ble_eq_true rfl) dX3_faultOn_41 ?_
    refine lv_iconst (v := 2) hx hb dX3_faultOn_42 (by decide) ?_
    refine lv_icmp_eq (tgt := 48) hx hb dX3_faultOn_43 (by decide) (fun c7 => ?_) (fun c7 => ?_)
    · refine lv_iload hx hb dX3_faultOn_48 (lv_at hl 0 rfl) ?_
      refine lv_ineg hx hb dX3_faultOn_50 ?_
      refine lv_iload hx hb dX3_faultOn_51 (lv_at hl 1 rfl) ?_
      refine lv_icmp_le (tgt := 68) hx hb dX3_faultOn_53 (by decide) (fun c8 => ?_) (fun c8 => ?_)
      · refine lv_iconst (v := 0) hx hb dX3_faultOn_68 (by decide) ?_
        exact K_iret (wf := (fun (_ : Unit) => wX3 cI cZ cG h3 a3 (nI nr) (nI nt) (nI nc) rd rr rs so tr si gr ct cd cs)) () hx hb hr hlocks hP hK hD hS dX3_faultOn_69 ((flt_0 (by first | exact Or.inl (by assumption) | exact Or.inr (by assumption)) (by first | exact Or.inl (by assumption) | exact Or.inr (by assumption))).symm)
      · refine lv_aload_n hx hb dX3_faultOn_56 rfl (lv_at hl 3 rfl) ?_
        refine va_get (D := D) (ci := 3) (v := .ref (a3 3)) (C := RX3) (T := TX3) (N := 13) hx hb hts inX3_faultOn hown hK hP 0 rfl rfl 4 (by decide) fl21 (fun _ h9 => h9) rfl dX3_faultOn_57 ?_
        refine lv_iload_n hx hb dX3_faultOn_60 rfl (lv_at hl 4 rfl) ?_
        refine K_iald hx hb hK hP 4 0 rfl rfl t (by omega) (Nat.le_of_ble_eq_true rfl) dX3_faultOn_61 ?_
        refine lv_iconst (v := 1) hx hb dX3_faultOn_62 (by decide) ?_
        refine lv_icmp_eq (tgt := 68) hx hb dX3_faultOn_63 (by decide) (fun c9 => ?_) (fun c9 => ?_)
        · refine lv_iconst (v := 0) hx hb dX3_faultOn_68 (by decide) ?_
          exact K_iret (wf := (fun (_ : Unit) => wX3 cI cZ cG h3 a3 (nI nr) (nI nt) (nI nc) rd rr rs so tr si gr ct cd cs)) () hx hb hr hlocks hP hK hD hS dX3_faultOn_69 ((flt_0 (by first | exact Or.inl (by assumption) | exact Or.inr (by assumption)) (by first | exact Or.inl (by assumption) | exact Or.inr (by assumption))).symm)
        · refine lv_iconst (v := 2) hx hb dX3_faultOn_66 (by decide) ?_
          exact K_iret (wf := (fun (_ : Unit) => wX3 cI cZ cG h3 a3 (nI nr) (nI nt) (nI nc) rd rr rs so tr si gr ct cd cs)) () hx hb hr hlocks hP hK hD hS dX3_faultOn_67 ((flt_2 (by first | exact Or.inl (by assumption) | exact Or.inr (by assumption)) (by assumption) (by assumption)).symm)
    · refine lv_iconst (v := 1) hx hb dX3_faultOn_46 (by decide) ?_
      exact K_iret (wf := (fun (_ : Unit) => wX3 cI cZ cG h3 a3 (nI nr) (nI nt) (nI nc) rd rr rs so tr si gr ct cd cs)) () hx hb hr hlocks hP hK hD hS dX3_faultOn_47 ((flt_1 (by assumption) (by assumption)).symm)
set_option maxHeartbeats 8000000 in
set_option maxRecDepth 100000 in
/-- lookAt -/
theorem c_X3_lookAt (l : Launch) (D : va_G) (cI cZ cG : ClassId) (h3 : Nat) (a3 : Nat → Nat) (sz : Nat) (nr : Nat) (nt : Nat) (nc : Nat) (rd : Nat → Int32) (rr : Nat → Int32) (rs : Nat → Int32) (so : Nat → Int32) (tr : Nat → Int32) (si : Nat → Int32) (gr : Nat → Int32) (ct : Nat → Int32) (cd : Nat → Int32) (cs : Nat → Int32) (x : Int32) (d : Int32) (w : Int32) (hnr : nr ≤ 6) (hnt : nt ≤ 20) (hnc : nc ≤ 60) (hrr : ∀ k, k < nr → ¬ rr k = 0) : Met l yX3_lookAt wsX3_lookAt ({ frames := 4, cells := 0, slots := 0, locals := 92 } : Room) (va_Pc [.ref h3, .int x, .int d, .int w] (PB D (tyL cI cZ cG) (wX3 cI cZ cG h3 a3 (nI nr) (nI nt) (nI nc) rd rr rs so tr si gr ct cd cs) sz)) (va_Qi (fun (r : Int32) (_ : Unit) => r = rLook nr nt nc rd rr rs so tr si gr ct cd cs x d w) (fun u => QB D (tyL cI cZ cG) (va_A (wX3 cI cZ cG h3 a3 (nI nr) (nI nt) (nI nc) rd rr rs so tr si gr ct cd cs) sz) ((fun (_ : Unit) => wX3 cI cZ cG h3 a3 (nI nr) (nI nt) (nI nc) rd rr rs so tr si gr ct cd cs) u)) (va_A (wX3 cI cZ cG h3 a3 (nI nr) (nI nt) (nI nc) rd rr rs so tr si gr ct cd cs) sz)) 0 0 (va_A (wX3 cI cZ cG h3 a3 (nI nr) (nI nt) (nI nc) rd rr rs so tr si gr ct cd cs) sz) := by
  refine K_start (cc := cX3_lookAt) (maxL := 4) (ret := some .int) (Qc := fun A => va_Qi (fun (r : Int32) (_ : Unit) => r = rLook nr nt nc rd rr rs so tr si gr ct cd cs x d w) (fun u => QB D (tyL cI cZ cG) A ((fun (_ : Unit) => wX3 cI cZ cG h3 a3 (nI nr) (nI nt) (nI nc) rd rr rs so tr si gr ct cd cs) u)) A) (by decide) rfl (Nat.le_of_ble_eq_true rfl) ?_
  intro p e s m below meth c ls A hx hb hml hr hts hown hlocks hin hN hP hK hD hA hS hl hsz
  have hl : lv_has ls 4 [(0, .ref h3), (1, .int x), (2, .int d), (3, .int w)] := hl
  refine lv_aload_n hx hb dX3_lookAt_0 rfl (lv_at hl 0 rfl) ?_
  refine lv_iload_n hx hb dX3_lookAt_1 rfl (lv_at hl 1 rfl) ?_
  refine K_same (va_runV (As := [.int x]) (rest := []) ⟨hx, hb, hml, hown, hts⟩ (c_X3_isThing l D cI cZ cG h3 a3 _ nr nt nc rd rr rs so tr si gr ct cd cs x hnr hnt hnc) (cwV 1 hts gX3_lookAt_X3_isThing rfl rfl rfl (by decide +kernel) ⟨(Nat.le_of_ble_eq_true rfl), (Nat.le_of_ble_eq_true rfl)⟩) ⟨PB_blind, va_recv hK hP (ci := 3) (q0 := 0) rfl rfl, (K_preS hN hK hP hD).2⟩ rfl rfl hl.1 rfl (lv_room (Nat.le_of_ble_eq_true rfl)) dX3_lookAt_2 ⟨Nat.zero_le _, Nat.zero_le _⟩) hD hS hA (fun r1 u H locs hw1 hP hD hS => ?_)
  have hP : va_P D vwCl (wX3 cI cZ cG h3 a3 (nI nr) (nI nt) (nI nc) rd rr rs so tr si gr ct cd cs) H := hP
  have hD : va_D A (wX3 cI cZ cG h3 a3 (nI nr) (nI nt) (nI nc) rd rr rs so tr si gr ct cd cs) := hD
  rcases hw1 with ⟨rfl, hw1⟩ | ⟨rfl, hw1⟩
  · obtain ⟨t, ht, rfl⟩ := inR_lt (by omega) hw1
    have hct : (nI t).toNatClampNeg = t := nI_clamp (by omega)
    refine lv_if_ne (tgt := 10) hx hb dX3_lookAt_5 (by decide) (fun _ => ?_) (fun c2 => absurd c2 (by decide))
    refine lv_iload_n hx hb dX3_lookAt_10 rfl (lv_at hl 2 rfl) ?_
    refine K_none (va_runSN (As := [.int d]) (rest := []) ⟨hx, hb, hml, hown, hts⟩ (c_X4_isDay l D cI cZ cG _ d) ⟨va_cnB (host := "ModelTown") 1 hts gX3_lookAt_X4_isDay_n42 rfl rfl rfl hN.2.2.2.2.2.2.1 (hts (.initialized RX4) (by decide +kernel)) (by decide +kernel) ⟨(Nat.le_of_ble_eq_true rfl), (Nat.le_of_ble_eq_true rfl)⟩, hts (.static yX4_isDay) (by decide +kernel), trivial⟩ (K_pre0 hN hK) rfl rfl hl.1 rfl (lv_room (Nat.le_of_ble_eq_true rfl)) dX3_lookAt_11 ⟨Nat.zero_le _, Nat.zero_le _⟩) hP hS hA (fun r3 _ H locs hw3 hP hS => ?_)
    rcases hw3 with ⟨rfl, hw3⟩ | ⟨rfl, hw3⟩
    · skip
      refine lv_if_ne (tgt := 20) hx hb dX3_lookAt_14 (by decide) (fun _ => ?_) (fun c4 => absurd c4 (by decide))
      refine lv_iload_n hx hb dX3_lookAt_20 rfl (lv_at hl 3 rfl) ?_
      rcases (sw_3 w : w = 0 ∨ w = 1 ∨ w = 2 ∨ (w.toInt < 0 ∨ 2 < w.toInt)) with hsw5 | hsw5 | hsw5 | hsw5
      · subst hsw5
        refine lv_tableIn (off := 27) (tgt := 48) hx hb dX3_lookAt_21 (by decide) (by decide) (by rfl) (by decide) ?_
        refine lv_aload_n hx hb dX3_lookAt_48 rfl (lv_at hl 0 rfl) ?_
        refine lv_iload_n hx hb dX3_lookAt_49 rfl (lv_at hl 1 rfl) ?_
        refine lv_iload_n hx hb dX3_lookAt_50 rfl (lv_at hl 2 rfl) ?_
        refine K_same (va_runV (As := [.int (nI t), .int d]) (rest := []) ⟨hx, hb, hml, hown, hts⟩ (c_X3_sizeOn l D cI cZ cG h3 a3 _ nr nt nc rd rr rs so tr si gr ct cd cs t d hnr hnt hnc (by omega)) (cwV 2 hts gX3_lookAt_X3_sizeOn rfl rfl rfl (by decide +kernel) ⟨(Nat.le_of_ble_eq_true rfl), (Nat.le_of_ble_eq_true rfl)⟩) ⟨PB_blind, va_recv hK hP (ci := 3) (q0 := 0) rfl rfl, (K_preS hN hK hP hD).2⟩ rfl rfl hl.1 rfl (lv_room (Nat.le_of_ble_eq_true rfl)) dX3_lookAt_51 ⟨Nat.zero_le _, Nat.zero_le _⟩) hD hS hA (fun r6 u H locs hw6 hP hD hS => ?_)
        have hP : va_P D vwCl (wX3 cI cZ cG h3 a3 (nI nr) (nI nt) (nI nc) rd rr rs so tr si gr ct cd cs) H := hP
        have hD : va_D A (wX3 cI cZ cG h3 a3 (nI nr) (nI nt) (nI nc) rd rr rs so tr si gr ct cd cs) := hD
        obtain rfl := hw6
        exact K_iret (wf := (fun (_ : Unit) => wX3 cI cZ cG h3 a3 (nI nr) (nI nt) (nI nc) rd rr rs so tr si gr ct cd cs)) () hx hb hr hlocks hP hK hD hS dX3_lookAt_54 (by simp [rLook, hw1, hct, hw3])
      · subst hsw5
        refine lv_tableIn (off := 34) (tgt := 55) hx hb dX3_lookAt_21 (by decide) (by decide) (by rfl) (by decide) ?_
        refine lv_aload_n hx hb dX3_lookAt_55 rfl (lv_at hl 0 rfl) ?_
        refine lv_iload_n hx hb dX3_lookAt_56 rfl (lv_at hl 1 rfl) ?_
        refine lv_iload_n hx hb dX3_lookAt_57 rfl (lv_at hl 2 rfl) ?_
        refine K_same (va_runV (As := [.int (nI t), .int d]) (rest := []) ⟨hx, hb, hml, hown, hts⟩ (c_X3_dueOn l D cI cZ cG h3 a3 _ nr nt nc rd rr rs so tr si gr ct cd cs t d hnr hnt hnc (by omega) hrr) (cwV 2 hts gX3_lookAt_X3_dueOn rfl rfl rfl (by decide +kernel) ⟨(Nat.le_of_ble_eq_true rfl), (Nat.le_of_ble_eq_true rfl)⟩) ⟨PB_blind, va_recv hK hP (ci := 3) (q0 := 0) rfl rfl, (K_preS hN hK hP hD).2⟩ rfl rfl hl.1 rfl (lv_room (Nat.le_of_ble_eq_true rfl)) dX3_lookAt_58 ⟨Nat.zero_le _, Nat.zero_le _⟩) hD hS hA (fun r7 u H locs hw7 hP hD hS => ?_)
        have hP : va_P D vwCl (wX3 cI cZ cG h3 a3 (nI nr) (nI nt) (nI nc) rd rr rs so tr si gr ct cd cs) H := hP
        have hD : va_D A (wX3 cI cZ cG h3 a3 (nI nr) (nI nt) (nI nc) rd rr rs so tr si gr ct cd cs) := hD
        obtain rfl := hw7
        exact K_iret (wf := (fun (_ : Unit) => wX3 cI cZ cG h3 a3 (nI nr) (nI nt) (nI nc) rd rr rs so tr si gr ct cd cs)) () hx hb hr hlocks hP hK hD hS dX3_lookAt_61 (by simp [rLook, hw1, hct, hw3])
      · subst hsw5
        refine lv_tableIn (off := 41) (tgt := 62) hx hb dX3_lookAt_21 (by decide) (by decide) (by rfl) (by decide) ?_
        refine lv_aload_n hx hb dX3_lookAt_62 rfl (lv_at hl 0 rfl) ?_
        refine lv_iload_n hx hb dX3_lookAt_63 rfl (lv_at hl 1 rfl) ?_
        refine lv_iload_n hx hb dX3_lookAt_64 rfl (lv_at hl 2 rfl) ?_
        refine K_same (va_runV (As := [.int (nI t), .int d]) (rest := []) ⟨hx, hb, hml, hown, hts⟩ (c_X3_faultOn l D cI cZ cG h3 a3 _ nr nt nc rd rr rs so tr si gr ct cd cs t d hnr hnt hnc (by omega) hrr) (cwV 2 hts gX3_lookAt_X3_faultOn rfl rfl rfl (by decide +kernel) ⟨(Nat.le_of_ble_eq_true rfl), (Nat.le_of_ble_eq_true rfl)⟩) ⟨PB_blind, va_recv hK hP (ci := 3) (q0 := 0) rfl rfl, (K_preS hN hK hP hD).2⟩ rfl rfl hl.1 rfl (lv_room (Nat.le_of_ble_eq_true rfl)) dX3_lookAt_65 ⟨Nat.zero_le _, Nat.zero_le _⟩) hD hS hA (fun r8 u H locs hw8 hP hD hS => ?_)
        have hP : va_P D vwCl (wX3 cI cZ cG h3 a3 (nI nr) (nI nt) (nI nc) rd rr rs so tr si gr ct cd cs) H := hP
        have hD : va_D A (wX3 cI cZ cG h3 a3 (nI nr) (nI nt) (nI nc) rd rr rs so tr si gr ct cd cs) := hD
        obtain rfl := hw8
        exact K_iret (wf := (fun (_ : Unit) => wX3 cI cZ cG h3 a3 (nI nr) (nI nt) (nI nc) rd rr rs so tr si gr ct cd cs)) () hx hb hr hlocks hP hK hD hS dX3_lookAt_68 (by simp [rLook, hw1, hct, hw3])
      · have n9 : ¬ w = 0 := fun hq => by rw [hq] at hsw5; revert hsw5; decide
        have n10 : ¬ w = 1 := fun hq => by rw [hq] at hsw5; revert hsw5; decide
        have n11 : ¬ w = 2 := fun hq => by rw [hq] at hsw5; revert hsw5; decide
        refine lv_tableOut (tgt := 69) hx hb dX3_lookAt_21 hsw5 (by decide) ?_
        refine lv_bipush (v := (-2)) hx hb dX3_lookAt_69 (by decide) ?_
        exact K_iret (wf := (fun (_ : Unit) => wX3 cI cZ cG h3 a3 (nI nr) (nI nt) (nI nc) rd rr rs so tr si gr ct cd cs)) () hx hb hr hlocks hP hK hD hS dX3_lookAt_71 (by simp [rLook, hw1, hct, hw3, n9, n10, n11])
    · skip
      refine lv_if_ne (tgt := 20) hx hb dX3_lookAt_14 (by decide) (fun c12 => absurd c12 (by decide)) (fun _ => ?_)
      refine lv_bipush (v := (-2)) hx hb dX3_lookAt_17 (by decide) ?_
      exact K_iret (wf := (fun (_ : Unit) => wX3 cI cZ cG h3 a3 (nI nr) (nI nt) (nI nc) rd rr rs so tr si gr ct cd cs)) () hx hb hr hlocks hP hK hD hS dX3_lookAt_19 (by simp [rLook, hw1, hct, hw3])
  · skip
    refine lv_if_ne (tgt := 10) hx hb dX3_lookAt_5 (by decide) (fun c13 => absurd c13 (by decide)) (fun _ => ?_)
    refine lv_iconst (v := (-1)) hx hb dX3_lookAt_8 (by decide) ?_
    exact K_iret (wf := (fun (_ : Unit) => wX3 cI cZ cG h3 a3 (nI nr) (nI nt) (nI nc) rd rr rs so tr si gr ct cd cs)) () hx hb hr hlocks hP hK hD hS dX3_lookAt_9 (by simp [rLook, hw1])
theorem inX3_firstFaulty : ∀ w ∈ wsX30, w ∈ wsX3_firstFaulty := by decide +kernel
set_option maxHeartbeats 8000000 in
set_option maxRecDepth 100000 in
/-- firstFaulty -/
theorem c_X3_firstFaulty (l : Launch) (D : va_G) (cI cZ cG : ClassId) (h3 : Nat) (a3 : Nat → Nat) (sz : Nat) (nr : Nat) (nt : Nat) (nc : Nat) (rd : Nat → Int32) (rr : Nat → Int32) (rs : Nat → Int32) (so : Nat → Int32) (tr : Nat → Int32) (si : Nat → Int32) (gr : Nat → Int32) (ct : Nat → Int32) (cd : Nat → Int32) (cs : Nat → Int32) (d : Int32) (hnr : nr ≤ 6) (hnt : nt ≤ 20) (hnc : nc ≤ 60) (hrr : ∀ k, k < nr → ¬ rr k = 0) : Met l yX3_firstFaulty wsX3_firstFaulty ({ frames := 4, cells := 0, slots := 0, locals := 92 } : Room) (va_Pc [.ref h3, .int d] (PB D (tyL cI cZ cG) (wX3 cI cZ cG h3 a3 (nI nr) (nI nt) (nI nc) rd rr rs so tr si gr ct cd cs) sz)) (va_Qi (fun (r : Int32) (_ : Unit) => if inR d 0 3000 = true then fst (fun t => ¬ fA nr nc rd rr rs so tr si gr ct cd cs t d = 0) 0 nt r else r = -2) (fun u => QB D (tyL cI cZ cG) (va_A (wX3 cI cZ cG h3 a3 (nI nr) (nI nt) (nI nc) rd rr rs so tr si gr ct cd cs) sz) ((fun (_ : Unit) => wX3 cI cZ cG h3 a3 (nI nr) (nI nt) (nI nc) rd rr rs so tr si gr ct cd cs) u)) (va_A (wX3 cI cZ cG h3 a3 (nI nr) (nI nt) (nI nc) rd rr rs so tr si gr ct cd cs) sz)) 0 0 (va_A (wX3 cI cZ cG h3 a3 (nI nr) (nI nt) (nI nc) rd rr rs so tr si gr ct cd cs) sz) := by
  refine K_start (cc := cX3_firstFaulty) (maxL := 3) (ret := some .int) (Qc := fun A => va_Qi (fun (r : Int32) (_ : Unit) => if inR d 0 3000 = true then fst (fun t => ¬ fA nr nc rd rr rs so tr si gr ct cd cs t d = 0) 0 nt r else r = -2) (fun u => QB D (tyL cI cZ cG) A ((fun (_ : Unit) => wX3 cI cZ cG h3 a3 (nI nr) (nI nt) (nI nc) rd rr rs so tr si gr ct cd cs) u)) A) (by decide) rfl (Nat.le_of_ble_eq_true rfl) ?_
  intro p e s m below meth c ls A hx hb hml hr hts hown hlocks hin hN hP hK hD hA hS hl hsz
  have hl : lv_has ls 3 [(0, .ref h3), (1, .int d)] := hl
  have fl62 := hts (.fieldLink RX3 62 "ModelTown$Scale" "things" "I") (by decide +kernel)
  refine lv_iload_n hx hb dX3_firstFaulty_0 rfl (lv_at hl 1 rfl) ?_
  refine K_none (va_runSN (As := [.int d]) (rest := []) ⟨hx, hb, hml, hown, hts⟩ (c_X4_isDay l D cI cZ cG _ d) ⟨va_cnB (host := "ModelTown") 1 hts gX3_firstFaulty_X4_isDay_n42 rfl rfl rfl hN.2.2.2.2.2.2.1 (hts (.initialized RX4) (by decide +kernel)) (by decide +kernel) ⟨(Nat.le_of_ble_eq_true rfl), (Nat.le_of_ble_eq_true rfl)⟩, hts (.static yX4_isDay) (by decide +kernel), trivial⟩ (K_pre0 hN hK) rfl rfl hl.1 rfl (lv_room (Nat.le_of_ble_eq_true rfl)) dX3_firstFaulty_1 ⟨Nat.zero_le _, Nat.zero_le _⟩) hP hS hA (fun r1 _ H locs hw1 hP hS => ?_)
  rcases hw1 with ⟨rfl, hw1⟩ | ⟨rfl, hw1⟩
  · skip
    refine lv_if_ne (tgt := 10) hx hb dX3_firstFaulty_4 (by decide) (fun _ => ?_) (fun c2 => absurd c2 (by decide))
    refine lv_iconst (v := 0) hx hb dX3_firstFaulty_10 (by decide) ?_
    refine lv_istore_n (lv' := [(2, .int 0), (0, .ref h3), (1, .int d)]) hx hb dX3_firstFaulty_11 rfl hl (by decide) rfl (fun ls hl => ?_)
    refine loopW1 (fun (t : Nat) H locs ls => (t ≤ nt) ∧ (∀ j, 0 ≤ j → j < t → ¬ ¬ fA nr nc rd rr rs so tr si gr ct cd cs j d = 0) ∧ va_P D vwCl (wX3 cI cZ cG h3 a3 (nI nr) (nI nt) (nI nc) rd rr rs so tr si gr ct cd cs) H ∧ va_D A (wX3 cI cZ cG h3 a3 (nI nr) (nI nt) (nI nc) rd rr rs so tr si gr ct cd cs) ∧ va_S A s.heap H locs ∧ lv_has ls 3 [(2, .int (nI t)), (0, .ref h3), (1, .int d)]) (fun (t : Nat) => nt - t) (fun t H locs ls hI ih12 => ?_) 0 _ _ _ ⟨(by omega), (fun j _ hj => absurd hj (by omega)), hP, hD, hS, lv_sub hl [0, 1, 2] rfl⟩
    obtain ⟨htt, hz, hP, hD, hS, hl⟩ := hI
    refine lv_iload_n hx hb dX3_firstFaulty_12 rfl (lv_at hl 0 rfl) ?_
    refine lv_aload_n hx hb dX3_firstFaulty_13 rfl (lv_at hl 1 rfl) ?_
    refine va_get (D := D) (ci := 3) (v := .int (nI nt)) (C := RX3) (T := TX3) (N := 13) hx hb hts inX3_firstFaulty hown hK hP 0 rfl rfl 8 (by decide) fl62 (fun _ h9 => h9) rfl dX3_firstFaulty_14 ?_
    refine lv_icmp_ge (tgt := 37) hx hb dX3_firstFaulty_17 (by decide) (fun c3 => ?_) (fun c3 => ?_)
    · have c3 : nt ≤ t := (nI_leI (a := nt) (b := t) (by omega) (by omega)).mp c3
      have ek : t = nt := by omega
      rw [ek] at hz
      refine lv_bipush (v := (-6)) hx hb dX3_firstFaulty_37 (by decide) ?_
      exact K_iret (wf := (fun (_ : Unit) => wX3 cI cZ cG h3 a3 (nI nr) (nI nt) (nI nc) rd rr rs so tr si gr ct cd cs)) () hx hb hr hlocks hP hK hD hS dX3_firstFaulty_39 (by rw [if_pos hw1]; exact Or.inr ⟨rfl, hz⟩)
    · have c3 : ¬ nt ≤ t := fun hq => c3 ((nI_leI (a := nt) (b := t) (by omega) (by omega)).mpr hq)
      have ht : t < nt := by omega
      refine lv_aload_n hx hb dX3_firstFaulty_20 rfl (lv_at hl 1 rfl) ?_
      refine lv_iload_n hx hb dX3_firstFaulty_21 rfl (lv_at hl 0 rfl) ?_
      refine lv_iload_n hx hb dX3_firstFaulty_22 rfl (lv_at hl 2 rfl) ?_
      refine K_same (va_runV (As := [.int (nI t), .int d]) (rest := []) ⟨hx, hb, hml, hown, hts⟩ (c_X3_faultOn l D cI cZ cG h3 a3 _ nr nt nc rd rr rs so tr si gr ct cd cs t d hnr hnt hnc ht hrr) (cwV 2 hts gX3_firstFaulty_X3_faultOn rfl rfl rfl (by decide +kernel) ⟨(Nat.le_of_ble_eq_true rfl), (Nat.le_of_ble_eq_true rfl)⟩) ⟨PB_blind, va_recv hK hP (ci := 3) (q0 := 0) rfl rfl, (K_preS hN hK hP hD).2⟩ rfl rfl hl.1 rfl (lv_room (Nat.le_of_ble_eq_true rfl)) dX3_firstFaulty_23 ⟨Nat.zero_le _, Nat.zero_le _⟩) hD hS hA (fun r4 u H locs hw4 hP hD hS => ?_)
      have hP : va_P D vwCl (wX3 cI cZ cG h3 a3 (nI nr) (nI nt) (nI nc) rd rr rs so tr si gr ct cd cs) H := hP
      have hD : va_D A (wX3 cI cZ cG h3 a3 (nI nr) (nI nt) (nI nc) rd rr rs so tr si gr ct cd cs) := hD
      obtain rfl := hw4
      refine lv_if_eq (tgt := 31) hx hb dX3_firstFaulty_26 (by decide) (fun c5 => ?_) (fun c5 => ?_)
      · refine lv_iinc (v := nI (t + 1)) (lv' := [(2, .int (nI (t + 1))), (0, .ref h3), (1, .int d)]) hx hb dX3_firstFaulty_31 hl (k := 0) rfl (inc1 _) (by decide) rfl (fun ls hl => ?_)
        refine lv_goto (tgt := 12) hx hb dX3_firstFaulty_34 (by decide) ?_
        exact ih12 (t + 1) _ _ _ ⟨(by omega), (fun j hj0 hj => by
          rcases Nat.lt_or_ge j t with q | q
          · exact hz j hj0 q
          · obtain rfl : j = t := by omega
            exact fun hq => hq c5), hP, hD, hS, lv_sub hl [0, 1, 2] rfl⟩ (by omega)
      · refine lv_iload_n hx hb dX3_firstFaulty_29 rfl (lv_at hl 0 rfl) ?_
        exact K_iret (wf := (fun (_ : Unit) => wX3 cI cZ cG h3 a3 (nI nr) (nI nt) (nI nc) rd rr rs so tr si gr ct cd cs)) () hx hb hr hlocks hP hK hD hS dX3_firstFaulty_30 (by rw [if_pos hw1]; exact Or.inl ⟨t, by omega, by omega, rfl, c5, hz⟩)
  · skip
    refine lv_if_ne (tgt := 10) hx hb dX3_firstFaulty_4 (by decide) (fun c6 => absurd c6 (by decide)) (fun _ => ?_)
    refine lv_bipush (v := (-2)) hx hb dX3_firstFaulty_7 (by decide) ?_
    exact K_iret (wf := (fun (_ : Unit) => wX3 cI cZ cG h3 a3 (nI nr) (nI nt) (nI nc) rd rr rs so tr si gr ct cd cs)) () hx hb hr hlocks hP hK hD hS dX3_firstFaulty_9 (by rw [if_neg hw1])
set_option maxHeartbeats 8000000 in
set_option maxRecDepth 100000 in
/-- firstFaultyDay -/
theorem c_X3_firstFaultyDay (l : Launch) (D : va_G) (cI cZ cG : ClassId) (h3 : Nat) (a3 : Nat → Nat) (sz : Nat) (nr : Nat) (nt : Nat) (nc : Nat) (rd : Nat → Int32) (rr : Nat → Int32) (rs : Nat → Int32) (so : Nat → Int32) (tr : Nat → Int32) (si : Nat → Int32) (gr : Nat → Int32) (ct : Nat → Int32) (cd : Nat → Int32) (cs : Nat → Int32) (x : Int32) (f : Int32) (hnr : nr ≤ 6) (hnt : nt ≤ 20) (hnc : nc ≤ 60) (hrr : ∀ k, k < nr → ¬ rr k = 0) : Met l yX3_firstFaultyDay wsX3_firstFaultyDay ({ frames := 4, cells := 0, slots := 0, locals := 92 } : Room) (va_Pc [.ref h3, .int x, .int f] (PB D (tyL cI cZ cG) (wX3 cI cZ cG h3 a3 (nI nr) (nI nt) (nI nc) rd rr rs so tr si gr ct cd cs) sz)) (va_Qi (fun (r : Int32) (_ : Unit) => if inR x 0 (nI nt - 1) = true then (if inR f 0 3000 = true then fst (fun k => ¬ fA nr nc rd rr rs so tr si gr ct cd cs x.toNatClampNeg (nI k) = 0) f.toNatClampNeg 3001 r else r = -2) else r = -1) (fun u => QB D (tyL cI cZ cG) (va_A (wX3 cI cZ cG h3 a3 (nI nr) (nI nt) (nI nc) rd rr rs so tr si gr ct cd cs) sz) ((fun (_ : Unit) => wX3 cI cZ cG h3 a3 (nI nr) (nI nt) (nI nc) rd rr rs so tr si gr ct cd cs) u)) (va_A (wX3 cI cZ cG h3 a3 (nI nr) (nI nt) (nI nc) rd rr rs so tr si gr ct cd cs) sz)) 0 0 (va_A (wX3 cI cZ cG h3 a3 (nI nr) (nI nt) (nI nc) rd rr rs so tr si gr ct cd cs) sz) := by
  refine K_start (cc := cX3_firstFaultyDay) (maxL := 4) (ret := some .int) (Qc := fun A => va_Qi (fun (r : Int32) (_ : Unit) => if inR x 0 (nI nt - 1) = true then (if inR f 0 3000 = true then fst (fun k => ¬ fA nr nc rd rr rs so tr si gr ct cd cs x.toNatClampNeg (nI k) = 0) f.toNatClampNeg 3001 r else r = -2) else r = -1) (fun u => QB D (tyL cI cZ cG) A ((fun (_ : Unit) => wX3 cI cZ cG h3 a3 (nI nr) (nI nt) (nI nc) rd rr rs so tr si gr ct cd cs) u)) A) (by decide) rfl (Nat.le_of_ble_eq_true rfl) ?_
  intro p e s m below meth c ls A hx hb hml hr hts hown hlocks hin hN hP hK hD hA hS hl hsz
  have hl : lv_has ls 4 [(0, .ref h3), (1, .int x), (2, .int f)] := hl
  refine lv_aload_n hx hb dX3_firstFaultyDay_0 rfl (lv_at hl 0 rfl) ?_
  refine lv_iload_n hx hb dX3_firstFaultyDay_1 rfl (lv_at hl 1 rfl) ?_
  refine K_same (va_runV (As := [.int x]) (rest := []) ⟨hx, hb, hml, hown, hts⟩ (c_X3_isThing l D cI cZ cG h3 a3 _ nr nt nc rd rr rs so tr si gr ct cd cs x hnr hnt hnc) (cwV 1 hts gX3_firstFaultyDay_X3_isThing rfl rfl rfl (by decide +kernel) ⟨(Nat.le_of_ble_eq_true rfl), (Nat.le_of_ble_eq_true rfl)⟩) ⟨PB_blind, va_recv hK hP (ci := 3) (q0 := 0) rfl rfl, (K_preS hN hK hP hD).2⟩ rfl rfl hl.1 rfl (lv_room (Nat.le_of_ble_eq_true rfl)) dX3_firstFaultyDay_2 ⟨Nat.zero_le _, Nat.zero_le _⟩) hD hS hA (fun r1 u H locs hw1 hP hD hS => ?_)
  have hP : va_P D vwCl (wX3 cI cZ cG h3 a3 (nI nr) (nI nt) (nI nc) rd rr rs so tr si gr ct cd cs) H := hP
  have hD : va_D A (wX3 cI cZ cG h3 a3 (nI nr) (nI nt) (nI nc) rd rr rs so tr si gr ct cd cs) := hD
  rcases hw1 with ⟨rfl, hw1⟩ | ⟨rfl, hw1⟩
  · obtain ⟨t, ht, rfl⟩ := inR_lt (by omega) hw1
    have hct : (nI t).toNatClampNeg = t := nI_clamp (by omega)
    refine lv_if_ne (tgt := 10) hx hb dX3_firstFaultyDay_5 (by decide) (fun _ => ?_) (fun c2 => absurd c2 (by decide))
    refine lv_iload_n hx hb dX3_firstFaultyDay_10 rfl (lv_at hl 2 rfl) ?_
    refine K_none (va_runSN (As := [.int f]) (rest := []) ⟨hx, hb, hml, hown, hts⟩ (c_X4_isDay l D cI cZ cG _ f) ⟨va_cnB (host := "ModelTown") 1 hts gX3_firstFaultyDay_X4_isDay_n42 rfl rfl rfl hN.2.2.2.2.2.2.1 (hts (.initialized RX4) (by decide +kernel)) (by decide +kernel) ⟨(Nat.le_of_ble_eq_true rfl), (Nat.le_of_ble_eq_true rfl)⟩, hts (.static yX4_isDay) (by decide +kernel), trivial⟩ (K_pre0 hN hK) rfl rfl hl.1 rfl (lv_room (Nat.le_of_ble_eq_true rfl)) dX3_firstFaultyDay_11 ⟨Nat.zero_le _, Nat.zero_le _⟩) hP hS hA (fun r3 _ H locs hw3 hP hS => ?_)
    rcases hw3 with ⟨rfl, hw3⟩ | ⟨rfl, hw3⟩
    · obtain ⟨f0, hf0, rfl⟩ := inR_nat (n := 3000) hw3 (by decide)
      have hcf0 : (nI f0).toNatClampNeg = f0 := nI_clamp (by omega)
      refine lv_if_ne (tgt := 20) hx hb dX3_firstFaultyDay_14 (by decide) (fun _ => ?_) (fun c4 => absurd c4 (by decide))
      refine lv_iload_n hx hb dX3_firstFaultyDay_20 rfl (lv_at hl 2 rfl) ?_
      refine lv_istore_n (lv' := [(3, .int (nI f0)), (0, .ref h3), (1, .int (nI t)), (2, .int (nI f0))]) hx hb dX3_firstFaultyDay_21 rfl hl (by decide) rfl (fun ls hl => ?_)
      refine loopW1 (fun (k : Nat) H locs ls => (f0 ≤ k) ∧ (k ≤ 3001) ∧ (∀ j, f0 ≤ j → j < k → ¬ ¬ fA nr nc rd rr rs so tr si gr ct cd cs t (nI j) = 0) ∧ va_P D vwCl (wX3 cI cZ cG h3 a3 (nI nr) (nI nt) (nI nc) rd rr rs so tr si gr ct cd cs) H ∧ va_D A (wX3 cI cZ cG h3 a3 (nI nr) (nI nt) (nI nc) rd rr rs so tr si gr ct cd cs) ∧ va_S A s.heap H locs ∧ lv_has ls 4 [(3, .int (nI k)), (0, .ref h3), (1, .int (nI t)), (2, .int (nI f0))]) (fun (k : Nat) => 3001 - k) (fun k H locs ls hI ih22 => ?_) f0 _ _ _ ⟨(by omega), (by omega), (fun j _ hj => absurd hj (by omega)), hP, hD, hS, lv_sub hl [0, 1, 2, 3] rfl⟩
      obtain ⟨hk1, hk2, hz, hP, hD, hS, hl⟩ := hI
      refine lv_iload_n hx hb dX3_firstFaultyDay_22 rfl (lv_at hl 0 rfl) ?_
      refine lv_sipush (v := 3000) hx hb dX3_firstFaultyDay_23 (by decide) ?_
      refine lv_icmp_gt (tgt := 46) hx hb dX3_firstFaultyDay_26 (by decide) (fun c5 => ?_) (fun c5 => ?_)
      · have c5 : 3000 < k := (nI_ltI (a := 3000) (b := k) (by omega) (by omega)).mp c5
        refine lv_bipush (v := (-6)) hx hb dX3_firstFaultyDay_46 (by decide) ?_
        exact K_iret (wf := (fun (_ : Unit) => wX3 cI cZ cG h3 a3 (nI nr) (nI nt) (nI nc) rd rr rs so tr si gr ct cd cs)) () hx hb hr hlocks hP hK hD hS dX3_firstFaultyDay_48 (by rw [if_pos hw1, if_pos hw3, hct, hcf0]; exact Or.inr ⟨rfl, fun j a b => hz j a (by omega)⟩)
      · have c5 : ¬ 3000 < k := fun hq => c5 ((nI_ltI (a := 3000) (b := k) (by omega) (by omega)).mpr hq)
        refine lv_aload_n hx hb dX3_firstFaultyDay_29 rfl (lv_at hl 1 rfl) ?_
        refine lv_iload_n hx hb dX3_firstFaultyDay_30 rfl (lv_at hl 2 rfl) ?_
        refine lv_iload_n hx hb dX3_firstFaultyDay_31 rfl (lv_at hl 0 rfl) ?_
        refine K_same (va_runV (As := [.int (nI t), .int (nI k)]) (rest := []) ⟨hx, hb, hml, hown, hts⟩ (c_X3_faultOn l D cI cZ cG h3 a3 _ nr nt nc rd rr rs so tr si gr ct cd cs t (nI k) hnr hnt hnc (by omega) hrr) (cwV 2 hts gX3_firstFaultyDay_X3_faultOn rfl rfl rfl (by decide +kernel) ⟨(Nat.le_of_ble_eq_true rfl), (Nat.le_of_ble_eq_true rfl)⟩) ⟨PB_blind, va_recv hK hP (ci := 3) (q0 := 0) rfl rfl, (K_preS hN hK hP hD).2⟩ rfl rfl hl.1 rfl (lv_room (Nat.le_of_ble_eq_true rfl)) dX3_firstFaultyDay_32 ⟨Nat.zero_le _, Nat.zero_le _⟩) hD hS hA (fun r6 u H locs hw6 hP hD hS => ?_)
        have hP : va_P D vwCl (wX3 cI cZ cG h3 a3 (nI nr) (nI nt) (nI nc) rd rr rs so tr si gr ct cd cs) H := hP
        have hD : va_D A (wX3 cI cZ cG h3 a3 (nI nr) (nI nt) (nI nc) rd rr rs so tr si gr ct cd cs) := hD
        obtain rfl := hw6
        refine lv_if_eq (tgt := 40) hx hb dX3_firstFaultyDay_35 (by decide) (fun c7 => ?_) (fun c7 => ?_)
        · refine lv_iinc (v := nI (k + 1)) (lv' := [(3, .int (nI (k + 1))), (0, .ref h3), (1, .int (nI t)), (2, .int (nI f0))]) hx hb dX3_firstFaultyDay_40 hl (k := 0) rfl (inc1 _) (by decide) rfl (fun ls hl => ?_)
          refine lv_goto (tgt := 22) hx hb dX3_firstFaultyDay_43 (by decide) ?_
          exact ih22 (k + 1) _ _ _ ⟨(by omega), (by omega), (fun j hj0 hj => by
            rcases Nat.lt_or_ge j k with q | q
            · exact hz j hj0 q
            · obtain rfl : j = k := by omega
              exact fun hq => hq c7), hP, hD, hS, lv_sub hl [0, 1, 2, 3] rfl⟩ (by omega)
        · refine lv_iload_n hx hb dX3_firstFaultyDay_38 rfl (lv_at hl 0 rfl) ?_
          exact K_iret (wf := (fun (_ : Unit) => wX3 cI cZ cG h3 a3 (nI nr) (nI nt) (nI nc) rd rr rs so tr si gr ct cd cs)) () hx hb hr hlocks hP hK hD hS dX3_firstFaultyDay_39 (by rw [if_pos hw1, if_pos hw3, hct, hcf0]; exact Or.inl ⟨k, by omega, by omega, rfl, c7, hz⟩)
    · skip
      refine lv_if_ne (tgt := 20) hx hb dX3_firstFaultyDay_14 (by decide) (fun c8 => absurd c8 (by decide)) (fun _ => ?_)
      refine lv_bipush (v := (-2)) hx hb dX3_firstFaultyDay_17 (by decide) ?_
      exact K_iret (wf := (fun (_ : Unit) => wX3 cI cZ cG h3 a3 (nI nr) (nI nt) (nI nc) rd rr rs so tr si gr ct cd cs)) () hx hb hr hlocks hP hK hD hS dX3_firstFaultyDay_19 (by rw [if_pos hw1, if_neg hw3])
  · skip
    refine lv_if_ne (tgt := 10) hx hb dX3_firstFaultyDay_5 (by decide) (fun c9 => absurd c9 (by decide)) (fun _ => ?_)
    refine lv_iconst (v := (-1)) hx hb dX3_firstFaultyDay_8 (by decide) ?_
    exact K_iret (wf := (fun (_ : Unit) => wX3 cI cZ cG h3 a3 (nI nr) (nI nt) (nI nc) rd rr rs so tr si gr ct cd cs)) () hx hb hr hlocks hP hK hD hS dX3_firstFaultyDay_9 (by rw [if_neg hw1])
theorem inX3_addRule : ∀ w ∈ wsX30, w ∈ wsX3_addRule := by decide +kernel
set_option maxHeartbeats 8000000 in
set_option maxRecDepth 100000 in
/-- addRule -/
theorem c_X3_addRule (l : Launch) (D : va_G) (cI cZ cG : ClassId) (h3 : Nat) (a3 : Nat → Nat) (sz : Nat) (nr : Nat) (nt : Nat) (nc : Nat) (rd : Nat → Int32) (rr : Nat → Int32) (rs : Nat → Int32) (so : Nat → Int32) (tr : Nat → Int32) (si : Nat → Int32) (gr : Nat → Int32) (ct : Nat → Int32) (cd : Nat → Int32) (cs : Nat → Int32) (d : Int32) (q : Int32) (v : Int32) (hnr : nr ≤ 6) (hnt : nt ≤ 20) (hnc : nc ≤ 60) : Met l yX3_addRule wsX3_addRule ({ frames := 2, cells := 0, slots := 0, locals := 42 } : Room) (va_Pc [.ref h3, .int d, .int q, .int v] (PB D (tyL cI cZ cG) (wX3 cI cZ cG h3 a3 (nI nr) (nI nt) (nI nc) rd rr rs so tr si gr ct cd cs) sz)) (va_Qi (fun (r : Int32) (u : Nat × (Nat → Int32) × (Nat → Int32) × (Nat → Int32)) => r = rRule nr d q v ∧ u = if okRule d q v = true ∧ ¬ nr = 6 then (nr + 1, upd rd nr d, upd rr nr q, upd rs nr v) else (nr, rd, rr, rs)) (fun u => QB D (tyL cI cZ cG) (va_A (wX3 cI cZ cG h3 a3 (nI nr) (nI nt) (nI nc) rd rr rs so tr si gr ct cd cs) sz) ((fun (u : Nat × (Nat → Int32) × (Nat → Int32) × (Nat → Int32)) => wX3 cI cZ cG h3 a3 (nI u.1) (nI nt) (nI nc) u.2.1 u.2.2.1 u.2.2.2 so tr si gr ct cd cs) u)) (va_A (wX3 cI cZ cG h3 a3 (nI nr) (nI nt) (nI nc) rd rr rs so tr si gr ct cd cs) sz)) 0 0 (va_A (wX3 cI cZ cG h3 a3 (nI nr) (nI nt) (nI nc) rd rr rs so tr si gr ct cd cs) sz) := by
  refine K_start (cc := cX3_addRule) (maxL := 4) (ret := some .int) (Qc := fun A => va_Qi (fun (r : Int32) (u : Nat × (Nat → Int32) × (Nat → Int32) × (Nat → Int32)) => r = rRule nr d q v ∧ u = if okRule d q v = true ∧ ¬ nr = 6 then (nr + 1, upd rd nr d, upd rr nr q, upd rs nr v) else (nr, rd, rr, rs)) (fun u => QB D (tyL cI cZ cG) A ((fun (u : Nat × (Nat → Int32) × (Nat → Int32) × (Nat → Int32)) => wX3 cI cZ cG h3 a3 (nI u.1) (nI nt) (nI nc) u.2.1 u.2.2.1 u.2.2.2 so tr si gr ct cd cs) u)) A) (by decide) rfl (Nat.le_of_ble_eq_true rfl) ?_
  intro p e s m below meth c ls A hx hb hml hr hts hown hlocks hin hN hP hK hD hA hS hl hsz
  have hl : lv_has ls 4 [(0, .ref h3), (1, .int d), (2, .int q), (3, .int v)] := hl
  have fl50 := hts (.fieldLink RX3 50 "ModelTown$Scale" "rules" "I") (by decide +kernel)
  have fl11 := hts (.fieldLink RX3 11 "ModelTown$Scale" "ruleDay" "[I") (by decide +kernel)
  have fl15 := hts (.fieldLink RX3 15 "ModelTown$Scale" "ruleRatio" "[I") (by decide +kernel)
  have fl18 := hts (.fieldLink RX3 18 "ModelTown$Scale" "ruleSlack" "[I") (by decide +kernel)
  refine lv_iload_n hx hb dX3_addRule_0 rfl (lv_at hl 1 rfl) ?_
  refine K_none (va_runSN (As := [.int d]) (rest := []) ⟨hx, hb, hml, hown, hts⟩ (c_X4_isDay l D cI cZ cG _ d) ⟨va_cnB (host := "ModelTown") 1 hts gX3_addRule_X4_isDay_n42 rfl rfl rfl hN.2.2.2.2.2.2.1 (hts (.initialized RX4) (by decide +kernel)) (by decide +kernel) ⟨(Nat.le_of_ble_eq_true rfl), (Nat.le_of_ble_eq_true rfl)⟩, hts (.static yX4_isDay) (by decide +kernel), trivial⟩ (K_pre0 hN hK) rfl rfl hl.1 rfl (lv_room (Nat.le_of_ble_eq_true rfl)) dX3_addRule_1 ⟨Nat.zero_le _, Nat.zero_le _⟩) hP hS hA (fun r1 _ H locs hw1 hP hS => ?_)
  rcases hw1 with ⟨rfl, hw1⟩ | ⟨rfl, hw1⟩
  · skip
    refine lv_if_eq (tgt := 27) hx hb dX3_addRule_4 (by decide) (fun c2 => absurd c2 (by decide)) (fun _ => ?_)
    refine lv_iload_n hx hb dX3_addRule_7 rfl (lv_at hl 2 rfl) ?_
    refine lv_iconst (v := 2) hx hb dX3_addRule_8 (by decide) ?_
    refine lv_bipush (v := 30) hx hb dX3_addRule_9 (by decide) ?_
    refine K_none (va_runSN (As := [.int q, .int 2, .int 30]) (rest := []) ⟨hx, hb, hml, hown, hts⟩ (c_X4_isWithin l D cI cZ cG _ q 2 30) ⟨va_cnB (host := "ModelTown") 3 hts gX3_addRule_X4_isWithin_n46 rfl rfl rfl hN.2.2.2.2.2.2.2.1 (hts (.initialized RX4) (by decide +kernel)) (by decide +kernel) ⟨(Nat.le_of_ble_eq_true rfl), (Nat.le_of_ble_eq_true rfl)⟩, hts (.static yX4_isWithin) (by decide +kernel), trivial⟩ (K_pre0 hN hK) rfl rfl hl.1 rfl (lv_room (Nat.le_of_ble_eq_true rfl)) dX3_addRule_11 ⟨Nat.zero_le _, Nat.zero_le _⟩) hP hS hA (fun r3 _ H locs hw3 hP hS => ?_)
    rcases hw3 with ⟨rfl, hw3⟩ | ⟨rfl, hw3⟩
    · skip
      refine lv_if_eq (tgt := 27) hx hb dX3_addRule_14 (by decide) (fun c4 => absurd c4 (by decide)) (fun _ => ?_)
      refine lv_iload_n hx hb dX3_addRule_17 rfl (lv_at hl 3 rfl) ?_
      refine lv_iconst (v := 0) hx hb dX3_addRule_18 (by decide) ?_
      refine lv_bipush (v := 50) hx hb dX3_addRule_19 (by decide) ?_
      refine K_none (va_runSN (As := [.int v, .int 0, .int 50]) (rest := []) ⟨hx, hb, hml, hown, hts⟩ (c_X4_isWithin l D cI cZ cG _ v 0 50) ⟨va_cnB (host := "ModelTown") 3 hts gX3_addRule_X4_isWithin_n46 rfl rfl rfl hN.2.2.2.2.2.2.2.1 (hts (.initialized RX4) (by decide +kernel)) (by decide +kernel) ⟨(Nat.le_of_ble_eq_true rfl), (Nat.le_of_ble_eq_true rfl)⟩, hts (.static yX4_isWithin) (by decide +kernel), trivial⟩ (K_pre0 hN hK) rfl rfl hl.1 rfl (lv_room (Nat.le_of_ble_eq_true rfl)) dX3_addRule_21 ⟨Nat.zero_le _, Nat.zero_le _⟩) hP hS hA (fun r5 _ H locs hw5 hP hS => ?_)
      rcases hw5 with ⟨rfl, hw5⟩ | ⟨rfl, hw5⟩
      · skip
        refine lv_if_ne (tgt := 30) hx hb dX3_addRule_24 (by decide) (fun _ => ?_) (fun c6 => absurd c6 (by decide))
        refine lv_aload_n hx hb dX3_addRule_30 rfl (lv_at hl 0 rfl) ?_
        refine va_get (D := D) (ci := 3) (v := .int (nI nr)) (C := RX3) (T := TX3) (N := 13) hx hb hts inX3_addRule hown hK hP 0 rfl rfl 3 (by decide) fl50 (fun _ h9 => h9) rfl dX3_addRule_31 ?_
        refine lv_bipush (v := 6) hx hb dX3_addRule_34 (by decide) ?_
        refine lv_icmp_lt (tgt := 42) hx hb dX3_addRule_36 (by decide) (fun c7 => ?_) (fun c7 => ?_)
        · have c7 : nr < 6 := (nI_ltI (a := nr) (b := 6) (by omega) (by omega)).mp c7
          have c7 : ¬ nr = 6 := by omega
          refine lv_aload_n hx hb dX3_addRule_42 rfl (lv_at hl 0 rfl) ?_
          refine va_get (D := D) (ci := 3) (v := .ref (a3 0)) (C := RX3) (T := TX3) (N := 13) hx hb hts inX3_addRule hown hK hP 0 rfl rfl 0 (by decide) fl11 (fun _ h9 => h9) rfl dX3_addRule_43 ?_
          refine lv_aload_n hx hb dX3_addRule_46 rfl (lv_at hl 0 rfl) ?_
          refine va_get (D := D) (ci := 3) (v := .int (nI nr)) (C := RX3) (T := TX3) (N := 13) hx hb hts inX3_addRule hown hK hP 0 rfl rfl 3 (by decide) fl50 (fun _ h9 => h9) rfl dX3_addRule_47 ?_
          refine lv_iload_n hx hb dX3_addRule_50 rfl (lv_at hl 1 rfl) ?_
          refine K_iast hx hb hK hP hD hS 1 0 rfl rfl nr (by omega) (Nat.le_of_ble_eq_true rfl) dX3_addRule_51 (fun H locs hP hD hS => ?_)
          have hP : va_P D vwCl (wX3 cI cZ cG h3 a3 (nI nr) (nI nt) (nI nc) (upd rd nr d) rr rs so tr si gr ct cd cs) H := hP
          have hD : va_D A (wX3 cI cZ cG h3 a3 (nI nr) (nI nt) (nI nc) (upd rd nr d) rr rs so tr si gr ct cd cs) := hD
          refine lv_aload_n hx hb dX3_addRule_52 rfl (lv_at hl 0 rfl) ?_
          refine va_get (D := D) (ci := 3) (v := .ref (a3 1)) (C := RX3) (T := TX3) (N := 13) hx hb hts inX3_addRule hown hK hP 0 rfl rfl 1 (by decide) fl15 (fun _ h9 => h9) rfl dX3_addRule_53 ?_
          refine lv_aload_n hx hb dX3_addRule_56 rfl (lv_at hl 0 rfl) ?_
          refine va_get (D := D) (ci := 3) (v := .int (nI nr)) (C := RX3) (T := TX3) (N := 13) hx hb hts inX3_addRule hown hK hP 0 rfl rfl 3 (by decide) fl50 (fun _ h9 => h9) rfl dX3_addRule_57 ?_
          refine lv_iload_n hx hb dX3_addRule_60 rfl (lv_at hl 2 rfl) ?_
          refine K_iast hx hb hK hP hD hS 2 0 rfl rfl nr (by omega) (Nat.le_of_ble_eq_true rfl) dX3_addRule_61 (fun H locs hP hD hS => ?_)
          have hP : va_P D vwCl (wX3 cI cZ cG h3 a3 (nI nr) (nI nt) (nI nc) (upd rd nr d) (upd rr nr q) rs so tr si gr ct cd cs) H := hP
          have hD : va_D A (wX3 cI cZ cG h3 a3 (nI nr) (nI nt) (nI nc) (upd rd nr d) (upd rr nr q) rs so tr si gr ct cd cs) := hD
          refine lv_aload_n hx hb dX3_addRule_62 rfl (lv_at hl 0 rfl) ?_
          refine va_get (D := D) (ci := 3) (v := .ref (a3 2)) (C := RX3) (T := TX3) (N := 13) hx hb hts inX3_addRule hown hK hP 0 rfl rfl 2 (by decide) fl18 (fun _ h9 => h9) rfl dX3_addRule_63 ?_
          refine lv_aload_n hx hb dX3_addRule_66 rfl (lv_at hl 0 rfl) ?_
          refine va_get (D := D) (ci := 3) (v := .int (nI nr)) (C := RX3) (T := TX3) (N := 13) hx hb hts inX3_addRule hown hK hP 0 rfl rfl 3 (by decide) fl50 (fun _ h9 => h9) rfl dX3_addRule_67 ?_
          refine lv_iload_n hx hb dX3_addRule_70 rfl (lv_at hl 3 rfl) ?_
          refine K_iast hx hb hK hP hD hS 3 0 rfl rfl nr (by omega) (Nat.le_of_ble_eq_true rfl) dX3_addRule_71 (fun H locs hP hD hS => ?_)
          have hP : va_P D vwCl (wX3 cI cZ cG h3 a3 (nI nr) (nI nt) (nI nc) (upd rd nr d) (upd rr nr q) (upd rs nr v) so tr si gr ct cd cs) H := hP
          have hD : va_D A (wX3 cI cZ cG h3 a3 (nI nr) (nI nt) (nI nc) (upd rd nr d) (upd rr nr q) (upd rs nr v) so tr si gr ct cd cs) := hD
          refine lv_aload_n hx hb dX3_addRule_72 rfl (lv_at hl 0 rfl) ?_
          refine lv_dup hx hb dX3_addRule_73 rfl ?_
          refine va_get (D := D) (ci := 3) (v := .int (nI nr)) (C := RX3) (T := TX3) (N := 13) hx hb hts inX3_addRule hown hK hP 0 rfl rfl 3 (by decide) fl50 (fun _ h9 => h9) rfl dX3_addRule_74 ?_
          refine lv_iconst (v := 1) hx hb dX3_addRule_77 (by decide) ?_
          refine lv_iadd hx hb dX3_addRule_78 ?_
          refine lv_topi (fun z8 ez8 => ?_)
          obtain rfl : z8 = nI (nr + 1) := ez8.trans (nI_add nr 1)
          refine va_put (D := D) (ci := 3) (v := .int (nI (nr + 1))) (ty := .int) (C := RX3) (T := TX3) (N := 13) hx hb hts inX3_addRule tyX3 tyX3_ok nmX3 hown hK hP hD hS 0 rfl rfl 3 (by decide) fl50 (fun _ h9 => h9) rfl (by decide +kernel) rfl rfl (Nat.le_of_ble_eq_true rfl) dX3_addRule_79 (fun H locs hP hD hS => ?_)
          have hP : va_P D vwCl (wX3 cI cZ cG h3 a3 (nI (nr + 1)) (nI nt) (nI nc) (upd rd nr d) (upd rr nr q) (upd rs nr v) so tr si gr ct cd cs) H := hP
          have hD : va_D A (wX3 cI cZ cG h3 a3 (nI (nr + 1)) (nI nt) (nI nc) (upd rd nr d) (upd rr nr q) (upd rs nr v) so tr si gr ct cd cs) := hD
          refine lv_aload_n hx hb dX3_addRule_82 rfl (lv_at hl 0 rfl) ?_
          refine va_get (D := D) (ci := 3) (v := .int (nI (nr + 1))) (C := RX3) (T := TX3) (N := 13) hx hb hts inX3_addRule hown hK hP 0 rfl rfl 3 (by decide) fl50 (fun _ h9 => h9) rfl dX3_addRule_83 ?_
          exact K_iret (wf := (fun (u : Nat × (Nat → Int32) × (Nat → Int32) × (Nat → Int32)) => wX3 cI cZ cG h3 a3 (nI u.1) (nI nt) (nI nc) u.2.1 u.2.2.1 u.2.2.2 so tr si gr ct cd cs)) (nr + 1, upd rd nr d, upd rr nr q, upd rs nr v) hx hb hr hlocks hP hK hD hS dX3_addRule_86 (by simp [rRule, okRule, hw1, hw3, hw5, c7])
        · have c7 : ¬ nr < 6 := fun hq => c7 ((nI_ltI (a := nr) (b := 6) (by omega) (by omega)).mpr hq)
          have c7 : nr = 6 := by omega
          refine lv_bipush (v := (-4)) hx hb dX3_addRule_39 (by decide) ?_
          exact K_iret (wf := (fun (u : Nat × (Nat → Int32) × (Nat → Int32) × (Nat → Int32)) => wX3 cI cZ cG h3 a3 (nI u.1) (nI nt) (nI nc) u.2.1 u.2.2.1 u.2.2.2 so tr si gr ct cd cs)) (nr, rd, rr, rs) hx hb hr hlocks hP hK hD hS dX3_addRule_41 (by simp [rRule, okRule, hw1, hw3, hw5, eq_true c7])
      · skip
        refine lv_if_ne (tgt := 30) hx hb dX3_addRule_24 (by decide) (fun c9 => absurd c9 (by decide)) (fun _ => ?_)
        refine lv_bipush (v := (-2)) hx hb dX3_addRule_27 (by decide) ?_
        exact K_iret (wf := (fun (u : Nat × (Nat → Int32) × (Nat → Int32) × (Nat → Int32)) => wX3 cI cZ cG h3 a3 (nI u.1) (nI nt) (nI nc) u.2.1 u.2.2.1 u.2.2.2 so tr si gr ct cd cs)) (nr, rd, rr, rs) hx hb hr hlocks hP hK hD hS dX3_addRule_29 (by simp [rRule, okRule, hw1, hw3, hw5])
    · skip
      refine lv_if_eq (tgt := 27) hx hb dX3_addRule_14 (by decide) (fun _ => ?_) (fun c10 => absurd c10 (by decide))
      refine lv_bipush (v := (-2)) hx hb dX3_addRule_27 (by decide) ?_
      exact K_iret (wf := (fun (u : Nat × (Nat → Int32) × (Nat → Int32) × (Nat → Int32)) => wX3 cI cZ cG h3 a3 (nI u.1) (nI nt) (nI nc) u.2.1 u.2.2.1 u.2.2.2 so tr si gr ct cd cs)) (nr, rd, rr, rs) hx hb hr hlocks hP hK hD hS dX3_addRule_29 (by simp [rRule, okRule, hw1, hw3])
  · skip
    refine lv_if_eq (tgt := 27) hx hb dX3_addRule_4 (by decide) (fun _ => ?_) (fun c11 => absurd c11 (by decide))
    refine lv_bipush (v := (-2)) hx hb dX3_addRule_27 (by decide) ?_
    exact K_iret (wf := (fun (u : Nat × (Nat → Int32) × (Nat → Int32) × (Nat → Int32)) => wX3 cI cZ cG h3 a3 (nI u.1) (nI nt) (nI nc) u.2.1 u.2.2.1 u.2.2.2 so tr si gr ct cd cs)) (nr, rd, rr, rs) hx hb hr hlocks hP hK hD hS dX3_addRule_29 (by simp [rRule, okRule, hw1])
theorem inX3_addThing : ∀ w ∈ wsX30, w ∈ wsX3_addThing := by decide +kernel
set_option maxHeartbeats 8000000 in
set_option maxRecDepth 100000 in
/-- addThing -/
theorem c_X3_addThing (l : Launch) (D : va_G) (cI cZ cG : ClassId) (h3 : Nat) (a3 : Nat → Nat) (sz : Nat) (nr : Nat) (nt : Nat) (nc : Nat) (rd : Nat → Int32) (rr : Nat → Int32) (rs : Nat → Int32) (so : Nat → Int32) (tr : Nat → Int32) (si : Nat → Int32) (gr : Nat → Int32) (ct : Nat → Int32) (cd : Nat → Int32) (cs : Nat → Int32) (p0 : Int32) (q : Int32) (v : Int32) (g : Int32) (hnr : nr ≤ 6) (hnt : nt ≤ 20) (hnc : nc ≤ 60) : Met l yX3_addThing wsX3_addThing ({ frames := 1, cells := 0, slots := 0, locals := 22 } : Room) (va_Pc [.ref h3, .int p0, .int q, .int v, .int g] (PB D (tyL cI cZ cG) (wX3 cI cZ cG h3 a3 (nI nr) (nI nt) (nI nc) rd rr rs so tr si gr ct cd cs) sz)) (va_Qi (fun (r : Int32) (u : Nat × (Nat → Int32) × (Nat → Int32) × (Nat → Int32) × (Nat → Int32)) => r = rThing nt p0 q v g ∧ u = if okThing p0 q v g = true ∧ ¬ nt = 20 then (nt + 1, upd so nt p0, upd tr nt q, upd si nt v, upd gr nt (if p0 = 1 then g else 0)) else (nt, so, tr, si, gr)) (fun u => QB D (tyL cI cZ cG) (va_A (wX3 cI cZ cG h3 a3 (nI nr) (nI nt) (nI nc) rd rr rs so tr si gr ct cd cs) sz) ((fun (u : Nat × (Nat → Int32) × (Nat → Int32) × (Nat → Int32) × (Nat → Int32)) => wX3 cI cZ cG h3 a3 (nI nr) (nI u.1) (nI nc) rd rr rs u.2.1 u.2.2.1 u.2.2.2.1 u.2.2.2.2 ct cd cs) u)) (va_A (wX3 cI cZ cG h3 a3 (nI nr) (nI nt) (nI nc) rd rr rs so tr si gr ct cd cs) sz)) 0 0 (va_A (wX3 cI cZ cG h3 a3 (nI nr) (nI nt) (nI nc) rd rr rs so tr si gr ct cd cs) sz) := by
  refine K_start (cc := cX3_addThing) (maxL := 5) (ret := some .int) (Qc := fun A => va_Qi (fun (r : Int32) (u : Nat × (Nat → Int32) × (Nat → Int32) × (Nat → Int32) × (Nat → Int32)) => r = rThing nt p0 q v g ∧ u = if okThing p0 q v g = true ∧ ¬ nt = 20 then (nt + 1, upd so nt p0, upd tr nt q, upd si nt v, upd gr nt (if p0 = 1 then g else 0)) else (nt, so, tr, si, gr)) (fun u => QB D (tyL cI cZ cG) A ((fun (u : Nat × (Nat → Int32) × (Nat → Int32) × (Nat → Int32) × (Nat → Int32)) => wX3 cI cZ cG h3 a3 (nI nr) (nI u.1) (nI nc) rd rr rs u.2.1 u.2.2.1 u.2.2.2.1 u.2.2.2.2 ct cd cs) u)) A) (by decide) rfl (Nat.le_of_ble_eq_true rfl) ?_
  intro p e s m below meth c ls A hx hb hml hr hts hown hlocks hin hN hP hK hD hA hS hl hsz
  have hl : lv_has ls 5 [(0, .ref h3), (1, .int p0), (2, .int q), (3, .int v), (4, .int g)] := hl
  have fl62 := hts (.fieldLink RX3 62 "ModelTown$Scale" "things" "I") (by decide +kernel)
  have fl21 := hts (.fieldLink RX3 21 "ModelTown$Scale" "sorts" "[I") (by decide +kernel)
  have fl24 := hts (.fieldLink RX3 24 "ModelTown$Scale" "trueSizes" "[I") (by decide +kernel)
  have fl27 := hts (.fieldLink RX3 27 "ModelTown$Scale" "firstSizes" "[I") (by decide +kernel)
  have fl30 := hts (.fieldLink RX3 30 "ModelTown$Scale" "grows" "[I") (by decide +kernel)
  refine lv_iload_n hx hb dX3_addThing_0 rfl (lv_at hl 1 rfl) ?_
  refine lv_iconst (v := 0) hx hb dX3_addThing_1 (by decide) ?_
  refine lv_iconst (v := 2) hx hb dX3_addThing_2 (by decide) ?_
  refine K_none (va_runSN (As := [.int p0, .int 0, .int 2]) (rest := []) ⟨hx, hb, hml, hown, hts⟩ (c_X4_isWithin l D cI cZ cG _ p0 0 2) ⟨va_cnB (host := "ModelTown") 3 hts gX3_addThing_X4_isWithin_n46 rfl rfl rfl hN.2.2.2.2.2.2.2.1 (hts (.initialized RX4) (by decide +kernel)) (by decide +kernel) ⟨(Nat.le_of_ble_eq_true rfl), (Nat.le_of_ble_eq_true rfl)⟩, hts (.static yX4_isWithin) (by decide +kernel), trivial⟩ (K_pre0 hN hK) rfl rfl hl.1 rfl (lv_room (Nat.le_of_ble_eq_true rfl)) dX3_addThing_3 ⟨Nat.zero_le _, Nat.zero_le _⟩) hP hS hA (fun r1 _ H locs hw1 hP hS => ?_)
  rcases hw1 with ⟨rfl, hw1⟩ | ⟨rfl, hw1⟩
  · skip
    refine lv_if_eq (tgt := 42) hx hb dX3_addThing_6 (by decide) (fun c2 => absurd c2 (by decide)) (fun _ => ?_)
    refine lv_iload_n hx hb dX3_addThing_9 rfl (lv_at hl 2 rfl) ?_
    refine lv_bipush (v := 100) hx hb dX3_addThing_10 (by decide) ?_
    refine lv_ldc (v := 60000) hx hb hown (hts (.constant RX3 61 60000) (by decide +kernel)) dX3_addThing_12 ?_
    refine K_none (va_runSN (As := [.int q, .int 100, .int 60000]) (rest := []) ⟨hx, hb, hml, hown, hts⟩ (c_X4_isWithin l D cI cZ cG _ q 100 60000) ⟨va_cnB (host := "ModelTown") 3 hts gX3_addThing_X4_isWithin_n46 rfl rfl rfl hN.2.2.2.2.2.2.2.1 (hts (.initialized RX4) (by decide +kernel)) (by decide +kernel) ⟨(Nat.le_of_ble_eq_true rfl), (Nat.le_of_ble_eq_true rfl)⟩, hts (.static yX4_isWithin) (by decide +kernel), trivial⟩ (K_pre0 hN hK) rfl rfl hl.1 rfl (lv_room (Nat.le_of_ble_eq_true rfl)) dX3_addThing_14 ⟨Nat.zero_le _, Nat.zero_le _⟩) hP hS hA (fun r3 _ H locs hw3 hP hS => ?_)
    rcases hw3 with ⟨rfl, hw3⟩ | ⟨rfl, hw3⟩
    · skip
      refine lv_if_eq (tgt := 42) hx hb dX3_addThing_17 (by decide) (fun c4 => absurd c4 (by decide)) (fun _ => ?_)
      refine lv_iload_n hx hb dX3_addThing_20 rfl (lv_at hl 3 rfl) ?_
      refine lv_iconst (v := 1) hx hb dX3_addThing_21 (by decide) ?_
      refine lv_sipush (v := 9000) hx hb dX3_addThing_22 (by decide) ?_
      refine K_none (va_runSN (As := [.int v, .int 1, .int 9000]) (rest := []) ⟨hx, hb, hml, hown, hts⟩ (c_X4_isWithin l D cI cZ cG _ v 1 9000) ⟨va_cnB (host := "ModelTown") 3 hts gX3_addThing_X4_isWithin_n46 rfl rfl rfl hN.2.2.2.2.2.2.2.1 (hts (.initialized RX4) (by decide +kernel)) (by decide +kernel) ⟨(Nat.le_of_ble_eq_true rfl), (Nat.le_of_ble_eq_true rfl)⟩, hts (.static yX4_isWithin) (by decide +kernel), trivial⟩ (K_pre0 hN hK) rfl rfl hl.1 rfl (lv_room (Nat.le_of_ble_eq_true rfl)) dX3_addThing_25 ⟨Nat.zero_le _, Nat.zero_le _⟩) hP hS hA (fun r5 _ H locs hw5 hP hS => ?_)
      rcases hw5 with ⟨rfl, hw5⟩ | ⟨rfl, hw5⟩
      · skip
        refine lv_if_eq (tgt := 42) hx hb dX3_addThing_28 (by decide) (fun c6 => absurd c6 (by decide)) (fun _ => ?_)
        refine lv_iload hx hb dX3_addThing_31 (lv_at hl 4 rfl) ?_
        refine lv_iconst (v := 0) hx hb dX3_addThing_33 (by decide) ?_
        refine lv_bipush (v := 50) hx hb dX3_addThing_34 (by decide) ?_
        refine K_none (va_runSN (As := [.int g, .int 0, .int 50]) (rest := []) ⟨hx, hb, hml, hown, hts⟩ (c_X4_isWithin l D cI cZ cG _ g 0 50) ⟨va_cnB (host := "ModelTown") 3 hts gX3_addThing_X4_isWithin_n46 rfl rfl rfl hN.2.2.2.2.2.2.2.1 (hts (.initialized RX4) (by decide +kernel)) (by decide +kernel) ⟨(Nat.le_of_ble_eq_true rfl), (Nat.le_of_ble_eq_true rfl)⟩, hts (.static yX4_isWithin) (by decide +kernel), trivial⟩ (K_pre0 hN hK) rfl rfl hl.1 rfl (lv_room (Nat.le_of_ble_eq_true rfl)) dX3_addThing_36 ⟨Nat.zero_le _, Nat.zero_le _⟩) hP hS hA (fun r7 _ H locs hw7 hP hS => ?_)
        rcases hw7 with ⟨rfl, hw7⟩ | ⟨rfl, hw7⟩
        · skip
          refine lv_if_ne (tgt := 45) hx hb dX3_addThing_39 (by decide) (fun _ => ?_) (fun c8 => absurd c8 (by decide))
          refine lv_aload_n hx hb dX3_addThing_45 rfl (lv_at hl 0 rfl) ?_
          refine va_get (D := D) (ci := 3) (v := .int (nI nt)) (C := RX3) (T := TX3) (N := 13) hx hb hts inX3_addThing hown hK hP 0 rfl rfl 8 (by decide) fl62 (fun _ h9 => h9) rfl dX3_addThing_46 ?_
          refine lv_bipush (v := 20) hx hb dX3_addThing_49 (by decide) ?_
          refine lv_icmp_lt (tgt := 57) hx hb dX3_addThing_51 (by decide) (fun c9 => ?_) (fun c9 => ?_)
          · have c9 : nt < 20 := (nI_ltI (a := nt) (b := 20) (by omega) (by omega)).mp c9
            have c9 : ¬ nt = 20 := by omega
            refine lv_aload_n hx hb dX3_addThing_57 rfl (lv_at hl 0 rfl) ?_
            refine va_get (D := D) (ci := 3) (v := .ref (a3 3)) (C := RX3) (T := TX3) (N := 13) hx hb hts inX3_addThing hown hK hP 0 rfl rfl 4 (by decide) fl21 (fun _ h9 => h9) rfl dX3_addThing_58 ?_
            refine lv_aload_n hx hb dX3_addThing_61 rfl (lv_at hl 0 rfl) ?_
            refine va_get (D := D) (ci := 3) (v := .int (nI nt)) (C := RX3) (T := TX3) (N := 13) hx hb hts inX3_addThing hown hK hP 0 rfl rfl 8 (by decide) fl62 (fun _ h9 => h9) rfl dX3_addThing_62 ?_
            refine lv_iload_n hx hb dX3_addThing_65 rfl (lv_at hl 1 rfl) ?_
            refine K_iast hx hb hK hP hD hS 4 0 rfl rfl nt (by omega) (Nat.le_of_ble_eq_true rfl) dX3_addThing_66 (fun H locs hP hD hS => ?_)
            have hP : va_P D vwCl (wX3 cI cZ cG h3 a3 (nI nr) (nI nt) (nI nc) rd rr rs (upd so nt p0) tr si gr ct cd cs) H := hP
            have hD : va_D A (wX3 cI cZ cG h3 a3 (nI nr) (nI nt) (nI nc) rd rr rs (upd so nt p0) tr si gr ct cd cs) := hD
            refine lv_aload_n hx hb dX3_addThing_67 rfl (lv_at hl 0 rfl) ?_
            refine va_get (D := D) (ci := 3) (v := .ref (a3 4)) (C := RX3) (T := TX3) (N := 13) hx hb hts inX3_addThing hown hK hP 0 rfl rfl 5 (by decide) fl24 (fun _ h9 => h9) rfl dX3_addThing_68 ?_
            refine lv_aload_n hx hb dX3_addThing_71 rfl (lv_at hl 0 rfl) ?_
            refine va_get (D := D) (ci := 3) (v := .int (nI nt)) (C := RX3) (T := TX3) (N := 13) hx hb hts inX3_addThing hown hK hP 0 rfl rfl 8 (by decide) fl62 (fun _ h9 => h9) rfl dX3_addThing_72 ?_
            refine lv_iload_n hx hb dX3_addThing_75 rfl (lv_at hl 2 rfl) ?_
            refine K_iast hx hb hK hP hD hS 5 0 rfl rfl nt (by omega) (Nat.le_of_ble_eq_true rfl) dX3_addThing_76 (fun H locs hP hD hS => ?_)
            have hP : va_P D vwCl (wX3 cI cZ cG h3 a3 (nI nr) (nI nt) (nI nc) rd rr rs (upd so nt p0) (upd tr nt q) si gr ct cd cs) H := hP
            have hD : va_D A (wX3 cI cZ cG h3 a3 (nI nr) (nI nt) (nI nc) rd rr rs (upd so nt p0) (upd tr nt q) si gr ct cd cs) := hD
            refine lv_aload_n hx hb dX3_addThing_77 rfl (lv_at hl 0 rfl) ?_
            refine va_get (D := D) (ci := 3) (v := .ref (a3 5)) (C := RX3) (T := TX3) (N := 13) hx hb hts inX3_addThing hown hK hP 0 rfl rfl 6 (by decide) fl27 (fun _ h9 => h9) rfl dX3_addThing_78 ?_
            refine lv_aload_n hx hb dX3_addThing_81 rfl (lv_at hl 0 rfl) ?_
            refine va_get (D := D) (ci := 3) (v := .int (nI nt)) (C := RX3) (T := TX3) (N := 13) hx hb hts inX3_addThing hown hK hP 0 rfl rfl 8 (by decide) fl62 (fun _ h9 => h9) rfl dX3_addThing_82 ?_
            refine lv_iload_n hx hb dX3_addThing_85 rfl (lv_at hl 3 rfl) ?_
            refine K_iast hx hb hK hP hD hS 6 0 rfl rfl nt (by omega) (Nat.le_of_ble_eq_true rfl) dX3_addThing_86 (fun H locs hP hD hS => ?_)
            have hP : va_P D vwCl (wX3 cI cZ cG h3 a3 (nI nr) (nI nt) (nI nc) rd rr rs (upd so nt p0) (upd tr nt q) (upd si nt v) gr ct cd cs) H := hP
            have hD : va_D A (wX3 cI cZ cG h3 a3 (nI nr) (nI nt) (nI nc) rd rr rs (upd so nt p0) (upd tr nt q) (upd si nt v) gr ct cd cs) := hD
            refine lv_aload_n hx hb dX3_addThing_87 rfl (lv_at hl 0 rfl) ?_
            refine va_get (D := D) (ci := 3) (v := .ref (a3 6)) (C := RX3) (T := TX3) (N := 13) hx hb hts inX3_addThing hown hK hP 0 rfl rfl 7 (by decide) fl30 (fun _ h9 => h9) rfl dX3_addThing_88 ?_
            refine lv_aload_n hx hb dX3_addThing_91 rfl (lv_at hl 0 rfl) ?_
            refine va_get (D := D) (ci := 3) (v := .int (nI nt)) (C := RX3) (T := TX3) (N := 13) hx hb hts inX3_addThing hown hK hP 0 rfl rfl 8 (by decide) fl62 (fun _ h9 => h9) rfl dX3_addThing_92 ?_
            refine lv_iload_n hx hb dX3_addThing_95 rfl (lv_at hl 1 rfl) ?_
            refine lv_iconst (v := 1) hx hb dX3_addThing_96 (by decide) ?_
            refine lv_icmp_ne (tgt := 105) hx hb dX3_addThing_97 (by decide) (fun c10 => ?_) (fun c10 => ?_)
            · refine lv_iconst (v := 0) hx hb dX3_addThing_105 (by decide) ?_
              refine K_iast hx hb hK hP hD hS 7 0 rfl rfl nt (by omega) (Nat.le_of_ble_eq_true rfl) dX3_addThing_106 (fun H locs hP hD hS => ?_)
              have hP : va_P D vwCl (wX3 cI cZ cG h3 a3 (nI nr) (nI nt) (nI nc) rd rr rs (upd so nt p0) (upd tr nt q) (upd si nt v) (upd gr nt 0) ct cd cs) H := hP
              have hD : va_D A (wX3 cI cZ cG h3 a3 (nI nr) (nI nt) (nI nc) rd rr rs (upd so nt p0) (upd tr nt q) (upd si nt v) (upd gr nt 0) ct cd cs) := hD
              refine lv_aload_n hx hb dX3_addThing_107 rfl (lv_at hl 0 rfl) ?_
              refine lv_dup hx hb dX3_addThing_108 rfl ?_
              refine va_get (D := D) (ci := 3) (v := .int (nI nt)) (C := RX3) (T := TX3) (N := 13) hx hb hts inX3_addThing hown hK hP 0 rfl rfl 8 (by decide) fl62 (fun _ h9 => h9) rfl dX3_addThing_109 ?_
              refine lv_iconst (v := 1) hx hb dX3_addThing_112 (by decide) ?_
              refine lv_iadd hx hb dX3_addThing_113 ?_
              refine lv_topi (fun z11 ez11 => ?_)
              obtain rfl : z11 = nI (nt + 1) := ez11.trans (nI_add nt 1)
              refine va_put (D := D) (ci := 3) (v := .int (nI (nt + 1))) (ty := .int) (C := RX3) (T := TX3) (N := 13) hx hb hts inX3_addThing tyX3 tyX3_ok nmX3 hown hK hP hD hS 0 rfl rfl 8 (by decide) fl62 (fun _ h9 => h9) rfl (by decide +kernel) rfl rfl (Nat.le_of_ble_eq_true rfl) dX3_addThing_114 (fun H locs hP hD hS => ?_)
              have hP : va_P D vwCl (wX3 cI cZ cG h3 a3 (nI nr) (nI (nt + 1)) (nI nc) rd rr rs (upd so nt p0) (upd tr nt q) (upd si nt v) (upd gr nt 0) ct cd cs) H := hP
              have hD : va_D A (wX3 cI cZ cG h3 a3 (nI nr) (nI (nt + 1)) (nI nc) rd rr rs (upd so nt p0) (upd tr nt q) (upd si nt v) (upd gr nt 0) ct cd cs) := hD
              refine lv_aload_n hx hb dX3_addThing_117 rfl (lv_at hl 0 rfl) ?_
              refine va_get (D := D) (ci := 3) (v := .int (nI (nt + 1))) (C := RX3) (T := TX3) (N := 13) hx hb hts inX3_addThing hown hK hP 0 rfl rfl 8 (by decide) fl62 (fun _ h9 => h9) rfl dX3_addThing_118 ?_
              refine lv_iconst (v := 1) hx hb dX3_addThing_121 (by decide) ?_
              refine lv_isub hx hb dX3_addThing_122 ?_
              refine lv_topi (fun z12 ez12 => ?_)
              obtain rfl : z12 = nI nt := ez12.trans (nI_pred nt)
              exact K_iret (wf := (fun (u : Nat × (Nat → Int32) × (Nat → Int32) × (Nat → Int32) × (Nat → Int32)) => wX3 cI cZ cG h3 a3 (nI nr) (nI u.1) (nI nc) rd rr rs u.2.1 u.2.2.1 u.2.2.2.1 u.2.2.2.2 ct cd cs)) (nt + 1, upd so nt p0, upd tr nt q, upd si nt v, upd gr nt 0) hx hb hr hlocks hP hK hD hS dX3_addThing_123 (by simp [rThing, okThing, hw1, hw3, hw5, hw7, c9, c10])
            · refine lv_iload hx hb dX3_addThing_100 (lv_at hl 4 rfl) ?_
              refine lv_goto (tgt := 106) hx hb dX3_addThing_102 (by decide) ?_
              refine K_iast hx hb hK hP hD hS 7 0 rfl rfl nt (by omega) (Nat.le_of_ble_eq_true rfl) dX3_addThing_106 (fun H locs hP hD hS => ?_)
              have hP : va_P D vwCl (wX3 cI cZ cG h3 a3 (nI nr) (nI nt) (nI nc) rd rr rs (upd so nt p0) (upd tr nt q) (upd si nt v) (upd gr nt g) ct cd cs) H := hP
              have hD : va_D A (wX3 cI cZ cG h3 a3 (nI nr) (nI nt) (nI nc) rd rr rs (upd so nt p0) (upd tr nt q) (upd si nt v) (upd gr nt g) ct cd cs) := hD
              refine lv_aload_n hx hb dX3_addThing_107 rfl (lv_at hl 0 rfl) ?_
              refine lv_dup hx hb dX3_addThing_108 rfl ?_
              refine va_get (D := D) (ci := 3) (v := .int (nI nt)) (C := RX3) (T := TX3) (N := 13) hx hb hts inX3_addThing hown hK hP 0 rfl rfl 8 (by decide) fl62 (fun _ h9 => h9) rfl dX3_addThing_109 ?_
              refine lv_iconst (v := 1) hx hb dX3_addThing_112 (by decide) ?_
              refine lv_iadd hx hb dX3_addThing_113 ?_
              refine lv_topi (fun z13 ez13 => ?_)
              obtain rfl : z13 = nI (nt + 1) := ez13.trans (nI_add nt 1)
              refine va_put (D := D) (ci := 3) (v := .int (nI (nt + 1))) (ty := .int) (C := RX3) (T := TX3) (N := 13) hx hb hts inX3_addThing tyX3 tyX3_ok nmX3 hown hK hP hD hS 0 rfl rfl 8 (by decide) fl62 (fun _ h9 => h9) rfl (by decide +kernel) rfl rfl (Nat.le_of_ble_eq_true rfl) dX3_addThing_114 (fun H locs hP hD hS => ?_)
              have hP : va_P D vwCl (wX3 cI cZ cG h3 a3 (nI nr) (nI (nt + 1)) (nI nc) rd rr rs (upd so nt p0) (upd tr nt q) (upd si nt v) (upd gr nt g) ct cd cs) H := hP
              have hD : va_D A (wX3 cI cZ cG h3 a3 (nI nr) (nI (nt + 1)) (nI nc) rd rr rs (upd so nt p0) (upd tr nt q) (upd si nt v) (upd gr nt g) ct cd cs) := hD
              refine lv_aload_n hx hb dX3_addThing_117 rfl (lv_at hl 0 rfl) ?_
              refine va_get (D := D) (ci := 3) (v := .int (nI (nt + 1))) (C := RX3) (T := TX3) (N := 13) hx hb hts inX3_addThing hown hK hP 0 rfl rfl 8 (by decide) fl62 (fun _ h9 => h9) rfl dX3_addThing_118 ?_
              refine lv_iconst (v := 1) hx hb dX3_addThing_121 (by decide) ?_
              refine lv_isub hx hb dX3_addThing_122 ?_
              refine lv_topi (fun z14 ez14 => ?_)
              obtain rfl : z14 = nI nt := ez14.trans (nI_pred nt)
              exact K_iret (wf := (fun (u : Nat × (Nat → Int32) × (Nat → Int32) × (Nat → Int32) × (Nat → Int32)) => wX3 cI cZ cG h3 a3 (nI nr) (nI u.1) (nI nc) rd rr rs u.2.1 u.2.2.1 u.2.2.2.1 u.2.2.2.2 ct cd cs)) (nt + 1, upd so nt p0, upd tr nt q, upd si nt v, upd gr nt g) hx hb hr hlocks hP hK hD hS dX3_addThing_123 (by simp [rThing, okThing, hw1, hw3, hw5, hw7, c9, eq_true c10])
          · have c9 : ¬ nt < 20 := fun hq => c9 ((nI_ltI (a := nt) (b := 20) (by omega) (by omega)).mpr hq)
            have c9 : nt = 20 := by omega
            refine lv_bipush (v := (-4)) hx hb dX3_addThing_54 (by decide) ?_
            exact K_iret (wf := (fun (u : Nat × (Nat → Int32) × (Nat → Int32) × (Nat → Int32) × (Nat → Int32)) => wX3 cI cZ cG h3 a3 (nI nr) (nI u.1) (nI nc) rd rr rs u.2.1 u.2.2.1 u.2.2.2.1 u.2.2.2.2 ct cd cs)) (nt, so, tr, si, gr) hx hb hr hlocks hP hK hD hS dX3_addThing_56 (by simp [rThing, okThing, hw1, hw3, hw5, hw7, eq_true c9])
        · skip
          refine lv_if_ne (tgt := 45) hx hb dX3_addThing_39 (by decide) (fun c15 => absurd c15 (by decide)) (fun _ => ?_)
          refine lv_bipush (v := (-2)) hx hb dX3_addThing_42 (by decide) ?_
          exact K_iret (wf := (fun (u : Nat × (Nat → Int32) × (Nat → Int32) × (Nat → Int32) × (Nat → Int32)) => wX3 cI cZ cG h3 a3 (nI nr) (nI u.1) (nI nc) rd rr rs u.2.1 u.2.2.1 u.2.2.2.1 u.2.2.2.2 ct cd cs)) (nt, so, tr, si, gr) hx hb hr hlocks hP hK hD hS dX3_addThing_44 (by simp [rThing, okThing, hw1, hw3, hw5, hw7])
      · skip
        refine lv_if_eq (tgt := 42) hx hb dX3_addThing_28 (by decide) (fun _ => ?_) (fun c16 => absurd c16 (by decide))
        refine lv_bipush (v := (-2)) hx hb dX3_addThing_42 (by decide) ?_
        exact K_iret (wf := (fun (u : Nat × (Nat → Int32) × (Nat → Int32) × (Nat → Int32) × (Nat → Int32)) => wX3 cI cZ cG h3 a3 (nI nr) (nI u.1) (nI nc) rd rr rs u.2.1 u.2.2.1 u.2.2.2.1 u.2.2.2.2 ct cd cs)) (nt, so, tr, si, gr) hx hb hr hlocks hP hK hD hS dX3_addThing_44 (by simp [rThing, okThing, hw1, hw3, hw5])
    · skip
      refine lv_if_eq (tgt := 42) hx hb dX3_addThing_17 (by decide) (fun _ => ?_) (fun c17 => absurd c17 (by decide))
      refine lv_bipush (v := (-2)) hx hb dX3_addThing_42 (by decide) ?_
      exact K_iret (wf := (fun (u : Nat × (Nat → Int32) × (Nat → Int32) × (Nat → Int32) × (Nat → Int32)) => wX3 cI cZ cG h3 a3 (nI nr) (nI u.1) (nI nc) rd rr rs u.2.1 u.2.2.1 u.2.2.2.1 u.2.2.2.2 ct cd cs)) (nt, so, tr, si, gr) hx hb hr hlocks hP hK hD hS dX3_addThing_44 (by simp [rThing, okThing, hw1, hw3])
  · skip
    refine lv_if_eq (tgt := 42) hx hb dX3_addThing_6 (by decide) (fun _ => ?_) (fun c18 => absurd c18 (by decide))
    refine lv_bipush (v := (-2)) hx hb dX3_addThing_42 (by decide) ?_
    exact K_iret (wf := (fun (u : Nat × (Nat → Int32) × (Nat → Int32) × (Nat → Int32) × (Nat → Int32)) => wX3 cI cZ cG h3 a3 (nI nr) (nI u.1) (nI nc) rd rr rs u.2.1 u.2.2.1 u.2.2.2.1 u.2.2.2.2 ct cd cs)) (nt, so, tr, si, gr) hx hb hr hlocks hP hK hD hS dX3_addThing_44 (by simp [rThing, okThing, hw1])
theorem inX3_clipTree : ∀ w ∈ wsX30, w ∈ wsX3_clipTree := by decide +kernel
set_option maxHeartbeats 8000000 in
set_option maxRecDepth 100000 in
/-- clipTree -/
theorem c_X3_clipTree (l : Launch) (D : va_G) (cI cZ cG : ClassId) (h3 : Nat) (a3 : Nat → Nat) (sz : Nat) (nr : Nat) (nt : Nat) (nc : Nat) (rd : Nat → Int32) (rr : Nat → Int32) (rs : Nat → Int32) (so : Nat → Int32) (tr : Nat → Int32) (si : Nat → Int32) (gr : Nat → Int32) (ct : Nat → Int32) (cd : Nat → Int32) (cs : Nat → Int32) (x : Int32) (d : Int32) (v : Int32) (hnr : nr ≤ 6) (hnt : nt ≤ 20) (hnc : nc ≤ 60) : Met l yX3_clipTree wsX3_clipTree ({ frames := 2, cells := 0, slots := 0, locals := 48 } : Room) (va_Pc [.ref h3, .int x, .int d, .int v] (PB D (tyL cI cZ cG) (wX3 cI cZ cG h3 a3 (nI nr) (nI nt) (nI nc) rd rr rs so tr si gr ct cd cs) sz)) (va_Qi (fun (r : Int32) (u : Nat × (Nat → Int32) × (Nat → Int32) × (Nat → Int32)) => r = rClip nt nc so ct cd cs si gr x d v ∧ u = if okClip nt nc so ct cd x d v = true then (nc + 1, upd ct nc x, upd cd nc d, upd cs nc v) else (nc, ct, cd, cs)) (fun u => QB D (tyL cI cZ cG) (va_A (wX3 cI cZ cG h3 a3 (nI nr) (nI nt) (nI nc) rd rr rs so tr si gr ct cd cs) sz) ((fun (u : Nat × (Nat → Int32) × (Nat → Int32) × (Nat → Int32)) => wX3 cI cZ cG h3 a3 (nI nr) (nI nt) (nI u.1) rd rr rs so tr si gr u.2.1 u.2.2.1 u.2.2.2) u)) (va_A (wX3 cI cZ cG h3 a3 (nI nr) (nI nt) (nI nc) rd rr rs so tr si gr ct cd cs) sz)) 0 0 (va_A (wX3 cI cZ cG h3 a3 (nI nr) (nI nt) (nI nc) rd rr rs so tr si gr ct cd cs) sz) := by
  refine K_start (cc := cX3_clipTree) (maxL := 6) (ret := some .int) (Qc := fun A => va_Qi (fun (r : Int32) (u : Nat × (Nat → Int32) × (Nat → Int32) × (Nat → Int32)) => r = rClip nt nc so ct cd cs si gr x d v ∧ u = if okClip nt nc so ct cd x d v = true then (nc + 1, upd ct nc x, upd cd nc d, upd cs nc v) else (nc, ct, cd, cs)) (fun u => QB D (tyL cI cZ cG) A ((fun (u : Nat × (Nat → Int32) × (Nat → Int32) × (Nat → Int32)) => wX3 cI cZ cG h3 a3 (nI nr) (nI nt) (nI u.1) rd rr rs so tr si gr u.2.1 u.2.2.1 u.2.2.2) u)) A) (by decide) rfl (Nat.le_of_ble_eq_true rfl) ?_
  intro p e s m below meth c ls A hx hb hml hr hts hown hlocks hin hN hP hK hD hA hS hl hsz
  have hl : lv_has ls 6 [(0, .ref h3), (1, .int x), (2, .int d), (3, .int v)] := hl
  have fl21 := hts (.fieldLink RX3 21 "ModelTown$Scale" "sorts" "[I") (by decide +kernel)
  have fl68 := hts (.fieldLink RX3 68 "ModelTown$Scale" "clippings" "I") (by decide +kernel)
  have fl33 := hts (.fieldLink RX3 33 "ModelTown$Scale" "clipThing" "[I") (by decide +kernel)
  have fl36 := hts (.fieldLink RX3 36 "ModelTown$Scale" "clipDay" "[I") (by decide +kernel)
  have fl39 := hts (.fieldLink RX3 39 "ModelTown$Scale" "clipSize" "[I") (by decide +kernel)
  refine lv_aload_n hx hb dX3_clipTree_0 rfl (lv_at hl 0 rfl) ?_
  refine lv_iload_n hx hb dX3_clipTree_1 rfl (lv_at hl 1 rfl) ?_
  refine K_same (va_runV (As := [.int x]) (rest := []) ⟨hx, hb, hml, hown, hts⟩ (c_X3_isThing l D cI cZ cG h3 a3 _ nr nt nc rd rr rs so tr si gr ct cd cs x hnr hnt hnc) (cwV 1 hts gX3_clipTree_X3_isThing rfl rfl rfl (by decide +kernel) ⟨(Nat.le_of_ble_eq_true rfl), (Nat.le_of_ble_eq_true rfl)⟩) ⟨PB_blind, va_recv hK hP (ci := 3) (q0 := 0) rfl rfl, (K_preS hN hK hP hD).2⟩ rfl rfl hl.1 rfl (lv_room (Nat.le_of_ble_eq_true rfl)) dX3_clipTree_2 ⟨Nat.zero_le _, Nat.zero_le _⟩) hD hS hA (fun r1 u H locs hw1 hP hD hS => ?_)
  have hP : va_P D vwCl (wX3 cI cZ cG h3 a3 (nI nr) (nI nt) (nI nc) rd rr rs so tr si gr ct cd cs) H := hP
  have hD : va_D A (wX3 cI cZ cG h3 a3 (nI nr) (nI nt) (nI nc) rd rr rs so tr si gr ct cd cs) := hD
  rcases hw1 with ⟨rfl, hw1⟩ | ⟨rfl, hw1⟩
  · obtain ⟨t, ht, rfl⟩ := inR_lt (by omega) hw1
    have hct : (nI t).toNatClampNeg = t := nI_clamp (by omega)
    refine lv_if_ne (tgt := 10) hx hb dX3_clipTree_5 (by decide) (fun _ => ?_) (fun c2 => absurd c2 (by decide))
    refine lv_iload_n hx hb dX3_clipTree_10 rfl (lv_at hl 2 rfl) ?_
    refine K_none (va_runSN (As := [.int d]) (rest := []) ⟨hx, hb, hml, hown, hts⟩ (c_X4_isDay l D cI cZ cG _ d) ⟨va_cnB (host := "ModelTown") 1 hts gX3_clipTree_X4_isDay_n42 rfl rfl rfl hN.2.2.2.2.2.2.1 (hts (.initialized RX4) (by decide +kernel)) (by decide +kernel) ⟨(Nat.le_of_ble_eq_true rfl), (Nat.le_of_ble_eq_true rfl)⟩, hts (.static yX4_isDay) (by decide +kernel), trivial⟩ (K_pre0 hN hK) rfl rfl hl.1 rfl (lv_room (Nat.le_of_ble_eq_true rfl)) dX3_clipTree_11 ⟨Nat.zero_le _, Nat.zero_le _⟩) hP hS hA (fun r3 _ H locs hw3 hP hS => ?_)
    rcases hw3 with ⟨rfl, hw3⟩ | ⟨rfl, hw3⟩
    · skip
      refine lv_if_eq (tgt := 28) hx hb dX3_clipTree_14 (by decide) (fun c4 => absurd c4 (by decide)) (fun _ => ?_)
      refine lv_iload_n hx hb dX3_clipTree_17 rfl (lv_at hl 3 rfl) ?_
      refine lv_iconst (v := 1) hx hb dX3_clipTree_18 (by decide) ?_
      refine lv_sipush (v := 9000) hx hb dX3_clipTree_19 (by decide) ?_
      refine K_none (va_runSN (As := [.int v, .int 1, .int 9000]) (rest := []) ⟨hx, hb, hml, hown, hts⟩ (c_X4_isWithin l D cI cZ cG _ v 1 9000) ⟨va_cnB (host := "ModelTown") 3 hts gX3_clipTree_X4_isWithin_n46 rfl rfl rfl hN.2.2.2.2.2.2.2.1 (hts (.initialized RX4) (by decide +kernel)) (by decide +kernel) ⟨(Nat.le_of_ble_eq_true rfl), (Nat.le_of_ble_eq_true rfl)⟩, hts (.static yX4_isWithin) (by decide +kernel), trivial⟩ (K_pre0 hN hK) rfl rfl hl.1 rfl (lv_room (Nat.le_of_ble_eq_true rfl)) dX3_clipTree_22 ⟨Nat.zero_le _, Nat.zero_le _⟩) hP hS hA (fun r5 _ H locs hw5 hP hS => ?_)
      rcases hw5 with ⟨rfl, hw5⟩ | ⟨rfl, hw5⟩
      · skip
        refine lv_if_ne (tgt := 31) hx hb dX3_clipTree_25 (by decide) (fun _ => ?_) (fun c6 => absurd c6 (by decide))
        refine lv_aload_n hx hb dX3_clipTree_31 rfl (lv_at hl 0 rfl) ?_
        refine va_get (D := D) (ci := 3) (v := .ref (a3 3)) (C := RX3) (T := TX3) (N := 13) hx hb hts inX3_clipTree hown hK hP 0 rfl rfl 4 (by decide) fl21 (fun _ h9 => h9) rfl dX3_clipTree_32 ?_
        refine lv_iload_n hx hb dX3_clipTree_35 rfl (lv_at hl 1 rfl) ?_
        refine K_iald hx hb hK hP 4 0 rfl rfl t (by omega) (Nat.le_of_ble_eq_true rfl) dX3_clipTree_36 ?_
        refine lv_iconst (v := 1) hx hb dX3_clipTree_37 (by decide) ?_
        refine lv_icmp_eq (tgt := 44) hx hb dX3_clipTree_38 (by decide) (fun c7 => ?_) (fun c7 => ?_)
        · refine lv_aload_n hx hb dX3_clipTree_44 rfl (lv_at hl 0 rfl) ?_
          refine va_get (D := D) (ci := 3) (v := .int (nI nc)) (C := RX3) (T := TX3) (N := 13) hx hb hts inX3_clipTree hown hK hP 0 rfl rfl 12 (by decide) fl68 (fun _ h9 => h9) rfl dX3_clipTree_45 ?_
          refine lv_bipush (v := 60) hx hb dX3_clipTree_48 (by decide) ?_
          refine lv_icmp_lt (tgt := 56) hx hb dX3_clipTree_50 (by decide) (fun c8 => ?_) (fun c8 => ?_)
          · have c8 : nc < 60 := (nI_ltI (a := nc) (b := 60) (by omega) (by omega)).mp c8
            have c8 : ¬ nc = 60 := by omega
            refine lv_aload_n hx hb dX3_clipTree_56 rfl (lv_at hl 0 rfl) ?_
            refine lv_iload_n hx hb dX3_clipTree_57 rfl (lv_at hl 1 rfl) ?_
            refine lv_sipush (v := 3000) hx hb dX3_clipTree_58 (by decide) ?_
            refine K_same (va_runV (As := [.int (nI t), .int 3000]) (rest := []) ⟨hx, hb, hml, hown, hts⟩ (c_X3_clippingOn l D cI cZ cG h3 a3 _ nr nt nc rd rr rs so tr si gr ct cd cs (nI t) 3000 hnr hnt hnc) (cwV 2 hts gX3_clipTree_X3_clippingOn rfl rfl rfl (by decide +kernel) ⟨(Nat.le_of_ble_eq_true rfl), (Nat.le_of_ble_eq_true rfl)⟩) ⟨PB_blind, va_recv hK hP (ci := 3) (q0 := 0) rfl rfl, (K_preS hN hK hP hD).2⟩ rfl rfl hl.1 rfl (lv_room (Nat.le_of_ble_eq_true rfl)) dX3_clipTree_61 ⟨Nat.zero_le _, Nat.zero_le _⟩) hD hS hA (fun r9 u H locs hw9 hP hD hS => ?_)
            have hP : va_P D vwCl (wX3 cI cZ cG h3 a3 (nI nr) (nI nt) (nI nc) rd rr rs so tr si gr ct cd cs) H := hP
            have hD : va_D A (wX3 cI cZ cG h3 a3 (nI nr) (nI nt) (nI nc) rd rr rs so tr si gr ct cd cs) := hD
            rcases ho9 : lC ct cd (nI t) 3000 nc with _ | b9
            · rw [ho9] at hw9
              obtain rfl : r9 = -6 := hw9
              refine lv_istore (lv' := [(4, .int (-6)), (0, .ref h3), (1, .int (nI t)), (2, .int d), (3, .int v)]) hx hb dX3_clipTree_64 hl (by decide) rfl (fun ls hl => ?_)
              refine lv_iload hx hb dX3_clipTree_66 (lv_at hl 0 rfl) ?_
              refine lv_bipush (v := (-6)) hx hb dX3_clipTree_68 (by decide) ?_
              refine lv_icmp_eq (tgt := 87) hx hb dX3_clipTree_70 (by decide) (fun _ => ?_) (fun c10 => absurd c10 (by decide))
              refine lv_aload_n hx hb dX3_clipTree_87 rfl (lv_at hl 1 rfl) ?_
              refine lv_iload_n hx hb dX3_clipTree_88 rfl (lv_at hl 2 rfl) ?_
              refine lv_iload_n hx hb dX3_clipTree_89 rfl (lv_at hl 3 rfl) ?_
              refine K_same (va_runV (As := [.int (nI t), .int d]) (rest := []) ⟨hx, hb, hml, hown, hts⟩ (c_X3_sizeOn l D cI cZ cG h3 a3 _ nr nt nc rd rr rs so tr si gr ct cd cs t d hnr hnt hnc (by omega)) (cwV 2 hts gX3_clipTree_X3_sizeOn rfl rfl rfl (by decide +kernel) ⟨(Nat.le_of_ble_eq_true rfl), (Nat.le_of_ble_eq_true rfl)⟩) ⟨PB_blind, va_recv hK hP (ci := 3) (q0 := 0) rfl rfl, (K_preS hN hK hP hD).2⟩ rfl rfl hl.1 rfl (lv_room (Nat.le_of_ble_eq_true rfl)) dX3_clipTree_90 ⟨Nat.zero_le _, Nat.zero_le _⟩) hD hS hA (fun r11 u H locs hw11 hP hD hS => ?_)
              have hP : va_P D vwCl (wX3 cI cZ cG h3 a3 (nI nr) (nI nt) (nI nc) rd rr rs so tr si gr ct cd cs) H := hP
              have hD : va_D A (wX3 cI cZ cG h3 a3 (nI nr) (nI nt) (nI nc) rd rr rs so tr si gr ct cd cs) := hD
              obtain rfl := hw11
              refine lv_istore (lv' := [(5, .int (szA nc ct cd cs si gr t d)), (4, .int (-6)), (0, .ref h3), (1, .int (nI t)), (2, .int d), (3, .int v)]) hx hb dX3_clipTree_93 hl (by decide) rfl (fun ls hl => ?_)
              refine lv_aload_n hx hb dX3_clipTree_95 rfl (lv_at hl 2 rfl) ?_
              refine va_get (D := D) (ci := 3) (v := .ref (a3 7)) (C := RX3) (T := TX3) (N := 13) hx hb hts inX3_clipTree hown hK hP 0 rfl rfl 9 (by decide) fl33 (fun _ h9 => h9) rfl dX3_clipTree_96 ?_
              refine lv_aload_n hx hb dX3_clipTree_99 rfl (lv_at hl 2 rfl) ?_
              refine va_get (D := D) (ci := 3) (v := .int (nI nc)) (C := RX3) (T := TX3) (N := 13) hx hb hts inX3_clipTree hown hK hP 0 rfl rfl 12 (by decide) fl68 (fun _ h9 => h9) rfl dX3_clipTree_100 ?_
              refine lv_iload_n hx hb dX3_clipTree_103 rfl (lv_at hl 3 rfl) ?_
              refine K_iast hx hb hK hP hD hS 8 0 rfl rfl nc (by omega) (Nat.le_of_ble_eq_true rfl) dX3_clipTree_104 (fun H locs hP hD hS => ?_)
              have hP : va_P D vwCl (wX3 cI cZ cG h3 a3 (nI nr) (nI nt) (nI nc) rd rr rs so tr si gr (upd ct nc (nI t)) cd cs) H := hP
              have hD : va_D A (wX3 cI cZ cG h3 a3 (nI nr) (nI nt) (nI nc) rd rr rs so tr si gr (upd ct nc (nI t)) cd cs) := hD
              refine lv_aload_n hx hb dX3_clipTree_105 rfl (lv_at hl 2 rfl) ?_
              refine va_get (D := D) (ci := 3) (v := .ref (a3 8)) (C := RX3) (T := TX3) (N := 13) hx hb hts inX3_clipTree hown hK hP 0 rfl rfl 10 (by decide) fl36 (fun _ h9 => h9) rfl dX3_clipTree_106 ?_
              refine lv_aload_n hx hb dX3_clipTree_109 rfl (lv_at hl 2 rfl) ?_
              refine va_get (D := D) (ci := 3) (v := .int (nI nc)) (C := RX3) (T := TX3) (N := 13) hx hb hts inX3_clipTree hown hK hP 0 rfl rfl 12 (by decide) fl68 (fun _ h9 => h9) rfl dX3_clipTree_110 ?_
              refine lv_iload_n hx hb dX3_clipTree_113 rfl (lv_at hl 4 rfl) ?_
              refine K_iast hx hb hK hP hD hS 9 0 rfl rfl nc (by omega) (Nat.le_of_ble_eq_true rfl) dX3_clipTree_114 (fun H locs hP hD hS => ?_)
              have hP : va_P D vwCl (wX3 cI cZ cG h3 a3 (nI nr) (nI nt) (nI nc) rd rr rs so tr si gr (upd ct nc (nI t)) (upd cd nc d) cs) H := hP
              have hD : va_D A (wX3 cI cZ cG h3 a3 (nI nr) (nI nt) (nI nc) rd rr rs so tr si gr (upd ct nc (nI t)) (upd cd nc d) cs) := hD
              refine lv_aload_n hx hb dX3_clipTree_115 rfl (lv_at hl 2 rfl) ?_
              refine va_get (D := D) (ci := 3) (v := .ref (a3 9)) (C := RX3) (T := TX3) (N := 13) hx hb hts inX3_clipTree hown hK hP 0 rfl rfl 11 (by decide) fl39 (fun _ h9 => h9) rfl dX3_clipTree_116 ?_
              refine lv_aload_n hx hb dX3_clipTree_119 rfl (lv_at hl 2 rfl) ?_
              refine va_get (D := D) (ci := 3) (v := .int (nI nc)) (C := RX3) (T := TX3) (N := 13) hx hb hts inX3_clipTree hown hK hP 0 rfl rfl 12 (by decide) fl68 (fun _ h9 => h9) rfl dX3_clipTree_120 ?_
              refine lv_iload_n hx hb dX3_clipTree_123 rfl (lv_at hl 5 rfl) ?_
              refine K_iast hx hb hK hP hD hS 10 0 rfl rfl nc (by omega) (Nat.le_of_ble_eq_true rfl) dX3_clipTree_124 (fun H locs hP hD hS => ?_)
              have hP : va_P D vwCl (wX3 cI cZ cG h3 a3 (nI nr) (nI nt) (nI nc) rd rr rs so tr si gr (upd ct nc (nI t)) (upd cd nc d) (upd cs nc v)) H := hP
              have hD : va_D A (wX3 cI cZ cG h3 a3 (nI nr) (nI nt) (nI nc) rd rr rs so tr si gr (upd ct nc (nI t)) (upd cd nc d) (upd cs nc v)) := hD
              refine lv_aload_n hx hb dX3_clipTree_125 rfl (lv_at hl 2 rfl) ?_
              refine lv_dup hx hb dX3_clipTree_126 rfl ?_
              refine va_get (D := D) (ci := 3) (v := .int (nI nc)) (C := RX3) (T := TX3) (N := 13) hx hb hts inX3_clipTree hown hK hP 0 rfl rfl 12 (by decide) fl68 (fun _ h9 => h9) rfl dX3_clipTree_127 ?_
              refine lv_iconst (v := 1) hx hb dX3_clipTree_130 (by decide) ?_
              refine lv_iadd hx hb dX3_clipTree_131 ?_
              refine lv_topi (fun z12 ez12 => ?_)
              obtain rfl : z12 = nI (nc + 1) := ez12.trans (nI_add nc 1)
              refine va_put (D := D) (ci := 3) (v := .int (nI (nc + 1))) (ty := .int) (C := RX3) (T := TX3) (N := 13) hx hb hts inX3_clipTree tyX3 tyX3_ok nmX3 hown hK hP hD hS 0 rfl rfl 12 (by decide) fl68 (fun _ h9 => h9) rfl (by decide +kernel) rfl rfl (Nat.le_of_ble_eq_true rfl) dX3_clipTree_132 (fun H locs hP hD hS => ?_)
              have hP : va_P D vwCl (wX3 cI cZ cG h3 a3 (nI nr) (nI nt) (nI (nc + 1)) rd rr rs so tr si gr (upd ct nc (nI t)) (upd cd nc d) (upd cs nc v)) H := hP
              have hD : va_D A (wX3 cI cZ cG h3 a3 (nI nr) (nI nt) (nI (nc + 1)) rd rr rs so tr si gr (upd ct nc (nI t)) (upd cd nc d) (upd cs nc v)) := hD
              refine lv_iload hx hb dX3_clipTree_135 (lv_at hl 0 rfl) ?_
              exact K_iret (wf := (fun (u : Nat × (Nat → Int32) × (Nat → Int32) × (Nat → Int32)) => wX3 cI cZ cG h3 a3 (nI nr) (nI nt) (nI u.1) rd rr rs so tr si gr u.2.1 u.2.2.1 u.2.2.2)) (nc + 1, upd ct nc (nI t), upd cd nc d, upd cs nc v) hx hb hr hlocks hP hK hD hS dX3_clipTree_137 (by simp [rClip, okClip, lateC, hw1, hct, hw3, hw5, eq_true c7, c8, ho9])
            · rw [ho9] at hw9
              obtain rfl : r9 = nI b9 := hw9
              have hbb := lC_lt ho9
              refine lv_istore (lv' := [(4, .int (nI b9)), (0, .ref h3), (1, .int (nI t)), (2, .int d), (3, .int v)]) hx hb dX3_clipTree_64 hl (by decide) rfl (fun ls hl => ?_)
              refine lv_iload hx hb dX3_clipTree_66 (lv_at hl 0 rfl) ?_
              refine lv_bipush (v := (-6)) hx hb dX3_clipTree_68 (by decide) ?_
              refine lv_icmp_eq (tgt := 87) hx hb dX3_clipTree_70 (by decide) (fun c13 => absurd c13 (nI_neN (by omega) (by decide))) (fun c13 => ?_)
              refine lv_iload_n hx hb dX3_clipTree_73 rfl (lv_at hl 3 rfl) ?_
              refine lv_aload_n hx hb dX3_clipTree_74 rfl (lv_at hl 1 rfl) ?_
              refine va_get (D := D) (ci := 3) (v := .ref (a3 8)) (C := RX3) (T := TX3) (N := 13) hx hb hts inX3_clipTree hown hK hP 0 rfl rfl 10 (by decide) fl36 (fun _ h9 => h9) rfl dX3_clipTree_75 ?_
              refine lv_iload hx hb dX3_clipTree_78 (lv_at hl 0 rfl) ?_
              refine K_iald hx hb hK hP 9 0 rfl rfl b9 (by omega) (Nat.le_of_ble_eq_true rfl) dX3_clipTree_80 ?_
              refine lv_icmp_ge (tgt := 87) hx hb dX3_clipTree_81 (by decide) (fun c14 => ?_) (fun c14 => ?_)
              · refine lv_aload_n hx hb dX3_clipTree_87 rfl (lv_at hl 1 rfl) ?_
                refine lv_iload_n hx hb dX3_clipTree_88 rfl (lv_at hl 2 rfl) ?_
                refine lv_iload_n hx hb dX3_clipTree_89 rfl (lv_at hl 3 rfl) ?_
                refine K_same (va_runV (As := [.int (nI t), .int d]) (rest := []) ⟨hx, hb, hml, hown, hts⟩ (c_X3_sizeOn l D cI cZ cG h3 a3 _ nr nt nc rd rr rs so tr si gr ct cd cs t d hnr hnt hnc (by omega)) (cwV 2 hts gX3_clipTree_X3_sizeOn rfl rfl rfl (by decide +kernel) ⟨(Nat.le_of_ble_eq_true rfl), (Nat.le_of_ble_eq_true rfl)⟩) ⟨PB_blind, va_recv hK hP (ci := 3) (q0 := 0) rfl rfl, (K_preS hN hK hP hD).2⟩ rfl rfl hl.1 rfl (lv_room (Nat.le_of_ble_eq_true rfl)) dX3_clipTree_90 ⟨Nat.zero_le _, Nat.zero_le _⟩) hD hS hA (fun r15 u H locs hw15 hP hD hS => ?_)
                have hP : va_P D vwCl (wX3 cI cZ cG h3 a3 (nI nr) (nI nt) (nI nc) rd rr rs so tr si gr ct cd cs) H := hP
                have hD : va_D A (wX3 cI cZ cG h3 a3 (nI nr) (nI nt) (nI nc) rd rr rs so tr si gr ct cd cs) := hD
                obtain rfl := hw15
                refine lv_istore (lv' := [(5, .int (szA nc ct cd cs si gr t d)), (4, .int (nI b9)), (0, .ref h3), (1, .int (nI t)), (2, .int d), (3, .int v)]) hx hb dX3_clipTree_93 hl (by decide) rfl (fun ls hl => ?_)
                refine lv_aload_n hx hb dX3_clipTree_95 rfl (lv_at hl 2 rfl) ?_
                refine va_get (D := D) (ci := 3) (v := .ref (a3 7)) (C := RX3) (T := TX3) (N := 13) hx hb hts inX3_clipTree hown hK hP 0 rfl rfl 9 (by decide) fl33 (fun _ h9 => h9) rfl dX3_clipTree_96 ?_
                refine lv_aload_n hx hb dX3_clipTree_99 rfl (lv_at hl 2 rfl) ?_
                refine va_get (D := D) (ci := 3) (v := .int (nI nc)) (C := RX3) (T := TX3) (N := 13) hx hb hts inX3_clipTree hown hK hP 0 rfl rfl 12 (by decide) fl68 (fun _ h9 => h9) rfl dX3_clipTree_100 ?_
                refine lv_iload_n hx hb dX3_clipTree_103 rfl (lv_at hl 3 rfl) ?_
                refine K_iast hx hb hK hP hD hS 8 0 rfl rfl nc (by omega) (Nat.le_of_ble_eq_true rfl) dX3_clipTree_104 (fun H locs hP hD hS => ?_)
                have hP : va_P D vwCl (wX3 cI cZ cG h3 a3 (nI nr) (nI nt) (nI nc) rd rr rs so tr si gr (upd ct nc (nI t)) cd cs) H := hP
                have hD : va_D A (wX3 cI cZ cG h3 a3 (nI nr) (nI nt) (nI nc) rd rr rs so tr si gr (upd ct nc (nI t)) cd cs) := hD
                refine lv_aload_n hx hb dX3_clipTree_105 rfl (lv_at hl 2 rfl) ?_
                refine va_get (D := D) (ci := 3) (v := .ref (a3 8)) (C := RX3) (T := TX3) (N := 13) hx hb hts inX3_clipTree hown hK hP 0 rfl rfl 10 (by decide) fl36 (fun _ h9 => h9) rfl dX3_clipTree_106 ?_
                refine lv_aload_n hx hb dX3_clipTree_109 rfl (lv_at hl 2 rfl) ?_
                refine va_get (D := D) (ci := 3) (v := .int (nI nc)) (C := RX3) (T := TX3) (N := 13) hx hb hts inX3_clipTree hown hK hP 0 rfl rfl 12 (by decide) fl68 (fun _ h9 => h9) rfl dX3_clipTree_110 ?_
                refine lv_iload_n hx hb dX3_clipTree_113 rfl (lv_at hl 4 rfl) ?_
                refine K_iast hx hb hK hP hD hS 9 0 rfl rfl nc (by omega) (Nat.le_of_ble_eq_true rfl) dX3_clipTree_114 (fun H locs hP hD hS => ?_)
                have hP : va_P D vwCl (wX3 cI cZ cG h3 a3 (nI nr) (nI nt) (nI nc) rd rr rs so tr si gr (upd ct nc (nI t)) (upd cd nc d) cs) H := hP
                have hD : va_D A (wX3 cI cZ cG h3 a3 (nI nr) (nI nt) (nI nc) rd rr rs so tr si gr (upd ct nc (nI t)) (upd cd nc d) cs) := hD
                refine lv_aload_n hx hb dX3_clipTree_115 rfl (lv_at hl 2 rfl) ?_
                refine va_get (D := D) (ci := 3) (v := .ref (a3 9)) (C := RX3) (T := TX3) (N := 13) hx hb hts inX3_clipTree hown hK hP 0 rfl rfl 11 (by decide) fl39 (fun _ h9 => h9) rfl dX3_clipTree_116 ?_
                refine lv_aload_n hx hb dX3_clipTree_119 rfl (lv_at hl 2 rfl) ?_
                refine va_get (D := D) (ci := 3) (v := .int (nI nc)) (C := RX3) (T := TX3) (N := 13) hx hb hts inX3_clipTree hown hK hP 0 rfl rfl 12 (by decide) fl68 (fun _ h9 => h9) rfl dX3_clipTree_120 ?_
                refine lv_iload_n hx hb dX3_clipTree_123 rfl (lv_at hl 5 rfl) ?_
                refine K_iast hx hb hK hP hD hS 10 0 rfl rfl nc (by omega) (Nat.le_of_ble_eq_true rfl) dX3_clipTree_124 (fun H locs hP hD hS => ?_)
                have hP : va_P D vwCl (wX3 cI cZ cG h3 a3 (nI nr) (nI nt) (nI nc) rd rr rs so tr si gr (upd ct nc (nI t)) (upd cd nc d) (upd cs nc v)) H := hP
                have hD : va_D A (wX3 cI cZ cG h3 a3 (nI nr) (nI nt) (nI nc) rd rr rs so tr si gr (upd ct nc (nI t)) (upd cd nc d) (upd cs nc v)) := hD
                refine lv_aload_n hx hb dX3_clipTree_125 rfl (lv_at hl 2 rfl) ?_
                refine lv_dup hx hb dX3_clipTree_126 rfl ?_
                refine va_get (D := D) (ci := 3) (v := .int (nI nc)) (C := RX3) (T := TX3) (N := 13) hx hb hts inX3_clipTree hown hK hP 0 rfl rfl 12 (by decide) fl68 (fun _ h9 => h9) rfl dX3_clipTree_127 ?_
                refine lv_iconst (v := 1) hx hb dX3_clipTree_130 (by decide) ?_
                refine lv_iadd hx hb dX3_clipTree_131 ?_
                refine lv_topi (fun z16 ez16 => ?_)
                obtain rfl : z16 = nI (nc + 1) := ez16.trans (nI_add nc 1)
                refine va_put (D := D) (ci := 3) (v := .int (nI (nc + 1))) (ty := .int) (C := RX3) (T := TX3) (N := 13) hx hb hts inX3_clipTree tyX3 tyX3_ok nmX3 hown hK hP hD hS 0 rfl rfl 12 (by decide) fl68 (fun _ h9 => h9) rfl (by decide +kernel) rfl rfl (Nat.le_of_ble_eq_true rfl) dX3_clipTree_132 (fun H locs hP hD hS => ?_)
                have hP : va_P D vwCl (wX3 cI cZ cG h3 a3 (nI nr) (nI nt) (nI (nc + 1)) rd rr rs so tr si gr (upd ct nc (nI t)) (upd cd nc d) (upd cs nc v)) H := hP
                have hD : va_D A (wX3 cI cZ cG h3 a3 (nI nr) (nI nt) (nI (nc + 1)) rd rr rs so tr si gr (upd ct nc (nI t)) (upd cd nc d) (upd cs nc v)) := hD
                refine lv_iload hx hb dX3_clipTree_135 (lv_at hl 0 rfl) ?_
                exact K_iret (wf := (fun (u : Nat × (Nat → Int32) × (Nat → Int32) × (Nat → Int32)) => wX3 cI cZ cG h3 a3 (nI nr) (nI nt) (nI u.1) rd rr rs so tr si gr u.2.1 u.2.2.1 u.2.2.2)) (nc + 1, upd ct nc (nI t), upd cd nc d, upd cs nc v) hx hb hr hlocks hP hK hD hS dX3_clipTree_137 (by simp [rClip, okClip, lateC, hw1, hct, hw3, hw5, eq_true c7, c8, ho9, c14])
              · refine lv_bipush (v := (-5)) hx hb dX3_clipTree_84 (by decide) ?_
                exact K_iret (wf := (fun (u : Nat × (Nat → Int32) × (Nat → Int32) × (Nat → Int32)) => wX3 cI cZ cG h3 a3 (nI nr) (nI nt) (nI u.1) rd rr rs so tr si gr u.2.1 u.2.2.1 u.2.2.2)) (nc, ct, cd, cs) hx hb hr hlocks hP hK hD hS dX3_clipTree_86 (by simp [rClip, okClip, lateC, hw1, hct, hw3, hw5, eq_true c7, c8, ho9, c14])
          · have c8 : ¬ nc < 60 := fun hq => c8 ((nI_ltI (a := nc) (b := 60) (by omega) (by omega)).mpr hq)
            have c8 : nc = 60 := by omega
            refine lv_bipush (v := (-4)) hx hb dX3_clipTree_53 (by decide) ?_
            exact K_iret (wf := (fun (u : Nat × (Nat → Int32) × (Nat → Int32) × (Nat → Int32)) => wX3 cI cZ cG h3 a3 (nI nr) (nI nt) (nI u.1) rd rr rs so tr si gr u.2.1 u.2.2.1 u.2.2.2)) (nc, ct, cd, cs) hx hb hr hlocks hP hK hD hS dX3_clipTree_55 (by simp [rClip, okClip, lateC, hw1, hct, hw3, hw5, eq_true c7, eq_true c8])
        · refine lv_bipush (v := (-3)) hx hb dX3_clipTree_41 (by decide) ?_
          exact K_iret (wf := (fun (u : Nat × (Nat → Int32) × (Nat → Int32) × (Nat → Int32)) => wX3 cI cZ cG h3 a3 (nI nr) (nI nt) (nI u.1) rd rr rs so tr si gr u.2.1 u.2.2.1 u.2.2.2)) (nc, ct, cd, cs) hx hb hr hlocks hP hK hD hS dX3_clipTree_43 (by simp [rClip, okClip, lateC, hw1, hct, hw3, hw5, c7])
      · skip
        refine lv_if_ne (tgt := 31) hx hb dX3_clipTree_25 (by decide) (fun c17 => absurd c17 (by decide)) (fun _ => ?_)
        refine lv_bipush (v := (-2)) hx hb dX3_clipTree_28 (by decide) ?_
        exact K_iret (wf := (fun (u : Nat × (Nat → Int32) × (Nat → Int32) × (Nat → Int32)) => wX3 cI cZ cG h3 a3 (nI nr) (nI nt) (nI u.1) rd rr rs so tr si gr u.2.1 u.2.2.1 u.2.2.2)) (nc, ct, cd, cs) hx hb hr hlocks hP hK hD hS dX3_clipTree_30 (by simp [rClip, okClip, lateC, hw1, hct, hw3, hw5])
    · skip
      refine lv_if_eq (tgt := 28) hx hb dX3_clipTree_14 (by decide) (fun _ => ?_) (fun c18 => absurd c18 (by decide))
      refine lv_bipush (v := (-2)) hx hb dX3_clipTree_28 (by decide) ?_
      exact K_iret (wf := (fun (u : Nat × (Nat → Int32) × (Nat → Int32) × (Nat → Int32)) => wX3 cI cZ cG h3 a3 (nI nr) (nI nt) (nI u.1) rd rr rs so tr si gr u.2.1 u.2.2.1 u.2.2.2)) (nc, ct, cd, cs) hx hb hr hlocks hP hK hD hS dX3_clipTree_30 (by simp [rClip, okClip, lateC, hw1, hct, hw3])
  · skip
    refine lv_if_ne (tgt := 10) hx hb dX3_clipTree_5 (by decide) (fun c19 => absurd c19 (by decide)) (fun _ => ?_)
    refine lv_iconst (v := (-1)) hx hb dX3_clipTree_8 (by decide) ?_
    exact K_iret (wf := (fun (u : Nat × (Nat → Int32) × (Nat → Int32) × (Nat → Int32)) => wX3 cI cZ cG h3 a3 (nI nr) (nI nt) (nI u.1) rd rr rs so tr si gr u.2.1 u.2.2.1 u.2.2.2)) (nc, ct, cd, cs) hx hb hr hlocks hP hK hD hS dX3_clipTree_9 (by simp [rClip, okClip, lateC, hw1])

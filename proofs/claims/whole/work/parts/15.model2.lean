theorem inX5_placeBy : ∀ w ∈ wsX50, w ∈ wsX5_placeBy := by decide +kernel
set_option maxHeartbeats 8000000 in
set_option maxRecDepth 100000 in
/-- placeBy -/
theorem c_X5_placeBy (l : Launch) (D : va_G) (cI cZ cG : ClassId) (h5 : Nat) (a5 : Nat → Nat) (sz : Nat) (nr : Nat) (nt : Nat) (nc : Nat) (nw : Nat) (hd : Int32) (wk : Nat) (ng : Nat) (nT : Nat) (mi : Int32) (nf : Nat) (nn : Nat) (mru : Nat → Int32) (mth : Nat → Int32) (mcl : Nat → Int32) (mfa : Nat → Int32) (mwa : Nat → Int32) (mfz : Nat → Int32) (mbl : Nat → Int32) (mbk : Nat → Int32) (mtr : Nat → Int32) (mno : Nat → Int32) (mlo : Nat → Int32) (mip : Nat → Int32) (mto : Nat → Int32) (f : Int32) (d : Int32) (n : Nat) (as : Int32) (hnr : nr ≤ 6) (hnt : nt ≤ 20) (hnc : nc ≤ 60) (hnw : nw ≤ 24) (hwk : wk ≤ 200) (hng : ng ≤ 3) (hnT : nT ≤ 4) (hnf : nf ≤ 12) (hnn : nn ≤ 60) (hn60 : n ≤ 60) : Met l yX5_placeBy wsX5_placeBy ({ frames := 0, cells := 0, slots := 0, locals := 0 } : Room) (va_Pc [.ref h5, .int f, .int d, .int (nI n), .int as] (PB D (tyL cI cZ cG) (wX5 cI cZ cG h5 a5 (nI nr) (nI nt) (nI nc) (nI nw) hd (nI wk) (nI ng) (nI nT) mi (nI nf) (nI nn) mru mth mcl mfa mwa mfz mbl mbk mtr mno mlo mip mto) sz)) (va_Qi (fun (r : Int32) (_ : Unit) => r = plM mno f d as n) (fun u => QB D (tyL cI cZ cG) (va_A (wX5 cI cZ cG h5 a5 (nI nr) (nI nt) (nI nc) (nI nw) hd (nI wk) (nI ng) (nI nT) mi (nI nf) (nI nn) mru mth mcl mfa mwa mfz mbl mbk mtr mno mlo mip mto) sz) ((fun (_ : Unit) => wX5 cI cZ cG h5 a5 (nI nr) (nI nt) (nI nc) (nI nw) hd (nI wk) (nI ng) (nI nT) mi (nI nf) (nI nn) mru mth mcl mfa mwa mfz mbl mbk mtr mno mlo mip mto) u)) (va_A (wX5 cI cZ cG h5 a5 (nI nr) (nI nt) (nI nc) (nI nw) hd (nI wk) (nI ng) (nI nT) mi (nI nf) (nI nn) mru mth mcl mfa mwa mfz mbl mbk mtr mno mlo mip mto) sz)) 0 0 (va_A (wX5 cI cZ cG h5 a5 (nI nr) (nI nt) (nI nc) (nI nw) hd (nI wk) (nI ng) (nI nT) mi (nI nf) (nI nn) mru mth mcl mfa mwa mfz mbl mbk mtr mno mlo mip mto) sz) := by
  refine K_start (cc := cX5_placeBy) (maxL := 8) (ret := some .int) (Qc := fun A => va_Qi (fun (r : Int32) (_ : Unit) => r = plM mno f d as n) (fun u => QB D (tyL cI cZ cG) A ((fun (_ : Unit) => wX5 cI cZ cG h5 a5 (nI nr) (nI nt) (nI nc) (nI nw) hd (nI wk) (nI ng) (nI nT) mi (nI nf) (nI nn) mru mth mcl mfa mwa mfz mbl mbk mtr mno mlo mip mto) u)) A) (by decide) rfl (Nat.le_of_ble_eq_true rfl) ?_
  intro p e s m below meth c ls A hx hb hml hr hts hown hlocks hin hN hP hK hD hA hS hl hsz
  have hl : lv_has ls 8 [(0, .ref h5), (1, .int f), (2, .int d), (3, .int (nI n)), (4, .int as)] := hl
  have fl42 := hts (.fieldLink RX5 42 "ModelTownModel" "note" "[I") (by decide +kernel)
  refine lv_bipush (v := (-6)) hx hb dX5_placeBy_0 (by decide) ?_
  refine lv_istore (lv' := [(5, .int (-6)), (0, .ref h5), (1, .int f), (2, .int d), (3, .int (nI n)), (4, .int as)]) hx hb dX5_placeBy_2 hl (by decide) rfl (fun ls hl => ?_)
  refine lv_iconst (v := 0) hx hb dX5_placeBy_4 (by decide) ?_
  refine lv_istore (lv' := [(6, .int 0), (5, .int (-6)), (0, .ref h5), (1, .int f), (2, .int d), (3, .int (nI n)), (4, .int as)]) hx hb dX5_placeBy_5 hl (by decide) rfl (fun ls hl => ?_)
  refine loopW2 (fun (k : Nat) (o : Option Nat) H locs ls => (k ≤ n) ∧ (o = pO (col 4 0 mno) (col 4 1 mno) (col 4 2 mno) f d as k) ∧ va_P D vwCl (wX5 cI cZ cG h5 a5 (nI nr) (nI nt) (nI nc) (nI nw) hd (nI wk) (nI ng) (nI nT) mi (nI nf) (nI nn) mru mth mcl mfa mwa mfz mbl mbk mtr mno mlo mip mto) H ∧ va_D A (wX5 cI cZ cG h5 a5 (nI nr) (nI nt) (nI nc) (nI nw) hd (nI wk) (nI ng) (nI nT) mi (nI nf) (nI nn) mru mth mcl mfa mwa mfz mbl mbk mtr mno mlo mip mto) ∧ va_S A s.heap H locs ∧ lv_has ls 8 [(6, .int (nI k)), (5, .int (oI o)), (0, .ref h5), (1, .int f), (2, .int d), (3, .int (nI n)), (4, .int as)]) (fun (k : Nat) (o : Option Nat) => n - k) (fun k o H locs ls hI ih7 => ?_) 0 none _ _ _ ⟨(by omega), rfl, hP, hD, hS, lv_sub hl [0, 1, 2, 3, 4, 5, 6] rfl⟩
  obtain ⟨hk, ho, hP, hD, hS, hl⟩ := hI
  refine lv_iload hx hb dX5_placeBy_7 (lv_at hl 0 rfl) ?_
  refine lv_iload_n hx hb dX5_placeBy_9 rfl (lv_at hl 5 rfl) ?_
  refine lv_icmp_ge (tgt := 114) hx hb dX5_placeBy_10 (by decide) (fun c1 => ?_) (fun c1 => ?_)
  · have c1 : n ≤ k := (nI_leI (a := n) (b := k) (by omega) (by omega)).mp c1
    have ek : k = n := by omega
    rw [ek] at ho
    rcases o with _ | b
    · have hl : lv_has ls 8 [(6, .int (nI k)), (5, .int (-6)), (0, .ref h5), (1, .int f), (2, .int d), (3, .int (nI n)), (4, .int as)] := hl
      refine lv_iload hx hb dX5_placeBy_114 (lv_at hl 1 rfl) ?_
      refine lv_if_ge (tgt := 124) hx hb dX5_placeBy_116 (by decide) (fun c2 => absurd c2 (by decide)) (fun _ => ?_)
      refine lv_bipush (v := (-6)) hx hb dX5_placeBy_119 (by decide) ?_
      refine lv_goto (tgt := 135) hx hb dX5_placeBy_121 (by decide) ?_
      exact K_iret (wf := (fun (_ : Unit) => wX5 cI cZ cG h5 a5 (nI nr) (nI nt) (nI nc) (nI nw) hd (nI wk) (nI ng) (nI nT) mi (nI nf) (nI nn) mru mth mcl mfa mwa mfz mbl mbk mtr mno mlo mip mto)) () hx hb hr hlocks hP hK hD hS dX5_placeBy_135 (by rw [plM, ← ho]; rfl)
    · have hl : lv_has ls 8 [(6, .int (nI k)), (5, .int (nI b)), (0, .ref h5), (1, .int f), (2, .int d), (3, .int (nI n)), (4, .int as)] := hl
      have hbb := pO_lt ho.symm
      refine lv_iload hx hb dX5_placeBy_114 (lv_at hl 1 rfl) ?_
      refine lv_if_ge (tgt := 124) hx hb dX5_placeBy_116 (by decide) (fun c3 => ?_) (fun c3 => absurd (nI_pos' (by omega)) c3)
      refine lv_aload_n hx hb dX5_placeBy_124 rfl (lv_at hl 2 rfl) ?_
      refine va_get (D := D) (ci := 5) (v := .ref (a5 9)) (C := RX5) (T := TX5) (N := 24) hx hb hts inX5_placeBy hown hK hP 0 rfl rfl 20 (by decide) fl42 (fun _ h9 => h9) rfl dX5_placeBy_125 ?_
      refine lv_iconst (v := 4) hx hb dX5_placeBy_128 (by decide) ?_
      refine lv_iload hx hb dX5_placeBy_129 (lv_at hl 1 rfl) ?_
      refine lv_imul hx hb dX5_placeBy_131 ?_
      refine lv_topi (fun z4 ez4 => ?_)
      obtain rfl : z4 = nI (4 * b) := ez4.trans (pk_mul 4 b)
      refine lv_iconst (v := 3) hx hb dX5_placeBy_132 (by decide) ?_
      refine lv_iadd hx hb dX5_placeBy_133 ?_
      refine lv_topi (fun z5 ez5 => ?_)
      obtain rfl : z5 = nI (4 * b + 3) := ez5.trans ((nI_add (4 * b) 3).trans (congrArg nI (by omega)))
      refine K_iald hx hb hK hP 10 0 rfl rfl (4 * b + 3) (by omega) (Nat.le_of_ble_eq_true rfl) dX5_placeBy_134 ?_
      exact K_iret (wf := (fun (_ : Unit) => wX5 cI cZ cG h5 a5 (nI nr) (nI nt) (nI nc) (nI nw) hd (nI wk) (nI ng) (nI nT) mi (nI nf) (nI nn) mru mth mcl mfa mwa mfz mbl mbk mtr mno mlo mip mto)) () hx hb hr hlocks hP hK hD hS dX5_placeBy_135 (by rw [plM, ← ho]; rfl)
  · have c1 : ¬ n ≤ k := fun hq => c1 ((nI_leI (a := n) (b := k) (by omega) (by omega)).mpr hq)
    refine lv_aload_n hx hb dX5_placeBy_13 rfl (lv_at hl 2 rfl) ?_
    refine va_get (D := D) (ci := 5) (v := .ref (a5 9)) (C := RX5) (T := TX5) (N := 24) hx hb hts inX5_placeBy hown hK hP 0 rfl rfl 20 (by decide) fl42 (fun _ h9 => h9) rfl dX5_placeBy_14 ?_
    refine lv_iconst (v := 4) hx hb dX5_placeBy_17 (by decide) ?_
    refine lv_iload hx hb dX5_placeBy_18 (lv_at hl 0 rfl) ?_
    refine lv_imul hx hb dX5_placeBy_20 ?_
    refine lv_topi (fun z6 ez6 => ?_)
    obtain rfl : z6 = nI (4 * k) := ez6.trans (pk_mul 4 k)
    refine K_iald hx hb hK hP 10 0 rfl rfl (4 * k) (by omega) (Nat.le_of_ble_eq_true rfl) dX5_placeBy_21 ?_
    refine lv_iload_n hx hb dX5_placeBy_22 rfl (lv_at hl 3 rfl) ?_
    refine lv_icmp_ne (tgt := 61) hx hb dX5_placeBy_23 (by decide) (fun c7 => ?_) (fun c7 => ?_)
    · refine lv_iconst (v := 0) hx hb dX5_placeBy_61 (by decide) ?_
      refine lv_istore (lv' := [(7, .int 0), (6, .int (nI k)), (5, .int (oI o)), (0, .ref h5), (1, .int f), (2, .int d), (3, .int (nI n)), (4, .int as)]) hx hb dX5_placeBy_62 hl (by decide) rfl (fun ls hl => ?_)
      refine lv_iload hx hb dX5_placeBy_64 (lv_at hl 0 rfl) ?_
      refine lv_if_eq (tgt := 104) hx hb dX5_placeBy_66 (by decide) (fun _ => ?_) (fun c8 => absurd c8 (by decide))
      refine lv_iload hx hb dX5_placeBy_104 (lv_at hl 2 rfl) ?_
      refine lv_istore (lv' := [(5, .int (oI o)), (7, .int 0), (6, .int (nI k)), (0, .ref h5), (1, .int f), (2, .int d), (3, .int (nI n)), (4, .int as)]) hx hb dX5_placeBy_106 hl (by decide) rfl (fun ls hl => ?_)
      refine lv_iinc (v := nI (k + 1)) (lv' := [(6, .int (nI (k + 1))), (5, .int (oI o)), (7, .int 0), (0, .ref h5), (1, .int f), (2, .int d), (3, .int (nI n)), (4, .int as)]) hx hb dX5_placeBy_108 hl (k := 2) rfl (inc1 _) (by decide) rfl (fun ls hl => ?_)
      refine lv_goto (tgt := 7) hx hb dX5_placeBy_111 (by decide) ?_
      exact ih7 (k + 1) o _ _ _ ⟨(by omega), (by simp [pO, ← ho, col, pvO, c1, c7]), hP, hD, hS, lv_sub hl [0, 1, 3, 4, 5, 6, 7] rfl⟩ (by omega)
    · refine lv_aload_n hx hb dX5_placeBy_26 rfl (lv_at hl 2 rfl) ?_
      refine va_get (D := D) (ci := 5) (v := .ref (a5 9)) (C := RX5) (T := TX5) (N := 24) hx hb hts inX5_placeBy hown hK hP 0 rfl rfl 20 (by decide) fl42 (fun _ h9 => h9) rfl dX5_placeBy_27 ?_
      refine lv_iconst (v := 4) hx hb dX5_placeBy_30 (by decide) ?_
      refine lv_iload hx hb dX5_placeBy_31 (lv_at hl 0 rfl) ?_
      refine lv_imul hx hb dX5_placeBy_33 ?_
      refine lv_topi (fun z9 ez9 => ?_)
      obtain rfl : z9 = nI (4 * k) := ez9.trans (pk_mul 4 k)
      refine lv_iconst (v := 1) hx hb dX5_placeBy_34 (by decide) ?_
      refine lv_iadd hx hb dX5_placeBy_35 ?_
      refine lv_topi (fun z10 ez10 => ?_)
      obtain rfl : z10 = nI (4 * k + 1) := ez10.trans ((nI_add (4 * k) 1).trans (congrArg nI (by omega)))
      refine K_iald hx hb hK hP 10 0 rfl rfl (4 * k + 1) (by omega) (Nat.le_of_ble_eq_true rfl) dX5_placeBy_36 ?_
      refine lv_iload_n hx hb dX5_placeBy_37 rfl (lv_at hl 4 rfl) ?_
      refine lv_icmp_gt (tgt := 61) hx hb dX5_placeBy_38 (by decide) (fun c11 => ?_) (fun c11 => ?_)
      · replace c11 := Int32.not_le.mpr c11
        refine lv_iconst (v := 0) hx hb dX5_placeBy_61 (by decide) ?_
        refine lv_istore (lv' := [(7, .int 0), (6, .int (nI k)), (5, .int (oI o)), (0, .ref h5), (1, .int f), (2, .int d), (3, .int (nI n)), (4, .int as)]) hx hb dX5_placeBy_62 hl (by decide) rfl (fun ls hl => ?_)
        refine lv_iload hx hb dX5_placeBy_64 (lv_at hl 0 rfl) ?_
        refine lv_if_eq (tgt := 104) hx hb dX5_placeBy_66 (by decide) (fun _ => ?_) (fun c12 => absurd c12 (by decide))
        refine lv_iload hx hb dX5_placeBy_104 (lv_at hl 2 rfl) ?_
        refine lv_istore (lv' := [(5, .int (oI o)), (7, .int 0), (6, .int (nI k)), (0, .ref h5), (1, .int f), (2, .int d), (3, .int (nI n)), (4, .int as)]) hx hb dX5_placeBy_106 hl (by decide) rfl (fun ls hl => ?_)
        refine lv_iinc (v := nI (k + 1)) (lv' := [(6, .int (nI (k + 1))), (5, .int (oI o)), (7, .int 0), (0, .ref h5), (1, .int f), (2, .int d), (3, .int (nI n)), (4, .int as)]) hx hb dX5_placeBy_108 hl (k := 2) rfl (inc1 _) (by decide) rfl (fun ls hl => ?_)
        refine lv_goto (tgt := 7) hx hb dX5_placeBy_111 (by decide) ?_
        exact ih7 (k + 1) o _ _ _ ⟨(by omega), (by simp [pO, ← ho, col, pvO, c1, eq_true c7, c11]), hP, hD, hS, lv_sub hl [0, 1, 3, 4, 5, 6, 7] rfl⟩ (by omega)
      · replace c11 := Int32.not_lt.mp c11
        refine lv_aload_n hx hb dX5_placeBy_41 rfl (lv_at hl 2 rfl) ?_
        refine va_get (D := D) (ci := 5) (v := .ref (a5 9)) (C := RX5) (T := TX5) (N := 24) hx hb hts inX5_placeBy hown hK hP 0 rfl rfl 20 (by decide) fl42 (fun _ h9 => h9) rfl dX5_placeBy_42 ?_
        refine lv_iconst (v := 4) hx hb dX5_placeBy_45 (by decide) ?_
        refine lv_iload hx hb dX5_placeBy_46 (lv_at hl 0 rfl) ?_
        refine lv_imul hx hb dX5_placeBy_48 ?_
        refine lv_topi (fun z13 ez13 => ?_)
        obtain rfl : z13 = nI (4 * k) := ez13.trans (pk_mul 4 k)
        refine lv_iconst (v := 2) hx hb dX5_placeBy_49 (by decide) ?_
        refine lv_iadd hx hb dX5_placeBy_50 ?_
        refine lv_topi (fun z14 ez14 => ?_)
        obtain rfl : z14 = nI (4 * k + 2) := ez14.trans ((nI_add (4 * k) 2).trans (congrArg nI (by omega)))
        refine K_iald hx hb hK hP 10 0 rfl rfl (4 * k + 2) (by omega) (Nat.le_of_ble_eq_true rfl) dX5_placeBy_51 ?_
        refine lv_iload hx hb dX5_placeBy_52 (lv_at hl 6 rfl) ?_
        refine lv_icmp_gt (tgt := 61) hx hb dX5_placeBy_54 (by decide) (fun c15 => ?_) (fun c15 => ?_)
        · replace c15 := Int32.not_le.mpr c15
          refine lv_iconst (v := 0) hx hb dX5_placeBy_61 (by decide) ?_
          refine lv_istore (lv' := [(7, .int 0), (6, .int (nI k)), (5, .int (oI o)), (0, .ref h5), (1, .int f), (2, .int d), (3, .int (nI n)), (4, .int as)]) hx hb dX5_placeBy_62 hl (by decide) rfl (fun ls hl => ?_)
          refine lv_iload hx hb dX5_placeBy_64 (lv_at hl 0 rfl) ?_
          refine lv_if_eq (tgt := 104) hx hb dX5_placeBy_66 (by decide) (fun _ => ?_) (fun c16 => absurd c16 (by decide))
          refine lv_iload hx hb dX5_placeBy_104 (lv_at hl 2 rfl) ?_
          refine lv_istore (lv' := [(5, .int (oI o)), (7, .int 0), (6, .int (nI k)), (0, .ref h5), (1, .int f), (2, .int d), (3, .int (nI n)), (4, .int as)]) hx hb dX5_placeBy_106 hl (by decide) rfl (fun ls hl => ?_)
          refine lv_iinc (v := nI (k + 1)) (lv' := [(6, .int (nI (k + 1))), (5, .int (oI o)), (7, .int 0), (0, .ref h5), (1, .int f), (2, .int d), (3, .int (nI n)), (4, .int as)]) hx hb dX5_placeBy_108 hl (k := 2) rfl (inc1 _) (by decide) rfl (fun ls hl => ?_)
          refine lv_goto (tgt := 7) hx hb dX5_placeBy_111 (by decide) ?_
          exact ih7 (k + 1) o _ _ _ ⟨(by omega), (by simp [pO, ← ho, col, pvO, c1, eq_true c7, c11, c15]), hP, hD, hS, lv_sub hl [0, 1, 3, 4, 5, 6, 7] rfl⟩ (by omega)
        · replace c15 := Int32.not_lt.mp c15
          refine lv_iconst (v := 1) hx hb dX5_placeBy_57 (by decide) ?_
          refine lv_goto (tgt := 62) hx hb dX5_placeBy_58 (by decide) ?_
          refine lv_istore (lv' := [(7, .int 1), (6, .int (nI k)), (5, .int (oI o)), (0, .ref h5), (1, .int f), (2, .int d), (3, .int (nI n)), (4, .int as)]) hx hb dX5_placeBy_62 hl (by decide) rfl (fun ls hl => ?_)
          refine lv_iload hx hb dX5_placeBy_64 (lv_at hl 0 rfl) ?_
          refine lv_if_eq (tgt := 104) hx hb dX5_placeBy_66 (by decide) (fun c17 => absurd c17 (by decide)) (fun _ => ?_)
          rcases o with _ | b
          · have hl : lv_has ls 8 [(7, .int 1), (6, .int (nI k)), (5, .int (-6)), (0, .ref h5), (1, .int f), (2, .int d), (3, .int (nI n)), (4, .int as)] := hl
            refine lv_iload hx hb dX5_placeBy_69 (lv_at hl 2 rfl) ?_
            refine lv_if_lt (tgt := 99) hx hb dX5_placeBy_71 (by decide) (fun _ => ?_) (fun c18 => absurd c18 (by decide))
            refine lv_iload hx hb dX5_placeBy_99 (lv_at hl 1 rfl) ?_
            refine lv_goto (tgt := 106) hx hb dX5_placeBy_101 (by decide) ?_
            refine lv_istore (lv' := [(5, .int (nI k)), (7, .int 1), (6, .int (nI k)), (0, .ref h5), (1, .int f), (2, .int d), (3, .int (nI n)), (4, .int as)]) hx hb dX5_placeBy_106 hl (by decide) rfl (fun ls hl => ?_)
            refine lv_iinc (v := nI (k + 1)) (lv' := [(6, .int (nI (k + 1))), (5, .int (nI k)), (7, .int 1), (0, .ref h5), (1, .int f), (2, .int d), (3, .int (nI n)), (4, .int as)]) hx hb dX5_placeBy_108 hl (k := 2) rfl (inc1 _) (by decide) rfl (fun ls hl => ?_)
            refine lv_goto (tgt := 7) hx hb dX5_placeBy_111 (by decide) ?_
            exact ih7 (k + 1) (some k) _ _ _ ⟨(by omega), (by simp [pO, ← ho, col, pvO, c1, eq_true c7, c11, c15]), hP, hD, hS, lv_sub hl [0, 1, 3, 4, 5, 6, 7] rfl⟩ (by omega)
          · have hl : lv_has ls 8 [(7, .int 1), (6, .int (nI k)), (5, .int (nI b)), (0, .ref h5), (1, .int f), (2, .int d), (3, .int (nI n)), (4, .int as)] := hl
            have hbb := pO_lt ho.symm
            refine lv_iload hx hb dX5_placeBy_69 (lv_at hl 2 rfl) ?_
            refine lv_if_lt (tgt := 99) hx hb dX5_placeBy_71 (by decide) (fun c19 => absurd c19 (nI_pos (by omega))) (fun c19 => ?_)
            refine lv_aload_n hx hb dX5_placeBy_74 rfl (lv_at hl 3 rfl) ?_
            refine va_get (D := D) (ci := 5) (v := .ref (a5 9)) (C := RX5) (T := TX5) (N := 24) hx hb hts inX5_placeBy hown hK hP 0 rfl rfl 20 (by decide) fl42 (fun _ h9 => h9) rfl dX5_placeBy_75 ?_
            refine lv_iconst (v := 4) hx hb dX5_placeBy_78 (by decide) ?_
            refine lv_iload hx hb dX5_placeBy_79 (lv_at hl 1 rfl) ?_
            refine lv_imul hx hb dX5_placeBy_81 ?_
            refine lv_topi (fun z20 ez20 => ?_)
            obtain rfl : z20 = nI (4 * k) := ez20.trans (pk_mul 4 k)
            refine lv_iconst (v := 1) hx hb dX5_placeBy_82 (by decide) ?_
            refine lv_iadd hx hb dX5_placeBy_83 ?_
            refine lv_topi (fun z21 ez21 => ?_)
            obtain rfl : z21 = nI (4 * k + 1) := ez21.trans ((nI_add (4 * k) 1).trans (congrArg nI (by omega)))
            refine K_iald hx hb hK hP 10 0 rfl rfl (4 * k + 1) (by omega) (Nat.le_of_ble_eq_true rfl) dX5_placeBy_84 ?_
            refine lv_aload_n hx hb dX5_placeBy_85 rfl (lv_at hl 3 rfl) ?_
            refine va_get (D := D) (ci := 5) (v := .ref (a5 9)) (C := RX5) (T := TX5) (N := 24) hx hb hts inX5_placeBy hown hK hP 0 rfl rfl 20 (by decide) fl42 (fun _ h9 => h9) rfl dX5_placeBy_86 ?_
            refine lv_iconst (v := 4) hx hb dX5_placeBy_89 (by decide) ?_
            refine lv_iload hx hb dX5_placeBy_90 (lv_at hl 2 rfl) ?_
            refine lv_imul hx hb dX5_placeBy_92 ?_
            refine lv_topi (fun z22 ez22 => ?_)
            obtain rfl : z22 = nI (4 * b) := ez22.trans (pk_mul 4 b)
            refine lv_iconst (v := 1) hx hb dX5_placeBy_93 (by decide) ?_
            refine lv_iadd hx hb dX5_placeBy_94 ?_
            refine lv_topi (fun z23 ez23 => ?_)
            obtain rfl : z23 = nI (4 * b + 1) := ez23.trans ((nI_add (4 * b) 1).trans (congrArg nI (by omega)))
            refine K_iald hx hb hK hP 10 0 rfl rfl (4 * b + 1) (by omega) (Nat.le_of_ble_eq_true rfl) dX5_placeBy_95 ?_
            refine lv_icmp_lt (tgt := 104) hx hb dX5_placeBy_96 (by decide) (fun c24 => ?_) (fun c24 => ?_)
            · replace c24 := Int32.not_le.mpr c24
              refine lv_iload hx hb dX5_placeBy_104 (lv_at hl 2 rfl) ?_
              refine lv_istore (lv' := [(5, .int (nI b)), (7, .int 1), (6, .int (nI k)), (0, .ref h5), (1, .int f), (2, .int d), (3, .int (nI n)), (4, .int as)]) hx hb dX5_placeBy_106 hl (by decide) rfl (fun ls hl => ?_)
              refine lv_iinc (v := nI (k + 1)) (lv' := [(6, .int (nI (k + 1))), (5, .int (nI b)), (7, .int 1), (0, .ref h5), (1, .int f), (2, .int d), (3, .int (nI n)), (4, .int as)]) hx hb dX5_placeBy_108 hl (k := 2) rfl (inc1 _) (by decide) rfl (fun ls hl => ?_)
              refine lv_goto (tgt := 7) hx hb dX5_placeBy_111 (by decide) ?_
              exact ih7 (k + 1) (some b) _ _ _ ⟨(by omega), (by simp [pO, ← ho, col, pvO, c1, eq_true c7, c11, c15, c24]), hP, hD, hS, lv_sub hl [0, 1, 3, 4, 5, 6, 7] rfl⟩ (by omega)
            · replace c24 := Int32.not_lt.mp c24
              refine lv_iload hx hb dX5_placeBy_99 (lv_at hl 1 rfl) ?_
              refine lv_goto (tgt := 106) hx hb dX5_placeBy_101 (by decide) ?_
              refine lv_istore (lv' := [(5, .int (nI k)), (7, .int 1), (6, .int (nI k)), (0, .ref h5), (1, .int f), (2, .int d), (3, .int (nI n)), (4, .int as)]) hx hb dX5_placeBy_106 hl (by decide) rfl (fun ls hl => ?_)
              refine lv_iinc (v := nI (k + 1)) (lv' := [(6, .int (nI (k + 1))), (5, .int (nI k)), (7, .int 1), (0, .ref h5), (1, .int f), (2, .int d), (3, .int (nI n)), (4, .int as)]) hx hb dX5_placeBy_108 hl (k := 2) rfl (inc1 _) (by decide) rfl (fun ls hl => ?_)
              refine lv_goto (tgt := 7) hx hb dX5_placeBy_111 (by decide) ?_
              exact ih7 (k + 1) (some k) _ _ _ ⟨(by omega), (by simp [pO, ← ho, col, pvO, c1, eq_true c7, c11, c15, c24]), hP, hD, hS, lv_sub hl [0, 1, 3, 4, 5, 6, 7] rfl⟩ (by omega)
theorem inX5_where : ∀ w ∈ wsX50, w ∈ wsX5_where := by decide +kernel
set_option maxHeartbeats 8000000 in
set_option maxRecDepth 100000 in
/-- where -/
theorem c_X5_where (l : Launch) (D : va_G) (cI cZ cG : ClassId) (h5 : Nat) (a5 : Nat → Nat) (sz : Nat) (nr : Nat) (nt : Nat) (nc : Nat) (nw : Nat) (hd : Int32) (wk : Nat) (ng : Nat) (nT : Nat) (mi : Int32) (nf : Nat) (nn : Nat) (mru : Nat → Int32) (mth : Nat → Int32) (mcl : Nat → Int32) (mfa : Nat → Int32) (mwa : Nat → Int32) (mfz : Nat → Int32) (mbl : Nat → Int32) (mbk : Nat → Int32) (mtr : Nat → Int32) (mno : Nat → Int32) (mlo : Nat → Int32) (mip : Nat → Int32) (mto : Nat → Int32) (x : Int32) (d : Int32) (as : Int32) (hnr : nr ≤ 6) (hnt : nt ≤ 20) (hnc : nc ≤ 60) (hnw : nw ≤ 24) (hwk : wk ≤ 200) (hng : ng ≤ 3) (hnT : nT ≤ 4) (hnf : nf ≤ 12) (hnn : nn ≤ 60) : Met l yX5_where wsX5_where ({ frames := 2, cells := 0, slots := 0, locals := 43 } : Room) (va_Pc [.ref h5, .int x, .int d, .int as] (PB D (tyL cI cZ cG) (wX5 cI cZ cG h5 a5 (nI nr) (nI nt) (nI nc) (nI nw) hd (nI wk) (nI ng) (nI nT) mi (nI nf) (nI nn) mru mth mcl mfa mwa mfz mbl mbk mtr mno mlo mip mto) sz)) (va_Qi (fun (r : Int32) (_ : Unit) => r = rWhere nf nn (col 4 0 mno) (col 4 1 mno) (col 4 2 mno) (col 4 3 mno) x d as) (fun u => QB D (tyL cI cZ cG) (va_A (wX5 cI cZ cG h5 a5 (nI nr) (nI nt) (nI nc) (nI nw) hd (nI wk) (nI ng) (nI nT) mi (nI nf) (nI nn) mru mth mcl mfa mwa mfz mbl mbk mtr mno mlo mip mto) sz) ((fun (_ : Unit) => wX5 cI cZ cG h5 a5 (nI nr) (nI nt) (nI nc) (nI nw) hd (nI wk) (nI ng) (nI nT) mi (nI nf) (nI nn) mru mth mcl mfa mwa mfz mbl mbk mtr mno mlo mip mto) u)) (va_A (wX5 cI cZ cG h5 a5 (nI nr) (nI nt) (nI nc) (nI nw) hd (nI wk) (nI ng) (nI nT) mi (nI nf) (nI nn) mru mth mcl mfa mwa mfz mbl mbk mtr mno mlo mip mto) sz)) 0 0 (va_A (wX5 cI cZ cG h5 a5 (nI nr) (nI nt) (nI nc) (nI nw) hd (nI wk) (nI ng) (nI nT) mi (nI nf) (nI nn) mru mth mcl mfa mwa mfz mbl mbk mtr mno mlo mip mto) sz) := by
  refine K_start (cc := cX5_where) (maxL := 4) (ret := some .int) (Qc := fun A => va_Qi (fun (r : Int32) (_ : Unit) => r = rWhere nf nn (col 4 0 mno) (col 4 1 mno) (col 4 2 mno) (col 4 3 mno) x d as) (fun u => QB D (tyL cI cZ cG) A ((fun (_ : Unit) => wX5 cI cZ cG h5 a5 (nI nr) (nI nt) (nI nc) (nI nw) hd (nI wk) (nI ng) (nI nT) mi (nI nf) (nI nn) mru mth mcl mfa mwa mfz mbl mbk mtr mno mlo mip mto) u)) A) (by decide) rfl (Nat.le_of_ble_eq_true rfl) ?_
  intro p e s m below meth c ls A hx hb hml hr hts hown hlocks hin hN hP hK hD hA hS hl hsz
  have hl : lv_has ls 4 [(0, .ref h5), (1, .int x), (2, .int d), (3, .int as)] := hl
  have fl141 := hts (.fieldLink RX5 141 "ModelTownModel" "notes" "I") (by decide +kernel)
  refine lv_aload_n hx hb dX5_where_0 rfl (lv_at hl 0 rfl) ?_
  refine lv_iload_n hx hb dX5_where_1 rfl (lv_at hl 1 rfl) ?_
  refine K_same (va_runV (As := [.int x]) (rest := []) ⟨hx, hb, hml, hown, hts⟩ (c_X5_isFigure l D cI cZ cG h5 a5 _ nr nt nc nw hd wk ng nT mi nf nn mru mth mcl mfa mwa mfz mbl mbk mtr mno mlo mip mto x hnr hnt hnc hnw hwk hng hnT hnf hnn) (cwV 1 hts gX5_where_X5_isFigure rfl rfl rfl (by decide +kernel) ⟨(Nat.le_of_ble_eq_true rfl), (Nat.le_of_ble_eq_true rfl)⟩) ⟨PB_blind, va_recv hK hP (ci := 5) (q0 := 0) rfl rfl, (K_preS hN hK hP hD).2⟩ rfl rfl hl.1 rfl (lv_room (Nat.le_of_ble_eq_true rfl)) dX5_where_2 ⟨Nat.zero_le _, Nat.zero_le _⟩) hD hS hA (fun r1 u H locs hw1 hP hD hS => ?_)
  have hP : va_P D vwCl (wX5 cI cZ cG h5 a5 (nI nr) (nI nt) (nI nc) (nI nw) hd (nI wk) (nI ng) (nI nT) mi (nI nf) (nI nn) mru mth mcl mfa mwa mfz mbl mbk mtr mno mlo mip mto) H := hP
  have hD : va_D A (wX5 cI cZ cG h5 a5 (nI nr) (nI nt) (nI nc) (nI nw) hd (nI wk) (nI ng) (nI nT) mi (nI nf) (nI nn) mru mth mcl mfa mwa mfz mbl mbk mtr mno mlo mip mto) := hD
  rcases hw1 with ⟨rfl, hw1⟩ | ⟨rfl, hw1⟩
  · skip
    refine lv_if_ne (tgt := 11) hx hb dX5_where_5 (by decide) (fun _ => ?_) (fun c2 => absurd c2 (by decide))
    refine lv_iload_n hx hb dX5_where_11 rfl (lv_at hl 2 rfl) ?_
    refine K_none (va_runS (As := [.int d]) (rest := []) ⟨hx, hb, hml, hown, hts⟩ (c_X5_isDay l D cI cZ cG _ d) (va_cwS 1 hts gX5_where_X5_isDay rfl rfl rfl (by decide +kernel) ⟨(Nat.le_of_ble_eq_true rfl), (Nat.le_of_ble_eq_true rfl)⟩) (K_pre0 hN hK) rfl rfl hl.1 rfl (lv_room (Nat.le_of_ble_eq_true rfl)) dX5_where_12 ⟨Nat.zero_le _, Nat.zero_le _⟩) hP hS hA (fun r3 _ H locs hw3 hP hS => ?_)
    rcases hw3 with ⟨rfl, hw3⟩ | ⟨rfl, hw3⟩
    · skip
      refine lv_if_eq (tgt := 39) hx hb dX5_where_15 (by decide) (fun c4 => absurd c4 (by decide)) (fun _ => ?_)
      refine lv_iload_n hx hb dX5_where_18 rfl (lv_at hl 3 rfl) ?_
      refine K_none (va_runS (As := [.int as]) (rest := []) ⟨hx, hb, hml, hown, hts⟩ (c_X5_isDay l D cI cZ cG _ as) (va_cwS 1 hts gX5_where_X5_isDay rfl rfl rfl (by decide +kernel) ⟨(Nat.le_of_ble_eq_true rfl), (Nat.le_of_ble_eq_true rfl)⟩) (K_pre0 hN hK) rfl rfl hl.1 rfl (lv_room (Nat.le_of_ble_eq_true rfl)) dX5_where_19 ⟨Nat.zero_le _, Nat.zero_le _⟩) hP hS hA (fun r5 _ H locs hw5 hP hS => ?_)
      rcases hw5 with ⟨rfl, hw5⟩ | ⟨rfl, hw5⟩
      · skip
        refine lv_if_eq (tgt := 39) hx hb dX5_where_22 (by decide) (fun c6 => absurd c6 (by decide)) (fun _ => ?_)
        refine lv_aload_n hx hb dX5_where_25 rfl (lv_at hl 0 rfl) ?_
        refine lv_iload_n hx hb dX5_where_26 rfl (lv_at hl 1 rfl) ?_
        refine lv_iload_n hx hb dX5_where_27 rfl (lv_at hl 2 rfl) ?_
        refine lv_aload_n hx hb dX5_where_28 rfl (lv_at hl 0 rfl) ?_
        refine va_get (D := D) (ci := 5) (v := .int (nI nn)) (C := RX5) (T := TX5) (N := 24) hx hb hts inX5_where hown hK hP 0 rfl rfl 19 (by decide) fl141 (fun _ h9 => h9) rfl dX5_where_29 ?_
        refine lv_iload_n hx hb dX5_where_32 rfl (lv_at hl 3 rfl) ?_
        refine K_same (va_runV (As := [.int x, .int d, .int (nI nn), .int as]) (rest := []) ⟨hx, hb, hml, hown, hts⟩ (c_X5_placeBy l D cI cZ cG h5 a5 _ nr nt nc nw hd wk ng nT mi nf nn mru mth mcl mfa mwa mfz mbl mbk mtr mno mlo mip mto x d nn as hnr hnt hnc hnw hwk hng hnT hnf hnn (by omega)) (cwV 4 hts gX5_where_X5_placeBy rfl rfl rfl (by decide +kernel) ⟨(Nat.le_of_ble_eq_true rfl), (Nat.le_of_ble_eq_true rfl)⟩) ⟨PB_blind, va_recv hK hP (ci := 5) (q0 := 0) rfl rfl, (K_preS hN hK hP hD).2⟩ rfl rfl hl.1 rfl (lv_room (Nat.le_of_ble_eq_true rfl)) dX5_where_33 ⟨Nat.zero_le _, Nat.zero_le _⟩) hD hS hA (fun r7 u H locs hw7 hP hD hS => ?_)
        have hP : va_P D vwCl (wX5 cI cZ cG h5 a5 (nI nr) (nI nt) (nI nc) (nI nw) hd (nI wk) (nI ng) (nI nT) mi (nI nf) (nI nn) mru mth mcl mfa mwa mfz mbl mbk mtr mno mlo mip mto) H := hP
        have hD : va_D A (wX5 cI cZ cG h5 a5 (nI nr) (nI nt) (nI nc) (nI nw) hd (nI wk) (nI ng) (nI nT) mi (nI nf) (nI nn) mru mth mcl mfa mwa mfz mbl mbk mtr mno mlo mip mto) := hD
        obtain rfl := hw7
        refine lv_goto (tgt := 41) hx hb dX5_where_36 (by decide) ?_
        exact K_iret (wf := (fun (_ : Unit) => wX5 cI cZ cG h5 a5 (nI nr) (nI nt) (nI nc) (nI nw) hd (nI wk) (nI ng) (nI nT) mi (nI nf) (nI nn) mru mth mcl mfa mwa mfz mbl mbk mtr mno mlo mip mto)) () hx hb hr hlocks hP hK hD hS dX5_where_41 (by simp [rWhere, plM, hw1, hw3, hw5])
      · skip
        refine lv_if_eq (tgt := 39) hx hb dX5_where_22 (by decide) (fun _ => ?_) (fun c8 => absurd c8 (by decide))
        refine lv_bipush (v := (-102)) hx hb dX5_where_39 (by decide) ?_
        exact K_iret (wf := (fun (_ : Unit) => wX5 cI cZ cG h5 a5 (nI nr) (nI nt) (nI nc) (nI nw) hd (nI wk) (nI ng) (nI nT) mi (nI nf) (nI nn) mru mth mcl mfa mwa mfz mbl mbk mtr mno mlo mip mto)) () hx hb hr hlocks hP hK hD hS dX5_where_41 (by simp [rWhere, plM, hw1, hw3, hw5])
    · skip
      refine lv_if_eq (tgt := 39) hx hb dX5_where_15 (by decide) (fun _ => ?_) (fun c9 => absurd c9 (by decide))
      refine lv_bipush (v := (-102)) hx hb dX5_where_39 (by decide) ?_
      exact K_iret (wf := (fun (_ : Unit) => wX5 cI cZ cG h5 a5 (nI nr) (nI nt) (nI nc) (nI nw) hd (nI wk) (nI ng) (nI nT) mi (nI nf) (nI nn) mru mth mcl mfa mwa mfz mbl mbk mtr mno mlo mip mto)) () hx hb hr hlocks hP hK hD hS dX5_where_41 (by simp [rWhere, plM, hw1, hw3])
  · skip
    refine lv_if_ne (tgt := 11) hx hb dX5_where_5 (by decide) (fun c10 => absurd c10 (by decide)) (fun _ => ?_)
    refine lv_bipush (v := (-101)) hx hb dX5_where_8 (by decide) ?_
    exact K_iret (wf := (fun (_ : Unit) => wX5 cI cZ cG h5 a5 (nI nr) (nI nt) (nI nc) (nI nw) hd (nI wk) (nI ng) (nI nT) mi (nI nf) (nI nn) mru mth mcl mfa mwa mfz mbl mbk mtr mno mlo mip mto)) () hx hb hr hlocks hP hK hD hS dX5_where_10 (by simp [rWhere, plM, hw1])
theorem inX5_at : ∀ w ∈ wsX50, w ∈ wsX5_at := by decide +kernel
set_option maxHeartbeats 8000000 in
set_option maxRecDepth 100000 in
/-- at -/
theorem c_X5_at (l : Launch) (D : va_G) (cI cZ cG : ClassId) (h5 : Nat) (a5 : Nat → Nat) (sz : Nat) (nr : Nat) (nt : Nat) (nc : Nat) (nw : Nat) (hd : Int32) (wk : Nat) (ng : Nat) (nT : Nat) (mi : Int32) (nf : Nat) (nn : Nat) (mru : Nat → Int32) (mth : Nat → Int32) (mcl : Nat → Int32) (mfa : Nat → Int32) (mwa : Nat → Int32) (mfz : Nat → Int32) (mbl : Nat → Int32) (mbk : Nat → Int32) (mtr : Nat → Int32) (mno : Nat → Int32) (mlo : Nat → Int32) (mip : Nat → Int32) (mto : Nat → Int32) (q : Int32) (d : Int32) (as : Int32) (hnr : nr ≤ 6) (hnt : nt ≤ 20) (hnc : nc ≤ 60) (hnw : nw ≤ 24) (hwk : wk ≤ 200) (hng : ng ≤ 3) (hnT : nT ≤ 4) (hnf : nf ≤ 12) (hnn : nn ≤ 60) : Met l yX5_at wsX5_at ({ frames := 2, cells := 0, slots := 0, locals := 42 } : Room) (va_Pc [.ref h5, .int q, .int d, .int as] (PB D (tyL cI cZ cG) (wX5 cI cZ cG h5 a5 (nI nr) (nI nt) (nI nc) (nI nw) hd (nI wk) (nI ng) (nI nT) mi (nI nf) (nI nn) mru mth mcl mfa mwa mfz mbl mbk mtr mno mlo mip mto) sz)) (va_Qi (fun (r : Int32) (_ : Unit) => r = rAt nf nn (col 4 0 mno) (col 4 1 mno) (col 4 2 mno) (col 4 3 mno) q d as) (fun u => QB D (tyL cI cZ cG) (va_A (wX5 cI cZ cG h5 a5 (nI nr) (nI nt) (nI nc) (nI nw) hd (nI wk) (nI ng) (nI nT) mi (nI nf) (nI nn) mru mth mcl mfa mwa mfz mbl mbk mtr mno mlo mip mto) sz) ((fun (_ : Unit) => wX5 cI cZ cG h5 a5 (nI nr) (nI nt) (nI nc) (nI nw) hd (nI wk) (nI ng) (nI nT) mi (nI nf) (nI nn) mru mth mcl mfa mwa mfz mbl mbk mtr mno mlo mip mto) u)) (va_A (wX5 cI cZ cG h5 a5 (nI nr) (nI nt) (nI nc) (nI nw) hd (nI wk) (nI ng) (nI nT) mi (nI nf) (nI nn) mru mth mcl mfa mwa mfz mbl mbk mtr mno mlo mip mto) sz)) 0 0 (va_A (wX5 cI cZ cG h5 a5 (nI nr) (nI nt) (nI nc) (nI nw) hd (nI wk) (nI ng) (nI nT) mi (nI nf) (nI nn) mru mth mcl mfa mwa mfz mbl mbk mtr mno mlo mip mto) sz) := by
  refine K_start (cc := cX5_at) (maxL := 6) (ret := some .int) (Qc := fun A => va_Qi (fun (r : Int32) (_ : Unit) => r = rAt nf nn (col 4 0 mno) (col 4 1 mno) (col 4 2 mno) (col 4 3 mno) q d as) (fun u => QB D (tyL cI cZ cG) A ((fun (_ : Unit) => wX5 cI cZ cG h5 a5 (nI nr) (nI nt) (nI nc) (nI nw) hd (nI wk) (nI ng) (nI nT) mi (nI nf) (nI nn) mru mth mcl mfa mwa mfz mbl mbk mtr mno mlo mip mto) u)) A) (by decide) rfl (Nat.le_of_ble_eq_true rfl) ?_
  intro p e s m below meth c ls A hx hb hml hr hts hown hlocks hin hN hP hK hD hA hS hl hsz
  have hl : lv_has ls 6 [(0, .ref h5), (1, .int q), (2, .int d), (3, .int as)] := hl
  have fl132 := hts (.fieldLink RX5 132 "ModelTownModel" "figures" "I") (by decide +kernel)
  have fl141 := hts (.fieldLink RX5 141 "ModelTownModel" "notes" "I") (by decide +kernel)
  refine lv_iload_n hx hb dX5_at_0 rfl (lv_at hl 1 rfl) ?_
  refine K_none (va_runS (As := [.int q]) (rest := []) ⟨hx, hb, hml, hown, hts⟩ (c_X5_isPlace l D cI cZ cG _ q) (va_cwS 1 hts gX5_at_X5_isPlace rfl rfl rfl (by decide +kernel) ⟨(Nat.le_of_ble_eq_true rfl), (Nat.le_of_ble_eq_true rfl)⟩) (K_pre0 hN hK) rfl rfl hl.1 rfl (lv_room (Nat.le_of_ble_eq_true rfl)) dX5_at_1 ⟨Nat.zero_le _, Nat.zero_le _⟩) hP hS hA (fun r1 _ H locs hw1 hP hS => ?_)
  rcases hw1 with ⟨rfl, hw1⟩ | ⟨rfl, hw1⟩
  · skip
    refine lv_if_eq (tgt := 21) hx hb dX5_at_4 (by decide) (fun c2 => absurd c2 (by decide)) (fun _ => ?_)
    refine lv_iload_n hx hb dX5_at_7 rfl (lv_at hl 2 rfl) ?_
    refine K_none (va_runS (As := [.int d]) (rest := []) ⟨hx, hb, hml, hown, hts⟩ (c_X5_isDay l D cI cZ cG _ d) (va_cwS 1 hts gX5_at_X5_isDay rfl rfl rfl (by decide +kernel) ⟨(Nat.le_of_ble_eq_true rfl), (Nat.le_of_ble_eq_true rfl)⟩) (K_pre0 hN hK) rfl rfl hl.1 rfl (lv_room (Nat.le_of_ble_eq_true rfl)) dX5_at_8 ⟨Nat.zero_le _, Nat.zero_le _⟩) hP hS hA (fun r3 _ H locs hw3 hP hS => ?_)
    rcases hw3 with ⟨rfl, hw3⟩ | ⟨rfl, hw3⟩
    · skip
      refine lv_if_eq (tgt := 21) hx hb dX5_at_11 (by decide) (fun c4 => absurd c4 (by decide)) (fun _ => ?_)
      refine lv_iload_n hx hb dX5_at_14 rfl (lv_at hl 3 rfl) ?_
      refine K_none (va_runS (As := [.int as]) (rest := []) ⟨hx, hb, hml, hown, hts⟩ (c_X5_isDay l D cI cZ cG _ as) (va_cwS 1 hts gX5_at_X5_isDay rfl rfl rfl (by decide +kernel) ⟨(Nat.le_of_ble_eq_true rfl), (Nat.le_of_ble_eq_true rfl)⟩) (K_pre0 hN hK) rfl rfl hl.1 rfl (lv_room (Nat.le_of_ble_eq_true rfl)) dX5_at_15 ⟨Nat.zero_le _, Nat.zero_le _⟩) hP hS hA (fun r5 _ H locs hw5 hP hS => ?_)
      rcases hw5 with ⟨rfl, hw5⟩ | ⟨rfl, hw5⟩
      · skip
        refine lv_if_ne (tgt := 24) hx hb dX5_at_18 (by decide) (fun _ => ?_) (fun c6 => absurd c6 (by decide))
        refine lv_iconst (v := 0) hx hb dX5_at_24 (by decide) ?_
        refine lv_istore (lv' := [(4, .int 0), (0, .ref h5), (1, .int q), (2, .int d), (3, .int as)]) hx hb dX5_at_25 hl (by decide) rfl (fun ls hl => ?_)
        refine lv_iconst (v := 0) hx hb dX5_at_27 (by decide) ?_
        refine lv_istore (lv' := [(5, .int 0), (4, .int 0), (0, .ref h5), (1, .int q), (2, .int d), (3, .int as)]) hx hb dX5_at_28 hl (by decide) rfl (fun ls hl => ?_)
        refine loopW2 (fun (k : Nat) (v : Int32) H locs ls => (k ≤ nf) ∧ (v = bA nn (col 4 0 mno) (col 4 1 mno) (col 4 2 mno) (col 4 3 mno) q d as k) ∧ va_P D vwCl (wX5 cI cZ cG h5 a5 (nI nr) (nI nt) (nI nc) (nI nw) hd (nI wk) (nI ng) (nI nT) mi (nI nf) (nI nn) mru mth mcl mfa mwa mfz mbl mbk mtr mno mlo mip mto) H ∧ va_D A (wX5 cI cZ cG h5 a5 (nI nr) (nI nt) (nI nc) (nI nw) hd (nI wk) (nI ng) (nI nT) mi (nI nf) (nI nn) mru mth mcl mfa mwa mfz mbl mbk mtr mno mlo mip mto) ∧ va_S A s.heap H locs ∧ lv_has ls 6 [(5, .int (nI k)), (4, .int v), (0, .ref h5), (1, .int q), (2, .int d), (3, .int as)]) (fun (k : Nat) (v : Int32) => nf - k) (fun k v H locs ls hI ih30 => ?_) 0 0 _ _ _ ⟨(by omega), rfl, hP, hD, hS, lv_sub hl [0, 1, 2, 3, 4, 5] rfl⟩
        obtain ⟨hk, hv, hP, hD, hS, hl⟩ := hI
        refine lv_iload hx hb dX5_at_30 (lv_at hl 0 rfl) ?_
        refine lv_aload_n hx hb dX5_at_32 rfl (lv_at hl 2 rfl) ?_
        refine va_get (D := D) (ci := 5) (v := .int (nI nf)) (C := RX5) (T := TX5) (N := 24) hx hb hts inX5_at hown hK hP 0 rfl rfl 18 (by decide) fl132 (fun _ h9 => h9) rfl dX5_at_33 ?_
        refine lv_icmp_ge (tgt := 74) hx hb dX5_at_36 (by decide) (fun c7 => ?_) (fun c7 => ?_)
        · have c7 : nf ≤ k := (nI_leI (a := nf) (b := k) (by omega) (by omega)).mp c7
          have ek : k = nf := by omega
          rw [ek] at hv
          refine lv_iload hx hb dX5_at_74 (lv_at hl 1 rfl) ?_
          exact K_iret (wf := (fun (_ : Unit) => wX5 cI cZ cG h5 a5 (nI nr) (nI nt) (nI nc) (nI nw) hd (nI wk) (nI ng) (nI nT) mi (nI nf) (nI nn) mru mth mcl mfa mwa mfz mbl mbk mtr mno mlo mip mto)) () hx hb hr hlocks hP hK hD hS dX5_at_76 (by rw [rAt, if_pos ⟨hw1, hw3, hw5⟩]; exact hv)
        · have c7 : ¬ nf ≤ k := fun hq => c7 ((nI_leI (a := nf) (b := k) (by omega) (by omega)).mpr hq)
          refine lv_iload hx hb dX5_at_39 (lv_at hl 1 rfl) ?_
          refine lv_aload_n hx hb dX5_at_41 rfl (lv_at hl 2 rfl) ?_
          refine lv_iload hx hb dX5_at_42 (lv_at hl 0 rfl) ?_
          refine lv_iload_n hx hb dX5_at_44 rfl (lv_at hl 4 rfl) ?_
          refine lv_aload_n hx hb dX5_at_45 rfl (lv_at hl 2 rfl) ?_
          refine va_get (D := D) (ci := 5) (v := .int (nI nn)) (C := RX5) (T := TX5) (N := 24) hx hb hts inX5_at hown hK hP 0 rfl rfl 19 (by decide) fl141 (fun _ h9 => h9) rfl dX5_at_46 ?_
          refine lv_iload_n hx hb dX5_at_49 rfl (lv_at hl 5 rfl) ?_
          refine K_same (va_runV (As := [.int (nI k), .int d, .int (nI nn), .int as]) (rest := [.int v]) ⟨hx, hb, hml, hown, hts⟩ (c_X5_placeBy l D cI cZ cG h5 a5 _ nr nt nc nw hd wk ng nT mi nf nn mru mth mcl mfa mwa mfz mbl mbk mtr mno mlo mip mto (nI k) d nn as hnr hnt hnc hnw hwk hng hnT hnf hnn (by omega)) (cwV 4 hts gX5_at_X5_placeBy rfl rfl rfl (by decide +kernel) ⟨(Nat.le_of_ble_eq_true rfl), (Nat.le_of_ble_eq_true rfl)⟩) ⟨PB_blind, va_recv hK hP (ci := 5) (q0 := 0) rfl rfl, (K_preS hN hK hP hD).2⟩ rfl rfl hl.1 rfl (lv_room (Nat.le_of_ble_eq_true rfl)) dX5_at_50 ⟨Nat.zero_le _, Nat.zero_le _⟩) hD hS hA (fun r8 u H locs hw8 hP hD hS => ?_)
          have hP : va_P D vwCl (wX5 cI cZ cG h5 a5 (nI nr) (nI nt) (nI nc) (nI nw) hd (nI wk) (nI ng) (nI nT) mi (nI nf) (nI nn) mru mth mcl mfa mwa mfz mbl mbk mtr mno mlo mip mto) H := hP
          have hD : va_D A (wX5 cI cZ cG h5 a5 (nI nr) (nI nt) (nI nc) (nI nw) hd (nI wk) (nI ng) (nI nT) mi (nI nf) (nI nn) mru mth mcl mfa mwa mfz mbl mbk mtr mno mlo mip mto) := hD
          obtain rfl := hw8
          refine lv_iload_n hx hb dX5_at_53 rfl (lv_at hl 3 rfl) ?_
          refine lv_icmp_ne (tgt := 64) hx hb dX5_at_54 (by decide) (fun c9 => ?_) (fun c9 => ?_)
          · refine lv_iconst (v := 0) hx hb dX5_at_64 (by decide) ?_
            refine lv_ior hx hb dX5_at_65 ?_
            refine lv_istore (lv' := [(4, .int (v ||| 0)), (5, .int (nI k)), (0, .ref h5), (1, .int q), (2, .int d), (3, .int as)]) hx hb dX5_at_66 hl (by decide) rfl (fun ls hl => ?_)
            refine lv_iinc (v := nI (k + 1)) (lv' := [(5, .int (nI (k + 1))), (4, .int (v ||| 0)), (0, .ref h5), (1, .int q), (2, .int d), (3, .int as)]) hx hb dX5_at_68 hl (k := 1) rfl (inc1 _) (by decide) rfl (fun ls hl => ?_)
            refine lv_goto (tgt := 30) hx hb dX5_at_71 (by decide) ?_
            exact ih30 (k + 1) (v ||| 0) _ _ _ ⟨(by omega), (by rw [bA, ← hv]; exact (Int32.or_zero).trans (if_neg c9).symm), hP, hD, hS, lv_sub hl [0, 1, 2, 3, 4, 5] rfl⟩ (by omega)
          · refine lv_iconst (v := 1) hx hb dX5_at_57 (by decide) ?_
            refine lv_iload hx hb dX5_at_58 (lv_at hl 0 rfl) ?_
            refine lv_ishl hx hb dX5_at_60 ?_
            refine lv_goto (tgt := 65) hx hb dX5_at_61 (by decide) ?_
            refine lv_ior hx hb dX5_at_65 ?_
            refine lv_istore (lv' := [(4, .int (v ||| (1 <<< ((nI k) &&& 31)))), (5, .int (nI k)), (0, .ref h5), (1, .int q), (2, .int d), (3, .int as)]) hx hb dX5_at_66 hl (by decide) rfl (fun ls hl => ?_)
            refine lv_iinc (v := nI (k + 1)) (lv' := [(5, .int (nI (k + 1))), (4, .int (v ||| (1 <<< ((nI k) &&& 31)))), (0, .ref h5), (1, .int q), (2, .int d), (3, .int as)]) hx hb dX5_at_68 hl (k := 1) rfl (inc1 _) (by decide) rfl (fun ls hl => ?_)
            refine lv_goto (tgt := 30) hx hb dX5_at_71 (by decide) ?_
            exact ih30 (k + 1) (v ||| (1 <<< ((nI k) &&& 31))) _ _ _ ⟨(by omega), (by rw [bA, ← hv]; exact (if_pos c9).symm), hP, hD, hS, lv_sub hl [0, 1, 2, 3, 4, 5] rfl⟩ (by omega)
      · skip
        refine lv_if_ne (tgt := 24) hx hb dX5_at_18 (by decide) (fun c10 => absurd c10 (by decide)) (fun _ => ?_)
        refine lv_bipush (v := (-2)) hx hb dX5_at_21 (by decide) ?_
        exact K_iret (wf := (fun (_ : Unit) => wX5 cI cZ cG h5 a5 (nI nr) (nI nt) (nI nc) (nI nw) hd (nI wk) (nI ng) (nI nT) mi (nI nf) (nI nn) mru mth mcl mfa mwa mfz mbl mbk mtr mno mlo mip mto)) () hx hb hr hlocks hP hK hD hS dX5_at_23 (by simp [rAt, hw1, hw3, hw5])
    · skip
      refine lv_if_eq (tgt := 21) hx hb dX5_at_11 (by decide) (fun _ => ?_) (fun c11 => absurd c11 (by decide))
      refine lv_bipush (v := (-2)) hx hb dX5_at_21 (by decide) ?_
      exact K_iret (wf := (fun (_ : Unit) => wX5 cI cZ cG h5 a5 (nI nr) (nI nt) (nI nc) (nI nw) hd (nI wk) (nI ng) (nI nT) mi (nI nf) (nI nn) mru mth mcl mfa mwa mfz mbl mbk mtr mno mlo mip mto)) () hx hb hr hlocks hP hK hD hS dX5_at_23 (by simp [rAt, hw1, hw3])
  · skip
    refine lv_if_eq (tgt := 21) hx hb dX5_at_4 (by decide) (fun _ => ?_) (fun c12 => absurd c12 (by decide))
    refine lv_bipush (v := (-2)) hx hb dX5_at_21 (by decide) ?_
    exact K_iret (wf := (fun (_ : Unit) => wX5 cI cZ cG h5 a5 (nI nr) (nI nt) (nI nc) (nI nw) hd (nI wk) (nI ng) (nI nT) mi (nI nf) (nI nn) mru mth mcl mfa mwa mfz mbl mbk mtr mno mlo mip mto)) () hx hb hr hlocks hP hK hD hS dX5_at_23 (by simp [rAt, hw1])
theorem inX5_turns : ∀ w ∈ wsX50, w ∈ wsX5_turns := by decide +kernel
set_option maxHeartbeats 8000000 in
set_option maxRecDepth 100000 in
/-- turns -/
theorem c_X5_turns (l : Launch) (D : va_G) (cI cZ cG : ClassId) (h5 : Nat) (a5 : Nat → Nat) (sz : Nat) (nr : Nat) (nt : Nat) (nc : Nat) (nw : Nat) (hd : Int32) (wk : Nat) (ng : Nat) (nT : Nat) (mi : Int32) (nf : Nat) (nn : Nat) (mru : Nat → Int32) (mth : Nat → Int32) (mcl : Nat → Int32) (mfa : Nat → Int32) (mwa : Nat → Int32) (mfz : Nat → Int32) (mbl : Nat → Int32) (mbk : Nat → Int32) (mtr : Nat → Int32) (mno : Nat → Int32) (mlo : Nat → Int32) (mip : Nat → Int32) (mto : Nat → Int32) (x : Int32) (d : Int32) (hnr : nr ≤ 6) (hnt : nt ≤ 20) (hnc : nc ≤ 60) (hnw : nw ≤ 24) (hwk : wk ≤ 200) (hng : ng ≤ 3) (hnT : nT ≤ 4) (hnf : nf ≤ 12) (hnn : nn ≤ 60) : Met l yX5_turns wsX5_turns ({ frames := 2, cells := 0, slots := 0, locals := 43 } : Room) (va_Pc [.ref h5, .int x, .int d] (PB D (tyL cI cZ cG) (wX5 cI cZ cG h5 a5 (nI nr) (nI nt) (nI nc) (nI nw) hd (nI wk) (nI ng) (nI nT) mi (nI nf) (nI nn) mru mth mcl mfa mwa mfz mbl mbk mtr mno mlo mip mto) sz)) (va_Qi (fun (r : Int32) (_ : Unit) => r = rTurnsM nf nn mno x d) (fun u => QB D (tyL cI cZ cG) (va_A (wX5 cI cZ cG h5 a5 (nI nr) (nI nt) (nI nc) (nI nw) hd (nI wk) (nI ng) (nI nT) mi (nI nf) (nI nn) mru mth mcl mfa mwa mfz mbl mbk mtr mno mlo mip mto) sz) ((fun (_ : Unit) => wX5 cI cZ cG h5 a5 (nI nr) (nI nt) (nI nc) (nI nw) hd (nI wk) (nI ng) (nI nT) mi (nI nf) (nI nn) mru mth mcl mfa mwa mfz mbl mbk mtr mno mlo mip mto) u)) (va_A (wX5 cI cZ cG h5 a5 (nI nr) (nI nt) (nI nc) (nI nw) hd (nI wk) (nI ng) (nI nT) mi (nI nf) (nI nn) mru mth mcl mfa mwa mfz mbl mbk mtr mno mlo mip mto) sz)) 0 0 (va_A (wX5 cI cZ cG h5 a5 (nI nr) (nI nt) (nI nc) (nI nw) hd (nI wk) (nI ng) (nI nT) mi (nI nf) (nI nn) mru mth mcl mfa mwa mfz mbl mbk mtr mno mlo mip mto) sz) := by
  refine K_start (cc := cX5_turns) (maxL := 5) (ret := some .int) (Qc := fun A => va_Qi (fun (r : Int32) (_ : Unit) => r = rTurnsM nf nn mno x d) (fun u => QB D (tyL cI cZ cG) A ((fun (_ : Unit) => wX5 cI cZ cG h5 a5 (nI nr) (nI nt) (nI nc) (nI nw) hd (nI wk) (nI ng) (nI nT) mi (nI nf) (nI nn) mru mth mcl mfa mwa mfz mbl mbk mtr mno mlo mip mto) u)) A) (by decide) rfl (Nat.le_of_ble_eq_true rfl) ?_
  intro p e s m below meth c ls A hx hb hml hr hts hown hlocks hin hN hP hK hD hA hS hl hsz
  have hl : lv_has ls 5 [(0, .ref h5), (1, .int x), (2, .int d)] := hl
  have fl141 := hts (.fieldLink RX5 141 "ModelTownModel" "notes" "I") (by decide +kernel)
  refine lv_aload_n hx hb dX5_turns_0 rfl (lv_at hl 0 rfl) ?_
  refine lv_iload_n hx hb dX5_turns_1 rfl (lv_at hl 1 rfl) ?_
  refine K_same (va_runV (As := [.int x]) (rest := []) ⟨hx, hb, hml, hown, hts⟩ (c_X5_isFigure l D cI cZ cG h5 a5 _ nr nt nc nw hd wk ng nT mi nf nn mru mth mcl mfa mwa mfz mbl mbk mtr mno mlo mip mto x hnr hnt hnc hnw hwk hng hnT hnf hnn) (cwV 1 hts gX5_turns_X5_isFigure rfl rfl rfl (by decide +kernel) ⟨(Nat.le_of_ble_eq_true rfl), (Nat.le_of_ble_eq_true rfl)⟩) ⟨PB_blind, va_recv hK hP (ci := 5) (q0 := 0) rfl rfl, (K_preS hN hK hP hD).2⟩ rfl rfl hl.1 rfl (lv_room (Nat.le_of_ble_eq_true rfl)) dX5_turns_2 ⟨Nat.zero_le _, Nat.zero_le _⟩) hD hS hA (fun r1 u H locs hw1 hP hD hS => ?_)
  have hP : va_P D vwCl (wX5 cI cZ cG h5 a5 (nI nr) (nI nt) (nI nc) (nI nw) hd (nI wk) (nI ng) (nI nT) mi (nI nf) (nI nn) mru mth mcl mfa mwa mfz mbl mbk mtr mno mlo mip mto) H := hP
  have hD : va_D A (wX5 cI cZ cG h5 a5 (nI nr) (nI nt) (nI nc) (nI nw) hd (nI wk) (nI ng) (nI nT) mi (nI nf) (nI nn) mru mth mcl mfa mwa mfz mbl mbk mtr mno mlo mip mto) := hD
  rcases hw1 with ⟨rfl, hw1⟩ | ⟨rfl, hw1⟩
  · skip
    refine lv_if_ne (tgt := 10) hx hb dX5_turns_5 (by decide) (fun _ => ?_) (fun c2 => absurd c2 (by decide))
    refine lv_iload_n hx hb dX5_turns_10 rfl (lv_at hl 2 rfl) ?_
    refine K_none (va_runS (As := [.int d]) (rest := []) ⟨hx, hb, hml, hown, hts⟩ (c_X5_isDay l D cI cZ cG _ d) (va_cwS 1 hts gX5_turns_X5_isDay rfl rfl rfl (by decide +kernel) ⟨(Nat.le_of_ble_eq_true rfl), (Nat.le_of_ble_eq_true rfl)⟩) (K_pre0 hN hK) rfl rfl hl.1 rfl (lv_room (Nat.le_of_ble_eq_true rfl)) dX5_turns_11 ⟨Nat.zero_le _, Nat.zero_le _⟩) hP hS hA (fun r3 _ H locs hw3 hP hS => ?_)
    rcases hw3 with ⟨rfl, hw3⟩ | ⟨rfl, hw3⟩
    · skip
      refine lv_if_ne (tgt := 20) hx hb dX5_turns_14 (by decide) (fun _ => ?_) (fun c4 => absurd c4 (by decide))
      refine lv_iconst (v := 0) hx hb dX5_turns_20 (by decide) ?_
      refine lv_istore_n (lv' := [(3, .int 0), (0, .ref h5), (1, .int x), (2, .int d)]) hx hb dX5_turns_21 rfl hl (by decide) rfl (fun ls hl => ?_)
      refine lv_iconst (v := 0) hx hb dX5_turns_22 (by decide) ?_
      refine lv_istore (lv' := [(4, .int 0), (3, .int 0), (0, .ref h5), (1, .int x), (2, .int d)]) hx hb dX5_turns_23 hl (by decide) rfl (fun ls hl => ?_)
      refine loopW2 (fun (k : Nat) (v : Int32) H locs ls => (k ≤ nn) ∧ (v = mC (col 4 0 mno) (col 4 1 mno) (col 4 2 mno) (col 4 3 mno) x d k) ∧ va_P D vwCl (wX5 cI cZ cG h5 a5 (nI nr) (nI nt) (nI nc) (nI nw) hd (nI wk) (nI ng) (nI nT) mi (nI nf) (nI nn) mru mth mcl mfa mwa mfz mbl mbk mtr mno mlo mip mto) H ∧ va_D A (wX5 cI cZ cG h5 a5 (nI nr) (nI nt) (nI nc) (nI nw) hd (nI wk) (nI ng) (nI nT) mi (nI nf) (nI nn) mru mth mcl mfa mwa mfz mbl mbk mtr mno mlo mip mto) ∧ va_S A s.heap H locs ∧ lv_has ls 5 [(4, .int (nI k)), (3, .int v), (0, .ref h5), (1, .int x), (2, .int d)]) (fun (k : Nat) (v : Int32) => nn - k) (fun k v H locs ls hI ih25 => ?_) 0 0 _ _ _ ⟨(by omega), rfl, hP, hD, hS, lv_sub hl [0, 1, 2, 3, 4] rfl⟩
      obtain ⟨hk, hv, hP, hD, hS, hl⟩ := hI
      refine lv_iload hx hb dX5_turns_25 (lv_at hl 0 rfl) ?_
      refine lv_aload_n hx hb dX5_turns_27 rfl (lv_at hl 2 rfl) ?_
      refine va_get (D := D) (ci := 5) (v := .int (nI nn)) (C := RX5) (T := TX5) (N := 24) hx hb hts inX5_turns hown hK hP 0 rfl rfl 19 (by decide) fl141 (fun _ h9 => h9) rfl dX5_turns_28 ?_
      refine lv_icmp_ge (tgt := 75) hx hb dX5_turns_31 (by decide) (fun c5 => ?_) (fun c5 => ?_)
      · have c5 : nn ≤ k := (nI_leI (a := nn) (b := k) (by omega) (by omega)).mp c5
        have ek : k = nn := by omega
        rw [ek] at hv
        refine lv_iload_n hx hb dX5_turns_75 rfl (lv_at hl 1 rfl) ?_
        exact K_iret (wf := (fun (_ : Unit) => wX5 cI cZ cG h5 a5 (nI nr) (nI nt) (nI nc) (nI nw) hd (nI wk) (nI ng) (nI nT) mi (nI nf) (nI nn) mru mth mcl mfa mwa mfz mbl mbk mtr mno mlo mip mto)) () hx hb hr hlocks hP hK hD hS dX5_turns_76 (by rw [rTurnsM, if_pos hw1, if_pos hw3]; exact hv)
      · have c5 : ¬ nn ≤ k := fun hq => c5 ((nI_leI (a := nn) (b := k) (by omega) (by omega)).mpr hq)
        refine lv_iload_n hx hb dX5_turns_34 rfl (lv_at hl 1 rfl) ?_
        refine lv_aload_n hx hb dX5_turns_35 rfl (lv_at hl 2 rfl) ?_
        refine lv_iload_n hx hb dX5_turns_36 rfl (lv_at hl 3 rfl) ?_
        refine lv_iload_n hx hb dX5_turns_37 rfl (lv_at hl 4 rfl) ?_
        refine lv_iload hx hb dX5_turns_38 (lv_at hl 0 rfl) ?_
        refine lv_sipush (v := 3000) hx hb dX5_turns_40 (by decide) ?_
        refine K_same (va_runV (As := [.int x, .int d, .int (nI k), .int 3000]) (rest := [.int v]) ⟨hx, hb, hml, hown, hts⟩ (c_X5_placeBy l D cI cZ cG h5 a5 _ nr nt nc nw hd wk ng nT mi nf nn mru mth mcl mfa mwa mfz mbl mbk mtr mno mlo mip mto x d k 3000 hnr hnt hnc hnw hwk hng hnT hnf hnn (by omega)) (cwV 4 hts gX5_turns_X5_placeBy rfl rfl rfl (by decide +kernel) ⟨(Nat.le_of_ble_eq_true rfl), (Nat.le_of_ble_eq_true rfl)⟩) ⟨PB_blind, va_recv hK hP (ci := 5) (q0 := 0) rfl rfl, (K_preS hN hK hP hD).2⟩ rfl rfl hl.1 rfl (lv_room (Nat.le_of_ble_eq_true rfl)) dX5_turns_43 ⟨Nat.zero_le _, Nat.zero_le _⟩) hD hS hA (fun r6 u H locs hw6 hP hD hS => ?_)
        have hP : va_P D vwCl (wX5 cI cZ cG h5 a5 (nI nr) (nI nt) (nI nc) (nI nw) hd (nI wk) (nI ng) (nI nT) mi (nI nf) (nI nn) mru mth mcl mfa mwa mfz mbl mbk mtr mno mlo mip mto) H := hP
        have hD : va_D A (wX5 cI cZ cG h5 a5 (nI nr) (nI nt) (nI nc) (nI nw) hd (nI wk) (nI ng) (nI nT) mi (nI nf) (nI nn) mru mth mcl mfa mwa mfz mbl mbk mtr mno mlo mip mto) := hD
        obtain rfl := hw6
        refine lv_aload_n hx hb dX5_turns_46 rfl (lv_at hl 2 rfl) ?_
        refine lv_iload_n hx hb dX5_turns_47 rfl (lv_at hl 3 rfl) ?_
        refine lv_iload_n hx hb dX5_turns_48 rfl (lv_at hl 4 rfl) ?_
        refine lv_iload hx hb dX5_turns_49 (lv_at hl 0 rfl) ?_
        refine lv_iconst (v := 1) hx hb dX5_turns_51 (by decide) ?_
        refine lv_iadd hx hb dX5_turns_52 ?_
        refine lv_topi (fun z7 ez7 => ?_)
        obtain rfl : z7 = nI (k + 1) := ez7.trans (nI_add k 1)
        refine lv_sipush (v := 3000) hx hb dX5_turns_53 (by decide) ?_
        refine K_same (va_runV (As := [.int x, .int d, .int (nI (k + 1)), .int 3000]) (rest := [.int (plM mno x d 3000 k), .int v]) ⟨hx, hb, hml, hown, hts⟩ (c_X5_placeBy l D cI cZ cG h5 a5 _ nr nt nc nw hd wk ng nT mi nf nn mru mth mcl mfa mwa mfz mbl mbk mtr mno mlo mip mto x d (k + 1) 3000 hnr hnt hnc hnw hwk hng hnT hnf hnn (by omega)) (cwV 4 hts gX5_turns_X5_placeBy rfl rfl rfl (by decide +kernel) ⟨(Nat.le_of_ble_eq_true rfl), (Nat.le_of_ble_eq_true rfl)⟩) ⟨PB_blind, va_recv hK hP (ci := 5) (q0 := 0) rfl rfl, (K_preS hN hK hP hD).2⟩ rfl rfl hl.1 rfl (lv_room (Nat.le_of_ble_eq_true rfl)) dX5_turns_56 ⟨Nat.zero_le _, Nat.zero_le _⟩) hD hS hA (fun r8 u H locs hw8 hP hD hS => ?_)
        have hP : va_P D vwCl (wX5 cI cZ cG h5 a5 (nI nr) (nI nt) (nI nc) (nI nw) hd (nI wk) (nI ng) (nI nT) mi (nI nf) (nI nn) mru mth mcl mfa mwa mfz mbl mbk mtr mno mlo mip mto) H := hP
        have hD : va_D A (wX5 cI cZ cG h5 a5 (nI nr) (nI nt) (nI nc) (nI nw) hd (nI wk) (nI ng) (nI nT) mi (nI nf) (nI nn) mru mth mcl mfa mwa mfz mbl mbk mtr mno mlo mip mto) := hD
        obtain rfl := hw8
        refine lv_icmp_eq (tgt := 66) hx hb dX5_turns_59 (by decide) (fun c9 => ?_) (fun c9 => ?_)
        · refine lv_iconst (v := 0) hx hb dX5_turns_66 (by decide) ?_
          refine lv_iadd hx hb dX5_turns_67 ?_
          refine lv_istore_n (lv' := [(3, .int (v + 0)), (4, .int (nI k)), (0, .ref h5), (1, .int x), (2, .int d)]) hx hb dX5_turns_68 rfl hl (by decide) rfl (fun ls hl => ?_)
          refine lv_iinc (v := nI (k + 1)) (lv' := [(4, .int (nI (k + 1))), (3, .int (v + 0)), (0, .ref h5), (1, .int x), (2, .int d)]) hx hb dX5_turns_69 hl (k := 1) rfl (inc1 _) (by decide) rfl (fun ls hl => ?_)
          refine lv_goto (tgt := 25) hx hb dX5_turns_72 (by decide) ?_
          exact ih25 (k + 1) (v + 0) _ _ _ ⟨(by omega), (by rw [mC, ← hv]; exact (if_pos c9).symm), hP, hD, hS, lv_sub hl [0, 1, 2, 3, 4] rfl⟩ (by omega)
        · refine lv_iconst (v := 1) hx hb dX5_turns_62 (by decide) ?_
          refine lv_goto (tgt := 67) hx hb dX5_turns_63 (by decide) ?_
          refine lv_iadd hx hb dX5_turns_67 ?_
          refine lv_istore_n (lv' := [(3, .int (v + 1)), (4, .int (nI k)), (0, .ref h5), (1, .int x), (2, .int d)]) hx hb dX5_turns_68 rfl hl (by decide) rfl (fun ls hl => ?_)
          refine lv_iinc (v := nI (k + 1)) (lv' := [(4, .int (nI (k + 1))), (3, .int (v + 1)), (0, .ref h5), (1, .int x), (2, .int d)]) hx hb dX5_turns_69 hl (k := 1) rfl (inc1 _) (by decide) rfl (fun ls hl => ?_)
          refine lv_goto (tgt := 25) hx hb dX5_turns_72 (by decide) ?_
          exact ih25 (k + 1) (v + 1) _ _ _ ⟨(by omega), (by rw [mC, ← hv]; exact (if_neg c9).symm), hP, hD, hS, lv_sub hl [0, 1, 2, 3, 4] rfl⟩ (by omega)
    · skip
      refine lv_if_ne (tgt := 20) hx hb dX5_turns_14 (by decide) (fun c10 => absurd c10 (by decide)) (fun _ => ?_)
      refine lv_bipush (v := (-2)) hx hb dX5_turns_17 (by decide) ?_
      exact K_iret (wf := (fun (_ : Unit) => wX5 cI cZ cG h5 a5 (nI nr) (nI nt) (nI nc) (nI nw) hd (nI wk) (nI ng) (nI nT) mi (nI nf) (nI nn) mru mth mcl mfa mwa mfz mbl mbk mtr mno mlo mip mto)) () hx hb hr hlocks hP hK hD hS dX5_turns_19 (by simp [rTurnsM, hw1, hw3])
  · skip
    refine lv_if_ne (tgt := 10) hx hb dX5_turns_5 (by decide) (fun c11 => absurd c11 (by decide)) (fun _ => ?_)
    refine lv_iconst (v := (-1)) hx hb dX5_turns_8 (by decide) ?_
    exact K_iret (wf := (fun (_ : Unit) => wX5 cI cZ cG h5 a5 (nI nr) (nI nt) (nI nc) (nI nw) hd (nI wk) (nI ng) (nI nT) mi (nI nf) (nI nn) mru mth mcl mfa mwa mfz mbl mbk mtr mno mlo mip mto)) () hx hb hr hlocks hP hK hD hS dX5_turns_9 (by simp [rTurnsM, hw1])
theorem inX5_figure : ∀ w ∈ wsX50, w ∈ wsX5_figure := by decide +kernel
set_option maxHeartbeats 8000000 in
set_option maxRecDepth 100000 in
/-- figure -/
theorem c_X5_figure (l : Launch) (D : va_G) (cI cZ cG : ClassId) (h5 : Nat) (a5 : Nat → Nat) (sz : Nat) (nr : Nat) (nt : Nat) (nc : Nat) (nw : Nat) (hd : Int32) (wk : Nat) (ng : Nat) (nT : Nat) (mi : Int32) (nf : Nat) (nn : Nat) (mru : Nat → Int32) (mth : Nat → Int32) (mcl : Nat → Int32) (mfa : Nat → Int32) (mwa : Nat → Int32) (mfz : Nat → Int32) (mbl : Nat → Int32) (mbk : Nat → Int32) (mtr : Nat → Int32) (mno : Nat → Int32) (mlo : Nat → Int32) (mip : Nat → Int32) (mto : Nat → Int32) (hnr : nr ≤ 6) (hnt : nt ≤ 20) (hnc : nc ≤ 60) (hnw : nw ≤ 24) (hwk : wk ≤ 200) (hng : ng ≤ 3) (hnT : nT ≤ 4) (hnf : nf ≤ 12) (hnn : nn ≤ 60) : Met l yX5_figure wsX5_figure ({ frames := 0, cells := 0, slots := 0, locals := 0 } : Room) (va_Pc [.ref h5] (PB D (tyL cI cZ cG) (wX5 cI cZ cG h5 a5 (nI nr) (nI nt) (nI nc) (nI nw) hd (nI wk) (nI ng) (nI nT) mi (nI nf) (nI nn) mru mth mcl mfa mwa mfz mbl mbk mtr mno mlo mip mto) sz)) (va_Qi (fun (r : Int32) (u : Nat) => r = rFigure nf ∧ u = if nf = 12 then nf else nf + 1) (fun u => QB D (tyL cI cZ cG) (va_A (wX5 cI cZ cG h5 a5 (nI nr) (nI nt) (nI nc) (nI nw) hd (nI wk) (nI ng) (nI nT) mi (nI nf) (nI nn) mru mth mcl mfa mwa mfz mbl mbk mtr mno mlo mip mto) sz) ((fun (u : Nat) => wX5 cI cZ cG h5 a5 (nI nr) (nI nt) (nI nc) (nI nw) hd (nI wk) (nI ng) (nI nT) mi (nI u) (nI nn) mru mth mcl mfa mwa mfz mbl mbk mtr mno mlo mip mto) u)) (va_A (wX5 cI cZ cG h5 a5 (nI nr) (nI nt) (nI nc) (nI nw) hd (nI wk) (nI ng) (nI nT) mi (nI nf) (nI nn) mru mth mcl mfa mwa mfz mbl mbk mtr mno mlo mip mto) sz)) 0 0 (va_A (wX5 cI cZ cG h5 a5 (nI nr) (nI nt) (nI nc) (nI nw) hd (nI wk) (nI ng) (nI nT) mi (nI nf) (nI nn) mru mth mcl mfa mwa mfz mbl mbk mtr mno mlo mip mto) sz) := by
  refine K_start (cc := cX5_figure) (maxL := 1) (ret := some .int) (Qc := fun A => va_Qi (fun (r : Int32) (u : Nat) => r = rFigure nf ∧ u = if nf = 12 then nf else nf + 1) (fun u => QB D (tyL cI cZ cG) A ((fun (u : Nat) => wX5 cI cZ cG h5 a5 (nI nr) (nI nt) (nI nc) (nI nw) hd (nI wk) (nI ng) (nI nT) mi (nI u) (nI nn) mru mth mcl mfa mwa mfz mbl mbk mtr mno mlo mip mto) u)) A) (by decide) rfl (Nat.le_of_ble_eq_true rfl) ?_
  intro p e s m below meth c ls A hx hb hml hr hts hown hlocks hin hN hP hK hD hA hS hl hsz
  have hl : lv_has ls 1 [(0, .ref h5)] := hl
  have fl132 := hts (.fieldLink RX5 132 "ModelTownModel" "figures" "I") (by decide +kernel)
  refine lv_aload_n hx hb dX5_figure_0 rfl (lv_at hl 0 rfl) ?_
  refine va_get (D := D) (ci := 5) (v := .int (nI nf)) (C := RX5) (T := TX5) (N := 24) hx hb hts inX5_figure hown hK hP 0 rfl rfl 18 (by decide) fl132 (fun _ h9 => h9) rfl dX5_figure_1 ?_
  refine lv_bipush (v := 12) hx hb dX5_figure_4 (by decide) ?_
  refine lv_icmp_ne (tgt := 12) hx hb dX5_figure_6 (by decide) (fun c1 => ?_) (fun c1 => ?_)
  · have c1 : ¬ nf = 12 := fun hq => c1 ((nI_eq (a := nf) (b := 12) (by omega) (by omega)).mpr hq)
    refine lv_aload_n hx hb dX5_figure_12 rfl (lv_at hl 0 rfl) ?_
    refine lv_dup hx hb dX5_figure_13 rfl ?_
    refine va_get (D := D) (ci := 5) (v := .int (nI nf)) (C := RX5) (T := TX5) (N := 24) hx hb hts inX5_figure hown hK hP 0 rfl rfl 18 (by decide) fl132 (fun _ h9 => h9) rfl dX5_figure_14 ?_
    refine lv_iconst (v := 1) hx hb dX5_figure_17 (by decide) ?_
    refine lv_iadd hx hb dX5_figure_18 ?_
    refine lv_topi (fun z2 ez2 => ?_)
    obtain rfl : z2 = nI (nf + 1) := ez2.trans (nI_add nf 1)
    refine va_put (D := D) (ci := 5) (v := .int (nI (nf + 1))) (ty := .int) (C := RX5) (T := TX5) (N := 24) hx hb hts inX5_figure tyX5 tyX5_ok nmX5 hown hK hP hD hS 0 rfl rfl 18 (by decide) fl132 (fun _ h9 => h9) rfl (by decide +kernel) rfl rfl (Nat.le_of_ble_eq_true rfl) dX5_figure_19 (fun H locs hP hD hS => ?_)
    have hP : va_P D vwCl (wX5 cI cZ cG h5 a5 (nI nr) (nI nt) (nI nc) (nI nw) hd (nI wk) (nI ng) (nI nT) mi (nI (nf + 1)) (nI nn) mru mth mcl mfa mwa mfz mbl mbk mtr mno mlo mip mto) H := hP
    have hD : va_D A (wX5 cI cZ cG h5 a5 (nI nr) (nI nt) (nI nc) (nI nw) hd (nI wk) (nI ng) (nI nT) mi (nI (nf + 1)) (nI nn) mru mth mcl mfa mwa mfz mbl mbk mtr mno mlo mip mto) := hD
    refine lv_aload_n hx hb dX5_figure_22 rfl (lv_at hl 0 rfl) ?_
    refine va_get (D := D) (ci := 5) (v := .int (nI (nf + 1))) (C := RX5) (T := TX5) (N := 24) hx hb hts inX5_figure hown hK hP 0 rfl rfl 18 (by decide) fl132 (fun _ h9 => h9) rfl dX5_figure_23 ?_
    refine lv_iconst (v := 1) hx hb dX5_figure_26 (by decide) ?_
    refine lv_isub hx hb dX5_figure_27 ?_
    refine lv_topi (fun z3 ez3 => ?_)
    obtain rfl : z3 = nI nf := ez3.trans (nI_pred nf)
    exact K_iret (wf := (fun (u : Nat) => wX5 cI cZ cG h5 a5 (nI nr) (nI nt) (nI nc) (nI nw) hd (nI wk) (nI ng) (nI nT) mi (nI u) (nI nn) mru mth mcl mfa mwa mfz mbl mbk mtr mno mlo mip mto)) (nf + 1) hx hb hr hlocks hP hK hD hS dX5_figure_28 (by simp [rFigure, c1])
  · have c1 : nf = 12 := (nI_eq (a := nf) (b := 12) (by omega) (by omega)).mp c1
    refine lv_bipush (v := (-4)) hx hb dX5_figure_9 (by decide) ?_
    exact K_iret (wf := (fun (u : Nat) => wX5 cI cZ cG h5 a5 (nI nr) (nI nt) (nI nc) (nI nw) hd (nI wk) (nI ng) (nI nT) mi (nI u) (nI nn) mru mth mcl mfa mwa mfz mbl mbk mtr mno mlo mip mto)) nf hx hb hr hlocks hP hK hD hS dX5_figure_11 (by simp [rFigure, eq_true c1])
theorem inX5_note : ∀ w ∈ wsX50, w ∈ wsX5_note := by decide +kernel
set_option maxHeartbeats 8000000 in
set_option maxRecDepth 100000 in
/-- note -/
theorem c_X5_note (l : Launch) (D : va_G) (cI cZ cG : ClassId) (h5 : Nat) (a5 : Nat → Nat) (sz : Nat) (nr : Nat) (nt : Nat) (nc : Nat) (nw : Nat) (hd : Int32) (wk : Nat) (ng : Nat) (nT : Nat) (mi : Int32) (nf : Nat) (nn : Nat) (mru : Nat → Int32) (mth : Nat → Int32) (mcl : Nat → Int32) (mfa : Nat → Int32) (mwa : Nat → Int32) (mfz : Nat → Int32) (mbl : Nat → Int32) (mbk : Nat → Int32) (mtr : Nat → Int32) (mno : Nat → Int32) (mlo : Nat → Int32) (mip : Nat → Int32) (mto : Nat → Int32) (x : Int32) (d : Int32) (t : Int32) (q : Int32) (hnr : nr ≤ 6) (hnt : nt ≤ 20) (hnc : nc ≤ 60) (hnw : nw ≤ 24) (hwk : wk ≤ 200) (hng : ng ≤ 3) (hnT : nT ≤ 4) (hnf : nf ≤ 12) (hnn : nn ≤ 60) : Met l yX5_note wsX5_note ({ frames := 2, cells := 0, slots := 0, locals := 43 } : Room) (va_Pc [.ref h5, .int x, .int d, .int t, .int q] (PB D (tyL cI cZ cG) (wX5 cI cZ cG h5 a5 (nI nr) (nI nt) (nI nc) (nI nw) hd (nI wk) (nI ng) (nI nT) mi (nI nf) (nI nn) mru mth mcl mfa mwa mfz mbl mbk mtr mno mlo mip mto) sz)) (va_Qi (fun (r : Int32) (u : Nat × (Nat → Int32)) => r = rNote nf nn (col 4 2 mno) x d t q ∧ u = if okNote nf nn (col 4 2 mno) x d t q = true then (nn + 1, upd (upd (upd (upd mno (4 * nn) x) (4 * nn + 1) d) (4 * nn + 2) t) (4 * nn + 3) q) else (nn, mno)) (fun u => QB D (tyL cI cZ cG) (va_A (wX5 cI cZ cG h5 a5 (nI nr) (nI nt) (nI nc) (nI nw) hd (nI wk) (nI ng) (nI nT) mi (nI nf) (nI nn) mru mth mcl mfa mwa mfz mbl mbk mtr mno mlo mip mto) sz) ((fun (u : Nat × (Nat → Int32)) => wX5 cI cZ cG h5 a5 (nI nr) (nI nt) (nI nc) (nI nw) hd (nI wk) (nI ng) (nI nT) mi (nI nf) (nI u.1) mru mth mcl mfa mwa mfz mbl mbk mtr u.2 mlo mip mto) u)) (va_A (wX5 cI cZ cG h5 a5 (nI nr) (nI nt) (nI nc) (nI nw) hd (nI wk) (nI ng) (nI nT) mi (nI nf) (nI nn) mru mth mcl mfa mwa mfz mbl mbk mtr mno mlo mip mto) sz)) 0 0 (va_A (wX5 cI cZ cG h5 a5 (nI nr) (nI nt) (nI nc) (nI nw) hd (nI wk) (nI ng) (nI nT) mi (nI nf) (nI nn) mru mth mcl mfa mwa mfz mbl mbk mtr mno mlo mip mto) sz) := by
  refine K_start (cc := cX5_note) (maxL := 5) (ret := some .int) (Qc := fun A => va_Qi (fun (r : Int32) (u : Nat × (Nat → Int32)) => r = rNote nf nn (col 4 2 mno) x d t q ∧ u = if okNote nf nn (col 4 2 mno) x d t q = true then (nn + 1, upd (upd (upd (upd mno (4 * nn) x) (4 * nn + 1) d) (4 * nn + 2) t) (4 * nn + 3) q) else (nn, mno)) (fun u => QB D (tyL cI cZ cG) A ((fun (u : Nat × (Nat → Int32)) => wX5 cI cZ cG h5 a5 (nI nr) (nI nt) (nI nc) (nI nw) hd (nI wk) (nI ng) (nI nT) mi (nI nf) (nI u.1) mru mth mcl mfa mwa mfz mbl mbk mtr u.2 mlo mip mto) u)) A) (by decide) rfl (Nat.le_of_ble_eq_true rfl) ?_
  intro p e s m below meth c ls A hx hb hml hr hts hown hlocks hin hN hP hK hD hA hS hl hsz
  have hl : lv_has ls 5 [(0, .ref h5), (1, .int x), (2, .int d), (3, .int t), (4, .int q)] := hl
  have fl141 := hts (.fieldLink RX5 141 "ModelTownModel" "notes" "I") (by decide +kernel)
  have fl42 := hts (.fieldLink RX5 42 "ModelTownModel" "note" "[I") (by decide +kernel)
  refine lv_aload_n hx hb dX5_note_0 rfl (lv_at hl 0 rfl) ?_
  refine lv_iload_n hx hb dX5_note_1 rfl (lv_at hl 1 rfl) ?_
  refine K_same (va_runV (As := [.int x]) (rest := []) ⟨hx, hb, hml, hown, hts⟩ (c_X5_isFigure l D cI cZ cG h5 a5 _ nr nt nc nw hd wk ng nT mi nf nn mru mth mcl mfa mwa mfz mbl mbk mtr mno mlo mip mto x hnr hnt hnc hnw hwk hng hnT hnf hnn) (cwV 1 hts gX5_note_X5_isFigure rfl rfl rfl (by decide +kernel) ⟨(Nat.le_of_ble_eq_true rfl), (Nat.le_of_ble_eq_true rfl)⟩) ⟨PB_blind, va_recv hK hP (ci := 5) (q0 := 0) rfl rfl, (K_preS hN hK hP hD).2⟩ rfl rfl hl.1 rfl (lv_room (Nat.le_of_ble_eq_true rfl)) dX5_note_2 ⟨Nat.zero_le _, Nat.zero_le _⟩) hD hS hA (fun r1 u H locs hw1 hP hD hS => ?_)
  have hP : va_P D vwCl (wX5 cI cZ cG h5 a5 (nI nr) (nI nt) (nI nc) (nI nw) hd (nI wk) (nI ng) (nI nT) mi (nI nf) (nI nn) mru mth mcl mfa mwa mfz mbl mbk mtr mno mlo mip mto) H := hP
  have hD : va_D A (wX5 cI cZ cG h5 a5 (nI nr) (nI nt) (nI nc) (nI nw) hd (nI wk) (nI ng) (nI nT) mi (nI nf) (nI nn) mru mth mcl mfa mwa mfz mbl mbk mtr mno mlo mip mto) := hD
  rcases hw1 with ⟨rfl, hw1⟩ | ⟨rfl, hw1⟩
  · skip
    refine lv_if_ne (tgt := 10) hx hb dX5_note_5 (by decide) (fun _ => ?_) (fun c2 => absurd c2 (by decide))
    refine lv_iload_n hx hb dX5_note_10 rfl (lv_at hl 2 rfl) ?_
    refine K_none (va_runS (As := [.int d]) (rest := []) ⟨hx, hb, hml, hown, hts⟩ (c_X5_isDay l D cI cZ cG _ d) (va_cwS 1 hts gX5_note_X5_isDay rfl rfl rfl (by decide +kernel) ⟨(Nat.le_of_ble_eq_true rfl), (Nat.le_of_ble_eq_true rfl)⟩) (K_pre0 hN hK) rfl rfl hl.1 rfl (lv_room (Nat.le_of_ble_eq_true rfl)) dX5_note_11 ⟨Nat.zero_le _, Nat.zero_le _⟩) hP hS hA (fun r3 _ H locs hw3 hP hS => ?_)
    rcases hw3 with ⟨rfl, hw3⟩ | ⟨rfl, hw3⟩
    · skip
      refine lv_if_eq (tgt := 32) hx hb dX5_note_14 (by decide) (fun c4 => absurd c4 (by decide)) (fun _ => ?_)
      refine lv_iload_n hx hb dX5_note_17 rfl (lv_at hl 3 rfl) ?_
      refine K_none (va_runS (As := [.int t]) (rest := []) ⟨hx, hb, hml, hown, hts⟩ (c_X5_isDay l D cI cZ cG _ t) (va_cwS 1 hts gX5_note_X5_isDay rfl rfl rfl (by decide +kernel) ⟨(Nat.le_of_ble_eq_true rfl), (Nat.le_of_ble_eq_true rfl)⟩) (K_pre0 hN hK) rfl rfl hl.1 rfl (lv_room (Nat.le_of_ble_eq_true rfl)) dX5_note_18 ⟨Nat.zero_le _, Nat.zero_le _⟩) hP hS hA (fun r5 _ H locs hw5 hP hS => ?_)
      rcases hw5 with ⟨rfl, hw5⟩ | ⟨rfl, hw5⟩
      · skip
        refine lv_if_eq (tgt := 32) hx hb dX5_note_21 (by decide) (fun c6 => absurd c6 (by decide)) (fun _ => ?_)
        refine lv_iload hx hb dX5_note_24 (lv_at hl 4 rfl) ?_
        refine K_none (va_runS (As := [.int q]) (rest := []) ⟨hx, hb, hml, hown, hts⟩ (c_X5_isPlace l D cI cZ cG _ q) (va_cwS 1 hts gX5_note_X5_isPlace rfl rfl rfl (by decide +kernel) ⟨(Nat.le_of_ble_eq_true rfl), (Nat.le_of_ble_eq_true rfl)⟩) (K_pre0 hN hK) rfl rfl hl.1 rfl (lv_room (Nat.le_of_ble_eq_true rfl)) dX5_note_26 ⟨Nat.zero_le _, Nat.zero_le _⟩) hP hS hA (fun r7 _ H locs hw7 hP hS => ?_)
        rcases hw7 with ⟨rfl, hw7⟩ | ⟨rfl, hw7⟩
        · skip
          refine lv_if_ne (tgt := 35) hx hb dX5_note_29 (by decide) (fun _ => ?_) (fun c8 => absurd c8 (by decide))
          refine lv_aload_n hx hb dX5_note_35 rfl (lv_at hl 0 rfl) ?_
          refine va_get (D := D) (ci := 5) (v := .int (nI nn)) (C := RX5) (T := TX5) (N := 24) hx hb hts inX5_note hown hK hP 0 rfl rfl 19 (by decide) fl141 (fun _ h9 => h9) rfl dX5_note_36 ?_
          refine lv_bipush (v := 60) hx hb dX5_note_39 (by decide) ?_
          refine lv_icmp_ne (tgt := 47) hx hb dX5_note_41 (by decide) (fun c9 => ?_) (fun c9 => ?_)
          · have c9 : ¬ nn = 60 := fun hq => c9 ((nI_eq (a := nn) (b := 60) (by omega) (by omega)).mpr hq)
            refine lv_iload_n hx hb dX5_note_47 rfl (lv_at hl 2 rfl) ?_
            refine lv_iload_n hx hb dX5_note_48 rfl (lv_at hl 3 rfl) ?_
            refine lv_icmp_gt (tgt := 76) hx hb dX5_note_49 (by decide) (fun c10 => ?_) (fun c10 => ?_)
            · replace c10 := Int32.not_le.mpr c10
              refine lv_bipush (v := (-5)) hx hb dX5_note_76 (by decide) ?_
              exact K_iret (wf := (fun (u : Nat × (Nat → Int32)) => wX5 cI cZ cG h5 a5 (nI nr) (nI nt) (nI nc) (nI nw) hd (nI wk) (nI ng) (nI nT) mi (nI nf) (nI u.1) mru mth mcl mfa mwa mfz mbl mbk mtr u.2 mlo mip mto)) (nn, mno) hx hb hr hlocks hP hK hD hS dX5_note_78 (by simp [rNote, okNote, col, hw1, hw3, hw5, hw7, c9, c10])
            · replace c10 := Int32.not_lt.mp c10
              refine lv_aload_n hx hb dX5_note_52 rfl (lv_at hl 0 rfl) ?_
              refine va_get (D := D) (ci := 5) (v := .int (nI nn)) (C := RX5) (T := TX5) (N := 24) hx hb hts inX5_note hown hK hP 0 rfl rfl 19 (by decide) fl141 (fun _ h9 => h9) rfl dX5_note_53 ?_
              refine lv_if_le (tgt := 79) hx hb dX5_note_56 (by decide) (fun c11 => ?_) (fun c11 => ?_)
              · have c11 : nn ≤ 0 := (nI_leI (a := nn) (b := 0) (by omega) (by omega)).mp c11
                have c11 : nn = 0 := by omega
                refine lv_aload_n hx hb dX5_note_79 rfl (lv_at hl 0 rfl) ?_
                refine va_get (D := D) (ci := 5) (v := .ref (a5 9)) (C := RX5) (T := TX5) (N := 24) hx hb hts inX5_note hown hK hP 0 rfl rfl 20 (by decide) fl42 (fun _ h9 => h9) rfl dX5_note_80 ?_
                refine lv_iconst (v := 4) hx hb dX5_note_83 (by decide) ?_
                refine lv_aload_n hx hb dX5_note_84 rfl (lv_at hl 0 rfl) ?_
                refine va_get (D := D) (ci := 5) (v := .int (nI nn)) (C := RX5) (T := TX5) (N := 24) hx hb hts inX5_note hown hK hP 0 rfl rfl 19 (by decide) fl141 (fun _ h9 => h9) rfl dX5_note_85 ?_
                refine lv_imul hx hb dX5_note_88 ?_
                refine lv_topi (fun z12 ez12 => ?_)
                obtain rfl : z12 = nI (4 * nn) := ez12.trans (pk_mul 4 nn)
                refine lv_iload_n hx hb dX5_note_89 rfl (lv_at hl 1 rfl) ?_
                refine K_iast hx hb hK hP hD hS 10 0 rfl rfl (4 * nn) (by omega) (Nat.le_of_ble_eq_true rfl) dX5_note_90 (fun H locs hP hD hS => ?_)
                have hP : va_P D vwCl (wX5 cI cZ cG h5 a5 (nI nr) (nI nt) (nI nc) (nI nw) hd (nI wk) (nI ng) (nI nT) mi (nI nf) (nI nn) mru mth mcl mfa mwa mfz mbl mbk mtr (upd mno (4 * nn) x) mlo mip mto) H := hP
                have hD : va_D A (wX5 cI cZ cG h5 a5 (nI nr) (nI nt) (nI nc) (nI nw) hd (nI wk) (nI ng) (nI nT) mi (nI nf) (nI nn) mru mth mcl mfa mwa mfz mbl mbk mtr (upd mno (4 * nn) x) mlo mip mto) := hD
                refine lv_aload_n hx hb dX5_note_91 rfl (lv_at hl 0 rfl) ?_
                refine va_get (D := D) (ci := 5) (v := .ref (a5 9)) (C := RX5) (T := TX5) (N := 24) hx hb hts inX5_note hown hK hP 0 rfl rfl 20 (by decide) fl42 (fun _ h9 => h9) rfl dX5_note_92 ?_
                refine lv_iconst (v := 4) hx hb dX5_note_95 (by decide) ?_
                refine lv_aload_n hx hb dX5_note_96 rfl (lv_at hl 0 rfl) ?_
                refine va_get (D := D) (ci := 5) (v := .int (nI nn)) (C := RX5) (T := TX5) (N := 24) hx hb hts inX5_note hown hK hP 0 rfl rfl 19 (by decide) fl141 (fun _ h9 => h9) rfl dX5_note_97 ?_
                refine lv_imul hx hb dX5_note_100 ?_
                refine lv_topi (fun z13 ez13 => ?_)
                obtain rfl : z13 = nI (4 * nn) := ez13.trans (pk_mul 4 nn)
                refine lv_iconst (v := 1) hx hb dX5_note_101 (by decide) ?_
                refine lv_iadd hx hb dX5_note_102 ?_
                refine lv_topi (fun z14 ez14 => ?_)
                obtain rfl : z14 = nI (4 * nn + 1) := ez14.trans ((nI_add (4 * nn) 1).trans (congrArg nI (by omega)))
                refine lv_iload_n hx hb dX5_note_103 rfl (lv_at hl 2 rfl) ?_
                refine K_iast hx hb hK hP hD hS 10 0 rfl rfl (4 * nn + 1) (by omega) (Nat.le_of_ble_eq_true rfl) dX5_note_104 (fun H locs hP hD hS => ?_)
                have hP : va_P D vwCl (wX5 cI cZ cG h5 a5 (nI nr) (nI nt) (nI nc) (nI nw) hd (nI wk) (nI ng) (nI nT) mi (nI nf) (nI nn) mru mth mcl mfa mwa mfz mbl mbk mtr (upd (upd mno (4 * nn) x) (4 * nn + 1) d) mlo mip mto) H := hP
                have hD : va_D A (wX5 cI cZ cG h5 a5 (nI nr) (nI nt) (nI nc) (nI nw) hd (nI wk) (nI ng) (nI nT) mi (nI nf) (nI nn) mru mth mcl mfa mwa mfz mbl mbk mtr (upd (upd mno (4 * nn) x) (4 * nn + 1) d) mlo mip mto) := hD
                refine lv_aload_n hx hb dX5_note_105 rfl (lv_at hl 0 rfl) ?_
                refine va_get (D := D) (ci := 5) (v := .ref (a5 9)) (C := RX5) (T := TX5) (N := 24) hx hb hts inX5_note hown hK hP 0 rfl rfl 20 (by decide) fl42 (fun _ h9 => h9) rfl dX5_note_106 ?_
                refine lv_iconst (v := 4) hx hb dX5_note_109 (by decide) ?_
                refine lv_aload_n hx hb dX5_note_110 rfl (lv_at hl 0 rfl) ?_
                refine va_get (D := D) (ci := 5) (v := .int (nI nn)) (C := RX5) (T := TX5) (N := 24) hx hb hts inX5_note hown hK hP 0 rfl rfl 19 (by decide) fl141 (fun _ h9 => h9) rfl dX5_note_111 ?_
                refine lv_imul hx hb dX5_note_114 ?_
                refine lv_topi (fun z15 ez15 => ?_)
                obtain rfl : z15 = nI (4 * nn) := ez15.trans (pk_mul 4 nn)
                refine lv_iconst (v := 2) hx hb dX5_note_115 (by decide) ?_
                refine lv_iadd hx hb dX5_note_116 ?_
                refine lv_topi (fun z16 ez16 => ?_)
                obtain rfl : z16 = nI (4 * nn + 2) := ez16.trans ((nI_add (4 * nn) 2).trans (congrArg nI (by omega)))
                refine lv_iload_n hx hb dX5_note_117 rfl (lv_at hl 3 rfl) ?_
                refine K_iast hx hb hK hP hD hS 10 0 rfl rfl (4 * nn + 2) (by omega) (Nat.le_of_ble_eq_true rfl) dX5_note_118 (fun H locs hP hD hS => ?_)
                have hP : va_P D vwCl (wX5 cI cZ cG h5 a5 (nI nr) (nI nt) (nI nc) (nI nw) hd (nI wk) (nI ng) (nI nT) mi (nI nf) (nI nn) mru mth mcl mfa mwa mfz mbl mbk mtr (upd (upd (upd mno (4 * nn) x) (4 * nn + 1) d) (4 * nn + 2) t) mlo mip mto) H := hP
                have hD : va_D A (wX5 cI cZ cG h5 a5 (nI nr) (nI nt) (nI nc) (nI nw) hd (nI wk) (nI ng) (nI nT) mi (nI nf) (nI nn) mru mth mcl mfa mwa mfz mbl mbk mtr (upd (upd (upd mno (4 * nn) x) (4 * nn + 1) d) (4 * nn + 2) t) mlo mip mto) := hD
                refine lv_aload_n hx hb dX5_note_119 rfl (lv_at hl 0 rfl) ?_
                refine va_get (D := D) (ci := 5) (v := .ref (a5 9)) (C := RX5) (T := TX5) (N := 24) hx hb hts inX5_note hown hK hP 0 rfl rfl 20 (by decide) fl42 (fun _ h9 => h9) rfl dX5_note_120 ?_
                refine lv_iconst (v := 4) hx hb dX5_note_123 (by decide) ?_
                refine lv_aload_n hx hb dX5_note_124 rfl (lv_at hl 0 rfl) ?_
                refine va_get (D := D) (ci := 5) (v := .int (nI nn)) (C := RX5) (T := TX5) (N := 24) hx hb hts inX5_note hown hK hP 0 rfl rfl 19 (by decide) fl141 (fun _ h9 => h9) rfl dX5_note_125 ?_
                refine lv_imul hx hb dX5_note_128 ?_
                refine lv_topi (fun z17 ez17 => ?_)
                obtain rfl : z17 = nI (4 * nn) := ez17.trans (pk_mul 4 nn)
                refine lv_iconst (v := 3) hx hb dX5_note_129 (by decide) ?_
                refine lv_iadd hx hb dX5_note_130 ?_
                refine lv_topi (fun z18 ez18 => ?_)
                obtain rfl : z18 = nI (4 * nn + 3) := ez18.trans ((nI_add (4 * nn) 3).trans (congrArg nI (by omega)))
                refine lv_iload hx hb dX5_note_131 (lv_at hl 4 rfl) ?_
                refine K_iast hx hb hK hP hD hS 10 0 rfl rfl (4 * nn + 3) (by omega) (Nat.le_of_ble_eq_true rfl) dX5_note_133 (fun H locs hP hD hS => ?_)
                have hP : va_P D vwCl (wX5 cI cZ cG h5 a5 (nI nr) (nI nt) (nI nc) (nI nw) hd (nI wk) (nI ng) (nI nT) mi (nI nf) (nI nn) mru mth mcl mfa mwa mfz mbl mbk mtr (upd (upd (upd (upd mno (4 * nn) x) (4 * nn + 1) d) (4 * nn + 2) t) (4 * nn + 3) q) mlo mip mto) H := hP
                have hD : va_D A (wX5 cI cZ cG h5 a5 (nI nr) (nI nt) (nI nc) (nI nw) hd (nI wk) (nI ng) (nI nT) mi (nI nf) (nI nn) mru mth mcl mfa mwa mfz mbl mbk mtr (upd (upd (upd (upd mno (4 * nn) x) (4 * nn + 1) d) (4 * nn + 2) t) (4 * nn + 3) q) mlo mip mto) := hD
                refine lv_aload_n hx hb dX5_note_134 rfl (lv_at hl 0 rfl) ?_
                refine lv_dup hx hb dX5_note_135 rfl ?_
                refine va_get (D := D) (ci := 5) (v := .int (nI nn)) (C := RX5) (T := TX5) (N := 24) hx hb hts inX5_note hown hK hP 0 rfl rfl 19 (by decide) fl141 (fun _ h9 => h9) rfl dX5_note_136 ?_
                refine lv_iconst (v := 1) hx hb dX5_note_139 (by decide) ?_
                refine lv_iadd hx hb dX5_note_140 ?_
                refine lv_topi (fun z19 ez19 => ?_)
                obtain rfl : z19 = nI (nn + 1) := ez19.trans (nI_add nn 1)
                refine va_put (D := D) (ci := 5) (v := .int (nI (nn + 1))) (ty := .int) (C := RX5) (T := TX5) (N := 24) hx hb hts inX5_note tyX5 tyX5_ok nmX5 hown hK hP hD hS 0 rfl rfl 19 (by decide) fl141 (fun _ h9 => h9) rfl (by decide +kernel) rfl rfl (Nat.le_of_ble_eq_true rfl) dX5_note_141 (fun H locs hP hD hS => ?_)
                have hP : va_P D vwCl (wX5 cI cZ cG h5 a5 (nI nr) (nI nt) (nI nc) (nI nw) hd (nI wk) (nI ng) (nI nT) mi (nI nf) (nI (nn + 1)) mru mth mcl mfa mwa mfz mbl mbk mtr (upd (upd (upd (upd mno (4 * nn) x) (4 * nn + 1) d) (4 * nn + 2) t) (4 * nn + 3) q) mlo mip mto) H := hP
                have hD : va_D A (wX5 cI cZ cG h5 a5 (nI nr) (nI nt) (nI nc) (nI nw) hd (nI wk) (nI ng) (nI nT) mi (nI nf) (nI (nn + 1)) mru mth mcl mfa mwa mfz mbl mbk mtr (upd (upd (upd (upd mno (4 * nn) x) (4 * nn + 1) d) (4 * nn + 2) t) (4 * nn + 3) q) mlo mip mto) := hD
                refine lv_aload_n hx hb dX5_note_144 rfl (lv_at hl 0 rfl) ?_
                refine va_get (D := D) (ci := 5) (v := .int (nI (nn + 1))) (C := RX5) (T := TX5) (N := 24) hx hb hts inX5_note hown hK hP 0 rfl rfl 19 (by decide) fl141 (fun _ h9 => h9) rfl dX5_note_145 ?_
                exact K_iret (wf := (fun (u : Nat × (Nat → Int32)) => wX5 cI cZ cG h5 a5 (nI nr) (nI nt) (nI nc) (nI nw) hd (nI wk) (nI ng) (nI nT) mi (nI nf) (nI u.1) mru mth mcl mfa mwa mfz mbl mbk mtr u.2 mlo mip mto)) (nn + 1, upd (upd (upd (upd mno (4 * nn) x) (4 * nn + 1) d) (4 * nn + 2) t) (4 * nn + 3) q) hx hb hr hlocks hP hK hD hS dX5_note_148 (by simp [rNote, okNote, col, hw1, hw3, hw5, hw7, c9, c10, eq_true c11])
              · have c11 : ¬ nn ≤ 0 := fun hq => c11 ((nI_leI (a := nn) (b := 0) (by omega) (by omega)).mpr hq)
                have c11 : ¬ nn = 0 := by omega
                refine lv_aload_n hx hb dX5_note_59 rfl (lv_at hl 0 rfl) ?_
                refine va_get (D := D) (ci := 5) (v := .ref (a5 9)) (C := RX5) (T := TX5) (N := 24) hx hb hts inX5_note hown hK hP 0 rfl rfl 20 (by decide) fl42 (fun _ h9 => h9) rfl dX5_note_60 ?_
                refine lv_iconst (v := 4) hx hb dX5_note_63 (by decide) ?_
                refine lv_aload_n hx hb dX5_note_64 rfl (lv_at hl 0 rfl) ?_
                refine va_get (D := D) (ci := 5) (v := .int (nI nn)) (C := RX5) (T := TX5) (N := 24) hx hb hts inX5_note hown hK hP 0 rfl rfl 19 (by decide) fl141 (fun _ h9 => h9) rfl dX5_note_65 ?_
                refine lv_imul hx hb dX5_note_68 ?_
                refine lv_topi (fun z20 ez20 => ?_)
                obtain rfl : z20 = nI (4 * nn) := ez20.trans (pk_mul 4 nn)
                refine lv_iconst (v := 2) hx hb dX5_note_69 (by decide) ?_
                refine lv_isub hx hb dX5_note_70 ?_
                refine lv_topi (fun z21 ez21 => ?_)
                obtain rfl : z21 = nI (4 * (nn - 1) + 2) := ez21.trans ((pk_sub (a := 4 * nn) (b := 2) (by omega)).trans (congrArg nI (by omega)))
                refine K_iald hx hb hK hP 10 0 rfl rfl (4 * (nn - 1) + 2) (by omega) (Nat.le_of_ble_eq_true rfl) dX5_note_71 ?_
                refine lv_iload_n hx hb dX5_note_72 rfl (lv_at hl 3 rfl) ?_
                refine lv_icmp_le (tgt := 79) hx hb dX5_note_73 (by decide) (fun c22 => ?_) (fun c22 => ?_)
                · refine lv_aload_n hx hb dX5_note_79 rfl (lv_at hl 0 rfl) ?_
                  refine va_get (D := D) (ci := 5) (v := .ref (a5 9)) (C := RX5) (T := TX5) (N := 24) hx hb hts inX5_note hown hK hP 0 rfl rfl 20 (by decide) fl42 (fun _ h9 => h9) rfl dX5_note_80 ?_
                  refine lv_iconst (v := 4) hx hb dX5_note_83 (by decide) ?_
                  refine lv_aload_n hx hb dX5_note_84 rfl (lv_at hl 0 rfl) ?_
                  refine va_get (D := D) (ci := 5) (v := .int (nI nn)) (C := RX5) (T := TX5) (N := 24) hx hb hts inX5_note hown hK hP 0 rfl rfl 19 (by decide) fl141 (fun _ h9 => h9) rfl dX5_note_85 ?_
                  refine lv_imul hx hb dX5_note_88 ?_
                  refine lv_topi (fun z23 ez23 => ?_)
                  obtain rfl : z23 = nI (4 * nn) := ez23.trans (pk_mul 4 nn)
                  refine lv_iload_n hx hb dX5_note_89 rfl (lv_at hl 1 rfl) ?_
                  refine K_iast hx hb hK hP hD hS 10 0 rfl rfl (4 * nn) (by omega) (Nat.le_of_ble_eq_true rfl) dX5_note_90 (fun H locs hP hD hS => ?_)
                  have hP : va_P D vwCl (wX5 cI cZ cG h5 a5 (nI nr) (nI nt) (nI nc) (nI nw) hd (nI wk) (nI ng) (nI nT) mi (nI nf) (nI nn) mru mth mcl mfa mwa mfz mbl mbk mtr (upd mno (4 * nn) x) mlo mip mto) H := hP
                  have hD : va_D A (wX5 cI cZ cG h5 a5 (nI nr) (nI nt) (nI nc) (nI nw) hd (nI wk) (nI ng) (nI nT) mi (nI nf) (nI nn) mru mth mcl mfa mwa mfz mbl mbk mtr (upd mno (4 * nn) x) mlo mip mto) := hD
                  refine lv_aload_n hx hb dX5_note_91 rfl (lv_at hl 0 rfl) ?_
                  refine va_get (D := D) (ci := 5) (v := .ref (a5 9)) (C := RX5) (T := TX5) (N := 24) hx hb hts inX5_note hown hK hP 0 rfl rfl 20 (by decide) fl42 (fun _ h9 => h9) rfl dX5_note_92 ?_
                  refine lv_iconst (v := 4) hx hb dX5_note_95 (by decide) ?_
                  refine lv_aload_n hx hb dX5_note_96 rfl (lv_at hl 0 rfl) ?_
                  refine va_get (D := D) (ci := 5) (v := .int (nI nn)) (C := RX5) (T := TX5) (N := 24) hx hb hts inX5_note hown hK hP 0 rfl rfl 19 (by decide) fl141 (fun _ h9 => h9) rfl dX5_note_97 ?_
                  refine lv_imul hx hb dX5_note_100 ?_
                  refine lv_topi (fun z24 ez24 => ?_)
                  obtain rfl : z24 = nI (4 * nn) := ez24.trans (pk_mul 4 nn)
                  refine lv_iconst (v := 1) hx hb dX5_note_101 (by decide) ?_
                  refine lv_iadd hx hb dX5_note_102 ?_
                  refine lv_topi (fun z25 ez25 => ?_)
                  obtain rfl : z25 = nI (4 * nn + 1) := ez25.trans ((nI_add (4 * nn) 1).trans (congrArg nI (by omega)))
                  refine lv_iload_n hx hb dX5_note_103 rfl (lv_at hl 2 rfl) ?_
                  refine K_iast hx hb hK hP hD hS 10 0 rfl rfl (4 * nn + 1) (by omega) (Nat.le_of_ble_eq_true rfl) dX5_note_104 (fun H locs hP hD hS => ?_)
                  have hP : va_P D vwCl (wX5 cI cZ cG h5 a5 (nI nr) (nI nt) (nI nc) (nI nw) hd (nI wk) (nI ng) (nI nT) mi (nI nf) (nI nn) mru mth mcl mfa mwa mfz mbl mbk mtr (upd (upd mno (4 * nn) x) (4 * nn + 1) d) mlo mip mto) H := hP
                  have hD : va_D A (wX5 cI cZ cG h5 a5 (nI nr) (nI nt) (nI nc) (nI nw) hd (nI wk) (nI ng) (nI nT) mi (nI nf) (nI nn) mru mth mcl mfa mwa mfz mbl mbk mtr (upd (upd mno (4 * nn) x) (4 * nn + 1) d) mlo mip mto) := hD
                  refine lv_aload_n hx hb dX5_note_105 rfl (lv_at hl 0 rfl) ?_
                  refine va_get (D := D) (ci := 5) (v := .ref (a5 9)) (C := RX5) (T := TX5) (N := 24) hx hb hts inX5_note hown hK hP 0 rfl rfl 20 (by decide) fl42 (fun _ h9 => h9) rfl dX5_note_106 ?_
                  refine lv_iconst (v := 4) hx hb dX5_note_109 (by decide) ?_
                  refine lv_aload_n hx hb dX5_note_110 rfl (lv_at hl 0 rfl) ?_
                  refine va_get (D := D) (ci := 5) (v := .int (nI nn)) (C := RX5) (T := TX5) (N := 24) hx hb hts inX5_note hown hK hP 0 rfl rfl 19 (by decide) fl141 (fun _ h9 => h9) rfl dX5_note_111 ?_
                  refine lv_imul hx hb dX5_note_114 ?_
                  refine lv_topi (fun z26 ez26 => ?_)
                  obtain rfl : z26 = nI (4 * nn) := ez26.trans (pk_mul 4 nn)
                  refine lv_iconst (v := 2) hx hb dX5_note_115 (by decide) ?_
                  refine lv_iadd hx hb dX5_note_116 ?_
                  refine lv_topi (fun z27 ez27 => ?_)
                  obtain rfl : z27 = nI (4 * nn + 2) := ez27.trans ((nI_add (4 * nn) 2).trans (congrArg nI (by omega)))
                  refine lv_iload_n hx hb dX5_note_117 rfl (lv_at hl 3 rfl) ?_
                  refine K_iast hx hb hK hP hD hS 10 0 rfl rfl (4 * nn + 2) (by omega) (Nat.le_of_ble_eq_true rfl) dX5_note_118 (fun H locs hP hD hS => ?_)
                  have hP : va_P D vwCl (wX5 cI cZ cG h5 a5 (nI nr) (nI nt) (nI nc) (nI nw) hd (nI wk) (nI ng) (nI nT) mi (nI nf) (nI nn) mru mth mcl mfa mwa mfz mbl mbk mtr (upd (upd (upd mno (4 * nn) x) (4 * nn + 1) d) (4 * nn + 2) t) mlo mip mto) H := hP
                  have hD : va_D A (wX5 cI cZ cG h5 a5 (nI nr) (nI nt) (nI nc) (nI nw) hd (nI wk) (nI ng) (nI nT) mi (nI nf) (nI nn) mru mth mcl mfa mwa mfz mbl mbk mtr (upd (upd (upd mno (4 * nn) x) (4 * nn + 1) d) (4 * nn + 2) t) mlo mip mto) := hD
                  refine lv_aload_n hx hb dX5_note_119 rfl (lv_at hl 0 rfl) ?_
                  refine va_get (D := D) (ci := 5) (v := .ref (a5 9)) (C := RX5) (T := TX5) (N := 24) hx hb hts inX5_note hown hK hP 0 rfl rfl 20 (by decide) fl42 (fun _ h9 => h9) rfl dX5_note_120 ?_
                  refine lv_iconst (v := 4) hx hb dX5_note_123 (by decide) ?_
                  refine lv_aload_n hx hb dX5_note_124 rfl (lv_at hl 0 rfl) ?_
                  refine va_get (D := D) (ci := 5) (v := .int (nI nn)) (C := RX5) (T := TX5) (N := 24) hx hb hts inX5_note hown hK hP 0 rfl rfl 19 (by decide) fl141 (fun _ h9 => h9) rfl dX5_note_125 ?_
                  refine lv_imul hx hb dX5_note_128 ?_
                  refine lv_topi (fun z28 ez28 => ?_)
                  obtain rfl : z28 = nI (4 * nn) := ez28.trans (pk_mul 4 nn)
                  refine lv_iconst (v := 3) hx hb dX5_note_129 (by decide) ?_
                  refine lv_iadd hx hb dX5_note_130 ?_
                  refine lv_topi (fun z29 ez29 => ?_)
                  obtain rfl : z29 = nI (4 * nn + 3) := ez29.trans ((nI_add (4 * nn) 3).trans (congrArg nI (by omega)))
                  refine lv_iload hx hb dX5_note_131 (lv_at hl 4 rfl) ?_
                  refine K_iast hx hb hK hP hD hS 10 0 rfl rfl (4 * nn + 3) (by omega) (Nat.le_of_ble_eq_true rfl) dX5_note_133 (fun H locs hP hD hS => ?_)
                  have hP : va_P D vwCl (wX5 cI cZ cG h5 a5 (nI nr) (nI nt) (nI nc) (nI nw) hd (nI wk) (nI ng) (nI nT) mi (nI nf) (nI nn) mru mth mcl mfa mwa mfz mbl mbk mtr (upd (upd (upd (upd mno (4 * nn) x) (4 * nn + 1) d) (4 * nn + 2) t) (4 * nn + 3) q) mlo mip mto) H := hP
                  have hD : va_D A (wX5 cI cZ cG h5 a5 (nI nr) (nI nt) (nI nc) (nI nw) hd (nI wk) (nI ng) (nI nT) mi (nI nf) (nI nn) mru mth mcl mfa mwa mfz mbl mbk mtr (upd (upd (upd (upd mno (4 * nn) x) (4 * nn + 1) d) (4 * nn + 2) t) (4 * nn + 3) q) mlo mip mto) := hD
                  refine lv_aload_n hx hb dX5_note_134 rfl (lv_at hl 0 rfl) ?_
                  refine lv_dup hx hb dX5_note_135 rfl ?_
                  refine va_get (D := D) (ci := 5) (v := .int (nI nn)) (C := RX5) (T := TX5) (N := 24) hx hb hts inX5_note hown hK hP 0 rfl rfl 19 (by decide) fl141 (fun _ h9 => h9) rfl dX5_note_136 ?_
                  refine lv_iconst (v := 1) hx hb dX5_note_139 (by decide) ?_
                  refine lv_iadd hx hb dX5_note_140 ?_
                  refine lv_topi (fun z30 ez30 => ?_)
                  obtain rfl : z30 = nI (nn + 1) := ez30.trans (nI_add nn 1)
                  refine va_put (D := D) (ci := 5) (v := .int (nI (nn + 1))) (ty := .int) (C := RX5) (T := TX5) (N := 24) hx hb hts inX5_note tyX5 tyX5_ok nmX5 hown hK hP hD hS 0 rfl rfl 19 (by decide) fl141 (fun _ h9 => h9) rfl (by decide +kernel) rfl rfl (Nat.le_of_ble_eq_true rfl) dX5_note_141 (fun H locs hP hD hS => ?_)
                  have hP : va_P D vwCl (wX5 cI cZ cG h5 a5 (nI nr) (nI nt) (nI nc) (nI nw) hd (nI wk) (nI ng) (nI nT) mi (nI nf) (nI (nn + 1)) mru mth mcl mfa mwa mfz mbl mbk mtr (upd (upd (upd (upd mno (4 * nn) x) (4 * nn + 1) d) (4 * nn + 2) t) (4 * nn + 3) q) mlo mip mto) H := hP
                  have hD : va_D A (wX5 cI cZ cG h5 a5 (nI nr) (nI nt) (nI nc) (nI nw) hd (nI wk) (nI ng) (nI nT) mi (nI nf) (nI (nn + 1)) mru mth mcl mfa mwa mfz mbl mbk mtr (upd (upd (upd (upd mno (4 * nn) x) (4 * nn + 1) d) (4 * nn + 2) t) (4 * nn + 3) q) mlo mip mto) := hD
                  refine lv_aload_n hx hb dX5_note_144 rfl (lv_at hl 0 rfl) ?_
                  refine va_get (D := D) (ci := 5) (v := .int (nI (nn + 1))) (C := RX5) (T := TX5) (N := 24) hx hb hts inX5_note hown hK hP 0 rfl rfl 19 (by decide) fl141 (fun _ h9 => h9) rfl dX5_note_145 ?_
                  exact K_iret (wf := (fun (u : Nat × (Nat → Int32)) => wX5 cI cZ cG h5 a5 (nI nr) (nI nt) (nI nc) (nI nw) hd (nI wk) (nI ng) (nI nT) mi (nI nf) (nI u.1) mru mth mcl mfa mwa mfz mbl mbk mtr u.2 mlo mip mto)) (nn + 1, upd (upd (upd (upd mno (4 * nn) x) (4 * nn + 1) d) (4 * nn + 2) t) (4 * nn + 3) q) hx hb hr hlocks hP hK hD hS dX5_note_148 (by simp [rNote, okNote, col, hw1, hw3, hw5, hw7, c9, c10, c11, c22])
                · refine lv_bipush (v := (-5)) hx hb dX5_note_76 (by decide) ?_
                  exact K_iret (wf := (fun (u : Nat × (Nat → Int32)) => wX5 cI cZ cG h5 a5 (nI nr) (nI nt) (nI nc) (nI nw) hd (nI wk) (nI ng) (nI nT) mi (nI nf) (nI u.1) mru mth mcl mfa mwa mfz mbl mbk mtr u.2 mlo mip mto)) (nn, mno) hx hb hr hlocks hP hK hD hS dX5_note_78 (by simp [rNote, okNote, col, hw1, hw3, hw5, hw7, c9, c10, c11, c22])
          · have c9 : nn = 60 := (nI_eq (a := nn) (b := 60) (by omega) (by omega)).mp c9
            refine lv_bipush (v := (-4)) hx hb dX5_note_44 (by decide) ?_
            exact K_iret (wf := (fun (u : Nat × (Nat → Int32)) => wX5 cI cZ cG h5 a5 (nI nr) (nI nt) (nI nc) (nI nw) hd (nI wk) (nI ng) (nI nT) mi (nI nf) (nI u.1) mru mth mcl mfa mwa mfz mbl mbk mtr u.2 mlo mip mto)) (nn, mno) hx hb hr hlocks hP hK hD hS dX5_note_46 (by simp [rNote, okNote, col, hw1, hw3, hw5, hw7, eq_true c9])
        · skip
          refine lv_if_ne (tgt := 35) hx hb dX5_note_29 (by decide) (fun c31 => absurd c31 (by decide)) (fun _ => ?_)
          refine lv_bipush (v := (-2)) hx hb dX5_note_32 (by decide) ?_
          exact K_iret (wf := (fun (u : Nat × (Nat → Int32)) => wX5 cI cZ cG h5 a5 (nI nr) (nI nt) (nI nc) (nI nw) hd (nI wk) (nI ng) (nI nT) mi (nI nf) (nI u.1) mru mth mcl mfa mwa mfz mbl mbk mtr u.2 mlo mip mto)) (nn, mno) hx hb hr hlocks hP hK hD hS dX5_note_34 (by simp [rNote, okNote, col, hw1, hw3, hw5, hw7])
      · skip
        refine lv_if_eq (tgt := 32) hx hb dX5_note_21 (by decide) (fun _ => ?_) (fun c32 => absurd c32 (by decide))
        refine lv_bipush (v := (-2)) hx hb dX5_note_32 (by decide) ?_
        exact K_iret (wf := (fun (u : Nat × (Nat → Int32)) => wX5 cI cZ cG h5 a5 (nI nr) (nI nt) (nI nc) (nI nw) hd (nI wk) (nI ng) (nI nT) mi (nI nf) (nI u.1) mru mth mcl mfa mwa mfz mbl mbk mtr u.2 mlo mip mto)) (nn, mno) hx hb hr hlocks hP hK hD hS dX5_note_34 (by simp [rNote, okNote, col, hw1, hw3, hw5])
    · skip
      refine lv_if_eq (tgt := 32) hx hb dX5_note_14 (by decide) (fun _ => ?_) (fun c33 => absurd c33 (by decide))
      refine lv_bipush (v := (-2)) hx hb dX5_note_32 (by decide) ?_
      exact K_iret (wf := (fun (u : Nat × (Nat → Int32)) => wX5 cI cZ cG h5 a5 (nI nr) (nI nt) (nI nc) (nI nw) hd (nI wk) (nI ng) (nI nT) mi (nI nf) (nI u.1) mru mth mcl mfa mwa mfz mbl mbk mtr u.2 mlo mip mto)) (nn, mno) hx hb hr hlocks hP hK hD hS dX5_note_34 (by simp [rNote, okNote, col, hw1, hw3])
  · skip
    refine lv_if_ne (tgt := 10) hx hb dX5_note_5 (by decide) (fun c34 => absurd c34 (by decide)) (fun _ => ?_)
    refine lv_iconst (v := (-1)) hx hb dX5_note_8 (by decide) ?_
    exact K_iret (wf := (fun (u : Nat × (Nat → Int32)) => wX5 cI cZ cG h5 a5 (nI nr) (nI nt) (nI nc) (nI nw) hd (nI wk) (nI ng) (nI nT) mi (nI nf) (nI u.1) mru mth mcl mfa mwa mfz mbl mbk mtr u.2 mlo mip mto)) (nn, mno) hx hb hr hlocks hP hK hD hS dX5_note_9 (by simp [rNote, okNote, col, hw1])
theorem inX5_told : ∀ w ∈ wsX50, w ∈ wsX5_told := by decide +kernel
set_option maxHeartbeats 8000000 in
set_option maxRecDepth 100000 in
/-- told -/
theorem c_X5_told (l : Launch) (D : va_G) (cI cZ cG : ClassId) (h5 : Nat) (a5 : Nat → Nat) (sz : Nat) (nr : Nat) (nt : Nat) (nc : Nat) (nw : Nat) (hd : Int32) (wk : Nat) (ng : Nat) (nT : Nat) (mi : Int32) (nf : Nat) (nn : Nat) (mru : Nat → Int32) (mth : Nat → Int32) (mcl : Nat → Int32) (mfa : Nat → Int32) (mwa : Nat → Int32) (mfz : Nat → Int32) (mbl : Nat → Int32) (mbk : Nat → Int32) (mtr : Nat → Int32) (mno : Nat → Int32) (mlo : Nat → Int32) (mip : Nat → Int32) (mto : Nat → Int32) (w : Int32) (hnr : nr ≤ 6) (hnt : nt ≤ 20) (hnc : nc ≤ 60) (hnw : nw ≤ 24) (hwk : wk ≤ 200) (hng : ng ≤ 3) (hnT : nT ≤ 4) (hnf : nf ≤ 12) (hnn : nn ≤ 60) : Met l yX5_told wsX5_told ({ frames := 0, cells := 0, slots := 0, locals := 0 } : Room) (va_Pc [.ref h5, .int w] (PB D (tyL cI cZ cG) (wX5 cI cZ cG h5 a5 (nI nr) (nI nt) (nI nc) (nI nw) hd (nI wk) (nI ng) (nI nT) mi (nI nf) (nI nn) mru mth mcl mfa mwa mfz mbl mbk mtr mno mlo mip mto) sz)) (va_Qi (fun (r : Int32) (_ : Unit) => r = rTold nr nt nw wk hd ng nT mi nf nn w) (fun u => QB D (tyL cI cZ cG) (va_A (wX5 cI cZ cG h5 a5 (nI nr) (nI nt) (nI nc) (nI nw) hd (nI wk) (nI ng) (nI nT) mi (nI nf) (nI nn) mru mth mcl mfa mwa mfz mbl mbk mtr mno mlo mip mto) sz) ((fun (_ : Unit) => wX5 cI cZ cG h5 a5 (nI nr) (nI nt) (nI nc) (nI nw) hd (nI wk) (nI ng) (nI nT) mi (nI nf) (nI nn) mru mth mcl mfa mwa mfz mbl mbk mtr mno mlo mip mto) u)) (va_A (wX5 cI cZ cG h5 a5 (nI nr) (nI nt) (nI nc) (nI nw) hd (nI wk) (nI ng) (nI nT) mi (nI nf) (nI nn) mru mth mcl mfa mwa mfz mbl mbk mtr mno mlo mip mto) sz)) 0 0 (va_A (wX5 cI cZ cG h5 a5 (nI nr) (nI nt) (nI nc) (nI nw) hd (nI wk) (nI ng) (nI nT) mi (nI nf) (nI nn) mru mth mcl mfa mwa mfz mbl mbk mtr mno mlo mip mto) sz) := by
  refine K_start (cc := cX5_told) (maxL := 2) (ret := some .int) (Qc := fun A => va_Qi (fun (r : Int32) (_ : Unit) => r = rTold nr nt nw wk hd ng nT mi nf nn w) (fun u => QB D (tyL cI cZ cG) A ((fun (_ : Unit) => wX5 cI cZ cG h5 a5 (nI nr) (nI nt) (nI nc) (nI nw) hd (nI wk) (nI ng) (nI nT) mi (nI nf) (nI nn) mru mth mcl mfa mwa mfz mbl mbk mtr mno mlo mip mto) u)) A) (by decide) rfl (Nat.le_of_ble_eq_true rfl) ?_
  intro p e s m below meth c ls A hx hb hml hr hts hown hlocks hin hN hP hK hD hA hS hl hsz
  have hl : lv_has ls 2 [(0, .ref h5), (1, .int w)] := hl
  have fl62 := hts (.fieldLink RX5 62 "ModelTownModel" "rules" "I") (by decide +kernel)
  have fl70 := hts (.fieldLink RX5 70 "ModelTownModel" "things" "I") (by decide +kernel)
  have fl85 := hts (.fieldLink RX5 85 "ModelTownModel" "walls" "I") (by decide +kernel)
  have fl91 := hts (.fieldLink RX5 91 "ModelTownModel" "week" "I") (by decide +kernel)
  have fl25 := hts (.fieldLink RX5 25 "ModelTownModel" "hands" "I") (by decide +kernel)
  have fl104 := hts (.fieldLink RX5 104 "ModelTownModel" "rings" "I") (by decide +kernel)
  have fl110 := hts (.fieldLink RX5 110 "ModelTownModel" "trains" "I") (by decide +kernel)
  have fl129 := hts (.fieldLink RX5 129 "ModelTownModel" "minutes" "I") (by decide +kernel)
  have fl132 := hts (.fieldLink RX5 132 "ModelTownModel" "figures" "I") (by decide +kernel)
  have fl141 := hts (.fieldLink RX5 141 "ModelTownModel" "notes" "I") (by decide +kernel)
  refine lv_iload_n hx hb dX5_told_0 rfl (lv_at hl 1 rfl) ?_
  rcases (sw_10 w : w = 0 ∨ w = 1 ∨ w = 2 ∨ w = 3 ∨ w = 4 ∨ w = 5 ∨ w = 6 ∨ w = 7 ∨ w = 8 ∨ w = 9 ∨ (w.toInt < 0 ∨ 9 < w.toInt)) with hsw1 | hsw1 | hsw1 | hsw1 | hsw1 | hsw1 | hsw1 | hsw1 | hsw1 | hsw1 | hsw1
  · subst hsw1
    refine lv_tableIn (off := 55) (tgt := 56) hx hb dX5_told_1 (by decide) (by decide) (by rfl) (by decide) ?_
    refine lv_aload_n hx hb dX5_told_56 rfl (lv_at hl 0 rfl) ?_
    refine va_get (D := D) (ci := 5) (v := .int (nI nr)) (C := RX5) (T := TX5) (N := 24) hx hb hts inX5_told hown hK hP 0 rfl rfl 0 (by decide) fl62 (fun _ h9 => h9) rfl dX5_told_57 ?_
    exact K_iret (wf := (fun (_ : Unit) => wX5 cI cZ cG h5 a5 (nI nr) (nI nt) (nI nc) (nI nw) hd (nI wk) (nI ng) (nI nT) mi (nI nf) (nI nn) mru mth mcl mfa mwa mfz mbl mbk mtr mno mlo mip mto)) () hx hb hr hlocks hP hK hD hS dX5_told_60 (by simp [rTold])
  · subst hsw1
    refine lv_tableIn (off := 60) (tgt := 61) hx hb dX5_told_1 (by decide) (by decide) (by rfl) (by decide) ?_
    refine lv_aload_n hx hb dX5_told_61 rfl (lv_at hl 0 rfl) ?_
    refine va_get (D := D) (ci := 5) (v := .int (nI nt)) (C := RX5) (T := TX5) (N := 24) hx hb hts inX5_told hown hK hP 0 rfl rfl 2 (by decide) fl70 (fun _ h9 => h9) rfl dX5_told_62 ?_
    exact K_iret (wf := (fun (_ : Unit) => wX5 cI cZ cG h5 a5 (nI nr) (nI nt) (nI nc) (nI nw) hd (nI wk) (nI ng) (nI nT) mi (nI nf) (nI nn) mru mth mcl mfa mwa mfz mbl mbk mtr mno mlo mip mto)) () hx hb hr hlocks hP hK hD hS dX5_told_65 (by simp [rTold])
  · subst hsw1
    refine lv_tableIn (off := 65) (tgt := 66) hx hb dX5_told_1 (by decide) (by decide) (by rfl) (by decide) ?_
    refine lv_aload_n hx hb dX5_told_66 rfl (lv_at hl 0 rfl) ?_
    refine va_get (D := D) (ci := 5) (v := .int (nI nw)) (C := RX5) (T := TX5) (N := 24) hx hb hts inX5_told hown hK hP 0 rfl rfl 7 (by decide) fl85 (fun _ h9 => h9) rfl dX5_told_67 ?_
    exact K_iret (wf := (fun (_ : Unit) => wX5 cI cZ cG h5 a5 (nI nr) (nI nt) (nI nc) (nI nw) hd (nI wk) (nI ng) (nI nT) mi (nI nf) (nI nn) mru mth mcl mfa mwa mfz mbl mbk mtr mno mlo mip mto)) () hx hb hr hlocks hP hK hD hS dX5_told_70 (by simp [rTold])
  · subst hsw1
    refine lv_tableIn (off := 70) (tgt := 71) hx hb dX5_told_1 (by decide) (by decide) (by rfl) (by decide) ?_
    refine lv_aload_n hx hb dX5_told_71 rfl (lv_at hl 0 rfl) ?_
    refine va_get (D := D) (ci := 5) (v := .int (nI wk)) (C := RX5) (T := TX5) (N := 24) hx hb hts inX5_told hown hK hP 0 rfl rfl 11 (by decide) fl91 (fun _ h9 => h9) rfl dX5_told_72 ?_
    exact K_iret (wf := (fun (_ : Unit) => wX5 cI cZ cG h5 a5 (nI nr) (nI nt) (nI nc) (nI nw) hd (nI wk) (nI ng) (nI nT) mi (nI nf) (nI nn) mru mth mcl mfa mwa mfz mbl mbk mtr mno mlo mip mto)) () hx hb hr hlocks hP hK hD hS dX5_told_75 (by simp [rTold])
  · subst hsw1
    refine lv_tableIn (off := 75) (tgt := 76) hx hb dX5_told_1 (by decide) (by decide) (by rfl) (by decide) ?_
    refine lv_aload_n hx hb dX5_told_76 rfl (lv_at hl 0 rfl) ?_
    refine va_get (D := D) (ci := 5) (v := .int hd) (C := RX5) (T := TX5) (N := 24) hx hb hts inX5_told hown hK hP 0 rfl rfl 9 (by decide) fl25 (fun _ h9 => h9) rfl dX5_told_77 ?_
    exact K_iret (wf := (fun (_ : Unit) => wX5 cI cZ cG h5 a5 (nI nr) (nI nt) (nI nc) (nI nw) hd (nI wk) (nI ng) (nI nT) mi (nI nf) (nI nn) mru mth mcl mfa mwa mfz mbl mbk mtr mno mlo mip mto)) () hx hb hr hlocks hP hK hD hS dX5_told_80 (by simp [rTold])
  · subst hsw1
    refine lv_tableIn (off := 80) (tgt := 81) hx hb dX5_told_1 (by decide) (by decide) (by rfl) (by decide) ?_
    refine lv_aload_n hx hb dX5_told_81 rfl (lv_at hl 0 rfl) ?_
    refine va_get (D := D) (ci := 5) (v := .int (nI ng)) (C := RX5) (T := TX5) (N := 24) hx hb hts inX5_told hown hK hP 0 rfl rfl 12 (by decide) fl104 (fun _ h9 => h9) rfl dX5_told_82 ?_
    exact K_iret (wf := (fun (_ : Unit) => wX5 cI cZ cG h5 a5 (nI nr) (nI nt) (nI nc) (nI nw) hd (nI wk) (nI ng) (nI nT) mi (nI nf) (nI nn) mru mth mcl mfa mwa mfz mbl mbk mtr mno mlo mip mto)) () hx hb hr hlocks hP hK hD hS dX5_told_85 (by simp [rTold])
  · subst hsw1
    refine lv_tableIn (off := 85) (tgt := 86) hx hb dX5_told_1 (by decide) (by decide) (by rfl) (by decide) ?_
    refine lv_aload_n hx hb dX5_told_86 rfl (lv_at hl 0 rfl) ?_
    refine va_get (D := D) (ci := 5) (v := .int (nI nT)) (C := RX5) (T := TX5) (N := 24) hx hb hts inX5_told hown hK hP 0 rfl rfl 15 (by decide) fl110 (fun _ h9 => h9) rfl dX5_told_87 ?_
    exact K_iret (wf := (fun (_ : Unit) => wX5 cI cZ cG h5 a5 (nI nr) (nI nt) (nI nc) (nI nw) hd (nI wk) (nI ng) (nI nT) mi (nI nf) (nI nn) mru mth mcl mfa mwa mfz mbl mbk mtr mno mlo mip mto)) () hx hb hr hlocks hP hK hD hS dX5_told_90 (by simp [rTold])
  · subst hsw1
    refine lv_tableIn (off := 90) (tgt := 91) hx hb dX5_told_1 (by decide) (by decide) (by rfl) (by decide) ?_
    refine lv_aload_n hx hb dX5_told_91 rfl (lv_at hl 0 rfl) ?_
    refine va_get (D := D) (ci := 5) (v := .int mi) (C := RX5) (T := TX5) (N := 24) hx hb hts inX5_told hown hK hP 0 rfl rfl 17 (by decide) fl129 (fun _ h9 => h9) rfl dX5_told_92 ?_
    exact K_iret (wf := (fun (_ : Unit) => wX5 cI cZ cG h5 a5 (nI nr) (nI nt) (nI nc) (nI nw) hd (nI wk) (nI ng) (nI nT) mi (nI nf) (nI nn) mru mth mcl mfa mwa mfz mbl mbk mtr mno mlo mip mto)) () hx hb hr hlocks hP hK hD hS dX5_told_95 (by simp [rTold])
  · subst hsw1
    refine lv_tableIn (off := 95) (tgt := 96) hx hb dX5_told_1 (by decide) (by decide) (by rfl) (by decide) ?_
    refine lv_aload_n hx hb dX5_told_96 rfl (lv_at hl 0 rfl) ?_
    refine va_get (D := D) (ci := 5) (v := .int (nI nf)) (C := RX5) (T := TX5) (N := 24) hx hb hts inX5_told hown hK hP 0 rfl rfl 18 (by decide) fl132 (fun _ h9 => h9) rfl dX5_told_97 ?_
    exact K_iret (wf := (fun (_ : Unit) => wX5 cI cZ cG h5 a5 (nI nr) (nI nt) (nI nc) (nI nw) hd (nI wk) (nI ng) (nI nT) mi (nI nf) (nI nn) mru mth mcl mfa mwa mfz mbl mbk mtr mno mlo mip mto)) () hx hb hr hlocks hP hK hD hS dX5_told_100 (by simp [rTold])
  · subst hsw1
    refine lv_tableIn (off := 100) (tgt := 101) hx hb dX5_told_1 (by decide) (by decide) (by rfl) (by decide) ?_
    refine lv_aload_n hx hb dX5_told_101 rfl (lv_at hl 0 rfl) ?_
    refine va_get (D := D) (ci := 5) (v := .int (nI nn)) (C := RX5) (T := TX5) (N := 24) hx hb hts inX5_told hown hK hP 0 rfl rfl 19 (by decide) fl141 (fun _ h9 => h9) rfl dX5_told_102 ?_
    exact K_iret (wf := (fun (_ : Unit) => wX5 cI cZ cG h5 a5 (nI nr) (nI nt) (nI nc) (nI nw) hd (nI wk) (nI ng) (nI nT) mi (nI nf) (nI nn) mru mth mcl mfa mwa mfz mbl mbk mtr mno mlo mip mto)) () hx hb hr hlocks hP hK hD hS dX5_told_105 (by simp [rTold])
  · have n2 : ¬ w = 0 := fun hq => by rw [hq] at hsw1; revert hsw1; decide
    have n3 : ¬ w = 1 := fun hq => by rw [hq] at hsw1; revert hsw1; decide
    have n4 : ¬ w = 2 := fun hq => by rw [hq] at hsw1; revert hsw1; decide
    have n5 : ¬ w = 3 := fun hq => by rw [hq] at hsw1; revert hsw1; decide
    have n6 : ¬ w = 4 := fun hq => by rw [hq] at hsw1; revert hsw1; decide
    have n7 : ¬ w = 5 := fun hq => by rw [hq] at hsw1; revert hsw1; decide
    have n8 : ¬ w = 6 := fun hq => by rw [hq] at hsw1; revert hsw1; decide
    have n9 : ¬ w = 7 := fun hq => by rw [hq] at hsw1; revert hsw1; decide
    have n10 : ¬ w = 8 := fun hq => by rw [hq] at hsw1; revert hsw1; decide
    have n11 : ¬ w = 9 := fun hq => by rw [hq] at hsw1; revert hsw1; decide
    refine lv_tableOut (tgt := 106) hx hb dX5_told_1 hsw1 (by decide) ?_
    refine lv_bipush (v := (-2)) hx hb dX5_told_106 (by decide) ?_
    exact K_iret (wf := (fun (_ : Unit) => wX5 cI cZ cG h5 a5 (nI nr) (nI nt) (nI nc) (nI nw) hd (nI wk) (nI ng) (nI nT) mi (nI nf) (nI nn) mru mth mcl mfa mwa mfz mbl mbk mtr mno mlo mip mto)) () hx hb hr hlocks hP hK hD hS dX5_told_108 (by simp [rTold, n2, n3, n4, n5, n6, n7, n8, n9, n10, n11])

/-! the law: cases -/
section LAW
variable {p : Program} {l : Launch} {e : Env} {s : State} {m : MethodId} {args : Array Value} {below : List Frame} {meth : Method} {c : Code} {cells slots : Nat} {Q : State → Prop} {D : va_G} {A : Nat → Prop} {cI cZ cG : ClassId} {b L : Nat} {xs : Nat → Int32} {h4 : Nat} {a4 a3 a1 a2 a0 : Nat → Nat} {h5 : Nat} {a5 : Nat → Nat}
set_option maxHeartbeats 8000000 in
set_option maxRecDepth 100000 in
theorem L_rule (hx : p.tables.exec = Jvm.exec) (hb : c.code = cL_law) (hml : c.maxLocals = 4) (hown : s.vm.findClass RL = some m.cls) (hts : ∀ w ∈ wsL_law, w.before args s = true) (hN : nst s) (hK : va_K D vwCl (tyL cI cZ cG) s) (hX : va_X b L xs s s.heap) (hbl : b < s.heap.size) (hbA : ¬ A b) (hL : L ≤ 2560) (hA : ∀ q, s.heap.size ≤ q → A q) {x : RS} (ok : OKx x) {H : Heap} {locs : List Loc} {ls : Array Slot} (hP : va_P D vwCl (wAll cI cZ cG h4 a4 a3 a1 a2 a0 h5 a5 x) H) (hD : va_D A (wAll cI cZ cG h4 a4 a3 a1 a2 a0 h5 a5 x)) (hS : va_S A s.heap H locs) {k : Nat} (hk : 5 * k + 5 ≤ L) (hl : lv_has ls 4 [(3, .int (nI (5 * k))), (2, .ref h5), (1, .ref h4), (0, .ref b)])
    (kk : ∀ (x2 : RS) (H1 : Heap) (locs1 : List Loc), OKx x2 → va_P D vwCl (wAll cI cZ cG h4 a4 a3 a1 a2 a0 h5 a5 x2) H1 → va_D A (wAll cI cZ cG h4 a4 a3 a1 a2 a0 h5 a5 x2) → va_S A s.heap H1 locs1 → W p l e room_1 s m args below meth c H1 locs1 54 1995 Q (F0 m 1106 ls [])) : W p l e room_1 s m args below meth c H locs 54 1995 Q (F0 m 160 ls []) := by
  obtain ⟨ok3, ok1, ok2, ok0⟩ := ok
  have hnr := ok3.1
  have hnt := ok3.2.1
  have hnc := ok3.2.2.1
  have hrr := ok3.2.2.2.1
  have hnw := ok1.1
  have hwk := ok1.2.1
  have hsd := ok1.2.2.1
  have hhw := ok1.2.2.2.1
  have hfz := ok1.2.2.2.2.1
  have hng := ok2.1
  have hnT := ok2.2.1
  have hokT := ok2.2.2.1
  have hokL := ok2.2.2.2.1
  have hsu := ok2.2.2.2.2.2.1
  have hnf := ok0.1
  have hnn := ok0.2.1
  refine lv_aload_n hx hb dL_law_160 rfl (lv_at hl 2 rfl) ?_
  refine lv_aload_n hx hb dL_law_161 rfl (lv_at hl 3 rfl) ?_
  refine lv_iload_n hx hb dL_law_162 rfl (lv_at hl 0 rfl) ?_
  refine lv_iconst (v := 1) hx hb dL_law_163 (by decide) ?_
  refine lv_iadd hx hb dL_law_164 ?_
  refine lv_topi (fun z1 ez1 => ?_)
  obtain rfl : z1 = nI (5 * k + 1) := ez1.trans ((nI_add (5 * k) 1).trans (congrArg nI (by omega)))
  refine K_sld hx hb hX hbl hbA hS hL (5 * k + 1) (by omega) dL_law_165 ?_
  refine lv_aload_n hx hb dL_law_166 rfl (lv_at hl 3 rfl) ?_
  refine lv_iload_n hx hb dL_law_167 rfl (lv_at hl 0 rfl) ?_
  refine lv_iconst (v := 2) hx hb dL_law_168 (by decide) ?_
  refine lv_iadd hx hb dL_law_169 ?_
  refine lv_topi (fun z2 ez2 => ?_)
  obtain rfl : z2 = nI (5 * k + 2) := ez2.trans ((nI_add (5 * k) 2).trans (congrArg nI (by omega)))
  refine K_sld hx hb hX hbl hbA hS hL (5 * k + 2) (by omega) dL_law_170 ?_
  refine lv_aload_n hx hb dL_law_171 rfl (lv_at hl 3 rfl) ?_
  refine lv_iload_n hx hb dL_law_172 rfl (lv_at hl 0 rfl) ?_
  refine lv_iconst (v := 3) hx hb dL_law_173 (by decide) ?_
  refine lv_iadd hx hb dL_law_174 ?_
  refine lv_topi (fun z3 ez3 => ?_)
  obtain rfl : z3 = nI (5 * k + 3) := ez3.trans ((nI_add (5 * k) 3).trans (congrArg nI (by omega)))
  refine K_sld hx hb hX hbl hbA hS hL (5 * k + 3) (by omega) dL_law_175 ?_
  refine K_core (wc := wX4 cI cZ cG h4 a4  ++ wX3 cI cZ cG (a4 0) a3 (nI x.nr) (nI x.nt) (nI x.nc) (col 3 0 x.mru) (col 3 1 x.mru) (col 3 2 x.mru) (col 4 0 x.mth) (col 4 1 x.mth) (col 4 2 x.mth) (grM (col 4 0 x.mth) (col 4 3 x.mth)) (col 3 0 x.mcl) (col 3 1 x.mcl) (col 3 2 x.mcl)) (wr := wX1 cI cZ cG (a4 1) a1 x.hd (nI x.wk) (nI x.nw) x.ll x.lw x.lx x.lk x.mfa x.mfz (col 5 0 x.mwa) (col 5 1 x.mwa) (col 5 2 x.mwa) (col 5 3 x.mwa) (col 5 4 x.mwa) x.tl x.tt ++ wX2 cI cZ cG (a4 2) a2 (nI x.ng) (nI x.nT) x.mi x.mbl (col 7 0 x.mtr) (col 7 1 x.mtr) (col 7 2 x.mtr) (col 7 3 x.mtr) (col 7 5 x.mtr) (col 7 6 x.mtr) (col 7 4 x.mtr) (BM x.mbk) ++ wX0 cI cZ cG (a4 3) a0 (nI x.nf) (nI x.nn) (col 4 0 x.mno) (col 4 1 x.mno) (col 4 2 x.mno) (col 4 3 x.mno) ++ wX5 cI cZ cG h5 a5 (nI x.nr) (nI x.nt) (nI x.nc) (nI x.nw) x.hd (nI x.wk) (nI x.ng) (nI x.nT) x.mi (nI x.nf) (nI x.nn) x.mru x.mth x.mcl x.mfa x.mwa x.mfz x.mbl x.mbk x.mtr x.mno x.mlo x.mip x.mto) (va_runV (As := [.int (xs (5 * k + 1)), .int (xs (5 * k + 2)), .int (xs (5 * k + 3))]) (rest := []) ⟨hx, hb, hml, hown, hts⟩ (c_X4_rule l D cI cZ cG h4 a4 a3 _ x.nr x.nt x.nc (col 3 0 x.mru) (col 3 1 x.mru) (col 3 2 x.mru) (col 4 0 x.mth) (col 4 1 x.mth) (col 4 2 x.mth) (grM (col 4 0 x.mth) (col 4 3 x.mth)) (col 3 0 x.mcl) (col 3 1 x.mcl) (col 3 2 x.mcl) (xs (5 * k + 1)) (xs (5 * k + 2)) (xs (5 * k + 3)) (by omega) (by omega) (by omega)) (cwV 3 hts gL_law_X4_rule rfl rfl rfl (by decide +kernel) ⟨(Nat.le_of_ble_eq_true rfl), (Nat.le_of_ble_eq_true rfl)⟩) ⟨PB_blind, va_recv hK hP (ci := 4) (q0 := 0) rfl rfl, (K_pre hN hK hP hD [0, 1, 2, 3, 4, 5, 6, 7, 8, 9, 10, 11] rfl rfl).2⟩ rfl rfl hl.1 rfl (lv_room (Nat.le_of_ble_eq_true rfl)) dL_law_176 ⟨(Nat.le_of_ble_eq_true rfl), (Nat.le_of_ble_eq_true rfl)⟩) hP hD hS hA [0, 1, 2, 3, 4, 5, 6, 7, 8, 9, 10, 11] [12, 13, 14, 15, 16, 17, 18, 19, 20, 21, 22, 23, 24, 25, 26, 27, 28, 29, 30, 31, 32, 33, 34, 35, 36, 37, 38, 39, 40, 41, 42, 43, 44, 45, 46, 47, 48, 49, 50, 51, 52, 53] rfl rfl rfl (by decide) (fun r4 u H locs hw4 hP hD hS => ?_)
  obtain ⟨nr24, rd24, rr24, rs24⟩ := u
  try dsimp only at hw4
  have hP : va_P D vwCl (wX1 cI cZ cG (a4 1) a1 x.hd (nI x.wk) (nI x.nw) x.ll x.lw x.lx x.lk x.mfa x.mfz (col 5 0 x.mwa) (col 5 1 x.mwa) (col 5 2 x.mwa) (col 5 3 x.mwa) (col 5 4 x.mwa) x.tl x.tt ++ wX2 cI cZ cG (a4 2) a2 (nI x.ng) (nI x.nT) x.mi x.mbl (col 7 0 x.mtr) (col 7 1 x.mtr) (col 7 2 x.mtr) (col 7 3 x.mtr) (col 7 5 x.mtr) (col 7 6 x.mtr) (col 7 4 x.mtr) (BM x.mbk) ++ wX0 cI cZ cG (a4 3) a0 (nI x.nf) (nI x.nn) (col 4 0 x.mno) (col 4 1 x.mno) (col 4 2 x.mno) (col 4 3 x.mno) ++ wX5 cI cZ cG h5 a5 (nI x.nr) (nI x.nt) (nI x.nc) (nI x.nw) x.hd (nI x.wk) (nI x.ng) (nI x.nT) x.mi (nI x.nf) (nI x.nn) x.mru x.mth x.mcl x.mfa x.mwa x.mfz x.mbl x.mbk x.mtr x.mno x.mlo x.mip x.mto ++ wX4 cI cZ cG h4 a4  ++ wX3 cI cZ cG (a4 0) a3 (nI nr24) (nI x.nt) (nI x.nc) rd24 rr24 rs24 (col 4 0 x.mth) (col 4 1 x.mth) (col 4 2 x.mth) (grM (col 4 0 x.mth) (col 4 3 x.mth)) (col 3 0 x.mcl) (col 3 1 x.mcl) (col 3 2 x.mcl)) H := hP
  have hD : va_D A (wX1 cI cZ cG (a4 1) a1 x.hd (nI x.wk) (nI x.nw) x.ll x.lw x.lx x.lk x.mfa x.mfz (col 5 0 x.mwa) (col 5 1 x.mwa) (col 5 2 x.mwa) (col 5 3 x.mwa) (col 5 4 x.mwa) x.tl x.tt ++ wX2 cI cZ cG (a4 2) a2 (nI x.ng) (nI x.nT) x.mi x.mbl (col 7 0 x.mtr) (col 7 1 x.mtr) (col 7 2 x.mtr) (col 7 3 x.mtr) (col 7 5 x.mtr) (col 7 6 x.mtr) (col 7 4 x.mtr) (BM x.mbk) ++ wX0 cI cZ cG (a4 3) a0 (nI x.nf) (nI x.nn) (col 4 0 x.mno) (col 4 1 x.mno) (col 4 2 x.mno) (col 4 3 x.mno) ++ wX5 cI cZ cG h5 a5 (nI x.nr) (nI x.nt) (nI x.nc) (nI x.nw) x.hd (nI x.wk) (nI x.ng) (nI x.nT) x.mi (nI x.nf) (nI x.nn) x.mru x.mth x.mcl x.mfa x.mwa x.mfz x.mbl x.mbk x.mtr x.mno x.mlo x.mip x.mto ++ wX4 cI cZ cG h4 a4  ++ wX3 cI cZ cG (a4 0) a3 (nI nr24) (nI x.nt) (nI x.nc) rd24 rr24 rs24 (col 4 0 x.mth) (col 4 1 x.mth) (col 4 2 x.mth) (grM (col 4 0 x.mth) (col 4 3 x.mth)) (col 3 0 x.mcl) (col 3 1 x.mcl) (col 3 2 x.mcl)) := hD
  refine lv_aload_n hx hb dL_law_179 rfl (lv_at hl 1 rfl) ?_
  refine lv_aload_n hx hb dL_law_180 rfl (lv_at hl 3 rfl) ?_
  refine lv_iload_n hx hb dL_law_181 rfl (lv_at hl 0 rfl) ?_
  refine lv_iconst (v := 1) hx hb dL_law_182 (by decide) ?_
  refine lv_iadd hx hb dL_law_183 ?_
  refine lv_topi (fun z5 ez5 => ?_)
  obtain rfl : z5 = nI (5 * k + 1) := ez5.trans ((nI_add (5 * k) 1).trans (congrArg nI (by omega)))
  refine K_sld hx hb hX hbl hbA hS hL (5 * k + 1) (by omega) dL_law_184 ?_
  refine lv_aload_n hx hb dL_law_185 rfl (lv_at hl 3 rfl) ?_
  refine lv_iload_n hx hb dL_law_186 rfl (lv_at hl 0 rfl) ?_
  refine lv_iconst (v := 2) hx hb dL_law_187 (by decide) ?_
  refine lv_iadd hx hb dL_law_188 ?_
  refine lv_topi (fun z6 ez6 => ?_)
  obtain rfl : z6 = nI (5 * k + 2) := ez6.trans ((nI_add (5 * k) 2).trans (congrArg nI (by omega)))
  refine K_sld hx hb hX hbl hbA hS hL (5 * k + 2) (by omega) dL_law_189 ?_
  refine lv_aload_n hx hb dL_law_190 rfl (lv_at hl 3 rfl) ?_
  refine lv_iload_n hx hb dL_law_191 rfl (lv_at hl 0 rfl) ?_
  refine lv_iconst (v := 3) hx hb dL_law_192 (by decide) ?_
  refine lv_iadd hx hb dL_law_193 ?_
  refine lv_topi (fun z7 ez7 => ?_)
  obtain rfl : z7 = nI (5 * k + 3) := ez7.trans ((nI_add (5 * k) 3).trans (congrArg nI (by omega)))
  refine K_sld hx hb hX hbl hbA hS hL (5 * k + 3) (by omega) dL_law_194 ?_
  refine K_core (wc := wX5 cI cZ cG h5 a5 (nI x.nr) (nI x.nt) (nI x.nc) (nI x.nw) x.hd (nI x.wk) (nI x.ng) (nI x.nT) x.mi (nI x.nf) (nI x.nn) x.mru x.mth x.mcl x.mfa x.mwa x.mfz x.mbl x.mbk x.mtr x.mno x.mlo x.mip x.mto) (wr := wX1 cI cZ cG (a4 1) a1 x.hd (nI x.wk) (nI x.nw) x.ll x.lw x.lx x.lk x.mfa x.mfz (col 5 0 x.mwa) (col 5 1 x.mwa) (col 5 2 x.mwa) (col 5 3 x.mwa) (col 5 4 x.mwa) x.tl x.tt ++ wX2 cI cZ cG (a4 2) a2 (nI x.ng) (nI x.nT) x.mi x.mbl (col 7 0 x.mtr) (col 7 1 x.mtr) (col 7 2 x.mtr) (col 7 3 x.mtr) (col 7 5 x.mtr) (col 7 6 x.mtr) (col 7 4 x.mtr) (BM x.mbk) ++ wX0 cI cZ cG (a4 3) a0 (nI x.nf) (nI x.nn) (col 4 0 x.mno) (col 4 1 x.mno) (col 4 2 x.mno) (col 4 3 x.mno) ++ wX4 cI cZ cG h4 a4  ++ wX3 cI cZ cG (a4 0) a3 (nI nr24) (nI x.nt) (nI x.nc) rd24 rr24 rs24 (col 4 0 x.mth) (col 4 1 x.mth) (col 4 2 x.mth) (grM (col 4 0 x.mth) (col 4 3 x.mth)) (col 3 0 x.mcl) (col 3 1 x.mcl) (col 3 2 x.mcl)) (va_runV (As := [.int (xs (5 * k + 1)), .int (xs (5 * k + 2)), .int (xs (5 * k + 3))]) (rest := [.int r4]) ⟨hx, hb, hml, hown, hts⟩ (c_X5_rule l D cI cZ cG h5 a5 _ x.nr x.nt x.nc x.nw x.hd x.wk x.ng x.nT x.mi x.nf x.nn x.mru x.mth x.mcl x.mfa x.mwa x.mfz x.mbl x.mbk x.mtr x.mno x.mlo x.mip x.mto (xs (5 * k + 1)) (xs (5 * k + 2)) (xs (5 * k + 3)) (by omega) (by omega) (by omega) (by omega) (by omega) (by omega) (by omega) (by omega) (by omega)) (cwV 3 hts gL_law_X5_rule rfl rfl rfl (by decide +kernel) ⟨(Nat.le_of_ble_eq_true rfl), (Nat.le_of_ble_eq_true rfl)⟩) ⟨PB_blind, va_recv hK hP (ci := 5) (q0 := 28) rfl rfl, (K_pre hN hK hP hD [28, 29, 30, 31, 32, 33, 34, 35, 36, 37, 38, 39, 40, 41] rfl rfl).2⟩ rfl rfl hl.1 rfl (lv_room (Nat.le_of_ble_eq_true rfl)) dL_law_195 ⟨(Nat.le_of_ble_eq_true rfl), (Nat.le_of_ble_eq_true rfl)⟩) hP hD hS hA [28, 29, 30, 31, 32, 33, 34, 35, 36, 37, 38, 39, 40, 41] [0, 1, 2, 3, 4, 5, 6, 7, 8, 9, 10, 11, 12, 13, 14, 15, 16, 17, 18, 19, 20, 21, 22, 23, 24, 25, 26, 27, 42, 43, 44, 45, 46, 47, 48, 49, 50, 51, 52, 53] rfl rfl rfl (by decide) (fun r8 u H locs hw8 hP hD hS => ?_)
  obtain ⟨nr28, mru28⟩ := u
  try dsimp only at hw8
  have hP : va_P D vwCl (wX1 cI cZ cG (a4 1) a1 x.hd (nI x.wk) (nI x.nw) x.ll x.lw x.lx x.lk x.mfa x.mfz (col 5 0 x.mwa) (col 5 1 x.mwa) (col 5 2 x.mwa) (col 5 3 x.mwa) (col 5 4 x.mwa) x.tl x.tt ++ wX2 cI cZ cG (a4 2) a2 (nI x.ng) (nI x.nT) x.mi x.mbl (col 7 0 x.mtr) (col 7 1 x.mtr) (col 7 2 x.mtr) (col 7 3 x.mtr) (col 7 5 x.mtr) (col 7 6 x.mtr) (col 7 4 x.mtr) (BM x.mbk) ++ wX0 cI cZ cG (a4 3) a0 (nI x.nf) (nI x.nn) (col 4 0 x.mno) (col 4 1 x.mno) (col 4 2 x.mno) (col 4 3 x.mno) ++ wX4 cI cZ cG h4 a4  ++ wX3 cI cZ cG (a4 0) a3 (nI nr24) (nI x.nt) (nI x.nc) rd24 rr24 rs24 (col 4 0 x.mth) (col 4 1 x.mth) (col 4 2 x.mth) (grM (col 4 0 x.mth) (col 4 3 x.mth)) (col 3 0 x.mcl) (col 3 1 x.mcl) (col 3 2 x.mcl) ++ wX5 cI cZ cG h5 a5 (nI nr28) (nI x.nt) (nI x.nc) (nI x.nw) x.hd (nI x.wk) (nI x.ng) (nI x.nT) x.mi (nI x.nf) (nI x.nn) mru28 x.mth x.mcl x.mfa x.mwa x.mfz x.mbl x.mbk x.mtr x.mno x.mlo x.mip x.mto) H := hP
  have hD : va_D A (wX1 cI cZ cG (a4 1) a1 x.hd (nI x.wk) (nI x.nw) x.ll x.lw x.lx x.lk x.mfa x.mfz (col 5 0 x.mwa) (col 5 1 x.mwa) (col 5 2 x.mwa) (col 5 3 x.mwa) (col 5 4 x.mwa) x.tl x.tt ++ wX2 cI cZ cG (a4 2) a2 (nI x.ng) (nI x.nT) x.mi x.mbl (col 7 0 x.mtr) (col 7 1 x.mtr) (col 7 2 x.mtr) (col 7 3 x.mtr) (col 7 5 x.mtr) (col 7 6 x.mtr) (col 7 4 x.mtr) (BM x.mbk) ++ wX0 cI cZ cG (a4 3) a0 (nI x.nf) (nI x.nn) (col 4 0 x.mno) (col 4 1 x.mno) (col 4 2 x.mno) (col 4 3 x.mno) ++ wX4 cI cZ cG h4 a4  ++ wX3 cI cZ cG (a4 0) a3 (nI nr24) (nI x.nt) (nI x.nc) rd24 rr24 rs24 (col 4 0 x.mth) (col 4 1 x.mth) (col 4 2 x.mth) (grM (col 4 0 x.mth) (col 4 3 x.mth)) (col 3 0 x.mcl) (col 3 1 x.mcl) (col 3 2 x.mcl) ++ wX5 cI cZ cG h5 a5 (nI nr28) (nI x.nt) (nI x.nc) (nI x.nw) x.hd (nI x.wk) (nI x.ng) (nI x.nT) x.mi (nI x.nf) (nI x.nn) mru28 x.mth x.mcl x.mfa x.mwa x.mfz x.mbl x.mbk x.mtr x.mno x.mlo x.mip x.mto) := hD
  obtain ⟨er, e1, e2, e3, e4, ok9⟩ := st_rule ok3 hw4 hw8
  rw [e1, e2, e3, e4] at hP hD
  refine lv_icmp_eq (tgt := 1106) hx hb dL_law_198 (by decide) (fun _ => ?_) (fun c9 => absurd er c9)
  have hP := hP.sub (ws' := wX4 cI cZ cG h4 a4  ++ wX3 cI cZ cG (a4 0) a3 (nI nr28) (nI x.nt) (nI x.nc) (col 3 0 mru28) (col 3 1 mru28) (col 3 2 mru28) (col 4 0 x.mth) (col 4 1 x.mth) (col 4 2 x.mth) (grM (col 4 0 x.mth) (col 4 3 x.mth)) (col 3 0 x.mcl) (col 3 1 x.mcl) (col 3 2 x.mcl) ++ wX1 cI cZ cG (a4 1) a1 x.hd (nI x.wk) (nI x.nw) x.ll x.lw x.lx x.lk x.mfa x.mfz (col 5 0 x.mwa) (col 5 1 x.mwa) (col 5 2 x.mwa) (col 5 3 x.mwa) (col 5 4 x.mwa) x.tl x.tt ++ wX2 cI cZ cG (a4 2) a2 (nI x.ng) (nI x.nT) x.mi x.mbl (col 7 0 x.mtr) (col 7 1 x.mtr) (col 7 2 x.mtr) (col 7 3 x.mtr) (col 7 5 x.mtr) (col 7 6 x.mtr) (col 7 4 x.mtr) (BM x.mbk) ++ wX0 cI cZ cG (a4 3) a0 (nI x.nf) (nI x.nn) (col 4 0 x.mno) (col 4 1 x.mno) (col 4 2 x.mno) (col 4 3 x.mno) ++ wX5 cI cZ cG h5 a5 (nI nr28) (nI x.nt) (nI x.nc) (nI x.nw) x.hd (nI x.wk) (nI x.ng) (nI x.nT) x.mi (nI x.nf) (nI x.nn) mru28 x.mth x.mcl x.mfa x.mwa x.mfz x.mbl x.mbk x.mtr x.mno x.mlo x.mip x.mto) [28, 29, 30, 31, 32, 33, 34, 35, 36, 37, 38, 39, 0, 1, 2, 3, 4, 5, 6, 7, 8, 9, 10, 11, 12, 13, 14, 15, 16, 17, 18, 19, 20, 21, 22, 23, 24, 25, 26, 27, 40, 41, 42, 43, 44, 45, 46, 47, 48, 49, 50, 51, 52, 53] rfl
  have hD := hD.sub (ws' := wX4 cI cZ cG h4 a4  ++ wX3 cI cZ cG (a4 0) a3 (nI nr28) (nI x.nt) (nI x.nc) (col 3 0 mru28) (col 3 1 mru28) (col 3 2 mru28) (col 4 0 x.mth) (col 4 1 x.mth) (col 4 2 x.mth) (grM (col 4 0 x.mth) (col 4 3 x.mth)) (col 3 0 x.mcl) (col 3 1 x.mcl) (col 3 2 x.mcl) ++ wX1 cI cZ cG (a4 1) a1 x.hd (nI x.wk) (nI x.nw) x.ll x.lw x.lx x.lk x.mfa x.mfz (col 5 0 x.mwa) (col 5 1 x.mwa) (col 5 2 x.mwa) (col 5 3 x.mwa) (col 5 4 x.mwa) x.tl x.tt ++ wX2 cI cZ cG (a4 2) a2 (nI x.ng) (nI x.nT) x.mi x.mbl (col 7 0 x.mtr) (col 7 1 x.mtr) (col 7 2 x.mtr) (col 7 3 x.mtr) (col 7 5 x.mtr) (col 7 6 x.mtr) (col 7 4 x.mtr) (BM x.mbk) ++ wX0 cI cZ cG (a4 3) a0 (nI x.nf) (nI x.nn) (col 4 0 x.mno) (col 4 1 x.mno) (col 4 2 x.mno) (col 4 3 x.mno) ++ wX5 cI cZ cG h5 a5 (nI nr28) (nI x.nt) (nI x.nc) (nI x.nw) x.hd (nI x.wk) (nI x.ng) (nI x.nT) x.mi (nI x.nf) (nI x.nn) mru28 x.mth x.mcl x.mfa x.mwa x.mfz x.mbl x.mbk x.mtr x.mno x.mlo x.mip x.mto) [28, 29, 30, 31, 32, 33, 34, 35, 36, 37, 38, 39, 0, 1, 2, 3, 4, 5, 6, 7, 8, 9, 10, 11, 12, 13, 14, 15, 16, 17, 18, 19, 20, 21, 22, 23, 24, 25, 26, 27, 40, 41, 42, 43, 44, 45, 46, 47, 48, 49, 50, 51, 52, 53] (by decide) rfl
  exact kk (rsM nr28 x.nt x.nc x.nw x.wk x.ng x.nT x.nf x.nn x.hd x.mi mru28 x.mth x.mcl x.mfa x.mwa x.mfz x.mbl x.mbk x.mtr x.mno x.mlo x.mip x.mto x.ll x.lw x.lx x.lk x.tl x.tt) _ _ ⟨ok9, ok1, ok2, ok0⟩ hP hD hS
set_option maxHeartbeats 8000000 in
set_option maxRecDepth 100000 in
theorem L_force (hx : p.tables.exec = Jvm.exec) (hb : c.code = cL_law) (hml : c.maxLocals = 4) (hown : s.vm.findClass RL = some m.cls) (hts : ∀ w ∈ wsL_law, w.before args s = true) (hN : nst s) (hK : va_K D vwCl (tyL cI cZ cG) s) (hX : va_X b L xs s s.heap) (hbl : b < s.heap.size) (hbA : ¬ A b) (hL : L ≤ 2560) (hA : ∀ q, s.heap.size ≤ q → A q) {x : RS} (ok : OKx x) {H : Heap} {locs : List Loc} {ls : Array Slot} (hP : va_P D vwCl (wAll cI cZ cG h4 a4 a3 a1 a2 a0 h5 a5 x) H) (hD : va_D A (wAll cI cZ cG h4 a4 a3 a1 a2 a0 h5 a5 x)) (hS : va_S A s.heap H locs) {k : Nat} (hk : 5 * k + 5 ≤ L) (hl : lv_has ls 4 [(3, .int (nI (5 * k))), (2, .ref h5), (1, .ref h4), (0, .ref b)])
    (kk : ∀ (x2 : RS) (H1 : Heap) (locs1 : List Loc), OKx x2 → va_P D vwCl (wAll cI cZ cG h4 a4 a3 a1 a2 a0 h5 a5 x2) H1 → va_D A (wAll cI cZ cG h4 a4 a3 a1 a2 a0 h5 a5 x2) → va_S A s.heap H1 locs1 → W p l e room_1 s m args below meth c H1 locs1 54 1995 Q (F0 m 1106 ls [])) : W p l e room_1 s m args below meth c H locs 54 1995 Q (F0 m 203 ls []) := by
  obtain ⟨ok3, ok1, ok2, ok0⟩ := ok
  have hnr := ok3.1
  have hnt := ok3.2.1
  have hnc := ok3.2.2.1
  have hrr := ok3.2.2.2.1
  have hnw := ok1.1
  have hwk := ok1.2.1
  have hsd := ok1.2.2.1
  have hhw := ok1.2.2.2.1
  have hfz := ok1.2.2.2.2.1
  have hng := ok2.1
  have hnT := ok2.2.1
  have hokT := ok2.2.2.1
  have hokL := ok2.2.2.2.1
  have hsu := ok2.2.2.2.2.2.1
  have hnf := ok0.1
  have hnn := ok0.2.1
  refine lv_aload_n hx hb dL_law_203 rfl (lv_at hl 2 rfl) ?_
  refine lv_aload_n hx hb dL_law_204 rfl (lv_at hl 3 rfl) ?_
  refine lv_iload_n hx hb dL_law_205 rfl (lv_at hl 0 rfl) ?_
  refine lv_iconst (v := 1) hx hb dL_law_206 (by decide) ?_
  refine lv_iadd hx hb dL_law_207 ?_
  refine lv_topi (fun z1 ez1 => ?_)
  obtain rfl : z1 = nI (5 * k + 1) := ez1.trans ((nI_add (5 * k) 1).trans (congrArg nI (by omega)))
  refine K_sld hx hb hX hbl hbA hS hL (5 * k + 1) (by omega) dL_law_208 ?_
  refine lv_aload_n hx hb dL_law_209 rfl (lv_at hl 3 rfl) ?_
  refine lv_iload_n hx hb dL_law_210 rfl (lv_at hl 0 rfl) ?_
  refine lv_iconst (v := 2) hx hb dL_law_211 (by decide) ?_
  refine lv_iadd hx hb dL_law_212 ?_
  refine lv_topi (fun z2 ez2 => ?_)
  obtain rfl : z2 = nI (5 * k + 2) := ez2.trans ((nI_add (5 * k) 2).trans (congrArg nI (by omega)))
  refine K_sld hx hb hX hbl hbA hS hL (5 * k + 2) (by omega) dL_law_213 ?_
  refine K_core (wc := wX4 cI cZ cG h4 a4  ++ wX3 cI cZ cG (a4 0) a3 (nI x.nr) (nI x.nt) (nI x.nc) (col 3 0 x.mru) (col 3 1 x.mru) (col 3 2 x.mru) (col 4 0 x.mth) (col 4 1 x.mth) (col 4 2 x.mth) (grM (col 4 0 x.mth) (col 4 3 x.mth)) (col 3 0 x.mcl) (col 3 1 x.mcl) (col 3 2 x.mcl)) (wr := wX1 cI cZ cG (a4 1) a1 x.hd (nI x.wk) (nI x.nw) x.ll x.lw x.lx x.lk x.mfa x.mfz (col 5 0 x.mwa) (col 5 1 x.mwa) (col 5 2 x.mwa) (col 5 3 x.mwa) (col 5 4 x.mwa) x.tl x.tt ++ wX2 cI cZ cG (a4 2) a2 (nI x.ng) (nI x.nT) x.mi x.mbl (col 7 0 x.mtr) (col 7 1 x.mtr) (col 7 2 x.mtr) (col 7 3 x.mtr) (col 7 5 x.mtr) (col 7 6 x.mtr) (col 7 4 x.mtr) (BM x.mbk) ++ wX0 cI cZ cG (a4 3) a0 (nI x.nf) (nI x.nn) (col 4 0 x.mno) (col 4 1 x.mno) (col 4 2 x.mno) (col 4 3 x.mno) ++ wX5 cI cZ cG h5 a5 (nI x.nr) (nI x.nt) (nI x.nc) (nI x.nw) x.hd (nI x.wk) (nI x.ng) (nI x.nT) x.mi (nI x.nf) (nI x.nn) x.mru x.mth x.mcl x.mfa x.mwa x.mfz x.mbl x.mbk x.mtr x.mno x.mlo x.mip x.mto) (va_runV (As := [.int (xs (5 * k + 1)), .int (xs (5 * k + 2))]) (rest := []) ⟨hx, hb, hml, hown, hts⟩ (c_X4_force l D cI cZ cG h4 a4 a3 _ x.nr x.nt x.nc (col 3 0 x.mru) (col 3 1 x.mru) (col 3 2 x.mru) (col 4 0 x.mth) (col 4 1 x.mth) (col 4 2 x.mth) (grM (col 4 0 x.mth) (col 4 3 x.mth)) (col 3 0 x.mcl) (col 3 1 x.mcl) (col 3 2 x.mcl) (xs (5 * k + 1)) (xs (5 * k + 2)) (by omega) (by omega) (by omega)) (cwV 2 hts gL_law_X4_force rfl rfl rfl (by decide +kernel) ⟨(Nat.le_of_ble_eq_true rfl), (Nat.le_of_ble_eq_true rfl)⟩) ⟨PB_blind, va_recv hK hP (ci := 4) (q0 := 0) rfl rfl, (K_pre hN hK hP hD [0, 1, 2, 3, 4, 5, 6, 7, 8, 9, 10, 11] rfl rfl).2⟩ rfl rfl hl.1 rfl (lv_room (Nat.le_of_ble_eq_true rfl)) dL_law_214 ⟨(Nat.le_of_ble_eq_true rfl), (Nat.le_of_ble_eq_true rfl)⟩) hP hD hS hA [0, 1, 2, 3, 4, 5, 6, 7, 8, 9, 10, 11] [12, 13, 14, 15, 16, 17, 18, 19, 20, 21, 22, 23, 24, 25, 26, 27, 28, 29, 30, 31, 32, 33, 34, 35, 36, 37, 38, 39, 40, 41, 42, 43, 44, 45, 46, 47, 48, 49, 50, 51, 52, 53] rfl rfl rfl (by decide) (fun r3 u H locs hw3 hP hD hS => ?_)
  have hP : va_P D vwCl (wX1 cI cZ cG (a4 1) a1 x.hd (nI x.wk) (nI x.nw) x.ll x.lw x.lx x.lk x.mfa x.mfz (col 5 0 x.mwa) (col 5 1 x.mwa) (col 5 2 x.mwa) (col 5 3 x.mwa) (col 5 4 x.mwa) x.tl x.tt ++ wX2 cI cZ cG (a4 2) a2 (nI x.ng) (nI x.nT) x.mi x.mbl (col 7 0 x.mtr) (col 7 1 x.mtr) (col 7 2 x.mtr) (col 7 3 x.mtr) (col 7 5 x.mtr) (col 7 6 x.mtr) (col 7 4 x.mtr) (BM x.mbk) ++ wX0 cI cZ cG (a4 3) a0 (nI x.nf) (nI x.nn) (col 4 0 x.mno) (col 4 1 x.mno) (col 4 2 x.mno) (col 4 3 x.mno) ++ wX5 cI cZ cG h5 a5 (nI x.nr) (nI x.nt) (nI x.nc) (nI x.nw) x.hd (nI x.wk) (nI x.ng) (nI x.nT) x.mi (nI x.nf) (nI x.nn) x.mru x.mth x.mcl x.mfa x.mwa x.mfz x.mbl x.mbk x.mtr x.mno x.mlo x.mip x.mto ++ wX4 cI cZ cG h4 a4  ++ wX3 cI cZ cG (a4 0) a3 (nI x.nr) (nI x.nt) (nI x.nc) (col 3 0 x.mru) (col 3 1 x.mru) (col 3 2 x.mru) (col 4 0 x.mth) (col 4 1 x.mth) (col 4 2 x.mth) (grM (col 4 0 x.mth) (col 4 3 x.mth)) (col 3 0 x.mcl) (col 3 1 x.mcl) (col 3 2 x.mcl)) H := hP
  have hD : va_D A (wX1 cI cZ cG (a4 1) a1 x.hd (nI x.wk) (nI x.nw) x.ll x.lw x.lx x.lk x.mfa x.mfz (col 5 0 x.mwa) (col 5 1 x.mwa) (col 5 2 x.mwa) (col 5 3 x.mwa) (col 5 4 x.mwa) x.tl x.tt ++ wX2 cI cZ cG (a4 2) a2 (nI x.ng) (nI x.nT) x.mi x.mbl (col 7 0 x.mtr) (col 7 1 x.mtr) (col 7 2 x.mtr) (col 7 3 x.mtr) (col 7 5 x.mtr) (col 7 6 x.mtr) (col 7 4 x.mtr) (BM x.mbk) ++ wX0 cI cZ cG (a4 3) a0 (nI x.nf) (nI x.nn) (col 4 0 x.mno) (col 4 1 x.mno) (col 4 2 x.mno) (col 4 3 x.mno) ++ wX5 cI cZ cG h5 a5 (nI x.nr) (nI x.nt) (nI x.nc) (nI x.nw) x.hd (nI x.wk) (nI x.ng) (nI x.nT) x.mi (nI x.nf) (nI x.nn) x.mru x.mth x.mcl x.mfa x.mwa x.mfz x.mbl x.mbk x.mtr x.mno x.mlo x.mip x.mto ++ wX4 cI cZ cG h4 a4  ++ wX3 cI cZ cG (a4 0) a3 (nI x.nr) (nI x.nt) (nI x.nc) (col 3 0 x.mru) (col 3 1 x.mru) (col 3 2 x.mru) (col 4 0 x.mth) (col 4 1 x.mth) (col 4 2 x.mth) (grM (col 4 0 x.mth) (col 4 3 x.mth)) (col 3 0 x.mcl) (col 3 1 x.mcl) (col 3 2 x.mcl)) := hD
  refine lv_aload_n hx hb dL_law_217 rfl (lv_at hl 1 rfl) ?_
  refine lv_aload_n hx hb dL_law_218 rfl (lv_at hl 3 rfl) ?_
  refine lv_iload_n hx hb dL_law_219 rfl (lv_at hl 0 rfl) ?_
  refine lv_iconst (v := 1) hx hb dL_law_220 (by decide) ?_
  refine lv_iadd hx hb dL_law_221 ?_
  refine lv_topi (fun z4 ez4 => ?_)
  obtain rfl : z4 = nI (5 * k + 1) := ez4.trans ((nI_add (5 * k) 1).trans (congrArg nI (by omega)))
  refine K_sld hx hb hX hbl hbA hS hL (5 * k + 1) (by omega) dL_law_222 ?_
  refine lv_aload_n hx hb dL_law_223 rfl (lv_at hl 3 rfl) ?_
  refine lv_iload_n hx hb dL_law_224 rfl (lv_at hl 0 rfl) ?_
  refine lv_iconst (v := 2) hx hb dL_law_225 (by decide) ?_
  refine lv_iadd hx hb dL_law_226 ?_
  refine lv_topi (fun z5 ez5 => ?_)
  obtain rfl : z5 = nI (5 * k + 2) := ez5.trans ((nI_add (5 * k) 2).trans (congrArg nI (by omega)))
  refine K_sld hx hb hX hbl hbA hS hL (5 * k + 2) (by omega) dL_law_227 ?_
  refine K_core (wc := wX5 cI cZ cG h5 a5 (nI x.nr) (nI x.nt) (nI x.nc) (nI x.nw) x.hd (nI x.wk) (nI x.ng) (nI x.nT) x.mi (nI x.nf) (nI x.nn) x.mru x.mth x.mcl x.mfa x.mwa x.mfz x.mbl x.mbk x.mtr x.mno x.mlo x.mip x.mto) (wr := wX1 cI cZ cG (a4 1) a1 x.hd (nI x.wk) (nI x.nw) x.ll x.lw x.lx x.lk x.mfa x.mfz (col 5 0 x.mwa) (col 5 1 x.mwa) (col 5 2 x.mwa) (col 5 3 x.mwa) (col 5 4 x.mwa) x.tl x.tt ++ wX2 cI cZ cG (a4 2) a2 (nI x.ng) (nI x.nT) x.mi x.mbl (col 7 0 x.mtr) (col 7 1 x.mtr) (col 7 2 x.mtr) (col 7 3 x.mtr) (col 7 5 x.mtr) (col 7 6 x.mtr) (col 7 4 x.mtr) (BM x.mbk) ++ wX0 cI cZ cG (a4 3) a0 (nI x.nf) (nI x.nn) (col 4 0 x.mno) (col 4 1 x.mno) (col 4 2 x.mno) (col 4 3 x.mno) ++ wX4 cI cZ cG h4 a4  ++ wX3 cI cZ cG (a4 0) a3 (nI x.nr) (nI x.nt) (nI x.nc) (col 3 0 x.mru) (col 3 1 x.mru) (col 3 2 x.mru) (col 4 0 x.mth) (col 4 1 x.mth) (col 4 2 x.mth) (grM (col 4 0 x.mth) (col 4 3 x.mth)) (col 3 0 x.mcl) (col 3 1 x.mcl) (col 3 2 x.mcl)) (va_runV (As := [.int (xs (5 * k + 1)), .int (xs (5 * k + 2))]) (rest := [.int r3]) ⟨hx, hb, hml, hown, hts⟩ (c_X5_force l D cI cZ cG h5 a5 _ x.nr x.nt x.nc x.nw x.hd x.wk x.ng x.nT x.mi x.nf x.nn x.mru x.mth x.mcl x.mfa x.mwa x.mfz x.mbl x.mbk x.mtr x.mno x.mlo x.mip x.mto (xs (5 * k + 1)) (xs (5 * k + 2)) (by omega) (by omega) (by omega) (by omega) (by omega) (by omega) (by omega) (by omega) (by omega)) (cwV 2 hts gL_law_X5_force rfl rfl rfl (by decide +kernel) ⟨(Nat.le_of_ble_eq_true rfl), (Nat.le_of_ble_eq_true rfl)⟩) ⟨PB_blind, va_recv hK hP (ci := 5) (q0 := 28) rfl rfl, (K_pre hN hK hP hD [28, 29, 30, 31, 32, 33, 34, 35, 36, 37, 38, 39, 40, 41] rfl rfl).2⟩ rfl rfl hl.1 rfl (lv_room (Nat.le_of_ble_eq_true rfl)) dL_law_228 ⟨(Nat.le_of_ble_eq_true rfl), (Nat.le_of_ble_eq_true rfl)⟩) hP hD hS hA [28, 29, 30, 31, 32, 33, 34, 35, 36, 37, 38, 39, 40, 41] [0, 1, 2, 3, 4, 5, 6, 7, 8, 9, 10, 11, 12, 13, 14, 15, 16, 17, 18, 19, 20, 21, 22, 23, 24, 25, 26, 27, 42, 43, 44, 45, 46, 47, 48, 49, 50, 51, 52, 53] rfl rfl rfl (by decide) (fun r6 u H locs hw6 hP hD hS => ?_)
  have hP : va_P D vwCl (wX1 cI cZ cG (a4 1) a1 x.hd (nI x.wk) (nI x.nw) x.ll x.lw x.lx x.lk x.mfa x.mfz (col 5 0 x.mwa) (col 5 1 x.mwa) (col 5 2 x.mwa) (col 5 3 x.mwa) (col 5 4 x.mwa) x.tl x.tt ++ wX2 cI cZ cG (a4 2) a2 (nI x.ng) (nI x.nT) x.mi x.mbl (col 7 0 x.mtr) (col 7 1 x.mtr) (col 7 2 x.mtr) (col 7 3 x.mtr) (col 7 5 x.mtr) (col 7 6 x.mtr) (col 7 4 x.mtr) (BM x.mbk) ++ wX0 cI cZ cG (a4 3) a0 (nI x.nf) (nI x.nn) (col 4 0 x.mno) (col 4 1 x.mno) (col 4 2 x.mno) (col 4 3 x.mno) ++ wX4 cI cZ cG h4 a4  ++ wX3 cI cZ cG (a4 0) a3 (nI x.nr) (nI x.nt) (nI x.nc) (col 3 0 x.mru) (col 3 1 x.mru) (col 3 2 x.mru) (col 4 0 x.mth) (col 4 1 x.mth) (col 4 2 x.mth) (grM (col 4 0 x.mth) (col 4 3 x.mth)) (col 3 0 x.mcl) (col 3 1 x.mcl) (col 3 2 x.mcl) ++ wX5 cI cZ cG h5 a5 (nI x.nr) (nI x.nt) (nI x.nc) (nI x.nw) x.hd (nI x.wk) (nI x.ng) (nI x.nT) x.mi (nI x.nf) (nI x.nn) x.mru x.mth x.mcl x.mfa x.mwa x.mfz x.mbl x.mbk x.mtr x.mno x.mlo x.mip x.mto) H := hP
  have hD : va_D A (wX1 cI cZ cG (a4 1) a1 x.hd (nI x.wk) (nI x.nw) x.ll x.lw x.lx x.lk x.mfa x.mfz (col 5 0 x.mwa) (col 5 1 x.mwa) (col 5 2 x.mwa) (col 5 3 x.mwa) (col 5 4 x.mwa) x.tl x.tt ++ wX2 cI cZ cG (a4 2) a2 (nI x.ng) (nI x.nT) x.mi x.mbl (col 7 0 x.mtr) (col 7 1 x.mtr) (col 7 2 x.mtr) (col 7 3 x.mtr) (col 7 5 x.mtr) (col 7 6 x.mtr) (col 7 4 x.mtr) (BM x.mbk) ++ wX0 cI cZ cG (a4 3) a0 (nI x.nf) (nI x.nn) (col 4 0 x.mno) (col 4 1 x.mno) (col 4 2 x.mno) (col 4 3 x.mno) ++ wX4 cI cZ cG h4 a4  ++ wX3 cI cZ cG (a4 0) a3 (nI x.nr) (nI x.nt) (nI x.nc) (col 3 0 x.mru) (col 3 1 x.mru) (col 3 2 x.mru) (col 4 0 x.mth) (col 4 1 x.mth) (col 4 2 x.mth) (grM (col 4 0 x.mth) (col 4 3 x.mth)) (col 3 0 x.mcl) (col 3 1 x.mcl) (col 3 2 x.mcl) ++ wX5 cI cZ cG h5 a5 (nI x.nr) (nI x.nt) (nI x.nc) (nI x.nw) x.hd (nI x.wk) (nI x.ng) (nI x.nT) x.mi (nI x.nf) (nI x.nn) x.mru x.mth x.mcl x.mfa x.mwa x.mfz x.mbl x.mbk x.mtr x.mno x.mlo x.mip x.mto) := hD
  have er := hw3.trans hw6.symm
  refine lv_icmp_eq (tgt := 1106) hx hb dL_law_231 (by decide) (fun _ => ?_) (fun c9 => absurd er c9)
  have hP := hP.sub (ws' := wX4 cI cZ cG h4 a4  ++ wX3 cI cZ cG (a4 0) a3 (nI x.nr) (nI x.nt) (nI x.nc) (col 3 0 x.mru) (col 3 1 x.mru) (col 3 2 x.mru) (col 4 0 x.mth) (col 4 1 x.mth) (col 4 2 x.mth) (grM (col 4 0 x.mth) (col 4 3 x.mth)) (col 3 0 x.mcl) (col 3 1 x.mcl) (col 3 2 x.mcl) ++ wX1 cI cZ cG (a4 1) a1 x.hd (nI x.wk) (nI x.nw) x.ll x.lw x.lx x.lk x.mfa x.mfz (col 5 0 x.mwa) (col 5 1 x.mwa) (col 5 2 x.mwa) (col 5 3 x.mwa) (col 5 4 x.mwa) x.tl x.tt ++ wX2 cI cZ cG (a4 2) a2 (nI x.ng) (nI x.nT) x.mi x.mbl (col 7 0 x.mtr) (col 7 1 x.mtr) (col 7 2 x.mtr) (col 7 3 x.mtr) (col 7 5 x.mtr) (col 7 6 x.mtr) (col 7 4 x.mtr) (BM x.mbk) ++ wX0 cI cZ cG (a4 3) a0 (nI x.nf) (nI x.nn) (col 4 0 x.mno) (col 4 1 x.mno) (col 4 2 x.mno) (col 4 3 x.mno) ++ wX5 cI cZ cG h5 a5 (nI x.nr) (nI x.nt) (nI x.nc) (nI x.nw) x.hd (nI x.wk) (nI x.ng) (nI x.nT) x.mi (nI x.nf) (nI x.nn) x.mru x.mth x.mcl x.mfa x.mwa x.mfz x.mbl x.mbk x.mtr x.mno x.mlo x.mip x.mto) [28, 29, 30, 31, 32, 33, 34, 35, 36, 37, 38, 39, 0, 1, 2, 3, 4, 5, 6, 7, 8, 9, 10, 11, 12, 13, 14, 15, 16, 17, 18, 19, 20, 21, 22, 23, 24, 25, 26, 27, 40, 41, 42, 43, 44, 45, 46, 47, 48, 49, 50, 51, 52, 53] rfl
  have hD := hD.sub (ws' := wX4 cI cZ cG h4 a4  ++ wX3 cI cZ cG (a4 0) a3 (nI x.nr) (nI x.nt) (nI x.nc) (col 3 0 x.mru) (col 3 1 x.mru) (col 3 2 x.mru) (col 4 0 x.mth) (col 4 1 x.mth) (col 4 2 x.mth) (grM (col 4 0 x.mth) (col 4 3 x.mth)) (col 3 0 x.mcl) (col 3 1 x.mcl) (col 3 2 x.mcl) ++ wX1 cI cZ cG (a4 1) a1 x.hd (nI x.wk) (nI x.nw) x.ll x.lw x.lx x.lk x.mfa x.mfz (col 5 0 x.mwa) (col 5 1 x.mwa) (col 5 2 x.mwa) (col 5 3 x.mwa) (col 5 4 x.mwa) x.tl x.tt ++ wX2 cI cZ cG (a4 2) a2 (nI x.ng) (nI x.nT) x.mi x.mbl (col 7 0 x.mtr) (col 7 1 x.mtr) (col 7 2 x.mtr) (col 7 3 x.mtr) (col 7 5 x.mtr) (col 7 6 x.mtr) (col 7 4 x.mtr) (BM x.mbk) ++ wX0 cI cZ cG (a4 3) a0 (nI x.nf) (nI x.nn) (col 4 0 x.mno) (col 4 1 x.mno) (col 4 2 x.mno) (col 4 3 x.mno) ++ wX5 cI cZ cG h5 a5 (nI x.nr) (nI x.nt) (nI x.nc) (nI x.nw) x.hd (nI x.wk) (nI x.ng) (nI x.nT) x.mi (nI x.nf) (nI x.nn) x.mru x.mth x.mcl x.mfa x.mwa x.mfz x.mbl x.mbk x.mtr x.mno x.mlo x.mip x.mto) [28, 29, 30, 31, 32, 33, 34, 35, 36, 37, 38, 39, 0, 1, 2, 3, 4, 5, 6, 7, 8, 9, 10, 11, 12, 13, 14, 15, 16, 17, 18, 19, 20, 21, 22, 23, 24, 25, 26, 27, 40, 41, 42, 43, 44, 45, 46, 47, 48, 49, 50, 51, 52, 53] (by decide) rfl
  exact kk x _ _ ⟨ok3, ok1, ok2, ok0⟩ hP hD hS
set_option maxHeartbeats 8000000 in
set_option maxRecDepth 100000 in
theorem L_thing (hx : p.tables.exec = Jvm.exec) (hb : c.code = cL_law) (hml : c.maxLocals = 4) (hown : s.vm.findClass RL = some m.cls) (hts : ∀ w ∈ wsL_law, w.before args s = true) (hN : nst s) (hK : va_K D vwCl (tyL cI cZ cG) s) (hX : va_X b L xs s s.heap) (hbl : b < s.heap.size) (hbA : ¬ A b) (hL : L ≤ 2560) (hA : ∀ q, s.heap.size ≤ q → A q) {x : RS} (ok : OKx x) {H : Heap} {locs : List Loc} {ls : Array Slot} (hP : va_P D vwCl (wAll cI cZ cG h4 a4 a3 a1 a2 a0 h5 a5 x) H) (hD : va_D A (wAll cI cZ cG h4 a4 a3 a1 a2 a0 h5 a5 x)) (hS : va_S A s.heap H locs) {k : Nat} (hk : 5 * k + 5 ≤ L) (hl : lv_has ls 4 [(3, .int (nI (5 * k))), (2, .ref h5), (1, .ref h4), (0, .ref b)])
    (kk : ∀ (x2 : RS) (H1 : Heap) (locs1 : List Loc), OKx x2 → va_P D vwCl (wAll cI cZ cG h4 a4 a3 a1 a2 a0 h5 a5 x2) H1 → va_D A (wAll cI cZ cG h4 a4 a3 a1 a2 a0 h5 a5 x2) → va_S A s.heap H1 locs1 → W p l e room_1 s m args below meth c H1 locs1 54 1995 Q (F0 m 1106 ls [])) : W p l e room_1 s m args below meth c H locs 54 1995 Q (F0 m 236 ls []) := by
  obtain ⟨ok3, ok1, ok2, ok0⟩ := ok
  have hnr := ok3.1
  have hnt := ok3.2.1
  have hnc := ok3.2.2.1
  have hrr := ok3.2.2.2.1
  have hnw := ok1.1
  have hwk := ok1.2.1
  have hsd := ok1.2.2.1
  have hhw := ok1.2.2.2.1
  have hfz := ok1.2.2.2.2.1
  have hng := ok2.1
  have hnT := ok2.2.1
  have hokT := ok2.2.2.1
  have hokL := ok2.2.2.2.1
  have hsu := ok2.2.2.2.2.2.1
  have hnf := ok0.1
  have hnn := ok0.2.1
  refine lv_aload_n hx hb dL_law_236 rfl (lv_at hl 2 rfl) ?_
  refine lv_aload_n hx hb dL_law_237 rfl (lv_at hl 3 rfl) ?_
  refine lv_iload_n hx hb dL_law_238 rfl (lv_at hl 0 rfl) ?_
  refine lv_iconst (v := 1) hx hb dL_law_239 (by decide) ?_
  refine lv_iadd hx hb dL_law_240 ?_
  refine lv_topi (fun z1 ez1 => ?_)
  obtain rfl : z1 = nI (5 * k + 1) := ez1.trans ((nI_add (5 * k) 1).trans (congrArg nI (by omega)))
  refine K_sld hx hb hX hbl hbA hS hL (5 * k + 1) (by omega) dL_law_241 ?_
  refine lv_aload_n hx hb dL_law_242 rfl (lv_at hl 3 rfl) ?_
  refine lv_iload_n hx hb dL_law_243 rfl (lv_at hl 0 rfl) ?_
  refine lv_iconst (v := 2) hx hb dL_law_244 (by decide) ?_
  refine lv_iadd hx hb dL_law_245 ?_
  refine lv_topi (fun z2 ez2 => ?_)
  obtain rfl : z2 = nI (5 * k + 2) := ez2.trans ((nI_add (5 * k) 2).trans (congrArg nI (by omega)))
  refine K_sld hx hb hX hbl hbA hS hL (5 * k + 2) (by omega) dL_law_246 ?_
  refine lv_aload_n hx hb dL_law_247 rfl (lv_at hl 3 rfl) ?_
  refine lv_iload_n hx hb dL_law_248 rfl (lv_at hl 0 rfl) ?_
  refine lv_iconst (v := 3) hx hb dL_law_249 (by decide) ?_
  refine lv_iadd hx hb dL_law_250 ?_
  refine lv_topi (fun z3 ez3 => ?_)
  obtain rfl : z3 = nI (5 * k + 3) := ez3.trans ((nI_add (5 * k) 3).trans (congrArg nI (by omega)))
  refine K_sld hx hb hX hbl hbA hS hL (5 * k + 3) (by omega) dL_law_251 ?_
  refine lv_aload_n hx hb dL_law_252 rfl (lv_at hl 3 rfl) ?_
  refine lv_iload_n hx hb dL_law_253 rfl (lv_at hl 0 rfl) ?_
  refine lv_iconst (v := 4) hx hb dL_law_254 (by decide) ?_
  refine lv_iadd hx hb dL_law_255 ?_
  refine lv_topi (fun z4 ez4 => ?_)
  obtain rfl : z4 = nI (5 * k + 4) := ez4.trans ((nI_add (5 * k) 4).trans (congrArg nI (by omega)))
  refine K_sld hx hb hX hbl hbA hS hL (5 * k + 4) (by omega) dL_law_256 ?_
  refine K_core (wc := wX4 cI cZ cG h4 a4  ++ wX3 cI cZ cG (a4 0) a3 (nI x.nr) (nI x.nt) (nI x.nc) (col 3 0 x.mru) (col 3 1 x.mru) (col 3 2 x.mru) (col 4 0 x.mth) (col 4 1 x.mth) (col 4 2 x.mth) (grM (col 4 0 x.mth) (col 4 3 x.mth)) (col 3 0 x.mcl) (col 3 1 x.mcl) (col 3 2 x.mcl)) (wr := wX1 cI cZ cG (a4 1) a1 x.hd (nI x.wk) (nI x.nw) x.ll x.lw x.lx x.lk x.mfa x.mfz (col 5 0 x.mwa) (col 5 1 x.mwa) (col 5 2 x.mwa) (col 5 3 x.mwa) (col 5 4 x.mwa) x.tl x.tt ++ wX2 cI cZ cG (a4 2) a2 (nI x.ng) (nI x.nT) x.mi x.mbl (col 7 0 x.mtr) (col 7 1 x.mtr) (col 7 2 x.mtr) (col 7 3 x.mtr) (col 7 5 x.mtr) (col 7 6 x.mtr) (col 7 4 x.mtr) (BM x.mbk) ++ wX0 cI cZ cG (a4 3) a0 (nI x.nf) (nI x.nn) (col 4 0 x.mno) (col 4 1 x.mno) (col 4 2 x.mno) (col 4 3 x.mno) ++ wX5 cI cZ cG h5 a5 (nI x.nr) (nI x.nt) (nI x.nc) (nI x.nw) x.hd (nI x.wk) (nI x.ng) (nI x.nT) x.mi (nI x.nf) (nI x.nn) x.mru x.mth x.mcl x.mfa x.mwa x.mfz x.mbl x.mbk x.mtr x.mno x.mlo x.mip x.mto) (va_runV (As := [.int (xs (5 * k + 1)), .int (xs (5 * k + 2)), .int (xs (5 * k + 3)), .int (xs (5 * k + 4))]) (rest := []) ⟨hx, hb, hml, hown, hts⟩ (c_X4_thing l D cI cZ cG h4 a4 a3 _ x.nr x.nt x.nc (col 3 0 x.mru) (col 3 1 x.mru) (col 3 2 x.mru) (col 4 0 x.mth) (col 4 1 x.mth) (col 4 2 x.mth) (grM (col 4 0 x.mth) (col 4 3 x.mth)) (col 3 0 x.mcl) (col 3 1 x.mcl) (col 3 2 x.mcl) (xs (5 * k + 1)) (xs (5 * k + 2)) (xs (5 * k + 3)) (xs (5 * k + 4)) (by omega) (by omega) (by omega)) (cwV 4 hts gL_law_X4_thing rfl rfl rfl (by decide +kernel) ⟨(Nat.le_of_ble_eq_true rfl), (Nat.le_of_ble_eq_true rfl)⟩) ⟨PB_blind, va_recv hK hP (ci := 4) (q0 := 0) rfl rfl, (K_pre hN hK hP hD [0, 1, 2, 3, 4, 5, 6, 7, 8, 9, 10, 11] rfl rfl).2⟩ rfl rfl hl.1 rfl (lv_room (Nat.le_of_ble_eq_true rfl)) dL_law_257 ⟨(Nat.le_of_ble_eq_true rfl), (Nat.le_of_ble_eq_true rfl)⟩) hP hD hS hA [0, 1, 2, 3, 4, 5, 6, 7, 8, 9, 10, 11] [12, 13, 14, 15, 16, 17, 18, 19, 20, 21, 22, 23, 24, 25, 26, 27, 28, 29, 30, 31, 32, 33, 34, 35, 36, 37, 38, 39, 40, 41, 42, 43, 44, 45, 46, 47, 48, 49, 50, 51, 52, 53] rfl rfl rfl (by decide) (fun r5 u H locs hw5 hP hD hS => ?_)
  obtain ⟨nt25, so25, tr25, si25, gr25⟩ := u
  try dsimp only at hw5
  have hP : va_P D vwCl (wX1 cI cZ cG (a4 1) a1 x.hd (nI x.wk) (nI x.nw) x.ll x.lw x.lx x.lk x.mfa x.mfz (col 5 0 x.mwa) (col 5 1 x.mwa) (col 5 2 x.mwa) (col 5 3 x.mwa) (col 5 4 x.mwa) x.tl x.tt ++ wX2 cI cZ cG (a4 2) a2 (nI x.ng) (nI x.nT) x.mi x.mbl (col 7 0 x.mtr) (col 7 1 x.mtr) (col 7 2 x.mtr) (col 7 3 x.mtr) (col 7 5 x.mtr) (col 7 6 x.mtr) (col 7 4 x.mtr) (BM x.mbk) ++ wX0 cI cZ cG (a4 3) a0 (nI x.nf) (nI x.nn) (col 4 0 x.mno) (col 4 1 x.mno) (col 4 2 x.mno) (col 4 3 x.mno) ++ wX5 cI cZ cG h5 a5 (nI x.nr) (nI x.nt) (nI x.nc) (nI x.nw) x.hd (nI x.wk) (nI x.ng) (nI x.nT) x.mi (nI x.nf) (nI x.nn) x.mru x.mth x.mcl x.mfa x.mwa x.mfz x.mbl x.mbk x.mtr x.mno x.mlo x.mip x.mto ++ wX4 cI cZ cG h4 a4  ++ wX3 cI cZ cG (a4 0) a3 (nI x.nr) (nI nt25) (nI x.nc) (col 3 0 x.mru) (col 3 1 x.mru) (col 3 2 x.mru) so25 tr25 si25 gr25 (col 3 0 x.mcl) (col 3 1 x.mcl) (col 3 2 x.mcl)) H := hP
  have hD : va_D A (wX1 cI cZ cG (a4 1) a1 x.hd (nI x.wk) (nI x.nw) x.ll x.lw x.lx x.lk x.mfa x.mfz (col 5 0 x.mwa) (col 5 1 x.mwa) (col 5 2 x.mwa) (col 5 3 x.mwa) (col 5 4 x.mwa) x.tl x.tt ++ wX2 cI cZ cG (a4 2) a2 (nI x.ng) (nI x.nT) x.mi x.mbl (col 7 0 x.mtr) (col 7 1 x.mtr) (col 7 2 x.mtr) (col 7 3 x.mtr) (col 7 5 x.mtr) (col 7 6 x.mtr) (col 7 4 x.mtr) (BM x.mbk) ++ wX0 cI cZ cG (a4 3) a0 (nI x.nf) (nI x.nn) (col 4 0 x.mno) (col 4 1 x.mno) (col 4 2 x.mno) (col 4 3 x.mno) ++ wX5 cI cZ cG h5 a5 (nI x.nr) (nI x.nt) (nI x.nc) (nI x.nw) x.hd (nI x.wk) (nI x.ng) (nI x.nT) x.mi (nI x.nf) (nI x.nn) x.mru x.mth x.mcl x.mfa x.mwa x.mfz x.mbl x.mbk x.mtr x.mno x.mlo x.mip x.mto ++ wX4 cI cZ cG h4 a4  ++ wX3 cI cZ cG (a4 0) a3 (nI x.nr) (nI nt25) (nI x.nc) (col 3 0 x.mru) (col 3 1 x.mru) (col 3 2 x.mru) so25 tr25 si25 gr25 (col 3 0 x.mcl) (col 3 1 x.mcl) (col 3 2 x.mcl)) := hD
  refine lv_aload_n hx hb dL_law_260 rfl (lv_at hl 1 rfl) ?_
  refine lv_aload_n hx hb dL_law_261 rfl (lv_at hl 3 rfl) ?_
  refine lv_iload_n hx hb dL_law_262 rfl (lv_at hl 0 rfl) ?_
  refine lv_iconst (v := 1) hx hb dL_law_263 (by decide) ?_
  refine lv_iadd hx hb dL_law_264 ?_
  refine lv_topi (fun z6 ez6 => ?_)
  obtain rfl : z6 = nI (5 * k + 1) := ez6.trans ((nI_add (5 * k) 1).trans (congrArg nI (by omega)))
  refine K_sld hx hb hX hbl hbA hS hL (5 * k + 1) (by omega) dL_law_265 ?_
  refine lv_aload_n hx hb dL_law_266 rfl (lv_at hl 3 rfl) ?_
  refine lv_iload_n hx hb dL_law_267 rfl (lv_at hl 0 rfl) ?_
  refine lv_iconst (v := 2) hx hb dL_law_268 (by decide) ?_
  refine lv_iadd hx hb dL_law_269 ?_
  refine lv_topi (fun z7 ez7 => ?_)
  obtain rfl : z7 = nI (5 * k + 2) := ez7.trans ((nI_add (5 * k) 2).trans (congrArg nI (by omega)))
  refine K_sld hx hb hX hbl hbA hS hL (5 * k + 2) (by omega) dL_law_270 ?_
  refine lv_aload_n hx hb dL_law_271 rfl (lv_at hl 3 rfl) ?_
  refine lv_iload_n hx hb dL_law_272 rfl (lv_at hl 0 rfl) ?_
  refine lv_iconst (v := 3) hx hb dL_law_273 (by decide) ?_
  refine lv_iadd hx hb dL_law_274 ?_
  refine lv_topi (fun z8 ez8 => ?_)
  obtain rfl : z8 = nI (5 * k + 3) := ez8.trans ((nI_add (5 * k) 3).trans (congrArg nI (by omega)))
  refine K_sld hx hb hX hbl hbA hS hL (5 * k + 3) (by omega) dL_law_275 ?_
  refine lv_aload_n hx hb dL_law_276 rfl (lv_at hl 3 rfl) ?_
  refine lv_iload_n hx hb dL_law_277 rfl (lv_at hl 0 rfl) ?_
  refine lv_iconst (v := 4) hx hb dL_law_278 (by decide) ?_
  refine lv_iadd hx hb dL_law_279 ?_
  refine lv_topi (fun z9 ez9 => ?_)
  obtain rfl : z9 = nI (5 * k + 4) := ez9.trans ((nI_add (5 * k) 4).trans (congrArg nI (by omega)))
  refine K_sld hx hb hX hbl hbA hS hL (5 * k + 4) (by omega) dL_law_280 ?_
  refine K_core (wc := wX5 cI cZ cG h5 a5 (nI x.nr) (nI x.nt) (nI x.nc) (nI x.nw) x.hd (nI x.wk) (nI x.ng) (nI x.nT) x.mi (nI x.nf) (nI x.nn) x.mru x.mth x.mcl x.mfa x.mwa x.mfz x.mbl x.mbk x.mtr x.mno x.mlo x.mip x.mto) (wr := wX1 cI cZ cG (a4 1) a1 x.hd (nI x.wk) (nI x.nw) x.ll x.lw x.lx x.lk x.mfa x.mfz (col 5 0 x.mwa) (col 5 1 x.mwa) (col 5 2 x.mwa) (col 5 3 x.mwa) (col 5 4 x.mwa) x.tl x.tt ++ wX2 cI cZ cG (a4 2) a2 (nI x.ng) (nI x.nT) x.mi x.mbl (col 7 0 x.mtr) (col 7 1 x.mtr) (col 7 2 x.mtr) (col 7 3 x.mtr) (col 7 5 x.mtr) (col 7 6 x.mtr) (col 7 4 x.mtr) (BM x.mbk) ++ wX0 cI cZ cG (a4 3) a0 (nI x.nf) (nI x.nn) (col 4 0 x.mno) (col 4 1 x.mno) (col 4 2 x.mno) (col 4 3 x.mno) ++ wX4 cI cZ cG h4 a4  ++ wX3 cI cZ cG (a4 0) a3 (nI x.nr) (nI nt25) (nI x.nc) (col 3 0 x.mru) (col 3 1 x.mru) (col 3 2 x.mru) so25 tr25 si25 gr25 (col 3 0 x.mcl) (col 3 1 x.mcl) (col 3 2 x.mcl)) (va_runV (As := [.int (xs (5 * k + 1)), .int (xs (5 * k + 2)), .int (xs (5 * k + 3)), .int (xs (5 * k + 4))]) (rest := [.int r5]) ⟨hx, hb, hml, hown, hts⟩ (c_X5_thing l D cI cZ cG h5 a5 _ x.nr x.nt x.nc x.nw x.hd x.wk x.ng x.nT x.mi x.nf x.nn x.mru x.mth x.mcl x.mfa x.mwa x.mfz x.mbl x.mbk x.mtr x.mno x.mlo x.mip x.mto (xs (5 * k + 1)) (xs (5 * k + 2)) (xs (5 * k + 3)) (xs (5 * k + 4)) (by omega) (by omega) (by omega) (by omega) (by omega) (by omega) (by omega) (by omega) (by omega)) (cwV 4 hts gL_law_X5_thing rfl rfl rfl (by decide +kernel) ⟨(Nat.le_of_ble_eq_true rfl), (Nat.le_of_ble_eq_true rfl)⟩) ⟨PB_blind, va_recv hK hP (ci := 5) (q0 := 28) rfl rfl, (K_pre hN hK hP hD [28, 29, 30, 31, 32, 33, 34, 35, 36, 37, 38, 39, 40, 41] rfl rfl).2⟩ rfl rfl hl.1 rfl (lv_room (Nat.le_of_ble_eq_true rfl)) dL_law_281 ⟨(Nat.le_of_ble_eq_true rfl), (Nat.le_of_ble_eq_true rfl)⟩) hP hD hS hA [28, 29, 30, 31, 32, 33, 34, 35, 36, 37, 38, 39, 40, 41] [0, 1, 2, 3, 4, 5, 6, 7, 8, 9, 10, 11, 12, 13, 14, 15, 16, 17, 18, 19, 20, 21, 22, 23, 24, 25, 26, 27, 42, 43, 44, 45, 46, 47, 48, 49, 50, 51, 52, 53] rfl rfl rfl (by decide) (fun r10 u H locs hw10 hP hD hS => ?_)
  obtain ⟨nt210, mth210⟩ := u
  try dsimp only at hw10
  have hP : va_P D vwCl (wX1 cI cZ cG (a4 1) a1 x.hd (nI x.wk) (nI x.nw) x.ll x.lw x.lx x.lk x.mfa x.mfz (col 5 0 x.mwa) (col 5 1 x.mwa) (col 5 2 x.mwa) (col 5 3 x.mwa) (col 5 4 x.mwa) x.tl x.tt ++ wX2 cI cZ cG (a4 2) a2 (nI x.ng) (nI x.nT) x.mi x.mbl (col 7 0 x.mtr) (col 7 1 x.mtr) (col 7 2 x.mtr) (col 7 3 x.mtr) (col 7 5 x.mtr) (col 7 6 x.mtr) (col 7 4 x.mtr) (BM x.mbk) ++ wX0 cI cZ cG (a4 3) a0 (nI x.nf) (nI x.nn) (col 4 0 x.mno) (col 4 1 x.mno) (col 4 2 x.mno) (col 4 3 x.mno) ++ wX4 cI cZ cG h4 a4  ++ wX3 cI cZ cG (a4 0) a3 (nI x.nr) (nI nt25) (nI x.nc) (col 3 0 x.mru) (col 3 1 x.mru) (col 3 2 x.mru) so25 tr25 si25 gr25 (col 3 0 x.mcl) (col 3 1 x.mcl) (col 3 2 x.mcl) ++ wX5 cI cZ cG h5 a5 (nI x.nr) (nI nt210) (nI x.nc) (nI x.nw) x.hd (nI x.wk) (nI x.ng) (nI x.nT) x.mi (nI x.nf) (nI x.nn) x.mru mth210 x.mcl x.mfa x.mwa x.mfz x.mbl x.mbk x.mtr x.mno x.mlo x.mip x.mto) H := hP
  have hD : va_D A (wX1 cI cZ cG (a4 1) a1 x.hd (nI x.wk) (nI x.nw) x.ll x.lw x.lx x.lk x.mfa x.mfz (col 5 0 x.mwa) (col 5 1 x.mwa) (col 5 2 x.mwa) (col 5 3 x.mwa) (col 5 4 x.mwa) x.tl x.tt ++ wX2 cI cZ cG (a4 2) a2 (nI x.ng) (nI x.nT) x.mi x.mbl (col 7 0 x.mtr) (col 7 1 x.mtr) (col 7 2 x.mtr) (col 7 3 x.mtr) (col 7 5 x.mtr) (col 7 6 x.mtr) (col 7 4 x.mtr) (BM x.mbk) ++ wX0 cI cZ cG (a4 3) a0 (nI x.nf) (nI x.nn) (col 4 0 x.mno) (col 4 1 x.mno) (col 4 2 x.mno) (col 4 3 x.mno) ++ wX4 cI cZ cG h4 a4  ++ wX3 cI cZ cG (a4 0) a3 (nI x.nr) (nI nt25) (nI x.nc) (col 3 0 x.mru) (col 3 1 x.mru) (col 3 2 x.mru) so25 tr25 si25 gr25 (col 3 0 x.mcl) (col 3 1 x.mcl) (col 3 2 x.mcl) ++ wX5 cI cZ cG h5 a5 (nI x.nr) (nI nt210) (nI x.nc) (nI x.nw) x.hd (nI x.wk) (nI x.ng) (nI x.nT) x.mi (nI x.nf) (nI x.nn) x.mru mth210 x.mcl x.mfa x.mwa x.mfz x.mbl x.mbk x.mtr x.mno x.mlo x.mip x.mto) := hD
  obtain ⟨er, e1, e2, e3, e4, e5, ok9⟩ := st_thing ok3 hw5 hw10
  rw [e1, e2, e3, e4, e5] at hP hD
  refine lv_icmp_eq (tgt := 1106) hx hb dL_law_284 (by decide) (fun _ => ?_) (fun c9 => absurd er c9)
  have hP := hP.sub (ws' := wX4 cI cZ cG h4 a4  ++ wX3 cI cZ cG (a4 0) a3 (nI x.nr) (nI nt210) (nI x.nc) (col 3 0 x.mru) (col 3 1 x.mru) (col 3 2 x.mru) (col 4 0 mth210) (col 4 1 mth210) (col 4 2 mth210) (grM (col 4 0 mth210) (col 4 3 mth210)) (col 3 0 x.mcl) (col 3 1 x.mcl) (col 3 2 x.mcl) ++ wX1 cI cZ cG (a4 1) a1 x.hd (nI x.wk) (nI x.nw) x.ll x.lw x.lx x.lk x.mfa x.mfz (col 5 0 x.mwa) (col 5 1 x.mwa) (col 5 2 x.mwa) (col 5 3 x.mwa) (col 5 4 x.mwa) x.tl x.tt ++ wX2 cI cZ cG (a4 2) a2 (nI x.ng) (nI x.nT) x.mi x.mbl (col 7 0 x.mtr) (col 7 1 x.mtr) (col 7 2 x.mtr) (col 7 3 x.mtr) (col 7 5 x.mtr) (col 7 6 x.mtr) (col 7 4 x.mtr) (BM x.mbk) ++ wX0 cI cZ cG (a4 3) a0 (nI x.nf) (nI x.nn) (col 4 0 x.mno) (col 4 1 x.mno) (col 4 2 x.mno) (col 4 3 x.mno) ++ wX5 cI cZ cG h5 a5 (nI x.nr) (nI nt210) (nI x.nc) (nI x.nw) x.hd (nI x.wk) (nI x.ng) (nI x.nT) x.mi (nI x.nf) (nI x.nn) x.mru mth210 x.mcl x.mfa x.mwa x.mfz x.mbl x.mbk x.mtr x.mno x.mlo x.mip x.mto) [28, 29, 30, 31, 32, 33, 34, 35, 36, 37, 38, 39, 0, 1, 2, 3, 4, 5, 6, 7, 8, 9, 10, 11, 12, 13, 14, 15, 16, 17, 18, 19, 20, 21, 22, 23, 24, 25, 26, 27, 40, 41, 42, 43, 44, 45, 46, 47, 48, 49, 50, 51, 52, 53] rfl
  have hD := hD.sub (ws' := wX4 cI cZ cG h4 a4  ++ wX3 cI cZ cG (a4 0) a3 (nI x.nr) (nI nt210) (nI x.nc) (col 3 0 x.mru) (col 3 1 x.mru) (col 3 2 x.mru) (col 4 0 mth210) (col 4 1 mth210) (col 4 2 mth210) (grM (col 4 0 mth210) (col 4 3 mth210)) (col 3 0 x.mcl) (col 3 1 x.mcl) (col 3 2 x.mcl) ++ wX1 cI cZ cG (a4 1) a1 x.hd (nI x.wk) (nI x.nw) x.ll x.lw x.lx x.lk x.mfa x.mfz (col 5 0 x.mwa) (col 5 1 x.mwa) (col 5 2 x.mwa) (col 5 3 x.mwa) (col 5 4 x.mwa) x.tl x.tt ++ wX2 cI cZ cG (a4 2) a2 (nI x.ng) (nI x.nT) x.mi x.mbl (col 7 0 x.mtr) (col 7 1 x.mtr) (col 7 2 x.mtr) (col 7 3 x.mtr) (col 7 5 x.mtr) (col 7 6 x.mtr) (col 7 4 x.mtr) (BM x.mbk) ++ wX0 cI cZ cG (a4 3) a0 (nI x.nf) (nI x.nn) (col 4 0 x.mno) (col 4 1 x.mno) (col 4 2 x.mno) (col 4 3 x.mno) ++ wX5 cI cZ cG h5 a5 (nI x.nr) (nI nt210) (nI x.nc) (nI x.nw) x.hd (nI x.wk) (nI x.ng) (nI x.nT) x.mi (nI x.nf) (nI x.nn) x.mru mth210 x.mcl x.mfa x.mwa x.mfz x.mbl x.mbk x.mtr x.mno x.mlo x.mip x.mto) [28, 29, 30, 31, 32, 33, 34, 35, 36, 37, 38, 39, 0, 1, 2, 3, 4, 5, 6, 7, 8, 9, 10, 11, 12, 13, 14, 15, 16, 17, 18, 19, 20, 21, 22, 23, 24, 25, 26, 27, 40, 41, 42, 43, 44, 45, 46, 47, 48, 49, 50, 51, 52, 53] (by decide) rfl
  exact kk (rsM x.nr nt210 x.nc x.nw x.wk x.ng x.nT x.nf x.nn x.hd x.mi x.mru mth210 x.mcl x.mfa x.mwa x.mfz x.mbl x.mbk x.mtr x.mno x.mlo x.mip x.mto x.ll x.lw x.lx x.lk x.tl x.tt) _ _ ⟨ok9, ok1, ok2, ok0⟩ hP hD hS
set_option maxHeartbeats 8000000 in
set_option maxRecDepth 100000 in
theorem L_clip (hx : p.tables.exec = Jvm.exec) (hb : c.code = cL_law) (hml : c.maxLocals = 4) (hown : s.vm.findClass RL = some m.cls) (hts : ∀ w ∈ wsL_law, w.before args s = true) (hN : nst s) (hK : va_K D vwCl (tyL cI cZ cG) s) (hX : va_X b L xs s s.heap) (hbl : b < s.heap.size) (hbA : ¬ A b) (hL : L ≤ 2560) (hA : ∀ q, s.heap.size ≤ q → A q) {x : RS} (ok : OKx x) {H : Heap} {locs : List Loc} {ls : Array Slot} (hP : va_P D vwCl (wAll cI cZ cG h4 a4 a3 a1 a2 a0 h5 a5 x) H) (hD : va_D A (wAll cI cZ cG h4 a4 a3 a1 a2 a0 h5 a5 x)) (hS : va_S A s.heap H locs) {k : Nat} (hk : 5 * k + 5 ≤ L) (hl : lv_has ls 4 [(3, .int (nI (5 * k))), (2, .ref h5), (1, .ref h4), (0, .ref b)])
    (kk : ∀ (x2 : RS) (H1 : Heap) (locs1 : List Loc), OKx x2 → va_P D vwCl (wAll cI cZ cG h4 a4 a3 a1 a2 a0 h5 a5 x2) H1 → va_D A (wAll cI cZ cG h4 a4 a3 a1 a2 a0 h5 a5 x2) → va_S A s.heap H1 locs1 → W p l e room_1 s m args below meth c H1 locs1 54 1995 Q (F0 m 1106 ls [])) : W p l e room_1 s m args below meth c H locs 54 1995 Q (F0 m 289 ls []) := by
  obtain ⟨ok3, ok1, ok2, ok0⟩ := ok
  have hnr := ok3.1
  have hnt := ok3.2.1
  have hnc := ok3.2.2.1
  have hrr := ok3.2.2.2.1
  have hnw := ok1.1
  have hwk := ok1.2.1
  have hsd := ok1.2.2.1
  have hhw := ok1.2.2.2.1
  have hfz := ok1.2.2.2.2.1
  have hng := ok2.1
  have hnT := ok2.2.1
  have hokT := ok2.2.2.1
  have hokL := ok2.2.2.2.1
  have hsu := ok2.2.2.2.2.2.1
  have hnf := ok0.1
  have hnn := ok0.2.1
  refine lv_aload_n hx hb dL_law_289 rfl (lv_at hl 2 rfl) ?_
  refine lv_aload_n hx hb dL_law_290 rfl (lv_at hl 3 rfl) ?_
  refine lv_iload_n hx hb dL_law_291 rfl (lv_at hl 0 rfl) ?_
  refine lv_iconst (v := 1) hx hb dL_law_292 (by decide) ?_
  refine lv_iadd hx hb dL_law_293 ?_
  refine lv_topi (fun z1 ez1 => ?_)
  obtain rfl : z1 = nI (5 * k + 1) := ez1.trans ((nI_add (5 * k) 1).trans (congrArg nI (by omega)))
  refine K_sld hx hb hX hbl hbA hS hL (5 * k + 1) (by omega) dL_law_294 ?_
  refine lv_aload_n hx hb dL_law_295 rfl (lv_at hl 3 rfl) ?_
  refine lv_iload_n hx hb dL_law_296 rfl (lv_at hl 0 rfl) ?_
  refine lv_iconst (v := 2) hx hb dL_law_297 (by decide) ?_
  refine lv_iadd hx hb dL_law_298 ?_
  refine lv_topi (fun z2 ez2 => ?_)
  obtain rfl : z2 = nI (5 * k + 2) := ez2.trans ((nI_add (5 * k) 2).trans (congrArg nI (by omega)))
  refine K_sld hx hb hX hbl hbA hS hL (5 * k + 2) (by omega) dL_law_299 ?_
  refine lv_aload_n hx hb dL_law_300 rfl (lv_at hl 3 rfl) ?_
  refine lv_iload_n hx hb dL_law_301 rfl (lv_at hl 0 rfl) ?_
  refine lv_iconst (v := 3) hx hb dL_law_302 (by decide) ?_
  refine lv_iadd hx hb dL_law_303 ?_
  refine lv_topi (fun z3 ez3 => ?_)
  obtain rfl : z3 = nI (5 * k + 3) := ez3.trans ((nI_add (5 * k) 3).trans (congrArg nI (by omega)))
  refine K_sld hx hb hX hbl hbA hS hL (5 * k + 3) (by omega) dL_law_304 ?_
  refine K_core (wc := wX4 cI cZ cG h4 a4  ++ wX3 cI cZ cG (a4 0) a3 (nI x.nr) (nI x.nt) (nI x.nc) (col 3 0 x.mru) (col 3 1 x.mru) (col 3 2 x.mru) (col 4 0 x.mth) (col 4 1 x.mth) (col 4 2 x.mth) (grM (col 4 0 x.mth) (col 4 3 x.mth)) (col 3 0 x.mcl) (col 3 1 x.mcl) (col 3 2 x.mcl)) (wr := wX1 cI cZ cG (a4 1) a1 x.hd (nI x.wk) (nI x.nw) x.ll x.lw x.lx x.lk x.mfa x.mfz (col 5 0 x.mwa) (col 5 1 x.mwa) (col 5 2 x.mwa) (col 5 3 x.mwa) (col 5 4 x.mwa) x.tl x.tt ++ wX2 cI cZ cG (a4 2) a2 (nI x.ng) (nI x.nT) x.mi x.mbl (col 7 0 x.mtr) (col 7 1 x.mtr) (col 7 2 x.mtr) (col 7 3 x.mtr) (col 7 5 x.mtr) (col 7 6 x.mtr) (col 7 4 x.mtr) (BM x.mbk) ++ wX0 cI cZ cG (a4 3) a0 (nI x.nf) (nI x.nn) (col 4 0 x.mno) (col 4 1 x.mno) (col 4 2 x.mno) (col 4 3 x.mno) ++ wX5 cI cZ cG h5 a5 (nI x.nr) (nI x.nt) (nI x.nc) (nI x.nw) x.hd (nI x.wk) (nI x.ng) (nI x.nT) x.mi (nI x.nf) (nI x.nn) x.mru x.mth x.mcl x.mfa x.mwa x.mfz x.mbl x.mbk x.mtr x.mno x.mlo x.mip x.mto) (va_runV (As := [.int (xs (5 * k + 1)), .int (xs (5 * k + 2)), .int (xs (5 * k + 3))]) (rest := []) ⟨hx, hb, hml, hown, hts⟩ (c_X4_clip l D cI cZ cG h4 a4 a3 _ x.nr x.nt x.nc (col 3 0 x.mru) (col 3 1 x.mru) (col 3 2 x.mru) (col 4 0 x.mth) (col 4 1 x.mth) (col 4 2 x.mth) (grM (col 4 0 x.mth) (col 4 3 x.mth)) (col 3 0 x.mcl) (col 3 1 x.mcl) (col 3 2 x.mcl) (xs (5 * k + 1)) (xs (5 * k + 2)) (xs (5 * k + 3)) (by omega) (by omega) (by omega)) (cwV 3 hts gL_law_X4_clip rfl rfl rfl (by decide +kernel) ⟨(Nat.le_of_ble_eq_true rfl), (Nat.le_of_ble_eq_true rfl)⟩) ⟨PB_blind, va_recv hK hP (ci := 4) (q0 := 0) rfl rfl, (K_pre hN hK hP hD [0, 1, 2, 3, 4, 5, 6, 7, 8, 9, 10, 11] rfl rfl).2⟩ rfl rfl hl.1 rfl (lv_room (Nat.le_of_ble_eq_true rfl)) dL_law_305 ⟨(Nat.le_of_ble_eq_true rfl), (Nat.le_of_ble_eq_true rfl)⟩) hP hD hS hA [0, 1, 2, 3, 4, 5, 6, 7, 8, 9, 10, 11] [12, 13, 14, 15, 16, 17, 18, 19, 20, 21, 22, 23, 24, 25, 26, 27, 28, 29, 30, 31, 32, 33, 34, 35, 36, 37, 38, 39, 40, 41, 42, 43, 44, 45, 46, 47, 48, 49, 50, 51, 52, 53] rfl rfl rfl (by decide) (fun r4 u H locs hw4 hP hD hS => ?_)
  obtain ⟨nc24, ct24, cd24, cs24⟩ := u
  try dsimp only at hw4
  have hP : va_P D vwCl (wX1 cI cZ cG (a4 1) a1 x.hd (nI x.wk) (nI x.nw) x.ll x.lw x.lx x.lk x.mfa x.mfz (col 5 0 x.mwa) (col 5 1 x.mwa) (col 5 2 x.mwa) (col 5 3 x.mwa) (col 5 4 x.mwa) x.tl x.tt ++ wX2 cI cZ cG (a4 2) a2 (nI x.ng) (nI x.nT) x.mi x.mbl (col 7 0 x.mtr) (col 7 1 x.mtr) (col 7 2 x.mtr) (col 7 3 x.mtr) (col 7 5 x.mtr) (col 7 6 x.mtr) (col 7 4 x.mtr) (BM x.mbk) ++ wX0 cI cZ cG (a4 3) a0 (nI x.nf) (nI x.nn) (col 4 0 x.mno) (col 4 1 x.mno) (col 4 2 x.mno) (col 4 3 x.mno) ++ wX5 cI cZ cG h5 a5 (nI x.nr) (nI x.nt) (nI x.nc) (nI x.nw) x.hd (nI x.wk) (nI x.ng) (nI x.nT) x.mi (nI x.nf) (nI x.nn) x.mru x.mth x.mcl x.mfa x.mwa x.mfz x.mbl x.mbk x.mtr x.mno x.mlo x.mip x.mto ++ wX4 cI cZ cG h4 a4  ++ wX3 cI cZ cG (a4 0) a3 (nI x.nr) (nI x.nt) (nI nc24) (col 3 0 x.mru) (col 3 1 x.mru) (col 3 2 x.mru) (col 4 0 x.mth) (col 4 1 x.mth) (col 4 2 x.mth) (grM (col 4 0 x.mth) (col 4 3 x.mth)) ct24 cd24 cs24) H := hP
  have hD : va_D A (wX1 cI cZ cG (a4 1) a1 x.hd (nI x.wk) (nI x.nw) x.ll x.lw x.lx x.lk x.mfa x.mfz (col 5 0 x.mwa) (col 5 1 x.mwa) (col 5 2 x.mwa) (col 5 3 x.mwa) (col 5 4 x.mwa) x.tl x.tt ++ wX2 cI cZ cG (a4 2) a2 (nI x.ng) (nI x.nT) x.mi x.mbl (col 7 0 x.mtr) (col 7 1 x.mtr) (col 7 2 x.mtr) (col 7 3 x.mtr) (col 7 5 x.mtr) (col 7 6 x.mtr) (col 7 4 x.mtr) (BM x.mbk) ++ wX0 cI cZ cG (a4 3) a0 (nI x.nf) (nI x.nn) (col 4 0 x.mno) (col 4 1 x.mno) (col 4 2 x.mno) (col 4 3 x.mno) ++ wX5 cI cZ cG h5 a5 (nI x.nr) (nI x.nt) (nI x.nc) (nI x.nw) x.hd (nI x.wk) (nI x.ng) (nI x.nT) x.mi (nI x.nf) (nI x.nn) x.mru x.mth x.mcl x.mfa x.mwa x.mfz x.mbl x.mbk x.mtr x.mno x.mlo x.mip x.mto ++ wX4 cI cZ cG h4 a4  ++ wX3 cI cZ cG (a4 0) a3 (nI x.nr) (nI x.nt) (nI nc24) (col 3 0 x.mru) (col 3 1 x.mru) (col 3 2 x.mru) (col 4 0 x.mth) (col 4 1 x.mth) (col 4 2 x.mth) (grM (col 4 0 x.mth) (col 4 3 x.mth)) ct24 cd24 cs24) := hD
  refine lv_aload_n hx hb dL_law_308 rfl (lv_at hl 1 rfl) ?_
  refine lv_aload_n hx hb dL_law_309 rfl (lv_at hl 3 rfl) ?_
  refine lv_iload_n hx hb dL_law_310 rfl (lv_at hl 0 rfl) ?_
  refine lv_iconst (v := 1) hx hb dL_law_311 (by decide) ?_
  refine lv_iadd hx hb dL_law_312 ?_
  refine lv_topi (fun z5 ez5 => ?_)
  obtain rfl : z5 = nI (5 * k + 1) := ez5.trans ((nI_add (5 * k) 1).trans (congrArg nI (by omega)))
  refine K_sld hx hb hX hbl hbA hS hL (5 * k + 1) (by omega) dL_law_313 ?_
  refine lv_aload_n hx hb dL_law_314 rfl (lv_at hl 3 rfl) ?_
  refine lv_iload_n hx hb dL_law_315 rfl (lv_at hl 0 rfl) ?_
  refine lv_iconst (v := 2) hx hb dL_law_316 (by decide) ?_
  refine lv_iadd hx hb dL_law_317 ?_
  refine lv_topi (fun z6 ez6 => ?_)
  obtain rfl : z6 = nI (5 * k + 2) := ez6.trans ((nI_add (5 * k) 2).trans (congrArg nI (by omega)))
  refine K_sld hx hb hX hbl hbA hS hL (5 * k + 2) (by omega) dL_law_318 ?_
  refine lv_aload_n hx hb dL_law_319 rfl (lv_at hl 3 rfl) ?_
  refine lv_iload_n hx hb dL_law_320 rfl (lv_at hl 0 rfl) ?_
  refine lv_iconst (v := 3) hx hb dL_law_321 (by decide) ?_
  refine lv_iadd hx hb dL_law_322 ?_
  refine lv_topi (fun z7 ez7 => ?_)
  obtain rfl : z7 = nI (5 * k + 3) := ez7.trans ((nI_add (5 * k) 3).trans (congrArg nI (by omega)))
  refine K_sld hx hb hX hbl hbA hS hL (5 * k + 3) (by omega) dL_law_323 ?_
  refine K_core (wc := wX5 cI cZ cG h5 a5 (nI x.nr) (nI x.nt) (nI x.nc) (nI x.nw) x.hd (nI x.wk) (nI x.ng) (nI x.nT) x.mi (nI x.nf) (nI x.nn) x.mru x.mth x.mcl x.mfa x.mwa x.mfz x.mbl x.mbk x.mtr x.mno x.mlo x.mip x.mto) (wr := wX1 cI cZ cG (a4 1) a1 x.hd (nI x.wk) (nI x.nw) x.ll x.lw x.lx x.lk x.mfa x.mfz (col 5 0 x.mwa) (col 5 1 x.mwa) (col 5 2 x.mwa) (col 5 3 x.mwa) (col 5 4 x.mwa) x.tl x.tt ++ wX2 cI cZ cG (a4 2) a2 (nI x.ng) (nI x.nT) x.mi x.mbl (col 7 0 x.mtr) (col 7 1 x.mtr) (col 7 2 x.mtr) (col 7 3 x.mtr) (col 7 5 x.mtr) (col 7 6 x.mtr) (col 7 4 x.mtr) (BM x.mbk) ++ wX0 cI cZ cG (a4 3) a0 (nI x.nf) (nI x.nn) (col 4 0 x.mno) (col 4 1 x.mno) (col 4 2 x.mno) (col 4 3 x.mno) ++ wX4 cI cZ cG h4 a4  ++ wX3 cI cZ cG (a4 0) a3 (nI x.nr) (nI x.nt) (nI nc24) (col 3 0 x.mru) (col 3 1 x.mru) (col 3 2 x.mru) (col 4 0 x.mth) (col 4 1 x.mth) (col 4 2 x.mth) (grM (col 4 0 x.mth) (col 4 3 x.mth)) ct24 cd24 cs24) (va_runV (As := [.int (xs (5 * k + 1)), .int (xs (5 * k + 2)), .int (xs (5 * k + 3))]) (rest := [.int r4]) ⟨hx, hb, hml, hown, hts⟩ (c_X5_clip l D cI cZ cG h5 a5 _ x.nr x.nt x.nc x.nw x.hd x.wk x.ng x.nT x.mi x.nf x.nn x.mru x.mth x.mcl x.mfa x.mwa x.mfz x.mbl x.mbk x.mtr x.mno x.mlo x.mip x.mto (xs (5 * k + 1)) (xs (5 * k + 2)) (xs (5 * k + 3)) (by omega) (by omega) (by omega) (by omega) (by omega) (by omega) (by omega) (by omega) (by omega)) (cwV 3 hts gL_law_X5_clip rfl rfl rfl (by decide +kernel) ⟨(Nat.le_of_ble_eq_true rfl), (Nat.le_of_ble_eq_true rfl)⟩) ⟨PB_blind, va_recv hK hP (ci := 5) (q0 := 28) rfl rfl, (K_pre hN hK hP hD [28, 29, 30, 31, 32, 33, 34, 35, 36, 37, 38, 39, 40, 41] rfl rfl).2⟩ rfl rfl hl.1 rfl (lv_room (Nat.le_of_ble_eq_true rfl)) dL_law_324 ⟨(Nat.le_of_ble_eq_true rfl), (Nat.le_of_ble_eq_true rfl)⟩) hP hD hS hA [28, 29, 30, 31, 32, 33, 34, 35, 36, 37, 38, 39, 40, 41] [0, 1, 2, 3, 4, 5, 6, 7, 8, 9, 10, 11, 12, 13, 14, 15, 16, 17, 18, 19, 20, 21, 22, 23, 24, 25, 26, 27, 42, 43, 44, 45, 46, 47, 48, 49, 50, 51, 52, 53] rfl rfl rfl (by decide) (fun r8 u H locs hw8 hP hD hS => ?_)
  obtain ⟨nc28, mcl28⟩ := u
  try dsimp only at hw8
  have hP : va_P D vwCl (wX1 cI cZ cG (a4 1) a1 x.hd (nI x.wk) (nI x.nw) x.ll x.lw x.lx x.lk x.mfa x.mfz (col 5 0 x.mwa) (col 5 1 x.mwa) (col 5 2 x.mwa) (col 5 3 x.mwa) (col 5 4 x.mwa) x.tl x.tt ++ wX2 cI cZ cG (a4 2) a2 (nI x.ng) (nI x.nT) x.mi x.mbl (col 7 0 x.mtr) (col 7 1 x.mtr) (col 7 2 x.mtr) (col 7 3 x.mtr) (col 7 5 x.mtr) (col 7 6 x.mtr) (col 7 4 x.mtr) (BM x.mbk) ++ wX0 cI cZ cG (a4 3) a0 (nI x.nf) (nI x.nn) (col 4 0 x.mno) (col 4 1 x.mno) (col 4 2 x.mno) (col 4 3 x.mno) ++ wX4 cI cZ cG h4 a4  ++ wX3 cI cZ cG (a4 0) a3 (nI x.nr) (nI x.nt) (nI nc24) (col 3 0 x.mru) (col 3 1 x.mru) (col 3 2 x.mru) (col 4 0 x.mth) (col 4 1 x.mth) (col 4 2 x.mth) (grM (col 4 0 x.mth) (col 4 3 x.mth)) ct24 cd24 cs24 ++ wX5 cI cZ cG h5 a5 (nI x.nr) (nI x.nt) (nI nc28) (nI x.nw) x.hd (nI x.wk) (nI x.ng) (nI x.nT) x.mi (nI x.nf) (nI x.nn) x.mru x.mth mcl28 x.mfa x.mwa x.mfz x.mbl x.mbk x.mtr x.mno x.mlo x.mip x.mto) H := hP
  have hD : va_D A (wX1 cI cZ cG (a4 1) a1 x.hd (nI x.wk) (nI x.nw) x.ll x.lw x.lx x.lk x.mfa x.mfz (col 5 0 x.mwa) (col 5 1 x.mwa) (col 5 2 x.mwa) (col 5 3 x.mwa) (col 5 4 x.mwa) x.tl x.tt ++ wX2 cI cZ cG (a4 2) a2 (nI x.ng) (nI x.nT) x.mi x.mbl (col 7 0 x.mtr) (col 7 1 x.mtr) (col 7 2 x.mtr) (col 7 3 x.mtr) (col 7 5 x.mtr) (col 7 6 x.mtr) (col 7 4 x.mtr) (BM x.mbk) ++ wX0 cI cZ cG (a4 3) a0 (nI x.nf) (nI x.nn) (col 4 0 x.mno) (col 4 1 x.mno) (col 4 2 x.mno) (col 4 3 x.mno) ++ wX4 cI cZ cG h4 a4  ++ wX3 cI cZ cG (a4 0) a3 (nI x.nr) (nI x.nt) (nI nc24) (col 3 0 x.mru) (col 3 1 x.mru) (col 3 2 x.mru) (col 4 0 x.mth) (col 4 1 x.mth) (col 4 2 x.mth) (grM (col 4 0 x.mth) (col 4 3 x.mth)) ct24 cd24 cs24 ++ wX5 cI cZ cG h5 a5 (nI x.nr) (nI x.nt) (nI nc28) (nI x.nw) x.hd (nI x.wk) (nI x.ng) (nI x.nT) x.mi (nI x.nf) (nI x.nn) x.mru x.mth mcl28 x.mfa x.mwa x.mfz x.mbl x.mbk x.mtr x.mno x.mlo x.mip x.mto) := hD
  obtain ⟨er, e1, e2, e3, e4, ok9⟩ := st_clip ok3 hw4 hw8
  rw [e1, e2, e3, e4] at hP hD
  refine lv_icmp_eq (tgt := 1106) hx hb dL_law_327 (by decide) (fun _ => ?_) (fun c9 => absurd er c9)
  have hP := hP.sub (ws' := wX4 cI cZ cG h4 a4  ++ wX3 cI cZ cG (a4 0) a3 (nI x.nr) (nI x.nt) (nI nc28) (col 3 0 x.mru) (col 3 1 x.mru) (col 3 2 x.mru) (col 4 0 x.mth) (col 4 1 x.mth) (col 4 2 x.mth) (grM (col 4 0 x.mth) (col 4 3 x.mth)) (col 3 0 mcl28) (col 3 1 mcl28) (col 3 2 mcl28) ++ wX1 cI cZ cG (a4 1) a1 x.hd (nI x.wk) (nI x.nw) x.ll x.lw x.lx x.lk x.mfa x.mfz (col 5 0 x.mwa) (col 5 1 x.mwa) (col 5 2 x.mwa) (col 5 3 x.mwa) (col 5 4 x.mwa) x.tl x.tt ++ wX2 cI cZ cG (a4 2) a2 (nI x.ng) (nI x.nT) x.mi x.mbl (col 7 0 x.mtr) (col 7 1 x.mtr) (col 7 2 x.mtr) (col 7 3 x.mtr) (col 7 5 x.mtr) (col 7 6 x.mtr) (col 7 4 x.mtr) (BM x.mbk) ++ wX0 cI cZ cG (a4 3) a0 (nI x.nf) (nI x.nn) (col 4 0 x.mno) (col 4 1 x.mno) (col 4 2 x.mno) (col 4 3 x.mno) ++ wX5 cI cZ cG h5 a5 (nI x.nr) (nI x.nt) (nI nc28) (nI x.nw) x.hd (nI x.wk) (nI x.ng) (nI x.nT) x.mi (nI x.nf) (nI x.nn) x.mru x.mth mcl28 x.mfa x.mwa x.mfz x.mbl x.mbk x.mtr x.mno x.mlo x.mip x.mto) [28, 29, 30, 31, 32, 33, 34, 35, 36, 37, 38, 39, 0, 1, 2, 3, 4, 5, 6, 7, 8, 9, 10, 11, 12, 13, 14, 15, 16, 17, 18, 19, 20, 21, 22, 23, 24, 25, 26, 27, 40, 41, 42, 43, 44, 45, 46, 47, 48, 49, 50, 51, 52, 53] rfl
  have hD := hD.sub (ws' := wX4 cI cZ cG h4 a4  ++ wX3 cI cZ cG (a4 0) a3 (nI x.nr) (nI x.nt) (nI nc28) (col 3 0 x.mru) (col 3 1 x.mru) (col 3 2 x.mru) (col 4 0 x.mth) (col 4 1 x.mth) (col 4 2 x.mth) (grM (col 4 0 x.mth) (col 4 3 x.mth)) (col 3 0 mcl28) (col 3 1 mcl28) (col 3 2 mcl28) ++ wX1 cI cZ cG (a4 1) a1 x.hd (nI x.wk) (nI x.nw) x.ll x.lw x.lx x.lk x.mfa x.mfz (col 5 0 x.mwa) (col 5 1 x.mwa) (col 5 2 x.mwa) (col 5 3 x.mwa) (col 5 4 x.mwa) x.tl x.tt ++ wX2 cI cZ cG (a4 2) a2 (nI x.ng) (nI x.nT) x.mi x.mbl (col 7 0 x.mtr) (col 7 1 x.mtr) (col 7 2 x.mtr) (col 7 3 x.mtr) (col 7 5 x.mtr) (col 7 6 x.mtr) (col 7 4 x.mtr) (BM x.mbk) ++ wX0 cI cZ cG (a4 3) a0 (nI x.nf) (nI x.nn) (col 4 0 x.mno) (col 4 1 x.mno) (col 4 2 x.mno) (col 4 3 x.mno) ++ wX5 cI cZ cG h5 a5 (nI x.nr) (nI x.nt) (nI nc28) (nI x.nw) x.hd (nI x.wk) (nI x.ng) (nI x.nT) x.mi (nI x.nf) (nI x.nn) x.mru x.mth mcl28 x.mfa x.mwa x.mfz x.mbl x.mbk x.mtr x.mno x.mlo x.mip x.mto) [28, 29, 30, 31, 32, 33, 34, 35, 36, 37, 38, 39, 0, 1, 2, 3, 4, 5, 6, 7, 8, 9, 10, 11, 12, 13, 14, 15, 16, 17, 18, 19, 20, 21, 22, 23, 24, 25, 26, 27, 40, 41, 42, 43, 44, 45, 46, 47, 48, 49, 50, 51, 52, 53] (by decide) rfl
  exact kk (rsM x.nr x.nt nc28 x.nw x.wk x.ng x.nT x.nf x.nn x.hd x.mi x.mru x.mth mcl28 x.mfa x.mwa x.mfz x.mbl x.mbk x.mtr x.mno x.mlo x.mip x.mto x.ll x.lw x.lx x.lk x.tl x.tt) _ _ ⟨ok9, ok1, ok2, ok0⟩ hP hD hS
set_option maxHeartbeats 8000000 in
set_option maxRecDepth 100000 in
theorem L_look (hx : p.tables.exec = Jvm.exec) (hb : c.code = cL_law) (hml : c.maxLocals = 4) (hown : s.vm.findClass RL = some m.cls) (hts : ∀ w ∈ wsL_law, w.before args s = true) (hN : nst s) (hK : va_K D vwCl (tyL cI cZ cG) s) (hX : va_X b L xs s s.heap) (hbl : b < s.heap.size) (hbA : ¬ A b) (hL : L ≤ 2560) (hA : ∀ q, s.heap.size ≤ q → A q) {x : RS} (ok : OKx x) {H : Heap} {locs : List Loc} {ls : Array Slot} (hP : va_P D vwCl (wAll cI cZ cG h4 a4 a3 a1 a2 a0 h5 a5 x) H) (hD : va_D A (wAll cI cZ cG h4 a4 a3 a1 a2 a0 h5 a5 x)) (hS : va_S A s.heap H locs) {k : Nat} (hk : 5 * k + 5 ≤ L) (hl : lv_has ls 4 [(3, .int (nI (5 * k))), (2, .ref h5), (1, .ref h4), (0, .ref b)])
    (kk : ∀ (x2 : RS) (H1 : Heap) (locs1 : List Loc), OKx x2 → va_P D vwCl (wAll cI cZ cG h4 a4 a3 a1 a2 a0 h5 a5 x2) H1 → va_D A (wAll cI cZ cG h4 a4 a3 a1 a2 a0 h5 a5 x2) → va_S A s.heap H1 locs1 → W p l e room_1 s m args below meth c H1 locs1 54 1995 Q (F0 m 1106 ls [])) : W p l e room_1 s m args below meth c H locs 54 1995 Q (F0 m 332 ls []) := by
  obtain ⟨ok3, ok1, ok2, ok0⟩ := ok
  have hnr := ok3.1
  have hnt := ok3.2.1
  have hnc := ok3.2.2.1
  have hrr := ok3.2.2.2.1
  have hnw := ok1.1
  have hwk := ok1.2.1
  have hsd := ok1.2.2.1
  have hhw := ok1.2.2.2.1
  have hfz := ok1.2.2.2.2.1
  have hng := ok2.1
  have hnT := ok2.2.1
  have hokT := ok2.2.2.1
  have hokL := ok2.2.2.2.1
  have hsu := ok2.2.2.2.2.2.1
  have hnf := ok0.1
  have hnn := ok0.2.1
  refine lv_aload_n hx hb dL_law_332 rfl (lv_at hl 2 rfl) ?_
  refine lv_aload_n hx hb dL_law_333 rfl (lv_at hl 3 rfl) ?_
  refine lv_iload_n hx hb dL_law_334 rfl (lv_at hl 0 rfl) ?_
  refine lv_iconst (v := 1) hx hb dL_law_335 (by decide) ?_
  refine lv_iadd hx hb dL_law_336 ?_
  refine lv_topi (fun z1 ez1 => ?_)
  obtain rfl : z1 = nI (5 * k + 1) := ez1.trans ((nI_add (5 * k) 1).trans (congrArg nI (by omega)))
  refine K_sld hx hb hX hbl hbA hS hL (5 * k + 1) (by omega) dL_law_337 ?_
  refine lv_aload_n hx hb dL_law_338 rfl (lv_at hl 3 rfl) ?_
  refine lv_iload_n hx hb dL_law_339 rfl (lv_at hl 0 rfl) ?_
  refine lv_iconst (v := 2) hx hb dL_law_340 (by decide) ?_
  refine lv_iadd hx hb dL_law_341 ?_
  refine lv_topi (fun z2 ez2 => ?_)
  obtain rfl : z2 = nI (5 * k + 2) := ez2.trans ((nI_add (5 * k) 2).trans (congrArg nI (by omega)))
  refine K_sld hx hb hX hbl hbA hS hL (5 * k + 2) (by omega) dL_law_342 ?_
  refine lv_aload_n hx hb dL_law_343 rfl (lv_at hl 3 rfl) ?_
  refine lv_iload_n hx hb dL_law_344 rfl (lv_at hl 0 rfl) ?_
  refine lv_iconst (v := 3) hx hb dL_law_345 (by decide) ?_
  refine lv_iadd hx hb dL_law_346 ?_
  refine lv_topi (fun z3 ez3 => ?_)
  obtain rfl : z3 = nI (5 * k + 3) := ez3.trans ((nI_add (5 * k) 3).trans (congrArg nI (by omega)))
  refine K_sld hx hb hX hbl hbA hS hL (5 * k + 3) (by omega) dL_law_347 ?_
  refine K_core (wc := wX4 cI cZ cG h4 a4  ++ wX3 cI cZ cG (a4 0) a3 (nI x.nr) (nI x.nt) (nI x.nc) (col 3 0 x.mru) (col 3 1 x.mru) (col 3 2 x.mru) (col 4 0 x.mth) (col 4 1 x.mth) (col 4 2 x.mth) (grM (col 4 0 x.mth) (col 4 3 x.mth)) (col 3 0 x.mcl) (col 3 1 x.mcl) (col 3 2 x.mcl)) (wr := wX1 cI cZ cG (a4 1) a1 x.hd (nI x.wk) (nI x.nw) x.ll x.lw x.lx x.lk x.mfa x.mfz (col 5 0 x.mwa) (col 5 1 x.mwa) (col 5 2 x.mwa) (col 5 3 x.mwa) (col 5 4 x.mwa) x.tl x.tt ++ wX2 cI cZ cG (a4 2) a2 (nI x.ng) (nI x.nT) x.mi x.mbl (col 7 0 x.mtr) (col 7 1 x.mtr) (col 7 2 x.mtr) (col 7 3 x.mtr) (col 7 5 x.mtr) (col 7 6 x.mtr) (col 7 4 x.mtr) (BM x.mbk) ++ wX0 cI cZ cG (a4 3) a0 (nI x.nf) (nI x.nn) (col 4 0 x.mno) (col 4 1 x.mno) (col 4 2 x.mno) (col 4 3 x.mno) ++ wX5 cI cZ cG h5 a5 (nI x.nr) (nI x.nt) (nI x.nc) (nI x.nw) x.hd (nI x.wk) (nI x.ng) (nI x.nT) x.mi (nI x.nf) (nI x.nn) x.mru x.mth x.mcl x.mfa x.mwa x.mfz x.mbl x.mbk x.mtr x.mno x.mlo x.mip x.mto) (va_runV (As := [.int (xs (5 * k + 1)), .int (xs (5 * k + 2)), .int (xs (5 * k + 3))]) (rest := []) ⟨hx, hb, hml, hown, hts⟩ (c_X4_look l D cI cZ cG h4 a4 a3 _ x.nr x.nt x.nc (col 3 0 x.mru) (col 3 1 x.mru) (col 3 2 x.mru) (col 4 0 x.mth) (col 4 1 x.mth) (col 4 2 x.mth) (grM (col 4 0 x.mth) (col 4 3 x.mth)) (col 3 0 x.mcl) (col 3 1 x.mcl) (col 3 2 x.mcl) (xs (5 * k + 1)) (xs (5 * k + 2)) (xs (5 * k + 3)) (by omega) (by omega) (by omega) hrr) (cwV 3 hts gL_law_X4_look rfl rfl rfl (by decide +kernel) ⟨(Nat.le_of_ble_eq_true rfl), (Nat.le_of_ble_eq_true rfl)⟩) ⟨PB_blind, va_recv hK hP (ci := 4) (q0 := 0) rfl rfl, (K_pre hN hK hP hD [0, 1, 2, 3, 4, 5, 6, 7, 8, 9, 10, 11] rfl rfl).2⟩ rfl rfl hl.1 rfl (lv_room (Nat.le_of_ble_eq_true rfl)) dL_law_348 ⟨(Nat.le_of_ble_eq_true rfl), (Nat.le_of_ble_eq_true rfl)⟩) hP hD hS hA [0, 1, 2, 3, 4, 5, 6, 7, 8, 9, 10, 11] [12, 13, 14, 15, 16, 17, 18, 19, 20, 21, 22, 23, 24, 25, 26, 27, 28, 29, 30, 31, 32, 33, 34, 35, 36, 37, 38, 39, 40, 41, 42, 43, 44, 45, 46, 47, 48, 49, 50, 51, 52, 53] rfl rfl rfl (by decide) (fun r4 u H locs hw4 hP hD hS => ?_)
  have hP : va_P D vwCl (wX1 cI cZ cG (a4 1) a1 x.hd (nI x.wk) (nI x.nw) x.ll x.lw x.lx x.lk x.mfa x.mfz (col 5 0 x.mwa) (col 5 1 x.mwa) (col 5 2 x.mwa) (col 5 3 x.mwa) (col 5 4 x.mwa) x.tl x.tt ++ wX2 cI cZ cG (a4 2) a2 (nI x.ng) (nI x.nT) x.mi x.mbl (col 7 0 x.mtr) (col 7 1 x.mtr) (col 7 2 x.mtr) (col 7 3 x.mtr) (col 7 5 x.mtr) (col 7 6 x.mtr) (col 7 4 x.mtr) (BM x.mbk) ++ wX0 cI cZ cG (a4 3) a0 (nI x.nf) (nI x.nn) (col 4 0 x.mno) (col 4 1 x.mno) (col 4 2 x.mno) (col 4 3 x.mno) ++ wX5 cI cZ cG h5 a5 (nI x.nr) (nI x.nt) (nI x.nc) (nI x.nw) x.hd (nI x.wk) (nI x.ng) (nI x.nT) x.mi (nI x.nf) (nI x.nn) x.mru x.mth x.mcl x.mfa x.mwa x.mfz x.mbl x.mbk x.mtr x.mno x.mlo x.mip x.mto ++ wX4 cI cZ cG h4 a4  ++ wX3 cI cZ cG (a4 0) a3 (nI x.nr) (nI x.nt) (nI x.nc) (col 3 0 x.mru) (col 3 1 x.mru) (col 3 2 x.mru) (col 4 0 x.mth) (col 4 1 x.mth) (col 4 2 x.mth) (grM (col 4 0 x.mth) (col 4 3 x.mth)) (col 3 0 x.mcl) (col 3 1 x.mcl) (col 3 2 x.mcl)) H := hP
  have hD : va_D A (wX1 cI cZ cG (a4 1) a1 x.hd (nI x.wk) (nI x.nw) x.ll x.lw x.lx x.lk x.mfa x.mfz (col 5 0 x.mwa) (col 5 1 x.mwa) (col 5 2 x.mwa) (col 5 3 x.mwa) (col 5 4 x.mwa) x.tl x.tt ++ wX2 cI cZ cG (a4 2) a2 (nI x.ng) (nI x.nT) x.mi x.mbl (col 7 0 x.mtr) (col 7 1 x.mtr) (col 7 2 x.mtr) (col 7 3 x.mtr) (col 7 5 x.mtr) (col 7 6 x.mtr) (col 7 4 x.mtr) (BM x.mbk) ++ wX0 cI cZ cG (a4 3) a0 (nI x.nf) (nI x.nn) (col 4 0 x.mno) (col 4 1 x.mno) (col 4 2 x.mno) (col 4 3 x.mno) ++ wX5 cI cZ cG h5 a5 (nI x.nr) (nI x.nt) (nI x.nc) (nI x.nw) x.hd (nI x.wk) (nI x.ng) (nI x.nT) x.mi (nI x.nf) (nI x.nn) x.mru x.mth x.mcl x.mfa x.mwa x.mfz x.mbl x.mbk x.mtr x.mno x.mlo x.mip x.mto ++ wX4 cI cZ cG h4 a4  ++ wX3 cI cZ cG (a4 0) a3 (nI x.nr) (nI x.nt) (nI x.nc) (col 3 0 x.mru) (col 3 1 x.mru) (col 3 2 x.mru) (col 4 0 x.mth) (col 4 1 x.mth) (col 4 2 x.mth) (grM (col 4 0 x.mth) (col 4 3 x.mth)) (col 3 0 x.mcl) (col 3 1 x.mcl) (col 3 2 x.mcl)) := hD
  refine lv_aload_n hx hb dL_law_351 rfl (lv_at hl 1 rfl) ?_
  refine lv_aload_n hx hb dL_law_352 rfl (lv_at hl 3 rfl) ?_
  refine lv_iload_n hx hb dL_law_353 rfl (lv_at hl 0 rfl) ?_
  refine lv_iconst (v := 1) hx hb dL_law_354 (by decide) ?_
  refine lv_iadd hx hb dL_law_355 ?_
  refine lv_topi (fun z5 ez5 => ?_)
  obtain rfl : z5 = nI (5 * k + 1) := ez5.trans ((nI_add (5 * k) 1).trans (congrArg nI (by omega)))
  refine K_sld hx hb hX hbl hbA hS hL (5 * k + 1) (by omega) dL_law_356 ?_
  refine lv_aload_n hx hb dL_law_357 rfl (lv_at hl 3 rfl) ?_
  refine lv_iload_n hx hb dL_law_358 rfl (lv_at hl 0 rfl) ?_
  refine lv_iconst (v := 2) hx hb dL_law_359 (by decide) ?_
  refine lv_iadd hx hb dL_law_360 ?_
  refine lv_topi (fun z6 ez6 => ?_)
  obtain rfl : z6 = nI (5 * k + 2) := ez6.trans ((nI_add (5 * k) 2).trans (congrArg nI (by omega)))
  refine K_sld hx hb hX hbl hbA hS hL (5 * k + 2) (by omega) dL_law_361 ?_
  refine lv_aload_n hx hb dL_law_362 rfl (lv_at hl 3 rfl) ?_
  refine lv_iload_n hx hb dL_law_363 rfl (lv_at hl 0 rfl) ?_
  refine lv_iconst (v := 3) hx hb dL_law_364 (by decide) ?_
  refine lv_iadd hx hb dL_law_365 ?_
  refine lv_topi (fun z7 ez7 => ?_)
  obtain rfl : z7 = nI (5 * k + 3) := ez7.trans ((nI_add (5 * k) 3).trans (congrArg nI (by omega)))
  refine K_sld hx hb hX hbl hbA hS hL (5 * k + 3) (by omega) dL_law_366 ?_
  refine K_core (wc := wX5 cI cZ cG h5 a5 (nI x.nr) (nI x.nt) (nI x.nc) (nI x.nw) x.hd (nI x.wk) (nI x.ng) (nI x.nT) x.mi (nI x.nf) (nI x.nn) x.mru x.mth x.mcl x.mfa x.mwa x.mfz x.mbl x.mbk x.mtr x.mno x.mlo x.mip x.mto) (wr := wX1 cI cZ cG (a4 1) a1 x.hd (nI x.wk) (nI x.nw) x.ll x.lw x.lx x.lk x.mfa x.mfz (col 5 0 x.mwa) (col 5 1 x.mwa) (col 5 2 x.mwa) (col 5 3 x.mwa) (col 5 4 x.mwa) x.tl x.tt ++ wX2 cI cZ cG (a4 2) a2 (nI x.ng) (nI x.nT) x.mi x.mbl (col 7 0 x.mtr) (col 7 1 x.mtr) (col 7 2 x.mtr) (col 7 3 x.mtr) (col 7 5 x.mtr) (col 7 6 x.mtr) (col 7 4 x.mtr) (BM x.mbk) ++ wX0 cI cZ cG (a4 3) a0 (nI x.nf) (nI x.nn) (col 4 0 x.mno) (col 4 1 x.mno) (col 4 2 x.mno) (col 4 3 x.mno) ++ wX4 cI cZ cG h4 a4  ++ wX3 cI cZ cG (a4 0) a3 (nI x.nr) (nI x.nt) (nI x.nc) (col 3 0 x.mru) (col 3 1 x.mru) (col 3 2 x.mru) (col 4 0 x.mth) (col 4 1 x.mth) (col 4 2 x.mth) (grM (col 4 0 x.mth) (col 4 3 x.mth)) (col 3 0 x.mcl) (col 3 1 x.mcl) (col 3 2 x.mcl)) (va_runV (As := [.int (xs (5 * k + 1)), .int (xs (5 * k + 2)), .int (xs (5 * k + 3))]) (rest := [.int r4]) ⟨hx, hb, hml, hown, hts⟩ (c_X5_look l D cI cZ cG h5 a5 _ x.nr x.nt x.nc x.nw x.hd x.wk x.ng x.nT x.mi x.nf x.nn x.mru x.mth x.mcl x.mfa x.mwa x.mfz x.mbl x.mbk x.mtr x.mno x.mlo x.mip x.mto (xs (5 * k + 1)) (xs (5 * k + 2)) (xs (5 * k + 3)) (by omega) (by omega) (by omega) (by omega) (by omega) (by omega) (by omega) (by omega) (by omega) hrr) (cwV 3 hts gL_law_X5_look rfl rfl rfl (by decide +kernel) ⟨(Nat.le_of_ble_eq_true rfl), (Nat.le_of_ble_eq_true rfl)⟩) ⟨PB_blind, va_recv hK hP (ci := 5) (q0 := 28) rfl rfl, (K_pre hN hK hP hD [28, 29, 30, 31, 32, 33, 34, 35, 36, 37, 38, 39, 40, 41] rfl rfl).2⟩ rfl rfl hl.1 rfl (lv_room (Nat.le_of_ble_eq_true rfl)) dL_law_367 ⟨(Nat.le_of_ble_eq_true rfl), (Nat.le_of_ble_eq_true rfl)⟩) hP hD hS hA [28, 29, 30, 31, 32, 33, 34, 35, 36, 37, 38, 39, 40, 41] [0, 1, 2, 3, 4, 5, 6, 7, 8, 9, 10, 11, 12, 13, 14, 15, 16, 17, 18, 19, 20, 21, 22, 23, 24, 25, 26, 27, 42, 43, 44, 45, 46, 47, 48, 49, 50, 51, 52, 53] rfl rfl rfl (by decide) (fun r8 u H locs hw8 hP hD hS => ?_)
  have hP : va_P D vwCl (wX1 cI cZ cG (a4 1) a1 x.hd (nI x.wk) (nI x.nw) x.ll x.lw x.lx x.lk x.mfa x.mfz (col 5 0 x.mwa) (col 5 1 x.mwa) (col 5 2 x.mwa) (col 5 3 x.mwa) (col 5 4 x.mwa) x.tl x.tt ++ wX2 cI cZ cG (a4 2) a2 (nI x.ng) (nI x.nT) x.mi x.mbl (col 7 0 x.mtr) (col 7 1 x.mtr) (col 7 2 x.mtr) (col 7 3 x.mtr) (col 7 5 x.mtr) (col 7 6 x.mtr) (col 7 4 x.mtr) (BM x.mbk) ++ wX0 cI cZ cG (a4 3) a0 (nI x.nf) (nI x.nn) (col 4 0 x.mno) (col 4 1 x.mno) (col 4 2 x.mno) (col 4 3 x.mno) ++ wX4 cI cZ cG h4 a4  ++ wX3 cI cZ cG (a4 0) a3 (nI x.nr) (nI x.nt) (nI x.nc) (col 3 0 x.mru) (col 3 1 x.mru) (col 3 2 x.mru) (col 4 0 x.mth) (col 4 1 x.mth) (col 4 2 x.mth) (grM (col 4 0 x.mth) (col 4 3 x.mth)) (col 3 0 x.mcl) (col 3 1 x.mcl) (col 3 2 x.mcl) ++ wX5 cI cZ cG h5 a5 (nI x.nr) (nI x.nt) (nI x.nc) (nI x.nw) x.hd (nI x.wk) (nI x.ng) (nI x.nT) x.mi (nI x.nf) (nI x.nn) x.mru x.mth x.mcl x.mfa x.mwa x.mfz x.mbl x.mbk x.mtr x.mno x.mlo x.mip x.mto) H := hP
  have hD : va_D A (wX1 cI cZ cG (a4 1) a1 x.hd (nI x.wk) (nI x.nw) x.ll x.lw x.lx x.lk x.mfa x.mfz (col 5 0 x.mwa) (col 5 1 x.mwa) (col 5 2 x.mwa) (col 5 3 x.mwa) (col 5 4 x.mwa) x.tl x.tt ++ wX2 cI cZ cG (a4 2) a2 (nI x.ng) (nI x.nT) x.mi x.mbl (col 7 0 x.mtr) (col 7 1 x.mtr) (col 7 2 x.mtr) (col 7 3 x.mtr) (col 7 5 x.mtr) (col 7 6 x.mtr) (col 7 4 x.mtr) (BM x.mbk) ++ wX0 cI cZ cG (a4 3) a0 (nI x.nf) (nI x.nn) (col 4 0 x.mno) (col 4 1 x.mno) (col 4 2 x.mno) (col 4 3 x.mno) ++ wX4 cI cZ cG h4 a4  ++ wX3 cI cZ cG (a4 0) a3 (nI x.nr) (nI x.nt) (nI x.nc) (col 3 0 x.mru) (col 3 1 x.mru) (col 3 2 x.mru) (col 4 0 x.mth) (col 4 1 x.mth) (col 4 2 x.mth) (grM (col 4 0 x.mth) (col 4 3 x.mth)) (col 3 0 x.mcl) (col 3 1 x.mcl) (col 3 2 x.mcl) ++ wX5 cI cZ cG h5 a5 (nI x.nr) (nI x.nt) (nI x.nc) (nI x.nw) x.hd (nI x.wk) (nI x.ng) (nI x.nT) x.mi (nI x.nf) (nI x.nn) x.mru x.mth x.mcl x.mfa x.mwa x.mfz x.mbl x.mbk x.mtr x.mno x.mlo x.mip x.mto) := hD
  have er := hw4.trans (rLook_eq.trans hw8.symm)
  refine lv_icmp_eq (tgt := 1106) hx hb dL_law_370 (by decide) (fun _ => ?_) (fun c9 => absurd er c9)
  have hP := hP.sub (ws' := wX4 cI cZ cG h4 a4  ++ wX3 cI cZ cG (a4 0) a3 (nI x.nr) (nI x.nt) (nI x.nc) (col 3 0 x.mru) (col 3 1 x.mru) (col 3 2 x.mru) (col 4 0 x.mth) (col 4 1 x.mth) (col 4 2 x.mth) (grM (col 4 0 x.mth) (col 4 3 x.mth)) (col 3 0 x.mcl) (col 3 1 x.mcl) (col 3 2 x.mcl) ++ wX1 cI cZ cG (a4 1) a1 x.hd (nI x.wk) (nI x.nw) x.ll x.lw x.lx x.lk x.mfa x.mfz (col 5 0 x.mwa) (col 5 1 x.mwa) (col 5 2 x.mwa) (col 5 3 x.mwa) (col 5 4 x.mwa) x.tl x.tt ++ wX2 cI cZ cG (a4 2) a2 (nI x.ng) (nI x.nT) x.mi x.mbl (col 7 0 x.mtr) (col 7 1 x.mtr) (col 7 2 x.mtr) (col 7 3 x.mtr) (col 7 5 x.mtr) (col 7 6 x.mtr) (col 7 4 x.mtr) (BM x.mbk) ++ wX0 cI cZ cG (a4 3) a0 (nI x.nf) (nI x.nn) (col 4 0 x.mno) (col 4 1 x.mno) (col 4 2 x.mno) (col 4 3 x.mno) ++ wX5 cI cZ cG h5 a5 (nI x.nr) (nI x.nt) (nI x.nc) (nI x.nw) x.hd (nI x.wk) (nI x.ng) (nI x.nT) x.mi (nI x.nf) (nI x.nn) x.mru x.mth x.mcl x.mfa x.mwa x.mfz x.mbl x.mbk x.mtr x.mno x.mlo x.mip x.mto) [28, 29, 30, 31, 32, 33, 34, 35, 36, 37, 38, 39, 0, 1, 2, 3, 4, 5, 6, 7, 8, 9, 10, 11, 12, 13, 14, 15, 16, 17, 18, 19, 20, 21, 22, 23, 24, 25, 26, 27, 40, 41, 42, 43, 44, 45, 46, 47, 48, 49, 50, 51, 52, 53] rfl
  have hD := hD.sub (ws' := wX4 cI cZ cG h4 a4  ++ wX3 cI cZ cG (a4 0) a3 (nI x.nr) (nI x.nt) (nI x.nc) (col 3 0 x.mru) (col 3 1 x.mru) (col 3 2 x.mru) (col 4 0 x.mth) (col 4 1 x.mth) (col 4 2 x.mth) (grM (col 4 0 x.mth) (col 4 3 x.mth)) (col 3 0 x.mcl) (col 3 1 x.mcl) (col 3 2 x.mcl) ++ wX1 cI cZ cG (a4 1) a1 x.hd (nI x.wk) (nI x.nw) x.ll x.lw x.lx x.lk x.mfa x.mfz (col 5 0 x.mwa) (col 5 1 x.mwa) (col 5 2 x.mwa) (col 5 3 x.mwa) (col 5 4 x.mwa) x.tl x.tt ++ wX2 cI cZ cG (a4 2) a2 (nI x.ng) (nI x.nT) x.mi x.mbl (col 7 0 x.mtr) (col 7 1 x.mtr) (col 7 2 x.mtr) (col 7 3 x.mtr) (col 7 5 x.mtr) (col 7 6 x.mtr) (col 7 4 x.mtr) (BM x.mbk) ++ wX0 cI cZ cG (a4 3) a0 (nI x.nf) (nI x.nn) (col 4 0 x.mno) (col 4 1 x.mno) (col 4 2 x.mno) (col 4 3 x.mno) ++ wX5 cI cZ cG h5 a5 (nI x.nr) (nI x.nt) (nI x.nc) (nI x.nw) x.hd (nI x.wk) (nI x.ng) (nI x.nT) x.mi (nI x.nf) (nI x.nn) x.mru x.mth x.mcl x.mfa x.mwa x.mfz x.mbl x.mbk x.mtr x.mno x.mlo x.mip x.mto) [28, 29, 30, 31, 32, 33, 34, 35, 36, 37, 38, 39, 0, 1, 2, 3, 4, 5, 6, 7, 8, 9, 10, 11, 12, 13, 14, 15, 16, 17, 18, 19, 20, 21, 22, 23, 24, 25, 26, 27, 40, 41, 42, 43, 44, 45, 46, 47, 48, 49, 50, 51, 52, 53] (by decide) rfl
  exact kk x _ _ ⟨ok3, ok1, ok2, ok0⟩ hP hD hS
end LAW

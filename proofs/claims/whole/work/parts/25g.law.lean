/-! the law: cases -/
section LAW
variable {p : Program} {l : Launch} {e : Env} {s : State} {m : MethodId} {args : Array Value} {below : List Frame} {meth : Method} {c : Code} {cells slots : Nat} {Q : State → Prop} {D : va_G} {A : Nat → Prop} {cI cZ cG : ClassId} {b L : Nat} {xs : Nat → Int32} {h4 : Nat} {a4 a3 a1 a2 a0 : Nat → Nat} {h5 : Nat} {a5 : Nat → Nat}
set_option maxHeartbeats 8000000 in
set_option maxRecDepth 100000 in
theorem L_note (hx : p.tables.exec = Jvm.exec) (hb : c.code = cL_law) (hml : c.maxLocals = 4) (hown : s.vm.findClass RL = some m.cls) (hts : ∀ w ∈ wsL_law, w.before args s = true) (hN : nst s) (hK : va_K D vwCl (tyL cI cZ cG) s) (hX : va_X b L xs s s.heap) (hbl : b < s.heap.size) (hbA : ¬ A b) (hL : L ≤ 2560) (hA : ∀ q, s.heap.size ≤ q → A q) {x : RS} (ok : OKx x) {H : Heap} {locs : List Loc} {ls : Array Slot} (hP : va_P D vwCl (wAll cI cZ cG h4 a4 a3 a1 a2 a0 h5 a5 x) H) (hD : va_D A (wAll cI cZ cG h4 a4 a3 a1 a2 a0 h5 a5 x)) (hS : va_S A s.heap H locs) {k : Nat} (hk : 5 * k + 5 ≤ L) (hl : lv_has ls 4 [(3, .int (nI (5 * k))), (2, .ref h5), (1, .ref h4), (0, .ref b)])
    (kk : ∀ (x2 : RS) (H1 : Heap) (locs1 : List Loc), OKx x2 → va_P D vwCl (wAll cI cZ cG h4 a4 a3 a1 a2 a0 h5 a5 x2) H1 → va_D A (wAll cI cZ cG h4 a4 a3 a1 a2 a0 h5 a5 x2) → va_S A s.heap H1 locs1 → W p l e room_1 s m args below meth c H1 locs1 54 1995 Q (F0 m 1106 ls [])) : W p l e room_1 s m args below meth c H locs 54 1995 Q (F0 m 911 ls []) := by
  obtain ⟨ok3, ok1, ok2, ok0⟩ := ok
  have hnr := ok3.1
  have hnt := ok3.2.1
  have hnc := ok3.2.2.1
  have hrr := ok3.2.2.2.1
  have hnw := ok1.1
  have hwk := ok1.2.1
  have hsd := ok1.2.2.1
  have hhw := ok1.2.2.2.1
  have hfz := ok1.2.2.2.2.1
  have hng := ok2.1
  have hnT := ok2.2.1
  have hokT := ok2.2.2.1
  have hokL := ok2.2.2.2.1
  have hsu := ok2.2.2.2.2.2.1
  have hnf := ok0.1
  have hnn := ok0.2.1
  refine lv_aload_n hx hb dL_law_911 rfl (lv_at hl 2 rfl) ?_
  refine lv_aload_n hx hb dL_law_912 rfl (lv_at hl 3 rfl) ?_
  refine lv_iload_n hx hb dL_law_913 rfl (lv_at hl 0 rfl) ?_
  refine lv_iconst (v := 1) hx hb dL_law_914 (by decide) ?_
  refine lv_iadd hx hb dL_law_915 ?_
  refine lv_topi (fun z1 ez1 => ?_)
  obtain rfl : z1 = nI (5 * k + 1) := ez1.trans ((nI_add (5 * k) 1).trans (congrArg nI (by omega)))
  refine K_sld hx hb hX hbl hbA hS hL (5 * k + 1) (by omega) dL_law_916 ?_
  refine lv_aload_n hx hb dL_law_917 rfl (lv_at hl 3 rfl) ?_
  refine lv_iload_n hx hb dL_law_918 rfl (lv_at hl 0 rfl) ?_
  refine lv_iconst (v := 2) hx hb dL_law_919 (by decide) ?_
  refine lv_iadd hx hb dL_law_920 ?_
  refine lv_topi (fun z2 ez2 => ?_)
  obtain rfl : z2 = nI (5 * k + 2) := ez2.trans ((nI_add (5 * k) 2).trans (congrArg nI (by omega)))
  refine K_sld hx hb hX hbl hbA hS hL (5 * k + 2) (by omega) dL_law_921 ?_
  refine lv_aload_n hx hb dL_law_922 rfl (lv_at hl 3 rfl) ?_
  refine lv_iload_n hx hb dL_law_923 rfl (lv_at hl 0 rfl) ?_
  refine lv_iconst (v := 3) hx hb dL_law_924 (by decide) ?_
  refine lv_iadd hx hb dL_law_925 ?_
  refine lv_topi (fun z3 ez3 => ?_)
  obtain rfl : z3 = nI (5 * k + 3) := ez3.trans ((nI_add (5 * k) 3).trans (congrArg nI (by omega)))
  refine K_sld hx hb hX hbl hbA hS hL (5 * k + 3) (by omega) dL_law_926 ?_
  refine lv_aload_n hx hb dL_law_927 rfl (lv_at hl 3 rfl) ?_
  refine lv_iload_n hx hb dL_law_928 rfl (lv_at hl 0 rfl) ?_
  refine lv_iconst (v := 4) hx hb dL_law_929 (by decide) ?_
  refine lv_iadd hx hb dL_law_930 ?_
  refine lv_topi (fun z4 ez4 => ?_)
  obtain rfl : z4 = nI (5 * k + 4) := ez4.trans ((nI_add (5 * k) 4).trans (congrArg nI (by omega)))
  refine K_sld hx hb hX hbl hbA hS hL (5 * k + 4) (by omega) dL_law_931 ?_
  refine K_core (wc := wX4 cI cZ cG h4 a4  ++ wX0 cI cZ cG (a4 3) a0 (nI x.nf) (nI x.nn) (col 4 0 x.mno) (col 4 1 x.mno) (col 4 2 x.mno) (col 4 3 x.mno)) (wr := wX3 cI cZ cG (a4 0) a3 (nI x.nr) (nI x.nt) (nI x.nc) (col 3 0 x.mru) (col 3 1 x.mru) (col 3 2 x.mru) (col 4 0 x.mth) (col 4 1 x.mth) (col 4 2 x.mth) (grM (col 4 0 x.mth) (col 4 3 x.mth)) (col 3 0 x.mcl) (col 3 1 x.mcl) (col 3 2 x.mcl) ++ wX1 cI cZ cG (a4 1) a1 x.hd (nI x.wk) (nI x.nw) x.ll x.lw x.lx x.lk x.mfa x.mfz (col 5 0 x.mwa) (col 5 1 x.mwa) (col 5 2 x.mwa) (col 5 3 x.mwa) (col 5 4 x.mwa) x.tl x.tt ++ wX2 cI cZ cG (a4 2) a2 (nI x.ng) (nI x.nT) x.mi x.mbl (col 7 0 x.mtr) (col 7 1 x.mtr) (col 7 2 x.mtr) (col 7 3 x.mtr) (col 7 5 x.mtr) (col 7 6 x.mtr) (col 7 4 x.mtr) (BM x.mbk) ++ wX5 cI cZ cG h5 a5 (nI x.nr) (nI x.nt) (nI x.nc) (nI x.nw) x.hd (nI x.wk) (nI x.ng) (nI x.nT) x.mi (nI x.nf) (nI x.nn) x.mru x.mth x.mcl x.mfa x.mwa x.mfz x.mbl x.mbk x.mtr x.mno x.mlo x.mip x.mto) (va_runV (As := [.int (xs (5 * k + 1)), .int (xs (5 * k + 2)), .int (xs (5 * k + 3)), .int (xs (5 * k + 4))]) (rest := []) ⟨hx, hb, hml, hown, hts⟩ (c_X4_note l D cI cZ cG h4 a4 a0 _ x.nf x.nn (col 4 0 x.mno) (col 4 1 x.mno) (col 4 2 x.mno) (col 4 3 x.mno) (xs (5 * k + 1)) (xs (5 * k + 2)) (xs (5 * k + 3)) (xs (5 * k + 4)) (by omega) (by omega)) (cwV 4 hts gL_law_X4_note rfl rfl rfl (by decide +kernel) ⟨(Nat.le_of_ble_eq_true rfl), (Nat.le_of_ble_eq_true rfl)⟩) ⟨PB_blind, va_recv hK hP (ci := 4) (q0 := 0) rfl rfl, (K_pre hN hK hP hD [0, 35, 36, 37, 38, 39] rfl rfl).2⟩ rfl rfl hl.1 rfl (lv_room (Nat.le_of_ble_eq_true rfl)) dL_law_932 ⟨(Nat.le_of_ble_eq_true rfl), (Nat.le_of_ble_eq_true rfl)⟩) hP hD hS hA [0, 35, 36, 37, 38, 39] [1, 2, 3, 4, 5, 6, 7, 8, 9, 10, 11, 12, 13, 14, 15, 16, 17, 18, 19, 20, 21, 22, 23, 24, 25, 26, 27, 28, 29, 30, 31, 32, 33, 34, 40, 41, 42, 43, 44, 45, 46, 47, 48, 49, 50, 51, 52, 53] rfl rfl rfl (by decide) (fun r5 u H locs hw5 hP hD hS => ?_)
  obtain ⟨nn25, fg25, dy25, tl25, pl25⟩ := u
  try dsimp only at hw5
  have hP : va_P D vwCl (wX3 cI cZ cG (a4 0) a3 (nI x.nr) (nI x.nt) (nI x.nc) (col 3 0 x.mru) (col 3 1 x.mru) (col 3 2 x.mru) (col 4 0 x.mth) (col 4 1 x.mth) (col 4 2 x.mth) (grM (col 4 0 x.mth) (col 4 3 x.mth)) (col 3 0 x.mcl) (col 3 1 x.mcl) (col 3 2 x.mcl) ++ wX1 cI cZ cG (a4 1) a1 x.hd (nI x.wk) (nI x.nw) x.ll x.lw x.lx x.lk x.mfa x.mfz (col 5 0 x.mwa) (col 5 1 x.mwa) (col 5 2 x.mwa) (col 5 3 x.mwa) (col 5 4 x.mwa) x.tl x.tt ++ wX2 cI cZ cG (a4 2) a2 (nI x.ng) (nI x.nT) x.mi x.mbl (col 7 0 x.mtr) (col 7 1 x.mtr) (col 7 2 x.mtr) (col 7 3 x.mtr) (col 7 5 x.mtr) (col 7 6 x.mtr) (col 7 4 x.mtr) (BM x.mbk) ++ wX5 cI cZ cG h5 a5 (nI x.nr) (nI x.nt) (nI x.nc) (nI x.nw) x.hd (nI x.wk) (nI x.ng) (nI x.nT) x.mi (nI x.nf) (nI x.nn) x.mru x.mth x.mcl x.mfa x.mwa x.mfz x.mbl x.mbk x.mtr x.mno x.mlo x.mip x.mto ++ wX4 cI cZ cG h4 a4  ++ wX0 cI cZ cG (a4 3) a0 (nI x.nf) (nI nn25) fg25 dy25 tl25 pl25) H := hP
  have hD : va_D A (wX3 cI cZ cG (a4 0) a3 (nI x.nr) (nI x.nt) (nI x.nc) (col 3 0 x.mru) (col 3 1 x.mru) (col 3 2 x.mru) (col 4 0 x.mth) (col 4 1 x.mth) (col 4 2 x.mth) (grM (col 4 0 x.mth) (col 4 3 x.mth)) (col 3 0 x.mcl) (col 3 1 x.mcl) (col 3 2 x.mcl) ++ wX1 cI cZ cG (a4 1) a1 x.hd (nI x.wk) (nI x.nw) x.ll x.lw x.lx x.lk x.mfa x.mfz (col 5 0 x.mwa) (col 5 1 x.mwa) (col 5 2 x.mwa) (col 5 3 x.mwa) (col 5 4 x.mwa) x.tl x.tt ++ wX2 cI cZ cG (a4 2) a2 (nI x.ng) (nI x.nT) x.mi x.mbl (col 7 0 x.mtr) (col 7 1 x.mtr) (col 7 2 x.mtr) (col 7 3 x.mtr) (col 7 5 x.mtr) (col 7 6 x.mtr) (col 7 4 x.mtr) (BM x.mbk) ++ wX5 cI cZ cG h5 a5 (nI x.nr) (nI x.nt) (nI x.nc) (nI x.nw) x.hd (nI x.wk) (nI x.ng) (nI x.nT) x.mi (nI x.nf) (nI x.nn) x.mru x.mth x.mcl x.mfa x.mwa x.mfz x.mbl x.mbk x.mtr x.mno x.mlo x.mip x.mto ++ wX4 cI cZ cG h4 a4  ++ wX0 cI cZ cG (a4 3) a0 (nI x.nf) (nI nn25) fg25 dy25 tl25 pl25) := hD
  refine lv_aload_n hx hb dL_law_935 rfl (lv_at hl 1 rfl) ?_
  refine lv_aload_n hx hb dL_law_936 rfl (lv_at hl 3 rfl) ?_
  refine lv_iload_n hx hb dL_law_937 rfl (lv_at hl 0 rfl) ?_
  refine lv_iconst (v := 1) hx hb dL_law_938 (by decide) ?_
  refine lv_iadd hx hb dL_law_939 ?_
  refine lv_topi (fun z6 ez6 => ?_)
  obtain rfl : z6 = nI (5 * k + 1) := ez6.trans ((nI_add (5 * k) 1).trans (congrArg nI (by omega)))
  refine K_sld hx hb hX hbl hbA hS hL (5 * k + 1) (by omega) dL_law_940 ?_
  refine lv_aload_n hx hb dL_law_941 rfl (lv_at hl 3 rfl) ?_
  refine lv_iload_n hx hb dL_law_942 rfl (lv_at hl 0 rfl) ?_
  refine lv_iconst (v := 2) hx hb dL_law_943 (by decide) ?_
  refine lv_iadd hx hb dL_law_944 ?_
  refine lv_topi (fun z7 ez7 => ?_)
  obtain rfl : z7 = nI (5 * k + 2) := ez7.trans ((nI_add (5 * k) 2).trans (congrArg nI (by omega)))
  refine K_sld hx hb hX hbl hbA hS hL (5 * k + 2) (by omega) dL_law_945 ?_
  refine lv_aload_n hx hb dL_law_946 rfl (lv_at hl 3 rfl) ?_
  refine lv_iload_n hx hb dL_law_947 rfl (lv_at hl 0 rfl) ?_
  refine lv_iconst (v := 3) hx hb dL_law_948 (by decide) ?_
  refine lv_iadd hx hb dL_law_949 ?_
  refine lv_topi (fun z8 ez8 => ?_)
  obtain rfl : z8 = nI (5 * k + 3) := ez8.trans ((nI_add (5 * k) 3).trans (congrArg nI (by omega)))
  refine K_sld hx hb hX hbl hbA hS hL (5 * k + 3) (by omega) dL_law_950 ?_
  refine lv_aload_n hx hb dL_law_951 rfl (lv_at hl 3 rfl) ?_
  refine lv_iload_n hx hb dL_law_952 rfl (lv_at hl 0 rfl) ?_
  refine lv_iconst (v := 4) hx hb dL_law_953 (by decide) ?_
  refine lv_iadd hx hb dL_law_954 ?_
  refine lv_topi (fun z9 ez9 => ?_)
  obtain rfl : z9 = nI (5 * k + 4) := ez9.trans ((nI_add (5 * k) 4).trans (congrArg nI (by omega)))
  refine K_sld hx hb hX hbl hbA hS hL (5 * k + 4) (by omega) dL_law_955 ?_
  refine K_core (wc := wX5 cI cZ cG h5 a5 (nI x.nr) (nI x.nt) (nI x.nc) (nI x.nw) x.hd (nI x.wk) (nI x.ng) (nI x.nT) x.mi (nI x.nf) (nI x.nn) x.mru x.mth x.mcl x.mfa x.mwa x.mfz x.mbl x.mbk x.mtr x.mno x.mlo x.mip x.mto) (wr := wX3 cI cZ cG (a4 0) a3 (nI x.nr) (nI x.nt) (nI x.nc) (col 3 0 x.mru) (col 3 1 x.mru) (col 3 2 x.mru) (col 4 0 x.mth) (col 4 1 x.mth) (col 4 2 x.mth) (grM (col 4 0 x.mth) (col 4 3 x.mth)) (col 3 0 x.mcl) (col 3 1 x.mcl) (col 3 2 x.mcl) ++ wX1 cI cZ cG (a4 1) a1 x.hd (nI x.wk) (nI x.nw) x.ll x.lw x.lx x.lk x.mfa x.mfz (col 5 0 x.mwa) (col 5 1 x.mwa) (col 5 2 x.mwa) (col 5 3 x.mwa) (col 5 4 x.mwa) x.tl x.tt ++ wX2 cI cZ cG (a4 2) a2 (nI x.ng) (nI x.nT) x.mi x.mbl (col 7 0 x.mtr) (col 7 1 x.mtr) (col 7 2 x.mtr) (col 7 3 x.mtr) (col 7 5 x.mtr) (col 7 6 x.mtr) (col 7 4 x.mtr) (BM x.mbk) ++ wX4 cI cZ cG h4 a4  ++ wX0 cI cZ cG (a4 3) a0 (nI x.nf) (nI nn25) fg25 dy25 tl25 pl25) (va_runV (As := [.int (xs (5 * k + 1)), .int (xs (5 * k + 2)), .int (xs (5 * k + 3)), .int (xs (5 * k + 4))]) (rest := [.int r5]) ⟨hx, hb, hml, hown, hts⟩ (c_X5_note l D cI cZ cG h5 a5 _ x.nr x.nt x.nc x.nw x.hd x.wk x.ng x.nT x.mi x.nf x.nn x.mru x.mth x.mcl x.mfa x.mwa x.mfz x.mbl x.mbk x.mtr x.mno x.mlo x.mip x.mto (xs (5 * k + 1)) (xs (5 * k + 2)) (xs (5 * k + 3)) (xs (5 * k + 4)) (by omega) (by omega) (by omega) (by omega) (by omega) (by omega) (by omega) (by omega) (by omega)) (cwV 4 hts gL_law_X5_note rfl rfl rfl (by decide +kernel) ⟨(Nat.le_of_ble_eq_true rfl), (Nat.le_of_ble_eq_true rfl)⟩) ⟨PB_blind, va_recv hK hP (ci := 5) (q0 := 34) rfl rfl, (K_pre hN hK hP hD [34, 35, 36, 37, 38, 39, 40, 41, 42, 43, 44, 45, 46, 47] rfl rfl).2⟩ rfl rfl hl.1 rfl (lv_room (Nat.le_of_ble_eq_true rfl)) dL_law_956 ⟨(Nat.le_of_ble_eq_true rfl), (Nat.le_of_ble_eq_true rfl)⟩) hP hD hS hA [34, 35, 36, 37, 38, 39, 40, 41, 42, 43, 44, 45, 46, 47] [0, 1, 2, 3, 4, 5, 6, 7, 8, 9, 10, 11, 12, 13, 14, 15, 16, 17, 18, 19, 20, 21, 22, 23, 24, 25, 26, 27, 28, 29, 30, 31, 32, 33, 48, 49, 50, 51, 52, 53] rfl rfl rfl (by decide) (fun r10 u H locs hw10 hP hD hS => ?_)
  obtain ⟨nn210, mno210⟩ := u
  try dsimp only at hw10
  have hP : va_P D vwCl (wX3 cI cZ cG (a4 0) a3 (nI x.nr) (nI x.nt) (nI x.nc) (col 3 0 x.mru) (col 3 1 x.mru) (col 3 2 x.mru) (col 4 0 x.mth) (col 4 1 x.mth) (col 4 2 x.mth) (grM (col 4 0 x.mth) (col 4 3 x.mth)) (col 3 0 x.mcl) (col 3 1 x.mcl) (col 3 2 x.mcl) ++ wX1 cI cZ cG (a4 1) a1 x.hd (nI x.wk) (nI x.nw) x.ll x.lw x.lx x.lk x.mfa x.mfz (col 5 0 x.mwa) (col 5 1 x.mwa) (col 5 2 x.mwa) (col 5 3 x.mwa) (col 5 4 x.mwa) x.tl x.tt ++ wX2 cI cZ cG (a4 2) a2 (nI x.ng) (nI x.nT) x.mi x.mbl (col 7 0 x.mtr) (col 7 1 x.mtr) (col 7 2 x.mtr) (col 7 3 x.mtr) (col 7 5 x.mtr) (col 7 6 x.mtr) (col 7 4 x.mtr) (BM x.mbk) ++ wX4 cI cZ cG h4 a4  ++ wX0 cI cZ cG (a4 3) a0 (nI x.nf) (nI nn25) fg25 dy25 tl25 pl25 ++ wX5 cI cZ cG h5 a5 (nI x.nr) (nI x.nt) (nI x.nc) (nI x.nw) x.hd (nI x.wk) (nI x.ng) (nI x.nT) x.mi (nI x.nf) (nI nn210) x.mru x.mth x.mcl x.mfa x.mwa x.mfz x.mbl x.mbk x.mtr mno210 x.mlo x.mip x.mto) H := hP
  have hD : va_D A (wX3 cI cZ cG (a4 0) a3 (nI x.nr) (nI x.nt) (nI x.nc) (col 3 0 x.mru) (col 3 1 x.mru) (col 3 2 x.mru) (col 4 0 x.mth) (col 4 1 x.mth) (col 4 2 x.mth) (grM (col 4 0 x.mth) (col 4 3 x.mth)) (col 3 0 x.mcl) (col 3 1 x.mcl) (col 3 2 x.mcl) ++ wX1 cI cZ cG (a4 1) a1 x.hd (nI x.wk) (nI x.nw) x.ll x.lw x.lx x.lk x.mfa x.mfz (col 5 0 x.mwa) (col 5 1 x.mwa) (col 5 2 x.mwa) (col 5 3 x.mwa) (col 5 4 x.mwa) x.tl x.tt ++ wX2 cI cZ cG (a4 2) a2 (nI x.ng) (nI x.nT) x.mi x.mbl (col 7 0 x.mtr) (col 7 1 x.mtr) (col 7 2 x.mtr) (col 7 3 x.mtr) (col 7 5 x.mtr) (col 7 6 x.mtr) (col 7 4 x.mtr) (BM x.mbk) ++ wX4 cI cZ cG h4 a4  ++ wX0 cI cZ cG (a4 3) a0 (nI x.nf) (nI nn25) fg25 dy25 tl25 pl25 ++ wX5 cI cZ cG h5 a5 (nI x.nr) (nI x.nt) (nI x.nc) (nI x.nw) x.hd (nI x.wk) (nI x.ng) (nI x.nT) x.mi (nI x.nf) (nI nn210) x.mru x.mth x.mcl x.mfa x.mwa x.mfz x.mbl x.mbk x.mtr mno210 x.mlo x.mip x.mto) := hD
  obtain ⟨er, e1, e2, e3, e4, e5, ok9⟩ := st_note ok0 hw5 hw10
  rw [e1, e2, e3, e4, e5] at hP hD
  refine lv_icmp_eq (tgt := 1106) hx hb dL_law_959 (by decide) (fun _ => ?_) (fun c9 => absurd er c9)
  have hP := hP.sub (ws' := wX4 cI cZ cG h4 a4  ++ wX3 cI cZ cG (a4 0) a3 (nI x.nr) (nI x.nt) (nI x.nc) (col 3 0 x.mru) (col 3 1 x.mru) (col 3 2 x.mru) (col 4 0 x.mth) (col 4 1 x.mth) (col 4 2 x.mth) (grM (col 4 0 x.mth) (col 4 3 x.mth)) (col 3 0 x.mcl) (col 3 1 x.mcl) (col 3 2 x.mcl) ++ wX1 cI cZ cG (a4 1) a1 x.hd (nI x.wk) (nI x.nw) x.ll x.lw x.lx x.lk x.mfa x.mfz (col 5 0 x.mwa) (col 5 1 x.mwa) (col 5 2 x.mwa) (col 5 3 x.mwa) (col 5 4 x.mwa) x.tl x.tt ++ wX2 cI cZ cG (a4 2) a2 (nI x.ng) (nI x.nT) x.mi x.mbl (col 7 0 x.mtr) (col 7 1 x.mtr) (col 7 2 x.mtr) (col 7 3 x.mtr) (col 7 5 x.mtr) (col 7 6 x.mtr) (col 7 4 x.mtr) (BM x.mbk) ++ wX0 cI cZ cG (a4 3) a0 (nI x.nf) (nI nn210) (col 4 0 mno210) (col 4 1 mno210) (col 4 2 mno210) (col 4 3 mno210) ++ wX5 cI cZ cG h5 a5 (nI x.nr) (nI x.nt) (nI x.nc) (nI x.nw) x.hd (nI x.wk) (nI x.ng) (nI x.nT) x.mi (nI x.nf) (nI nn210) x.mru x.mth x.mcl x.mfa x.mwa x.mfz x.mbl x.mbk x.mtr mno210 x.mlo x.mip x.mto) [34, 0, 1, 2, 3, 4, 5, 6, 7, 8, 9, 10, 11, 12, 13, 14, 15, 16, 17, 18, 19, 20, 21, 22, 23, 24, 25, 26, 27, 28, 29, 30, 31, 32, 33, 35, 36, 37, 38, 39, 40, 41, 42, 43, 44, 45, 46, 47, 48, 49, 50, 51, 52, 53] rfl
  have hD := hD.sub (ws' := wX4 cI cZ cG h4 a4  ++ wX3 cI cZ cG (a4 0) a3 (nI x.nr) (nI x.nt) (nI x.nc) (col 3 0 x.mru) (col 3 1 x.mru) (col 3 2 x.mru) (col 4 0 x.mth) (col 4 1 x.mth) (col 4 2 x.mth) (grM (col 4 0 x.mth) (col 4 3 x.mth)) (col 3 0 x.mcl) (col 3 1 x.mcl) (col 3 2 x.mcl) ++ wX1 cI cZ cG (a4 1) a1 x.hd (nI x.wk) (nI x.nw) x.ll x.lw x.lx x.lk x.mfa x.mfz (col 5 0 x.mwa) (col 5 1 x.mwa) (col 5 2 x.mwa) (col 5 3 x.mwa) (col 5 4 x.mwa) x.tl x.tt ++ wX2 cI cZ cG (a4 2) a2 (nI x.ng) (nI x.nT) x.mi x.mbl (col 7 0 x.mtr) (col 7 1 x.mtr) (col 7 2 x.mtr) (col 7 3 x.mtr) (col 7 5 x.mtr) (col 7 6 x.mtr) (col 7 4 x.mtr) (BM x.mbk) ++ wX0 cI cZ cG (a4 3) a0 (nI x.nf) (nI nn210) (col 4 0 mno210) (col 4 1 mno210) (col 4 2 mno210) (col 4 3 mno210) ++ wX5 cI cZ cG h5 a5 (nI x.nr) (nI x.nt) (nI x.nc) (nI x.nw) x.hd (nI x.wk) (nI x.ng) (nI x.nT) x.mi (nI x.nf) (nI nn210) x.mru x.mth x.mcl x.mfa x.mwa x.mfz x.mbl x.mbk x.mtr mno210 x.mlo x.mip x.mto) [34, 0, 1, 2, 3, 4, 5, 6, 7, 8, 9, 10, 11, 12, 13, 14, 15, 16, 17, 18, 19, 20, 21, 22, 23, 24, 25, 26, 27, 28, 29, 30, 31, 32, 33, 35, 36, 37, 38, 39, 40, 41, 42, 43, 44, 45, 46, 47, 48, 49, 50, 51, 52, 53] (by decide) rfl
  exact kk (rsM x.nr x.nt x.nc x.nw x.wk x.ng x.nT x.nf nn210 x.hd x.mi x.mru x.mth x.mcl x.mfa x.mwa x.mfz x.mbl x.mbk x.mtr mno210 x.mlo x.mip x.mto x.ll x.lw x.lx x.lk x.tl x.tt) _ _ ⟨ok3, ok1, ok2, ok9⟩ hP hD hS
set_option maxHeartbeats 8000000 in
set_option maxRecDepth 100000 in
theorem L_where (hx : p.tables.exec = Jvm.exec) (hb : c.code = cL_law) (hml : c.maxLocals = 4) (hown : s.vm.findClass RL = some m.cls) (hts : ∀ w ∈ wsL_law, w.before args s = true) (hN : nst s) (hK : va_K D vwCl (tyL cI cZ cG) s) (hX : va_X b L xs s s.heap) (hbl : b < s.heap.size) (hbA : ¬ A b) (hL : L ≤ 2560) (hA : ∀ q, s.heap.size ≤ q → A q) {x : RS} (ok : OKx x) {H : Heap} {locs : List Loc} {ls : Array Slot} (hP : va_P D vwCl (wAll cI cZ cG h4 a4 a3 a1 a2 a0 h5 a5 x) H) (hD : va_D A (wAll cI cZ cG h4 a4 a3 a1 a2 a0 h5 a5 x)) (hS : va_S A s.heap H locs) {k : Nat} (hk : 5 * k + 5 ≤ L) (hl : lv_has ls 4 [(3, .int (nI (5 * k))), (2, .ref h5), (1, .ref h4), (0, .ref b)])
    (kk : ∀ (x2 : RS) (H1 : Heap) (locs1 : List Loc), OKx x2 → va_P D vwCl (wAll cI cZ cG h4 a4 a3 a1 a2 a0 h5 a5 x2) H1 → va_D A (wAll cI cZ cG h4 a4 a3 a1 a2 a0 h5 a5 x2) → va_S A s.heap H1 locs1 → W p l e room_1 s m args below meth c H1 locs1 54 1995 Q (F0 m 1106 ls [])) : W p l e room_1 s m args below meth c H locs 54 1995 Q (F0 m 964 ls []) := by
  obtain ⟨ok3, ok1, ok2, ok0⟩ := ok
  have hnr := ok3.1
  have hnt := ok3.2.1
  have hnc := ok3.2.2.1
  have hrr := ok3.2.2.2.1
  have hnw := ok1.1
  have hwk := ok1.2.1
  have hsd := ok1.2.2.1
  have hhw := ok1.2.2.2.1
  have hfz := ok1.2.2.2.2.1
  have hng := ok2.1
  have hnT := ok2.2.1
  have hokT := ok2.2.2.1
  have hokL := ok2.2.2.2.1
  have hsu := ok2.2.2.2.2.2.1
  have hnf := ok0.1
  have hnn := ok0.2.1
  refine lv_aload_n hx hb dL_law_964 rfl (lv_at hl 2 rfl) ?_
  refine lv_aload_n hx hb dL_law_965 rfl (lv_at hl 3 rfl) ?_
  refine lv_iload_n hx hb dL_law_966 rfl (lv_at hl 0 rfl) ?_
  refine lv_iconst (v := 1) hx hb dL_law_967 (by decide) ?_
  refine lv_iadd hx hb dL_law_968 ?_
  refine lv_topi (fun z1 ez1 => ?_)
  obtain rfl : z1 = nI (5 * k + 1) := ez1.trans ((nI_add (5 * k) 1).trans (congrArg nI (by omega)))
  refine K_sld hx hb hX hbl hbA hS hL (5 * k + 1) (by omega) dL_law_969 ?_
  refine lv_aload_n hx hb dL_law_970 rfl (lv_at hl 3 rfl) ?_
  refine lv_iload_n hx hb dL_law_971 rfl (lv_at hl 0 rfl) ?_
  refine lv_iconst (v := 2) hx hb dL_law_972 (by decide) ?_
  refine lv_iadd hx hb dL_law_973 ?_
  refine lv_topi (fun z2 ez2 => ?_)
  obtain rfl : z2 = nI (5 * k + 2) := ez2.trans ((nI_add (5 * k) 2).trans (congrArg nI (by omega)))
  refine K_sld hx hb hX hbl hbA hS hL (5 * k + 2) (by omega) dL_law_974 ?_
  refine lv_aload_n hx hb dL_law_975 rfl (lv_at hl 3 rfl) ?_
  refine lv_iload_n hx hb dL_law_976 rfl (lv_at hl 0 rfl) ?_
  refine lv_iconst (v := 3) hx hb dL_law_977 (by decide) ?_
  refine lv_iadd hx hb dL_law_978 ?_
  refine lv_topi (fun z3 ez3 => ?_)
  obtain rfl : z3 = nI (5 * k + 3) := ez3.trans ((nI_add (5 * k) 3).trans (congrArg nI (by omega)))
  refine K_sld hx hb hX hbl hbA hS hL (5 * k + 3) (by omega) dL_law_979 ?_
  refine K_core (wc := wX4 cI cZ cG h4 a4  ++ wX0 cI cZ cG (a4 3) a0 (nI x.nf) (nI x.nn) (col 4 0 x.mno) (col 4 1 x.mno) (col 4 2 x.mno) (col 4 3 x.mno)) (wr := wX3 cI cZ cG (a4 0) a3 (nI x.nr) (nI x.nt) (nI x.nc) (col 3 0 x.mru) (col 3 1 x.mru) (col 3 2 x.mru) (col 4 0 x.mth) (col 4 1 x.mth) (col 4 2 x.mth) (grM (col 4 0 x.mth) (col 4 3 x.mth)) (col 3 0 x.mcl) (col 3 1 x.mcl) (col 3 2 x.mcl) ++ wX1 cI cZ cG (a4 1) a1 x.hd (nI x.wk) (nI x.nw) x.ll x.lw x.lx x.lk x.mfa x.mfz (col 5 0 x.mwa) (col 5 1 x.mwa) (col 5 2 x.mwa) (col 5 3 x.mwa) (col 5 4 x.mwa) x.tl x.tt ++ wX2 cI cZ cG (a4 2) a2 (nI x.ng) (nI x.nT) x.mi x.mbl (col 7 0 x.mtr) (col 7 1 x.mtr) (col 7 2 x.mtr) (col 7 3 x.mtr) (col 7 5 x.mtr) (col 7 6 x.mtr) (col 7 4 x.mtr) (BM x.mbk) ++ wX5 cI cZ cG h5 a5 (nI x.nr) (nI x.nt) (nI x.nc) (nI x.nw) x.hd (nI x.wk) (nI x.ng) (nI x.nT) x.mi (nI x.nf) (nI x.nn) x.mru x.mth x.mcl x.mfa x.mwa x.mfz x.mbl x.mbk x.mtr x.mno x.mlo x.mip x.mto) (va_runV (As := [.int (xs (5 * k + 1)), .int (xs (5 * k + 2)), .int (xs (5 * k + 3))]) (rest := []) ⟨hx, hb, hml, hown, hts⟩ (c_X4_where l D cI cZ cG h4 a4 a0 _ x.nf x.nn (col 4 0 x.mno) (col 4 1 x.mno) (col 4 2 x.mno) (col 4 3 x.mno) (xs (5 * k + 1)) (xs (5 * k + 2)) (xs (5 * k + 3)) (by omega) (by omega)) (cwV 3 hts gL_law_X4_where rfl rfl rfl (by decide +kernel) ⟨(Nat.le_of_ble_eq_true rfl), (Nat.le_of_ble_eq_true rfl)⟩) ⟨PB_blind, va_recv hK hP (ci := 4) (q0 := 0) rfl rfl, (K_pre hN hK hP hD [0, 35, 36, 37, 38, 39] rfl rfl).2⟩ rfl rfl hl.1 rfl (lv_room (Nat.le_of_ble_eq_true rfl)) dL_law_980 ⟨(Nat.le_of_ble_eq_true rfl), (Nat.le_of_ble_eq_true rfl)⟩) hP hD hS hA [0, 35, 36, 37, 38, 39] [1, 2, 3, 4, 5, 6, 7, 8, 9, 10, 11, 12, 13, 14, 15, 16, 17, 18, 19, 20, 21, 22, 23, 24, 25, 26, 27, 28, 29, 30, 31, 32, 33, 34, 40, 41, 42, 43, 44, 45, 46, 47, 48, 49, 50, 51, 52, 53] rfl rfl rfl (by decide) (fun r4 u H locs hw4 hP hD hS => ?_)
  have hP : va_P D vwCl (wX3 cI cZ cG (a4 0) a3 (nI x.nr) (nI x.nt) (nI x.nc) (col 3 0 x.mru) (col 3 1 x.mru) (col 3 2 x.mru) (col 4 0 x.mth) (col 4 1 x.mth) (col 4 2 x.mth) (grM (col 4 0 x.mth) (col 4 3 x.mth)) (col 3 0 x.mcl) (col 3 1 x.mcl) (col 3 2 x.mcl) ++ wX1 cI cZ cG (a4 1) a1 x.hd (nI x.wk) (nI x.nw) x.ll x.lw x.lx x.lk x.mfa x.mfz (col 5 0 x.mwa) (col 5 1 x.mwa) (col 5 2 x.mwa) (col 5 3 x.mwa) (col 5 4 x.mwa) x.tl x.tt ++ wX2 cI cZ cG (a4 2) a2 (nI x.ng) (nI x.nT) x.mi x.mbl (col 7 0 x.mtr) (col 7 1 x.mtr) (col 7 2 x.mtr) (col 7 3 x.mtr) (col 7 5 x.mtr) (col 7 6 x.mtr) (col 7 4 x.mtr) (BM x.mbk) ++ wX5 cI cZ cG h5 a5 (nI x.nr) (nI x.nt) (nI x.nc) (nI x.nw) x.hd (nI x.wk) (nI x.ng) (nI x.nT) x.mi (nI x.nf) (nI x.nn) x.mru x.mth x.mcl x.mfa x.mwa x.mfz x.mbl x.mbk x.mtr x.mno x.mlo x.mip x.mto ++ wX4 cI cZ cG h4 a4  ++ wX0 cI cZ cG (a4 3) a0 (nI x.nf) (nI x.nn) (col 4 0 x.mno) (col 4 1 x.mno) (col 4 2 x.mno) (col 4 3 x.mno)) H := hP
  have hD : va_D A (wX3 cI cZ cG (a4 0) a3 (nI x.nr) (nI x.nt) (nI x.nc) (col 3 0 x.mru) (col 3 1 x.mru) (col 3 2 x.mru) (col 4 0 x.mth) (col 4 1 x.mth) (col 4 2 x.mth) (grM (col 4 0 x.mth) (col 4 3 x.mth)) (col 3 0 x.mcl) (col 3 1 x.mcl) (col 3 2 x.mcl) ++ wX1 cI cZ cG (a4 1) a1 x.hd (nI x.wk) (nI x.nw) x.ll x.lw x.lx x.lk x.mfa x.mfz (col 5 0 x.mwa) (col 5 1 x.mwa) (col 5 2 x.mwa) (col 5 3 x.mwa) (col 5 4 x.mwa) x.tl x.tt ++ wX2 cI cZ cG (a4 2) a2 (nI x.ng) (nI x.nT) x.mi x.mbl (col 7 0 x.mtr) (col 7 1 x.mtr) (col 7 2 x.mtr) (col 7 3 x.mtr) (col 7 5 x.mtr) (col 7 6 x.mtr) (col 7 4 x.mtr) (BM x.mbk) ++ wX5 cI cZ cG h5 a5 (nI x.nr) (nI x.nt) (nI x.nc) (nI x.nw) x.hd (nI x.wk) (nI x.ng) (nI x.nT) x.mi (nI x.nf) (nI x.nn) x.mru x.mth x.mcl x.mfa x.mwa x.mfz x.mbl x.mbk x.mtr x.mno x.mlo x.mip x.mto ++ wX4 cI cZ cG h4 a4  ++ wX0 cI cZ cG (a4 3) a0 (nI x.nf) (nI x.nn) (col 4 0 x.mno) (col 4 1 x.mno) (col 4 2 x.mno) (col 4 3 x.mno)) := hD
  refine lv_aload_n hx hb dL_law_983 rfl (lv_at hl 1 rfl) ?_
  refine lv_aload_n hx hb dL_law_984 rfl (lv_at hl 3 rfl) ?_
  refine lv_iload_n hx hb dL_law_985 rfl (lv_at hl 0 rfl) ?_
  refine lv_iconst (v := 1) hx hb dL_law_986 (by decide) ?_
  refine lv_iadd hx hb dL_law_987 ?_
  refine lv_topi (fun z5 ez5 => ?_)
  obtain rfl : z5 = nI (5 * k + 1) := ez5.trans ((nI_add (5 * k) 1).trans (congrArg nI (by omega)))
  refine K_sld hx hb hX hbl hbA hS hL (5 * k + 1) (by omega) dL_law_988 ?_
  refine lv_aload_n hx hb dL_law_989 rfl (lv_at hl 3 rfl) ?_
  refine lv_iload_n hx hb dL_law_990 rfl (lv_at hl 0 rfl) ?_
  refine lv_iconst (v := 2) hx hb dL_law_991 (by decide) ?_
  refine lv_iadd hx hb dL_law_992 ?_
  refine lv_topi (fun z6 ez6 => ?_)
  obtain rfl : z6 = nI (5 * k + 2) := ez6.trans ((nI_add (5 * k) 2).trans (congrArg nI (by omega)))
  refine K_sld hx hb hX hbl hbA hS hL (5 * k + 2) (by omega) dL_law_993 ?_
  refine lv_aload_n hx hb dL_law_994 rfl (lv_at hl 3 rfl) ?_
  refine lv_iload_n hx hb dL_law_995 rfl (lv_at hl 0 rfl) ?_
  refine lv_iconst (v := 3) hx hb dL_law_996 (by decide) ?_
  refine lv_iadd hx hb dL_law_997 ?_
  refine lv_topi (fun z7 ez7 => ?_)
  obtain rfl : z7 = nI (5 * k + 3) := ez7.trans ((nI_add (5 * k) 3).trans (congrArg nI (by omega)))
  refine K_sld hx hb hX hbl hbA hS hL (5 * k + 3) (by omega) dL_law_998 ?_
  refine K_core (wc := wX5 cI cZ cG h5 a5 (nI x.nr) (nI x.nt) (nI x.nc) (nI x.nw) x.hd (nI x.wk) (nI x.ng) (nI x.nT) x.mi (nI x.nf) (nI x.nn) x.mru x.mth x.mcl x.mfa x.mwa x.mfz x.mbl x.mbk x.mtr x.mno x.mlo x.mip x.mto) (wr := wX3 cI cZ cG (a4 0) a3 (nI x.nr) (nI x.nt) (nI x.nc) (col 3 0 x.mru) (col 3 1 x.mru) (col 3 2 x.mru) (col 4 0 x.mth) (col 4 1 x.mth) (col 4 2 x.mth) (grM (col 4 0 x.mth) (col 4 3 x.mth)) (col 3 0 x.mcl) (col 3 1 x.mcl) (col 3 2 x.mcl) ++ wX1 cI cZ cG (a4 1) a1 x.hd (nI x.wk) (nI x.nw) x.ll x.lw x.lx x.lk x.mfa x.mfz (col 5 0 x.mwa) (col 5 1 x.mwa) (col 5 2 x.mwa) (col 5 3 x.mwa) (col 5 4 x.mwa) x.tl x.tt ++ wX2 cI cZ cG (a4 2) a2 (nI x.ng) (nI x.nT) x.mi x.mbl (col 7 0 x.mtr) (col 7 1 x.mtr) (col 7 2 x.mtr) (col 7 3 x.mtr) (col 7 5 x.mtr) (col 7 6 x.mtr) (col 7 4 x.mtr) (BM x.mbk) ++ wX4 cI cZ cG h4 a4  ++ wX0 cI cZ cG (a4 3) a0 (nI x.nf) (nI x.nn) (col 4 0 x.mno) (col 4 1 x.mno) (col 4 2 x.mno) (col 4 3 x.mno)) (va_runV (As := [.int (xs (5 * k + 1)), .int (xs (5 * k + 2)), .int (xs (5 * k + 3))]) (rest := [.int r4]) ⟨hx, hb, hml, hown, hts⟩ (c_X5_where l D cI cZ cG h5 a5 _ x.nr x.nt x.nc x.nw x.hd x.wk x.ng x.nT x.mi x.nf x.nn x.mru x.mth x.mcl x.mfa x.mwa x.mfz x.mbl x.mbk x.mtr x.mno x.mlo x.mip x.mto (xs (5 * k + 1)) (xs (5 * k + 2)) (xs (5 * k + 3)) (by omega) (by omega) (by omega) (by omega) (by omega) (by omega) (by omega) (by omega) (by omega)) (cwV 3 hts gL_law_X5_where rfl rfl rfl (by decide +kernel) ⟨(Nat.le_of_ble_eq_true rfl), (Nat.le_of_ble_eq_true rfl)⟩) ⟨PB_blind, va_recv hK hP (ci := 5) (q0 := 34) rfl rfl, (K_pre hN hK hP hD [34, 35, 36, 37, 38, 39, 40, 41, 42, 43, 44, 45, 46, 47] rfl rfl).2⟩ rfl rfl hl.1 rfl (lv_room (Nat.le_of_ble_eq_true rfl)) dL_law_999 ⟨(Nat.le_of_ble_eq_true rfl), (Nat.le_of_ble_eq_true rfl)⟩) hP hD hS hA [34, 35, 36, 37, 38, 39, 40, 41, 42, 43, 44, 45, 46, 47] [0, 1, 2, 3, 4, 5, 6, 7, 8, 9, 10, 11, 12, 13, 14, 15, 16, 17, 18, 19, 20, 21, 22, 23, 24, 25, 26, 27, 28, 29, 30, 31, 32, 33, 48, 49, 50, 51, 52, 53] rfl rfl rfl (by decide) (fun r8 u H locs hw8 hP hD hS => ?_)
  have hP : va_P D vwCl (wX3 cI cZ cG (a4 0) a3 (nI x.nr) (nI x.nt) (nI x.nc) (col 3 0 x.mru) (col 3 1 x.mru) (col 3 2 x.mru) (col 4 0 x.mth) (col 4 1 x.mth) (col 4 2 x.mth) (grM (col 4 0 x.mth) (col 4 3 x.mth)) (col 3 0 x.mcl) (col 3 1 x.mcl) (col 3 2 x.mcl) ++ wX1 cI cZ cG (a4 1) a1 x.hd (nI x.wk) (nI x.nw) x.ll x.lw x.lx x.lk x.mfa x.mfz (col 5 0 x.mwa) (col 5 1 x.mwa) (col 5 2 x.mwa) (col 5 3 x.mwa) (col 5 4 x.mwa) x.tl x.tt ++ wX2 cI cZ cG (a4 2) a2 (nI x.ng) (nI x.nT) x.mi x.mbl (col 7 0 x.mtr) (col 7 1 x.mtr) (col 7 2 x.mtr) (col 7 3 x.mtr) (col 7 5 x.mtr) (col 7 6 x.mtr) (col 7 4 x.mtr) (BM x.mbk) ++ wX4 cI cZ cG h4 a4  ++ wX0 cI cZ cG (a4 3) a0 (nI x.nf) (nI x.nn) (col 4 0 x.mno) (col 4 1 x.mno) (col 4 2 x.mno) (col 4 3 x.mno) ++ wX5 cI cZ cG h5 a5 (nI x.nr) (nI x.nt) (nI x.nc) (nI x.nw) x.hd (nI x.wk) (nI x.ng) (nI x.nT) x.mi (nI x.nf) (nI x.nn) x.mru x.mth x.mcl x.mfa x.mwa x.mfz x.mbl x.mbk x.mtr x.mno x.mlo x.mip x.mto) H := hP
  have hD : va_D A (wX3 cI cZ cG (a4 0) a3 (nI x.nr) (nI x.nt) (nI x.nc) (col 3 0 x.mru) (col 3 1 x.mru) (col 3 2 x.mru) (col 4 0 x.mth) (col 4 1 x.mth) (col 4 2 x.mth) (grM (col 4 0 x.mth) (col 4 3 x.mth)) (col 3 0 x.mcl) (col 3 1 x.mcl) (col 3 2 x.mcl) ++ wX1 cI cZ cG (a4 1) a1 x.hd (nI x.wk) (nI x.nw) x.ll x.lw x.lx x.lk x.mfa x.mfz (col 5 0 x.mwa) (col 5 1 x.mwa) (col 5 2 x.mwa) (col 5 3 x.mwa) (col 5 4 x.mwa) x.tl x.tt ++ wX2 cI cZ cG (a4 2) a2 (nI x.ng) (nI x.nT) x.mi x.mbl (col 7 0 x.mtr) (col 7 1 x.mtr) (col 7 2 x.mtr) (col 7 3 x.mtr) (col 7 5 x.mtr) (col 7 6 x.mtr) (col 7 4 x.mtr) (BM x.mbk) ++ wX4 cI cZ cG h4 a4  ++ wX0 cI cZ cG (a4 3) a0 (nI x.nf) (nI x.nn) (col 4 0 x.mno) (col 4 1 x.mno) (col 4 2 x.mno) (col 4 3 x.mno) ++ wX5 cI cZ cG h5 a5 (nI x.nr) (nI x.nt) (nI x.nc) (nI x.nw) x.hd (nI x.wk) (nI x.ng) (nI x.nT) x.mi (nI x.nf) (nI x.nn) x.mru x.mth x.mcl x.mfa x.mwa x.mfz x.mbl x.mbk x.mtr x.mno x.mlo x.mip x.mto) := hD
  have er := hw4.trans hw8.symm
  refine lv_icmp_eq (tgt := 1106) hx hb dL_law_1002 (by decide) (fun _ => ?_) (fun c9 => absurd er c9)
  have hP := hP.sub (ws' := wX4 cI cZ cG h4 a4  ++ wX3 cI cZ cG (a4 0) a3 (nI x.nr) (nI x.nt) (nI x.nc) (col 3 0 x.mru) (col 3 1 x.mru) (col 3 2 x.mru) (col 4 0 x.mth) (col 4 1 x.mth) (col 4 2 x.mth) (grM (col 4 0 x.mth) (col 4 3 x.mth)) (col 3 0 x.mcl) (col 3 1 x.mcl) (col 3 2 x.mcl) ++ wX1 cI cZ cG (a4 1) a1 x.hd (nI x.wk) (nI x.nw) x.ll x.lw x.lx x.lk x.mfa x.mfz (col 5 0 x.mwa) (col 5 1 x.mwa) (col 5 2 x.mwa) (col 5 3 x.mwa) (col 5 4 x.mwa) x.tl x.tt ++ wX2 cI cZ cG (a4 2) a2 (nI x.ng) (nI x.nT) x.mi x.mbl (col 7 0 x.mtr) (col 7 1 x.mtr) (col 7 2 x.mtr) (col 7 3 x.mtr) (col 7 5 x.mtr) (col 7 6 x.mtr) (col 7 4 x.mtr) (BM x.mbk) ++ wX0 cI cZ cG (a4 3) a0 (nI x.nf) (nI x.nn) (col 4 0 x.mno) (col 4 1 x.mno) (col 4 2 x.mno) (col 4 3 x.mno) ++ wX5 cI cZ cG h5 a5 (nI x.nr) (nI x.nt) (nI x.nc) (nI x.nw) x.hd (nI x.wk) (nI x.ng) (nI x.nT) x.mi (nI x.nf) (nI x.nn) x.mru x.mth x.mcl x.mfa x.mwa x.mfz x.mbl x.mbk x.mtr x.mno x.mlo x.mip x.mto) [34, 0, 1, 2, 3, 4, 5, 6, 7, 8, 9, 10, 11, 12, 13, 14, 15, 16, 17, 18, 19, 20, 21, 22, 23, 24, 25, 26, 27, 28, 29, 30, 31, 32, 33, 35, 36, 37, 38, 39, 40, 41, 42, 43, 44, 45, 46, 47, 48, 49, 50, 51, 52, 53] rfl
  have hD := hD.sub (ws' := wX4 cI cZ cG h4 a4  ++ wX3 cI cZ cG (a4 0) a3 (nI x.nr) (nI x.nt) (nI x.nc) (col 3 0 x.mru) (col 3 1 x.mru) (col 3 2 x.mru) (col 4 0 x.mth) (col 4 1 x.mth) (col 4 2 x.mth) (grM (col 4 0 x.mth) (col 4 3 x.mth)) (col 3 0 x.mcl) (col 3 1 x.mcl) (col 3 2 x.mcl) ++ wX1 cI cZ cG (a4 1) a1 x.hd (nI x.wk) (nI x.nw) x.ll x.lw x.lx x.lk x.mfa x.mfz (col 5 0 x.mwa) (col 5 1 x.mwa) (col 5 2 x.mwa) (col 5 3 x.mwa) (col 5 4 x.mwa) x.tl x.tt ++ wX2 cI cZ cG (a4 2) a2 (nI x.ng) (nI x.nT) x.mi x.mbl (col 7 0 x.mtr) (col 7 1 x.mtr) (col 7 2 x.mtr) (col 7 3 x.mtr) (col 7 5 x.mtr) (col 7 6 x.mtr) (col 7 4 x.mtr) (BM x.mbk) ++ wX0 cI cZ cG (a4 3) a0 (nI x.nf) (nI x.nn) (col 4 0 x.mno) (col 4 1 x.mno) (col 4 2 x.mno) (col 4 3 x.mno) ++ wX5 cI cZ cG h5 a5 (nI x.nr) (nI x.nt) (nI x.nc) (nI x.nw) x.hd (nI x.wk) (nI x.ng) (nI x.nT) x.mi (nI x.nf) (nI x.nn) x.mru x.mth x.mcl x.mfa x.mwa x.mfz x.mbl x.mbk x.mtr x.mno x.mlo x.mip x.mto) [34, 0, 1, 2, 3, 4, 5, 6, 7, 8, 9, 10, 11, 12, 13, 14, 15, 16, 17, 18, 19, 20, 21, 22, 23, 24, 25, 26, 27, 28, 29, 30, 31, 32, 33, 35, 36, 37, 38, 39, 40, 41, 42, 43, 44, 45, 46, 47, 48, 49, 50, 51, 52, 53] (by decide) rfl
  exact kk x _ _ ⟨ok3, ok1, ok2, ok0⟩ hP hD hS
set_option maxHeartbeats 8000000 in
set_option maxRecDepth 100000 in
theorem L_at (hx : p.tables.exec = Jvm.exec) (hb : c.code = cL_law) (hml : c.maxLocals = 4) (hown : s.vm.findClass RL = some m.cls) (hts : ∀ w ∈ wsL_law, w.before args s = true) (hN : nst s) (hK : va_K D vwCl (tyL cI cZ cG) s) (hX : va_X b L xs s s.heap) (hbl : b < s.heap.size) (hbA : ¬ A b) (hL : L ≤ 2560) (hA : ∀ q, s.heap.size ≤ q → A q) {x : RS} (ok : OKx x) {H : Heap} {locs : List Loc} {ls : Array Slot} (hP : va_P D vwCl (wAll cI cZ cG h4 a4 a3 a1 a2 a0 h5 a5 x) H) (hD : va_D A (wAll cI cZ cG h4 a4 a3 a1 a2 a0 h5 a5 x)) (hS : va_S A s.heap H locs) {k : Nat} (hk : 5 * k + 5 ≤ L) (hl : lv_has ls 4 [(3, .int (nI (5 * k))), (2, .ref h5), (1, .ref h4), (0, .ref b)])
    (kk : ∀ (x2 : RS) (H1 : Heap) (locs1 : List Loc), OKx x2 → va_P D vwCl (wAll cI cZ cG h4 a4 a3 a1 a2 a0 h5 a5 x2) H1 → va_D A (wAll cI cZ cG h4 a4 a3 a1 a2 a0 h5 a5 x2) → va_S A s.heap H1 locs1 → W p l e room_1 s m args below meth c H1 locs1 54 1995 Q (F0 m 1106 ls [])) : W p l e room_1 s m args below meth c H locs 54 1995 Q (F0 m 1007 ls []) := by
  obtain ⟨ok3, ok1, ok2, ok0⟩ := ok
  have hnr := ok3.1
  have hnt := ok3.2.1
  have hnc := ok3.2.2.1
  have hrr := ok3.2.2.2.1
  have hnw := ok1.1
  have hwk := ok1.2.1
  have hsd := ok1.2.2.1
  have hhw := ok1.2.2.2.1
  have hfz := ok1.2.2.2.2.1
  have hng := ok2.1
  have hnT := ok2.2.1
  have hokT := ok2.2.2.1
  have hokL := ok2.2.2.2.1
  have hsu := ok2.2.2.2.2.2.1
  have hnf := ok0.1
  have hnn := ok0.2.1
  refine lv_aload_n hx hb dL_law_1007 rfl (lv_at hl 2 rfl) ?_
  refine lv_aload_n hx hb dL_law_1008 rfl (lv_at hl 3 rfl) ?_
  refine lv_iload_n hx hb dL_law_1009 rfl (lv_at hl 0 rfl) ?_
  refine lv_iconst (v := 1) hx hb dL_law_1010 (by decide) ?_
  refine lv_iadd hx hb dL_law_1011 ?_
  refine lv_topi (fun z1 ez1 => ?_)
  obtain rfl : z1 = nI (5 * k + 1) := ez1.trans ((nI_add (5 * k) 1).trans (congrArg nI (by omega)))
  refine K_sld hx hb hX hbl hbA hS hL (5 * k + 1) (by omega) dL_law_1012 ?_
  refine lv_aload_n hx hb dL_law_1013 rfl (lv_at hl 3 rfl) ?_
  refine lv_iload_n hx hb dL_law_1014 rfl (lv_at hl 0 rfl) ?_
  refine lv_iconst (v := 2) hx hb dL_law_1015 (by decide) ?_
  refine lv_iadd hx hb dL_law_1016 ?_
  refine lv_topi (fun z2 ez2 => ?_)
  obtain rfl : z2 = nI (5 * k + 2) := ez2.trans ((nI_add (5 * k) 2).trans (congrArg nI (by omega)))
  refine K_sld hx hb hX hbl hbA hS hL (5 * k + 2) (by omega) dL_law_1017 ?_
  refine lv_aload_n hx hb dL_law_1018 rfl (lv_at hl 3 rfl) ?_
  refine lv_iload_n hx hb dL_law_1019 rfl (lv_at hl 0 rfl) ?_
  refine lv_iconst (v := 3) hx hb dL_law_1020 (by decide) ?_
  refine lv_iadd hx hb dL_law_1021 ?_
  refine lv_topi (fun z3 ez3 => ?_)
  obtain rfl : z3 = nI (5 * k + 3) := ez3.trans ((nI_add (5 * k) 3).trans (congrArg nI (by omega)))
  refine K_sld hx hb hX hbl hbA hS hL (5 * k + 3) (by omega) dL_law_1022 ?_
  refine K_core (wc := wX4 cI cZ cG h4 a4  ++ wX0 cI cZ cG (a4 3) a0 (nI x.nf) (nI x.nn) (col 4 0 x.mno) (col 4 1 x.mno) (col 4 2 x.mno) (col 4 3 x.mno)) (wr := wX3 cI cZ cG (a4 0) a3 (nI x.nr) (nI x.nt) (nI x.nc) (col 3 0 x.mru) (col 3 1 x.mru) (col 3 2 x.mru) (col 4 0 x.mth) (col 4 1 x.mth) (col 4 2 x.mth) (grM (col 4 0 x.mth) (col 4 3 x.mth)) (col 3 0 x.mcl) (col 3 1 x.mcl) (col 3 2 x.mcl) ++ wX1 cI cZ cG (a4 1) a1 x.hd (nI x.wk) (nI x.nw) x.ll x.lw x.lx x.lk x.mfa x.mfz (col 5 0 x.mwa) (col 5 1 x.mwa) (col 5 2 x.mwa) (col 5 3 x.mwa) (col 5 4 x.mwa) x.tl x.tt ++ wX2 cI cZ cG (a4 2) a2 (nI x.ng) (nI x.nT) x.mi x.mbl (col 7 0 x.mtr) (col 7 1 x.mtr) (col 7 2 x.mtr) (col 7 3 x.mtr) (col 7 5 x.mtr) (col 7 6 x.mtr) (col 7 4 x.mtr) (BM x.mbk) ++ wX5 cI cZ cG h5 a5 (nI x.nr) (nI x.nt) (nI x.nc) (nI x.nw) x.hd (nI x.wk) (nI x.ng) (nI x.nT) x.mi (nI x.nf) (nI x.nn) x.mru x.mth x.mcl x.mfa x.mwa x.mfz x.mbl x.mbk x.mtr x.mno x.mlo x.mip x.mto) (va_runV (As := [.int (xs (5 * k + 1)), .int (xs (5 * k + 2)), .int (xs (5 * k + 3))]) (rest := []) ⟨hx, hb, hml, hown, hts⟩ (c_X4_at l D cI cZ cG h4 a4 a0 _ x.nf x.nn (col 4 0 x.mno) (col 4 1 x.mno) (col 4 2 x.mno) (col 4 3 x.mno) (xs (5 * k + 1)) (xs (5 * k + 2)) (xs (5 * k + 3)) (by omega) (by omega)) (cwV 3 hts gL_law_X4_at rfl rfl rfl (by decide +kernel) ⟨(Nat.le_of_ble_eq_true rfl), (Nat.le_of_ble_eq_true rfl)⟩) ⟨PB_blind, va_recv hK hP (ci := 4) (q0 := 0) rfl rfl, (K_pre hN hK hP hD [0, 35, 36, 37, 38, 39] rfl rfl).2⟩ rfl rfl hl.1 rfl (lv_room (Nat.le_of_ble_eq_true rfl)) dL_law_1023 ⟨(Nat.le_of_ble_eq_true rfl), (Nat.le_of_ble_eq_true rfl)⟩) hP hD hS hA [0, 35, 36, 37, 38, 39] [1, 2, 3, 4, 5, 6, 7, 8, 9, 10, 11, 12, 13, 14, 15, 16, 17, 18, 19, 20, 21, 22, 23, 24, 25, 26, 27, 28, 29, 30, 31, 32, 33, 34, 40, 41, 42, 43, 44, 45, 46, 47, 48, 49, 50, 51, 52, 53] rfl rfl rfl (by decide) (fun r4 u H locs hw4 hP hD hS => ?_)
  have hP : va_P D vwCl (wX3 cI cZ cG (a4 0) a3 (nI x.nr) (nI x.nt) (nI x.nc) (col 3 0 x.mru) (col 3 1 x.mru) (col 3 2 x.mru) (col 4 0 x.mth) (col 4 1 x.mth) (col 4 2 x.mth) (grM (col 4 0 x.mth) (col 4 3 x.mth)) (col 3 0 x.mcl) (col 3 1 x.mcl) (col 3 2 x.mcl) ++ wX1 cI cZ cG (a4 1) a1 x.hd (nI x.wk) (nI x.nw) x.ll x.lw x.lx x.lk x.mfa x.mfz (col 5 0 x.mwa) (col 5 1 x.mwa) (col 5 2 x.mwa) (col 5 3 x.mwa) (col 5 4 x.mwa) x.tl x.tt ++ wX2 cI cZ cG (a4 2) a2 (nI x.ng) (nI x.nT) x.mi x.mbl (col 7 0 x.mtr) (col 7 1 x.mtr) (col 7 2 x.mtr) (col 7 3 x.mtr) (col 7 5 x.mtr) (col 7 6 x.mtr) (col 7 4 x.mtr) (BM x.mbk) ++ wX5 cI cZ cG h5 a5 (nI x.nr) (nI x.nt) (nI x.nc) (nI x.nw) x.hd (nI x.wk) (nI x.ng) (nI x.nT) x.mi (nI x.nf) (nI x.nn) x.mru x.mth x.mcl x.mfa x.mwa x.mfz x.mbl x.mbk x.mtr x.mno x.mlo x.mip x.mto ++ wX4 cI cZ cG h4 a4  ++ wX0 cI cZ cG (a4 3) a0 (nI x.nf) (nI x.nn) (col 4 0 x.mno) (col 4 1 x.mno) (col 4 2 x.mno) (col 4 3 x.mno)) H := hP
  have hD : va_D A (wX3 cI cZ cG (a4 0) a3 (nI x.nr) (nI x.nt) (nI x.nc) (col 3 0 x.mru) (col 3 1 x.mru) (col 3 2 x.mru) (col 4 0 x.mth) (col 4 1 x.mth) (col 4 2 x.mth) (grM (col 4 0 x.mth) (col 4 3 x.mth)) (col 3 0 x.mcl) (col 3 1 x.mcl) (col 3 2 x.mcl) ++ wX1 cI cZ cG (a4 1) a1 x.hd (nI x.wk) (nI x.nw) x.ll x.lw x.lx x.lk x.mfa x.mfz (col 5 0 x.mwa) (col 5 1 x.mwa) (col 5 2 x.mwa) (col 5 3 x.mwa) (col 5 4 x.mwa) x.tl x.tt ++ wX2 cI cZ cG (a4 2) a2 (nI x.ng) (nI x.nT) x.mi x.mbl (col 7 0 x.mtr) (col 7 1 x.mtr) (col 7 2 x.mtr) (col 7 3 x.mtr) (col 7 5 x.mtr) (col 7 6 x.mtr) (col 7 4 x.mtr) (BM x.mbk) ++ wX5 cI cZ cG h5 a5 (nI x.nr) (nI x.nt) (nI x.nc) (nI x.nw) x.hd (nI x.wk) (nI x.ng) (nI x.nT) x.mi (nI x.nf) (nI x.nn) x.mru x.mth x.mcl x.mfa x.mwa x.mfz x.mbl x.mbk x.mtr x.mno x.mlo x.mip x.mto ++ wX4 cI cZ cG h4 a4  ++ wX0 cI cZ cG (a4 3) a0 (nI x.nf) (nI x.nn) (col 4 0 x.mno) (col 4 1 x.mno) (col 4 2 x.mno) (col 4 3 x.mno)) := hD
  refine lv_aload_n hx hb dL_law_1026 rfl (lv_at hl 1 rfl) ?_
  refine lv_aload_n hx hb dL_law_1027 rfl (lv_at hl 3 rfl) ?_
  refine lv_iload_n hx hb dL_law_1028 rfl (lv_at hl 0 rfl) ?_
  refine lv_iconst (v := 1) hx hb dL_law_1029 (by decide) ?_
  refine lv_iadd hx hb dL_law_1030 ?_
  refine lv_topi (fun z5 ez5 => ?_)
  obtain rfl : z5 = nI (5 * k + 1) := ez5.trans ((nI_add (5 * k) 1).trans (congrArg nI (by omega)))
  refine K_sld hx hb hX hbl hbA hS hL (5 * k + 1) (by omega) dL_law_1031 ?_
  refine lv_aload_n hx hb dL_law_1032 rfl (lv_at hl 3 rfl) ?_
  refine lv_iload_n hx hb dL_law_1033 rfl (lv_at hl 0 rfl) ?_
  refine lv_iconst (v := 2) hx hb dL_law_1034 (by decide) ?_
  refine lv_iadd hx hb dL_law_1035 ?_
  refine lv_topi (fun z6 ez6 => ?_)
  obtain rfl : z6 = nI (5 * k + 2) := ez6.trans ((nI_add (5 * k) 2).trans (congrArg nI (by omega)))
  refine K_sld hx hb hX hbl hbA hS hL (5 * k + 2) (by omega) dL_law_1036 ?_
  refine lv_aload_n hx hb dL_law_1037 rfl (lv_at hl 3 rfl) ?_
  refine lv_iload_n hx hb dL_law_1038 rfl (lv_at hl 0 rfl) ?_
  refine lv_iconst (v := 3) hx hb dL_law_1039 (by decide) ?_
  refine lv_iadd hx hb dL_law_1040 ?_
  refine lv_topi (fun z7 ez7 => ?_)
  obtain rfl : z7 = nI (5 * k + 3) := ez7.trans ((nI_add (5 * k) 3).trans (congrArg nI (by omega)))
  refine K_sld hx hb hX hbl hbA hS hL (5 * k + 3) (by omega) dL_law_1041 ?_
  refine K_core (wc := wX5 cI cZ cG h5 a5 (nI x.nr) (nI x.nt) (nI x.nc) (nI x.nw) x.hd (nI x.wk) (nI x.ng) (nI x.nT) x.mi (nI x.nf) (nI x.nn) x.mru x.mth x.mcl x.mfa x.mwa x.mfz x.mbl x.mbk x.mtr x.mno x.mlo x.mip x.mto) (wr := wX3 cI cZ cG (a4 0) a3 (nI x.nr) (nI x.nt) (nI x.nc) (col 3 0 x.mru) (col 3 1 x.mru) (col 3 2 x.mru) (col 4 0 x.mth) (col 4 1 x.mth) (col 4 2 x.mth) (grM (col 4 0 x.mth) (col 4 3 x.mth)) (col 3 0 x.mcl) (col 3 1 x.mcl) (col 3 2 x.mcl) ++ wX1 cI cZ cG (a4 1) a1 x.hd (nI x.wk) (nI x.nw) x.ll x.lw x.lx x.lk x.mfa x.mfz (col 5 0 x.mwa) (col 5 1 x.mwa) (col 5 2 x.mwa) (col 5 3 x.mwa) (col 5 4 x.mwa) x.tl x.tt ++ wX2 cI cZ cG (a4 2) a2 (nI x.ng) (nI x.nT) x.mi x.mbl (col 7 0 x.mtr) (col 7 1 x.mtr) (col 7 2 x.mtr) (col 7 3 x.mtr) (col 7 5 x.mtr) (col 7 6 x.mtr) (col 7 4 x.mtr) (BM x.mbk) ++ wX4 cI cZ cG h4 a4  ++ wX0 cI cZ cG (a4 3) a0 (nI x.nf) (nI x.nn) (col 4 0 x.mno) (col 4 1 x.mno) (col 4 2 x.mno) (col 4 3 x.mno)) (va_runV (As := [.int (xs (5 * k + 1)), .int (xs (5 * k + 2)), .int (xs (5 * k + 3))]) (rest := [.int r4]) ⟨hx, hb, hml, hown, hts⟩ (c_X5_at l D cI cZ cG h5 a5 _ x.nr x.nt x.nc x.nw x.hd x.wk x.ng x.nT x.mi x.nf x.nn x.mru x.mth x.mcl x.mfa x.mwa x.mfz x.mbl x.mbk x.mtr x.mno x.mlo x.mip x.mto (xs (5 * k + 1)) (xs (5 * k + 2)) (xs (5 * k + 3)) (by omega) (by omega) (by omega) (by omega) (by omega) (by omega) (by omega) (by omega) (by omega)) (cwV 3 hts gL_law_X5_at rfl rfl rfl (by decide +kernel) ⟨(Nat.le_of_ble_eq_true rfl), (Nat.le_of_ble_eq_true rfl)⟩) ⟨PB_blind, va_recv hK hP (ci := 5) (q0 := 34) rfl rfl, (K_pre hN hK hP hD [34, 35, 36, 37, 38, 39, 40, 41, 42, 43, 44, 45, 46, 47] rfl rfl).2⟩ rfl rfl hl.1 rfl (lv_room (Nat.le_of_ble_eq_true rfl)) dL_law_1042 ⟨(Nat.le_of_ble_eq_true rfl), (Nat.le_of_ble_eq_true rfl)⟩) hP hD hS hA [34, 35, 36, 37, 38, 39, 40, 41, 42, 43, 44, 45, 46, 47] [0, 1, 2, 3, 4, 5, 6, 7, 8, 9, 10, 11, 12, 13, 14, 15, 16, 17, 18, 19, 20, 21, 22, 23, 24, 25, 26, 27, 28, 29, 30, 31, 32, 33, 48, 49, 50, 51, 52, 53] rfl rfl rfl (by decide) (fun r8 u H locs hw8 hP hD hS => ?_)
  have hP : va_P D vwCl (wX3 cI cZ cG (a4 0) a3 (nI x.nr) (nI x.nt) (nI x.nc) (col 3 0 x.mru) (col 3 1 x.mru) (col 3 2 x.mru) (col 4 0 x.mth) (col 4 1 x.mth) (col 4 2 x.mth) (grM (col 4 0 x.mth) (col 4 3 x.mth)) (col 3 0 x.mcl) (col 3 1 x.mcl) (col 3 2 x.mcl) ++ wX1 cI cZ cG (a4 1) a1 x.hd (nI x.wk) (nI x.nw) x.ll x.lw x.lx x.lk x.mfa x.mfz (col 5 0 x.mwa) (col 5 1 x.mwa) (col 5 2 x.mwa) (col 5 3 x.mwa) (col 5 4 x.mwa) x.tl x.tt ++ wX2 cI cZ cG (a4 2) a2 (nI x.ng) (nI x.nT) x.mi x.mbl (col 7 0 x.mtr) (col 7 1 x.mtr) (col 7 2 x.mtr) (col 7 3 x.mtr) (col 7 5 x.mtr) (col 7 6 x.mtr) (col 7 4 x.mtr) (BM x.mbk) ++ wX4 cI cZ cG h4 a4  ++ wX0 cI cZ cG (a4 3) a0 (nI x.nf) (nI x.nn) (col 4 0 x.mno) (col 4 1 x.mno) (col 4 2 x.mno) (col 4 3 x.mno) ++ wX5 cI cZ cG h5 a5 (nI x.nr) (nI x.nt) (nI x.nc) (nI x.nw) x.hd (nI x.wk) (nI x.ng) (nI x.nT) x.mi (nI x.nf) (nI x.nn) x.mru x.mth x.mcl x.mfa x.mwa x.mfz x.mbl x.mbk x.mtr x.mno x.mlo x.mip x.mto) H := hP
  have hD : va_D A (wX3 cI cZ cG (a4 0) a3 (nI x.nr) (nI x.nt) (nI x.nc) (col 3 0 x.mru) (col 3 1 x.mru) (col 3 2 x.mru) (col 4 0 x.mth) (col 4 1 x.mth) (col 4 2 x.mth) (grM (col 4 0 x.mth) (col 4 3 x.mth)) (col 3 0 x.mcl) (col 3 1 x.mcl) (col 3 2 x.mcl) ++ wX1 cI cZ cG (a4 1) a1 x.hd (nI x.wk) (nI x.nw) x.ll x.lw x.lx x.lk x.mfa x.mfz (col 5 0 x.mwa) (col 5 1 x.mwa) (col 5 2 x.mwa) (col 5 3 x.mwa) (col 5 4 x.mwa) x.tl x.tt ++ wX2 cI cZ cG (a4 2) a2 (nI x.ng) (nI x.nT) x.mi x.mbl (col 7 0 x.mtr) (col 7 1 x.mtr) (col 7 2 x.mtr) (col 7 3 x.mtr) (col 7 5 x.mtr) (col 7 6 x.mtr) (col 7 4 x.mtr) (BM x.mbk) ++ wX4 cI cZ cG h4 a4  ++ wX0 cI cZ cG (a4 3) a0 (nI x.nf) (nI x.nn) (col 4 0 x.mno) (col 4 1 x.mno) (col 4 2 x.mno) (col 4 3 x.mno) ++ wX5 cI cZ cG h5 a5 (nI x.nr) (nI x.nt) (nI x.nc) (nI x.nw) x.hd (nI x.wk) (nI x.ng) (nI x.nT) x.mi (nI x.nf) (nI x.nn) x.mru x.mth x.mcl x.mfa x.mwa x.mfz x.mbl x.mbk x.mtr x.mno x.mlo x.mip x.mto) := hD
  have er := hw4.trans hw8.symm
  refine lv_icmp_eq (tgt := 1106) hx hb dL_law_1045 (by decide) (fun _ => ?_) (fun c9 => absurd er c9)
  have hP := hP.sub (ws' := wX4 cI cZ cG h4 a4  ++ wX3 cI cZ cG (a4 0) a3 (nI x.nr) (nI x.nt) (nI x.nc) (col 3 0 x.mru) (col 3 1 x.mru) (col 3 2 x.mru) (col 4 0 x.mth) (col 4 1 x.mth) (col 4 2 x.mth) (grM (col 4 0 x.mth) (col 4 3 x.mth)) (col 3 0 x.mcl) (col 3 1 x.mcl) (col 3 2 x.mcl) ++ wX1 cI cZ cG (a4 1) a1 x.hd (nI x.wk) (nI x.nw) x.ll x.lw x.lx x.lk x.mfa x.mfz (col 5 0 x.mwa) (col 5 1 x.mwa) (col 5 2 x.mwa) (col 5 3 x.mwa) (col 5 4 x.mwa) x.tl x.tt ++ wX2 cI cZ cG (a4 2) a2 (nI x.ng) (nI x.nT) x.mi x.mbl (col 7 0 x.mtr) (col 7 1 x.mtr) (col 7 2 x.mtr) (col 7 3 x.mtr) (col 7 5 x.mtr) (col 7 6 x.mtr) (col 7 4 x.mtr) (BM x.mbk) ++ wX0 cI cZ cG (a4 3) a0 (nI x.nf) (nI x.nn) (col 4 0 x.mno) (col 4 1 x.mno) (col 4 2 x.mno) (col 4 3 x.mno) ++ wX5 cI cZ cG h5 a5 (nI x.nr) (nI x.nt) (nI x.nc) (nI x.nw) x.hd (nI x.wk) (nI x.ng) (nI x.nT) x.mi (nI x.nf) (nI x.nn) x.mru x.mth x.mcl x.mfa x.mwa x.mfz x.mbl x.mbk x.mtr x.mno x.mlo x.mip x.mto) [34, 0, 1, 2, 3, 4, 5, 6, 7, 8, 9, 10, 11, 12, 13, 14, 15, 16, 17, 18, 19, 20, 21, 22, 23, 24, 25, 26, 27, 28, 29, 30, 31, 32, 33, 35, 36, 37, 38, 39, 40, 41, 42, 43, 44, 45, 46, 47, 48, 49, 50, 51, 52, 53] rfl
  have hD := hD.sub (ws' := wX4 cI cZ cG h4 a4  ++ wX3 cI cZ cG (a4 0) a3 (nI x.nr) (nI x.nt) (nI x.nc) (col 3 0 x.mru) (col 3 1 x.mru) (col 3 2 x.mru) (col 4 0 x.mth) (col 4 1 x.mth) (col 4 2 x.mth) (grM (col 4 0 x.mth) (col 4 3 x.mth)) (col 3 0 x.mcl) (col 3 1 x.mcl) (col 3 2 x.mcl) ++ wX1 cI cZ cG (a4 1) a1 x.hd (nI x.wk) (nI x.nw) x.ll x.lw x.lx x.lk x.mfa x.mfz (col 5 0 x.mwa) (col 5 1 x.mwa) (col 5 2 x.mwa) (col 5 3 x.mwa) (col 5 4 x.mwa) x.tl x.tt ++ wX2 cI cZ cG (a4 2) a2 (nI x.ng) (nI x.nT) x.mi x.mbl (col 7 0 x.mtr) (col 7 1 x.mtr) (col 7 2 x.mtr) (col 7 3 x.mtr) (col 7 5 x.mtr) (col 7 6 x.mtr) (col 7 4 x.mtr) (BM x.mbk) ++ wX0 cI cZ cG (a4 3) a0 (nI x.nf) (nI x.nn) (col 4 0 x.mno) (col 4 1 x.mno) (col 4 2 x.mno) (col 4 3 x.mno) ++ wX5 cI cZ cG h5 a5 (nI x.nr) (nI x.nt) (nI x.nc) (nI x.nw) x.hd (nI x.wk) (nI x.ng) (nI x.nT) x.mi (nI x.nf) (nI x.nn) x.mru x.mth x.mcl x.mfa x.mwa x.mfz x.mbl x.mbk x.mtr x.mno x.mlo x.mip x.mto) [34, 0, 1, 2, 3, 4, 5, 6, 7, 8, 9, 10, 11, 12, 13, 14, 15, 16, 17, 18, 19, 20, 21, 22, 23, 24, 25, 26, 27, 28, 29, 30, 31, 32, 33, 35, 36, 37, 38, 39, 40, 41, 42, 43, 44, 45, 46, 47, 48, 49, 50, 51, 52, 53] (by decide) rfl
  exact kk x _ _ ⟨ok3, ok1, ok2, ok0⟩ hP hD hS
set_option maxHeartbeats 8000000 in
set_option maxRecDepth 100000 in
theorem L_turns (hx : p.tables.exec = Jvm.exec) (hb : c.code = cL_law) (hml : c.maxLocals = 4) (hown : s.vm.findClass RL = some m.cls) (hts : ∀ w ∈ wsL_law, w.before args s = true) (hN : nst s) (hK : va_K D vwCl (tyL cI cZ cG) s) (hX : va_X b L xs s s.heap) (hbl : b < s.heap.size) (hbA : ¬ A b) (hL : L ≤ 2560) (hA : ∀ q, s.heap.size ≤ q → A q) {x : RS} (ok : OKx x) {H : Heap} {locs : List Loc} {ls : Array Slot} (hP : va_P D vwCl (wAll cI cZ cG h4 a4 a3 a1 a2 a0 h5 a5 x) H) (hD : va_D A (wAll cI cZ cG h4 a4 a3 a1 a2 a0 h5 a5 x)) (hS : va_S A s.heap H locs) {k : Nat} (hk : 5 * k + 5 ≤ L) (hl : lv_has ls 4 [(3, .int (nI (5 * k))), (2, .ref h5), (1, .ref h4), (0, .ref b)])
    (kk : ∀ (x2 : RS) (H1 : Heap) (locs1 : List Loc), OKx x2 → va_P D vwCl (wAll cI cZ cG h4 a4 a3 a1 a2 a0 h5 a5 x2) H1 → va_D A (wAll cI cZ cG h4 a4 a3 a1 a2 a0 h5 a5 x2) → va_S A s.heap H1 locs1 → W p l e room_1 s m args below meth c H1 locs1 54 1995 Q (F0 m 1106 ls [])) : W p l e room_1 s m args below meth c H locs 54 1995 Q (F0 m 1050 ls []) := by
  obtain ⟨ok3, ok1, ok2, ok0⟩ := ok
  have hnr := ok3.1
  have hnt := ok3.2.1
  have hnc := ok3.2.2.1
  have hrr := ok3.2.2.2.1
  have hnw := ok1.1
  have hwk := ok1.2.1
  have hsd := ok1.2.2.1
  have hhw := ok1.2.2.2.1
  have hfz := ok1.2.2.2.2.1
  have hng := ok2.1
  have hnT := ok2.2.1
  have hokT := ok2.2.2.1
  have hokL := ok2.2.2.2.1
  have hsu := ok2.2.2.2.2.2.1
  have hnf := ok0.1
  have hnn := ok0.2.1
  refine lv_aload_n hx hb dL_law_1050 rfl (lv_at hl 2 rfl) ?_
  refine lv_aload_n hx hb dL_law_1051 rfl (lv_at hl 3 rfl) ?_
  refine lv_iload_n hx hb dL_law_1052 rfl (lv_at hl 0 rfl) ?_
  refine lv_iconst (v := 1) hx hb dL_law_1053 (by decide) ?_
  refine lv_iadd hx hb dL_law_1054 ?_
  refine lv_topi (fun z1 ez1 => ?_)
  obtain rfl : z1 = nI (5 * k + 1) := ez1.trans ((nI_add (5 * k) 1).trans (congrArg nI (by omega)))
  refine K_sld hx hb hX hbl hbA hS hL (5 * k + 1) (by omega) dL_law_1055 ?_
  refine lv_aload_n hx hb dL_law_1056 rfl (lv_at hl 3 rfl) ?_
  refine lv_iload_n hx hb dL_law_1057 rfl (lv_at hl 0 rfl) ?_
  refine lv_iconst (v := 2) hx hb dL_law_1058 (by decide) ?_
  refine lv_iadd hx hb dL_law_1059 ?_
  refine lv_topi (fun z2 ez2 => ?_)
  obtain rfl : z2 = nI (5 * k + 2) := ez2.trans ((nI_add (5 * k) 2).trans (congrArg nI (by omega)))
  refine K_sld hx hb hX hbl hbA hS hL (5 * k + 2) (by omega) dL_law_1060 ?_
  refine K_core (wc := wX4 cI cZ cG h4 a4  ++ wX0 cI cZ cG (a4 3) a0 (nI x.nf) (nI x.nn) (col 4 0 x.mno) (col 4 1 x.mno) (col 4 2 x.mno) (col 4 3 x.mno)) (wr := wX3 cI cZ cG (a4 0) a3 (nI x.nr) (nI x.nt) (nI x.nc) (col 3 0 x.mru) (col 3 1 x.mru) (col 3 2 x.mru) (col 4 0 x.mth) (col 4 1 x.mth) (col 4 2 x.mth) (grM (col 4 0 x.mth) (col 4 3 x.mth)) (col 3 0 x.mcl) (col 3 1 x.mcl) (col 3 2 x.mcl) ++ wX1 cI cZ cG (a4 1) a1 x.hd (nI x.wk) (nI x.nw) x.ll x.lw x.lx x.lk x.mfa x.mfz (col 5 0 x.mwa) (col 5 1 x.mwa) (col 5 2 x.mwa) (col 5 3 x.mwa) (col 5 4 x.mwa) x.tl x.tt ++ wX2 cI cZ cG (a4 2) a2 (nI x.ng) (nI x.nT) x.mi x.mbl (col 7 0 x.mtr) (col 7 1 x.mtr) (col 7 2 x.mtr) (col 7 3 x.mtr) (col 7 5 x.mtr) (col 7 6 x.mtr) (col 7 4 x.mtr) (BM x.mbk) ++ wX5 cI cZ cG h5 a5 (nI x.nr) (nI x.nt) (nI x.nc) (nI x.nw) x.hd (nI x.wk) (nI x.ng) (nI x.nT) x.mi (nI x.nf) (nI x.nn) x.mru x.mth x.mcl x.mfa x.mwa x.mfz x.mbl x.mbk x.mtr x.mno x.mlo x.mip x.mto) (va_runV (As := [.int (xs (5 * k + 1)), .int (xs (5 * k + 2))]) (rest := []) ⟨hx, hb, hml, hown, hts⟩ (c_X4_turns l D cI cZ cG h4 a4 a0 _ x.nf x.nn (col 4 0 x.mno) (col 4 1 x.mno) (col 4 2 x.mno) (col 4 3 x.mno) (xs (5 * k + 1)) (xs (5 * k + 2)) (by omega) (by omega)) (cwV 2 hts gL_law_X4_turns rfl rfl rfl (by decide +kernel) ⟨(Nat.le_of_ble_eq_true rfl), (Nat.le_of_ble_eq_true rfl)⟩) ⟨PB_blind, va_recv hK hP (ci := 4) (q0 := 0) rfl rfl, (K_pre hN hK hP hD [0, 35, 36, 37, 38, 39] rfl rfl).2⟩ rfl rfl hl.1 rfl (lv_room (Nat.le_of_ble_eq_true rfl)) dL_law_1061 ⟨(Nat.le_of_ble_eq_true rfl), (Nat.le_of_ble_eq_true rfl)⟩) hP hD hS hA [0, 35, 36, 37, 38, 39] [1, 2, 3, 4, 5, 6, 7, 8, 9, 10, 11, 12, 13, 14, 15, 16, 17, 18, 19, 20, 21, 22, 23, 24, 25, 26, 27, 28, 29, 30, 31, 32, 33, 34, 40, 41, 42, 43, 44, 45, 46, 47, 48, 49, 50, 51, 52, 53] rfl rfl rfl (by decide) (fun r3 u H locs hw3 hP hD hS => ?_)
  have hP : va_P D vwCl (wX3 cI cZ cG (a4 0) a3 (nI x.nr) (nI x.nt) (nI x.nc) (col 3 0 x.mru) (col 3 1 x.mru) (col 3 2 x.mru) (col 4 0 x.mth) (col 4 1 x.mth) (col 4 2 x.mth) (grM (col 4 0 x.mth) (col 4 3 x.mth)) (col 3 0 x.mcl) (col 3 1 x.mcl) (col 3 2 x.mcl) ++ wX1 cI cZ cG (a4 1) a1 x.hd (nI x.wk) (nI x.nw) x.ll x.lw x.lx x.lk x.mfa x.mfz (col 5 0 x.mwa) (col 5 1 x.mwa) (col 5 2 x.mwa) (col 5 3 x.mwa) (col 5 4 x.mwa) x.tl x.tt ++ wX2 cI cZ cG (a4 2) a2 (nI x.ng) (nI x.nT) x.mi x.mbl (col 7 0 x.mtr) (col 7 1 x.mtr) (col 7 2 x.mtr) (col 7 3 x.mtr) (col 7 5 x.mtr) (col 7 6 x.mtr) (col 7 4 x.mtr) (BM x.mbk) ++ wX5 cI cZ cG h5 a5 (nI x.nr) (nI x.nt) (nI x.nc) (nI x.nw) x.hd (nI x.wk) (nI x.ng) (nI x.nT) x.mi (nI x.nf) (nI x.nn) x.mru x.mth x.mcl x.mfa x.mwa x.mfz x.mbl x.mbk x.mtr x.mno x.mlo x.mip x.mto ++ wX4 cI cZ cG h4 a4  ++ wX0 cI cZ cG (a4 3) a0 (nI x.nf) (nI x.nn) (col 4 0 x.mno) (col 4 1 x.mno) (col 4 2 x.mno) (col 4 3 x.mno)) H := hP
  have hD : va_D A (wX3 cI cZ cG (a4 0) a3 (nI x.nr) (nI x.nt) (nI x.nc) (col 3 0 x.mru) (col 3 1 x.mru) (col 3 2 x.mru) (col 4 0 x.mth) (col 4 1 x.mth) (col 4 2 x.mth) (grM (col 4 0 x.mth) (col 4 3 x.mth)) (col 3 0 x.mcl) (col 3 1 x.mcl) (col 3 2 x.mcl) ++ wX1 cI cZ cG (a4 1) a1 x.hd (nI x.wk) (nI x.nw) x.ll x.lw x.lx x.lk x.mfa x.mfz (col 5 0 x.mwa) (col 5 1 x.mwa) (col 5 2 x.mwa) (col 5 3 x.mwa) (col 5 4 x.mwa) x.tl x.tt ++ wX2 cI cZ cG (a4 2) a2 (nI x.ng) (nI x.nT) x.mi x.mbl (col 7 0 x.mtr) (col 7 1 x.mtr) (col 7 2 x.mtr) (col 7 3 x.mtr) (col 7 5 x.mtr) (col 7 6 x.mtr) (col 7 4 x.mtr) (BM x.mbk) ++ wX5 cI cZ cG h5 a5 (nI x.nr) (nI x.nt) (nI x.nc) (nI x.nw) x.hd (nI x.wk) (nI x.ng) (nI x.nT) x.mi (nI x.nf) (nI x.nn) x.mru x.mth x.mcl x.mfa x.mwa x.mfz x.mbl x.mbk x.mtr x.mno x.mlo x.mip x.mto ++ wX4 cI cZ cG h4 a4  ++ wX0 cI cZ cG (a4 3) a0 (nI x.nf) (nI x.nn) (col 4 0 x.mno) (col 4 1 x.mno) (col 4 2 x.mno) (col 4 3 x.mno)) := hD
  refine lv_aload_n hx hb dL_law_1064 rfl (lv_at hl 1 rfl) ?_
  refine lv_aload_n hx hb dL_law_1065 rfl (lv_at hl 3 rfl) ?_
  refine lv_iload_n hx hb dL_law_1066 rfl (lv_at hl 0 rfl) ?_
  refine lv_iconst (v := 1) hx hb dL_law_1067 (by decide) ?_
  refine lv_iadd hx hb dL_law_1068 ?_
  refine lv_topi (fun z4 ez4 => ?_)
  obtain rfl : z4 = nI (5 * k + 1) := ez4.trans ((nI_add (5 * k) 1).trans (congrArg nI (by omega)))
  refine K_sld hx hb hX hbl hbA hS hL (5 * k + 1) (by omega) dL_law_1069 ?_
  refine lv_aload_n hx hb dL_law_1070 rfl (lv_at hl 3 rfl) ?_
  refine lv_iload_n hx hb dL_law_1071 rfl (lv_at hl 0 rfl) ?_
  refine lv_iconst (v := 2) hx hb dL_law_1072 (by decide) ?_
  refine lv_iadd hx hb dL_law_1073 ?_
  refine lv_topi (fun z5 ez5 => ?_)
  obtain rfl : z5 = nI (5 * k + 2) := ez5.trans ((nI_add (5 * k) 2).trans (congrArg nI (by omega)))
  refine K_sld hx hb hX hbl hbA hS hL (5 * k + 2) (by omega) dL_law_1074 ?_
  refine K_core (wc := wX5 cI cZ cG h5 a5 (nI x.nr) (nI x.nt) (nI x.nc) (nI x.nw) x.hd (nI x.wk) (nI x.ng) (nI x.nT) x.mi (nI x.nf) (nI x.nn) x.mru x.mth x.mcl x.mfa x.mwa x.mfz x.mbl x.mbk x.mtr x.mno x.mlo x.mip x.mto) (wr := wX3 cI cZ cG (a4 0) a3 (nI x.nr) (nI x.nt) (nI x.nc) (col 3 0 x.mru) (col 3 1 x.mru) (col 3 2 x.mru) (col 4 0 x.mth) (col 4 1 x.mth) (col 4 2 x.mth) (grM (col 4 0 x.mth) (col 4 3 x.mth)) (col 3 0 x.mcl) (col 3 1 x.mcl) (col 3 2 x.mcl) ++ wX1 cI cZ cG (a4 1) a1 x.hd (nI x.wk) (nI x.nw) x.ll x.lw x.lx x.lk x.mfa x.mfz (col 5 0 x.mwa) (col 5 1 x.mwa) (col 5 2 x.mwa) (col 5 3 x.mwa) (col 5 4 x.mwa) x.tl x.tt ++ wX2 cI cZ cG (a4 2) a2 (nI x.ng) (nI x.nT) x.mi x.mbl (col 7 0 x.mtr) (col 7 1 x.mtr) (col 7 2 x.mtr) (col 7 3 x.mtr) (col 7 5 x.mtr) (col 7 6 x.mtr) (col 7 4 x.mtr) (BM x.mbk) ++ wX4 cI cZ cG h4 a4  ++ wX0 cI cZ cG (a4 3) a0 (nI x.nf) (nI x.nn) (col 4 0 x.mno) (col 4 1 x.mno) (col 4 2 x.mno) (col 4 3 x.mno)) (va_runV (As := [.int (xs (5 * k + 1)), .int (xs (5 * k + 2))]) (rest := [.int r3]) ⟨hx, hb, hml, hown, hts⟩ (c_X5_turns l D cI cZ cG h5 a5 _ x.nr x.nt x.nc x.nw x.hd x.wk x.ng x.nT x.mi x.nf x.nn x.mru x.mth x.mcl x.mfa x.mwa x.mfz x.mbl x.mbk x.mtr x.mno x.mlo x.mip x.mto (xs (5 * k + 1)) (xs (5 * k + 2)) (by omega) (by omega) (by omega) (by omega) (by omega) (by omega) (by omega) (by omega) (by omega)) (cwV 2 hts gL_law_X5_turns rfl rfl rfl (by decide +kernel) ⟨(Nat.le_of_ble_eq_true rfl), (Nat.le_of_ble_eq_true rfl)⟩) ⟨PB_blind, va_recv hK hP (ci := 5) (q0 := 34) rfl rfl, (K_pre hN hK hP hD [34, 35, 36, 37, 38, 39, 40, 41, 42, 43, 44, 45, 46, 47] rfl rfl).2⟩ rfl rfl hl.1 rfl (lv_room (Nat.le_of_ble_eq_true rfl)) dL_law_1075 ⟨(Nat.le_of_ble_eq_true rfl), (Nat.le_of_ble_eq_true rfl)⟩) hP hD hS hA [34, 35, 36, 37, 38, 39, 40, 41, 42, 43, 44, 45, 46, 47] [0, 1, 2, 3, 4, 5, 6, 7, 8, 9, 10, 11, 12, 13, 14, 15, 16, 17, 18, 19, 20, 21, 22, 23, 24, 25, 26, 27, 28, 29, 30, 31, 32, 33, 48, 49, 50, 51, 52, 53] rfl rfl rfl (by decide) (fun r6 u H locs hw6 hP hD hS => ?_)
  have hP : va_P D vwCl (wX3 cI cZ cG (a4 0) a3 (nI x.nr) (nI x.nt) (nI x.nc) (col 3 0 x.mru) (col 3 1 x.mru) (col 3 2 x.mru) (col 4 0 x.mth) (col 4 1 x.mth) (col 4 2 x.mth) (grM (col 4 0 x.mth) (col 4 3 x.mth)) (col 3 0 x.mcl) (col 3 1 x.mcl) (col 3 2 x.mcl) ++ wX1 cI cZ cG (a4 1) a1 x.hd (nI x.wk) (nI x.nw) x.ll x.lw x.lx x.lk x.mfa x.mfz (col 5 0 x.mwa) (col 5 1 x.mwa) (col 5 2 x.mwa) (col 5 3 x.mwa) (col 5 4 x.mwa) x.tl x.tt ++ wX2 cI cZ cG (a4 2) a2 (nI x.ng) (nI x.nT) x.mi x.mbl (col 7 0 x.mtr) (col 7 1 x.mtr) (col 7 2 x.mtr) (col 7 3 x.mtr) (col 7 5 x.mtr) (col 7 6 x.mtr) (col 7 4 x.mtr) (BM x.mbk) ++ wX4 cI cZ cG h4 a4  ++ wX0 cI cZ cG (a4 3) a0 (nI x.nf) (nI x.nn) (col 4 0 x.mno) (col 4 1 x.mno) (col 4 2 x.mno) (col 4 3 x.mno) ++ wX5 cI cZ cG h5 a5 (nI x.nr) (nI x.nt) (nI x.nc) (nI x.nw) x.hd (nI x.wk) (nI x.ng) (nI x.nT) x.mi (nI x.nf) (nI x.nn) x.mru x.mth x.mcl x.mfa x.mwa x.mfz x.mbl x.mbk x.mtr x.mno x.mlo x.mip x.mto) H := hP
  have hD : va_D A (wX3 cI cZ cG (a4 0) a3 (nI x.nr) (nI x.nt) (nI x.nc) (col 3 0 x.mru) (col 3 1 x.mru) (col 3 2 x.mru) (col 4 0 x.mth) (col 4 1 x.mth) (col 4 2 x.mth) (grM (col 4 0 x.mth) (col 4 3 x.mth)) (col 3 0 x.mcl) (col 3 1 x.mcl) (col 3 2 x.mcl) ++ wX1 cI cZ cG (a4 1) a1 x.hd (nI x.wk) (nI x.nw) x.ll x.lw x.lx x.lk x.mfa x.mfz (col 5 0 x.mwa) (col 5 1 x.mwa) (col 5 2 x.mwa) (col 5 3 x.mwa) (col 5 4 x.mwa) x.tl x.tt ++ wX2 cI cZ cG (a4 2) a2 (nI x.ng) (nI x.nT) x.mi x.mbl (col 7 0 x.mtr) (col 7 1 x.mtr) (col 7 2 x.mtr) (col 7 3 x.mtr) (col 7 5 x.mtr) (col 7 6 x.mtr) (col 7 4 x.mtr) (BM x.mbk) ++ wX4 cI cZ cG h4 a4  ++ wX0 cI cZ cG (a4 3) a0 (nI x.nf) (nI x.nn) (col 4 0 x.mno) (col 4 1 x.mno) (col 4 2 x.mno) (col 4 3 x.mno) ++ wX5 cI cZ cG h5 a5 (nI x.nr) (nI x.nt) (nI x.nc) (nI x.nw) x.hd (nI x.wk) (nI x.ng) (nI x.nT) x.mi (nI x.nf) (nI x.nn) x.mru x.mth x.mcl x.mfa x.mwa x.mfz x.mbl x.mbk x.mtr x.mno x.mlo x.mip x.mto) := hD
  have er := hw3.trans ((rTurns_eq ok0).trans hw6.symm)
  refine lv_icmp_eq (tgt := 1106) hx hb dL_law_1078 (by decide) (fun _ => ?_) (fun c9 => absurd er c9)
  have hP := hP.sub (ws' := wX4 cI cZ cG h4 a4  ++ wX3 cI cZ cG (a4 0) a3 (nI x.nr) (nI x.nt) (nI x.nc) (col 3 0 x.mru) (col 3 1 x.mru) (col 3 2 x.mru) (col 4 0 x.mth) (col 4 1 x.mth) (col 4 2 x.mth) (grM (col 4 0 x.mth) (col 4 3 x.mth)) (col 3 0 x.mcl) (col 3 1 x.mcl) (col 3 2 x.mcl) ++ wX1 cI cZ cG (a4 1) a1 x.hd (nI x.wk) (nI x.nw) x.ll x.lw x.lx x.lk x.mfa x.mfz (col 5 0 x.mwa) (col 5 1 x.mwa) (col 5 2 x.mwa) (col 5 3 x.mwa) (col 5 4 x.mwa) x.tl x.tt ++ wX2 cI cZ cG (a4 2) a2 (nI x.ng) (nI x.nT) x.mi x.mbl (col 7 0 x.mtr) (col 7 1 x.mtr) (col 7 2 x.mtr) (col 7 3 x.mtr) (col 7 5 x.mtr) (col 7 6 x.mtr) (col 7 4 x.mtr) (BM x.mbk) ++ wX0 cI cZ cG (a4 3) a0 (nI x.nf) (nI x.nn) (col 4 0 x.mno) (col 4 1 x.mno) (col 4 2 x.mno) (col 4 3 x.mno) ++ wX5 cI cZ cG h5 a5 (nI x.nr) (nI x.nt) (nI x.nc) (nI x.nw) x.hd (nI x.wk) (nI x.ng) (nI x.nT) x.mi (nI x.nf) (nI x.nn) x.mru x.mth x.mcl x.mfa x.mwa x.mfz x.mbl x.mbk x.mtr x.mno x.mlo x.mip x.mto) [34, 0, 1, 2, 3, 4, 5, 6, 7, 8, 9, 10, 11, 12, 13, 14, 15, 16, 17, 18, 19, 20, 21, 22, 23, 24, 25, 26, 27, 28, 29, 30, 31, 32, 33, 35, 36, 37, 38, 39, 40, 41, 42, 43, 44, 45, 46, 47, 48, 49, 50, 51, 52, 53] rfl
  have hD := hD.sub (ws' := wX4 cI cZ cG h4 a4  ++ wX3 cI cZ cG (a4 0) a3 (nI x.nr) (nI x.nt) (nI x.nc) (col 3 0 x.mru) (col 3 1 x.mru) (col 3 2 x.mru) (col 4 0 x.mth) (col 4 1 x.mth) (col 4 2 x.mth) (grM (col 4 0 x.mth) (col 4 3 x.mth)) (col 3 0 x.mcl) (col 3 1 x.mcl) (col 3 2 x.mcl) ++ wX1 cI cZ cG (a4 1) a1 x.hd (nI x.wk) (nI x.nw) x.ll x.lw x.lx x.lk x.mfa x.mfz (col 5 0 x.mwa) (col 5 1 x.mwa) (col 5 2 x.mwa) (col 5 3 x.mwa) (col 5 4 x.mwa) x.tl x.tt ++ wX2 cI cZ cG (a4 2) a2 (nI x.ng) (nI x.nT) x.mi x.mbl (col 7 0 x.mtr) (col 7 1 x.mtr) (col 7 2 x.mtr) (col 7 3 x.mtr) (col 7 5 x.mtr) (col 7 6 x.mtr) (col 7 4 x.mtr) (BM x.mbk) ++ wX0 cI cZ cG (a4 3) a0 (nI x.nf) (nI x.nn) (col 4 0 x.mno) (col 4 1 x.mno) (col 4 2 x.mno) (col 4 3 x.mno) ++ wX5 cI cZ cG h5 a5 (nI x.nr) (nI x.nt) (nI x.nc) (nI x.nw) x.hd (nI x.wk) (nI x.ng) (nI x.nT) x.mi (nI x.nf) (nI x.nn) x.mru x.mth x.mcl x.mfa x.mwa x.mfz x.mbl x.mbk x.mtr x.mno x.mlo x.mip x.mto) [34, 0, 1, 2, 3, 4, 5, 6, 7, 8, 9, 10, 11, 12, 13, 14, 15, 16, 17, 18, 19, 20, 21, 22, 23, 24, 25, 26, 27, 28, 29, 30, 31, 32, 33, 35, 36, 37, 38, 39, 40, 41, 42, 43, 44, 45, 46, 47, 48, 49, 50, 51, 52, 53] (by decide) rfl
  exact kk x _ _ ⟨ok3, ok1, ok2, ok0⟩ hP hD hS
set_option maxHeartbeats 8000000 in
set_option maxRecDepth 100000 in
theorem L_told (hx : p.tables.exec = Jvm.exec) (hb : c.code = cL_law) (hml : c.maxLocals = 4) (hown : s.vm.findClass RL = some m.cls) (hts : ∀ w ∈ wsL_law, w.before args s = true) (hN : nst s) (hK : va_K D vwCl (tyL cI cZ cG) s) (hX : va_X b L xs s s.heap) (hbl : b < s.heap.size) (hbA : ¬ A b) (hL : L ≤ 2560) (hA : ∀ q, s.heap.size ≤ q → A q) {x : RS} (ok : OKx x) {H : Heap} {locs : List Loc} {ls : Array Slot} (hP : va_P D vwCl (wAll cI cZ cG h4 a4 a3 a1 a2 a0 h5 a5 x) H) (hD : va_D A (wAll cI cZ cG h4 a4 a3 a1 a2 a0 h5 a5 x)) (hS : va_S A s.heap H locs) {k : Nat} (hk : 5 * k + 5 ≤ L) (hl : lv_has ls 4 [(3, .int (nI (5 * k))), (2, .ref h5), (1, .ref h4), (0, .ref b)])
    (kk : ∀ (x2 : RS) (H1 : Heap) (locs1 : List Loc), OKx x2 → va_P D vwCl (wAll cI cZ cG h4 a4 a3 a1 a2 a0 h5 a5 x2) H1 → va_D A (wAll cI cZ cG h4 a4 a3 a1 a2 a0 h5 a5 x2) → va_S A s.heap H1 locs1 → W p l e room_1 s m args below meth c H1 locs1 54 1995 Q (F0 m 1106 ls [])) : W p l e room_1 s m args below meth c H locs 54 1995 Q (F0 m 1083 ls []) := by
  obtain ⟨ok3, ok1, ok2, ok0⟩ := ok
  have hnr := ok3.1
  have hnt := ok3.2.1
  have hnc := ok3.2.2.1
  have hrr := ok3.2.2.2.1
  have hnw := ok1.1
  have hwk := ok1.2.1
  have hsd := ok1.2.2.1
  have hhw := ok1.2.2.2.1
  have hfz := ok1.2.2.2.2.1
  have hng := ok2.1
  have hnT := ok2.2.1
  have hokT := ok2.2.2.1
  have hokL := ok2.2.2.2.1
  have hsu := ok2.2.2.2.2.2.1
  have hnf := ok0.1
  have hnn := ok0.2.1
  refine lv_aload_n hx hb dL_law_1083 rfl (lv_at hl 2 rfl) ?_
  refine lv_aload_n hx hb dL_law_1084 rfl (lv_at hl 3 rfl) ?_
  refine lv_iload_n hx hb dL_law_1085 rfl (lv_at hl 0 rfl) ?_
  refine lv_iconst (v := 1) hx hb dL_law_1086 (by decide) ?_
  refine lv_iadd hx hb dL_law_1087 ?_
  refine lv_topi (fun z1 ez1 => ?_)
  obtain rfl : z1 = nI (5 * k + 1) := ez1.trans ((nI_add (5 * k) 1).trans (congrArg nI (by omega)))
  refine K_sld hx hb hX hbl hbA hS hL (5 * k + 1) (by omega) dL_law_1088 ?_
  refine K_core (wc := wX4 cI cZ cG h4 a4  ++ wX3 cI cZ cG (a4 0) a3 (nI x.nr) (nI x.nt) (nI x.nc) (col 3 0 x.mru) (col 3 1 x.mru) (col 3 2 x.mru) (col 4 0 x.mth) (col 4 1 x.mth) (col 4 2 x.mth) (grM (col 4 0 x.mth) (col 4 3 x.mth)) (col 3 0 x.mcl) (col 3 1 x.mcl) (col 3 2 x.mcl) ++ wX1 cI cZ cG (a4 1) a1 x.hd (nI x.wk) (nI x.nw) x.ll x.lw x.lx x.lk x.mfa x.mfz (col 5 0 x.mwa) (col 5 1 x.mwa) (col 5 2 x.mwa) (col 5 3 x.mwa) (col 5 4 x.mwa) x.tl x.tt ++ wX2 cI cZ cG (a4 2) a2 (nI x.ng) (nI x.nT) x.mi x.mbl (col 7 0 x.mtr) (col 7 1 x.mtr) (col 7 2 x.mtr) (col 7 3 x.mtr) (col 7 5 x.mtr) (col 7 6 x.mtr) (col 7 4 x.mtr) (BM x.mbk) ++ wX0 cI cZ cG (a4 3) a0 (nI x.nf) (nI x.nn) (col 4 0 x.mno) (col 4 1 x.mno) (col 4 2 x.mno) (col 4 3 x.mno)) (wr := wX5 cI cZ cG h5 a5 (nI x.nr) (nI x.nt) (nI x.nc) (nI x.nw) x.hd (nI x.wk) (nI x.ng) (nI x.nT) x.mi (nI x.nf) (nI x.nn) x.mru x.mth x.mcl x.mfa x.mwa x.mfz x.mbl x.mbk x.mtr x.mno x.mlo x.mip x.mto) (va_runV (As := [.int (xs (5 * k + 1))]) (rest := []) ⟨hx, hb, hml, hown, hts⟩ (c_X4_told l D cI cZ cG h4 a4 a3 a1 a2 a0 _ x.nr x.nt x.nc (col 3 0 x.mru) (col 3 1 x.mru) (col 3 2 x.mru) (col 4 0 x.mth) (col 4 1 x.mth) (col 4 2 x.mth) (grM (col 4 0 x.mth) (col 4 3 x.mth)) (col 3 0 x.mcl) (col 3 1 x.mcl) (col 3 2 x.mcl) x.hd x.wk x.nw x.ll x.lw x.lx x.lk x.mfa x.mfz (col 5 0 x.mwa) (col 5 1 x.mwa) (col 5 2 x.mwa) (col 5 3 x.mwa) (col 5 4 x.mwa) x.tl x.tt x.ng x.nT x.mi x.mbl (col 7 0 x.mtr) (col 7 1 x.mtr) (col 7 2 x.mtr) (col 7 3 x.mtr) (col 7 5 x.mtr) (col 7 6 x.mtr) (col 7 4 x.mtr) (BM x.mbk) x.nf x.nn (col 4 0 x.mno) (col 4 1 x.mno) (col 4 2 x.mno) (col 4 3 x.mno) (xs (5 * k + 1))) (cwV 1 hts gL_law_X4_told rfl rfl rfl (by decide +kernel) ⟨(Nat.le_of_ble_eq_true rfl), (Nat.le_of_ble_eq_true rfl)⟩) ⟨PB_blind, va_recv hK hP (ci := 4) (q0 := 0) rfl rfl, (K_pre hN hK hP hD [0, 1, 2, 3, 4, 5, 6, 7, 8, 9, 10, 11, 12, 13, 14, 15, 16, 17, 18, 19, 20, 21, 22, 23, 24, 25, 26, 27, 28, 29, 30, 31, 32, 33, 34, 35, 36, 37, 38, 39] rfl rfl).2⟩ rfl rfl hl.1 rfl (lv_room (Nat.le_of_ble_eq_true rfl)) dL_law_1089 ⟨(Nat.le_of_ble_eq_true rfl), (Nat.le_of_ble_eq_true rfl)⟩) hP hD hS hA [0, 1, 2, 3, 4, 5, 6, 7, 8, 9, 10, 11, 12, 13, 14, 15, 16, 17, 18, 19, 20, 21, 22, 23, 24, 25, 26, 27, 28, 29, 30, 31, 32, 33, 34, 35, 36, 37, 38, 39] [40, 41, 42, 43, 44, 45, 46, 47, 48, 49, 50, 51, 52, 53] rfl rfl rfl (by decide) (fun r2 u H locs hw2 hP hD hS => ?_)
  have hP : va_P D vwCl (wX5 cI cZ cG h5 a5 (nI x.nr) (nI x.nt) (nI x.nc) (nI x.nw) x.hd (nI x.wk) (nI x.ng) (nI x.nT) x.mi (nI x.nf) (nI x.nn) x.mru x.mth x.mcl x.mfa x.mwa x.mfz x.mbl x.mbk x.mtr x.mno x.mlo x.mip x.mto ++ wX4 cI cZ cG h4 a4  ++ wX3 cI cZ cG (a4 0) a3 (nI x.nr) (nI x.nt) (nI x.nc) (col 3 0 x.mru) (col 3 1 x.mru) (col 3 2 x.mru) (col 4 0 x.mth) (col 4 1 x.mth) (col 4 2 x.mth) (grM (col 4 0 x.mth) (col 4 3 x.mth)) (col 3 0 x.mcl) (col 3 1 x.mcl) (col 3 2 x.mcl) ++ wX1 cI cZ cG (a4 1) a1 x.hd (nI x.wk) (nI x.nw) x.ll x.lw x.lx x.lk x.mfa x.mfz (col 5 0 x.mwa) (col 5 1 x.mwa) (col 5 2 x.mwa) (col 5 3 x.mwa) (col 5 4 x.mwa) x.tl x.tt ++ wX2 cI cZ cG (a4 2) a2 (nI x.ng) (nI x.nT) x.mi x.mbl (col 7 0 x.mtr) (col 7 1 x.mtr) (col 7 2 x.mtr) (col 7 3 x.mtr) (col 7 5 x.mtr) (col 7 6 x.mtr) (col 7 4 x.mtr) (BM x.mbk) ++ wX0 cI cZ cG (a4 3) a0 (nI x.nf) (nI x.nn) (col 4 0 x.mno) (col 4 1 x.mno) (col 4 2 x.mno) (col 4 3 x.mno)) H := hP
  have hD : va_D A (wX5 cI cZ cG h5 a5 (nI x.nr) (nI x.nt) (nI x.nc) (nI x.nw) x.hd (nI x.wk) (nI x.ng) (nI x.nT) x.mi (nI x.nf) (nI x.nn) x.mru x.mth x.mcl x.mfa x.mwa x.mfz x.mbl x.mbk x.mtr x.mno x.mlo x.mip x.mto ++ wX4 cI cZ cG h4 a4  ++ wX3 cI cZ cG (a4 0) a3 (nI x.nr) (nI x.nt) (nI x.nc) (col 3 0 x.mru) (col 3 1 x.mru) (col 3 2 x.mru) (col 4 0 x.mth) (col 4 1 x.mth) (col 4 2 x.mth) (grM (col 4 0 x.mth) (col 4 3 x.mth)) (col 3 0 x.mcl) (col 3 1 x.mcl) (col 3 2 x.mcl) ++ wX1 cI cZ cG (a4 1) a1 x.hd (nI x.wk) (nI x.nw) x.ll x.lw x.lx x.lk x.mfa x.mfz (col 5 0 x.mwa) (col 5 1 x.mwa) (col 5 2 x.mwa) (col 5 3 x.mwa) (col 5 4 x.mwa) x.tl x.tt ++ wX2 cI cZ cG (a4 2) a2 (nI x.ng) (nI x.nT) x.mi x.mbl (col 7 0 x.mtr) (col 7 1 x.mtr) (col 7 2 x.mtr) (col 7 3 x.mtr) (col 7 5 x.mtr) (col 7 6 x.mtr) (col 7 4 x.mtr) (BM x.mbk) ++ wX0 cI cZ cG (a4 3) a0 (nI x.nf) (nI x.nn) (col 4 0 x.mno) (col 4 1 x.mno) (col 4 2 x.mno) (col 4 3 x.mno)) := hD
  refine lv_aload_n hx hb dL_law_1092 rfl (lv_at hl 1 rfl) ?_
  refine lv_aload_n hx hb dL_law_1093 rfl (lv_at hl 3 rfl) ?_
  refine lv_iload_n hx hb dL_law_1094 rfl (lv_at hl 0 rfl) ?_
  refine lv_iconst (v := 1) hx hb dL_law_1095 (by decide) ?_
  refine lv_iadd hx hb dL_law_1096 ?_
  refine lv_topi (fun z3 ez3 => ?_)
  obtain rfl : z3 = nI (5 * k + 1) := ez3.trans ((nI_add (5 * k) 1).trans (congrArg nI (by omega)))
  refine K_sld hx hb hX hbl hbA hS hL (5 * k + 1) (by omega) dL_law_1097 ?_
  refine K_core (wc := wX5 cI cZ cG h5 a5 (nI x.nr) (nI x.nt) (nI x.nc) (nI x.nw) x.hd (nI x.wk) (nI x.ng) (nI x.nT) x.mi (nI x.nf) (nI x.nn) x.mru x.mth x.mcl x.mfa x.mwa x.mfz x.mbl x.mbk x.mtr x.mno x.mlo x.mip x.mto) (wr := wX4 cI cZ cG h4 a4  ++ wX3 cI cZ cG (a4 0) a3 (nI x.nr) (nI x.nt) (nI x.nc) (col 3 0 x.mru) (col 3 1 x.mru) (col 3 2 x.mru) (col 4 0 x.mth) (col 4 1 x.mth) (col 4 2 x.mth) (grM (col 4 0 x.mth) (col 4 3 x.mth)) (col 3 0 x.mcl) (col 3 1 x.mcl) (col 3 2 x.mcl) ++ wX1 cI cZ cG (a4 1) a1 x.hd (nI x.wk) (nI x.nw) x.ll x.lw x.lx x.lk x.mfa x.mfz (col 5 0 x.mwa) (col 5 1 x.mwa) (col 5 2 x.mwa) (col 5 3 x.mwa) (col 5 4 x.mwa) x.tl x.tt ++ wX2 cI cZ cG (a4 2) a2 (nI x.ng) (nI x.nT) x.mi x.mbl (col 7 0 x.mtr) (col 7 1 x.mtr) (col 7 2 x.mtr) (col 7 3 x.mtr) (col 7 5 x.mtr) (col 7 6 x.mtr) (col 7 4 x.mtr) (BM x.mbk) ++ wX0 cI cZ cG (a4 3) a0 (nI x.nf) (nI x.nn) (col 4 0 x.mno) (col 4 1 x.mno) (col 4 2 x.mno) (col 4 3 x.mno)) (va_runV (As := [.int (xs (5 * k + 1))]) (rest := [.int r2]) ⟨hx, hb, hml, hown, hts⟩ (c_X5_told l D cI cZ cG h5 a5 _ x.nr x.nt x.nc x.nw x.hd x.wk x.ng x.nT x.mi x.nf x.nn x.mru x.mth x.mcl x.mfa x.mwa x.mfz x.mbl x.mbk x.mtr x.mno x.mlo x.mip x.mto (xs (5 * k + 1)) (by omega) (by omega) (by omega) (by omega) (by omega) (by omega) (by omega) (by omega) (by omega)) (cwV 1 hts gL_law_X5_told rfl rfl rfl (by decide +kernel) ⟨(Nat.le_of_ble_eq_true rfl), (Nat.le_of_ble_eq_true rfl)⟩) ⟨PB_blind, va_recv hK hP (ci := 5) (q0 := 0) rfl rfl, (K_pre hN hK hP hD [0, 1, 2, 3, 4, 5, 6, 7, 8, 9, 10, 11, 12, 13] rfl rfl).2⟩ rfl rfl hl.1 rfl (lv_room (Nat.le_of_ble_eq_true rfl)) dL_law_1098 ⟨(Nat.le_of_ble_eq_true rfl), (Nat.le_of_ble_eq_true rfl)⟩) hP hD hS hA [0, 1, 2, 3, 4, 5, 6, 7, 8, 9, 10, 11, 12, 13] [14, 15, 16, 17, 18, 19, 20, 21, 22, 23, 24, 25, 26, 27, 28, 29, 30, 31, 32, 33, 34, 35, 36, 37, 38, 39, 40, 41, 42, 43, 44, 45, 46, 47, 48, 49, 50, 51, 52, 53] rfl rfl rfl (by decide) (fun r4 u H locs hw4 hP hD hS => ?_)
  have hP : va_P D vwCl (wX4 cI cZ cG h4 a4  ++ wX3 cI cZ cG (a4 0) a3 (nI x.nr) (nI x.nt) (nI x.nc) (col 3 0 x.mru) (col 3 1 x.mru) (col 3 2 x.mru) (col 4 0 x.mth) (col 4 1 x.mth) (col 4 2 x.mth) (grM (col 4 0 x.mth) (col 4 3 x.mth)) (col 3 0 x.mcl) (col 3 1 x.mcl) (col 3 2 x.mcl) ++ wX1 cI cZ cG (a4 1) a1 x.hd (nI x.wk) (nI x.nw) x.ll x.lw x.lx x.lk x.mfa x.mfz (col 5 0 x.mwa) (col 5 1 x.mwa) (col 5 2 x.mwa) (col 5 3 x.mwa) (col 5 4 x.mwa) x.tl x.tt ++ wX2 cI cZ cG (a4 2) a2 (nI x.ng) (nI x.nT) x.mi x.mbl (col 7 0 x.mtr) (col 7 1 x.mtr) (col 7 2 x.mtr) (col 7 3 x.mtr) (col 7 5 x.mtr) (col 7 6 x.mtr) (col 7 4 x.mtr) (BM x.mbk) ++ wX0 cI cZ cG (a4 3) a0 (nI x.nf) (nI x.nn) (col 4 0 x.mno) (col 4 1 x.mno) (col 4 2 x.mno) (col 4 3 x.mno) ++ wX5 cI cZ cG h5 a5 (nI x.nr) (nI x.nt) (nI x.nc) (nI x.nw) x.hd (nI x.wk) (nI x.ng) (nI x.nT) x.mi (nI x.nf) (nI x.nn) x.mru x.mth x.mcl x.mfa x.mwa x.mfz x.mbl x.mbk x.mtr x.mno x.mlo x.mip x.mto) H := hP
  have hD : va_D A (wX4 cI cZ cG h4 a4  ++ wX3 cI cZ cG (a4 0) a3 (nI x.nr) (nI x.nt) (nI x.nc) (col 3 0 x.mru) (col 3 1 x.mru) (col 3 2 x.mru) (col 4 0 x.mth) (col 4 1 x.mth) (col 4 2 x.mth) (grM (col 4 0 x.mth) (col 4 3 x.mth)) (col 3 0 x.mcl) (col 3 1 x.mcl) (col 3 2 x.mcl) ++ wX1 cI cZ cG (a4 1) a1 x.hd (nI x.wk) (nI x.nw) x.ll x.lw x.lx x.lk x.mfa x.mfz (col 5 0 x.mwa) (col 5 1 x.mwa) (col 5 2 x.mwa) (col 5 3 x.mwa) (col 5 4 x.mwa) x.tl x.tt ++ wX2 cI cZ cG (a4 2) a2 (nI x.ng) (nI x.nT) x.mi x.mbl (col 7 0 x.mtr) (col 7 1 x.mtr) (col 7 2 x.mtr) (col 7 3 x.mtr) (col 7 5 x.mtr) (col 7 6 x.mtr) (col 7 4 x.mtr) (BM x.mbk) ++ wX0 cI cZ cG (a4 3) a0 (nI x.nf) (nI x.nn) (col 4 0 x.mno) (col 4 1 x.mno) (col 4 2 x.mno) (col 4 3 x.mno) ++ wX5 cI cZ cG h5 a5 (nI x.nr) (nI x.nt) (nI x.nc) (nI x.nw) x.hd (nI x.wk) (nI x.ng) (nI x.nT) x.mi (nI x.nf) (nI x.nn) x.mru x.mth x.mcl x.mfa x.mwa x.mfz x.mbl x.mbk x.mtr x.mno x.mlo x.mip x.mto) := hD
  have er := hw2.trans hw4.symm
  refine lv_icmp_eq (tgt := 1106) hx hb dL_law_1101 (by decide) (fun _ => ?_) (fun c9 => absurd er c9)
  have hP := hP.sub (ws' := wX4 cI cZ cG h4 a4  ++ wX3 cI cZ cG (a4 0) a3 (nI x.nr) (nI x.nt) (nI x.nc) (col 3 0 x.mru) (col 3 1 x.mru) (col 3 2 x.mru) (col 4 0 x.mth) (col 4 1 x.mth) (col 4 2 x.mth) (grM (col 4 0 x.mth) (col 4 3 x.mth)) (col 3 0 x.mcl) (col 3 1 x.mcl) (col 3 2 x.mcl) ++ wX1 cI cZ cG (a4 1) a1 x.hd (nI x.wk) (nI x.nw) x.ll x.lw x.lx x.lk x.mfa x.mfz (col 5 0 x.mwa) (col 5 1 x.mwa) (col 5 2 x.mwa) (col 5 3 x.mwa) (col 5 4 x.mwa) x.tl x.tt ++ wX2 cI cZ cG (a4 2) a2 (nI x.ng) (nI x.nT) x.mi x.mbl (col 7 0 x.mtr) (col 7 1 x.mtr) (col 7 2 x.mtr) (col 7 3 x.mtr) (col 7 5 x.mtr) (col 7 6 x.mtr) (col 7 4 x.mtr) (BM x.mbk) ++ wX0 cI cZ cG (a4 3) a0 (nI x.nf) (nI x.nn) (col 4 0 x.mno) (col 4 1 x.mno) (col 4 2 x.mno) (col 4 3 x.mno) ++ wX5 cI cZ cG h5 a5 (nI x.nr) (nI x.nt) (nI x.nc) (nI x.nw) x.hd (nI x.wk) (nI x.ng) (nI x.nT) x.mi (nI x.nf) (nI x.nn) x.mru x.mth x.mcl x.mfa x.mwa x.mfz x.mbl x.mbk x.mtr x.mno x.mlo x.mip x.mto) [0, 1, 2, 3, 4, 5, 6, 7, 8, 9, 10, 11, 12, 13, 14, 15, 16, 17, 18, 19, 20, 21, 22, 23, 24, 25, 26, 27, 28, 29, 30, 31, 32, 33, 34, 35, 36, 37, 38, 39, 40, 41, 42, 43, 44, 45, 46, 47, 48, 49, 50, 51, 52, 53] rfl
  have hD := hD.sub (ws' := wX4 cI cZ cG h4 a4  ++ wX3 cI cZ cG (a4 0) a3 (nI x.nr) (nI x.nt) (nI x.nc) (col 3 0 x.mru) (col 3 1 x.mru) (col 3 2 x.mru) (col 4 0 x.mth) (col 4 1 x.mth) (col 4 2 x.mth) (grM (col 4 0 x.mth) (col 4 3 x.mth)) (col 3 0 x.mcl) (col 3 1 x.mcl) (col 3 2 x.mcl) ++ wX1 cI cZ cG (a4 1) a1 x.hd (nI x.wk) (nI x.nw) x.ll x.lw x.lx x.lk x.mfa x.mfz (col 5 0 x.mwa) (col 5 1 x.mwa) (col 5 2 x.mwa) (col 5 3 x.mwa) (col 5 4 x.mwa) x.tl x.tt ++ wX2 cI cZ cG (a4 2) a2 (nI x.ng) (nI x.nT) x.mi x.mbl (col 7 0 x.mtr) (col 7 1 x.mtr) (col 7 2 x.mtr) (col 7 3 x.mtr) (col 7 5 x.mtr) (col 7 6 x.mtr) (col 7 4 x.mtr) (BM x.mbk) ++ wX0 cI cZ cG (a4 3) a0 (nI x.nf) (nI x.nn) (col 4 0 x.mno) (col 4 1 x.mno) (col 4 2 x.mno) (col 4 3 x.mno) ++ wX5 cI cZ cG h5 a5 (nI x.nr) (nI x.nt) (nI x.nc) (nI x.nw) x.hd (nI x.wk) (nI x.ng) (nI x.nT) x.mi (nI x.nf) (nI x.nn) x.mru x.mth x.mcl x.mfa x.mwa x.mfz x.mbl x.mbk x.mtr x.mno x.mlo x.mip x.mto) [0, 1, 2, 3, 4, 5, 6, 7, 8, 9, 10, 11, 12, 13, 14, 15, 16, 17, 18, 19, 20, 21, 22, 23, 24, 25, 26, 27, 28, 29, 30, 31, 32, 33, 34, 35, 36, 37, 38, 39, 40, 41, 42, 43, 44, 45, 46, 47, 48, 49, 50, 51, 52, 53] (by decide) rfl
  exact kk x _ _ ⟨ok3, ok1, ok2, ok0⟩ hP hD hS
end LAW

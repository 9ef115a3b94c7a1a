/-! the law: a case for each order -/
/-- the state of class and reference together -/
def RS : Type := Nat × Nat × Nat × Nat × Nat × Nat × Nat × Nat × Nat × Int32 × Int32 × (Nat → Int32) × (Nat → Int32) × (Nat → Int32) × (Nat → Int32) × (Nat → Int32) × (Nat → Int32) × (Nat → Int32) × (Nat → Int32) × (Nat → Int32) × (Nat → Int32) × (Nat → Int32) × (Nat → Int32) × (Nat → Int32) × Int32 × Int32 × Int32 × Int32 × (Nat → Int32) × (Nat → Int32)
def RS.nr (x : RS) : Nat := x.1
def RS.nt (x : RS) : Nat := x.2.1
def RS.nc (x : RS) : Nat := x.2.2.1
def RS.nw (x : RS) : Nat := x.2.2.2.1
def RS.wk (x : RS) : Nat := x.2.2.2.2.1
def RS.ng (x : RS) : Nat := x.2.2.2.2.2.1
def RS.nT (x : RS) : Nat := x.2.2.2.2.2.2.1
def RS.nf (x : RS) : Nat := x.2.2.2.2.2.2.2.1
def RS.nn (x : RS) : Nat := x.2.2.2.2.2.2.2.2.1
def RS.hd (x : RS) : Int32 := x.2.2.2.2.2.2.2.2.2.1
def RS.mi (x : RS) : Int32 := x.2.2.2.2.2.2.2.2.2.2.1
def RS.mru (x : RS) : Nat → Int32 := x.2.2.2.2.2.2.2.2.2.2.2.1
def RS.mth (x : RS) : Nat → Int32 := x.2.2.2.2.2.2.2.2.2.2.2.2.1
def RS.mcl (x : RS) : Nat → Int32 := x.2.2.2.2.2.2.2.2.2.2.2.2.2.1
def RS.mfa (x : RS) : Nat → Int32 := x.2.2.2.2.2.2.2.2.2.2.2.2.2.2.1
def RS.mwa (x : RS) : Nat → Int32 := x.2.2.2.2.2.2.2.2.2.2.2.2.2.2.2.1
def RS.mfz (x : RS) : Nat → Int32 := x.2.2.2.2.2.2.2.2.2.2.2.2.2.2.2.2.1
def RS.mbl (x : RS) : Nat → Int32 := x.2.2.2.2.2.2.2.2.2.2.2.2.2.2.2.2.2.1
def RS.mbk (x : RS) : Nat → Int32 := x.2.2.2.2.2.2.2.2.2.2.2.2.2.2.2.2.2.2.1
def RS.mtr (x : RS) : Nat → Int32 := x.2.2.2.2.2.2.2.2.2.2.2.2.2.2.2.2.2.2.2.1
def RS.mno (x : RS) : Nat → Int32 := x.2.2.2.2.2.2.2.2.2.2.2.2.2.2.2.2.2.2.2.2.1
def RS.mlo (x : RS) : Nat → Int32 := x.2.2.2.2.2.2.2.2.2.2.2.2.2.2.2.2.2.2.2.2.2.1
def RS.mip (x : RS) : Nat → Int32 := x.2.2.2.2.2.2.2.2.2.2.2.2.2.2.2.2.2.2.2.2.2.2.1
def RS.mto (x : RS) : Nat → Int32 := x.2.2.2.2.2.2.2.2.2.2.2.2.2.2.2.2.2.2.2.2.2.2.2.1
def RS.ll (x : RS) : Int32 := x.2.2.2.2.2.2.2.2.2.2.2.2.2.2.2.2.2.2.2.2.2.2.2.2.1
def RS.lw (x : RS) : Int32 := x.2.2.2.2.2.2.2.2.2.2.2.2.2.2.2.2.2.2.2.2.2.2.2.2.2.1
def RS.lx (x : RS) : Int32 := x.2.2.2.2.2.2.2.2.2.2.2.2.2.2.2.2.2.2.2.2.2.2.2.2.2.2.1
def RS.lk (x : RS) : Int32 := x.2.2.2.2.2.2.2.2.2.2.2.2.2.2.2.2.2.2.2.2.2.2.2.2.2.2.2.1
def RS.tl (x : RS) : Nat → Int32 := x.2.2.2.2.2.2.2.2.2.2.2.2.2.2.2.2.2.2.2.2.2.2.2.2.2.2.2.2.1
def RS.tt (x : RS) : Nat → Int32 := x.2.2.2.2.2.2.2.2.2.2.2.2.2.2.2.2.2.2.2.2.2.2.2.2.2.2.2.2.2
def rsM (nr : Nat) (nt : Nat) (nc : Nat) (nw : Nat) (wk : Nat) (ng : Nat) (nT : Nat) (nf : Nat) (nn : Nat) (hd : Int32) (mi : Int32) (mru : Nat → Int32) (mth : Nat → Int32) (mcl : Nat → Int32) (mfa : Nat → Int32) (mwa : Nat → Int32) (mfz : Nat → Int32) (mbl : Nat → Int32) (mbk : Nat → Int32) (mtr : Nat → Int32) (mno : Nat → Int32) (mlo : Nat → Int32) (mip : Nat → Int32) (mto : Nat → Int32) (ll : Int32) (lw : Int32) (lx : Int32) (lk : Int32) (tl : Nat → Int32) (tt : Nat → Int32) : RS := (nr, nt, nc, nw, wk, ng, nT, nf, nn, hd, mi, mru, mth, mcl, mfa, mwa, mfz, mbl, mbk, mtr, mno, mlo, mip, mto, ll, lw, lx, lk, tl, tt)
abbrev wAll (cI cZ cG : ClassId) (h4 : Nat) (a4 a3 a1 a2 a0 : Nat → Nat) (h5 : Nat) (a5 : Nat → Nat) (x : RS) : va_W := wX4 cI cZ cG h4 a4  ++ wX3 cI cZ cG (a4 0) a3 (nI x.nr) (nI x.nt) (nI x.nc) (col 3 0 x.mru) (col 3 1 x.mru) (col 3 2 x.mru) (col 4 0 x.mth) (col 4 1 x.mth) (col 4 2 x.mth) (grM (col 4 0 x.mth) (col 4 3 x.mth)) (col 3 0 x.mcl) (col 3 1 x.mcl) (col 3 2 x.mcl) ++ wX1 cI cZ cG (a4 1) a1 x.hd (nI x.wk) (nI x.nw) x.ll x.lw x.lx x.lk x.mfa x.mfz (col 5 0 x.mwa) (col 5 1 x.mwa) (col 5 2 x.mwa) (col 5 3 x.mwa) (col 5 4 x.mwa) x.tl x.tt ++ wX2 cI cZ cG (a4 2) a2 (nI x.ng) (nI x.nT) x.mi x.mbl (col 7 0 x.mtr) (col 7 1 x.mtr) (col 7 2 x.mtr) (col 7 3 x.mtr) (col 7 5 x.mtr) (col 7 6 x.mtr) (col 7 4 x.mtr) (BM x.mbk) ++ wX0 cI cZ cG (a4 3) a0 (nI x.nf) (nI x.nn) (col 4 0 x.mno) (col 4 1 x.mno) (col 4 2 x.mno) (col 4 3 x.mno) ++ wX5 cI cZ cG h5 a5 (nI x.nr) (nI x.nt) (nI x.nc) (nI x.nw) x.hd (nI x.wk) (nI x.ng) (nI x.nT) x.mi (nI x.nf) (nI x.nn) x.mru x.mth x.mcl x.mfa x.mwa x.mfz x.mbl x.mbk x.mtr x.mno x.mlo x.mip x.mto
def OKx (x : RS) : Prop := OK3 x.nr x.nt x.nc x.mru x.mth x.mcl ∧ OK1 x.nw x.wk x.mfa x.mwa x.mfz ∧ OK2 x.ng x.nT x.mbl x.mtr ∧ OK0 x.nf x.nn x.mno
theorem va_P_row {D : va_G} {cl : List vw_C} {ws : va_W} {H : Heap} (hP : va_P D cl ws H) (i : Nat) {a : Nat} {cA : ClassId} {n : Nat} {f g : Nat → Int32} (he : ws[i]? = some (a, .inl (cA, n, .inl f))) (hfg : ∀ j, j < n → f j = g j) : va_P D cl (ws.set i (a, .inl (cA, n, .inl g))) H := by
  intro k q hq
  by_cases e : i = k
  · subst e
    have hlt : i < ws.length := (List.getElem?_eq_some_iff.mp he).1
    rw [List.getElem?_set_self hlt] at hq
    cases hq
    have h0 : H[a]? = some (vp_cell cA (n, .inl f)) := hP i _ he
    show H[a]? = some (vp_cell cA (n, .inl g))
    rw [h0]
    show some (arrV cA n (fun j => .int (f j))) = some (arrV cA n (fun j => .int (g j)))
    unfold arrV
    congr 3
    funext j
    show Value.int (f j.val) = Value.int (g j.val)
    rw [hfg j.val j.isLt]
  · rw [List.getElem?_set_ne e] at hq
    exact hP k q hq
theorem va_D_row {A : Nat → Prop} {ws : va_W} (hD : va_D A ws) (i : Nat) {a : Nat} {x y : va_E} (he : ws[i]? = some (a, x)) : va_D A (ws.set i (a, y)) := hD.set he
theorem fault_eq {c : Prop} [Decidable c] {P : Nat → Prop} {lo hi : Nat} {r1 r2 z : Int32} (h1 : if c then fst P lo hi r1 else r1 = z) (h2 : if c then fst P lo hi r2 else r2 = z) : r1 = r2 := by
  by_cases q : c
  · rw [if_pos q] at h1 h2
    exact fst_eq (fun _ _ _ => Iff.rfl) h1 h2
  · rw [if_neg q] at h1 h2
    rw [h1, h2]
theorem spoils_eq {c c2 : Prop} [Decidable c] [Decidable c2] {P : Nat → Prop} {lo hi : Nat} {r1 r2 z z2 : Int32} (h1 : if c then (if c2 then fst P lo hi r1 else r1 = z2) else r1 = z) (h2 : if c then (if c2 then fst P lo hi r2 else r2 = z2) else r2 = z) : r1 = r2 := by
  by_cases q : c
  · rw [if_pos q] at h1 h2
    exact fault_eq h1 h2
  · rw [if_neg q] at h1 h2
    rw [h1, h2]
section LAW
variable {p : Program} {l : Launch} {e : Env} {s : State} {m : MethodId} {args : Array Value} {below : List Frame} {meth : Method} {c : Code} {cells slots : Nat} {Q : State → Prop} {D : va_G} {A : Nat → Prop} {cI cZ cG : ClassId} {b L : Nat} {xs : Nat → Int32} {h4 : Nat} {a4 a3 a1 a2 a0 : Nat → Nat} {h5 : Nat} {a5 : Nat → Nat}
theorem K_sld {cc : ByteArray} {R : Room} {pc : Nat} {H : Heap} {locs : List Loc} {ls : Array Slot} {rest : List Value} (hx : p.tables.exec = Jvm.exec) (hb : c.code = cc) (hX : va_X b L xs s s.heap) (hbl : b < s.heap.size) (hbA : ¬ A b) (hS : va_S A s.heap H locs) (hL : L ≤ 2560) (j : Nat) (hj : j < L) (hdg : decode cc pc = .ok (.iaload, 1))
    (kk : W p l e R s m args below meth c H locs cells slots Q (F0 m (pc + 1) ls (.int (xs j) :: rest))) : W p l e R s m args below meth c H locs cells slots Q (F0 m pc ls (.int (nI j) :: .ref b :: rest)) := by
  refine va_sld hx hb hX hbl hbA hS (vp_in_nI hj (by omega)) hdg ?_
  rw [nI_clamp (by omega)]
  exact kk
end LAW

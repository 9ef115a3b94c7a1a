/-! THE CLAIM OUT OF ONE WALK OF THE LAW'S BODY. Your part is whole_start (and what it stands on); all else here is the same for every law, but numbers. -/
def R_law : String := "ModelTownLaw"
def lw_P (b : Addr) (xs : List Int32) (args : Array Value) (s : State) : Prop := args = #[.ref b] ∧ s.IntsAt b xs ∧ xs.length ≤ 2560 ∧ (Jvm.Cond.and given_1 narrow_1).before args s = true
def lw_Q (_ : Array Value) (s : State) (o : Outcome) (t : State) : Prop := o = .returned (some (.int 1)) ∧ Framed s o t [] 600000 7302250
def lw_Z (below : List Frame) (a : Array Value) (s : State) : State → Prop := fun t => ∃ o, t.status = .running ∧ Ended t below o ∧ lw_Q a s o t
/-- the law's own end, with 1 on the stack, nothing written that was there before, its room as the claim has it -/
theorem lw_ret {p : Program} {l : Launch} {e : Env} {s : State} {m : MethodId} {below : List Frame} {meth : Method} {c : Code} {b : Nat} (hx : p.tables.exec = Jvm.exec) (hb : c.code = code) (hr : meth.sig.returnType = ret) (hlocks : meth.locks = false) {pc : Nat} {H : Heap} {ls : Array Slot} (hdg : decode code pc = .ok (.ireturn, 1)) : W p l e room_1 s m #[Value.ref b] below meth c H [] 600000 7302250 (lw_Z below #[Value.ref b] s) (F0 m pc ls [.int 1]) := by
  intro T hT X
  obtain ⟨fs, hret, hrun, hended, hW, hframe⟩ := X.leave (v := some (.int 1)) (hlocks := hlocks) (fun h => by rw [hr] at h; cases h)
  have hmeth' : T.vm.method? m = some meth := X.method'
  refine ⟨T.setFrames fs, ?_, .returned (some (.int 1)), hrun, hended, rfl, ⟨_, rfl⟩, hW, hframe⟩
  jvm_step X.here [X.here.top, hx, hb, hdg, hmeth', hr, ret, narrow_b1]
  (try refine ⟨rfl, ?_⟩); (try refine ⟨rfl, ?_⟩)
  first | (intro acts; rw [hret _ acts rfl rfl rfl]) | rw [hret _ _ rfl rfl rfl]
  exact Steps.refl _
/-- what holds at the law's entry: the machine, the code, the tables' words (any of lw_tbl by 'hts w (by decide +kernel)'), the script of L ints xs at the cell b, what the Statement gives of the start (any of its parts by flat_of_before) -/
def lw_At (p : Program) (s : State) (m : MethodId) (meth : Method) (c : Code) (b L : Nat) (xs : Nat → Int32) : Prop :=
  p.tables.exec = Jvm.exec ∧ c.code = code ∧ meth.sig.returnType = ret ∧ c.maxLocals = 4 ∧ s.vm.findClass R_law = some m.cls ∧ (∀ w ∈ lw_tbl, w.before #[Value.ref b] s = true) ∧ va_X b L xs s s.heap ∧ b < s.heap.size ∧ meth.locks = false ∧ (Jvm.Cond.and given_1 narrow_1).before #[Value.ref b] s = true
set_option maxHeartbeats 16000000 in
set_option maxRecDepth 100000 in
theorem whole_start {p : Program} {e : Env} {s : State} {m : MethodId} {below : List Frame} {meth : Method} {c : Code} (l : Launch) (hflags : l.flags = flags0) {b L : Nat} {xs : Nat → Int32} (hL : L ≤ 2560) (C0 : lw_At p s m meth c b L xs) : W p l e room_1 s m #[Value.ref b] below meth c s.heap [] 0 0 (lw_Z below #[Value.ref b] s) (entryFrame m ([Value.ref b] : List Value).toArray 4) := by
  obtain ⟨hx, hb0, hr, hml, hown0, hts0, hX, hbl, hlocks, hgv⟩ := C0
  have hb : c.code = cL_law := hb0
  have hown : s.vm.findClass RL = some m.cls := hown0
  have hts : ∀ w ∈ wsL_law, w.before #[Value.ref b] s = true := fun w h => hts0 w (wsL_law_in w h)
  have hN : nst s := law_nst hts0
  obtain ⟨D, cI, cZ, cG, hK⟩ := law_known hts0
  obtain ⟨A, hAe⟩ : ∃ A : Nat → Prop, A = fun q => s.heap.size ≤ q := ⟨_, rfl⟩
  have hA : ∀ q, s.heap.size ≤ q → A q := fun q h => by rw [hAe]; exact h
  have hbA : ¬ A b := fun h => by rw [hAe] at h; exact absurd h (Nat.not_le.mpr hbl)
  have hP : va_P D vwCl ([] : va_W) s.heap := fun k q h => by simp at h
  have hD : va_D A ([] : va_W) := ⟨fun i j p q h => by simp at h, fun k q h => by simp at h⟩
  have hS : va_S A s.heap s.heap [] := va_S.rf
  have hl := lv_entry ([.ref b]) (n := 4) (Nat.le_of_ble_eq_true rfl)
  rw [lg_entry_eq]
  generalize (lg_sl ([.ref b]) ++ List.replicate (4 - (lg_sl ([.ref b])).length) Slot.unset).toArray = ls at hl ⊢
  have hl : lv_has ls 4 [(0, .ref b)] := hl
  refine va_new (ci := 4) (fs := [.null, .null, .null, .null]) (C := RX4) (T := TX4) (N := 4) hx hb hts inlX4 tyX4 tyX4_ok hown (hts0 (.classLink RL 7 RX4) (List.mem_of_getElem? (i := 51) (by decide +kernel))) (hts0 (.instantiable RX4 4) (List.mem_of_getElem? (i := 52) (by decide +kernel))) (hts0 (.initialized RX4) (List.mem_of_getElem? (i := 43) (by decide +kernel))) hK hP hD hS hA rfl (fun j hj => by rcases (show j = 0 ∨ j = 1 ∨ j = 2 ∨ j = 3 by omega) with rfl | rfl | rfl | rfl <;> rfl) (Nat.le_of_ble_eq_true rfl) (Nat.le_of_ble_eq_true rfl) dL_law_0 (fun h4 H hP hD hS => ?_)
  have hP : va_P D vwCl ([(h4, .inr (4, [.null, .null, .null, .null]))]) H := hP
  have hD : va_D A ([(h4, .inr (4, [.null, .null, .null, .null]))]) := hD
  refine lv_dup hx hb dL_law_3 rfl ?_
  refine K_samev (va_runI (As := []) (rest := [.ref h4]) ⟨hx, hb, hml, hown, hts⟩ (c_X4_init l D cI cZ cG h4 _) (cwI 0 hts gL_law_X4_init rfl rfl rfl (hts0 (.initialized RX4) (List.mem_of_getElem? (i := 43) (by decide +kernel))) (hts0 (.methodLink RL 9 yX4_init) (List.mem_of_getElem? (i := 53) (by decide +kernel))) (hts0 (.instanceMethod yX4_init) (List.mem_of_getElem? (i := 54) (by decide +kernel))) rfl (by decide +kernel) ⟨(Nat.le_of_ble_eq_true rfl), (Nat.le_of_ble_eq_true rfl)⟩) (K_preS hN hK hP hD) rfl rfl hl.1 rfl (lv_room (Nat.le_of_ble_eq_true rfl)) dL_law_4 ⟨(Nat.le_of_ble_eq_true rfl), (Nat.le_of_ble_eq_true rfl)⟩) hD hS hA (fun u H locs _ hP hD hS => ?_)
  obtain ⟨a4, a3, a1, a2, a0⟩ := u
  have hP : va_P D vwCl (wX4 cI cZ cG h4 a4 ++ wX3 cI cZ cG (a4 0) a3 0 0 0 (fun _ => 0) (fun _ => 0) (fun _ => 0) (fun _ => 0) (fun _ => 0) (fun _ => 0) (fun _ => 0) (fun _ => 0) (fun _ => 0) (fun _ => 0) ++ wX1 cI cZ cG (a4 1) a1 20 0 0 0 0 0 0 (upd (upd (upd (upd (fun _ => 0) 0 5) 1 5) 2 5) 3 5) (fun _ => 0) (fun _ => 0) (fun _ => 0) (fun _ => 0) (fun _ => 0) (fun _ => 0) (fun _ => 0) (fun _ => 0) ++ wX2 cI cZ cG (a4 2) a2 0 0 0 (fun _ => 0) (fun _ => 0) (fun _ => 0) (fun _ => 0) (fun _ => 0) (fun _ => 0) (fun _ => 0) (fun _ => 0) (fun _ _ => 0) ++ wX0 cI cZ cG (a4 3) a0 0 0 (fun _ => 0) (fun _ => 0) (fun _ => 0) (fun _ => 0)) H := hP
  have hD : va_D A (wX4 cI cZ cG h4 a4 ++ wX3 cI cZ cG (a4 0) a3 0 0 0 (fun _ => 0) (fun _ => 0) (fun _ => 0) (fun _ => 0) (fun _ => 0) (fun _ => 0) (fun _ => 0) (fun _ => 0) (fun _ => 0) (fun _ => 0) ++ wX1 cI cZ cG (a4 1) a1 20 0 0 0 0 0 0 (upd (upd (upd (upd (fun _ => 0) 0 5) 1 5) 2 5) 3 5) (fun _ => 0) (fun _ => 0) (fun _ => 0) (fun _ => 0) (fun _ => 0) (fun _ => 0) (fun _ => 0) (fun _ => 0) ++ wX2 cI cZ cG (a4 2) a2 0 0 0 (fun _ => 0) (fun _ => 0) (fun _ => 0) (fun _ => 0) (fun _ => 0) (fun _ => 0) (fun _ => 0) (fun _ => 0) (fun _ _ => 0) ++ wX0 cI cZ cG (a4 3) a0 0 0 (fun _ => 0) (fun _ => 0) (fun _ => 0) (fun _ => 0)) := hD
  refine lv_astore_n (lv' := [(1, .ref h4), (0, .ref b)]) hx hb dL_law_7 rfl hl (by decide) rfl (fun ls hl => ?_)
  refine va_new (ci := 5) (fs := [.int 0, .null, .int 0, .null, .int 0, .null, .null, .int 0, .null, .int 0, .null, .int 0, .int 0, .null, .null, .int 0, .null, .int 0, .int 0, .int 0, .null, .null, .null, .null]) (C := RX5) (T := TX5) (N := 24) hx hb hts inlX5 tyX5 tyX5_ok hown (hts0 (.classLink RL 10 RX5) (List.mem_of_getElem? (i := 605) (by decide +kernel))) (hts0 (.instantiable RX5 24) (List.mem_of_getElem? (i := 606) (by decide +kernel))) (hts0 (.initialized RX5) (List.mem_of_getElem? (i := 48) (by decide +kernel))) hK hP hD hS hA rfl (fun j hj => by rcases (show j = 0 ∨ j = 1 ∨ j = 2 ∨ j = 3 ∨ j = 4 ∨ j = 5 ∨ j = 6 ∨ j = 7 ∨ j = 8 ∨ j = 9 ∨ j = 10 ∨ j = 11 ∨ j = 12 ∨ j = 13 ∨ j = 14 ∨ j = 15 ∨ j = 16 ∨ j = 17 ∨ j = 18 ∨ j = 19 ∨ j = 20 ∨ j = 21 ∨ j = 22 ∨ j = 23 by omega) with rfl | rfl | rfl | rfl | rfl | rfl | rfl | rfl | rfl | rfl | rfl | rfl | rfl | rfl | rfl | rfl | rfl | rfl | rfl | rfl | rfl | rfl | rfl | rfl <;> rfl) (Nat.le_of_ble_eq_true rfl) (Nat.le_of_ble_eq_true rfl) dL_law_8 (fun h5 H hP hD hS => ?_)
  have hP : va_P D vwCl (wX4 cI cZ cG h4 a4 ++ wX3 cI cZ cG (a4 0) a3 0 0 0 (fun _ => 0) (fun _ => 0) (fun _ => 0) (fun _ => 0) (fun _ => 0) (fun _ => 0) (fun _ => 0) (fun _ => 0) (fun _ => 0) (fun _ => 0) ++ wX1 cI cZ cG (a4 1) a1 20 0 0 0 0 0 0 (upd (upd (upd (upd (fun _ => 0) 0 5) 1 5) 2 5) 3 5) (fun _ => 0) (fun _ => 0) (fun _ => 0) (fun _ => 0) (fun _ => 0) (fun _ => 0) (fun _ => 0) (fun _ => 0) ++ wX2 cI cZ cG (a4 2) a2 0 0 0 (fun _ => 0) (fun _ => 0) (fun _ => 0) (fun _ => 0) (fun _ => 0) (fun _ => 0) (fun _ => 0) (fun _ => 0) (fun _ _ => 0) ++ wX0 cI cZ cG (a4 3) a0 0 0 (fun _ => 0) (fun _ => 0) (fun _ => 0) (fun _ => 0) ++ [(h5, .inr (5, [.int 0, .null, .int 0, .null, .int 0, .null, .null, .int 0, .null, .int 0, .null, .int 0, .int 0, .null, .null, .int 0, .null, .int 0, .int 0, .int 0, .null, .null, .null, .null]))]) H := hP
  have hD : va_D A (wX4 cI cZ cG h4 a4 ++ wX3 cI cZ cG (a4 0) a3 0 0 0 (fun _ => 0) (fun _ => 0) (fun _ => 0) (fun _ => 0) (fun _ => 0) (fun _ => 0) (fun _ => 0) (fun _ => 0) (fun _ => 0) (fun _ => 0) ++ wX1 cI cZ cG (a4 1) a1 20 0 0 0 0 0 0 (upd (upd (upd (upd (fun _ => 0) 0 5) 1 5) 2 5) 3 5) (fun _ => 0) (fun _ => 0) (fun _ => 0) (fun _ => 0) (fun _ => 0) (fun _ => 0) (fun _ => 0) (fun _ => 0) ++ wX2 cI cZ cG (a4 2) a2 0 0 0 (fun _ => 0) (fun _ => 0) (fun _ => 0) (fun _ => 0) (fun _ => 0) (fun _ => 0) (fun _ => 0) (fun _ => 0) (fun _ _ => 0) ++ wX0 cI cZ cG (a4 3) a0 0 0 (fun _ => 0) (fun _ => 0) (fun _ => 0) (fun _ => 0) ++ [(h5, .inr (5, [.int 0, .null, .int 0, .null, .int 0, .null, .null, .int 0, .null, .int 0, .null, .int 0, .int 0, .null, .null, .int 0, .null, .int 0, .int 0, .int 0, .null, .null, .null, .null]))]) := hD
  refine lv_dup hx hb dL_law_11 rfl ?_
  refine K_corev (wc := [(h5, .inr (5, [.int 0, .null, .int 0, .null, .int 0, .null, .null, .int 0, .null, .int 0, .null, .int 0, .int 0, .null, .null, .int 0, .null, .int 0, .int 0, .int 0, .null, .null, .null, .null]))]) (wr := wX4 cI cZ cG h4 a4 ++ wX3 cI cZ cG (a4 0) a3 0 0 0 (fun _ => 0) (fun _ => 0) (fun _ => 0) (fun _ => 0) (fun _ => 0) (fun _ => 0) (fun _ => 0) (fun _ => 0) (fun _ => 0) (fun _ => 0) ++ wX1 cI cZ cG (a4 1) a1 20 0 0 0 0 0 0 (upd (upd (upd (upd (fun _ => 0) 0 5) 1 5) 2 5) 3 5) (fun _ => 0) (fun _ => 0) (fun _ => 0) (fun _ => 0) (fun _ => 0) (fun _ => 0) (fun _ => 0) (fun _ => 0) ++ wX2 cI cZ cG (a4 2) a2 0 0 0 (fun _ => 0) (fun _ => 0) (fun _ => 0) (fun _ => 0) (fun _ => 0) (fun _ => 0) (fun _ => 0) (fun _ => 0) (fun _ _ => 0) ++ wX0 cI cZ cG (a4 3) a0 0 0 (fun _ => 0) (fun _ => 0) (fun _ => 0) (fun _ => 0)) (va_runI (As := []) (rest := [.ref h5]) ⟨hx, hb, hml, hown, hts⟩ (c_X5_init l D cI cZ cG h5 _) (cwI 0 hts gL_law_X5_init rfl rfl rfl (hts0 (.initialized RX5) (List.mem_of_getElem? (i := 48) (by decide +kernel))) (hts0 (.methodLink RL 12 yX5_init) (List.mem_of_getElem? (i := 607) (by decide +kernel))) (hts0 (.instanceMethod yX5_init) (List.mem_of_getElem? (i := 608) (by decide +kernel))) rfl (by decide +kernel) ⟨(Nat.le_of_ble_eq_true rfl), (Nat.le_of_ble_eq_true rfl)⟩) (K_pre hN hK hP hD [40] rfl rfl) rfl rfl hl.1 rfl (lv_room (Nat.le_of_ble_eq_true rfl)) dL_law_12 ⟨(Nat.le_of_ble_eq_true rfl), (Nat.le_of_ble_eq_true rfl)⟩) hP hD hS hA [40] [0, 1, 2, 3, 4, 5, 6, 7, 8, 9, 10, 11, 12, 13, 14, 15, 16, 17, 18, 19, 20, 21, 22, 23, 24, 25, 26, 27, 28, 29, 30, 31, 32, 33, 34, 35, 36, 37, 38, 39] rfl rfl rfl (by decide) (fun a5 H locs _ hP hD hS => ?_)
  have hP : va_P D vwCl (wAll cI cZ cG h4 a4 a3 a1 a2 a0 h5 a5 rs0) H := by
    show va_P D vwCl (wX4 cI cZ cG h4 a4  ++ wX3 cI cZ cG (a4 0) a3 (nI 0) (nI 0) (nI 0) (col 3 0 (fun _ => 0)) (col 3 1 (fun _ => 0)) (col 3 2 (fun _ => 0)) (col 4 0 (fun _ => 0)) (col 4 1 (fun _ => 0)) (col 4 2 (fun _ => 0)) (grM (col 4 0 (fun _ => 0)) (col 4 3 (fun _ => 0))) (col 3 0 (fun _ => 0)) (col 3 1 (fun _ => 0)) (col 3 2 (fun _ => 0)) ++ wX1 cI cZ cG (a4 1) a1 20 (nI 0) (nI 0) 0 0 0 0 (upd (upd (upd (upd (fun _ => 0) 0 5) 1 5) 2 5) 3 5) (fun _ => 0) (col 5 0 (fun _ => 0)) (col 5 1 (fun _ => 0)) (col 5 2 (fun _ => 0)) (col 5 3 (fun _ => 0)) (col 5 4 (fun _ => 0)) (fun _ => 0) (fun _ => 0) ++ wX2 cI cZ cG (a4 2) a2 (nI 0) (nI 0) 0 (fun _ => 0) (col 7 0 (fun _ => 0)) (col 7 1 (fun _ => 0)) (col 7 2 (fun _ => 0)) (col 7 3 (fun _ => 0)) (col 7 5 (fun _ => 0)) (col 7 6 (fun _ => 0)) (col 7 4 (fun _ => 0)) (BM (fun _ => 0)) ++ wX0 cI cZ cG (a4 3) a0 (nI 0) (nI 0) (col 4 0 (fun _ => 0)) (col 4 1 (fun _ => 0)) (col 4 2 (fun _ => 0)) (col 4 3 (fun _ => 0)) ++ wX5 cI cZ cG h5 a5 (nI 0) (nI 0) (nI 0) (nI 0) 20 (nI 0) (nI 0) (nI 0) 0 (nI 0) (nI 0) (fun _ => 0) (fun _ => 0) (fun _ => 0) (upd (upd (upd (upd (fun _ => 0) 0 5) 1 5) 2 5) 3 5) (fun _ => 0) (fun _ => 0) (fun _ => 0) (fun _ => 0) (fun _ => 0) (fun _ => 0) (fun _ => 0) (fun _ => 0) (fun _ => 0)) H
    rw [grM_zero]
    exact hP
  have hD : va_D A (wAll cI cZ cG h4 a4 a3 a1 a2 a0 h5 a5 rs0) := by
    show va_D A (wX4 cI cZ cG h4 a4  ++ wX3 cI cZ cG (a4 0) a3 (nI 0) (nI 0) (nI 0) (col 3 0 (fun _ => 0)) (col 3 1 (fun _ => 0)) (col 3 2 (fun _ => 0)) (col 4 0 (fun _ => 0)) (col 4 1 (fun _ => 0)) (col 4 2 (fun _ => 0)) (grM (col 4 0 (fun _ => 0)) (col 4 3 (fun _ => 0))) (col 3 0 (fun _ => 0)) (col 3 1 (fun _ => 0)) (col 3 2 (fun _ => 0)) ++ wX1 cI cZ cG (a4 1) a1 20 (nI 0) (nI 0) 0 0 0 0 (upd (upd (upd (upd (fun _ => 0) 0 5) 1 5) 2 5) 3 5) (fun _ => 0) (col 5 0 (fun _ => 0)) (col 5 1 (fun _ => 0)) (col 5 2 (fun _ => 0)) (col 5 3 (fun _ => 0)) (col 5 4 (fun _ => 0)) (fun _ => 0) (fun _ => 0) ++ wX2 cI cZ cG (a4 2) a2 (nI 0) (nI 0) 0 (fun _ => 0) (col 7 0 (fun _ => 0)) (col 7 1 (fun _ => 0)) (col 7 2 (fun _ => 0)) (col 7 3 (fun _ => 0)) (col 7 5 (fun _ => 0)) (col 7 6 (fun _ => 0)) (col 7 4 (fun _ => 0)) (BM (fun _ => 0)) ++ wX0 cI cZ cG (a4 3) a0 (nI 0) (nI 0) (col 4 0 (fun _ => 0)) (col 4 1 (fun _ => 0)) (col 4 2 (fun _ => 0)) (col 4 3 (fun _ => 0)) ++ wX5 cI cZ cG h5 a5 (nI 0) (nI 0) (nI 0) (nI 0) 20 (nI 0) (nI 0) (nI 0) 0 (nI 0) (nI 0) (fun _ => 0) (fun _ => 0) (fun _ => 0) (upd (upd (upd (upd (fun _ => 0) 0 5) 1 5) 2 5) 3 5) (fun _ => 0) (fun _ => 0) (fun _ => 0) (fun _ => 0) (fun _ => 0) (fun _ => 0) (fun _ => 0) (fun _ => 0) (fun _ => 0))
    rw [grM_zero]
    exact hD
  refine lv_astore_n (lv' := [(2, .ref h5), (1, .ref h4), (0, .ref b)]) hx hb dL_law_15 rfl hl (by decide) rfl (fun ls hl => ?_)
  refine lv_iconst (v := 0) hx hb dL_law_16 (by decide) ?_
  refine lv_istore_n (lv' := [(3, .int (nI (5 * 0))), (2, .ref h5), (1, .ref h4), (0, .ref b)]) hx hb dL_law_17 rfl hl (by decide) rfl (fun ls hl => ?_)
  refine W.widen (k := 54) (n := 1995) (Nat.le_of_ble_eq_true rfl) (Nat.le_of_ble_eq_true rfl) ?_
  refine loopW2 (fun (k : Nat) (x : RS) H locs ls => 5 * k ≤ 2570 ∧ OKx x ∧ va_P D vwCl (wAll cI cZ cG h4 a4 a3 a1 a2 a0 h5 a5 x) H ∧ va_D A (wAll cI cZ cG h4 a4 a3 a1 a2 a0 h5 a5 x) ∧ va_S A s.heap H locs ∧ lv_has ls 4 [(3, .int (nI (5 * k))), (2, .ref h5), (1, .ref h4), (0, .ref b)]) (fun (k : Nat) (_ : RS) => 2600 - 5 * k) (fun k x H locs ls hI ih18 => ?_) 0 rs0 _ _ _ ⟨by decide, rs0_ok, hP, hD, hS, hl⟩
  obtain ⟨hk2570, ok, hP, hD, hS, hl⟩ := hI
  refine lv_iload_n hx hb dL_law_18 rfl (lv_at hl 0 rfl) ?_
  refine lv_aload_n hx hb dL_law_19 rfl (lv_at hl 3 rfl) ?_
  refine va_slen hx hb hX hbl hbA hS dL_law_20 ?_
  refine lv_iconst (v := 5) hx hb dL_law_21 (by decide) ?_
  refine lv_isub hx hb dL_law_22 ?_
  refine lv_icmp_gt (tgt := 1112) hx hb dL_law_23 (by decide) (fun _ => ?_) (fun c9 => ?_)
  · refine lv_iconst (v := 1) hx hb dL_law_1112 (by decide) ?_
    refine va_forget (fun q hq => by have h9 := hS.2.2 q hq; rw [hAe] at h9; exact h9) ?_
    refine W.widen (k := 600000) (n := 7302250) (Nat.le_of_ble_eq_true rfl) (Nat.le_of_ble_eq_true rfl) ?_
    exact lw_ret hx hb0 hr hlocks dL_law_1113
  · have hk : 5 * k + 5 ≤ L := law_end hL hk2570 c9
    have kk : ∀ (x2 : RS) (H1 : Heap) (locs1 : List Loc), OKx x2 → va_P D vwCl (wAll cI cZ cG h4 a4 a3 a1 a2 a0 h5 a5 x2) H1 → va_D A (wAll cI cZ cG h4 a4 a3 a1 a2 a0 h5 a5 x2) → va_S A s.heap H1 locs1 → W p l e room_1 s m #[Value.ref b] below meth c H1 locs1 54 1995 (lw_Z below #[Value.ref b] s) (F0 m 1106 ls []) := fun x2 H1 locs1 ok2 hP2 hD2 hS2 => by
      refine lv_iinc (v := nI (5 * (k + 1))) (lv' := [(3, .int (nI (5 * (k + 1)))), (2, .ref h5), (1, .ref h4), (0, .ref b)]) hx hb dL_law_1106 hl (k := 0) rfl ((nI_addL (5 * k) 5 (Int32.ofInt 5) (by decide)).trans (congrArg nI (by omega))) (by decide) rfl (fun ls hl => ?_)
      refine lv_goto (tgt := 18) hx hb dL_law_1109 (by decide) ?_
      exact ih18 (k + 1) x2 _ _ _ ⟨by omega, ok2, hP2, hD2, hS2, hl⟩ (by omega)
    refine lv_aload_n hx hb dL_law_26 rfl (lv_at hl 3 rfl) ?_
    refine lv_iload_n hx hb dL_law_27 rfl (lv_at hl 0 rfl) ?_
    refine K_sld hx hb hX hbl hbA hS hL (5 * k) (by omega) dL_law_28 ?_
    refine lv_bipush (v := 31) hx hb dL_law_29 (by decide) ?_
    refine lv_iand hx hb dL_law_31 ?_
    generalize xs (5 * k) &&& 31 = y
    rcases sw_28 y with h9 | h9 | h9 | h9 | h9 | h9 | h9 | h9 | h9 | h9 | h9 | h9 | h9 | h9 | h9 | h9 | h9 | h9 | h9 | h9 | h9 | h9 | h9 | h9 | h9 | h9 | h9 | h9 | h9
    · subst h9
      refine lv_tableIn (off := 128) (tgt := 160) hx hb dL_law_32 (by decide) (by decide) (by rfl) (by decide) ?_
      exact L_rule hx hb hml hown hts hN hK hX hbl hbA hL hA ok hP hD hS hk hl kk
    · subst h9
      refine lv_tableIn (off := 171) (tgt := 203) hx hb dL_law_32 (by decide) (by decide) (by rfl) (by decide) ?_
      exact L_force hx hb hml hown hts hN hK hX hbl hbA hL hA ok hP hD hS hk hl kk
    · subst h9
      refine lv_tableIn (off := 204) (tgt := 236) hx hb dL_law_32 (by decide) (by decide) (by rfl) (by decide) ?_
      exact L_thing hx hb hml hown hts hN hK hX hbl hbA hL hA ok hP hD hS hk hl kk
    · subst h9
      refine lv_tableIn (off := 257) (tgt := 289) hx hb dL_law_32 (by decide) (by decide) (by rfl) (by decide) ?_
      exact L_clip hx hb hml hown hts hN hK hX hbl hbA hL hA ok hP hD hS hk hl kk
    · subst h9
      refine lv_tableIn (off := 300) (tgt := 332) hx hb dL_law_32 (by decide) (by decide) (by rfl) (by decide) ?_
      exact L_look hx hb hml hown hts hN hK hX hbl hbA hL hA ok hP hD hS hk hl kk
    · subst h9
      refine lv_tableIn (off := 343) (tgt := 375) hx hb dL_law_32 (by decide) (by decide) (by rfl) (by decide) ?_
      exact L_fault hx hb hml hown hts hN hK hX hbl hbA hL hA ok hP hD hS hk hl kk
    · subst h9
      refine lv_tableIn (off := 366) (tgt := 398) hx hb dL_law_32 (by decide) (by decide) (by rfl) (by decide) ?_
      exact L_spoils hx hb hml hown hts hN hK hX hbl hbA hL hA ok hP hD hS hk hl kk
    · subst h9
      refine lv_tableIn (off := 399) (tgt := 431) hx hb dL_law_32 (by decide) (by decide) (by rfl) (by decide) ?_
      exact L_fade hx hb hml hown hts hN hK hX hbl hbA hL hA ok hP hD hS hk hl kk
    · subst h9
      refine lv_tableIn (off := 432) (tgt := 464) hx hb dL_law_32 (by decide) (by decide) (by rfl) (by decide) ?_
      exact L_wall hx hb hml hown hts hN hK hX hbl hbA hL hA ok hP hD hS hk hl kk
    · subst h9
      refine lv_tableIn (off := 475) (tgt := 507) hx hb dL_law_32 (by decide) (by decide) (by rfl) (by decide) ?_
      exact L_wallOf hx hb hml hown hts hN hK hX hbl hbA hL hA ok hP hD hS hk hl kk
    · subst h9
      refine lv_tableIn (off := 508) (tgt := 540) hx hb dL_law_32 (by decide) (by decide) (by rfl) (by decide) ?_
      exact L_hands hx hb hml hown hts hN hK hX hbl hbA hL hA ok hP hD hS hk hl kk
    · subst h9
      refine lv_tableIn (off := 531) (tgt := 563) hx hb dL_law_32 (by decide) (by decide) (by rfl) (by decide) ?_
      by_cases hz : xs (5 * k + 2) = 0
      · exact L_frost0 hx hb hml hown hts hN hK hX hbl hbA hL hA ok hP hD hS hk hl hz kk
      · exact L_frost1 hx hb hml hown hts hN hK hX hbl hbA hL hA ok hP hD hS hk hl hz kk
    · subst h9
      refine lv_tableIn (off := 580) (tgt := 612) hx hb dL_law_32 (by decide) (by decide) (by rfl) (by decide) ?_
      exact L_week hx hb hml hown hts hN hK hX hbl hbA hL hA ok hP hD hS hk hl kk
    · subst h9
      refine lv_tableIn (off := 593) (tgt := 625) hx hb dL_law_32 (by decide) (by decide) (by rfl) (by decide) ?_
      exact L_foretell hx hb hml hown hts hN hK hX hbl hbA hL hA ok hP hD hS hk hl kk
    · subst h9
      refine lv_tableIn (off := 626) (tgt := 658) hx hb dL_law_32 (by decide) (by decide) (by rfl) (by decide) ?_
      exact L_enough hx hb hml hown hts hN hK hX hbl hbA hL hA ok hP hD hS hk hl kk
    · subst h9
      refine lv_tableIn (off := 659) (tgt := 691) hx hb dL_law_32 (by decide) (by decide) (by rfl) (by decide) ?_
      exact L_ring hx hb hml hown hts hN hK hX hbl hbA hL hA ok hP hD hS hk hl kk
    · subst h9
      refine lv_tableIn (off := 672) (tgt := 704) hx hb dL_law_32 (by decide) (by decide) (by rfl) (by decide) ?_
      exact L_block hx hb hml hown hts hN hK hX hbl hbA hL hA ok hP hD hS hk hl kk
    · subst h9
      refine lv_tableIn (off := 705) (tgt := 737) hx hb dL_law_32 (by decide) (by decide) (by rfl) (by decide) ?_
      exact L_train hx hb hml hown hts hN hK hX hbl hbA hL hA ok hP hD hS hk hl kk
    · subst h9
      refine lv_tableIn (off := 748) (tgt := 780) hx hb dL_law_32 (by decide) (by decide) (by rfl) (by decide) ?_
      by_cases hz : xs (5 * k + 2) = 0
      · exact L_stick0 hx hb hml hown hts hN hK hX hbl hbA hL hA ok hP hD hS hk hl hz kk
      · exact L_stick1 hx hb hml hown hts hN hK hX hbl hbA hL hA ok hP hD hS hk hl hz kk
    · subst h9
      refine lv_tableIn (off := 797) (tgt := 829) hx hb dL_law_32 (by decide) (by decide) (by rfl) (by decide) ?_
      exact L_run hx hb hml hown hts hN hK hX hbl hbA hL hA ok hP hD hS hk hl kk
    · subst h9
      refine lv_tableIn (off := 820) (tgt := 852) hx hb dL_law_32 (by decide) (by decide) (by rfl) (by decide) ?_
      exact L_trainOf hx hb hml hown hts hN hK hX hbl hbA hL hA ok hP hD hS hk hl kk
    · subst h9
      refine lv_tableIn (off := 853) (tgt := 885) hx hb dL_law_32 (by decide) (by decide) (by rfl) (by decide) ?_
      exact L_stands hx hb hml hown hts hN hK hX hbl hbA hL hA ok hP hD hS hk hl kk
    · subst h9
      refine lv_tableIn (off := 866) (tgt := 898) hx hb dL_law_32 (by decide) (by decide) (by rfl) (by decide) ?_
      exact L_figure hx hb hml hown hts hN hK hX hbl hbA hL hA ok hP hD hS hk hl kk
    · subst h9
      refine lv_tableIn (off := 879) (tgt := 911) hx hb dL_law_32 (by decide) (by decide) (by rfl) (by decide) ?_
      exact L_note hx hb hml hown hts hN hK hX hbl hbA hL hA ok hP hD hS hk hl kk
    · subst h9
      refine lv_tableIn (off := 932) (tgt := 964) hx hb dL_law_32 (by decide) (by decide) (by rfl) (by decide) ?_
      exact L_where hx hb hml hown hts hN hK hX hbl hbA hL hA ok hP hD hS hk hl kk
    · subst h9
      refine lv_tableIn (off := 975) (tgt := 1007) hx hb dL_law_32 (by decide) (by decide) (by rfl) (by decide) ?_
      exact L_at hx hb hml hown hts hN hK hX hbl hbA hL hA ok hP hD hS hk hl kk
    · subst h9
      refine lv_tableIn (off := 1018) (tgt := 1050) hx hb dL_law_32 (by decide) (by decide) (by rfl) (by decide) ?_
      exact L_turns hx hb hml hown hts hN hK hX hbl hbA hL hA ok hP hD hS hk hl kk
    · subst h9
      refine lv_tableIn (off := 1051) (tgt := 1083) hx hb dL_law_32 (by decide) (by decide) (by rfl) (by decide) ?_
      exact L_told hx hb hml hown hts hN hK hX hbl hbA hL hA ok hP hD hS hk hl kk
    · refine lv_tableOut (tgt := 1106) hx hb dL_law_32 h9 (by decide) ?_
      exact kk x _ _ ok hP hD hS
set_option maxHeartbeats 4000000 in
theorem lw_walk (l : Launch) (hflags : l.flags = flags0) (b : Addr) (xs : List Int32) : MetFree l x (headSpec (Jvm.Cond.code x code maxLocals ret :: tables_1) room_1) (lw_P b xs) (fun _ _ _ _ _ => True) lw_Q := by
  refine MetFree.of_bodyS (code := code) (maxLocals := maxLocals) (ret := ret) (by decide) ?_ ?_
  · intro args s m h hn
    obtain ⟨meth, c, h1, h2, h3, h4, h5, h6, -, -⟩ := Cond.code_spec hn (atoms_spec (ws := Jvm.Cond.code x code maxLocals ret :: tables_1) h _ List.mem_cons_self)
    exact ⟨meth, c, h1, h2, h3, h4, h5, h6⟩
  · intro p e s m args below meth c s₁ B hml0 hP _
    obtain ⟨rfl, hx, hbd, hgv⟩ := hP
    obtain ⟨scr, harrAt, hlist, hof, hsmall⟩ := hx
    obtain ⟨hcb, hkn, -, -⟩ := State.arrayAt?_spec harrAt
    have hown : s.vm.findClass R_law = some m.cls := findClass_of_methodNamed B.named
    have hts0 : ∀ c ∈ (Jvm.Cond.code x code maxLocals ret :: tables_1), c.before #[Value.ref b] s = true := atoms_spec (ws := Jvm.Cond.code x code maxLocals ret :: tables_1) B.pre
    have hts : ∀ w ∈ lw_tbl, w.before #[Value.ref b] s = true := k2_hts_sels lw_privs (fun w hw => hts0 w (List.mem_cons_of_mem _ hw)) lw_privs_ok
    have hml : c.maxLocals = 4 := B.maxLocals_eq (hts0 _ List.mem_cons_self)
    have X₀ : Stand p l e room_1 s m #[Value.ref b] below meth c s₁ [] 0 0 := Stand.of_body B
    have hh0 : s₁.heap = s.heap := by rw [B.state]; rfl
    have hsz : scr.slots.size = xs.length := by rw [← Array.length_toList, hlist, List.length_map]
    have hval : ∀ j : Nat, j < xs.length → scr.slots[j]? = some (.int (xs.getD j 0)) := fun j hj => by
      rw [← Array.getElem?_toList, hlist]
      simp [hj]
    have hbl : b < s.heap.size := (Array.getElem?_eq_some_iff.mp hcb).1
    have hX : va_X b xs.length (fun j => xs.getD j 0) s s.heap := ⟨scr, hcb, hof, hkn, hsz, hval⟩
    have K : W p l e room_1 s m #[Value.ref b] below meth c s₁.heap [] 0 0 (lw_Z below #[Value.ref b] s) (entryFrame m ([Value.ref b] : List Value).toArray 4) := by
      rw [hh0]
      exact whole_start l hflags hbd ⟨B.exec, B.bytes, B.returns, hml, hown, hts, hX, hbl, B.notSynchronized, hgv⟩
    obtain ⟨t, a1, o, b1, b2, b3⟩ := K s₁ rfl X₀
    exact ⟨t, o, a1, b1, b2, b3⟩
theorem lw_pre_spec {args : Array Value} {s : State} (h : (Jvm.Cond.and given_1 narrow_1).before args s = true) (hr : rest_1_c.before args s = true) : ∃ (b : Addr) (xs : List Int32), lw_P b xs args s := by
  have hs := flat_of_before _ h
  have hq := flat_of_before _ hr
  have hc : (Cond.count 1).before args s = true := hs _ (by decide +kernel)
  have harr : (Cond.arrayOf (.arg 0) .int).before args s = true := hs _ (by decide +kernel)
  have hle : (Cond.le (.length (.arg 0)) (.int 2560)).before args s = true := hs _ (by decide +kernel)
  have hlen : (Cond.isInt (.length (.arg 0))).before args s = true := hq _ (by decide +kernel)
  have hall : (Cond.all (.arg 0) (.isInt (.elem (.arg 0) (.index 0)))).before args s = true := hq _ (by decide +kernel)
  obtain ⟨b, xs, hb, hx⟩ := State.ints_of_pre rfl harr hlen hall
  have hsm : xs.length < 2 ^ 31 := hx.choose_spec.2.2.2
  have hev : (Term.length (.arg 0)).eval args s none [] s = some (.int xs.length.toInt32) := hx.length_eval hb
  have hv := Cond.le_ints hev (show (Term.int 2560).eval args s none [] s = some (.int 2560) from rfl)
  have hd : xs.length.toInt32 ≤ 2560 := by
    simpa [Cond.before, Cond.holds, hv] using hle
  have hN : xs.length ≤ 2560 := (Int32.ofNat_le_ofNat hsm (by decide)).mp (show Int32.ofNat xs.length ≤ Int32.ofNat 2560 from hd)
  exact ⟨b, xs, Cond.one_arg hc (show args[0]? = some (.ref b) from hb), hx, hN, h⟩
theorem lw_comes (l : Launch) (hflags : l.flags = flags0) : Comes l x (Jvm.Cond.code x code maxLocals ret :: tables_1) room_1 (fun tb e args s => Calls_1 tb e args s ∧ rest_1 tb e args s ∧ Pre_1 tb e args s)
    (fun _ _ args s o t => lw_Q args s o t) := by
  intro p e ha hc hk s m args below hf hfit hheap happ hpre
  obtain ⟨b, xs, hP⟩ := lw_pre_spec hpre.2.2 hpre.2.1
  obtain ⟨k, o, h1, h2, h3, hQ⟩ := lw_walk l hflags b xs p e ha hc hk s m args below hf ((Spec.applies_iff_loose hf).mp happ).1 hP trivial
  exact ⟨k, o, h1, h2, h3, hQ⟩
theorem lw_frame {s t : State} {o : Outcome} {args : Array Value} (h : Framed s o t [] 600000 7302250) :
    Framed s o t (fieldLocs frame_1_writes args s ++ arrayLocs frame_1_arrays args s ++ staticLocs frame_1_statics s) 600000 7302250 := h
theorem lw_limb (L : Cond) (hL : ∀ (args : Array Value) (s t : State), L.after args s (.returned (some (.int 1))) t = true) :
    ArmFor flags0 classFile x code maxLocals ret World_1 tables_1 room_1 Calls_1 rest_1 Pre_1
      (fun tb e a s o t => postC L tb e a s o t ∧ Framed s o t (fieldLocs frame_1_writes a s ++ arrayLocs frame_1_arrays a s ++ staticLocs frame_1_statics s) 600000 7302250) := by
  intro l hflags _ _ p e ha hc hk s m args below hf hfit hheap happ hpre
  obtain ⟨k, o, h1, h2, h3, rfl, hF⟩ := lw_comes l hflags p e ha hc hk s m args below hf hfit hheap happ hpre
  exact ⟨k, _, h1, h2, h3, hL args s _, lw_frame hF⟩
theorem i_vc : Claimed_1_1 ∧ Claimed_1_2 := ⟨lw_limb limb_1_1 (fun args s t => by simp [limb_1_1, Cond.after, Cond.holds, Cond.value]), lw_limb limb_1_2 (fun args s t => Cond.after_iff.mpr (by
  first | (rw [show limb_1_2 = Cond.eq .result (.int 1) from rfl, Cond.eq_ints (x := 1) (y := 1) rfl rfl]; simp; done) | (simp [limb_1_2, Cond.value, Term.eval]; done)))⟩

/-! the rows of rings: an array of arrays -/
theorem vr_outer9 (c : ClassId) (N h0 : Nat) : ∀ i : Nat, Jvm.Free.Multi.outerC c N h0 i = arrV c N (fun j => va_rf (if j < i then some (h0 + 1 + j) else none))
  | 0 => by
    show ({ cls := c, slots := Array.replicate N .null, vm := .none } : Cell) = _
    rw [arrV_new]
    refine congrArg (arrV c N) (funext fun j => ?_)
    simp [va_rf]
  | i + 1 => by
    show (Jvm.Free.Multi.outerC c N h0 i).setSlot i (.ref (h0 + 1 + i)) = _
    rw [vr_outer9 c N h0 i, arrV_store]
    refine congrArg (arrV c N) (funext fun j => ?_)
    by_cases e : j = i
    · subst e
      simp [updV, va_rf]
    · by_cases h : j < i
      · simp [updV, e, h, Nat.lt_succ_of_lt h]
      · simp [updV, e, h, show ¬ j < i + 1 by omega]
theorem va_D_more {A : Nat → Prop} {ws new : va_W} {h : Nat} (hD : va_D A ws) (hlt : ∀ (k : Nat) (x : Nat × va_E), ws[k]? = some x → x.1 < h) (hnew : ∀ (k : Nat) (x : Nat × va_E), new[k]? = some x → x.1 = h + k) (hA : ∀ q, h ≤ q → A q) : va_D A (ws ++ new) := by
  refine ⟨fun i j x y hi hj hxy => ?_, fun k x hx => ?_⟩
  · by_cases h1 : i < ws.length <;> by_cases h2 : j < ws.length
    · rw [List.getElem?_append_left h1] at hi
      rw [List.getElem?_append_left h2] at hj
      exact hD.1 i j x y hi hj hxy
    · rw [List.getElem?_append_left h1] at hi
      rw [List.getElem?_append_right (by omega)] at hj
      have := hlt _ _ hi
      have := hnew _ _ hj
      omega
    · rw [List.getElem?_append_right (by omega)] at hi
      rw [List.getElem?_append_left h2] at hj
      have := hlt _ _ hj
      have := hnew _ _ hi
      omega
    · rw [List.getElem?_append_right (by omega)] at hi hj
      have := hnew _ _ hi
      have := hnew _ _ hj
      omega
  · by_cases h1 : k < ws.length
    · rw [List.getElem?_append_left h1] at hx
      exact hD.2 k x hx
    · rw [List.getElem?_append_right (by omega)] at hx
      have := hnew _ _ hx
      exact hA _ (by omega)
section MNA
variable {p : Program} {l : Launch} {e : Env} {R : Room} {s : State} {m : MethodId} {args : Array Value} {below : List Frame} {meth : Method} {c : Code} {H : Heap} {locs : List Loc} {cells slots : Nat} {Q : State → Prop}
variable {cc : ByteArray} {pc : Nat} {ls : Array Slot} {rest : List Value} {D : va_G} {A : Nat → Prop} {ws : va_W} {H0 : Heap} {cI cZ cG : ClassId}
theorem K_mna (hx : p.tables.exec = Jvm.exec) (hb : c.code = cc) {own : String} {index : Nat} (hown : s.vm.findClass own = some m.cls) (hclink : (Cond.classLink own index "[[I").before args s = true) (hN : nst s) (harr : (Cond.arrayClass .int).before args s = true)
    (hK : va_K D vwCl (tyL cI cZ cG) s) (hP : va_P D vwCl ws H) (hD : va_D A ws) (hS : va_S A H0 H locs) (hA : ∀ q, H0.size ≤ q → A q) {n k : Int32} (hn : ¬ n < 0) (hk : ¬ k < 0) (hn3 : n.toNatClampNeg = 3) (hk12 : k.toNatClampNeg = 12)
    (hb1 : 3 * 4 ≤ 536870912) (hb2 : 12 * 4 ≤ 536870912) (hb3 : 12 ≤ 536870912) (hcells : cells + (1 + 3) ≤ R.cells) (hslots : slots + (3 + 3 * 12) ≤ R.slots) (hdg : decode cc pc = .ok (.multianewarray index 2, 4))
    (kk : ∀ (q r0 r1 r2 : Nat) (H1 : Heap), va_P D vwCl (ws ++ [(q, .inl (cG, 3, .inr (.inr (.inr (.inr (fun i => if i < 3 then some ([r0, r1, r2].getD i 0) else none)))))), (r0, .inl (cI, 12, .inl (fun _ => 0))), (r1, .inl (cI, 12, .inl (fun _ => 0))), (r2, .inl (cI, 12, .inl (fun _ => 0)))]) H1 →
      va_D A (ws ++ [(q, .inl (cG, 3, .inr (.inr (.inr (.inr (fun i => if i < 3 then some ([r0, r1, r2].getD i 0) else none)))))), (r0, .inl (cI, 12, .inl (fun _ => 0))), (r1, .inl (cI, 12, .inl (fun _ => 0))), (r2, .inl (cI, 12, .inl (fun _ => 0)))]) → va_S A H0 H1 locs →
      W p l e R s m args below meth c H1 locs (cells + 1 + 3) (slots + 3 + 3 * 12) Q (F0 m (pc + 4) ls (.ref q :: rest))) : W p l e R s m args below meth c H locs cells slots Q (F0 m pc ls (.int k :: .int n :: rest)) := by
  intro T hT Xs
  have eC : "[" ++ (FieldType.array .int).toString = "[[I" := by decide +kernel
  rw [← eC] at hclink
  have hover : (Cond.arrayOver (.array .int)).before args s = true := hN.2.2.2.2.2.2.2.2.2.2.2.2.2.2.2.2.2.2.2.2.2
  obtain ⟨vm₁, cA, comp, -, fA, fC, hO, -, X', step⟩ := Xs.multianewarray2F (ty := .int) hx hown hclink hover harr (g := F0 m pc ls (.int k :: .int n :: rest)) rfl (by rw [hb]; exact hdg) rfl hn hk (by rw [hn3]; exact hb1) (by rw [hk12]; exact hb2) (by rw [hk12]; exact hb3) rfl rfl (by rw [hn3]; exact hcells) (by rw [hn3, hk12]; exact hslots)
  have g1 : s.vm.findClass ("[" ++ FieldType.int.toString) = some cI := (hK.2 0 _ rfl).2
  have g2 : s.vm.findClass ("[" ++ (FieldType.array .int).toString) = some cG := (hK.2 2 _ rfl).2
  have g3 : s.vm.findClass ("[" ++ FieldType.int.toString) = some comp := fC
  obtain rfl : cI = comp := Option.some.inj (g1.symm.trans g3)
  obtain rfl : cG = cA := Option.some.inj (g2.symm.trans fA)
  rw [hn3, hk12] at X' step
  generalize hF : Jvm.Free.Multi.fill (T.setVm vm₁) cG cI 3 12 (defaultValue .int) 3 = F at X' step
  have hTh : (T.setVm vm₁).heap = H := hT
  obtain ⟨f1, f2, -, -⟩ := Jvm.Free.Multi.fill_facts (T.setVm vm₁) cG cI 3 12 (defaultValue .int) 3
  rw [hF, hTh] at f1 f2
  have hold : ∀ x : Nat, x < H.size → F.heap[x]? = H[x]? := fun x hx => by
    have := Jvm.Free.Multi.fill_old (T.setVm vm₁) cG cI 3 12 (defaultValue .int) (a := x) (by rw [hTh]; exact hx) 3
    rw [hF, hTh] at this
    exact this
  have hrow : ∀ j : Nat, j < 3 → F.heap[H.size + 1 + j]? = some (vp_cell cI (12, .inl (fun _ => 0))) := fun j hj => by
    have := Jvm.Free.Multi.fill_inner (T.setVm vm₁) cG cI 3 12 (defaultValue .int) 3 j hj
    rw [hF, hTh] at this
    exact this
  have hout : Jvm.Free.Multi.outerC cG 3 H.size 3 = vp_cell cG (3, .inr (.inr (.inr (.inr (fun i => if i < 3 then some ([H.size + 1 + 0, H.size + 1 + 1, H.size + 1 + 2].getD i 0) else none))))) := by
    rw [vp_cell_q, vr_outer9]
    refine congrArg (arrV cG 3) (funext fun j => ?_)
    rcases (by omega : j = 0 ∨ j = 1 ∨ j = 2 ∨ 3 ≤ j) with rfl | rfl | rfl | q
    · rfl
    · rfl
    · rfl
    · rw [if_neg (by omega), if_neg (by omega)]
  rw [hout] at f2
  obtain ⟨t, a1, b1⟩ := kk H.size (H.size + 1 + 0) (H.size + 1 + 1) (H.size + 1 + 2) F.heap
    ((hP.kept (fun k9 x hx => hold x.1 ((hP k9 x hx).lt))).app (fun k9 x hx => by
      have h0 : k9 < 4 := (List.getElem?_eq_some_iff.mp hx).1
      rcases (by omega : k9 = 0 ∨ k9 = 1 ∨ k9 = 2 ∨ k9 = 3) with rfl | rfl | rfl | rfl
      · cases hx; exact f2
      · cases hx; exact hrow 0 (by decide)
      · cases hx; exact hrow 1 (by decide)
      · cases hx; exact hrow 2 (by decide)))
    (va_D_more (h := H.size) hD (fun k9 x hx => (hP k9 x hx).lt) (fun k9 x hx => by
      have h0 : k9 < 4 := (List.getElem?_eq_some_iff.mp hx).1
      rcases (by omega : k9 = 0 ∨ k9 = 1 ∨ k9 = 2 ∨ k9 = 3) with rfl | rfl | rfl | rfl
      · cases hx; rfl
      · cases hx; rfl
      · cases hx; rfl
      · cases hx; rfl) (fun q hq => hA q (Nat.le_trans hS.1 hq)))
    ⟨by rw [f1]; have := hS.1; omega, fun x h1 h2 => (hold x (Nat.lt_of_lt_of_le h1 hS.1)).trans (hS.2.1 x h1 h2), hS.2.2⟩ F rfl X'
  refine ⟨t, step t ?_, b1⟩
  have e9 : T.heap.size = H.size := by rw [hT]
  rw [e9]
  exact a1
end MNA

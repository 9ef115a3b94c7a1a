/-- the tables' word of the class of arrays of int arrays, which no word list holds -/
def AOi (U : State) : Prop := (Cond.arrayOver (.array .int)).before #[] U = true
theorem AOi_moved {u U : State} (hvm : u.vm.Alike U.vm) (h : AOi u) : AOi U := by
  unfold AOi Cond.before Cond.holds at h
  simp only [Cond.value, beq_iff_eq] at h
  cases hc : u.vm.findClass (FieldType.array .int).toString with
  | none => simp [hc] at h
  | some comp =>
    simp only [hc, Option.bind_some, Option.bind_eq_some_iff, Option.map_eq_some_iff] at h
    obtain ⟨c, hi, k, hk, hq⟩ := h
    obtain ⟨k', hk', he⟩ := hvm.2.2 _ _ hk
    have hi2 : (U.vm.classes.findIdx? fun (x : Class) => match x.kind with | .array component _ => component == comp | _ => false) = some c := by
      have h9 := va_idx_bare U.vm comp
      have h8 := va_idx_bare u.vm comp
      first | rw [hvm.bare_eq] at h9 | rw [← hvm.bare_eq] at h9
      exact h9.symm.trans (h8.trans hi)
    have f1 : U.vm.findClass (FieldType.array .int).toString = some comp := by rw [hvm.findClass]; exact hc
    unfold AOi Cond.before Cond.holds
    simp only [Cond.value]
    rw [f1, Option.bind_some]
    refine (congrArg (fun o : Option Nat => (o.bind (fun c => (U.vm.classes[c]?).map fun (k : Class) => match k.kind with | .array _ ty => decide (ty = FieldType.array .int) && decide (U.vm.findClass ("[" ++ (FieldType.array .int).toString) = some c) | _ => false) == some true)) hi2).trans ?_
    cases hkind : k.kind with
    | array component ty =>
      rw [hkind] at hq
      have hq9 : (decide (ty = FieldType.array .int) && decide (u.vm.findClass ("[" ++ (FieldType.array .int).toString) = some c)) = true := hq
      rw [Bool.and_eq_true, decide_eq_true_eq, decide_eq_true_eq] at hq9
      have hk2 : k'.kind = .array component ty := by rw [he]; exact hkind
      have f2 : U.vm.findClass ("[" ++ (FieldType.array .int).toString) = some c := by rw [hvm.findClass]; exact hq9.2
      show (((U.vm.classes[c]?).map fun (k : Class) => match k.kind with | .array _ ty => decide (ty = FieldType.array .int) && decide (U.vm.findClass ("[" ++ (FieldType.array .int).toString) = some c) | _ => false) == some true) = true
      rw [hk']
      show ((some (match k'.kind with | .array _ ty => decide (ty = FieldType.array .int) && decide (U.vm.findClass ("[" ++ (FieldType.array .int).toString) = some c) | _ => false)) == some true) = true
      rw [hk2, f2, hq9.1]
      show (some (decide (FieldType.array .int = FieldType.array .int) && decide (some c = some c)) == some true) = true
      rw [decide_eq_true rfl, decide_eq_true rfl]
      rfl
    | _ => rw [hkind] at hq; simp at hq

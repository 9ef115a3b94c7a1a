/-! the reference's columns -/
def col (m i : Nat) (f : Nat → Int32) : Nat → Int32 := fun k => f (m * k + i)
theorem col_upd {m i j n : Nat} {f : Nat → Int32} {x : Int32} (hi : i < m) (hj : j < m) : col m i (upd f (m * n + j) x) = if i = j then upd (col m i f) n x else col m i f := by
  funext k
  by_cases e : i = j
  · subst e
    rw [if_pos rfl]
    show upd f (m * n + i) x (m * k + i) = upd (col m i f) n x k
    by_cases h : k = n
    · subst h
      rw [pk_us, pk_us]
    · rw [pk_un h, pk_un (by
        intro q
        have h1 : m * k = m * n := by omega
        exact h (Nat.eq_of_mul_eq_mul_left (by omega) h1))]
      rfl
  · rw [if_neg e]
    show upd f (m * n + j) x (m * k + i) = f (m * k + i)
    rw [pk_un]
    intro q
    have h1 : (m * k + i) % m = i := by rw [Nat.mul_add_mod]; exact Nat.mod_eq_of_lt hi
    have h2 : (m * n + j) % m = j := by rw [Nat.mul_add_mod]; exact Nat.mod_eq_of_lt hj
    rw [q] at h1
    omega
/-- the reference's growth counts for trees alone -/
def grM (so gr : Nat → Int32) : Nat → Int32 := fun t => if so t = 1 then gr t else 0
def rForceM (nr : Nat) (mru : Nat → Int32) (d : Int32) (w : Nat) : Int32 := if w = 0 then raA nr (col 3 0 mru) (col 3 1 mru) d else slA nr (col 3 0 mru) (col 3 2 mru) d
def szM (nc : Nat) (mth mcl : Nat → Int32) (t : Nat) (d : Int32) : Int32 := szA nc (col 3 0 mcl) (col 3 1 mcl) (col 3 2 mcl) (col 4 2 mth) (grM (col 4 0 mth) (col 4 3 mth)) t d
def fM (nr nc : Nat) (mru mth mcl : Nat → Int32) (t : Nat) (d : Int32) : Int32 := fA nr nc (col 3 0 mru) (col 3 1 mru) (col 3 2 mru) (col 4 0 mth) (col 4 1 mth) (col 4 2 mth) (grM (col 4 0 mth) (col 4 3 mth)) (col 3 0 mcl) (col 3 1 mcl) (col 3 2 mcl) t d
def siO (cs : Nat → Int32) (s0 : Int32) : Option Nat → Int32
  | none => s0
  | some c => cs c
def lateM (nc : Nat) (mcl : Nat → Int32) (x d : Int32) : Bool := (List.range nc).any (fun k => decide (mcl (3 * k) = x ∧ ¬ mcl (3 * k + 1) ≤ d))
theorem lateM_t {nc : Nat} {mcl : Nat → Int32} {x d : Int32} {k : Nat} (hk : k < nc) (c1 : mcl (3 * k) = x) (c2 : ¬ mcl (3 * k + 1) ≤ d) : lateM nc mcl x d = true := List.any_eq_true.mpr ⟨k, List.mem_range.mpr hk, by simp [c1, c2]⟩
theorem lateM_f {nc : Nat} {mcl : Nat → Int32} {x d : Int32} (h : ∀ j, j < nc → ¬ (mcl (3 * j) = x ∧ ¬ mcl (3 * j + 1) ≤ d)) : lateM nc mcl x d = false := by
  cases e : lateM nc mcl x d with
  | false => rfl
  | true =>
    obtain ⟨k, hk, c⟩ := List.any_eq_true.mp e
    exact absurd (of_decide_eq_true c) (h k (List.mem_range.mp hk))
def okClipM (nt nc : Nat) (mth mcl : Nat → Int32) (x d v : Int32) : Bool := inR x 0 (nI nt - 1) && inR d 0 3000 && inR v 1 9000 && decide (mth (4 * x.toNatClampNeg) = 1) && decide (¬ nc = 60) && !lateM nc mcl x d
def rClipM (nt nc : Nat) (mth mcl : Nat → Int32) (x d v : Int32) : Int32 :=
  if inR x 0 (nI nt - 1) = true then (if inR d 0 3000 = true ∧ inR v 1 9000 = true then (if mth (4 * x.toNatClampNeg) = 1 then (if nc = 60 then -4 else if lateM nc mcl x d = true then -5 else szM nc mth mcl x.toNatClampNeg d) else -3) else -2) else -1
def rLookM (nr nt nc : Nat) (mru mth mcl : Nat → Int32) (x d w : Int32) : Int32 :=
  if inR x 0 (nI nt - 1) = true then (if inR d 0 3000 = true ∧ inR w 0 2 = true then (if w = 0 then szM nc mth mcl x.toNatClampNeg d else if w = 1 then duA nr (col 3 0 mru) (col 3 1 mru) (col 4 1 mth) x.toNatClampNeg d else fM nr nc mru mth mcl x.toNatClampNeg d) else -2) else -1
theorem szM_eq {nc : Nat} {mth mcl : Nat → Int32} {t : Nat} {d : Int32} {o : Option Nat} (ho : lC (col 3 0 mcl) (col 3 1 mcl) (nI t) d nc = o) : szM nc mth mcl t d = szO (col 3 1 mcl) (col 3 2 mcl) (mth (4 * t + 2)) (if mth (4 * t) = 1 then mth (4 * t + 3) else 0) d o := by
  unfold szM szA
  rw [ho]
  rfl
theorem szO_t (cd cs : Nat → Int32) (s0 g d : Int32) (o : Option Nat) : szO cd cs s0 g d o = siO cs s0 o + g * ((d - foO cd 0 o) / 7) := by
  cases o with
  | none => show s0 + (d - 0) / 7 * g = s0 + g * ((d - 0) / 7); rw [Int32.mul_comm]
  | some c => show cs c + (d - cd c) / 7 * g = cs c + g * ((d - cd c) / 7); rw [Int32.mul_comm]
theorem szO_0 (cd cs : Nat → Int32) (s0 d : Int32) (o : Option Nat) : szO cd cs s0 0 d o = siO cs s0 o := by
  rw [szO_t, Int32.zero_mul, Int32.add_zero]
theorem flt_pos (due sl size so : Int32) : flt due sl size so = 0 ∨ (¬ flt due sl size so = 0 ∧ ¬ flt due sl size so ≤ 0) := by
  unfold flt
  by_cases c : ¬ (size - due ≤ due * sl / 100) ∧ ¬ so = 2
  · rw [if_pos c]; exact Or.inr ⟨by decide, by decide⟩
  · rw [if_neg c]
    by_cases c2 : ¬ (-(size - due) ≤ due * sl / 100) ∧ ¬ so = 1
    · rw [if_pos c2]; exact Or.inr ⟨by decide, by decide⟩
    · rw [if_neg c2]; exact Or.inl rfl
theorem fM_ne {nr nc : Nat} {mru mth mcl : Nat → Int32} {t : Nat} {d : Int32} (h : ¬ fM nr nc mru mth mcl t d ≤ 0) : ¬ fM nr nc mru mth mcl t d = 0 := fun q => h (by rw [q]; decide)
theorem fM_0 {nr nc : Nat} {mru mth mcl : Nat → Int32} {t : Nat} {d : Int32} (h : fM nr nc mru mth mcl t d ≤ 0) : fM nr nc mru mth mcl t d = 0 := by
  rcases flt_pos (duA nr (col 3 0 mru) (col 3 1 mru) (col 4 1 mth) t d) (slA nr (col 3 0 mru) (col 3 2 mru) d) (szA nc (col 3 0 mcl) (col 3 1 mcl) (col 3 2 mcl) (col 4 2 mth) (grM (col 4 0 mth) (col 4 3 mth)) t d) (col 4 0 mth t) with q | q
  · exact q
  · exact absurd h q.2

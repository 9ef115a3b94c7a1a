/-! what a state is, and what its methods answer: section 1 (scale) -/
def oI : Option Nat → Int32
  | none => -6
  | some k => nI k
def inR (x lo hi : Int32) : Bool := decide (lo ≤ x) && decide (x ≤ hi)
def bo (r : Int32) (P : Prop) : Prop := (r = 1 ∧ P) ∨ (r = 0 ∧ ¬ P)
theorem inR_t {x lo hi : Int32} (h1 : lo ≤ x) (h2 : x ≤ hi) : inR x lo hi = true := by simp [inR, h1, h2]
theorem inR_f1 {x lo hi : Int32} (h1 : ¬ lo ≤ x) : ¬ inR x lo hi = true := by simp [inR, h1]
theorem inR_f2 {x lo hi : Int32} (h2 : ¬ x ≤ hi) : ¬ inR x lo hi = true := by simp [inR, h2]
theorem inR_iff {x lo hi : Int32} : inR x lo hi = true ↔ lo ≤ x ∧ x ≤ hi := by simp [inR]
/-- a number between two is a natural one -/
theorem inR_nat {x hi : Int32} {n : Nat} (h : inR x 0 hi = true) (hh : hi.toInt = n) : ∃ j : Nat, j ≤ n ∧ x = nI j := by
  obtain ⟨h1, h2⟩ := inR_iff.mp h
  exact nI_of2 hh (Int32.not_lt.mpr h1) h2
/-- a number from 0 on, below a length -/
theorem inR_lt {x : Int32} {n : Nat} (hn : n < 2 ^ 31) (h : inR x 0 (nI n - 1) = true) : ∃ j : Nat, j < n ∧ x = nI j := by
  obtain ⟨h1, h2⟩ := inR_iff.mp h
  obtain ⟨j, hj, rfl⟩ := nI_of (Int32.not_lt.mpr h1)
  refine ⟨j, ?_, rfl⟩
  cases n with
  | zero =>
    exfalso
    have e : nI 0 - 1 = -1 := by decide
    rw [e, Int32.le_iff_toInt_le, nI_toInt hj] at h2
    have : (-1 : Int32).toInt = -1 := by decide
    omega
  | succ n =>
    rw [nI_pred] at h2
    have := (nI_leI hj (by omega)).mp h2
    omega
theorem inR_ltI {j n : Nat} (hj : j < n) (hn : n < 2 ^ 31) : inR (nI j) 0 (nI n - 1) = true := by
  cases n with
  | zero => omega
  | succ n =>
    rw [nI_pred]
    exact inR_t (nI_pos' (by omega)) ((nI_leI (by omega) (by omega)).mpr (by omega))
/-- the place of the greatest day not above d, of several the last -/
def bR (x : Nat → Int32) (d : Int32) : Nat → Option Nat
  | 0 => none
  | k + 1 => match bR x d k with
    | none => if x k ≤ d then some k else none
    | some b => if x k ≤ d ∧ x b ≤ x k then some k else some b
theorem bR_lt {x : Nat → Int32} {d : Int32} : ∀ {n b : Nat}, bR x d n = some b → b < n
  | 0, b, h => by simp [bR] at h
  | n + 1, b, h => by
    unfold bR at h
    cases e : bR x d n with
    | none =>
      rw [e] at h
      by_cases c : x n ≤ d
      · simp [c] at h; omega
      · simp [c] at h
    | some b' =>
      rw [e] at h
      have := bR_lt e
      by_cases c : x n ≤ d ∧ x b' ≤ x n
      · simp [c] at h; omega
      · simp [c] at h; omega
/-- the last clipping of a thing up to a day -/
def lC (ct cd : Nat → Int32) (t d : Int32) : Nat → Option Nat
  | 0 => none
  | k + 1 => if ct k = t ∧ cd k ≤ d then some k else lC ct cd t d k
theorem lC_lt {ct cd : Nat → Int32} {t d : Int32} : ∀ {n b : Nat}, lC ct cd t d n = some b → b < n
  | 0, b, h => by simp [lC] at h
  | n + 1, b, h => by
    unfold lC at h
    by_cases c : ct n = t ∧ cd n ≤ d
    · simp [c] at h; omega
    · rw [if_neg c] at h
      have := lC_lt h
      omega
def foO (v : Nat → Int32) (z : Int32) : Option Nat → Int32
  | none => z
  | some b => v b
def szO (cd cs : Nat → Int32) (s0 g d : Int32) : Option Nat → Int32
  | none => s0 + (d - 0) / 7 * g
  | some c => cs c + (d - cd c) / 7 * g
def flt (due sl size so : Int32) : Int32 := if ¬ (size - due ≤ due * sl / 100) ∧ ¬ so = 2 then 1 else if ¬ (-(size - due) ≤ due * sl / 100) ∧ ¬ so = 1 then 2 else 0
def raA (nr : Nat) (rd rr : Nat → Int32) (d : Int32) : Int32 := foO rr 12 (bR rd d nr)
def slA (nr : Nat) (rd rs : Nat → Int32) (d : Int32) : Int32 := foO rs 10 (bR rd d nr)
def szA (nc : Nat) (ct cd cs si gr : Nat → Int32) (t : Nat) (d : Int32) : Int32 := szO cd cs (si t) (gr t) d (lC ct cd (nI t) d nc)
def duA (nr : Nat) (rd rr tr : Nat → Int32) (t : Nat) (d : Int32) : Int32 := tr t / raA nr rd rr d
def fA (nr nc : Nat) (rd rr rs so tr si gr ct cd cs : Nat → Int32) (t : Nat) (d : Int32) : Int32 := flt (duA nr rd rr tr t d) (slA nr rd rs d) (szA nc ct cd cs si gr t d) (so t)
/-- the first place from lo on, below hi, of which P holds -/
def fst (P : Nat → Prop) (lo hi : Nat) (r : Int32) : Prop := (∃ t, lo ≤ t ∧ t < hi ∧ r = nI t ∧ P t ∧ ∀ j, lo ≤ j → j < t → ¬ P j) ∨ (r = -6 ∧ ∀ j, lo ≤ j → j < hi → ¬ P j)
theorem fst_eq {P P' : Nat → Prop} {lo hi : Nat} {r r' : Int32} (e : ∀ j, lo ≤ j → j < hi → (P j ↔ P' j)) (h : fst P lo hi r) (h' : fst P' lo hi r') : r = r' := by
  rcases h with ⟨t, a1, a2, a3, a4, a5⟩ | ⟨a1, a2⟩ <;> rcases h' with ⟨t', b1, b2, b3, b4, b5⟩ | ⟨b1, b2⟩
  · have : t = t' := by
      rcases Nat.lt_trichotomy t t' with q | q | q
      · exact absurd ((e t a1 a2).mp a4) (b5 t a1 q)
      · exact q
      · exact absurd ((e t' b1 b2).mpr b4) (a5 t' b1 q)
    rw [a3, b3, this]
  · exact absurd ((e t a1 a2).mp a4) (b2 t a1 a2)
  · exact absurd ((e t' b1 b2).mpr b4) (a2 t' b1 b2)
  · rw [a1, b1]
theorem raA_ne {nr : Nat} {rd rr : Nat → Int32} (d : Int32) (h : ∀ k, k < nr → ¬ rr k = 0) : ¬ raA nr rd rr d = 0 := by
  unfold raA
  cases e : bR rd d nr with
  | none => show ¬ (12 : Int32) = 0; decide
  | some b => exact h b (bR_lt e)
def okRule (d ra sl : Int32) : Bool := inR d 0 3000 && inR ra 2 30 && inR sl 0 50
def rRule (nr : Nat) (d ra sl : Int32) : Int32 := if okRule d ra sl = true then (if nr = 6 then -4 else nI (nr + 1)) else -2
def rForce (nr : Nat) (rd rr rs : Nat → Int32) (d w : Int32) : Int32 := if inR d 0 3000 = true ∧ inR w 0 1 = true then (if w = 0 then raA nr rd rr d else slA nr rd rs d) else -2
def okThing (so tr si gr : Int32) : Bool := inR so 0 2 && inR tr 100 60000 && inR si 1 9000 && inR gr 0 50
def rThing (nt : Nat) (so tr si gr : Int32) : Int32 := if okThing so tr si gr = true then (if nt = 20 then -4 else nI nt) else -2
def rLook (nr nt nc : Nat) (rd rr rs so tr si gr ct cd cs : Nat → Int32) (x d w : Int32) : Int32 :=
  if inR x 0 (nI nt - 1) = true then (if inR d 0 3000 = true then (if w = 0 then szA nc ct cd cs si gr x.toNatClampNeg d else if w = 1 then duA nr rd rr tr x.toNatClampNeg d else if w = 2 then fA nr nc rd rr rs so tr si gr ct cd cs x.toNatClampNeg d else -2) else -2) else -1
def lateC (cd : Nat → Int32) (d : Int32) : Option Nat → Bool
  | none => false
  | some c => !decide (cd c ≤ d)
def okClip (nt nc : Nat) (so ct cd : Nat → Int32) (x d v : Int32) : Bool := inR x 0 (nI nt - 1) && inR d 0 3000 && inR v 1 9000 && decide (so x.toNatClampNeg = 1) && decide (¬ nc = 60) && !lateC cd d (lC ct cd x 3000 nc)
def rClip (nt nc : Nat) (so ct cd cs si gr : Nat → Int32) (x d v : Int32) : Int32 :=
  if inR x 0 (nI nt - 1) = true then (if inR d 0 3000 = true ∧ inR v 1 9000 = true then (if so x.toNatClampNeg = 1 then (if nc = 60 then -4 else if lateC cd d (lC ct cd x 3000 nc) = true then -5 else szA nc ct cd cs si gr x.toNatClampNeg d) else -3) else -2) else -1
theorem flt_1 {due sl size so : Int32} (c : ¬ size - due ≤ due * sl / 100) (c2 : ¬ so = 2) : flt due sl size so = 1 := if_pos ⟨c, c2⟩
theorem flt_2 {due sl size so : Int32} (c : size - due ≤ due * sl / 100 ∨ so = 2) (c2 : ¬ -(size - due) ≤ due * sl / 100) (c3 : ¬ so = 1) : flt due sl size so = 2 := by
  unfold flt
  rw [if_neg (fun h => c.elim h.1 h.2), if_pos ⟨c2, c3⟩]
theorem flt_0 {due sl size so : Int32} (c : size - due ≤ due * sl / 100 ∨ so = 2) (c2 : -(size - due) ≤ due * sl / 100 ∨ so = 1) : flt due sl size so = 0 := by
  unfold flt
  rw [if_neg (fun h => c.elim h.1 h.2), if_neg (fun h => c2.elim h.1 h.2)]

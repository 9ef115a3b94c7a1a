/-! section 4: the book -/
def pvO (x : Nat → Int32) (k : Nat) : Option Nat → Bool
  | none => true
  | some b => decide (x b ≤ x k)
def pO (fg dy tl : Nat → Int32) (f d as : Int32) : Nat → Option Nat
  | 0 => none
  | k + 1 => if (tl k ≤ as ∧ fg k = f ∧ dy k ≤ d) ∧ pvO dy k (pO fg dy tl f d as k) = true then some k else pO fg dy tl f d as k
theorem pO_lt {fg dy tl : Nat → Int32} {f d as : Int32} : ∀ {n b : Nat}, pO fg dy tl f d as n = some b → b < n
  | 0, b, h => by simp [pO] at h
  | n + 1, b, h => by
    unfold pO at h
    by_cases c : (tl n ≤ as ∧ fg n = f ∧ dy n ≤ d) ∧ pvO dy n (pO fg dy tl f d as n) = true
    · rw [if_pos c] at h
      cases h
      omega
    · rw [if_neg c] at h
      have := pO_lt h
      omega
def tB (fg dy : Nat → Int32) (f d : Int32) : Nat → Option Nat
  | 0 => none
  | k + 1 => if (fg k = f ∧ dy k ≤ d) ∧ pvO dy k (tB fg dy f d k) = true then some k else tB fg dy f d k
theorem tB_lt {fg dy : Nat → Int32} {f d : Int32} : ∀ {n b : Nat}, tB fg dy f d n = some b → b < n
  | 0, b, h => by simp [tB] at h
  | n + 1, b, h => by
    unfold tB at h
    by_cases c : (fg n = f ∧ dy n ≤ d) ∧ pvO dy n (tB fg dy f d n) = true
    · rw [if_pos c] at h
      cases h
      omega
    · rw [if_neg c] at h
      have := tB_lt h
      omega
def neO (pl : Nat → Int32) (k : Nat) : Option Nat → Bool
  | none => true
  | some b => decide (¬ pl k = pl b)
def tC (fg dy pl : Nat → Int32) (f d : Int32) : Nat → Int32
  | 0 => 0
  | k + 1 => if ((fg k = f ∧ dy k ≤ d) ∧ pvO dy k (tB fg dy f d k) = true) ∧ neO pl k (tB fg dy f d k) = true then tC fg dy pl f d k + 1 else tC fg dy pl f d k
def bA (nn : Nat) (fg dy tl pl : Nat → Int32) (q d as : Int32) : Nat → Int32
  | 0 => 0
  | k + 1 => if foO pl (-6) (pO fg dy tl (nI k) d as nn) = q then bA nn fg dy tl pl q d as k ||| (1 : Int32) <<< (nI k &&& 31) else bA nn fg dy tl pl q d as k
def rWhere (nf nn : Nat) (fg dy tl pl : Nat → Int32) (x d as : Int32) : Int32 := if inR x 0 (nI nf - 1) = true then (if inR d 0 3000 = true ∧ inR as 0 3000 = true then foO pl (-6) (pO fg dy tl x d as nn) else -102) else -101
def rAt (nf nn : Nat) (fg dy tl pl : Nat → Int32) (q d as : Int32) : Int32 := if inR q (-1) 99 = true ∧ inR d 0 3000 = true ∧ inR as 0 3000 = true then bA nn fg dy tl pl q d as nf else -2
def rTurns (nf nn : Nat) (fg dy pl : Nat → Int32) (x d : Int32) : Int32 := if inR x 0 (nI nf - 1) = true then (if inR d 0 3000 = true then tC fg dy pl x d nn else -2) else -1
def rFigure (nf : Nat) : Int32 := if nf = 12 then -4 else nI nf
def okNote (nf nn : Nat) (tl : Nat → Int32) (x d t q : Int32) : Bool := inR x 0 (nI nf - 1) && inR d 0 3000 && inR t 0 3000 && inR q (-1) 99 && decide (¬ nn = 60) && decide (d ≤ t) && decide (nn = 0 ∨ tl (nn - 1) ≤ t)
def rNote (nf nn : Nat) (tl : Nat → Int32) (x d t q : Int32) : Int32 :=
  if inR x 0 (nI nf - 1) = true then (if inR d 0 3000 = true ∧ inR t 0 3000 = true ∧ inR q (-1) 99 = true then (if nn = 60 then -4 else if d ≤ t ∧ (nn = 0 ∨ tl (nn - 1) ≤ t) then nI (nn + 1) else -5) else -2) else -1

/-! section 2: the walls -/
/-- the wall with the least look below 100, the first of several -/
def mF (L : Nat → Int32) : Nat → Option Nat
  | 0 => none
  | k + 1 => if foO L 100 (mF L k) ≤ L k then mF L k else some k
theorem mF_lt {L : Nat → Int32} : ∀ {n b : Nat}, mF L n = some b → b < n
  | 0, b, h => by simp [mF] at h
  | n + 1, b, h => by
    unfold mF at h
    by_cases c : foO L 100 (mF L n) ≤ L n
    · rw [if_pos c] at h
      have := mF_lt h
      omega
    · rw [if_neg c] at h
      cases h
      omega
/-- the hands paint: how many, the looks, the times, what was lacking at the end -/
def pG (hw : Nat → Int32) (nw : Nat) : Nat → Int32 → (Nat → Int32) → (Nat → Int32) → Nat → Nat × (Nat → Int32) × (Nat → Int32) × Option Int32
  | 0, _, L, T, p => (p, L, T, none)
  | f + 1, v, L, T, p => match mF L nw with
    | none => (p, L, T, none)
    | some b => if hw b ≤ v then pG hw nw f (v - hw b) (upd L b 100) (upd T b (T b + 1)) (p + 1) else (p, L, T, some (hw b - v))
theorem pG_none {hw : Nat → Int32} {nw f : Nat} {v : Int32} {L T : Nat → Int32} {p : Nat} (h : mF L nw = none) : pG hw nw f v L T p = (p, L, T, none) := by
  cases f with
  | zero => rfl
  | succ f => rw [pG, h]
theorem pG_go {hw : Nat → Int32} {nw f b : Nat} {v : Int32} {L T : Nat → Int32} {p : Nat} (h : mF L nw = some b) (c : hw b ≤ v) : pG hw nw (f + 1) v L T p = pG hw nw f (v - hw b) (upd L b 100) (upd T b (T b + 1)) (p + 1) := by
  rw [pG, h]
  exact if_pos c
theorem pG_stop {hw : Nat → Int32} {nw f b : Nat} {v : Int32} {L T : Nat → Int32} {p : Nat} (h : mF L nw = some b) (c : ¬ hw b ≤ v) : pG hw nw (f + 1) v L T p = (p, L, T, some (hw b - v)) := by
  rw [pG, h]
  exact if_neg c
def mnO (x : Int32) : Option Int32 → Int32
  | none => x
  | some y => if y < x then y else x
def fdv (x : Int32) : Int32 := if x ≤ 0 then 0 else x
/-- the looks fade -/
def fF (fa sd L : Nat → Int32) : Nat → Nat → Int32
  | 0 => L
  | k + 1 => upd (fF fa sd L k) k (fdv (fF fa sd L k k - fa (sd k).toNatClampNeg))
/-- what the hands do in a week -/
def wkQ (fz hw : Nat → Int32) (nw w : Nat) (h : Int32) (L T : Nat → Int32) : Nat × (Nat → Int32) × (Nat → Int32) × Option Int32 := if fz w = 0 then pG hw nw nw h L T 0 else (0, L, T, none)
/-- the least look so far, its week, its wall -/
def kL (L : Nat → Int32) (w : Int32) (q : Int32 × Int32 × Int32) : Nat → Int32 × Int32 × Int32
  | 0 => q
  | k + 1 => if (kL L w q k).1 ≤ L k then kL L w q k else (L k, w, nI k)
/-- a week in thought: looks, times, the least so far, what was lacking -/
def stT (fa fz sd hw : Nat → Int32) (nw w : Nat) (h : Int32) (q : (Nat → Int32) × (Nat → Int32) × (Int32 × Int32 × Int32) × Int32) : (Nat → Int32) × (Nat → Int32) × (Int32 × Int32 × Int32) × Int32 :=
  (fF fa sd (wkQ fz hw nw w h q.1 q.2.1).2.1 nw, (wkQ fz hw nw w h q.1 q.2.1).2.2.1, kL (fF fa sd (wkQ fz hw nw w h q.1 q.2.1).2.1 nw) (nI w) q.2.2.1 nw, mnO q.2.2.2 (wkQ fz hw nw w h q.1 q.2.1).2.2.2)
/-- so many weeks in thought, but for those behind one below a look -/
def fS (fa fz sd hw : Nat → Int32) (nw wk : Nat) (h look : Int32) (q : (Nat → Int32) × (Nat → Int32) × (Int32 × Int32 × Int32) × Int32) : Nat → (Nat → Int32) × (Nat → Int32) × (Int32 × Int32 × Int32) × Int32
  | 0 => q
  | i + 1 => if look ≤ (fS fa fz sd hw nw wk h look q i).2.2.1.1 then stT fa fz sd hw nw (wk + i) h (fS fa fz sd hw nw wk h look q i) else fS fa fz sd hw nw wk h look q i
theorem fS_stop {fa fz sd hw : Nat → Int32} {nw wk : Nat} {h look : Int32} {q : (Nat → Int32) × (Nat → Int32) × (Int32 × Int32 × Int32) × Int32} {i : Nat} (hq : ¬ look ≤ (fS fa fz sd hw nw wk h look q i).2.2.1.1) : ∀ j : Nat, fS fa fz sd hw nw wk h look q (i + j) = fS fa fz sd hw nw wk h look q i
  | 0 => rfl
  | j + 1 => by
    have ih := fS_stop hq j
    have e : fS fa fz sd hw nw wk h look q (i + (j + 1)) = if look ≤ (fS fa fz sd hw nw wk h look q (i + j)).2.2.1.1 then stT fa fz sd hw nw (wk + (i + j)) h (fS fa fz sd hw nw wk h look q (i + j)) else fS fa fz sd hw nw wk h look q (i + j) := rfl
    rw [e, if_neg (by rw [ih]; exact hq)]
    exact ih
/-- the beginning of the thought -/
def f0 (nw : Nat) (lo tl tt : Nat → Int32) (lw lx : Int32) : (Nat → Int32) × (Nat → Int32) × (Int32 × Int32 × Int32) × Int32 := (va_cpy lo tl 0 0 nw, tt, (101, lw, lx), 501)
theorem inR_nat1 {x lo hi : Int32} {a b : Nat} (h : inR x lo hi = true) (hl : lo.toInt = a) (hh : hi.toInt = b) : ∃ j : Nat, a ≤ j ∧ j ≤ b ∧ x = nI j := by
  obtain ⟨h1, h2⟩ := inR_iff.mp h
  rw [Int32.le_iff_toInt_le] at h1 h2
  have hx : ¬ x < 0 := by
    rw [Int32.lt_iff_toInt_lt, Int32.toInt_zero]
    omega
  obtain ⟨j, hj, rfl⟩ := nI_of hx
  rw [nI_toInt hj] at h1 h2
  exact ⟨j, by omega, by omega, rfl⟩
def rFore (wk nw : Nat) (hd : Int32) (fa fz sd hw lo tl tt : Nat → Int32) (lw lx x q : Int32) : Int32 :=
  if inR x 1 52 = true ∧ inR q 0 2 = true then (if wk + x.toNatClampNeg ≤ 200 then (if nw = 0 then -6 else
    if q = 0 then (fS fa fz sd hw nw wk hd 0 (f0 nw lo tl tt lw lx) x.toNatClampNeg).2.2.1.1 else if q = 1 then (fS fa fz sd hw nw wk hd 0 (f0 nw lo tl tt lw lx) x.toNatClampNeg).2.2.1.2.1 else (fS fa fz sd hw nw wk hd 0 (f0 nw lo tl tt lw lx) x.toNatClampNeg).2.2.1.2.2) else -3) else -2

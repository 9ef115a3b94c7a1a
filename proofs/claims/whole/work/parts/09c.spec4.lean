/-! section 3: the trains -/
theorem nar01 {x : Int32} (h : x = 0 ∨ x = 1) : vp_nar .boolean x = x := by
  rcases h with rfl | rfl <;> rfl
def okT (ng nT : Nat) (rl tR pc : Nat → Int32) : Prop := ∀ t, t < nT → ∃ r n q : Nat, r < ng ∧ tR t = nI r ∧ 2 ≤ n ∧ n ≤ 12 ∧ rl r = nI n ∧ q < n ∧ pc t = nI q
def okL (rl : Nat → Int32) : Prop := ∀ r, r < 3 → ∃ n : Nat, n ≤ 12 ∧ rl r = nI n
def bkO (B : Nat → Nat → Int32) (tR pc : Nat → Int32) (t : Nat) : Int32 := B (tR t).toNatClampNeg (pc t).toNatClampNeg
def nxP (rl tR pc : Nat → Int32) (t : Nat) : Int32 := if rl (tR t).toNatClampNeg ≤ pc t + 1 then 0 else pc t + 1
def bkN (B : Nat → Nat → Int32) (rl tR pc : Nat → Int32) (t : Nat) : Int32 := B (tR t).toNatClampNeg (nxP rl tR pc t).toNatClampNeg
/-- the first of the trains with a block -/
def tI (f : Nat → Int32) (b : Int32) : Nat → Option Nat
  | 0 => none
  | n + 1 => match tI f b n with
    | some t => some t
    | none => if f n = b then some n else none
theorem tI_lt {f : Nat → Int32} {b : Int32} : ∀ {n t : Nat}, tI f b n = some t → t < n
  | 0, t, h => by simp [tI] at h
  | n + 1, t, h => by
    unfold tI at h
    cases e : tI f b n with
    | some t' =>
      rw [e] at h
      cases h
      have := tI_lt e
      omega
    | none =>
      rw [e] at h
      by_cases c : f n = b
      · simp [c] at h; omega
      · simp [c] at h
theorem tI_some {f : Nat → Int32} {b : Int32} {k t : Nat} (h : tI f b k = some t) : ∀ j : Nat, tI f b (k + j) = some t
  | 0 => h
  | j + 1 => by
    show tI f b (k + j + 1) = _
    rw [tI, tI_some h j]
theorem tI_hit {f : Nat → Int32} {b : Int32} {k n : Nat} (h : tI f b k = none) (c : f k = b) (hk : k < n) : tI f b n = some k := by
  have h1 : tI f b (k + 1) = some k := by rw [tI, h]; exact if_pos c
  have := tI_some h1 (n - (k + 1))
  rw [show k + 1 + (n - (k + 1)) = n by omega] at this
  exact this
def aH (nT : Nat) (B : Nat → Nat → Int32) (rl tR pc : Nat → Int32) (t : Nat) : Option Nat := tI (bkO B tR pc) (bkN B rl tR pc t) nT
/-- a minute of a train that isn't stuck: whether it goes on; places, minutes, waited, gone -/
def gO (nT : Nat) (B : Nat → Nat → Int32) (rl tR mn : Nat → Int32) (t : Nat) (s : (Nat → Int32) × (Nat → Int32) × (Nat → Int32) × (Nat → Int32)) : Int32 × (Nat → Int32) × (Nat → Int32) × (Nat → Int32) × (Nat → Int32) :=
  if mn t ≤ s.2.1 t + 1 then
    (if aH nT B rl tR s.1 t = none then (1, upd s.1 t (nxP rl tR s.1 t), upd (upd s.2.1 t (s.2.1 t + 1)) t 0, s.2.2.1, upd s.2.2.2 t (s.2.2.2 t + 1))
    else (0, s.1, upd s.2.1 t (s.2.1 t + 1), upd s.2.2.1 t (s.2.2.1 t + 1), s.2.2.2))
  else (0, s.1, upd s.2.1 t (s.2.1 t + 1), s.2.2.1, s.2.2.2)
theorem nxP_in {rl tR pc : Nat → Int32} {t r n q : Nat} (hr3 : r < 3) (hr : tR t = nI r) (hn12 : n ≤ 12) (hn : rl r = nI n) (hqn : q < n) (hq : pc t = nI q) : ∃ j : Nat, j < n ∧ nxP rl tR pc t = nI j := by
  have e : nxP rl tR pc t = if nI n ≤ nI (q + 1) then 0 else nI (q + 1) := by
    unfold nxP
    rw [hr, hq, nI_1, nI_clamp (by omega), hn]
  by_cases c : n ≤ q + 1
  · exact ⟨0, by omega, by rw [e, if_pos ((nI_leI (by omega) (by omega)).mpr c)]; rfl⟩
  · exact ⟨q + 1, by omega, by rw [e, if_neg (fun h => c ((nI_leI (by omega) (by omega)).mp h))]⟩
theorem gO_ok {ng nT : Nat} {B : Nat → Nat → Int32} {rl tR mn : Nat → Int32} {t : Nat} {s : (Nat → Int32) × (Nat → Int32) × (Nat → Int32) × (Nat → Int32)} (hg : ng ≤ 3) (h : okT ng nT rl tR s.1) (ht : t < nT) : okT ng nT rl tR (gO nT B rl tR mn t s).2.1 := by
  unfold gO
  by_cases c : mn t ≤ s.2.1 t + 1
  · rw [if_pos c]
    by_cases c2 : aH nT B rl tR s.1 t = none
    · rw [if_pos c2]
      intro j hj
      by_cases e : j = t
      · subst e
        obtain ⟨r, n, q, h1, h2, h3, h4, h5, h6, h7⟩ := h j hj
        obtain ⟨q2, h8, h9⟩ := nxP_in (by omega) h2 h4 h5 h6 h7
        exact ⟨r, n, q2, h1, h2, h3, h4, h5, h8, by show upd s.1 j _ j = _; rw [pk_us]; exact h9⟩
      · obtain ⟨r, n, q, h1, h2, h3, h4, h5, h6, h7⟩ := h j hj
        exact ⟨r, n, q, h1, h2, h3, h4, h5, h6, by show upd s.1 t _ j = _; rw [pk_un e]; exact h7⟩
    · rw [if_neg c2]
      exact h
  · rw [if_neg c]
    exact h
/-- trains by numbers: how often one went on so far -/
def gT (nT : Nat) (B : Nat → Nat → Int32) (rl tR mn su : Nat → Int32) (q : Int32 × (Nat → Int32) × (Nat → Int32) × (Nat → Int32) × (Nat → Int32)) : Nat → Int32 × (Nat → Int32) × (Nat → Int32) × (Nat → Int32) × (Nat → Int32)
  | 0 => q
  | k + 1 => if su k = 0 then ((gT nT B rl tR mn su q k).1 + (gO nT B rl tR mn k (gT nT B rl tR mn su q k).2).1, (gO nT B rl tR mn k (gT nT B rl tR mn su q k).2).2) else ((gT nT B rl tR mn su q k).1 + 0, (gT nT B rl tR mn su q k).2)
/-- so many minutes -/
def gM (nT : Nat) (B : Nat → Nat → Int32) (rl tR mn su : Nat → Int32) (q : Int32 × (Nat → Int32) × (Nat → Int32) × (Nat → Int32) × (Nat → Int32)) : Nat → Int32 × (Nat → Int32) × (Nat → Int32) × (Nat → Int32) × (Nat → Int32)
  | 0 => q
  | i + 1 => gT nT B rl tR mn su (gM nT B rl tR mn su q i) nT
def rAbout (nT : Nat) (B : Nat → Nat → Int32) (rl tR pc mb mw mg su : Nat → Int32) (x w : Int32) : Int32 :=
  if inR x 0 (nI nT - 1) = true then (if w = 0 then tR x.toNatClampNeg else if w = 1 then pc x.toNatClampNeg else if w = 2 then bkO B tR pc x.toNatClampNeg else if w = 3 then mb x.toNatClampNeg else if w = 4 then su x.toNatClampNeg else if w = 5 then mw x.toNatClampNeg else if w = 6 then mg x.toNatClampNeg else if w = 7 then oI (aH nT B rl tR pc x.toNatClampNeg) else -2) else -1
/-- neither stuck nor behind one that is told as standing -/
def mgo (su : Int32) (ah : Option Nat) (s : Int32) : Bool := decide (su = 0) && (match ah with | none => true | some a => decide (s >>> (nI a &&& 31) &&& 1 = 0))
def sI (f : Nat → Int32 → Bool) (s : Int32) : Nat → Int32
  | 0 => s
  | k + 1 => if f k (sI f s k) = true then sI f s k &&& ((1 : Int32) <<< (nI k &&& 31) ^^^ (-1)) else sI f s k
def sO (f : Nat → Int32 → Bool) (nT : Nat) : Nat → Int32
  | 0 => (1 : Int32) <<< (nI nT &&& 31) - 1
  | r + 1 => sI f (sO f nT r) nT
def rRing (ng : Nat) : Int32 := if ng = 3 then -4 else nI ng
def anyL (n : Nat) (f : Nat → Int32) (x : Int32) : Bool := (List.range n).any (fun t => decide (f t = x))
theorem anyL_t {n : Nat} {f : Nat → Int32} {x : Int32} {k : Nat} (hk : k < n) (c : f k = x) : anyL n f x = true := List.any_eq_true.mpr ⟨k, List.mem_range.mpr hk, by simp [c]⟩
theorem anyL_f {n : Nat} {f : Nat → Int32} {x : Int32} (h : ∀ j, j < n → ¬ f j = x) : ¬ anyL n f x = true := fun q => by
  obtain ⟨k, hk, c⟩ := List.any_eq_true.mp q
  exact h k (List.mem_range.mp hk) (of_decide_eq_true c)
def okBlock (ng nT : Nat) (rl tR : Nat → Int32) (B : Nat → Nat → Int32) (x b : Int32) : Bool := inR x 0 (nI ng - 1) && inR b 0 29 && !anyL nT tR x && decide (¬ rl x.toNatClampNeg = 12) && !anyL (rl x.toNatClampNeg).toNatClampNeg (B x.toNatClampNeg) b
def rBlock (ng nT : Nat) (rl tR : Nat → Int32) (B : Nat → Nat → Int32) (x b : Int32) : Int32 :=
  if inR x 0 (nI ng - 1) = true then (if inR b 0 29 = true then (if anyL nT tR x = true then -3 else if rl x.toNatClampNeg = 12 then -4 else if anyL (rl x.toNatClampNeg).toNatClampNeg (B x.toNatClampNeg) b = true then -5 else rl x.toNatClampNeg + 1) else -2) else -1
/-- the place is one of the ring's, or the ring is too short to say -/
def okPl (n : Nat) (p m : Int32) : Bool := (if 2 ≤ n then inR p 0 (nI n - 1) else inR p 0 11) && inR m 1 9
def okTrain (ng nT : Nat) (rl tR pc : Nat → Int32) (B : Nat → Nat → Int32) (x p m : Int32) : Bool := inR x 0 (nI ng - 1) && okPl (rl x.toNatClampNeg).toNatClampNeg p m && decide (2 ≤ (rl x.toNatClampNeg).toNatClampNeg) && decide (¬ nT = 4) && (tI (bkO B tR pc) (B x.toNatClampNeg p.toNatClampNeg) nT).isNone
def rTrain (ng nT : Nat) (rl tR pc : Nat → Int32) (B : Nat → Nat → Int32) (x p m : Int32) : Int32 :=
  if inR x 0 (nI ng - 1) = true then (if okPl (rl x.toNatClampNeg).toNatClampNeg p m = true then (if 2 ≤ (rl x.toNatClampNeg).toNatClampNeg then (if nT = 4 then -4 else if (tI (bkO B tR pc) (B x.toNatClampNeg p.toNatClampNeg) nT).isNone = true then nI nT else -5) else -3) else -2) else -1
theorem aH_lt {nT : Nat} {B : Nat → Nat → Int32} {rl tR pc : Nat → Int32} {t b : Nat} (h : aH nT B rl tR pc t = some b) : b < nT := tI_lt h
theorem gO_01 {nT : Nat} {B : Nat → Nat → Int32} {rl tR mn : Nat → Int32} {t : Nat} {s : (Nat → Int32) × (Nat → Int32) × (Nat → Int32) × (Nat → Int32)} : (gO nT B rl tR mn t s).1 = 0 ∨ (gO nT B rl tR mn t s).1 = 1 := by
  unfold gO
  by_cases c : mn t ≤ s.2.1 t + 1
  · rw [if_pos c]
    by_cases c2 : aH nT B rl tR s.1 t = none
    · rw [if_pos c2]; exact Or.inr rfl
    · rw [if_neg c2]; exact Or.inl rfl
  · rw [if_neg c]; exact Or.inl rfl

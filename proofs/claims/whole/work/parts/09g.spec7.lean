/-! the reference, section 3; sets as bits -/
def BM (mbk : Nat → Int32) : Nat → Nat → Int32 := fun i j => mbk (12 * i + j)
theorem nxP_mod {rl tR pc : Nat → Int32} {t r n q : Nat} (hr3 : r < 3) (hr : tR t = nI r) (hn12 : n ≤ 12) (hn : rl r = nI n) (hqn : q < n) (hq : pc t = nI q) : nxP rl tR pc t = nI ((q + 1) % n) := by
  have e : nxP rl tR pc t = if nI n ≤ nI (q + 1) then 0 else nI (q + 1) := by
    unfold nxP
    rw [hr, hq, nI_1, nI_clamp (by omega), hn]
  by_cases c : n ≤ q + 1
  · rw [e, if_pos ((nI_leI (by omega) (by omega)).mpr c), show q + 1 = n by omega, Nat.mod_self]
    rfl
  · rw [e, if_neg (fun h => c ((nI_leI (by omega) (by omega)).mp h)), Nat.mod_eq_of_lt (by omega)]
theorem okPl_f1 {n : Nat} {p m : Int32} (h : ¬ inR p 0 11 = true) (hn : n ≤ 12) : okPl n p m = false := by
  unfold okPl
  by_cases c : 2 ≤ n
  · rw [if_pos c]
    have : ¬ inR p 0 (nI n - 1) = true := fun q => by
      obtain ⟨j, hj, rfl⟩ := inR_lt (by omega) q
      exact h (inR_t (nI_pos' (by omega)) ((nI_leI (b := 11) (by omega) (by omega)).mpr (by omega)))
    simp [this]
  · rw [if_neg c]
    simp [h]
theorem okPl_f2 {n q : Nat} {m : Int32} (h : 2 ≤ n) (hn : n ≤ 12) (hq : n ≤ q) (hq2 : q ≤ 11) : okPl n (nI q) m = false := by
  unfold okPl
  rw [if_pos h]
  have : ¬ inR (nI q) 0 (nI n - 1) = true := fun z => by
    obtain ⟨j, hj, e⟩ := inR_lt (by omega) z
    have := (nI_eq (a := q) (b := j) (by omega) (by omega)).mp e
    omega
  simp [this]
theorem okPl_f3 {n : Nat} {p m : Int32} (h : ¬ inR m 1 9 = true) : okPl n p m = false := by
  unfold okPl
  simp [h]
theorem okPl_t {n q : Nat} {m : Int32} (h : ¬ 2 ≤ n ∨ q < n) (hn : n ≤ 12) (hq : q ≤ 11) (hm : inR m 1 9 = true) : okPl n (nI q) m = true := by
  unfold okPl
  by_cases c : 2 ≤ n
  · rw [if_pos c, inR_ltI (h.resolve_left (fun q => q c)) (by omega), hm]
    rfl
  · rw [if_neg c, hm, show inR (nI q) 0 11 = true from inR_t (nI_pos' (by omega)) ((nI_leI (b := 11) (by omega) (by omega)).mpr hq)]
    rfl
def zF (M : Nat → Int32) (b : Nat) : Nat → Nat → Int32
  | 0 => M
  | j + 1 => upd (zF M b j) (b + (j + 3)) 0
def pk4 (M : Nat → Int32) : (Nat → Int32) × (Nat → Int32) × (Nat → Int32) × (Nat → Int32) := (col 7 1 M, col 7 3 M, col 7 5 M, col 7 6 M)
def eqM (mtr M : Nat → Int32) : Prop := col 7 0 M = col 7 0 mtr ∧ col 7 2 M = col 7 2 mtr ∧ col 7 4 M = col 7 4 mtr
theorem cu {M : Nat → Int32} {k j i : Nat} {x : Int32} (hi : i < 7) (hj : j < 7) : col 7 i (upd M (7 * k + j) x) = if i = j then upd (col 7 i M) k x else col 7 i M := col_upd hi hj
theorem okT_ne {ng nT : Nat} {mbl M : Nat → Int32} {k j : Nat} {x : Int32} (h0 : ¬ 0 = j) (h1 : ¬ 1 = j) (h7 : j < 7) (h : okT ng nT mbl (col 7 0 M) (col 7 1 M)) : okT ng nT mbl (col 7 0 (upd M (7 * k + j) x)) (col 7 1 (upd M (7 * k + j) x)) := by
  rw [cu (by omega) h7, cu (by omega) h7, if_neg h0, if_neg h1]
  exact h
theorem eqM_ne {mtr M : Nat → Int32} {k j : Nat} {x : Int32} (h0 : ¬ 0 = j) (h2 : ¬ 2 = j) (h4 : ¬ 4 = j) (h7 : j < 7) (h : eqM mtr M) : eqM mtr (upd M (7 * k + j) x) := by
  unfold eqM
  rw [cu (by omega) h7, cu (by omega) h7, cu (by omega) h7, if_neg h0, if_neg h2, if_neg h4]
  exact h
section RUN
variable {nT : Nat} {B : Nat → Nat → Int32} {mbl mtr M : Nat → Int32} {q0 : Int32 × (Nat → Int32) × (Nat → Int32) × (Nat → Int32) × (Nat → Int32)} {k : Nat} {v : Int32}
theorem gs_stuck (h : (v, pk4 M) = gT nT B mbl (col 7 0 mtr) (col 7 2 mtr) (col 7 4 mtr) q0 k) (hM : eqM mtr M) (c : ¬ M (7 * k + 4) = 0) : (v, pk4 M) = gT nT B mbl (col 7 0 mtr) (col 7 2 mtr) (col 7 4 mtr) q0 (k + 1) := by
  rw [gT, ← h]
  refine Eq.trans ?_ (if_neg (by rw [← hM.2.2]; exact c)).symm
  show (v, pk4 M) = (v + 0, pk4 M)
  rw [Int32.add_zero]
theorem gs_of (h : (v, pk4 M) = gT nT B mbl (col 7 0 mtr) (col 7 2 mtr) (col 7 4 mtr) q0 k) (hM : eqM mtr M) (c : M (7 * k + 4) = 0) {w : Int32} {M' : Nat → Int32} (e : (w, pk4 M') = gO nT B mbl (col 7 0 mtr) (col 7 2 mtr) k (pk4 M)) : (v + w, pk4 M') = gT nT B mbl (col 7 0 mtr) (col 7 2 mtr) (col 7 4 mtr) q0 (k + 1) := by
  rw [gT, ← h]
  refine Eq.trans ?_ (if_pos (by rw [← hM.2.2]; exact c)).symm
  show (v + w, pk4 M') = (v + (gO nT B mbl (col 7 0 mtr) (col 7 2 mtr) k (pk4 M)).1, (gO nT B mbl (col 7 0 mtr) (col 7 2 mtr) k (pk4 M)).2)
  rw [← e]
theorem pk4_3 {M : Nat → Int32} {k : Nat} {x : Int32} : pk4 (upd M (7 * k + 3) x) = (col 7 1 M, upd (col 7 3 M) k x, col 7 5 M, col 7 6 M) := by
  unfold pk4
  rw [cu (by omega) (by omega), cu (by omega) (by omega), cu (by omega) (by omega), cu (by omega) (by omega)]
  rfl
theorem pk4_5 {M : Nat → Int32} {k : Nat} {x : Int32} : pk4 (upd M (7 * k + 5) x) = (col 7 1 M, col 7 3 M, upd (col 7 5 M) k x, col 7 6 M) := by
  unfold pk4
  rw [cu (by omega) (by omega), cu (by omega) (by omega), cu (by omega) (by omega), cu (by omega) (by omega)]
  rfl
theorem pk4_6 {M : Nat → Int32} {k : Nat} {x : Int32} : pk4 (upd M (7 * k + 6) x) = (col 7 1 M, col 7 3 M, col 7 5 M, upd (col 7 6 M) k x) := by
  unfold pk4
  rw [cu (by omega) (by omega), cu (by omega) (by omega), cu (by omega) (by omega), cu (by omega) (by omega)]
  rfl
theorem pk4_1 {M : Nat → Int32} {k : Nat} {x : Int32} : pk4 (upd M (7 * k + 1) x) = (upd (col 7 1 M) k x, col 7 3 M, col 7 5 M, col 7 6 M) := by
  unfold pk4
  rw [cu (by omega) (by omega), cu (by omega) (by omega), cu (by omega) (by omega), cu (by omega) (by omega)]
  rfl
theorem gs_not (h : (v, pk4 M) = gT nT B mbl (col 7 0 mtr) (col 7 2 mtr) (col 7 4 mtr) q0 k) (hM : eqM mtr M) (c : M (7 * k + 4) = 0) (c2 : ¬ M (7 * k + 2) ≤ M (7 * k + 3) + 1) : (v, pk4 (upd M (7 * k + 3) (M (7 * k + 3) + 1))) = gT nT B mbl (col 7 0 mtr) (col 7 2 mtr) (col 7 4 mtr) q0 (k + 1) := by
  have := gs_of h hM c (w := 0) (M' := upd M (7 * k + 3) (M (7 * k + 3) + 1)) (by
    unfold gO
    rw [if_neg (by rw [← hM.2.1]; exact c2), pk4_3]
    rfl)
  rw [Int32.add_zero] at this
  exact this
theorem gs_wait (h : (v, pk4 M) = gT nT B mbl (col 7 0 mtr) (col 7 2 mtr) (col 7 4 mtr) q0 k) (hM : eqM mtr M) (c : M (7 * k + 4) = 0) (c2 : M (7 * k + 2) ≤ M (7 * k + 3) + 1) (c3 : ¬ aH nT B mbl (col 7 0 mtr) (col 7 1 M) k = none) : (v, pk4 (upd (upd M (7 * k + 3) (M (7 * k + 3) + 1)) (7 * k + 5) (M (7 * k + 5) + 1))) = gT nT B mbl (col 7 0 mtr) (col 7 2 mtr) (col 7 4 mtr) q0 (k + 1) := by
  have := gs_of h hM c (w := 0) (M' := upd (upd M (7 * k + 3) (M (7 * k + 3) + 1)) (7 * k + 5) (M (7 * k + 5) + 1)) (by
    unfold gO
    rw [if_pos (by rw [← hM.2.1]; exact c2), if_neg (by exact c3), pk4_5, cu (by omega) (by omega), cu (by omega) (by omega), cu (by omega) (by omega), cu (by omega) (by omega)]
    rfl)
  rw [Int32.add_zero] at this
  exact this
theorem gs_go (h : (v, pk4 M) = gT nT B mbl (col 7 0 mtr) (col 7 2 mtr) (col 7 4 mtr) q0 k) (hM : eqM mtr M) (c : M (7 * k + 4) = 0) (c2 : M (7 * k + 2) ≤ M (7 * k + 3) + 1) (c3 : aH nT B mbl (col 7 0 mtr) (col 7 1 M) k = none) {y : Int32} (hy : nxP mbl (col 7 0 mtr) (col 7 1 M) k = y) : (v + 1, pk4 (upd (upd (upd (upd M (7 * k + 3) (M (7 * k + 3) + 1)) (7 * k + 1) y) (7 * k + 3) 0) (7 * k + 6) (M (7 * k + 6) + 1))) = gT nT B mbl (col 7 0 mtr) (col 7 2 mtr) (col 7 4 mtr) q0 (k + 1) := by
  refine gs_of h hM c ?_
  unfold gO
  rw [if_pos (by rw [← hM.2.1]; exact c2), if_pos (by exact c3)]
  rw [pk4_6, cu (by omega) (by omega), cu (by omega) (by omega), cu (by omega) (by omega), cu (by omega) (by omega)]
  simp only [if_neg (show ¬ 1 = 3 by decide), if_neg (show ¬ 5 = 3 by decide), if_neg (show ¬ 6 = 3 by decide), if_true]
  rw [cu (by omega) (by omega), cu (by omega) (by omega), cu (by omega) (by omega), cu (by omega) (by omega)]
  simp only [if_neg (show ¬ 3 = 1 by decide), if_neg (show ¬ 5 = 1 by decide), if_neg (show ¬ 6 = 1 by decide), if_true]
  rw [cu (by omega) (by omega), cu (by omega) (by omega), cu (by omega) (by omega), cu (by omega) (by omega)]
  simp only [if_neg (show ¬ 1 = 3 by decide), if_neg (show ¬ 5 = 3 by decide), if_neg (show ¬ 6 = 3 by decide), if_true]
  rw [← hy]
  rfl
end RUN
/-- a set of trains without one of them -/
def clr (s t : Nat) : Nat := if s / 2 ^ t % 2 = 1 then s - 2 ^ t else s
theorem bit_all : ∀ s, s < 16 → ∀ t, t < 4 → (nI s &&& ((1 : Int32) <<< (nI t &&& 31) ^^^ (-1)) = nI (clr s t) ∧ nI s >>> (nI t &&& 31) &&& 1 = (if s / 2 ^ t % 2 = 1 then 1 else 0)) := by decide +kernel
theorem bit_ini : ∀ n, n < 5 → (1 : Int32) <<< (nI n &&& 31) - 1 = nI (2 ^ n - 1) := by decide +kernel
def pc4 (s : Nat) : Nat := s % 2 + s / 2 % 2 + s / 4 % 2 + s / 8 % 2
theorem clr_all : ∀ s, s < 16 → ∀ t, t < 4 → (clr s t < 16 ∧ (s / 2 ^ t % 2 = 1 → clr s t < s ∧ pc4 (clr s t) + 1 = pc4 s) ∧ (¬ s / 2 ^ t % 2 = 1 → clr s t = s)) := by decide +kernel
theorem pc4_0 : ∀ s, s < 16 → pc4 s = 0 → s = 0 := by decide +kernel
theorem pc4_i : ∀ n, n < 5 → pc4 (2 ^ n - 1) = n ∧ 2 ^ n - 1 < 16 := by decide +kernel
/-- a sweep over the trains -/
theorem sI_nat {f : Nat → Int32 → Bool} {s : Nat} (hs : s < 16) : ∀ k : Nat, k ≤ 4 → ∃ s', s' < 16 ∧ sI f (nI s) k = nI s' ∧ (s' = s ∨ (s' < s ∧ pc4 s' + 1 ≤ pc4 s))
  | 0, _ => ⟨s, hs, rfl, Or.inl rfl⟩
  | k + 1, hk => by
    obtain ⟨s1, h1, h2, h3⟩ := sI_nat (f := f) hs k (by omega)
    rw [sI, h2]
    by_cases c : f k (nI s1) = true
    · rw [if_pos c, (bit_all s1 h1 k (by omega)).1]
      obtain ⟨g1, g2, g3⟩ := clr_all s1 h1 k (by omega)
      refine ⟨clr s1 k, g1, rfl, ?_⟩
      by_cases e : s1 / 2 ^ k % 2 = 1
      · obtain ⟨g4, g5⟩ := g2 e
        refine Or.inr ⟨by omega, ?_⟩
        rcases h3 with h3 | h3
        · rw [← h3]; omega
        · omega
      · rw [g3 e]; exact h3
    · rw [if_neg c]; exact ⟨s1, h1, rfl, h3⟩
theorem sO_nat {f : Nat → Int32 → Bool} {nT : Nat} (hn : nT ≤ 4) : ∀ r : Nat, ∃ s, s < 16 ∧ sO f nT r = nI s ∧ (pc4 s + r ≤ nT ∨ sI f (nI s) nT = nI s)
  | 0 => ⟨2 ^ nT - 1, (pc4_i nT (by omega)).2, bit_ini nT (by omega), Or.inl (by rw [(pc4_i nT (by omega)).1]; omega)⟩
  | r + 1 => by
    obtain ⟨s, h1, h2, h3⟩ := sO_nat (f := f) hn r
    obtain ⟨s', g1, g2, g3⟩ := sI_nat (f := f) h1 nT hn
    refine ⟨s', g1, by rw [sO, h2, g2], ?_⟩
    rcases g3 with g3 | g3
    · rw [g3] at g2 ⊢
      exact Or.inr g2
    · rcases h3 with h3 | h3
      · exact Or.inl (by omega)
      · rw [h3] at g2
        have := (nI_eq (a := s) (b := s') (by omega) (by omega)).mp g2
        omega
theorem sO_fix {f : Nat → Int32 → Bool} {nT r : Nat} (h : sI f (sO f nT r) nT = sO f nT r) : ∀ j : Nat, sO f nT (r + j) = sO f nT r
  | 0 => rfl
  | j + 1 => by
    show sI f (sO f nT (r + j)) nT = _
    rw [sO_fix h j, h]
theorem sO_end {f : Nat → Int32 → Bool} {nT r : Nat} (hn : nT ≤ 4) (h : sI f (sO f nT r) nT = sO f nT r) : sO f nT r = sO f nT nT := by
  have hfix : sI f (sO f nT nT) nT = sO f nT nT := by
    obtain ⟨s, h1, h2, h3⟩ := sO_nat (f := f) hn nT
    rcases h3 with h3 | h3
    · have := pc4_0 s h1 (by omega)
      rw [h2, this]
      obtain ⟨s', g1, g2, g3⟩ := sI_nat (f := f) (s := 0) (by omega) nT hn
      rw [g2]
      rcases g3 with g3 | g3
      · rw [g3]
      · omega
    · rw [h2]; exact h3
  rcases Nat.le_total r nT with q | q
  · have := sO_fix h (nT - r)
    rw [show r + (nT - r) = nT by omega] at this
    exact this.symm
  · have := sO_fix hfix (r - nT)
    rw [show nT + (r - nT) = r by omega] at this
    exact this
/-- the set behind one more train, as the reference has it -/
theorem sI_step {f : Nat → Int32 → Bool} {z s k : Nat} (h : nI s = sI f (nI z) k) (hs : s < 16) (hk : k < 4) :
    (f k (nI s) = true → nI s >>> (nI k &&& 31) &&& 1 = 1 → nI (clr s k) = sI f (nI z) (k + 1) ∧ clr s k < s ∧ nI s &&& ((1 : Int32) <<< (nI k &&& 31) ^^^ (-1)) = nI (clr s k)) ∧ (¬ (f k (nI s) = true ∧ nI s >>> (nI k &&& 31) &&& 1 = 1) → nI s = sI f (nI z) (k + 1)) := by
  obtain ⟨b1, b2⟩ := bit_all s hs k hk
  obtain ⟨g1, g2, g3⟩ := clr_all s hs k hk
  refine ⟨fun c c2 => ?_, fun c => ?_⟩
  · have e : s / 2 ^ k % 2 = 1 := by
      rcases Decidable.em (s / 2 ^ k % 2 = 1) with q | q
      · exact q
      · rw [b2, if_neg q] at c2
        exact absurd c2 (by decide)
    refine ⟨?_, (g2 e).1, b1⟩
    rw [sI, ← h, if_pos c, b1]
  · rw [sI, ← h]
    by_cases q : f k (nI s) = true
    · rw [if_pos q, b1]
      have e : ¬ s / 2 ^ k % 2 = 1 := fun e => c ⟨q, by rw [b2, if_pos e]⟩
      rw [g3 e]
    · rw [if_neg q]
theorem bit_01 {s a : Nat} (hs : s < 16) (ha : a < 4) : nI s >>> (nI a &&& 31) &&& 1 = 0 ∨ nI s >>> (nI a &&& 31) &&& 1 = 1 := by
  rw [(bit_all s hs a ha).2]
  by_cases c : s / 2 ^ a % 2 = 1
  · rw [if_pos c]; exact Or.inr rfl
  · rw [if_neg c]; exact Or.inl rfl

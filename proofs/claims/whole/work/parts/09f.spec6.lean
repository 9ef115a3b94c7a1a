/-! the reference, sections 2 to 4 -/
def mC (fg dy tl pl : Nat → Int32) (f d : Int32) : Nat → Int32
  | 0 => 0
  | k + 1 => if foO pl (-6) (pO fg dy tl f d 3000 k) = foO pl (-6) (pO fg dy tl f d 3000 (k + 1)) then mC fg dy tl pl f d k + 0 else mC fg dy tl pl f d k + 1
def rTurnsM (nf nn : Nat) (mno : Nat → Int32) (x d : Int32) : Int32 := if inR x 0 (nI nf - 1) = true then (if inR d 0 3000 = true then mC (col 4 0 mno) (col 4 1 mno) (col 4 2 mno) (col 4 3 mno) x d nn else -2) else -1
def plM (mno : Nat → Int32) (f d as : Int32) (n : Nat) : Int32 := foO (col 4 3 mno) (-6) (pO (col 4 0 mno) (col 4 1 mno) (col 4 2 mno) f d as n)
def rTold (nr nt nw wk : Nat) (hd : Int32) (ng nT : Nat) (mi : Int32) (nf nn : Nat) (w : Int32) : Int32 :=
  if w = 0 then nI nr else if w = 1 then nI nt else if w = 2 then nI nw else if w = 3 then nI wk else if w = 4 then hd else if w = 5 then nI ng else if w = 6 then nI nT else if w = 7 then mi else if w = 8 then nI nf else if w = 9 then nI nn else -2
def lL (mwa L : Nat → Int32) : Nat → Nat → Int32
  | 0 => L
  | k + 1 => upd (lL mwa L k) k (mwa (5 * k + 3))
/-- how many of the first so many walls aren't fresh -/
def cU (L : Nat → Int32) : Nat → Nat
  | 0 => 0
  | k + 1 => if 100 ≤ L k then cU L k else cU L k + 1
theorem cU_upd {L : Nat → Int32} {b : Nat} {x : Int32} (hx : 100 ≤ x) : ∀ {n : Nat}, cU (upd L b x) n ≤ cU L n ∧ (b < n → ¬ 100 ≤ L b → cU (upd L b x) n < cU L n)
  | 0 => ⟨Nat.le_refl _, fun h => absurd h (Nat.not_lt_zero _)⟩
  | n + 1 => by
    obtain ⟨ih1, ih2⟩ := cU_upd (L := L) (b := b) hx (n := n)
    show (if 100 ≤ upd L b x n then cU (upd L b x) n else cU (upd L b x) n + 1) ≤ (if 100 ≤ L n then cU L n else cU L n + 1) ∧ (b < n + 1 → ¬ 100 ≤ L b → (if 100 ≤ upd L b x n then cU (upd L b x) n else cU (upd L b x) n + 1) < (if 100 ≤ L n then cU L n else cU L n + 1))
    by_cases e : n = b
    · subst e
      rw [pk_us, if_pos hx]
      by_cases c : 100 ≤ L n
      · rw [if_pos c]; exact ⟨ih1, fun _ h => absurd c h⟩
      · rw [if_neg c]; exact ⟨by omega, fun _ _ => by omega⟩
    · rw [pk_un e]
      by_cases c : 100 ≤ L n
      · rw [if_pos c, if_pos c]; exact ⟨ih1, fun h1 h2 => ih2 (by omega) h2⟩
      · rw [if_neg c, if_neg c]
        refine ⟨by omega, fun h1 h2 => ?_⟩
        have := ih2 (by omega) h2
        omega
theorem cU_le {L : Nat → Int32} : ∀ {n : Nat}, cU L n ≤ n
  | 0 => Nat.le_refl _
  | n + 1 => by
    have ih := cU_le (L := L) (n := n)
    unfold cU
    by_cases c : 100 ≤ L n
    · rw [if_pos c]; omega
    · rw [if_neg c]; omega
theorem foO_le {L : Nat → Int32} : ∀ {n : Nat}, foO L 100 (mF L n) ≤ 100
  | 0 => by show (100 : Int32) ≤ 100; decide
  | n + 1 => by
    have ih := foO_le (L := L) (n := n)
    unfold mF
    by_cases c : foO L 100 (mF L n) ≤ L n
    · rw [if_pos c]; exact ih
    · rw [if_neg c]
      show L n ≤ 100
      exact Int32.le_trans (Int32.le_of_lt (Int32.not_le.mp c)) ih
theorem mF_100 {L : Nat → Int32} : ∀ {n b : Nat}, mF L n = some b → ¬ 100 ≤ L b
  | 0, b, h => by simp [mF] at h
  | n + 1, b, h => by
    unfold mF at h
    by_cases c : foO L 100 (mF L n) ≤ L n
    · rw [if_pos c] at h
      exact mF_100 h
    · rw [if_neg c] at h
      cases h
      intro q
      exact c (Int32.le_trans foO_le q)
theorem mF_cU {L : Nat → Int32} {n b : Nat} (h : mF L n = some b) : 1 ≤ cU L n := by
  have h1 := mF_lt h
  have h2 := mF_100 h
  have h3 := (cU_upd (L := L) (b := b) (x := 100) (Int32.le_refl _) (n := n)).2 h1 h2
  omega
/-- what is painted stands beside the looks -/
def okPn (nw : Nat) (L P : Nat → Int32) : Prop := ∀ k, k < nw → P k = 0 ∨ (P k = 1 ∧ L k = 100)
theorem okPn_upd {nw b : Nat} {L P : Nat → Int32} (h : okPn nw L P) : okPn nw (upd L b 100) (upd P b 1) := fun k hk => by
  by_cases e : k = b
  · subst e
    rw [pk_us, pk_us]
    exact Or.inr ⟨rfl, rfl⟩
  · rw [pk_un e, pk_un e]
    exact h k hk
/-- painting, as the reference keeps it -/
def okPG (hw : Nat → Int32) (nw : Nat) (v0 : Int32) (L0 : Nat → Int32) (f : Nat) (v : Int32) (L P : Nat → Int32) (p : Nat) : Prop := ∀ T0 : Nat → Int32, ∃ T : Nat → Int32, pG hw nw f v L T p = pG hw nw nw v0 L0 T0 0 ∧ ∀ k, k < nw → T k = T0 k + P k
theorem okPG_0 {hw : Nat → Int32} {nw : Nat} {v0 : Int32} {L0 P : Nat → Int32} (h : ∀ k, k < nw → P k = 0) : okPG hw nw v0 L0 nw v0 L0 P 0 := fun T0 => ⟨T0, rfl, fun k hk => by rw [h k hk, Int32.add_zero]⟩
theorem okPG_go {hw : Nat → Int32} {nw : Nat} {v0 : Int32} {L0 : Nat → Int32} {f : Nat} {v : Int32} {L P : Nat → Int32} {p b : Nat} (h : okPG hw nw v0 L0 (f + 1) v L P p) (hP : okPn nw L P) (hb : mF L nw = some b) (c : hw b ≤ v) : okPG hw nw v0 L0 f (v - hw b) (upd L b 100) (upd P b 1) (p + 1) := fun T0 => by
  obtain ⟨T, h1, h2⟩ := h T0
  rw [pG_go hb c] at h1
  refine ⟨upd T b (T b + 1), h1, fun k hk => ?_⟩
  by_cases e : k = b
  · subst e
    rw [pk_us, pk_us, h2 k hk]
    rcases hP k hk with q | ⟨_, q⟩
    · rw [q, Int32.add_zero]
    · exact absurd (by rw [q]; exact Int32.le_refl _) (mF_100 hb)
  · rw [pk_un e, pk_un e]
    exact h2 k hk
/-- what a week's painting leaves: the reference's words for wkQ -/
def okWQ (fz hw : Nat → Int32) (nw w : Nat) (v0 : Int32) (L0 : Nat → Int32) (p : Nat) (L P : Nat → Int32) : Prop := ∀ T0 : Nat → Int32, (wkQ fz hw nw w v0 L0 T0).1 = p ∧ (wkQ fz hw nw w v0 L0 T0).2.1 = L ∧ ∀ k, k < nw → (wkQ fz hw nw w v0 L0 T0).2.2.1 k = T0 k + P k
theorem okWQ_f {fz hw : Nat → Int32} {nw w : Nat} {v0 : Int32} {L0 P : Nat → Int32} (hf : ¬ fz w = 0) (h : ∀ k, k < nw → P k = 0) : okWQ fz hw nw w v0 L0 0 L0 P := fun T0 => by
  rw [show wkQ fz hw nw w v0 L0 T0 = (0, L0, T0, none) from if_neg hf]
  exact ⟨rfl, rfl, fun k hk => by rw [h k hk, Int32.add_zero]⟩
theorem okWQ_none {fz hw : Nat → Int32} {nw w : Nat} {v0 v : Int32} {L0 L P : Nat → Int32} {f p : Nat} (hf : fz w = 0) (h : okPG hw nw v0 L0 f v L P p) (hm : mF L nw = none) : okWQ fz hw nw w v0 L0 p L P := fun T0 => by
  obtain ⟨T, h1, h2⟩ := h T0
  rw [show wkQ fz hw nw w v0 L0 T0 = pG hw nw nw v0 L0 T0 0 from if_pos hf, ← h1, pG_none hm]
  exact ⟨rfl, rfl, h2⟩
theorem okWQ_stop {fz hw : Nat → Int32} {nw w : Nat} {v0 v : Int32} {L0 L P : Nat → Int32} {f p b : Nat} (hf : fz w = 0) (h : okPG hw nw v0 L0 (f + 1) v L P p) (hm : mF L nw = some b) (c : ¬ hw b ≤ v) : okWQ fz hw nw w v0 L0 p L P := fun T0 => by
  obtain ⟨T, h1, h2⟩ := h T0
  rw [show wkQ fz hw nw w v0 L0 T0 = pG hw nw nw v0 L0 T0 0 from if_pos hf, ← h1, pG_stop hm c]
  exact ⟨rfl, rfl, h2⟩
theorem fdv_n {x : Int32} (h : ¬ 0 ≤ x) : fdv x = 0 := if_pos (Int32.le_of_lt (Int32.not_le.mp h))
theorem fdv_p {x : Int32} (h : 0 ≤ x) : fdv x = x := by
  unfold fdv
  by_cases c : x ≤ 0
  · rw [if_pos c]
    exact Int32.le_antisymm h c
  · rw [if_neg c]
def wW (mwa L P : Nat → Int32) : Nat → Nat → Int32
  | 0 => mwa
  | k + 1 => upd (upd (wW mwa L P k) (5 * k + 3) (L k)) (5 * k + 4) (upd (wW mwa L P k) (5 * k + 3) (L k) (5 * k + 4) + (if P k = 0 then 0 else 1))
def minI : Int32 := -2147483648
theorem minI_le (x : Int32) : minI ≤ x := by
  rw [Int32.le_iff_toInt_le]
  have h : minI.toInt = -2147483648 := by decide
  have := x.le_toInt
  rw [h]
  omega
/-- weeks in thought as the reference keeps them: no stop -/
def mS (fa fz sd hw : Nat → Int32) (nw wk : Nat) (h : Int32) (L : Nat → Int32) (t0 : Int32 × Int32 × Int32) (n : Nat) : tyF := fS fa fz sd hw nw wk h minI (L, fun _ => 0, t0, 501) n
theorem mS_1 {fa fz sd hw : Nat → Int32} {nw wk : Nat} {h : Int32} {L : Nat → Int32} {t0 : Int32 × Int32 × Int32} {i : Nat} : mS fa fz sd hw nw wk h L t0 (i + 1) = stT fa fz sd hw nw (wk + i) h (mS fa fz sd hw nw wk h L t0 i) := if_pos (minI_le _)
def rForeM (nw wk : Nat) (hd : Int32) (fa fz mwa mlo mto : Nat → Int32) (x q : Int32) : Int32 :=
  if inR x 1 52 = true ∧ inR q 0 2 = true then (if wk + x.toNatClampNeg ≤ 200 then (if nw = 0 then -6 else
    if q = 0 then (mS fa fz (col 5 1 mwa) (col 5 2 mwa) nw wk hd (lL mwa mlo nw) (1000, mto 1, mto 2) x.toNatClampNeg).2.2.1.1 else if q = 1 then (mS fa fz (col 5 1 mwa) (col 5 2 mwa) nw wk hd (lL mwa mlo nw) (1000, mto 1, mto 2) x.toNatClampNeg).2.2.1.2.1 else (mS fa fz (col 5 1 mwa) (col 5 2 mwa) nw wk hd (lL mwa mlo nw) (1000, mto 1, mto 2) x.toNatClampNeg).2.2.1.2.2) else -3) else -2
theorem lL_at {mwa L : Nat → Int32} : ∀ {n k : Nat}, lL mwa L n k = if k < n then mwa (5 * k + 3) else L k
  | 0, k => by rw [if_neg (Nat.not_lt_zero _)]; rfl
  | n + 1, k => by
    show upd (lL mwa L n) n (mwa (5 * n + 3)) k = _
    by_cases e : k = n
    · subst e
      rw [pk_us, if_pos (by omega)]
    · rw [pk_un e, lL_at]
      by_cases c : k < n
      · rw [if_pos c, if_pos (by omega)]
      · rw [if_neg c, if_neg (by omega)]
theorem lL_ag {mwa L : Nat → Int32} {n : Nat} : agL n (lL mwa L n) (col 5 3 mwa) := fun k hk => by
  rw [lL_at, if_pos hk]
  rfl
/-- the least look of some weeks for so many hands, without a stop -/
def llM (fa fz sd hw : Nat → Int32) (nw wk : Nat) (lo : Nat → Int32) (n h : Nat) : Int32 := (fS fa fz sd hw nw wk (nI h) minI (lo, fun _ => 0, (1000, 0, 0), 501) n).2.2.1.1
theorem mS_ll {fa fz sd hw mwa mlo : Nat → Int32} {nw wk n h : Nat} {a b : Int32} : (mS fa fz sd hw nw wk (nI h) (lL mwa mlo nw) (1000, a, b) n).2.2.1.1 = llM fa fz sd hw nw wk (col 5 3 mwa) n h :=
  (fS_al (q := (lL mwa mlo nw, fun _ => 0, (1000, a, b), 501)) (q' := (col 5 3 mwa, fun _ => 0, (1000, 0, 0), 501)) ⟨lL_ag, rfl, rfl⟩ n).2.1

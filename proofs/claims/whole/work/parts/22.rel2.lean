/-! the class and the reference, section 2 -/
def OK1 (nw wk : Nat) (mfa mwa mfz : Nat → Int32) : Prop := nw ≤ 24 ∧ wk ≤ 200 ∧ (∀ k, k < nw → ∃ j, j < 4 ∧ col 5 1 mwa k = nI j) ∧ okHW nw (col 5 2 mwa) ∧ (∀ t, mfz t = 0 ∨ mfz t = 1) ∧ (∀ j, j < 4 → inR (mfa j) 0 40 = true) ∧ (∀ k, k < nw → inR (col 5 3 mwa k) 0 100 = true) ∧ ∀ k, nw ≤ k → col 5 4 mwa k = 0
theorem fdv_r : ∀ a, a < 101 → ∀ f, f < 41 → inR (fdv (nI a - nI f)) 0 100 = true := by decide +kernel
theorem fdv_in {x y : Int32} (hx : inR x 0 100 = true) (hy : inR y 0 40 = true) : inR (fdv (x - y)) 0 100 = true := by
  obtain ⟨a, ha, rfl⟩ := inR_nat (n := 100) hx rfl
  obtain ⟨f, hf, rfl⟩ := inR_nat (n := 40) hy rfl
  exact fdv_r a (by omega) f (by omega)
theorem fF_in {fa sd L : Nat → Int32} {nw : Nat} (hfa : ∀ j, j < 4 → inR (fa j) 0 40 = true) (hsd : ∀ k, k < nw → ∃ j, j < 4 ∧ sd k = nI j) (hL : ∀ k, k < nw → inR (L k) 0 100 = true) : ∀ k, k < nw → inR (fF fa sd L nw k) 0 100 = true := fun k hk => by
  rw [fF_at, if_pos hk]
  obtain ⟨j, hj, e⟩ := hsd k hk
  rw [e, nI_clamp (by omega)]
  exact fdv_in (hL k hk) (hfa j hj)
theorem pG_lk {hw : Nat → Int32} {nw : Nat} {k : Nat} : ∀ (f : Nat) (v : Int32) (L T : Nat → Int32) (p : Nat), (pG hw nw f v L T p).2.1 k = L k ∨ (k < nw ∧ (pG hw nw f v L T p).2.1 k = 100)
  | 0, _, _, _, _ => Or.inl rfl
  | f + 1, v, L, T, p => by
    cases q : mF L nw with
    | none => rw [pG_none q]; exact Or.inl rfl
    | some b =>
      by_cases c : hw b ≤ v
      · rw [pG_go q c]
        rcases pG_lk (k := k) f (v - hw b) (upd L b 100) (upd T b (T b + 1)) (p + 1) with h | h
        · rw [h]
          by_cases e : k = b
          · subst e; exact Or.inr ⟨mF_lt q, pk_us⟩
          · exact Or.inl (pk_un e)
        · exact Or.inr h
      · rw [pG_stop q c]; exact Or.inl rfl
theorem pG_T {hw : Nat → Int32} {nw : Nat} {k : Nat} : ∀ (f : Nat) (v : Int32) (L T : Nat → Int32) (p : Nat), (pG hw nw f v L T p).2.2.1 k = T k ∨ ((k < nw ∧ ¬ 100 ≤ L k) ∧ (pG hw nw f v L T p).2.2.1 k = T k + 1)
  | 0, _, _, _, _ => Or.inl rfl
  | f + 1, v, L, T, p => by
    cases q : mF L nw with
    | none => rw [pG_none q]; exact Or.inl rfl
    | some b =>
      by_cases c : hw b ≤ v
      · rw [pG_go q c]
        rcases pG_T (k := k) f (v - hw b) (upd L b 100) (upd T b (T b + 1)) (p + 1) with h | ⟨h1, h2⟩
        · rw [h]
          by_cases e : k = b
          · subst e; exact Or.inr ⟨⟨mF_lt q, mF_100 q⟩, pk_us⟩
          · exact Or.inl (pk_un e)
        · by_cases e : k = b
          · subst e; rw [pk_us] at h1; exact absurd (by decide) h1.2
          · rw [pk_un e] at h1 h2; exact Or.inr ⟨h1, h2⟩
      · rw [pG_stop q c]; exact Or.inl rfl
theorem pG_cT {hw : Nat → Int32} {nw : Nat} : ∀ (f : Nat) (v : Int32) (L L' T : Nat → Int32) (p : Nat), agL nw L L' → (pG hw nw f v L T p).2.2.1 = (pG hw nw f v L' T p).2.2.1
  | 0, _, _, _, _, _, _ => rfl
  | f + 1, v, L, L', T, p, h => by
    have e := mF_c h
    cases q : mF L nw with
    | none => rw [pG_none q, pG_none (e ▸ q)]
    | some b =>
      by_cases c : hw b ≤ v
      · rw [pG_go q c, pG_go (e ▸ q) c]
        exact pG_cT f _ _ _ _ _ (agL_upd h)
      · rw [pG_stop q c, pG_stop (e ▸ q) c]
theorem wkQ_lk {fz hw : Nat → Int32} {nw w k : Nat} {h : Int32} {L T : Nat → Int32} : (wkQ fz hw nw w h L T).2.1 k = L k ∨ (k < nw ∧ (wkQ fz hw nw w h L T).2.1 k = 100) := by
  unfold wkQ
  by_cases c : fz w = 0
  · rw [if_pos c]; exact pG_lk nw h L T 0
  · rw [if_neg c]; exact Or.inl rfl
theorem wkQ_T {fz hw : Nat → Int32} {nw w k : Nat} {h : Int32} {L T : Nat → Int32} : (wkQ fz hw nw w h L T).2.2.1 k = T k ∨ ((k < nw ∧ ¬ 100 ≤ L k) ∧ (wkQ fz hw nw w h L T).2.2.1 k = T k + 1) := by
  unfold wkQ
  by_cases c : fz w = 0
  · rw [if_pos c]; exact pG_T nw h L T 0
  · rw [if_neg c]; exact Or.inl rfl
theorem wkQ_cT {fz hw : Nat → Int32} {nw w : Nat} {h : Int32} {L L' T : Nat → Int32} (ha : agL nw L L') : (wkQ fz hw nw w h L T).2.2.1 = (wkQ fz hw nw w h L' T).2.2.1 := by
  unfold wkQ
  by_cases c : fz w = 0
  · rw [if_pos c, if_pos c]; exact pG_cT nw h L L' T 0 ha
  · rw [if_neg c, if_neg c]
theorem wkQ_in {fz hw : Nat → Int32} {nw w : Nat} {h : Int32} {L T : Nat → Int32} (hL : ∀ k, k < nw → inR (L k) 0 100 = true) : ∀ k, k < nw → inR ((wkQ fz hw nw w h L T).2.1 k) 0 100 = true := fun k hk => by
  rcases wkQ_lk (fz := fz) (hw := hw) (nw := nw) (w := w) (k := k) (h := h) (L := L) (T := T) with e | e
  · rw [e]; exact hL k hk
  · rw [e.2]; decide
theorem wW_i {mwa L P : Nat → Int32} {i : Nat} (hi : i < 3) : ∀ n : Nat, col 5 i (wW mwa L P n) = col 5 i mwa
  | 0 => rfl
  | n + 1 => by
    rw [wW, col_upd (by omega) (by decide), if_neg (by omega), col_upd (by omega) (by decide), if_neg (by omega)]
    exact wW_i hi n
theorem wW_3 {mwa L P : Nat → Int32} {k : Nat} : ∀ n : Nat, col 5 3 (wW mwa L P n) k = if k < n then L k else col 5 3 mwa k
  | 0 => by rw [if_neg (Nat.not_lt_zero _)]; rfl
  | n + 1 => by
    rw [wW, col_upd (by omega) (by decide), if_neg (by omega), col_upd (by omega) (by decide), if_pos rfl]
    by_cases e : k = n
    · subst e; rw [pk_us, if_pos (Nat.lt_succ_self _)]
    · rw [pk_un e, wW_3 n]
      by_cases c : k < n
      · rw [if_pos c, if_pos (by omega)]
      · rw [if_neg c, if_neg (by omega)]
theorem wW_4 {mwa L P : Nat → Int32} {k : Nat} : ∀ n : Nat, col 5 4 (wW mwa L P n) k = if k < n then col 5 4 mwa k + (if P k = 0 then 0 else 1) else col 5 4 mwa k
  | 0 => by rw [if_neg (Nat.not_lt_zero _)]; rfl
  | n + 1 => by
    rw [wW, col_upd (by omega) (by decide), if_pos rfl, col_upd (by omega) (by decide), if_neg (by omega)]
    by_cases e : k = n
    · subst e
      rw [pk_us, if_pos (Nat.lt_succ_self _), pk_un (by omega)]
      have := wW_4 (mwa := mwa) (L := L) (P := P) (k := k) k
      rw [if_neg (Nat.lt_irrefl _)] at this
      show col 5 4 (wW mwa L P k) k + _ = _
      rw [this]
    · rw [pk_un e, wW_4 n]
      by_cases c : k < n
      · rw [if_pos c, if_pos (show k < n + 1 by omega)]
      · rw [if_neg c, if_neg (show ¬ k < n + 1 by omega)]
theorem st_fade {nw wk : Nat} {mfa mwa mfz : Nat → Int32} {x v r1 r2 : Int32} {fa1 mfa2 : Nat → Int32} (hx : OK1 nw wk mfa mwa mfz)
    (h1 : r1 = (if inR x 0 3 = true ∧ inR v 0 40 = true then mfa x.toNatClampNeg else -2) ∧ fa1 = if inR x 0 3 = true ∧ inR v 0 40 = true then upd mfa x.toNatClampNeg v else mfa)
    (h2 : r2 = (if inR x 0 3 = true ∧ inR v 0 40 = true then mfa x.toNatClampNeg else -2) ∧ mfa2 = if inR x 0 3 = true ∧ inR v 0 40 = true then upd mfa x.toNatClampNeg v else mfa) :
    r1 = r2 ∧ fa1 = mfa2 ∧ OK1 nw wk mfa2 mwa mfz := by
  obtain ⟨rfl, rfl⟩ := h1
  obtain ⟨rfl, rfl⟩ := h2
  refine ⟨rfl, rfl, ?_⟩
  obtain ⟨g1, g2, g3, g4, g5, g6, g7⟩ := hx
  refine ⟨g1, g2, g3, g4, g5, ?_, g7⟩
  by_cases c : inR x 0 3 = true ∧ inR v 0 40 = true
  · rw [if_pos c]
    intro j hj
    by_cases e : j = x.toNatClampNeg
    · subst e; rw [pk_us]; exact c.2
    · rw [pk_un e]; exact g6 j hj
  · rw [if_neg c]; exact g6
theorem st_wall {nw wk : Nat} {mfa mwa mfz : Nat → Int32} {p q v r1 r2 : Int32} {nw1 nw2 : Nat} {ho1 sd1 hw1 lo1 mwa2 : Nat → Int32} (hx : OK1 nw wk mfa mwa mfz)
    (h1 : r1 = rWall nw p q v ∧ (nw1, ho1, sd1, hw1, lo1) = if (inR p 0 99 = true ∧ inR q 0 3 = true ∧ inR v 1 60 = true) ∧ ¬ nw = 24 then (nw + 1, upd (col 5 0 mwa) nw p, upd (col 5 1 mwa) nw q, upd (col 5 2 mwa) nw v, upd (col 5 3 mwa) nw 100) else (nw, col 5 0 mwa, col 5 1 mwa, col 5 2 mwa, col 5 3 mwa))
    (h2 : r2 = rWall nw p q v ∧ (nw2, mwa2) = if (inR p 0 99 = true ∧ inR q 0 3 = true ∧ inR v 1 60 = true) ∧ ¬ nw = 24 then (nw + 1, upd (upd (upd (upd (upd mwa (5 * nw) p) (5 * nw + 1) q) (5 * nw + 2) v) (5 * nw + 3) 100) (5 * nw + 4) 0) else (nw, mwa)) :
    r1 = r2 ∧ nw1 = nw2 ∧ ho1 = col 5 0 mwa2 ∧ sd1 = col 5 1 mwa2 ∧ hw1 = col 5 2 mwa2 ∧ lo1 = col 5 3 mwa2 ∧ col 5 4 mwa = col 5 4 mwa2 ∧ OK1 nw2 wk mfa mwa2 mfz := by
  obtain ⟨rfl, h1⟩ := h1
  obtain ⟨rfl, h2⟩ := h2
  refine ⟨rfl, ?_⟩
  by_cases c : (inR p 0 99 = true ∧ inR q 0 3 = true ∧ inR v 1 60 = true) ∧ ¬ nw = 24
  · rw [if_pos c] at h1 h2
    cases h1
    cases h2
    obtain ⟨g1, g2, g3, g4, g5, g6, g7, g8⟩ := hx
    have e : ∀ i : Nat, i < 5 → col 5 i (upd (upd (upd (upd (upd mwa (5 * nw) p) (5 * nw + 1) q) (5 * nw + 2) v) (5 * nw + 3) 100) (5 * nw + 4) 0) = if i = 4 then upd (col 5 4 mwa) nw 0 else if i = 3 then upd (col 5 3 mwa) nw 100 else if i = 2 then upd (col 5 2 mwa) nw v else if i = 1 then upd (col 5 1 mwa) nw q else upd (col 5 0 mwa) nw p := fun i hi => by
      rw [col_upd hi (by decide), col_upd hi (by decide), col_upd hi (by decide), col_upd hi (by decide), show 5 * nw = 5 * nw + 0 from rfl, col_upd hi (by decide)]
      rcases (by omega : i = 0 ∨ i = 1 ∨ i = 2 ∨ i = 3 ∨ i = 4) with rfl | rfl | rfl | rfl | rfl <;> rfl
    have e1 : col 5 1 (upd (upd (upd (upd (upd mwa (5 * nw) p) (5 * nw + 1) q) (5 * nw + 2) v) (5 * nw + 3) 100) (5 * nw + 4) 0) = upd (col 5 1 mwa) nw q := e 1 (by decide)
    have e2 : col 5 2 (upd (upd (upd (upd (upd mwa (5 * nw) p) (5 * nw + 1) q) (5 * nw + 2) v) (5 * nw + 3) 100) (5 * nw + 4) 0) = upd (col 5 2 mwa) nw v := e 2 (by decide)
    have e3 : col 5 3 (upd (upd (upd (upd (upd mwa (5 * nw) p) (5 * nw + 1) q) (5 * nw + 2) v) (5 * nw + 3) 100) (5 * nw + 4) 0) = upd (col 5 3 mwa) nw 100 := e 3 (by decide)
    have e4 : col 5 4 (upd (upd (upd (upd (upd mwa (5 * nw) p) (5 * nw + 1) q) (5 * nw + 2) v) (5 * nw + 3) 100) (5 * nw + 4) 0) = col 5 4 mwa := (e 4 (by decide)).trans (upd_id (g8 nw (Nat.le_refl _)))
    refine ⟨rfl, (e 0 (by decide)).symm, e1.symm, e2.symm, e3.symm, e4.symm, by omega, g2, fun k hk => ?_, fun k hk => ?_, g5, g6, fun k hk => ?_, fun k hk => ?_⟩
    · rw [e1]
      by_cases w : k = nw
      · obtain ⟨j, hj, hq⟩ := inR_nat (n := 3) c.1.2.1 rfl
        exact ⟨j, by omega, by rw [w, pk_us]; exact hq⟩
      · rw [pk_un w]; exact g3 k (by omega)
    · rw [e2]
      by_cases w : k = nw
      · obtain ⟨j, hj1, hj, hq⟩ := inR_nat1 (a := 1) (b := 60) c.1.2.2 rfl rfl
        exact ⟨j, hj1, hj, by rw [w, pk_us]; exact hq⟩
      · rw [pk_un w]; exact g4 k (by omega)
    · rw [e3]
      by_cases w : k = nw
      · rw [w, pk_us]; decide
      · rw [pk_un w]; exact g7 k (by omega)
    · rw [e4]; exact g8 k (by omega)
  · rw [if_neg c] at h1 h2
    cases h1
    cases h2
    exact ⟨rfl, rfl, rfl, rfl, rfl, rfl, hx⟩
theorem st_frost {nw wk : Nat} {mfa mwa mfz : Nat → Int32} {x z r1 r2 : Int32} {fz1 mfz2 : Nat → Int32} (hx : OK1 nw wk mfa mwa mfz) (hz : z = 0 ∨ z = 1)
    (h1 : r1 = rFrost wk mfz x ∧ fz1 = if inR x 0 199 = true ∧ wk ≤ x.toNatClampNeg then upd mfz x.toNatClampNeg z else mfz)
    (h2 : r2 = rFrost wk mfz x ∧ mfz2 = if inR x 0 199 = true ∧ wk ≤ x.toNatClampNeg then upd mfz x.toNatClampNeg z else mfz) :
    r1 = r2 ∧ fz1 = mfz2 ∧ OK1 nw wk mfa mwa mfz2 := by
  obtain ⟨rfl, rfl⟩ := h1
  obtain ⟨rfl, rfl⟩ := h2
  refine ⟨rfl, rfl, ?_⟩
  obtain ⟨g1, g2, g3, g4, g5, g6⟩ := hx
  refine ⟨g1, g2, g3, g4, fun t => ?_, g6⟩
  by_cases c : inR x 0 199 = true ∧ wk ≤ x.toNatClampNeg
  · rw [if_pos c]
    by_cases e : t = x.toNatClampNeg
    · subst e; rw [pk_us]; exact hz
    · rw [pk_un e]; exact g5 t
  · rw [if_neg c]; exact g5 t
theorem st_week {nw wk : Nat} {hd lk : Int32} {mfa mwa mfz mlo mip : Nat → Int32} {r1 r2 lk1 : Int32} {wk1 wk2 : Nat} {lo1 ti1 mwa2 mlo2 mip2 : Nat → Int32} (hx : OK1 nw wk mfa mwa mfz)
    (h1 : r1 = (if wk = 200 then -3 else nI (wkQ mfz (col 5 2 mwa) nw wk hd (col 5 3 mwa) (col 5 4 mwa)).1) ∧ (lo1, ti1, lk1, wk1) = if wk = 200 then (col 5 3 mwa, col 5 4 mwa, lk, wk) else (fF mfa (col 5 1 mwa) (wkQ mfz (col 5 2 mwa) nw wk hd (col 5 3 mwa) (col 5 4 mwa)).2.1 nw, (wkQ mfz (col 5 2 mwa) nw wk hd (col 5 3 mwa) (col 5 4 mwa)).2.2.1, mnO lk (wkQ mfz (col 5 2 mwa) nw wk hd (col 5 3 mwa) (col 5 4 mwa)).2.2.2, wk + 1))
    (h2 : if wk = 200 then r2 = -3 ∧ (wk2, mwa2, mlo2, mip2) = (wk, mwa, mlo, mip) else ∃ (p : Nat) (L P : Nat → Int32), r2 = nI p ∧ okWQ mfz (col 5 2 mwa) nw wk hd (lL mwa mlo nw) p L P ∧ wk2 = wk + 1 ∧ mwa2 = wW mwa (fF mfa (col 5 1 mwa) L nw) P nw) :
    r1 = r2 ∧ lo1 = col 5 3 mwa2 ∧ ti1 = col 5 4 mwa2 ∧ wk1 = wk2 ∧ (col 5 0 mwa = col 5 0 mwa2 ∧ col 5 1 mwa = col 5 1 mwa2 ∧ col 5 2 mwa = col 5 2 mwa2) ∧ OK1 nw wk2 mfa mwa2 mfz := by
  obtain ⟨rfl, h1⟩ := h1
  by_cases c : wk = 200
  · rw [if_pos c] at h1 h2 ⊢
    obtain ⟨rfl, h2⟩ := h2
    cases h1
    cases h2
    exact ⟨rfl, rfl, rfl, rfl, ⟨rfl, rfl, rfl⟩, hx⟩
  · rw [if_neg c] at h1 h2 ⊢
    obtain ⟨p, L, P, rfl, hW, rfl, rfl⟩ := h2
    cases h1
    obtain ⟨g1, g2, g3, g4, g5, g6, g7, g8⟩ := hx
    have hag : agL nw (col 5 3 mwa) (lL mwa mlo nw) := fun k hk => (lL_ag k hk).symm
    obtain ⟨w1, w2, w3⟩ := hW (col 5 4 mwa)
    obtain ⟨v1, v2, _⟩ := wkQ_c (fz := mfz) (hw := col 5 2 mwa) (w := wk) (h := hd) (T := col 5 4 mwa) (T' := col 5 4 mwa) hag
    have v3 := wkQ_cT (fz := mfz) (hw := col 5 2 mwa) (w := wk) (h := hd) (T := col 5 4 mwa) hag
    have hP : ∀ k, k < nw → P k = 0 ∨ P k = 1 := fun k hk => by
      obtain ⟨_, _, a3⟩ := hW (fun _ => 0)
      have a4 := a3 k hk
      rw [Int32.zero_add] at a4
      rcases wkQ_T (fz := mfz) (hw := col 5 2 mwa) (nw := nw) (w := wk) (k := k) (h := hd) (L := lL mwa mlo nw) (T := fun _ => 0) with e | ⟨_, e⟩
      · exact Or.inl (a4.symm.trans e)
      · exact Or.inr (a4.symm.trans (e.trans (Int32.zero_add 1)))
    have hLin : ∀ k, k < nw → inR (L k) 0 100 = true := by
      rw [← w2]
      exact wkQ_in (fun k hk => by rw [lL_ag k hk]; exact g7 k hk)
    refine ⟨by rw [v1, w1], ?_, ?_, rfl, ⟨(wW_i (by decide) nw).symm, (wW_i (by decide) nw).symm, (wW_i (by decide) nw).symm⟩, g1, by omega, ?_, ?_, g5, g6, ?_, ?_⟩
    · funext k
      rw [wW_3, fF_at, fF_at]
      by_cases e : k < nw
      · rw [if_pos e, if_pos e, if_pos e, v2 k e, w2]
      · rw [if_neg e, if_neg e]
        rcases wkQ_lk (fz := mfz) (hw := col 5 2 mwa) (nw := nw) (w := wk) (k := k) (h := hd) (L := col 5 3 mwa) (T := col 5 4 mwa) with q | q
        · exact q
        · exact absurd q.1 e
    · funext k
      rw [wW_4]
      by_cases e : k < nw
      · rw [if_pos e, v3, w3 k e]
        rcases hP k e with q | q
        · rw [q, if_pos rfl]
        · rw [q, if_neg (by decide)]
      · rw [if_neg e]
        rcases wkQ_T (fz := mfz) (hw := col 5 2 mwa) (nw := nw) (w := wk) (k := k) (h := hd) (L := col 5 3 mwa) (T := col 5 4 mwa) with q | q
        · exact q
        · exact absurd q.1.1 e
    · rw [wW_i (by decide)]; exact g3
    · rw [wW_i (by decide)]; exact g4
    · intro k hk
      rw [wW_3, if_pos hk]
      exact fF_in g6 g3 hLin k hk
    · intro k hk
      rw [wW_4, if_neg (by omega)]; exact g8 k hk
/-- weeks in thought: the class's and the reference's -/
theorem kL_first {L L' : Nat → Int32} {w : Int32} {q q' : Int32 × Int32 × Int32} : ∀ {n : Nat}, agL (n + 1) L L' → ¬ q.1 ≤ L 0 → ¬ q'.1 ≤ L' 0 → kL L w q (n + 1) = kL L' w q' (n + 1)
  | 0, h, c, c' => by
    show (if q.1 ≤ L 0 then q else (L 0, w, nI 0)) = if q'.1 ≤ L' 0 then q' else (L' 0, w, nI 0)
    rw [if_neg c, if_neg c', h 0 (by decide)]
  | n + 1, h, c, c' => by
    have ih := kL_first (w := w) (n := n) (fun k hk => h k (by omega)) c c'
    show (if (kL L w q (n + 1)).1 ≤ L (n + 1) then kL L w q (n + 1) else (L (n + 1), w, nI (n + 1))) = (if (kL L' w q' (n + 1)).1 ≤ L' (n + 1) then kL L' w q' (n + 1) else (L' (n + 1), w, nI (n + 1)))
    rw [ih, h (n + 1) (by omega)]
theorem kL_le {L : Nat → Int32} {w : Int32} {q : Int32 × Int32 × Int32} : ∀ {n : Nat}, (kL L w q n).1 ≤ q.1
  | 0 => Int32.le_refl _
  | n + 1 => by
    rw [kL]
    by_cases c : (kL L w q n).1 ≤ L n
    · rw [if_pos c]; exact kL_le
    · rw [if_neg c]; exact Int32.le_trans (Int32.le_of_lt (Int32.not_le.mp c)) kL_le
theorem kL_ge {L : Nat → Int32} {w x : Int32} {q : Int32 × Int32 × Int32} (hq : x ≤ q.1) : ∀ {n : Nat}, (∀ k, k < n → x ≤ L k) → x ≤ (kL L w q n).1
  | 0, _ => hq
  | n + 1, h => by
    rw [kL]
    by_cases c : (kL L w q n).1 ≤ L n
    · rw [if_pos c]; exact kL_ge hq (fun k hk => h k (by omega))
    · rw [if_neg c]; exact h n (Nat.lt_succ_self _)
def stOK (nw : Nat) (q : tyF) : Prop := (∀ k, k < nw → inR (q.1 k) 0 100 = true) ∧ 0 ≤ q.2.2.1.1
theorem stT_OK {fa fz sd hw : Nat → Int32} {nw w : Nat} {h : Int32} {q : tyF} (hfa : ∀ j, j < 4 → inR (fa j) 0 40 = true) (hsd : ∀ k, k < nw → ∃ j, j < 4 ∧ sd k = nI j) (hq : stOK nw q) : stOK nw (stT fa fz sd hw nw w h q) := by
  have e := fF_in hfa hsd (wkQ_in (fz := fz) (hw := hw) (w := w) (h := h) (T := q.2.1) hq.1)
  exact ⟨e, kL_ge hq.2 (fun k hk => (inR_iff.mp (e k hk)).1)⟩
theorem fS_rel {fa fz sd hw : Nat → Int32} {nw wk : Nat} {h look : Int32} {q q' : tyF} (hfa : ∀ j, j < 4 → inR (fa j) 0 40 = true) (hsd : ∀ k, k < nw → ∃ j, j < 4 ∧ sd k = nI j) (hnw : ¬ nw = 0) (hl : look ≤ 101)
    (hag : agL nw q.1 q'.1) (hq : stOK nw q) (h101 : q.2.2.1.1 = 101) (h1000 : q'.2.2.1.1 = 1000) : ∀ i : Nat,
    stOK nw (fS fa fz sd hw nw wk h look q i) ∧ ((agL nw (fS fa fz sd hw nw wk h look q i).1 (fS fa fz sd hw nw wk h minI q' i).1 ∧ ((i = 0 ∧ (fS fa fz sd hw nw wk h look q i).2.2.1.1 = 101 ∧ (fS fa fz sd hw nw wk h minI q' i).2.2.1.1 = 1000) ∨ (fS fa fz sd hw nw wk h look q i).2.2.1 = (fS fa fz sd hw nw wk h minI q' i).2.2.1)) ∨
      (¬ look ≤ (fS fa fz sd hw nw wk h look q i).2.2.1.1 ∧ ¬ look ≤ (fS fa fz sd hw nw wk h minI q' i).2.2.1.1))
  | 0 => ⟨hq, Or.inl ⟨hag, Or.inl ⟨rfl, h101, h1000⟩⟩⟩
  | i + 1 => by
    obtain ⟨k1, k2⟩ := fS_rel (fz := fz) (hw := hw) (wk := wk) (h := h) hfa hsd hnw hl hag hq h101 h1000 i
    have eA : fS fa fz sd hw nw wk h look q (i + 1) = if look ≤ (fS fa fz sd hw nw wk h look q i).2.2.1.1 then stT fa fz sd hw nw (wk + i) h (fS fa fz sd hw nw wk h look q i) else fS fa fz sd hw nw wk h look q i := rfl
    have eM : fS fa fz sd hw nw wk h minI q' (i + 1) = stT fa fz sd hw nw (wk + i) h (fS fa fz sd hw nw wk h minI q' i) := if_pos (minI_le _)
    rw [eA, eM]
    generalize fS fa fz sd hw nw wk h look q i = X at k1 k2 ⊢
    generalize fS fa fz sd hw nw wk h minI q' i = Y at k2 ⊢
    have hlow : (stT fa fz sd hw nw (wk + i) h Y).2.2.1.1 ≤ Y.2.2.1.1 := kL_le
    by_cases c : look ≤ X.2.2.1.1
    · rw [if_pos c]
      have k3 := stT_OK (fz := fz) (hw := hw) (w := wk + i) (h := h) hfa hsd k1
      refine ⟨k3, ?_⟩
      rcases k2 with ⟨a1, a2⟩ | a1
      · obtain ⟨_, v2, _⟩ := wkQ_c (fz := fz) (hw := hw) (w := wk + i) (h := h) (T := X.2.1) (T' := Y.2.1) a1
        have v4 : agL nw (stT fa fz sd hw nw (wk + i) h X).1 (stT fa fz sd hw nw (wk + i) h Y).1 := fF_c v2
        refine Or.inl ⟨v4, Or.inr ?_⟩
        rcases a2 with ⟨_, b1, b2⟩ | b1
        · obtain ⟨n, rfl⟩ : ∃ n, nw = n + 1 := ⟨nw - 1, by omega⟩
          have r0 := inR_iff.mp (k3.1 0 (by omega))
          refine kL_first v4 ?_ ?_
          · rw [b1]
            exact fun w => absurd (Int32.le_trans w r0.2) (by decide)
          · rw [b2]
            rw [v4 0 (by omega)] at r0
            exact fun w => absurd (Int32.le_trans w r0.2) (by decide)
        · show kL (stT fa fz sd hw nw (wk + i) h X).1 (nI (wk + i)) X.2.2.1 nw = kL (stT fa fz sd hw nw (wk + i) h Y).1 (nI (wk + i)) Y.2.2.1 nw
          rw [b1]
          exact kL_c v4
      · exact absurd c a1.1
    · rw [if_neg c]
      refine ⟨k1, Or.inr ⟨c, fun w => c ?_⟩⟩
      rcases k2 with ⟨a1, ⟨_, b1, _⟩ | b1⟩ | a1
      · rw [b1]; exact hl
      · rw [b1]; exact Int32.le_trans w hlow
      · exact absurd (Int32.le_trans w hlow) a1.2
theorem rFore_eq {nw wk : Nat} {hd lw lx : Int32} {mfa mwa mfz mlo mto tl tt : Nat → Int32} {x q : Int32} (hx : OK1 nw wk mfa mwa mfz) :
    rFore wk nw hd mfa mfz (col 5 1 mwa) (col 5 2 mwa) (col 5 3 mwa) tl tt lw lx x q = rForeM nw wk hd mfa mfz mwa mlo mto x q := by
  obtain ⟨g1, g2, g3, g4, g5, g6, g7, g8⟩ := hx
  unfold rFore rForeM
  by_cases c : inR x 1 52 = true ∧ inR q 0 2 = true
  · rw [if_pos c, if_pos c]
    by_cases c2 : wk + x.toNatClampNeg ≤ 200
    · rw [if_pos c2, if_pos c2]
      by_cases c3 : nw = 0
      · rw [if_pos c3, if_pos c3]
      · rw [if_neg c3, if_neg c3]
        obtain ⟨n, hn1, hn2, hn⟩ := inR_nat1 (a := 1) (b := 52) c.1 rfl rfl
        have e1 : agL nw (f0 nw (col 5 3 mwa) tl tt lw lx).1 (col 5 3 mwa) := (f0_al (nw := nw) (lo := col 5 3 mwa) (tl := tl) (tt := tt) (lw := lw) (lx := lx)).1
        obtain ⟨k1, k2⟩ := fS_rel (fz := mfz) (hw := col 5 2 mwa) (wk := wk) (h := hd) (look := 0) (q := f0 nw (col 5 3 mwa) tl tt lw lx) (q' := (lL mwa mlo nw, fun _ => 0, (1000, mto 1, mto 2), 501)) g6 g3 c3 (by decide) (fun k hk => (e1 k hk).trans (lL_ag k hk).symm) ⟨fun k hk => by rw [e1 k hk]; exact g7 k hk, by show (0 : Int32) ≤ 101; decide⟩ rfl rfl x.toNatClampNeg
        have e : (fS mfa mfz (col 5 1 mwa) (col 5 2 mwa) nw wk hd 0 (f0 nw (col 5 3 mwa) tl tt lw lx) x.toNatClampNeg).2.2.1 = (mS mfa mfz (col 5 1 mwa) (col 5 2 mwa) nw wk hd (lL mwa mlo nw) (1000, mto 1, mto 2) x.toNatClampNeg).2.2.1 := by
          rcases k2 with ⟨_, ⟨a, _⟩ | a⟩ | a
          · rw [hn, nI_clamp (by omega)] at a; omega
          · exact a
          · exact absurd k1.2 a.1
        rw [e]
    · rw [if_neg c2, if_neg c2]
  · rw [if_neg c, if_neg c]
theorem enough_eq {nw wk : Nat} {mfa mwa mfz : Nat → Int32} {x look r1 r2 : Int32} (hx : OK1 nw wk mfa mwa mfz)
    (h1 : if inR x 1 52 = true ∧ inR look 0 100 = true then (if wk + x.toNatClampNeg ≤ 200 then (if nw = 0 then r1 = -6 else fst (fun h => look ≤ lls mfa mfz (col 5 1 mwa) (col 5 2 mwa) nw wk look (col 5 3 mwa) x.toNatClampNeg h) 0 501 r1) else r1 = -3) else r1 = -2)
    (h2 : if inR x 1 52 = true ∧ inR look 0 100 = true then (if wk + x.toNatClampNeg ≤ 200 then (if nw = 0 then r2 = -6 else fst (fun h => look ≤ llM mfa mfz (col 5 1 mwa) (col 5 2 mwa) nw wk (col 5 3 mwa) x.toNatClampNeg h) 0 501 r2) else r2 = -3) else r2 = -2) : r1 = r2 := by
  obtain ⟨g1, g2, g3, g4, g5, g6, g7, g8⟩ := hx
  by_cases c : inR x 1 52 = true ∧ inR look 0 100 = true
  · rw [if_pos c] at h1 h2
    by_cases c2 : wk + x.toNatClampNeg ≤ 200
    · rw [if_pos c2] at h1 h2
      by_cases c3 : nw = 0
      · rw [if_pos c3] at h1 h2
        rw [h1, h2]
      · rw [if_neg c3] at h1 h2
        obtain ⟨n, hn1, hn2, hn⟩ := inR_nat1 (a := 1) (b := 52) c.1 rfl rfl
        refine fst_eq (fun h _ _ => ?_) h1 h2
        obtain ⟨k1, k2⟩ := fS_rel (fz := mfz) (hw := col 5 2 mwa) (wk := wk) (h := nI h) (look := look) (q := canF (col 5 3 mwa)) (q' := (col 5 3 mwa, fun _ => 0, (1000, 0, 0), 501)) g6 g3 c3 (Int32.le_trans (inR_iff.mp c.2).2 (by decide)) (fun k hk => rfl) ⟨g7, by show (0 : Int32) ≤ 101; decide⟩ rfl rfl x.toNatClampNeg
        rcases k2 with ⟨_, ⟨a, _⟩ | a⟩ | a
        · rw [hn, nI_clamp (by omega)] at a; omega
        · show look ≤ (fS mfa mfz (col 5 1 mwa) (col 5 2 mwa) nw wk (nI h) look (canF (col 5 3 mwa)) x.toNatClampNeg).2.2.1.1 ↔ look ≤ (fS mfa mfz (col 5 1 mwa) (col 5 2 mwa) nw wk (nI h) minI (col 5 3 mwa, fun _ => 0, (1000, 0, 0), 501) x.toNatClampNeg).2.2.1.1
          rw [a]
        · exact ⟨fun w => absurd w a.1, fun w => absurd w a.2⟩
    · rw [if_neg c2] at h1 h2
      rw [h1, h2]
  · rw [if_neg c] at h1 h2
    rw [h1, h2]

/-! the class and the reference, section 3 -/
def OK2 (ng nT : Nat) (mbl mtr : Nat → Int32) : Prop := ng ≤ 3 ∧ nT ≤ 4 ∧ okT ng nT mbl (col 7 0 mtr) (col 7 1 mtr) ∧ okL mbl ∧ (∀ k, ng ≤ k → mbl k = 0) ∧ (∀ t, col 7 4 mtr t = 0 ∨ col 7 4 mtr t = 1) ∧ ∀ i t, 3 ≤ i → i < 7 → nT ≤ t → col 7 i mtr t = 0
theorem st_ring {ng nT : Nat} {mbl mtr : Nat → Int32} {r1 r2 : Int32} {ng1 ng2 : Nat} {mbl2 : Nat → Int32} (hx : OK2 ng nT mbl mtr)
    (h1 : r1 = rRing ng ∧ ng1 = if ng = 3 then ng else ng + 1) (h2 : r2 = rRing ng ∧ (ng2, mbl2) = if ng = 3 then (ng, mbl) else (ng + 1, upd mbl ng 0)) :
    r1 = r2 ∧ ng1 = ng2 ∧ mbl2 = mbl ∧ OK2 ng2 nT mbl2 mtr := by
  obtain ⟨rfl, rfl⟩ := h1
  obtain ⟨rfl, h2⟩ := h2
  refine ⟨rfl, ?_⟩
  obtain ⟨g1, g2, g3, g4, g5, g6⟩ := hx
  by_cases c : ng = 3
  · rw [if_pos c] at h2
    cases h2
    exact ⟨if_pos c, rfl, g1, g2, g3, g4, g5, g6⟩
  · rw [if_neg c, upd_id (g5 ng (Nat.le_refl _))] at h2
    cases h2
    refine ⟨if_neg c, rfl, by omega, g2, fun t ht => ?_, g4, fun k hk => g5 k (by omega), g6⟩
    obtain ⟨r, n, q, a1, a2, a3⟩ := g3 t ht
    exact ⟨r, n, q, by omega, a2, a3⟩
theorem st_block {ng nT : Nat} {mbl mtr mbk : Nat → Int32} {x b r1 r2 : Int32} {rl1 mbl2 mbk2 : Nat → Int32} {B1 : Nat → Nat → Int32} (hx : OK2 ng nT mbl mtr)
    (h1 : r1 = rBlock ng nT mbl (col 7 0 mtr) (BM mbk) x b ∧ (rl1, B1) = if okBlock ng nT mbl (col 7 0 mtr) (BM mbk) x b = true then (upd mbl x.toNatClampNeg (mbl x.toNatClampNeg + 1), vB (BM mbk) x.toNatClampNeg (upd (BM mbk x.toNatClampNeg) (mbl x.toNatClampNeg).toNatClampNeg b)) else (mbl, BM mbk))
    (h2 : r2 = rBlock ng nT mbl (col 7 0 mtr) (BM mbk) x b ∧ (mbl2, mbk2) = if okBlock ng nT mbl (col 7 0 mtr) (BM mbk) x b = true then (upd mbl x.toNatClampNeg (mbl x.toNatClampNeg + 1), upd mbk (12 * x.toNatClampNeg + (mbl x.toNatClampNeg).toNatClampNeg) b) else (mbl, mbk)) :
    r1 = r2 ∧ rl1 = mbl2 ∧ (∀ i j, i < 3 → j < 12 → B1 i j = BM mbk2 i j) ∧ OK2 ng nT mbl2 mtr := by
  obtain ⟨rfl, h1⟩ := h1
  obtain ⟨rfl, h2⟩ := h2
  refine ⟨rfl, ?_⟩
  by_cases c : okBlock ng nT mbl (col 7 0 mtr) (BM mbk) x b = true
  · rw [if_pos c] at h1 h2
    simp only [okBlock, Bool.and_eq_true, decide_eq_true_eq, Bool.not_eq_true'] at c
    obtain ⟨⟨⟨⟨c1, c2⟩, c3⟩, c4⟩, c5⟩ := c
    obtain ⟨g1, g2, g3, g4, g5, g6⟩ := hx
    obtain ⟨r0, hr0, rfl⟩ := inR_lt (by omega) c1
    obtain ⟨n, hn12, hn⟩ := g4 r0 (by omega)
    have hcr : (nI r0).toNatClampNeg = r0 := nI_clamp (by omega)
    have hcn : (nI n).toNatClampNeg = n := nI_clamp (by omega)
    rw [hcr, hn] at c4
    rw [hcr, hn, hcn] at h1 h2
    have hn11 : n ≤ 11 := by
      rcases Nat.lt_or_ge n 12 with w | w
      · omega
      · rw [show n = 12 by omega] at c4
        exact absurd rfl c4
    cases h1
    cases h2
    refine ⟨rfl, fun i j hi hj => ?_, g1, g2, fun t ht => ?_, fun r hr => ?_, fun k hk => ?_, g6⟩
    · show vB (BM mbk) r0 (upd (BM mbk r0) n b) i j = upd mbk (12 * r0 + n) b (12 * i + j)
      unfold vB
      by_cases e : i = r0
      · subst e
        rw [if_pos rfl]
        by_cases e2 : j = n
        · subst e2; rw [pk_us, pk_us]
        · rw [pk_un e2, pk_un (by omega)]; rfl
      · rw [if_neg e, pk_un (by omega)]; rfl
    · obtain ⟨r, m, q, a1, a2, a3, a4, a5, a6⟩ := g3 t ht
      refine ⟨r, m, q, a1, a2, a3, a4, ?_, a6⟩
      by_cases e : r = r0
      · subst e
        rw [anyL_t ht a2] at c3
        cases c3
      · rw [pk_un e]; exact a5
    · by_cases e : r = r0
      · exact ⟨n + 1, by omega, by rw [e, pk_us, nI_succ]⟩
      · rw [pk_un e]; exact g4 r hr
    · rw [pk_un (by omega)]; exact g5 k hk
  · rw [if_neg c] at h1 h2
    cases h1
    cases h2
    exact ⟨rfl, fun _ _ _ _ => rfl, hx⟩
theorem st_train {ng nT : Nat} {mbl mtr mbk : Nat → Int32} {x p m r1 r2 : Int32} {nT1 nT2 : Nat} {tR1 pc1 mn1 mtr2 : Nat → Int32} (hx : OK2 ng nT mbl mtr)
    (h1 : r1 = rTrain ng nT mbl (col 7 0 mtr) (col 7 1 mtr) (BM mbk) x p m ∧ (nT1, tR1, pc1, mn1) = if okTrain ng nT mbl (col 7 0 mtr) (col 7 1 mtr) (BM mbk) x p m = true then (nT + 1, upd (col 7 0 mtr) nT x, upd (col 7 1 mtr) nT p, upd (col 7 2 mtr) nT m) else (nT, col 7 0 mtr, col 7 1 mtr, col 7 2 mtr))
    (h2 : r2 = rTrain ng nT mbl (col 7 0 mtr) (col 7 1 mtr) (BM mbk) x p m ∧ (nT2, mtr2) = if okTrain ng nT mbl (col 7 0 mtr) (col 7 1 mtr) (BM mbk) x p m = true then (nT + 1, zF (upd (upd (upd mtr (7 * nT) x) (7 * nT + 1) p) (7 * nT + 2) m) (7 * nT) 4) else (nT, mtr)) :
    r1 = r2 ∧ nT1 = nT2 ∧ tR1 = col 7 0 mtr2 ∧ pc1 = col 7 1 mtr2 ∧ mn1 = col 7 2 mtr2 ∧ (∀ i, 3 ≤ i → i < 7 → col 7 i mtr = col 7 i mtr2) ∧ OK2 ng nT2 mbl mtr2 := by
  obtain ⟨rfl, h1⟩ := h1
  obtain ⟨rfl, h2⟩ := h2
  refine ⟨rfl, ?_⟩
  by_cases c : okTrain ng nT mbl (col 7 0 mtr) (col 7 1 mtr) (BM mbk) x p m = true
  · rw [if_pos c] at h1 h2
    cases h1
    cases h2
    obtain ⟨g1, g2, g3, g4, g5, g6, g7⟩ := hx
    have e : ∀ i : Nat, i < 7 → col 7 i (zF (upd (upd (upd mtr (7 * nT) x) (7 * nT + 1) p) (7 * nT + 2) m) (7 * nT) 4) = if i = 0 then upd (col 7 0 mtr) nT x else if i = 1 then upd (col 7 1 mtr) nT p else if i = 2 then upd (col 7 2 mtr) nT m else upd (col 7 i mtr) nT 0 := fun i hi => by
      show col 7 i (upd (upd (upd (upd (upd (upd (upd mtr (7 * nT + 0) x) (7 * nT + 1) p) (7 * nT + 2) m) (7 * nT + 3) 0) (7 * nT + 4) 0) (7 * nT + 5) 0) (7 * nT + 6) 0) = _
      rw [col_upd hi (by decide), col_upd hi (by decide), col_upd hi (by decide), col_upd hi (by decide), col_upd hi (by decide), col_upd hi (by decide), col_upd hi (by decide)]
      rcases (by omega : i = 0 ∨ i = 1 ∨ i = 2 ∨ i = 3 ∨ i = 4 ∨ i = 5 ∨ i = 6) with rfl | rfl | rfl | rfl | rfl | rfl | rfl <;> rfl
    have e3 : ∀ i : Nat, 3 ≤ i → i < 7 → col 7 i (zF (upd (upd (upd mtr (7 * nT) x) (7 * nT + 1) p) (7 * nT + 2) m) (7 * nT) 4) = col 7 i mtr := fun i h3 hi => by
      rw [e i hi, if_neg (by omega), if_neg (by omega), if_neg (by omega), upd_id (g7 i nT h3 hi (Nat.le_refl _))]
    simp only [okTrain, Bool.and_eq_true, decide_eq_true_eq] at c
    obtain ⟨⟨⟨⟨c1, c2⟩, c3⟩, c4⟩, c5⟩ := c
    obtain ⟨r0, hr0, rfl⟩ := inR_lt (by omega) c1
    obtain ⟨n, hn12, hn⟩ := g4 r0 (by omega)
    have hcr : (nI r0).toNatClampNeg = r0 := nI_clamp (by omega)
    have hcn : (nI n).toNatClampNeg = n := nI_clamp (by omega)
    rw [hcr, hn, hcn] at c2 c3
    unfold okPl at c2
    rw [if_pos c3, Bool.and_eq_true] at c2
    obtain ⟨q, hq, rfl⟩ := inR_lt (by omega) c2.1
    refine ⟨rfl, (e 0 (by decide)).symm, (e 1 (by decide)).symm, (e 2 (by decide)).symm, fun i h3 hi => (e3 i h3 hi).symm, g1, by omega, ?_, g4, g5, ?_, ?_⟩
    · rw [show col 7 0 (zF (upd (upd (upd mtr (7 * nT) (nI r0)) (7 * nT + 1) (nI q)) (7 * nT + 2) m) (7 * nT) 4) = upd (col 7 0 mtr) nT (nI r0) from e 0 (by decide), show col 7 1 (zF (upd (upd (upd mtr (7 * nT) (nI r0)) (7 * nT + 1) (nI q)) (7 * nT + 2) m) (7 * nT) 4) = upd (col 7 1 mtr) nT (nI q) from e 1 (by decide)]
      intro t ht
      by_cases w : t = nT
      · subst w
        exact ⟨r0, n, q, hr0, pk_us, c3, hn12, hn, hq, pk_us⟩
      · obtain ⟨r, n', q', a1, a2, a3⟩ := g3 t (by omega)
        exact ⟨r, n', q', a1, by rw [pk_un w]; exact a2, by rw [pk_un w]; exact a3⟩
    · rw [e3 4 (by decide) (by decide)]; exact g6
    · intro i t h3 hi ht
      rw [e3 i h3 hi]
      exact g7 i t h3 hi (by omega)
  · rw [if_neg c] at h1 h2
    cases h1
    cases h2
    exact ⟨rfl, rfl, rfl, rfl, fun _ _ _ => rfl, hx⟩
theorem st_stick {ng nT : Nat} {mbl mtr : Nat → Int32} {x z r1 r2 : Int32} {su1 mtr2 : Nat → Int32} (hx : OK2 ng nT mbl mtr) (hz : z = 0 ∨ z = 1)
    (h1 : r1 = (if inR x 0 (nI nT - 1) = true then col 7 4 mtr x.toNatClampNeg else -1) ∧ su1 = if inR x 0 (nI nT - 1) = true then upd (col 7 4 mtr) x.toNatClampNeg z else col 7 4 mtr)
    (h2 : r2 = (if inR x 0 (nI nT - 1) = true then col 7 4 mtr x.toNatClampNeg else -1) ∧ mtr2 = if inR x 0 (nI nT - 1) = true then upd mtr (7 * x.toNatClampNeg + 4) z else mtr) :
    r1 = r2 ∧ su1 = col 7 4 mtr2 ∧ (∀ i, i < 7 → ¬ i = 4 → col 7 i mtr = col 7 i mtr2) ∧ OK2 ng nT mbl mtr2 := by
  obtain ⟨rfl, h1⟩ := h1
  obtain ⟨rfl, h2⟩ := h2
  refine ⟨rfl, ?_⟩
  by_cases c : inR x 0 (nI nT - 1) = true
  · rw [if_pos c] at h1 h2
    obtain ⟨g1, g2, g3, g4, g5, g6, g7⟩ := hx
    obtain ⟨t, ht, rfl⟩ := inR_lt (by omega) c
    have hct : (nI t).toNatClampNeg = t := nI_clamp (by omega)
    rw [hct] at h1 h2
    subst h1
    subst h2
    have e4 : col 7 4 (upd mtr (7 * t + 4) z) = upd (col 7 4 mtr) t z := (cu (by decide) (by decide)).trans (if_pos rfl)
    have e : ∀ i, i < 7 → ¬ i = 4 → col 7 i (upd mtr (7 * t + 4) z) = col 7 i mtr := fun i hi h4 => (cu hi (by decide)).trans (if_neg h4)
    refine ⟨e4.symm, fun i hi h4 => (e i hi h4).symm, g1, g2, ?_, g4, g5, fun k => ?_, fun i k h3 hi hk => ?_⟩
    · rw [e 0 (by decide) (by decide), e 1 (by decide) (by decide)]; exact g3
    · rw [e4]
      by_cases w : k = t
      · subst w; rw [pk_us]; exact hz
      · rw [pk_un w]; exact g6 k
    · by_cases w : i = 4
      · subst w
        rw [e4, pk_un (by omega)]; exact g7 4 k h3 hi hk
      · rw [e i hi w]; exact g7 i k h3 hi hk
  · rw [if_neg c] at h1 h2
    subst h1
    subst h2
    exact ⟨rfl, fun _ _ _ => rfl, hx⟩
theorem gT_ok {ng nT : Nat} {B : Nat → Nat → Int32} {rl tR mn su : Nat → Int32} {q : Int32 × (Nat → Int32) × (Nat → Int32) × (Nat → Int32) × (Nat → Int32)} (hng : ng ≤ 3) (h : okT ng nT rl tR q.2.1) : ∀ k : Nat, k ≤ nT →
    okT ng nT rl tR (gT nT B rl tR mn su q k).2.1 ∧ ∀ t, nT ≤ t → (gT nT B rl tR mn su q k).2.2.1 t = q.2.2.1 t ∧ (gT nT B rl tR mn su q k).2.2.2.1 t = q.2.2.2.1 t ∧ (gT nT B rl tR mn su q k).2.2.2.2 t = q.2.2.2.2 t
  | 0, _ => ⟨h, fun t _ => ⟨rfl, rfl, rfl⟩⟩
  | k + 1, hk => by
    obtain ⟨h1, h2⟩ := gT_ok hng h k (by omega)
    unfold gT
    by_cases c : su k = 0
    · rw [if_pos c]
      refine ⟨gO_ok hng h1 (by omega), fun t ht => ?_⟩
      obtain ⟨a1, a2, a3⟩ := h2 t ht
      have hne : ¬ t = k := by omega
      show (gO nT B rl tR mn k (gT nT B rl tR mn su q k).2).2.2.1 t = _ ∧ (gO nT B rl tR mn k (gT nT B rl tR mn su q k).2).2.2.2.1 t = _ ∧ (gO nT B rl tR mn k (gT nT B rl tR mn su q k).2).2.2.2.2 t = _
      unfold gO
      by_cases c1 : mn k ≤ (gT nT B rl tR mn su q k).2.2.1 k + 1
      · rw [if_pos c1]
        by_cases c2 : aH nT B rl tR (gT nT B rl tR mn su q k).2.1 k = none
        · rw [if_pos c2]
          refine ⟨?_, ?_, ?_⟩
          · show upd (upd (gT nT B rl tR mn su q k).2.2.1 k _) k 0 t = _
            rw [pk_un hne, pk_un hne]; exact a1
          · exact a2
          · show upd (gT nT B rl tR mn su q k).2.2.2.2 k _ t = _
            rw [pk_un hne]; exact a3
        · rw [if_neg c2]
          refine ⟨?_, ?_, a3⟩
          · show upd (gT nT B rl tR mn su q k).2.2.1 k _ t = _
            rw [pk_un hne]; exact a1
          · show upd (gT nT B rl tR mn su q k).2.2.2.1 k _ t = _
            rw [pk_un hne]; exact a2
      · rw [if_neg c1]
        refine ⟨?_, a2, a3⟩
        show upd (gT nT B rl tR mn su q k).2.2.1 k _ t = _
        rw [pk_un hne]; exact a1
    · rw [if_neg c]
      exact ⟨h1, h2⟩
theorem gM_ok {ng nT : Nat} {B : Nat → Nat → Int32} {rl tR mn su : Nat → Int32} {q : Int32 × (Nat → Int32) × (Nat → Int32) × (Nat → Int32) × (Nat → Int32)} (hng : ng ≤ 3) (h : okT ng nT rl tR q.2.1) : ∀ i : Nat,
    okT ng nT rl tR (gM nT B rl tR mn su q i).2.1 ∧ ∀ t, nT ≤ t → (gM nT B rl tR mn su q i).2.2.1 t = q.2.2.1 t ∧ (gM nT B rl tR mn su q i).2.2.2.1 t = q.2.2.2.1 t ∧ (gM nT B rl tR mn su q i).2.2.2.2 t = q.2.2.2.2 t
  | 0 => ⟨h, fun t _ => ⟨rfl, rfl, rfl⟩⟩
  | i + 1 => by
    obtain ⟨h1, h2⟩ := gM_ok (B := B) (mn := mn) (su := su) hng h i
    obtain ⟨h3, h4⟩ := gT_ok (B := B) (mn := mn) (su := su) hng h1 nT (Nat.le_refl _)
    refine ⟨h3, fun t ht => ?_⟩
    obtain ⟨a1, a2, a3⟩ := h2 t ht
    obtain ⟨b1, b2, b3⟩ := h4 t ht
    exact ⟨b1.trans a1, b2.trans a2, b3.trans a3⟩
theorem st_run {ng nT : Nat} {mbl mtr mbk : Nat → Int32} {mi x r1 r2 : Int32} {pc1 mb1 mw1 mg1 mtr2 : Nat → Int32} {mi1 mi2 : Int32} (hx : OK2 ng nT mbl mtr)
    (h1 : r1 = (if inR x 1 500 = true then (gM nT (BM mbk) mbl (col 7 0 mtr) (col 7 2 mtr) (col 7 4 mtr) (0, col 7 1 mtr, col 7 3 mtr, col 7 5 mtr, col 7 6 mtr) x.toNatClampNeg).1 else -2) ∧ (pc1, mb1, mw1, mg1, mi1) = if inR x 1 500 = true then ((gM nT (BM mbk) mbl (col 7 0 mtr) (col 7 2 mtr) (col 7 4 mtr) (0, col 7 1 mtr, col 7 3 mtr, col 7 5 mtr, col 7 6 mtr) x.toNatClampNeg).2.1, (gM nT (BM mbk) mbl (col 7 0 mtr) (col 7 2 mtr) (col 7 4 mtr) (0, col 7 1 mtr, col 7 3 mtr, col 7 5 mtr, col 7 6 mtr) x.toNatClampNeg).2.2.1, (gM nT (BM mbk) mbl (col 7 0 mtr) (col 7 2 mtr) (col 7 4 mtr) (0, col 7 1 mtr, col 7 3 mtr, col 7 5 mtr, col 7 6 mtr) x.toNatClampNeg).2.2.2.1, (gM nT (BM mbk) mbl (col 7 0 mtr) (col 7 2 mtr) (col 7 4 mtr) (0, col 7 1 mtr, col 7 3 mtr, col 7 5 mtr, col 7 6 mtr) x.toNatClampNeg).2.2.2.2, mi + x) else (col 7 1 mtr, col 7 3 mtr, col 7 5 mtr, col 7 6 mtr, mi))
    (h2 : r2 = (if inR x 1 500 = true then (gM nT (BM mbk) mbl (col 7 0 mtr) (col 7 2 mtr) (col 7 4 mtr) (0, pk4 mtr) x.toNatClampNeg).1 else -2) ∧ (inR x 1 500 = true → pk4 mtr2 = (gM nT (BM mbk) mbl (col 7 0 mtr) (col 7 2 mtr) (col 7 4 mtr) (0, pk4 mtr) x.toNatClampNeg).2 ∧ eqM mtr mtr2 ∧ mi2 = mi + x) ∧ (¬ inR x 1 500 = true → (mtr2, mi2) = (mtr, mi))) :
    r1 = r2 ∧ pc1 = col 7 1 mtr2 ∧ mb1 = col 7 3 mtr2 ∧ mw1 = col 7 5 mtr2 ∧ mg1 = col 7 6 mtr2 ∧ mi1 = mi2 ∧ (col 7 0 mtr = col 7 0 mtr2 ∧ col 7 2 mtr = col 7 2 mtr2 ∧ col 7 4 mtr = col 7 4 mtr2) ∧ OK2 ng nT mbl mtr2 := by
  obtain ⟨rfl, h1⟩ := h1
  obtain ⟨rfl, h2, h3⟩ := h2
  refine ⟨rfl, ?_⟩
  by_cases c : inR x 1 500 = true
  · rw [if_pos c] at h1
    obtain ⟨h4, h5, h6⟩ := h2 c
    obtain ⟨g1, g2, g3, g4, g5, g6, g7⟩ := hx
    obtain ⟨k1, k2⟩ := gM_ok (B := BM mbk) (mn := col 7 2 mtr) (su := col 7 4 mtr) (q := (0, pk4 mtr)) g1 g3 x.toNatClampNeg
    rw [← h4] at k1 k2
    have h1 : (pc1, mb1, mw1, mg1, mi1) = ((gM nT (BM mbk) mbl (col 7 0 mtr) (col 7 2 mtr) (col 7 4 mtr) (0, pk4 mtr) x.toNatClampNeg).2.1, (gM nT (BM mbk) mbl (col 7 0 mtr) (col 7 2 mtr) (col 7 4 mtr) (0, pk4 mtr) x.toNatClampNeg).2.2.1, (gM nT (BM mbk) mbl (col 7 0 mtr) (col 7 2 mtr) (col 7 4 mtr) (0, pk4 mtr) x.toNatClampNeg).2.2.2.1, (gM nT (BM mbk) mbl (col 7 0 mtr) (col 7 2 mtr) (col 7 4 mtr) (0, pk4 mtr) x.toNatClampNeg).2.2.2.2, mi + x) := h1
    rw [← h4] at h1
    cases h1
    obtain ⟨e0, e2, e4⟩ := h5
    refine ⟨rfl, rfl, rfl, rfl, h6.symm, ⟨e0.symm, e2.symm, e4.symm⟩, g1, g2, ?_, g4, g5, ?_, fun i t h3 hi ht => ?_⟩
    · rw [e0]; exact k1
    · rw [e4]; exact g6
    · obtain ⟨a1, a2, a3⟩ := k2 t ht
      rcases (by omega : i = 3 ∨ i = 4 ∨ i = 5 ∨ i = 6) with rfl | rfl | rfl | rfl
      · exact a1.trans (g7 3 t h3 hi ht)
      · rw [e4]; exact g7 4 t h3 hi ht
      · exact a2.trans (g7 5 t h3 hi ht)
      · exact a3.trans (g7 6 t h3 hi ht)
  · rw [if_neg c] at h1
    cases h1
    cases h3 c
    exact ⟨rfl, rfl, rfl, rfl, rfl, ⟨rfl, rfl, rfl⟩, hx⟩

/-! section 2, the weeks in thought: what they depend on, and which hands need no trial -/
def agL (n : Nat) (L L' : Nat → Int32) : Prop := ∀ k, k < n → L k = L' k
theorem mF_c {L L' : Nat → Int32} : ∀ {n : Nat}, agL n L L' → mF L n = mF L' n
  | 0, _ => rfl
  | n + 1, h => by
    have ih : mF L n = mF L' n := mF_c (fun k hk => h k (by omega))
    have e : foO L 100 (mF L n) = foO L' 100 (mF L' n) := by
      rw [ih]
      cases q : mF L' n with
      | none => rfl
      | some b => exact h b (by have := mF_lt q; omega)
    rw [mF, mF, e, h n (by omega), ih]
theorem agL_upd {n b : Nat} {L L' : Nat → Int32} {x : Int32} (h : agL n L L') : agL n (upd L b x) (upd L' b x) := fun k hk => by
  by_cases e : k = b
  · subst e
    rw [pk_us, pk_us]
  · rw [pk_un e, pk_un e]
    exact h k hk
theorem pG_c {hw : Nat → Int32} {nw : Nat} : ∀ (f : Nat) (v : Int32) (L L' T T' : Nat → Int32) (p : Nat), agL nw L L' →
    (pG hw nw f v L T p).1 = (pG hw nw f v L' T' p).1 ∧ agL nw (pG hw nw f v L T p).2.1 (pG hw nw f v L' T' p).2.1 ∧ (pG hw nw f v L T p).2.2.2 = (pG hw nw f v L' T' p).2.2.2
  | 0, _, _, _, _, _, _, h => ⟨rfl, h, rfl⟩
  | f + 1, v, L, L', T, T', p, h => by
    have e := mF_c h
    cases q : mF L nw with
    | none =>
      rw [pG_none q, pG_none (e ▸ q)]
      exact ⟨rfl, h, rfl⟩
    | some b =>
      by_cases c : hw b ≤ v
      · rw [pG_go q c, pG_go (e ▸ q) c]
        exact pG_c f _ _ _ _ _ _ (agL_upd h)
      · rw [pG_stop q c, pG_stop (e ▸ q) c]
        exact ⟨rfl, h, rfl⟩
theorem fF_at {fa sd L : Nat → Int32} : ∀ {n k : Nat}, fF fa sd L n k = if k < n then fdv (L k - fa (sd k).toNatClampNeg) else L k
  | 0, k => by rw [if_neg (Nat.not_lt_zero _)]; rfl
  | n + 1, k => by
    have ih : ∀ {k : Nat}, fF fa sd L n k = if k < n then fdv (L k - fa (sd k).toNatClampNeg) else L k := fF_at
    show upd (fF fa sd L n) n (fdv (fF fa sd L n n - fa (sd n).toNatClampNeg)) k = _
    by_cases e : k = n
    · subst e
      rw [pk_us, if_pos (by omega), ih, if_neg (by omega)]
    · rw [pk_un e, ih]
      by_cases c : k < n
      · rw [if_pos c, if_pos (by omega)]
      · rw [if_neg c, if_neg (by omega)]
theorem fF_c {fa sd L L' : Nat → Int32} {n : Nat} (h : agL n L L') : agL n (fF fa sd L n) (fF fa sd L' n) := fun k hk => by
  rw [fF_at, fF_at, if_pos hk, if_pos hk, h k hk]
theorem kL_1 {L L' : Nat → Int32} {w : Int32} {q q' : Int32 × Int32 × Int32} : ∀ {n : Nat}, agL n L L' → q.1 = q'.1 → (kL L w q n).1 = (kL L' w q' n).1
  | 0, _, e => e
  | n + 1, h, e => by
    have ih : (kL L w q n).1 = (kL L' w q' n).1 := kL_1 (fun k hk => h k (by omega)) e
    rw [kL, kL, ih, h n (by omega)]
    by_cases c : (kL L' w q' n).1 ≤ L' n
    · rw [if_pos c, if_pos c]; exact ih
    · rw [if_neg c, if_neg c]
theorem kL_c {L L' : Nat → Int32} {w : Int32} {q : Int32 × Int32 × Int32} : ∀ {n : Nat}, agL n L L' → kL L w q n = kL L' w q n
  | 0, _ => rfl
  | n + 1, h => by
    have ih : kL L w q n = kL L' w q n := kL_c (fun k hk => h k (by omega))
    rw [kL, kL, ih, h n (by omega)]
theorem wkQ_c {fz hw : Nat → Int32} {nw w : Nat} {h : Int32} {L L' T T' : Nat → Int32} (ha : agL nw L L') :
    (wkQ fz hw nw w h L T).1 = (wkQ fz hw nw w h L' T').1 ∧ agL nw (wkQ fz hw nw w h L T).2.1 (wkQ fz hw nw w h L' T').2.1 ∧ (wkQ fz hw nw w h L T).2.2.2 = (wkQ fz hw nw w h L' T').2.2.2 := by
  unfold wkQ
  by_cases c : fz w = 0
  · rw [if_pos c, if_pos c]
    exact pG_c nw h L L' T T' 0 ha
  · rw [if_neg c, if_neg c]
    exact ⟨rfl, ha, rfl⟩
abbrev tyF : Type := (Nat → Int32) × (Nat → Int32) × (Int32 × Int32 × Int32) × Int32
/-- alike in the looks, the least of them, and what was lacking -/
def alF (nw : Nat) (q q' : tyF) : Prop := agL nw q.1 q'.1 ∧ q.2.2.1.1 = q'.2.2.1.1 ∧ q.2.2.2 = q'.2.2.2
theorem stT_al {fa fz sd hw : Nat → Int32} {nw w : Nat} {h : Int32} {q q' : tyF} (ha : alF nw q q') : alF nw (stT fa fz sd hw nw w h q) (stT fa fz sd hw nw w h q') := by
  obtain ⟨h1, h2, h3⟩ := ha
  obtain ⟨g1, g2, g3⟩ := wkQ_c (fz := fz) (hw := hw) (w := w) (h := h) (T := q.2.1) (T' := q'.2.1) h1
  refine ⟨fF_c g2, kL_1 (fF_c g2) h2, ?_⟩
  show mnO q.2.2.2 _ = mnO q'.2.2.2 _
  rw [h3, g3]
theorem fS_al {fa fz sd hw : Nat → Int32} {nw wk : Nat} {h look : Int32} {q q' : tyF} (ha : alF nw q q') : ∀ i : Nat, alF nw (fS fa fz sd hw nw wk h look q i) (fS fa fz sd hw nw wk h look q' i)
  | 0 => ha
  | i + 1 => by
    have ih := fS_al ha (fa := fa) (fz := fz) (sd := sd) (hw := hw) (wk := wk) (h := h) (look := look) i
    rw [fS, fS, ih.2.1]
    by_cases c : look ≤ (fS fa fz sd hw nw wk h look q' i).2.2.1.1
    · rw [if_pos c, if_pos c]; exact stT_al ih
    · rw [if_neg c, if_neg c]; exact ih
def canF (lo : Nat → Int32) : tyF := (lo, fun _ => 0, (101, 0, 0), 501)
theorem f0_al {nw : Nat} {lo tl tt : Nat → Int32} {lw lx : Int32} : alF nw (f0 nw lo tl tt lw lx) (canF lo) := by
  refine ⟨fun k hk => ?_, rfl, rfl⟩
  show va_cpy lo tl 0 0 nw k = lo k
  rw [pk_cpy_in (Nat.zero_le _) (by omega)]
  rw [Nat.sub_zero, Nat.zero_add]
/-- the least look for so many hands -/
def lls (fa fz sd hw : Nat → Int32) (nw wk : Nat) (look : Int32) (lo : Nat → Int32) (n h : Nat) : Int32 := (fS fa fz sd hw nw wk (nI h) look (canF lo) n).2.2.1.1
def okHW (nw : Nat) (hw : Nat → Int32) : Prop := ∀ k, k < nw → ∃ w : Nat, 1 ≤ w ∧ w ≤ 60 ∧ hw k = nI w
theorem pG_lack {hw : Nat → Int32} {nw : Nat} (hh : okHW nw hw) : ∀ (f a : Nat) (L T : Nat → Int32) (p : Nat), a ≤ 1000 →
    (pG hw nw f (nI a) L T p).2.2.2 = none ∨ ∃ y : Nat, 1 ≤ y ∧ y ≤ 60 ∧ (pG hw nw f (nI a) L T p).2.2.2 = some (nI y)
  | 0, _, _, _, _, _ => Or.inl rfl
  | f + 1, a, L, T, p, ha => by
    cases q : mF L nw with
    | none => rw [pG_none q]; exact Or.inl rfl
    | some b =>
      obtain ⟨w, w1, w2, w3⟩ := hh b (mF_lt q)
      by_cases c : hw b ≤ nI a
      · rw [pG_go q c]
        rw [w3] at c ⊢
        have c2 := (nI_leI (by omega) (by omega)).mp c
        rw [pk_sub c2]
        exact pG_lack hh f (a - w) _ _ _ (by omega)
      · rw [pG_stop q c]
        rw [w3] at c ⊢
        have c2 : ¬ w ≤ a := fun h => c ((nI_leI (by omega) (by omega)).mpr h)
        refine Or.inr ⟨w - a, by omega, by omega, ?_⟩
        rw [pk_sub (by omega)]
/-- a few hands more than were lacking less than all paint the same walls -/
theorem pG_more {hw : Nat → Int32} {nw : Nat} (hh : okHW nw hw) (e : Nat) : ∀ (f a : Nat) (L T T' : Nat → Int32) (p : Nat), a + e ≤ 1000 → (∀ y : Nat, y ≤ 60 → (pG hw nw f (nI a) L T p).2.2.2 = some (nI y) → e < y) →
    (pG hw nw f (nI (a + e)) L T' p).1 = (pG hw nw f (nI a) L T p).1 ∧ (pG hw nw f (nI (a + e)) L T' p).2.1 = (pG hw nw f (nI a) L T p).2.1
  | 0, _, _, _, _, _, _, _ => ⟨rfl, rfl⟩
  | f + 1, a, L, T, T', p, ha, hy => by
    cases q : mF L nw with
    | none => rw [pG_none q, pG_none q]; exact ⟨rfl, rfl⟩
    | some b =>
      obtain ⟨w, w1, w2, w3⟩ := hh b (mF_lt q)
      by_cases c : hw b ≤ nI a
      · have c0 : w ≤ a := by rw [w3] at c; exact (nI_leI (by omega) (by omega)).mp c
        have c3 : hw b ≤ nI (a + e) := by rw [w3]; exact (nI_leI (by omega) (by omega)).mpr (by omega)
        rw [pG_go q c] at hy ⊢
        rw [pG_go q c3]
        rw [w3, pk_sub c0] at hy ⊢
        rw [pk_sub (show w ≤ a + e by omega), show a + e - w = a - w + e by omega]
        exact pG_more hh e f (a - w) _ _ _ _ (by omega) hy
      · have c0 : ¬ w ≤ a := fun h => c (by rw [w3]; exact (nI_leI (by omega) (by omega)).mpr h)
        have h1 := hy (w - a) (by omega) (by rw [pG_stop q c, w3, pk_sub (by omega)])
        have c3 : ¬ hw b ≤ nI (a + e) := fun h => by
          rw [w3] at h
          have := (nI_leI (by omega) (by omega)).mp h
          omega
        rw [pG_stop q c, pG_stop q c3]
        exact ⟨rfl, rfl⟩
theorem wkQ_lack {fz hw : Nat → Int32} {nw w a : Nat} {L T : Nat → Int32} (hh : okHW nw hw) (ha : a ≤ 1000) : (wkQ fz hw nw w (nI a) L T).2.2.2 = none ∨ ∃ y : Nat, 1 ≤ y ∧ y ≤ 60 ∧ (wkQ fz hw nw w (nI a) L T).2.2.2 = some (nI y) := by
  unfold wkQ
  by_cases c : fz w = 0
  · rw [if_pos c]; exact pG_lack hh nw a L T 0 ha
  · rw [if_neg c]; exact Or.inl rfl
theorem wkQ_more {fz hw : Nat → Int32} {nw w a e : Nat} {L L' T T' : Nat → Int32} (hh : okHW nw hw) (hL : agL nw L L') (ha : a + e ≤ 1000) (hy : ∀ y : Nat, y ≤ 60 → (wkQ fz hw nw w (nI a) L T).2.2.2 = some (nI y) → e < y) : agL nw (wkQ fz hw nw w (nI a) L T).2.1 (wkQ fz hw nw w (nI (a + e)) L' T').2.1 := by
  have h1 := (wkQ_c (fz := fz) (hw := hw) (w := w) (h := nI (a + e)) (T := T') (T' := T') hL).2.1
  have h2 : (wkQ fz hw nw w (nI (a + e)) L T').2.1 = (wkQ fz hw nw w (nI a) L T).2.1 := by
    unfold wkQ at hy ⊢
    by_cases c : fz w = 0
    · rw [if_pos c] at hy ⊢
      rw [if_pos c]
      exact (pG_more hh e nw a L T T' 0 ha hy).2
    · rw [if_neg c, if_neg c]
  rw [h2] at h1
  exact h1
theorem mnO_min {l : Nat} {o : Option Int32} (h1 : 1 ≤ l) (h2 : l ≤ 501) (ho : o = none ∨ ∃ y : Nat, 1 ≤ y ∧ y ≤ 60 ∧ o = some (nI y)) : ∃ d : Nat, 1 ≤ d ∧ d ≤ l ∧ mnO (nI l) o = nI d ∧ ∀ y : Nat, y ≤ 60 → o = some (nI y) → d ≤ y := by
  rcases ho with rfl | ⟨y, y1, y2, rfl⟩
  · exact ⟨l, h1, Nat.le_refl _, rfl, fun y _ h => by cases h⟩
  · by_cases c : nI y < nI l
    · have c2 := (nI_ltI (by omega) (by omega)).mp c
      refine ⟨y, y1, by omega, if_pos c, fun z hz h => ?_⟩
      have := (nI_eq (a := y) (b := z) (by omega) (by omega)).mp (Option.some.inj h)
      omega
    · have c2 : ¬ y < l := fun h => c ((nI_ltI (by omega) (by omega)).mpr h)
      refine ⟨l, h1, Nat.le_refl _, if_neg c, fun z hz h => ?_⟩
      have := (nI_eq (a := y) (b := z) (by omega) (by omega)).mp (Option.some.inj h)
      omega
theorem fS_skip {fa fz sd hw : Nat → Int32} {nw wk : Nat} {look : Int32} {lo : Nat → Int32} {h : Nat} (hh : okHW nw hw) (h5 : h ≤ 500) : ∀ i : Nat, ∃ d : Nat, 1 ≤ d ∧ d ≤ 501 ∧ (fS fa fz sd hw nw wk (nI h) look (canF lo) i).2.2.2 = nI d ∧
    ∀ e : Nat, e < d → h + e ≤ 1000 → agL nw (fS fa fz sd hw nw wk (nI h) look (canF lo) i).1 (fS fa fz sd hw nw wk (nI (h + e)) look (canF lo) i).1 ∧ (fS fa fz sd hw nw wk (nI h) look (canF lo) i).2.2.1.1 = (fS fa fz sd hw nw wk (nI (h + e)) look (canF lo) i).2.2.1.1
  | 0 => ⟨501, by omega, Nat.le_refl _, rfl, fun _ _ _ => ⟨fun _ _ => rfl, rfl⟩⟩
  | i + 1 => by
    obtain ⟨d, d1, d2, d3, d4⟩ := fS_skip (fa := fa) (fz := fz) (sd := sd) (hw := hw) (wk := wk) (look := look) (lo := lo) hh h5 i
    by_cases c : look ≤ (fS fa fz sd hw nw wk (nI h) look (canF lo) i).2.2.1.1
    · have e1 : fS fa fz sd hw nw wk (nI h) look (canF lo) (i + 1) = stT fa fz sd hw nw (wk + i) (nI h) (fS fa fz sd hw nw wk (nI h) look (canF lo) i) := if_pos c
      obtain ⟨d', m1, m2, m3, m4⟩ := mnO_min d1 d2 (wkQ_lack (fz := fz) (hw := hw) (w := wk + i) (a := h) (L := (fS fa fz sd hw nw wk (nI h) look (canF lo) i).1) (T := (fS fa fz sd hw nw wk (nI h) look (canF lo) i).2.1) hh (by omega))
      refine ⟨d', m1, by omega, ?_, fun e he he2 => ?_⟩
      · rw [e1]
        show mnO (fS fa fz sd hw nw wk (nI h) look (canF lo) i).2.2.2 _ = _
        rw [d3]
        exact m3
      · obtain ⟨a1, a2⟩ := d4 e (by omega) he2
        have e2 : fS fa fz sd hw nw wk (nI (h + e)) look (canF lo) (i + 1) = stT fa fz sd hw nw (wk + i) (nI (h + e)) (fS fa fz sd hw nw wk (nI (h + e)) look (canF lo) i) := if_pos (by rw [← a2]; exact c)
        have g := wkQ_more (fz := fz) (w := wk + i) (T := (fS fa fz sd hw nw wk (nI h) look (canF lo) i).2.1) (T' := (fS fa fz sd hw nw wk (nI (h + e)) look (canF lo) i).2.1) hh a1 he2 (fun y hy hq => by have := m4 y hy hq; omega)
        rw [e1, e2]
        exact ⟨fF_c g, kL_1 (fF_c g) a2⟩
    · have e1 : fS fa fz sd hw nw wk (nI h) look (canF lo) (i + 1) = fS fa fz sd hw nw wk (nI h) look (canF lo) i := if_neg c
      refine ⟨d, d1, d2, by rw [e1]; exact d3, fun e he he2 => ?_⟩
      obtain ⟨a1, a2⟩ := d4 e he he2
      have e2 : fS fa fz sd hw nw wk (nI (h + e)) look (canF lo) (i + 1) = fS fa fz sd hw nw wk (nI (h + e)) look (canF lo) i := if_neg (by rw [← a2]; exact c)
      rw [e1, e2]
      exact ⟨a1, a2⟩
theorem foreF {fa fz sd hw : Nat → Int32} {nw wk : Nat} {look : Int32} {lo tl tt a1 a2 : Nat → Int32} {lw lx y1 y2 y3 z0 : Int32} {h n : Nat} (hh : okHW nw hw) (h5 : h ≤ 500)
    (hu : (a1, a2, (y1, y2, y3), z0) = fS fa fz sd hw nw wk (nI h) look (f0 nw lo tl tt lw lx) n) :
    y1 = lls fa fz sd hw nw wk look lo n h ∧ ∃ d : Nat, 1 ≤ d ∧ d ≤ 501 ∧ z0 = nI d ∧ (¬ look ≤ y1 → ∀ j, h ≤ j → j < h + d → j ≤ 500 → ¬ look ≤ lls fa fz sd hw nw wk look lo n j) := by
  have ha := fS_al (fa := fa) (fz := fz) (sd := sd) (hw := hw) (wk := wk) (h := nI h) (look := look) (f0_al (nw := nw) (lo := lo) (tl := tl) (tt := tt) (lw := lw) (lx := lx)) n
  rw [← hu] at ha
  obtain ⟨d, d1, d2, d3, d4⟩ := fS_skip (fa := fa) (fz := fz) (sd := sd) (hw := hw) (nw := nw) (wk := wk) (look := look) (lo := lo) hh h5 n
  have e1 : y1 = lls fa fz sd hw nw wk look lo n h := ha.2.1
  refine ⟨e1, d, d1, d2, ha.2.2.trans d3, fun hn j j1 j2 j3 hq => hn ?_⟩
  have := (d4 (j - h) (by omega) (by omega)).2
  rw [show h + (j - h) = j by omega] at this
  rw [e1]
  show look ≤ (fS fa fz sd hw nw wk (nI h) look (canF lo) n).2.2.1.1
  rw [this]
  exact hq
def rWall (nw : Nat) (p q v : Int32) : Int32 := if inR p 0 99 = true ∧ inR q 0 3 = true ∧ inR v 1 60 = true then (if nw = 24 then -4 else nI nw) else -2
def rWallOf (nw : Nat) (ho sd hw lo ti : Nat → Int32) (x w : Int32) : Int32 := if inR x 0 (nI nw - 1) = true then (if w = 0 then ho x.toNatClampNeg else if w = 1 then sd x.toNatClampNeg else if w = 2 then hw x.toNatClampNeg else if w = 3 then lo x.toNatClampNeg else if w = 4 then ti x.toNatClampNeg else -2) else -1
def rFrost (wk : Nat) (fz : Nat → Int32) (x : Int32) : Int32 := if inR x 0 199 = true then (if wk ≤ x.toNatClampNeg then fz x.toNatClampNeg else -5) else -2

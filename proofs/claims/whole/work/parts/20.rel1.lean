/-! the class and the reference, section 1 and section 4: the arrays of the one are columns of the other's -/
def OK3 (nr nt nc : Nat) (mru mth mcl : Nat → Int32) : Prop := nr ≤ 6 ∧ nt ≤ 20 ∧ nc ≤ 60 ∧ (∀ k, k < nr → ¬ col 3 1 mru k = 0) ∧ (∀ k, k < nc → col 3 1 mcl k ≤ 3000) ∧ ∀ j k, j < k → k < nc → col 3 0 mcl j = col 3 0 mcl k → col 3 1 mcl j ≤ col 3 1 mcl k
theorem upd_id {f : Nat → Int32} {k : Nat} {x : Int32} (h : f k = x) : upd f k x = f := by
  funext j
  by_cases e : j = k
  · subst e; rw [pk_us, h]
  · rw [pk_un e]
theorem lC_some {ct cd : Nat → Int32} {x d : Int32} : ∀ {n c : Nat}, lC ct cd x d n = some c → (ct c = x ∧ cd c ≤ d ∧ c < n) ∧ ∀ j, c < j → j < n → ¬ (ct j = x ∧ cd j ≤ d)
  | 0, c, h => by simp [lC] at h
  | n + 1, c, h => by
    unfold lC at h
    by_cases q : ct n = x ∧ cd n ≤ d
    · rw [if_pos q] at h
      cases h
      exact ⟨⟨q.1, q.2, Nat.lt_succ_self _⟩, fun j h1 h2 => by omega⟩
    · rw [if_neg q] at h
      obtain ⟨⟨a1, a2, a3⟩, a4⟩ := lC_some h
      refine ⟨⟨a1, a2, by omega⟩, fun j h1 h2 => ?_⟩
      rcases Nat.lt_or_ge j n with e | e
      · exact a4 j h1 e
      · rw [show j = n by omega]; exact q
theorem lC_none {ct cd : Nat → Int32} {x d : Int32} : ∀ {n : Nat}, lC ct cd x d n = none → ∀ j, j < n → ¬ (ct j = x ∧ cd j ≤ d)
  | 0, _, j, hj => absurd hj (Nat.not_lt_zero _)
  | n + 1, h, j, hj => by
    unfold lC at h
    by_cases q : ct n = x ∧ cd n ≤ d
    · rw [if_pos q] at h; cases h
    · rw [if_neg q] at h
      rcases Nat.lt_or_ge j n with e | e
      · exact lC_none h j e
      · rw [show j = n by omega]; exact q
theorem late_eq {nc : Nat} {mcl : Nat → Int32} {x d : Int32} (h3 : ∀ k, k < nc → col 3 1 mcl k ≤ 3000) (ho : ∀ j k, j < k → k < nc → col 3 0 mcl j = col 3 0 mcl k → col 3 1 mcl j ≤ col 3 1 mcl k) :
    lateC (col 3 1 mcl) d (lC (col 3 0 mcl) (col 3 1 mcl) x 3000 nc) = lateM nc mcl x d := by
  cases e : lC (col 3 0 mcl) (col 3 1 mcl) x 3000 nc with
  | none =>
    refine (lateM_f fun j hj hh => ?_).symm
    exact lC_none e j hj ⟨hh.1, h3 j hj⟩
  | some c =>
    obtain ⟨⟨a1, a2, a3⟩, a4⟩ := lC_some e
    show (!decide (col 3 1 mcl c ≤ d)) = _
    by_cases q : col 3 1 mcl c ≤ d
    · rw [show decide (col 3 1 mcl c ≤ d) = true from decide_eq_true q]
      refine (lateM_f fun j hj hh => hh.2 ?_).symm
      rcases Nat.lt_trichotomy j c with w | w | w
      · exact Int32.le_trans (ho j c w a3 (hh.1.trans a1.symm)) q
      · rw [w]; exact q
      · exact absurd ⟨hh.1, h3 j hj⟩ (a4 j w hj)
    · rw [show decide (col 3 1 mcl c ≤ d) = false from decide_eq_false q]
      exact (lateM_t a3 a1 q).symm
theorem okClip_eq {nt nc : Nat} {mth mcl : Nat → Int32} {x d v : Int32} (h3 : ∀ k, k < nc → col 3 1 mcl k ≤ 3000) (ho : ∀ j k, j < k → k < nc → col 3 0 mcl j = col 3 0 mcl k → col 3 1 mcl j ≤ col 3 1 mcl k) :
    okClip nt nc (col 4 0 mth) (col 3 0 mcl) (col 3 1 mcl) x d v = okClipM nt nc mth mcl x d v := by
  unfold okClip okClipM
  rw [late_eq h3 ho]
  rfl
theorem rClip_eq {nt nc : Nat} {mth mcl : Nat → Int32} {x d v : Int32} (h3 : ∀ k, k < nc → col 3 1 mcl k ≤ 3000) (ho : ∀ j k, j < k → k < nc → col 3 0 mcl j = col 3 0 mcl k → col 3 1 mcl j ≤ col 3 1 mcl k) :
    rClip nt nc (col 4 0 mth) (col 3 0 mcl) (col 3 1 mcl) (col 3 2 mcl) (col 4 2 mth) (grM (col 4 0 mth) (col 4 3 mth)) x d v = rClipM nt nc mth mcl x d v := by
  unfold rClip rClipM
  rw [late_eq h3 ho]
  rfl
theorem rLook_eq {nr nt nc : Nat} {mru mth mcl : Nat → Int32} {x d w : Int32} :
    rLook nr nt nc (col 3 0 mru) (col 3 1 mru) (col 3 2 mru) (col 4 0 mth) (col 4 1 mth) (col 4 2 mth) (grM (col 4 0 mth) (col 4 3 mth)) (col 3 0 mcl) (col 3 1 mcl) (col 3 2 mcl) x d w = rLookM nr nt nc mru mth mcl x d w := by
  unfold rLook rLookM
  by_cases h1 : inR x 0 (nI nt - 1) = true
  · rw [if_pos h1, if_pos h1]
    by_cases h2 : inR d 0 3000 = true
    · rw [if_pos h2]
      by_cases h3 : inR w 0 2 = true
      · rw [if_pos (show inR d 0 3000 = true ∧ inR w 0 2 = true from ⟨h2, h3⟩)]
        obtain ⟨j, hj, rfl⟩ := inR_nat (n := 2) h3 rfl
        rcases (by omega : j = 0 ∨ j = 1 ∨ j = 2) with rfl | rfl | rfl <;> rfl
      · rw [if_neg (show ¬ (inR d 0 3000 = true ∧ inR w 0 2 = true) from fun q => h3 q.2)]
        have hn : ∀ j : Int32, inR j 0 2 = true → ¬ w = j := fun j hj hq => h3 (hq ▸ hj)
        rw [if_neg (hn 0 (by decide)), if_neg (hn 1 (by decide)), if_neg (hn 2 (by decide))]
    · rw [if_neg h2, if_neg (show ¬ (inR d 0 3000 = true ∧ inR w 0 2 = true) from fun q => h2 q.1)]
  · rw [if_neg h1, if_neg h1]
/-- the steps of section 1 -/
theorem st_rule {nr nt nc : Nat} {mru mth mcl : Nat → Int32} {d q v r1 r2 : Int32} {nr1 nr2 : Nat} {rd1 rr1 rs1 mru2 : Nat → Int32} (hx : OK3 nr nt nc mru mth mcl)
    (h1 : r1 = rRule nr d q v ∧ (nr1, rd1, rr1, rs1) = if okRule d q v = true ∧ ¬ nr = 6 then (nr + 1, upd (col 3 0 mru) nr d, upd (col 3 1 mru) nr q, upd (col 3 2 mru) nr v) else (nr, col 3 0 mru, col 3 1 mru, col 3 2 mru))
    (h2 : r2 = rRule nr d q v ∧ (nr2, mru2) = if okRule d q v = true ∧ ¬ nr = 6 then (nr + 1, upd (upd (upd mru (3 * nr) d) (3 * nr + 1) q) (3 * nr + 2) v) else (nr, mru)) :
    r1 = r2 ∧ nr1 = nr2 ∧ rd1 = col 3 0 mru2 ∧ rr1 = col 3 1 mru2 ∧ rs1 = col 3 2 mru2 ∧ OK3 nr2 nt nc mru2 mth mcl := by
  obtain ⟨rfl, h1⟩ := h1
  obtain ⟨rfl, h2⟩ := h2
  refine ⟨rfl, ?_⟩
  by_cases c : okRule d q v = true ∧ ¬ nr = 6
  · rw [if_pos c] at h1 h2
    cases h1
    cases h2
    have e : ∀ i : Nat, i < 3 → col 3 i (upd (upd (upd mru (3 * nr) d) (3 * nr + 1) q) (3 * nr + 2) v) = if i = 2 then upd (col 3 2 mru) nr v else if i = 1 then upd (col 3 1 mru) nr q else upd (col 3 0 mru) nr d := fun i hi => by
      rw [col_upd hi (by decide), col_upd hi (by decide), show 3 * nr = 3 * nr + 0 from rfl, col_upd hi (by decide)]
      rcases (by omega : i = 0 ∨ i = 1 ∨ i = 2) with rfl | rfl | rfl <;> rfl
    obtain ⟨g1, g2, g3, g4, g5⟩ := hx
    refine ⟨rfl, ?_, ?_, ?_, ⟨by omega, g2, g3, fun k hk => ?_, g5⟩⟩
    · rw [e 0 (by decide)]; rfl
    · rw [e 1 (by decide)]; rfl
    · rw [e 2 (by decide)]; rfl
    · rw [e 1 (by decide)]
      show ¬ upd (col 3 1 mru) nr q k = 0
      rcases Nat.lt_or_ge k nr with w | w
      · rw [pk_un (by omega)]; exact g4 k w
      · rw [show k = nr by omega, pk_us]
        intro hq
        have := c.1
        rw [hq] at this
        simp [okRule, inR] at this
  · rw [if_neg c] at h1 h2
    cases h1
    cases h2
    exact ⟨rfl, rfl, rfl, rfl, hx⟩
theorem st_thing {nr nt nc : Nat} {mru mth mcl : Nat → Int32} {p q v g r1 r2 : Int32} {nt1 nt2 : Nat} {so1 tr1 si1 gr1 mth2 : Nat → Int32} (hx : OK3 nr nt nc mru mth mcl)
    (h1 : r1 = rThing nt p q v g ∧ (nt1, so1, tr1, si1, gr1) = if okThing p q v g = true ∧ ¬ nt = 20 then (nt + 1, upd (col 4 0 mth) nt p, upd (col 4 1 mth) nt q, upd (col 4 2 mth) nt v, upd (grM (col 4 0 mth) (col 4 3 mth)) nt (if p = 1 then g else 0)) else (nt, col 4 0 mth, col 4 1 mth, col 4 2 mth, grM (col 4 0 mth) (col 4 3 mth)))
    (h2 : r2 = rThing nt p q v g ∧ (nt2, mth2) = if okThing p q v g = true ∧ ¬ nt = 20 then (nt + 1, upd (upd (upd (upd mth (4 * nt) p) (4 * nt + 1) q) (4 * nt + 2) v) (4 * nt + 3) g) else (nt, mth)) :
    r1 = r2 ∧ nt1 = nt2 ∧ so1 = col 4 0 mth2 ∧ tr1 = col 4 1 mth2 ∧ si1 = col 4 2 mth2 ∧ gr1 = grM (col 4 0 mth2) (col 4 3 mth2) ∧ OK3 nr nt2 nc mru mth2 mcl := by
  obtain ⟨rfl, h1⟩ := h1
  obtain ⟨rfl, h2⟩ := h2
  refine ⟨rfl, ?_⟩
  by_cases c : okThing p q v g = true ∧ ¬ nt = 20
  · rw [if_pos c] at h1 h2
    cases h1
    cases h2
    have e : ∀ i : Nat, i < 4 → col 4 i (upd (upd (upd (upd mth (4 * nt) p) (4 * nt + 1) q) (4 * nt + 2) v) (4 * nt + 3) g) = if i = 3 then upd (col 4 3 mth) nt g else if i = 2 then upd (col 4 2 mth) nt v else if i = 1 then upd (col 4 1 mth) nt q else upd (col 4 0 mth) nt p := fun i hi => by
      rw [col_upd hi (by decide), col_upd hi (by decide), col_upd hi (by decide), show 4 * nt = 4 * nt + 0 from rfl, col_upd hi (by decide)]
      rcases (by omega : i = 0 ∨ i = 1 ∨ i = 2 ∨ i = 3) with rfl | rfl | rfl | rfl <;> rfl
    obtain ⟨g1, g2, g3, g4⟩ := hx
    refine ⟨rfl, ?_, ?_, ?_, ?_, ⟨g1, by omega, g3, g4⟩⟩
    · rw [e 0 (by decide)]; rfl
    · rw [e 1 (by decide)]; rfl
    · rw [e 2 (by decide)]; rfl
    · rw [e 0 (by decide), e 3 (by decide)]
      show _ = grM (upd (col 4 0 mth) nt p) (upd (col 4 3 mth) nt g)
      funext k
      unfold grM
      by_cases w : k = nt
      · subst w
        rw [pk_us, pk_us, pk_us]
      · rw [pk_un w, pk_un w, pk_un w]
  · rw [if_neg c] at h1 h2
    cases h1
    cases h2
    exact ⟨rfl, rfl, rfl, rfl, rfl, hx⟩
theorem st_clip {nr nt nc : Nat} {mru mth mcl : Nat → Int32} {x d v r1 r2 : Int32} {nc1 nc2 : Nat} {ct1 cd1 cs1 mcl2 : Nat → Int32} (hx : OK3 nr nt nc mru mth mcl)
    (h1 : r1 = rClip nt nc (col 4 0 mth) (col 3 0 mcl) (col 3 1 mcl) (col 3 2 mcl) (col 4 2 mth) (grM (col 4 0 mth) (col 4 3 mth)) x d v ∧ (nc1, ct1, cd1, cs1) = if okClip nt nc (col 4 0 mth) (col 3 0 mcl) (col 3 1 mcl) x d v = true then (nc + 1, upd (col 3 0 mcl) nc x, upd (col 3 1 mcl) nc d, upd (col 3 2 mcl) nc v) else (nc, col 3 0 mcl, col 3 1 mcl, col 3 2 mcl))
    (h2 : r2 = rClipM nt nc mth mcl x d v ∧ (nc2, mcl2) = if okClipM nt nc mth mcl x d v = true then (nc + 1, upd (upd (upd mcl (3 * nc) x) (3 * nc + 1) d) (3 * nc + 2) v) else (nc, mcl)) :
    r1 = r2 ∧ nc1 = nc2 ∧ ct1 = col 3 0 mcl2 ∧ cd1 = col 3 1 mcl2 ∧ cs1 = col 3 2 mcl2 ∧ OK3 nr nt nc2 mru mth mcl2 := by
  obtain ⟨rfl, h1⟩ := h1
  obtain ⟨rfl, h2⟩ := h2
  have hx9 := hx
  obtain ⟨g1, g2, g3, g4, g5, g6⟩ := hx
  refine ⟨rClip_eq g5 g6, ?_⟩
  rw [okClip_eq g5 g6] at h1
  by_cases c : okClipM nt nc mth mcl x d v = true
  · rw [if_pos c] at h1 h2
    cases h1
    cases h2
    have e : ∀ i : Nat, i < 3 → col 3 i (upd (upd (upd mcl (3 * nc) x) (3 * nc + 1) d) (3 * nc + 2) v) = if i = 2 then upd (col 3 2 mcl) nc v else if i = 1 then upd (col 3 1 mcl) nc d else upd (col 3 0 mcl) nc x := fun i hi => by
      rw [col_upd hi (by decide), col_upd hi (by decide), show 3 * nc = 3 * nc + 0 from rfl, col_upd hi (by decide)]
      rcases (by omega : i = 0 ∨ i = 1 ∨ i = 2) with rfl | rfl | rfl <;> rfl
    have e0 : col 3 0 (upd (upd (upd mcl (3 * nc) x) (3 * nc + 1) d) (3 * nc + 2) v) = upd (col 3 0 mcl) nc x := e 0 (by decide)
    have e1 : col 3 1 (upd (upd (upd mcl (3 * nc) x) (3 * nc + 1) d) (3 * nc + 2) v) = upd (col 3 1 mcl) nc d := e 1 (by decide)
    simp only [okClipM, Bool.and_eq_true, decide_eq_true_eq, Bool.not_eq_true'] at c
    obtain ⟨⟨⟨⟨⟨c1, c2⟩, c3⟩, c4⟩, c5⟩, c6⟩ := c
    refine ⟨rfl, e0.symm, e1.symm, (e 2 (by decide)).symm, ⟨g1, g2, by omega, g4, fun k hk => ?_, fun j k hjk hk hh => ?_⟩⟩
    · rw [e1]
      rcases Nat.lt_or_ge k nc with w | w
      · rw [pk_un (by omega)]; exact g5 k w
      · rw [show k = nc by omega, pk_us]
        exact (inR_iff.mp c2).2
    · rw [e0] at hh
      rw [e1]
      rcases Nat.lt_or_ge k nc with w | w
      · rw [pk_un (by omega), pk_un (by omega)] at hh
        rw [pk_un (by omega), pk_un (by omega)]
        exact g6 j k hjk w hh
      · have hk9 : k = nc := by omega
        subst hk9
        rw [pk_un (by omega), pk_us] at hh
        rw [pk_un (by omega), pk_us]
        rcases Decidable.em (col 3 1 mcl j ≤ d) with q | q
        · exact q
        · rw [lateM_t (by omega) hh q] at c6; cases c6
  · rw [if_neg c] at h1 h2
    cases h1
    cases h2
    exact ⟨rfl, rfl, rfl, rfl, hx9⟩
/-- section 4 -/
def OK0 (nf nn : Nat) (mno : Nat → Int32) : Prop := nf ≤ 12 ∧ nn ≤ 60 ∧ ∀ k, k < nn → col 4 2 mno k ≤ 3000 ∧ ¬ col 4 3 mno k = -6
theorem pO_tB {fg dy tl : Nat → Int32} {f d : Int32} : ∀ {n : Nat}, (∀ k, k < n → tl k ≤ 3000) → pO fg dy tl f d 3000 n = tB fg dy f d n
  | 0, _ => rfl
  | n + 1, h => by
    unfold pO tB
    rw [pO_tB (n := n) (fun k hk => h k (by omega))]
    by_cases c : (fg n = f ∧ dy n ≤ d) ∧ pvO dy n (tB fg dy f d n) = true
    · rw [if_pos c, if_pos ⟨⟨h n (Nat.lt_succ_self _), c.1⟩, c.2⟩]
    · rw [if_neg c, if_neg (fun q => c ⟨q.1.2, q.2⟩)]
theorem tC_mC {fg dy tl pl : Nat → Int32} {f d : Int32} : ∀ {n : Nat}, (∀ k, k < n → tl k ≤ 3000 ∧ ¬ pl k = -6) → tC fg dy pl f d n = mC fg dy tl pl f d n
  | 0, _ => rfl
  | n + 1, h => by
    unfold tC mC
    rw [tC_mC (n := n) (tl := tl) (fun k hk => h k (by omega)), pO_tB (n := n) (fun k hk => (h k (by omega)).1), pO_tB (n := n + 1) (fun k hk => (h k (by omega)).1)]
    rw [tB]
    by_cases c : (fg n = f ∧ dy n ≤ d) ∧ pvO dy n (tB fg dy f d n) = true
    · rw [if_pos c]
      cases e : tB fg dy f d n with
      | none =>
        rw [if_pos (show ((fg n = f ∧ dy n ≤ d) ∧ pvO dy n none = true) ∧ neO pl n none = true from ⟨e ▸ c, rfl⟩), if_neg (show ¬ foO pl (-6) none = foO pl (-6) (some n) from fun q => (h n (Nat.lt_succ_self _)).2 q.symm)]
      | some b =>
        by_cases w : pl n = pl b
        · rw [if_neg (show ¬ (((fg n = f ∧ dy n ≤ d) ∧ pvO dy n (some b) = true) ∧ neO pl n (some b) = true) from fun q => (of_decide_eq_true q.2) w), if_pos (show foO pl (-6) (some b) = foO pl (-6) (some n) from w.symm), Int32.add_zero]
        · rw [if_pos (show ((fg n = f ∧ dy n ≤ d) ∧ pvO dy n (some b) = true) ∧ neO pl n (some b) = true from ⟨e ▸ c, decide_eq_true w⟩), if_neg (show ¬ foO pl (-6) (some b) = foO pl (-6) (some n) from fun q => w q.symm)]
    · rw [if_neg c, if_neg (fun q => c q.1), if_pos rfl, Int32.add_zero]
theorem rTurns_eq {nf nn : Nat} {mno : Nat → Int32} {x d : Int32} (hx : OK0 nf nn mno) : rTurns nf nn (col 4 0 mno) (col 4 1 mno) (col 4 3 mno) x d = rTurnsM nf nn mno x d := by
  unfold rTurns rTurnsM
  rw [tC_mC (tl := col 4 2 mno) hx.2.2]
theorem st_figure {nf nn : Nat} {mno : Nat → Int32} {r1 r2 : Int32} {nf1 nf2 : Nat} (hx : OK0 nf nn mno) (h1 : r1 = rFigure nf ∧ nf1 = if nf = 12 then nf else nf + 1) (h2 : r2 = rFigure nf ∧ nf2 = if nf = 12 then nf else nf + 1) : r1 = r2 ∧ nf1 = nf2 ∧ OK0 nf2 nn mno := by
  obtain ⟨rfl, rfl⟩ := h1
  obtain ⟨rfl, rfl⟩ := h2
  refine ⟨rfl, rfl, ?_, hx.2⟩
  have := hx.1
  split <;> omega
theorem st_note {nf nn : Nat} {mno : Nat → Int32} {x d t q r1 r2 : Int32} {nn1 nn2 : Nat} {fg1 dy1 tl1 pl1 mno2 : Nat → Int32} (hx : OK0 nf nn mno)
    (h1 : r1 = rNote nf nn (col 4 2 mno) x d t q ∧ (nn1, fg1, dy1, tl1, pl1) = if okNote nf nn (col 4 2 mno) x d t q = true then (nn + 1, upd (col 4 0 mno) nn x, upd (col 4 1 mno) nn d, upd (col 4 2 mno) nn t, upd (col 4 3 mno) nn q) else (nn, col 4 0 mno, col 4 1 mno, col 4 2 mno, col 4 3 mno))
    (h2 : r2 = rNote nf nn (col 4 2 mno) x d t q ∧ (nn2, mno2) = if okNote nf nn (col 4 2 mno) x d t q = true then (nn + 1, upd (upd (upd (upd mno (4 * nn) x) (4 * nn + 1) d) (4 * nn + 2) t) (4 * nn + 3) q) else (nn, mno)) :
    r1 = r2 ∧ nn1 = nn2 ∧ fg1 = col 4 0 mno2 ∧ dy1 = col 4 1 mno2 ∧ tl1 = col 4 2 mno2 ∧ pl1 = col 4 3 mno2 ∧ OK0 nf nn2 mno2 := by
  obtain ⟨rfl, h1⟩ := h1
  obtain ⟨rfl, h2⟩ := h2
  refine ⟨rfl, ?_⟩
  by_cases c : okNote nf nn (col 4 2 mno) x d t q = true
  · rw [if_pos c] at h1 h2
    cases h1
    cases h2
    have e : ∀ i : Nat, i < 4 → col 4 i (upd (upd (upd (upd mno (4 * nn) x) (4 * nn + 1) d) (4 * nn + 2) t) (4 * nn + 3) q) = if i = 3 then upd (col 4 3 mno) nn q else if i = 2 then upd (col 4 2 mno) nn t else if i = 1 then upd (col 4 1 mno) nn d else upd (col 4 0 mno) nn x := fun i hi => by
      rw [col_upd hi (by decide), col_upd hi (by decide), col_upd hi (by decide), show 4 * nn = 4 * nn + 0 from rfl, col_upd hi (by decide)]
      rcases (by omega : i = 0 ∨ i = 1 ∨ i = 2 ∨ i = 3) with rfl | rfl | rfl | rfl <;> rfl
    simp only [okNote, Bool.and_eq_true, decide_eq_true_eq] at c
    obtain ⟨⟨⟨⟨⟨⟨c1, c2⟩, c3⟩, c4⟩, c5⟩, c6⟩, c7⟩ := c
    refine ⟨rfl, (e 0 (by decide)).symm, (e 1 (by decide)).symm, (e 2 (by decide)).symm, (e 3 (by decide)).symm, hx.1, by have := hx.2.1; omega, fun k hk => ?_⟩
    rw [show col 4 2 (upd (upd (upd (upd mno (4 * nn) x) (4 * nn + 1) d) (4 * nn + 2) t) (4 * nn + 3) q) = upd (col 4 2 mno) nn t from e 2 (by decide), show col 4 3 (upd (upd (upd (upd mno (4 * nn) x) (4 * nn + 1) d) (4 * nn + 2) t) (4 * nn + 3) q) = upd (col 4 3 mno) nn q from e 3 (by decide)]
    rcases Nat.lt_or_ge k nn with w | w
    · rw [pk_un (by omega), pk_un (by omega)]; exact hx.2.2 k w
    · rw [show k = nn by omega, pk_us, pk_us]
      exact ⟨(inR_iff.mp c3).2, fun z => absurd (z ▸ c4) (by decide)⟩
  · rw [if_neg c] at h1 h2
    cases h1
    cases h2
    exact ⟨rfl, rfl, rfl, rfl, rfl, hx⟩

/-! the law from its entry -/
theorem sw_28 (x : Int32) : x = 0 ∨ x = 1 ∨ x = 2 ∨ x = 3 ∨ x = 4 ∨ x = 5 ∨ x = 6 ∨ x = 7 ∨ x = 8 ∨ x = 9 ∨ x = 10 ∨ x = 11 ∨ x = 12 ∨ x = 13 ∨ x = 14 ∨ x = 15 ∨ x = 16 ∨ x = 17 ∨ x = 18 ∨ x = 19 ∨ x = 20 ∨ x = 21 ∨ x = 22 ∨ x = 23 ∨ x = 24 ∨ x = 25 ∨ x = 26 ∨ x = 27 ∨ (x.toInt < 0 ∨ 27 < x.toInt) := by
  rcases Decidable.em (x.toInt < 0 ∨ 27 < x.toInt) with h | h
  · exact Or.inr (Or.inr (Or.inr (Or.inr (Or.inr (Or.inr (Or.inr (Or.inr (Or.inr (Or.inr (Or.inr (Or.inr (Or.inr (Or.inr (Or.inr (Or.inr (Or.inr (Or.inr (Or.inr (Or.inr (Or.inr (Or.inr (Or.inr (Or.inr (Or.inr (Or.inr (Or.inr (Or.inr (h))))))))))))))))))))))))))))
  · obtain ⟨j, hj, rfl⟩ : ∃ j : Nat, j < 28 ∧ x = nI j := by
      refine ⟨x.toInt.toNat, by omega, Int32.toInt_inj.mp ?_⟩
      rw [nI_toInt (by omega)]
      omega
    rcases (show j = 0 ∨ j = 1 ∨ j = 2 ∨ j = 3 ∨ j = 4 ∨ j = 5 ∨ j = 6 ∨ j = 7 ∨ j = 8 ∨ j = 9 ∨ j = 10 ∨ j = 11 ∨ j = 12 ∨ j = 13 ∨ j = 14 ∨ j = 15 ∨ j = 16 ∨ j = 17 ∨ j = 18 ∨ j = 19 ∨ j = 20 ∨ j = 21 ∨ j = 22 ∨ j = 23 ∨ j = 24 ∨ j = 25 ∨ j = 26 ∨ j = 27 by omega) with rfl | rfl | rfl | rfl | rfl | rfl | rfl | rfl | rfl | rfl | rfl | rfl | rfl | rfl | rfl | rfl | rfl | rfl | rfl | rfl | rfl | rfl | rfl | rfl | rfl | rfl | rfl | rfl
    · exact Or.inl rfl
    · exact Or.inr (Or.inl rfl)
    · exact Or.inr (Or.inr (Or.inl rfl))
    · exact Or.inr (Or.inr (Or.inr (Or.inl rfl)))
    · exact Or.inr (Or.inr (Or.inr (Or.inr (Or.inl rfl))))
    · exact Or.inr (Or.inr (Or.inr (Or.inr (Or.inr (Or.inl rfl)))))
    · exact Or.inr (Or.inr (Or.inr (Or.inr (Or.inr (Or.inr (Or.inl rfl))))))
    · exact Or.inr (Or.inr (Or.inr (Or.inr (Or.inr (Or.inr (Or.inr (Or.inl rfl)))))))
    · exact Or.inr (Or.inr (Or.inr (Or.inr (Or.inr (Or.inr (Or.inr (Or.inr (Or.inl rfl))))))))
    · exact Or.inr (Or.inr (Or.inr (Or.inr (Or.inr (Or.inr (Or.inr (Or.inr (Or.inr (Or.inl rfl)))))))))
    · exact Or.inr (Or.inr (Or.inr (Or.inr (Or.inr (Or.inr (Or.inr (Or.inr (Or.inr (Or.inr (Or.inl rfl))))))))))
    · exact Or.inr (Or.inr (Or.inr (Or.inr (Or.inr (Or.inr (Or.inr (Or.inr (Or.inr (Or.inr (Or.inr (Or.inl rfl)))))))))))
    · exact Or.inr (Or.inr (Or.inr (Or.inr (Or.inr (Or.inr (Or.inr (Or.inr (Or.inr (Or.inr (Or.inr (Or.inr (Or.inl rfl))))))))))))
    · exact Or.inr (Or.inr (Or.inr (Or.inr (Or.inr (Or.inr (Or.inr (Or.inr (Or.inr (Or.inr (Or.inr (Or.inr (Or.inr (Or.inl rfl)))))))))))))
    · exact Or.inr (Or.inr (Or.inr (Or.inr (Or.inr (Or.inr (Or.inr (Or.inr (Or.inr (Or.inr (Or.inr (Or.inr (Or.inr (Or.inr (Or.inl rfl))))))))))))))
    · exact Or.inr (Or.inr (Or.inr (Or.inr (Or.inr (Or.inr (Or.inr (Or.inr (Or.inr (Or.inr (Or.inr (Or.inr (Or.inr (Or.inr (Or.inr (Or.inl rfl)))))))))))))))
    · exact Or.inr (Or.inr (Or.inr (Or.inr (Or.inr (Or.inr (Or.inr (Or.inr (Or.inr (Or.inr (Or.inr (Or.inr (Or.inr (Or.inr (Or.inr (Or.inr (Or.inl rfl))))))))))))))))
    · exact Or.inr (Or.inr (Or.inr (Or.inr (Or.inr (Or.inr (Or.inr (Or.inr (Or.inr (Or.inr (Or.inr (Or.inr (Or.inr (Or.inr (Or.inr (Or.inr (Or.inr (Or.inl rfl)))))))))))))))))
    · exact Or.inr (Or.inr (Or.inr (Or.inr (Or.inr (Or.inr (Or.inr (Or.inr (Or.inr (Or.inr (Or.inr (Or.inr (Or.inr (Or.inr (Or.inr (Or.inr (Or.inr (Or.inr (Or.inl rfl))))))))))))))))))
    · exact Or.inr (Or.inr (Or.inr (Or.inr (Or.inr (Or.inr (Or.inr (Or.inr (Or.inr (Or.inr (Or.inr (Or.inr (Or.inr (Or.inr (Or.inr (Or.inr (Or.inr (Or.inr (Or.inr (Or.inl rfl)))))))))))))))))))
    · exact Or.inr (Or.inr (Or.inr (Or.inr (Or.inr (Or.inr (Or.inr (Or.inr (Or.inr (Or.inr (Or.inr (Or.inr (Or.inr (Or.inr (Or.inr (Or.inr (Or.inr (Or.inr (Or.inr (Or.inr (Or.inl rfl))))))))))))))))))))
    · exact Or.inr (Or.inr (Or.inr (Or.inr (Or.inr (Or.inr (Or.inr (Or.inr (Or.inr (Or.inr (Or.inr (Or.inr (Or.inr (Or.inr (Or.inr (Or.inr (Or.inr (Or.inr (Or.inr (Or.inr (Or.inr (Or.inl rfl)))))))))))))))))))))
    · exact Or.inr (Or.inr (Or.inr (Or.inr (Or.inr (Or.inr (Or.inr (Or.inr (Or.inr (Or.inr (Or.inr (Or.inr (Or.inr (Or.inr (Or.inr (Or.inr (Or.inr (Or.inr (Or.inr (Or.inr (Or.inr (Or.inr (Or.inl rfl))))))))))))))))))))))
    · exact Or.inr (Or.inr (Or.inr (Or.inr (Or.inr (Or.inr (Or.inr (Or.inr (Or.inr (Or.inr (Or.inr (Or.inr (Or.inr (Or.inr (Or.inr (Or.inr (Or.inr (Or.inr (Or.inr (Or.inr (Or.inr (Or.inr (Or.inr (Or.inl rfl)))))))))))))))))))))))
    · exact Or.inr (Or.inr (Or.inr (Or.inr (Or.inr (Or.inr (Or.inr (Or.inr (Or.inr (Or.inr (Or.inr (Or.inr (Or.inr (Or.inr (Or.inr (Or.inr (Or.inr (Or.inr (Or.inr (Or.inr (Or.inr (Or.inr (Or.inr (Or.inr (Or.inl rfl))))))))))))))))))))))))
    · exact Or.inr (Or.inr (Or.inr (Or.inr (Or.inr (Or.inr (Or.inr (Or.inr (Or.inr (Or.inr (Or.inr (Or.inr (Or.inr (Or.inr (Or.inr (Or.inr (Or.inr (Or.inr (Or.inr (Or.inr (Or.inr (Or.inr (Or.inr (Or.inr (Or.inr (Or.inl rfl)))))))))))))))))))))))))
    · exact Or.inr (Or.inr (Or.inr (Or.inr (Or.inr (Or.inr (Or.inr (Or.inr (Or.inr (Or.inr (Or.inr (Or.inr (Or.inr (Or.inr (Or.inr (Or.inr (Or.inr (Or.inr (Or.inr (Or.inr (Or.inr (Or.inr (Or.inr (Or.inr (Or.inr (Or.inr (Or.inl rfl))))))))))))))))))))))))))
    · exact Or.inr (Or.inr (Or.inr (Or.inr (Or.inr (Or.inr (Or.inr (Or.inr (Or.inr (Or.inr (Or.inr (Or.inr (Or.inr (Or.inr (Or.inr (Or.inr (Or.inr (Or.inr (Or.inr (Or.inr (Or.inr (Or.inr (Or.inr (Or.inr (Or.inr (Or.inr (Or.inr (Or.inl rfl)))))))))))))))))))))))))))
def nestW : List Cond := [.methodLinkNest RX0 32 yX4_isDay "ModelTown", .methodLinkNest RX0 35 yX4_isWithin "ModelTown", .methodLinkNest RX1 44 yX4_isWithin "ModelTown", .methodLinkNest RX1 54 yX4_oneIf "ModelTown", .methodLinkNest RX2 50 yX4_isWithin "ModelTown", .methodLinkNest RX2 71 yX4_oneIf "ModelTown", .methodLinkNest RX3 42 yX4_isDay "ModelTown", .methodLinkNest RX3 46 yX4_isWithin "ModelTown", .methodLinkNest RX4 9 yX3_init "ModelTown", .methodLinkNest RX4 25 yX2_init "ModelTown", .methodLinkNest RX4 32 yX0_init "ModelTown", .fieldLinkNest RX4 124 "ModelTown$Scale" "rules" "I" "ModelTown", .fieldLinkNest RX4 128 "ModelTown$Scale" "things" "I" "ModelTown", .fieldLinkNest RX4 131 "ModelTown$Paint" "walls" "I" "ModelTown", .fieldLinkNest RX4 134 "ModelTown$Paint" "week" "I" "ModelTown", .fieldLinkNest RX4 137 "ModelTown$Paint" "hands" "I" "ModelTown", .fieldLinkNest RX4 140 "ModelTown$Rails" "rings" "I" "ModelTown", .fieldLinkNest RX4 143 "ModelTown$Rails" "trains" "I" "ModelTown", .fieldLinkNest RX4 146 "ModelTown$Rails" "minutesGone" "I" "ModelTown", .fieldLinkNest RX4 149 "ModelTown$Book" "figures" "I" "ModelTown", .fieldLinkNest RX4 152 "ModelTown$Book" "notes" "I" "ModelTown", .arrayOver (.array .int)]
set_option maxRecDepth 20000 in
theorem nest_in : ∀ w ∈ nestW, w ∈ lw_tbl := posIn _ [564, 563, 359, 392, 465, 502, 263, 269, 61, 169, 217, 69, 75, 126, 119, 117, 178, 187, 189, 222, 228, 174] (by decide +kernel)
theorem law_nst {s : State} {b : Nat} (hts0 : ∀ w ∈ lw_tbl, w.before #[Value.ref b] s = true) : nst s := ⟨va_Nw.of rfl (hts0 _ (nest_in _ (List.mem_of_getElem? (i := 0) rfl))), va_Nw.of rfl (hts0 _ (nest_in _ (List.mem_of_getElem? (i := 1) rfl))), va_Nw.of rfl (hts0 _ (nest_in _ (List.mem_of_getElem? (i := 2) rfl))), va_Nw.of rfl (hts0 _ (nest_in _ (List.mem_of_getElem? (i := 3) rfl))), va_Nw.of rfl (hts0 _ (nest_in _ (List.mem_of_getElem? (i := 4) rfl))), va_Nw.of rfl (hts0 _ (nest_in _ (List.mem_of_getElem? (i := 5) rfl))), va_Nw.of rfl (hts0 _ (nest_in _ (List.mem_of_getElem? (i := 6) rfl))), va_Nw.of rfl (hts0 _ (nest_in _ (List.mem_of_getElem? (i := 7) rfl))), va_Nw.of rfl (hts0 _ (nest_in _ (List.mem_of_getElem? (i := 8) rfl))), va_Nw.of rfl (hts0 _ (nest_in _ (List.mem_of_getElem? (i := 9) rfl))), va_Nw.of rfl (hts0 _ (nest_in _ (List.mem_of_getElem? (i := 10) rfl))), va_Nw.of rfl (hts0 _ (nest_in _ (List.mem_of_getElem? (i := 11) rfl))), va_Nw.of rfl (hts0 _ (nest_in _ (List.mem_of_getElem? (i := 12) rfl))), va_Nw.of rfl (hts0 _ (nest_in _ (List.mem_of_getElem? (i := 13) rfl))), va_Nw.of rfl (hts0 _ (nest_in _ (List.mem_of_getElem? (i := 14) rfl))), va_Nw.of rfl (hts0 _ (nest_in _ (List.mem_of_getElem? (i := 15) rfl))), va_Nw.of rfl (hts0 _ (nest_in _ (List.mem_of_getElem? (i := 16) rfl))), va_Nw.of rfl (hts0 _ (nest_in _ (List.mem_of_getElem? (i := 17) rfl))), va_Nw.of rfl (hts0 _ (nest_in _ (List.mem_of_getElem? (i := 18) rfl))), va_Nw.of rfl (hts0 _ (nest_in _ (List.mem_of_getElem? (i := 19) rfl))), va_Nw.of rfl (hts0 _ (nest_in _ (List.mem_of_getElem? (i := 20) rfl))), hts0 _ (nest_in _ (List.mem_of_getElem? (i := 21) rfl))⟩
set_option maxHeartbeats 4000000 in
set_option maxRecDepth 100000 in
theorem law_known {s : State} {b : Nat} (hts0 : ∀ w ∈ lw_tbl, w.before #[Value.ref b] s = true) : ∃ (D : va_G) (cI cZ cG : ClassId), va_K D vwCl (tyL cI cZ cG) s := by
  have hts : ∀ w ∈ wsL_law, w.before #[Value.ref b] s = true := fun w h => hts0 w (wsL_law_in w h)
  obtain ⟨c0, i0, k0⟩ := u_known hts inlX0 (hts0 (.instantiable RX0 6) (List.mem_of_getElem? (i := 216) (by decide +kernel)))
  obtain ⟨c1, i1, k1⟩ := u_known hts inlX1 (hts0 (.instantiable RX1 16) (List.mem_of_getElem? (i := 109) (by decide +kernel)))
  obtain ⟨c2, i2, k2⟩ := u_known hts inlX2 (hts0 (.instantiable RX2 12) (List.mem_of_getElem? (i := 168) (by decide +kernel)))
  obtain ⟨c3, i3, k3⟩ := u_known hts inlX3 (hts0 (.instantiable RX3 13) (List.mem_of_getElem? (i := 60) (by decide +kernel)))
  obtain ⟨c4, i4, k4⟩ := u_known hts inlX4 (hts0 (.instantiable RX4 4) (List.mem_of_getElem? (i := 52) (by decide +kernel)))
  obtain ⟨c5, i5, k5⟩ := u_known hts inlX5 (hts0 (.instantiable RX5 24) (List.mem_of_getElem? (i := 606) (by decide +kernel)))
  obtain ⟨cI, kI, mI, fI1, fI2, fI3⟩ := Cond.arrayClass_spec (hts0 (.arrayClass .int) (List.mem_of_getElem? (i := 107) (by decide +kernel)))
  obtain ⟨cZ, kZ, mZ, fZ1, fZ2, fZ3⟩ := Cond.arrayClass_spec (hts0 (.arrayClass .boolean) (List.mem_of_getElem? (i := 166) (by decide +kernel)))
  obtain ⟨mG, cG, kG, _, fG2, fG3, fG1⟩ := Cond.arrayOver_specA (hts0 _ (nest_in _ (List.mem_of_getElem? (i := 21) rfl)))
  refine ⟨(fun k => [c0, c1, c2, c3, c4, c5].getD k c0, fun k => [i0, i1, i2, i3, i4, i5].getD k i0), cI, cZ, cG, fun ci q hq => ?_, fun k q hk => ?_⟩
  · have hlt : ci < 6 := (List.getElem?_eq_some_iff.mp hq).1
    rcases (show ci = 0 ∨ ci = 1 ∨ ci = 2 ∨ ci = 3 ∨ ci = 4 ∨ ci = 5 by omega) with rfl | rfl | rfl | rfl | rfl | rfl
    · cases hq; exact k0
    · cases hq; exact k1
    · cases hq; exact k2
    · cases hq; exact k3
    · cases hq; exact k4
    · cases hq; exact k5
  · have hlt : k < 3 := (List.getElem?_eq_some_iff.mp hk).1
    rcases (show k = 0 ∨ k = 1 ∨ k = 2 by omega) with rfl | rfl | rfl
    · cases hk; exact ⟨fun n z => ⟨fun _ h => (by cases h), kI, fI2, mI, fI3⟩, fI1⟩
    · cases hk; exact ⟨fun n z => ⟨fun _ h => (by cases h), kZ, fZ2, mZ, fZ3⟩, fZ1⟩
    · cases hk; exact ⟨fun n z => ⟨fun _ h => (by cases h), kG, fG2, mG, fG3⟩, fG1⟩
def rs0 : RS := rsM 0 0 0 0 0 0 0 0 0 20 0 (fun _ => 0) (fun _ => 0) (fun _ => 0) (upd (upd (upd (upd (fun _ => 0) 0 5) 1 5) 2 5) 3 5) (fun _ => 0) (fun _ => 0) (fun _ => 0) (fun _ => 0) (fun _ => 0) (fun _ => 0) (fun _ => 0) (fun _ => 0) (fun _ => 0) 0 0 0 0 (fun _ => 0) (fun _ => 0)
theorem rs0_ok : OKx rs0 := by
  refine ⟨⟨by decide, by decide, by decide, fun k hk => absurd hk (Nat.not_lt_zero _), fun k hk => absurd hk (Nat.not_lt_zero _), fun j k _ hk => absurd hk (Nat.not_lt_zero _)⟩, ⟨by decide, by decide, fun k hk => absurd hk (Nat.not_lt_zero _), fun k hk => absurd hk (Nat.not_lt_zero _), fun t => Or.inl rfl, fun j hj => ?_, fun k hk => absurd hk (Nat.not_lt_zero _), fun k _ => rfl⟩, ⟨by decide, by decide, fun t ht => absurd ht (Nat.not_lt_zero _), fun r _ => ⟨0, by decide, rfl⟩, fun k _ => rfl, fun t => Or.inl rfl, fun i t _ _ _ => rfl⟩, ⟨by decide, by decide, fun k hk => absurd hk (Nat.not_lt_zero _)⟩⟩
  rcases (show j = 0 ∨ j = 1 ∨ j = 2 ∨ j = 3 by omega) with rfl | rfl | rfl | rfl <;> decide
theorem grM_zero : grM (col 4 0 (fun _ => 0)) (col 4 3 (fun _ => 0)) = (fun _ => 0) := by
  funext t
  show (if (0 : Int32) = 1 then (0 : Int32) else 0) = 0
  decide
theorem law_end {L k : Nat} (hL : L ≤ 2560) (hk : 5 * k ≤ 2570) (h : ¬ nI L - 5 < nI (5 * k)) : 5 * k + 5 ≤ L := by
  rw [show (5 : Int32) = nI 5 from rfl, Int32.lt_iff_toInt_lt, pk_sub_toInt (by omega) (by omega), nI_toInt (by omega)] at h
  omega

section
-- ===== PART A: goes FIRST, ahead of the names: the tables' words, and 'selects' of the private methods out of them =====
/-- a private method of a class that the tables say can be made, by its rows of tables_1 -/
def lw_okq (q : MethodName × Nat) : Prop := (q.1.cls ≠ "java/lang/invoke/MethodHandle" ∧ q.1.cls ≠ "java/lang/invoke/VarHandle") ∧ Cond.instantiable q.1.cls q.2 ∈ tables_1 ∧ Cond.privateMethod q.1 ∈ tables_1 ∧ Cond.instanceMethod q.1 ∈ tables_1
theorem lw_p0 : lw_okq (⟨"ModelTown$Scale", "ratioOn", "(I)I"⟩, 13) := ⟨⟨by decide +kernel, by decide +kernel⟩, List.mem_of_getElem? (i := 18) (by decide +kernel), List.mem_of_getElem? (i := 237) (by decide +kernel), List.mem_of_getElem? (i := 238) (by decide +kernel)⟩
theorem lw_p1 : lw_okq (⟨"ModelTown$Scale", "ruleOn", "(I)I"⟩, 13) := ⟨⟨by decide +kernel, by decide +kernel⟩, List.mem_of_getElem? (i := 18) (by decide +kernel), List.mem_of_getElem? (i := 241) (by decide +kernel), List.mem_of_getElem? (i := 242) (by decide +kernel)⟩
theorem lw_p2 : lw_okq (⟨"ModelTown$Scale", "slackOn", "(I)I"⟩, 13) := ⟨⟨by decide +kernel, by decide +kernel⟩, List.mem_of_getElem? (i := 18) (by decide +kernel), List.mem_of_getElem? (i := 245) (by decide +kernel), List.mem_of_getElem? (i := 246) (by decide +kernel)⟩
theorem lw_p3 : lw_okq (⟨"ModelTown$Scale", "isThing", "(I)Z"⟩, 13) := ⟨⟨by decide +kernel, by decide +kernel⟩, List.mem_of_getElem? (i := 18) (by decide +kernel), List.mem_of_getElem? (i := 266) (by decide +kernel), List.mem_of_getElem? (i := 267) (by decide +kernel)⟩
theorem lw_p4 : lw_okq (⟨"ModelTown$Scale", "clippingOn", "(II)I"⟩, 13) := ⟨⟨by decide +kernel, by decide +kernel⟩, List.mem_of_getElem? (i := 18) (by decide +kernel), List.mem_of_getElem? (i := 270) (by decide +kernel), List.mem_of_getElem? (i := 271) (by decide +kernel)⟩
theorem lw_p5 : lw_okq (⟨"ModelTown$Scale", "sizeOn", "(II)I"⟩, 13) := ⟨⟨by decide +kernel, by decide +kernel⟩, List.mem_of_getElem? (i := 18) (by decide +kernel), List.mem_of_getElem? (i := 274) (by decide +kernel), List.mem_of_getElem? (i := 275) (by decide +kernel)⟩
theorem lw_p6 : lw_okq (⟨"ModelTown$Scale", "dueOn", "(II)I"⟩, 13) := ⟨⟨by decide +kernel, by decide +kernel⟩, List.mem_of_getElem? (i := 18) (by decide +kernel), List.mem_of_getElem? (i := 286) (by decide +kernel), List.mem_of_getElem? (i := 287) (by decide +kernel)⟩
theorem lw_p7 : lw_okq (⟨"ModelTown$Scale", "faultOn", "(II)I"⟩, 13) := ⟨⟨by decide +kernel, by decide +kernel⟩, List.mem_of_getElem? (i := 18) (by decide +kernel), List.mem_of_getElem? (i := 290) (by decide +kernel), List.mem_of_getElem? (i := 291) (by decide +kernel)⟩
theorem lw_p8 : lw_okq (⟨"ModelTown$Paint", "passWeek", "(II[I[I)I"⟩, 16) := ⟨⟨by decide +kernel, by decide +kernel⟩, List.mem_of_getElem? (i := 67) (by decide +kernel), List.mem_of_getElem? (i := 362) (by decide +kernel), List.mem_of_getElem? (i := 363) (by decide +kernel)⟩
theorem lw_p9 : lw_okq (⟨"ModelTown$Paint", "paintWalls", "(I[I[I)I"⟩, 16) := ⟨⟨by decide +kernel, by decide +kernel⟩, List.mem_of_getElem? (i := 67) (by decide +kernel), List.mem_of_getElem? (i := 366) (by decide +kernel), List.mem_of_getElem? (i := 367) (by decide +kernel)⟩
theorem lw_p10 : lw_okq (⟨"ModelTown$Paint", "mostFaded", "([I)I"⟩, 16) := ⟨⟨by decide +kernel, by decide +kernel⟩, List.mem_of_getElem? (i := 67) (by decide +kernel), List.mem_of_getElem? (i := 370) (by decide +kernel), List.mem_of_getElem? (i := 371) (by decide +kernel)⟩
theorem lw_p11 : lw_okq (⟨"ModelTown$Paint", "foresee", "(III)V"⟩, 16) := ⟨⟨by decide +kernel, by decide +kernel⟩, List.mem_of_getElem? (i := 67) (by decide +kernel), List.mem_of_getElem? (i := 385) (by decide +kernel), List.mem_of_getElem? (i := 386) (by decide +kernel)⟩
theorem lw_p12 : lw_okq (⟨"ModelTown$Paint", "keepLeast", "(I)V"⟩, 16) := ⟨⟨by decide +kernel, by decide +kernel⟩, List.mem_of_getElem? (i := 67) (by decide +kernel), List.mem_of_getElem? (i := 392) (by decide +kernel), List.mem_of_getElem? (i := 393) (by decide +kernel)⟩
theorem lw_p13 : lw_okq (⟨"ModelTown$Rails", "isRing", "(I)Z"⟩, 12) := ⟨⟨by decide +kernel, by decide +kernel⟩, List.mem_of_getElem? (i := 126) (by decide +kernel), List.mem_of_getElem? (i := 420) (by decide +kernel), List.mem_of_getElem? (i := 421) (by decide +kernel)⟩
theorem lw_p14 : lw_okq (⟨"ModelTown$Rails", "hasTrain", "(I)Z"⟩, 12) := ⟨⟨by decide +kernel, by decide +kernel⟩, List.mem_of_getElem? (i := 126) (by decide +kernel), List.mem_of_getElem? (i := 425) (by decide +kernel), List.mem_of_getElem? (i := 426) (by decide +kernel)⟩
theorem lw_p15 : lw_okq (⟨"ModelTown$Rails", "hasBlock", "(II)Z"⟩, 12) := ⟨⟨by decide +kernel, by decide +kernel⟩, List.mem_of_getElem? (i := 126) (by decide +kernel), List.mem_of_getElem? (i := 429) (by decide +kernel), List.mem_of_getElem? (i := 430) (by decide +kernel)⟩
def lw_privs_1 : List (MethodName × Nat) := [(⟨"ModelTown$Scale", "ratioOn", "(I)I"⟩, 13), (⟨"ModelTown$Scale", "ruleOn", "(I)I"⟩, 13), (⟨"ModelTown$Scale", "slackOn", "(I)I"⟩, 13), (⟨"ModelTown$Scale", "isThing", "(I)Z"⟩, 13), (⟨"ModelTown$Scale", "clippingOn", "(II)I"⟩, 13), (⟨"ModelTown$Scale", "sizeOn", "(II)I"⟩, 13), (⟨"ModelTown$Scale", "dueOn", "(II)I"⟩, 13), (⟨"ModelTown$Scale", "faultOn", "(II)I"⟩, 13), (⟨"ModelTown$Paint", "passWeek", "(II[I[I)I"⟩, 16), (⟨"ModelTown$Paint", "paintWalls", "(I[I[I)I"⟩, 16), (⟨"ModelTown$Paint", "mostFaded", "([I)I"⟩, 16), (⟨"ModelTown$Paint", "foresee", "(III)V"⟩, 16), (⟨"ModelTown$Paint", "keepLeast", "(I)V"⟩, 16), (⟨"ModelTown$Rails", "isRing", "(I)Z"⟩, 12), (⟨"ModelTown$Rails", "hasTrain", "(I)Z"⟩, 12), (⟨"ModelTown$Rails", "hasBlock", "(II)Z"⟩, 12)]
theorem lw_r1 : ∀ q ∈ lw_privs_1, lw_okq q := List.forall_mem_cons.mpr ⟨lw_p0, List.forall_mem_cons.mpr ⟨lw_p1, List.forall_mem_cons.mpr ⟨lw_p2, List.forall_mem_cons.mpr ⟨lw_p3, List.forall_mem_cons.mpr ⟨lw_p4, List.forall_mem_cons.mpr ⟨lw_p5, List.forall_mem_cons.mpr ⟨lw_p6, List.forall_mem_cons.mpr ⟨lw_p7, List.forall_mem_cons.mpr ⟨lw_p8, List.forall_mem_cons.mpr ⟨lw_p9, List.forall_mem_cons.mpr ⟨lw_p10, List.forall_mem_cons.mpr ⟨lw_p11, List.forall_mem_cons.mpr ⟨lw_p12, List.forall_mem_cons.mpr ⟨lw_p13, List.forall_mem_cons.mpr ⟨lw_p14, List.forall_mem_cons.mpr ⟨lw_p15, fun _ h => absurd h List.not_mem_nil⟩⟩⟩⟩⟩⟩⟩⟩⟩⟩⟩⟩⟩⟩⟩⟩
theorem lw_p16 : lw_okq (⟨"ModelTown$Rails", "trainIn", "(I)I"⟩, 12) := ⟨⟨by decide +kernel, by decide +kernel⟩, List.mem_of_getElem? (i := 126) (by decide +kernel), List.mem_of_getElem? (i := 441) (by decide +kernel), List.mem_of_getElem? (i := 442) (by decide +kernel)⟩
theorem lw_p17 : lw_okq (⟨"ModelTown$Rails", "blockOf", "(I)I"⟩, 12) := ⟨⟨by decide +kernel, by decide +kernel⟩, List.mem_of_getElem? (i := 126) (by decide +kernel), List.mem_of_getElem? (i := 445) (by decide +kernel), List.mem_of_getElem? (i := 446) (by decide +kernel)⟩
theorem lw_p18 : lw_okq (⟨"ModelTown$Rails", "isTrain", "(I)Z"⟩, 12) := ⟨⟨by decide +kernel, by decide +kernel⟩, List.mem_of_getElem? (i := 126) (by decide +kernel), List.mem_of_getElem? (i := 457) (by decide +kernel), List.mem_of_getElem? (i := 458) (by decide +kernel)⟩
theorem lw_p19 : lw_okq (⟨"ModelTown$Rails", "goesOn", "(I)Z"⟩, 12) := ⟨⟨by decide +kernel, by decide +kernel⟩, List.mem_of_getElem? (i := 126) (by decide +kernel), List.mem_of_getElem? (i := 470) (by decide +kernel), List.mem_of_getElem? (i := 471) (by decide +kernel)⟩
theorem lw_p20 : lw_okq (⟨"ModelTown$Rails", "trainAhead", "(I)I"⟩, 12) := ⟨⟨by decide +kernel, by decide +kernel⟩, List.mem_of_getElem? (i := 126) (by decide +kernel), List.mem_of_getElem? (i := 474) (by decide +kernel), List.mem_of_getElem? (i := 475) (by decide +kernel)⟩
theorem lw_p21 : lw_okq (⟨"ModelTown$Rails", "nextPlace", "(I)I"⟩, 12) := ⟨⟨by decide +kernel, by decide +kernel⟩, List.mem_of_getElem? (i := 126) (by decide +kernel), List.mem_of_getElem? (i := 478) (by decide +kernel), List.mem_of_getElem? (i := 479) (by decide +kernel)⟩
theorem lw_p22 : lw_okq (⟨"ModelTown$Rails", "mayGoOn", "(II)Z"⟩, 12) := ⟨⟨by decide +kernel, by decide +kernel⟩, List.mem_of_getElem? (i := 126) (by decide +kernel), List.mem_of_getElem? (i := 498) (by decide +kernel), List.mem_of_getElem? (i := 499) (by decide +kernel)⟩
theorem lw_p23 : lw_okq (⟨"ModelTown$Book", "isFigure", "(I)Z"⟩, 6) := ⟨⟨by decide +kernel, by decide +kernel⟩, List.mem_of_getElem? (i := 174) (by decide +kernel), List.mem_of_getElem? (i := 518) (by decide +kernel), List.mem_of_getElem? (i := 519) (by decide +kernel)⟩
theorem lw_p24 : lw_okq (⟨"ModelTown$Book", "placeOn", "(III)I"⟩, 6) := ⟨⟨by decide +kernel, by decide +kernel⟩, List.mem_of_getElem? (i := 174) (by decide +kernel), List.mem_of_getElem? (i := 532) (by decide +kernel), List.mem_of_getElem? (i := 533) (by decide +kernel)⟩
theorem lw_p25 : lw_okq (⟨"ModelTown$Book", "tellsOf", "(III)Z"⟩, 6) := ⟨⟨by decide +kernel, by decide +kernel⟩, List.mem_of_getElem? (i := 174) (by decide +kernel), List.mem_of_getElem? (i := 536) (by decide +kernel), List.mem_of_getElem? (i := 537) (by decide +kernel)⟩
theorem lw_p26 : lw_okq (⟨"ModelTown$Book", "prevails", "(II)Z"⟩, 6) := ⟨⟨by decide +kernel, by decide +kernel⟩, List.mem_of_getElem? (i := 174) (by decide +kernel), List.mem_of_getElem? (i := 540) (by decide +kernel), List.mem_of_getElem? (i := 541) (by decide +kernel)⟩
theorem lw_p27 : lw_okq (⟨"ModelTownModel", "forceOf", "(II)I"⟩, 24) := ⟨⟨by decide +kernel, by decide +kernel⟩, List.mem_of_getElem? (i := 564) (by decide +kernel), List.mem_of_getElem? (i := 657) (by decide +kernel), List.mem_of_getElem? (i := 658) (by decide +kernel)⟩
theorem lw_p28 : lw_okq (⟨"ModelTownModel", "isThing", "(I)Z"⟩, 24) := ⟨⟨by decide +kernel, by decide +kernel⟩, List.mem_of_getElem? (i := 564) (by decide +kernel), List.mem_of_getElem? (i := 670) (by decide +kernel), List.mem_of_getElem? (i := 671) (by decide +kernel)⟩
theorem lw_p29 : lw_okq (⟨"ModelTownModel", "sizeOn", "(II)I"⟩, 24) := ⟨⟨by decide +kernel, by decide +kernel⟩, List.mem_of_getElem? (i := 564) (by decide +kernel), List.mem_of_getElem? (i := 674) (by decide +kernel), List.mem_of_getElem? (i := 675) (by decide +kernel)⟩
theorem lw_p30 : lw_okq (⟨"ModelTownModel", "faultOn", "(II)I"⟩, 24) := ⟨⟨by decide +kernel, by decide +kernel⟩, List.mem_of_getElem? (i := 564) (by decide +kernel), List.mem_of_getElem? (i := 682) (by decide +kernel), List.mem_of_getElem? (i := 683) (by decide +kernel)⟩
theorem lw_p31 : lw_okq (⟨"ModelTownModel", "layLooks", "()V"⟩, 24) := ⟨⟨by decide +kernel, by decide +kernel⟩, List.mem_of_getElem? (i := 564) (by decide +kernel), List.mem_of_getElem? (i := 721) (by decide +kernel), List.mem_of_getElem? (i := 722) (by decide +kernel)⟩
def lw_privs_2 : List (MethodName × Nat) := [(⟨"ModelTown$Rails", "trainIn", "(I)I"⟩, 12), (⟨"ModelTown$Rails", "blockOf", "(I)I"⟩, 12), (⟨"ModelTown$Rails", "isTrain", "(I)Z"⟩, 12), (⟨"ModelTown$Rails", "goesOn", "(I)Z"⟩, 12), (⟨"ModelTown$Rails", "trainAhead", "(I)I"⟩, 12), (⟨"ModelTown$Rails", "nextPlace", "(I)I"⟩, 12), (⟨"ModelTown$Rails", "mayGoOn", "(II)Z"⟩, 12), (⟨"ModelTown$Book", "isFigure", "(I)Z"⟩, 6), (⟨"ModelTown$Book", "placeOn", "(III)I"⟩, 6), (⟨"ModelTown$Book", "tellsOf", "(III)Z"⟩, 6), (⟨"ModelTown$Book", "prevails", "(II)Z"⟩, 6), (⟨"ModelTownModel", "forceOf", "(II)I"⟩, 24), (⟨"ModelTownModel", "isThing", "(I)Z"⟩, 24), (⟨"ModelTownModel", "sizeOn", "(II)I"⟩, 24), (⟨"ModelTownModel", "faultOn", "(II)I"⟩, 24), (⟨"ModelTownModel", "layLooks", "()V"⟩, 24)]
theorem lw_r2 : ∀ q ∈ lw_privs_2, lw_okq q := List.forall_mem_cons.mpr ⟨lw_p16, List.forall_mem_cons.mpr ⟨lw_p17, List.forall_mem_cons.mpr ⟨lw_p18, List.forall_mem_cons.mpr ⟨lw_p19, List.forall_mem_cons.mpr ⟨lw_p20, List.forall_mem_cons.mpr ⟨lw_p21, List.forall_mem_cons.mpr ⟨lw_p22, List.forall_mem_cons.mpr ⟨lw_p23, List.forall_mem_cons.mpr ⟨lw_p24, List.forall_mem_cons.mpr ⟨lw_p25, List.forall_mem_cons.mpr ⟨lw_p26, List.forall_mem_cons.mpr ⟨lw_p27, List.forall_mem_cons.mpr ⟨lw_p28, List.forall_mem_cons.mpr ⟨lw_p29, List.forall_mem_cons.mpr ⟨lw_p30, List.forall_mem_cons.mpr ⟨lw_p31, fun _ h => absurd h List.not_mem_nil⟩⟩⟩⟩⟩⟩⟩⟩⟩⟩⟩⟩⟩⟩⟩⟩
theorem lw_p32 : lw_okq (⟨"ModelTownModel", "goWeek", "(II)I"⟩, 24) := ⟨⟨by decide +kernel, by decide +kernel⟩, List.mem_of_getElem? (i := 564) (by decide +kernel), List.mem_of_getElem? (i := 725) (by decide +kernel), List.mem_of_getElem? (i := 726) (by decide +kernel)⟩
theorem lw_p33 : lw_okq (⟨"ModelTownModel", "layForetold", "(II)V"⟩, 24) := ⟨⟨by decide +kernel, by decide +kernel⟩, List.mem_of_getElem? (i := 564) (by decide +kernel), List.mem_of_getElem? (i := 733) (by decide +kernel), List.mem_of_getElem? (i := 734) (by decide +kernel)⟩
theorem lw_p34 : lw_okq (⟨"ModelTownModel", "isRing", "(I)Z"⟩, 24) := ⟨⟨by decide +kernel, by decide +kernel⟩, List.mem_of_getElem? (i := 564) (by decide +kernel), List.mem_of_getElem? (i := 749) (by decide +kernel), List.mem_of_getElem? (i := 750) (by decide +kernel)⟩
theorem lw_p35 : lw_okq (⟨"ModelTownModel", "blockAt", "(II)I"⟩, 24) := ⟨⟨by decide +kernel, by decide +kernel⟩, List.mem_of_getElem? (i := 564) (by decide +kernel), List.mem_of_getElem? (i := 757) (by decide +kernel), List.mem_of_getElem? (i := 758) (by decide +kernel)⟩
theorem lw_p36 : lw_okq (⟨"ModelTownModel", "trainIn", "(I)I"⟩, 24) := ⟨⟨by decide +kernel, by decide +kernel⟩, List.mem_of_getElem? (i := 564) (by decide +kernel), List.mem_of_getElem? (i := 761) (by decide +kernel), List.mem_of_getElem? (i := 762) (by decide +kernel)⟩
theorem lw_p37 : lw_okq (⟨"ModelTownModel", "blockOf", "(I)I"⟩, 24) := ⟨⟨by decide +kernel, by decide +kernel⟩, List.mem_of_getElem? (i := 564) (by decide +kernel), List.mem_of_getElem? (i := 765) (by decide +kernel), List.mem_of_getElem? (i := 766) (by decide +kernel)⟩
theorem lw_p38 : lw_okq (⟨"ModelTownModel", "isTrain", "(I)Z"⟩, 24) := ⟨⟨by decide +kernel, by decide +kernel⟩, List.mem_of_getElem? (i := 564) (by decide +kernel), List.mem_of_getElem? (i := 773) (by decide +kernel), List.mem_of_getElem? (i := 774) (by decide +kernel)⟩
theorem lw_p39 : lw_okq (⟨"ModelTownModel", "nextOf", "(I)I"⟩, 24) := ⟨⟨by decide +kernel, by decide +kernel⟩, List.mem_of_getElem? (i := 564) (by decide +kernel), List.mem_of_getElem? (i := 781) (by decide +kernel), List.mem_of_getElem? (i := 782) (by decide +kernel)⟩
theorem lw_p40 : lw_okq (⟨"ModelTownModel", "isFigure", "(I)Z"⟩, 24) := ⟨⟨by decide +kernel, by decide +kernel⟩, List.mem_of_getElem? (i := 564) (by decide +kernel), List.mem_of_getElem? (i := 801) (by decide +kernel), List.mem_of_getElem? (i := 802) (by decide +kernel)⟩
theorem lw_p41 : lw_okq (⟨"ModelTownModel", "placeBy", "(IIII)I"⟩, 24) := ⟨⟨by decide +kernel, by decide +kernel⟩, List.mem_of_getElem? (i := 564) (by decide +kernel), List.mem_of_getElem? (i := 812) (by decide +kernel), List.mem_of_getElem? (i := 813) (by decide +kernel)⟩
def lw_privs_3 : List (MethodName × Nat) := [(⟨"ModelTownModel", "goWeek", "(II)I"⟩, 24), (⟨"ModelTownModel", "layForetold", "(II)V"⟩, 24), (⟨"ModelTownModel", "isRing", "(I)Z"⟩, 24), (⟨"ModelTownModel", "blockAt", "(II)I"⟩, 24), (⟨"ModelTownModel", "trainIn", "(I)I"⟩, 24), (⟨"ModelTownModel", "blockOf", "(I)I"⟩, 24), (⟨"ModelTownModel", "isTrain", "(I)Z"⟩, 24), (⟨"ModelTownModel", "nextOf", "(I)I"⟩, 24), (⟨"ModelTownModel", "isFigure", "(I)Z"⟩, 24), (⟨"ModelTownModel", "placeBy", "(IIII)I"⟩, 24)]
theorem lw_r3 : ∀ q ∈ lw_privs_3, lw_okq q := List.forall_mem_cons.mpr ⟨lw_p32, List.forall_mem_cons.mpr ⟨lw_p33, List.forall_mem_cons.mpr ⟨lw_p34, List.forall_mem_cons.mpr ⟨lw_p35, List.forall_mem_cons.mpr ⟨lw_p36, List.forall_mem_cons.mpr ⟨lw_p37, List.forall_mem_cons.mpr ⟨lw_p38, List.forall_mem_cons.mpr ⟨lw_p39, List.forall_mem_cons.mpr ⟨lw_p40, List.forall_mem_cons.mpr ⟨lw_p41, fun _ h => absurd h List.not_mem_nil⟩⟩⟩⟩⟩⟩⟩⟩⟩⟩
def lw_privs : List (MethodName × Nat) := lw_privs_1 ++ (lw_privs_2 ++ (lw_privs_3))
def lw_tbl : List Cond := k2_sels lw_privs ++ tables_1
theorem lw_privs_ok : ∀ q ∈ lw_privs, lw_okq q := by
  show ∀ q ∈ lw_privs_1 ++ (lw_privs_2 ++ (lw_privs_3)), lw_okq q
  exact List.forall_mem_append.mpr ⟨lw_r1, List.forall_mem_append.mpr ⟨lw_r2, lw_r3⟩⟩
-- ===== end of PART A; then your names; then what follows =====
end
section
/-! ===== BEGIN words of one list among another's, by their places ===== -/
theorem goodIn_r {big : List Cond} (ws : List Cond) (ps : List Nat) (hp : ws = ps.filterMap (fun i => big[i]?)) (h : ws.all goodWord = true) : GoodIn big ws := by
  intro w hw
  have h1 := List.all_eq_true.mp h w hw
  rw [hp] at hw
  obtain ⟨i, -, hi⟩ := List.mem_filterMap.mp hw
  have hm : w ∈ big := by first | exact List.mem_of_getElem? hi | exact List.getElem?_mem hi
  exact ⟨hm, good_of_word h1⟩
theorem goodIn_app {big a b : List Cond} (ha : GoodIn big a) (hb : GoodIn big b) : GoodIn big (a ++ b) := fun w h => (List.mem_append.mp h).elim (ha w) (hb w)
theorem goodIn_ca {big a b : List Cond} {c : Cond} (ha : GoodIn big (c :: a)) (hb : GoodIn big b) : GoodIn big (c :: (a ++ b)) := fun w h => (List.mem_cons.mp h).elim (fun e => ha w (List.mem_cons.mpr (Or.inl e))) (fun h => (List.mem_append.mp h).elim (fun h => ha w (List.mem_cons.mpr (Or.inr h))) (hb w))
theorem goodIn_sub {big ws : List Cond} (hm : ∀ w ∈ ws, w ∈ big) (h : ws.all goodWord = true) : GoodIn big ws := fun w hw => ⟨hm w hw, good_of_word (List.all_eq_true.mp h w hw)⟩
/-! ===== END ===== -/
/-! ===== BEGIN printed: names, fields, word lists, decode rows ===== -/
def RX0 : String := "ModelTown$Book"
def TX0 : u_T := fun k => match k with
  | 0 => ("ModelTown$Book", "figures", "I", false)
  | 1 => ("ModelTown$Book", "noteFigure", "[I", true)
  | 2 => ("ModelTown$Book", "noteDay", "[I", true)
  | 3 => ("ModelTown$Book", "noteToldOn", "[I", true)
  | 4 => ("ModelTown$Book", "notePlace", "[I", true)
  | _ => ("ModelTown$Book", "notes", "I", false)
def tyX0 : Nat → FieldType := fun k => match k with
  | 0 => .int
  | 1 => .array .int
  | 2 => .array .int
  | 3 => .array .int
  | 4 => .array .int
  | _ => .int
abbrev wsX00 : List Cond := u_ws RX0 TX0 6
theorem nmX0 : ∀ a, a < 6 → ∀ b, b < 6 → a ≠ b → (TX0 a).2.1 ≠ (TX0 b).2.1 := by decide +kernel
theorem tyX0_ok : ∀ k, k < 6 → parseFieldDescriptor (TX0 k).2.2.1 = some (tyX0 k) := by decide +kernel
abbrev cX0_init : ByteArray := prog_2_method_1_code
def yX0_init : MethodName := ⟨RX0, "<init>", "()V"⟩
abbrev cX0_addFigure : ByteArray := prog_2_method_2_code
def yX0_addFigure : MethodName := ⟨RX0, "addFigure", "()I"⟩
abbrev cX0_addNote : ByteArray := prog_2_method_3_code
def yX0_addNote : MethodName := ⟨RX0, "addNote", "(IIII)I"⟩
abbrev cX0_whereIs : ByteArray := prog_2_method_4_code
def yX0_whereIs : MethodName := ⟨RX0, "whereIs", "(III)I"⟩
abbrev cX0_figuresAt : ByteArray := prog_2_method_5_code
def yX0_figuresAt : MethodName := ⟨RX0, "figuresAt", "(III)I"⟩
abbrev cX0_turnsOf : ByteArray := prog_2_method_6_code
def yX0_turnsOf : MethodName := ⟨RX0, "turnsOf", "(II)I"⟩
abbrev cX0_isFigure : ByteArray := prog_2_method_7_code
def yX0_isFigure : MethodName := ⟨RX0, "isFigure", "(I)Z"⟩
abbrev cX0_placeOn : ByteArray := prog_2_method_8_code
def yX0_placeOn : MethodName := ⟨RX0, "placeOn", "(III)I"⟩
abbrev cX0_tellsOf : ByteArray := prog_2_method_9_code
def yX0_tellsOf : MethodName := ⟨RX0, "tellsOf", "(III)Z"⟩
abbrev cX0_prevails : ByteArray := prog_2_method_10_code
def yX0_prevails : MethodName := ⟨RX0, "prevails", "(II)Z"⟩
def RX1 : String := "ModelTown$Paint"
def TX1 : u_T := fun k => match k with
  | 0 => ("ModelTown$Paint", "fades", "[I", true)
  | 1 => ("ModelTown$Paint", "frosts", "[Z", true)
  | 2 => ("ModelTown$Paint", "hands", "I", false)
  | 3 => ("ModelTown$Paint", "week", "I", false)
  | 4 => ("ModelTown$Paint", "houses", "[I", true)
  | 5 => ("ModelTown$Paint", "sides", "[I", true)
  | 6 => ("ModelTown$Paint", "hoursToPaint", "[I", true)
  | 7 => ("ModelTown$Paint", "looks", "[I", true)
  | 8 => ("ModelTown$Paint", "timesPainted", "[I", true)
  | 9 => ("ModelTown$Paint", "walls", "I", false)
  | 10 => ("ModelTown$Paint", "thoughtLooks", "[I", true)
  | 11 => ("ModelTown$Paint", "thoughtTimes", "[I", true)
  | 12 => ("ModelTown$Paint", "leastLook", "I", false)
  | 13 => ("ModelTown$Paint", "leastWeek", "I", false)
  | 14 => ("ModelTown$Paint", "leastWall", "I", false)
  | _ => ("ModelTown$Paint", "hoursLacking", "I", false)
def tyX1 : Nat → FieldType := fun k => match k with
  | 0 => .array .int
  | 1 => .array .boolean
  | 2 => .int
  | 3 => .int
  | 4 => .array .int
  | 5 => .array .int
  | 6 => .array .int
  | 7 => .array .int
  | 8 => .array .int
  | 9 => .int
  | 10 => .array .int
  | 11 => .array .int
  | 12 => .int
  | 13 => .int
  | 14 => .int
  | _ => .int
abbrev wsX10 : List Cond := u_ws RX1 TX1 16
theorem nmX1 : ∀ a, a < 16 → ∀ b, b < 16 → a ≠ b → (TX1 a).2.1 ≠ (TX1 b).2.1 := by decide +kernel
theorem tyX1_ok : ∀ k, k < 16 → parseFieldDescriptor (TX1 k).2.2.1 = some (tyX1 k) := by decide +kernel
abbrev cX1_init : ByteArray := prog_3_method_1_code
def yX1_init : MethodName := ⟨RX1, "<init>", "()V"⟩
abbrev cX1_setFade : ByteArray := prog_3_method_2_code
def yX1_setFade : MethodName := ⟨RX1, "setFade", "(II)I"⟩
abbrev cX1_addWall : ByteArray := prog_3_method_3_code
def yX1_addWall : MethodName := ⟨RX1, "addWall", "(III)I"⟩
abbrev cX1_aboutWall : ByteArray := prog_3_method_4_code
def yX1_aboutWall : MethodName := ⟨RX1, "aboutWall", "(II)I"⟩
abbrev cX1_setHands : ByteArray := prog_3_method_5_code
def yX1_setHands : MethodName := ⟨RX1, "setHands", "(I)I"⟩
abbrev cX1_setFrost : ByteArray := prog_3_method_6_code
def yX1_setFrost : MethodName := ⟨RX1, "setFrost", "(IZ)I"⟩
abbrev cX1_goWeek : ByteArray := prog_3_method_7_code
def yX1_goWeek : MethodName := ⟨RX1, "goWeek", "()I"⟩
abbrev cX1_leastForetold : ByteArray := prog_3_method_8_code
def yX1_leastForetold : MethodName := ⟨RX1, "leastForetold", "(II)I"⟩
abbrev cX1_fewestHands : ByteArray := prog_3_method_9_code
def yX1_fewestHands : MethodName := ⟨RX1, "fewestHands", "(II)I"⟩
abbrev cX1_foresee : ByteArray := prog_3_method_10_code
def yX1_foresee : MethodName := ⟨RX1, "foresee", "(III)V"⟩
abbrev cX1_keepLeast : ByteArray := prog_3_method_11_code
def yX1_keepLeast : MethodName := ⟨RX1, "keepLeast", "(I)V"⟩
abbrev cX1_passWeek : ByteArray := prog_3_method_12_code
def yX1_passWeek : MethodName := ⟨RX1, "passWeek", "(II[I[I)I"⟩
abbrev cX1_paintWalls : ByteArray := prog_3_method_13_code
def yX1_paintWalls : MethodName := ⟨RX1, "paintWalls", "(I[I[I)I"⟩
abbrev cX1_mostFaded : ByteArray := prog_3_method_14_code
def yX1_mostFaded : MethodName := ⟨RX1, "mostFaded", "([I)I"⟩
def RX2 : String := "ModelTown$Rails"
def TX2 : u_T := fun k => match k with
  | 0 => ("ModelTown$Rails", "ringBlocks", "[[I", true)
  | 1 => ("ModelTown$Rails", "ringLengths", "[I", true)
  | 2 => ("ModelTown$Rails", "rings", "I", false)
  | 3 => ("ModelTown$Rails", "trainRings", "[I", true)
  | 4 => ("ModelTown$Rails", "places", "[I", true)
  | 5 => ("ModelTown$Rails", "minutesNeeded", "[I", true)
  | 6 => ("ModelTown$Rails", "minutesInBlock", "[I", true)
  | 7 => ("ModelTown$Rails", "minutesWaited", "[I", true)
  | 8 => ("ModelTown$Rails", "blocksGone", "[I", true)
  | 9 => ("ModelTown$Rails", "stuck", "[Z", true)
  | 10 => ("ModelTown$Rails", "trains", "I", false)
  | _ => ("ModelTown$Rails", "minutesGone", "I", false)
def tyX2 : Nat → FieldType := fun k => match k with
  | 0 => .array (.array .int)
  | 1 => .array .int
  | 2 => .int
  | 3 => .array .int
  | 4 => .array .int
  | 5 => .array .int
  | 6 => .array .int
  | 7 => .array .int
  | 8 => .array .int
  | 9 => .array .boolean
  | 10 => .int
  | _ => .int
abbrev wsX20 : List Cond := u_ws RX2 TX2 12
theorem nmX2 : ∀ a, a < 12 → ∀ b, b < 12 → a ≠ b → (TX2 a).2.1 ≠ (TX2 b).2.1 := by decide +kernel
theorem tyX2_ok : ∀ k, k < 12 → parseFieldDescriptor (TX2 k).2.2.1 = some (tyX2 k) := by decide +kernel
abbrev cX2_init : ByteArray := prog_4_method_1_code
def yX2_init : MethodName := ⟨RX2, "<init>", "()V"⟩
abbrev cX2_addRing : ByteArray := prog_4_method_2_code
def yX2_addRing : MethodName := ⟨RX2, "addRing", "()I"⟩
abbrev cX2_addBlock : ByteArray := prog_4_method_3_code
def yX2_addBlock : MethodName := ⟨RX2, "addBlock", "(II)I"⟩
abbrev cX2_addTrain : ByteArray := prog_4_method_4_code
def yX2_addTrain : MethodName := ⟨RX2, "addTrain", "(III)I"⟩
abbrev cX2_setStuck : ByteArray := prog_4_method_5_code
def yX2_setStuck : MethodName := ⟨RX2, "setStuck", "(IZ)I"⟩
abbrev cX2_goMinutes : ByteArray := prog_4_method_6_code
def yX2_goMinutes : MethodName := ⟨RX2, "goMinutes", "(I)I"⟩
abbrev cX2_aboutTrain : ByteArray := prog_4_method_7_code
def yX2_aboutTrain : MethodName := ⟨RX2, "aboutTrain", "(II)I"⟩
abbrev cX2_standing : ByteArray := prog_4_method_8_code
def yX2_standing : MethodName := ⟨RX2, "standing", "()I"⟩
abbrev cX2_isRing : ByteArray := prog_4_method_9_code
def yX2_isRing : MethodName := ⟨RX2, "isRing", "(I)Z"⟩
abbrev cX2_isTrain : ByteArray := prog_4_method_10_code
def yX2_isTrain : MethodName := ⟨RX2, "isTrain", "(I)Z"⟩
abbrev cX2_hasTrain : ByteArray := prog_4_method_11_code
def yX2_hasTrain : MethodName := ⟨RX2, "hasTrain", "(I)Z"⟩
abbrev cX2_hasBlock : ByteArray := prog_4_method_12_code
def yX2_hasBlock : MethodName := ⟨RX2, "hasBlock", "(II)Z"⟩
abbrev cX2_blockOf : ByteArray := prog_4_method_13_code
def yX2_blockOf : MethodName := ⟨RX2, "blockOf", "(I)I"⟩
abbrev cX2_nextPlace : ByteArray := prog_4_method_14_code
def yX2_nextPlace : MethodName := ⟨RX2, "nextPlace", "(I)I"⟩
abbrev cX2_trainIn : ByteArray := prog_4_method_15_code
def yX2_trainIn : MethodName := ⟨RX2, "trainIn", "(I)I"⟩
abbrev cX2_trainAhead : ByteArray := prog_4_method_16_code
def yX2_trainAhead : MethodName := ⟨RX2, "trainAhead", "(I)I"⟩
abbrev cX2_goesOn : ByteArray := prog_4_method_17_code
def yX2_goesOn : MethodName := ⟨RX2, "goesOn", "(I)Z"⟩
abbrev cX2_mayGoOn : ByteArray := prog_4_method_18_code
def yX2_mayGoOn : MethodName := ⟨RX2, "mayGoOn", "(II)Z"⟩
def RX3 : String := "ModelTown$Scale"
def TX3 : u_T := fun k => match k with
  | 0 => ("ModelTown$Scale", "ruleDay", "[I", true)
  | 1 => ("ModelTown$Scale", "ruleRatio", "[I", true)
  | 2 => ("ModelTown$Scale", "ruleSlack", "[I", true)
  | 3 => ("ModelTown$Scale", "rules", "I", false)
  | 4 => ("ModelTown$Scale", "sorts", "[I", true)
  | 5 => ("ModelTown$Scale", "trueSizes", "[I", true)
  | 6 => ("ModelTown$Scale", "firstSizes", "[I", true)
  | 7 => ("ModelTown$Scale", "grows", "[I", true)
  | 8 => ("ModelTown$Scale", "things", "I", false)
  | 9 => ("ModelTown$Scale", "clipThing", "[I", true)
  | 10 => ("ModelTown$Scale", "clipDay", "[I", true)
  | 11 => ("ModelTown$Scale", "clipSize", "[I", true)
  | _ => ("ModelTown$Scale", "clippings", "I", false)
def tyX3 : Nat → FieldType := fun k => match k with
  | 0 => .array .int
  | 1 => .array .int
  | 2 => .array .int
  | 3 => .int
  | 4 => .array .int
  | 5 => .array .int
  | 6 => .array .int
  | 7 => .array .int
  | 8 => .int
  | 9 => .array .int
  | 10 => .array .int
  | 11 => .array .int
  | _ => .int
abbrev wsX30 : List Cond := u_ws RX3 TX3 13
theorem nmX3 : ∀ a, a < 13 → ∀ b, b < 13 → a ≠ b → (TX3 a).2.1 ≠ (TX3 b).2.1 := by decide +kernel
theorem tyX3_ok : ∀ k, k < 13 → parseFieldDescriptor (TX3 k).2.2.1 = some (tyX3 k) := by decide +kernel
abbrev cX3_init : ByteArray := prog_5_method_1_code
def yX3_init : MethodName := ⟨RX3, "<init>", "()V"⟩
abbrev cX3_addRule : ByteArray := prog_5_method_2_code
def yX3_addRule : MethodName := ⟨RX3, "addRule", "(III)I"⟩
abbrev cX3_inForce : ByteArray := prog_5_method_3_code
def yX3_inForce : MethodName := ⟨RX3, "inForce", "(II)I"⟩
abbrev cX3_addThing : ByteArray := prog_5_method_4_code
def yX3_addThing : MethodName := ⟨RX3, "addThing", "(IIII)I"⟩
abbrev cX3_clipTree : ByteArray := prog_5_method_5_code
def yX3_clipTree : MethodName := ⟨RX3, "clipTree", "(III)I"⟩
abbrev cX3_lookAt : ByteArray := prog_5_method_6_code
def yX3_lookAt : MethodName := ⟨RX3, "lookAt", "(III)I"⟩
abbrev cX3_firstFaulty : ByteArray := prog_5_method_7_code
def yX3_firstFaulty : MethodName := ⟨RX3, "firstFaulty", "(I)I"⟩
abbrev cX3_firstFaultyDay : ByteArray := prog_5_method_8_code
def yX3_firstFaultyDay : MethodName := ⟨RX3, "firstFaultyDay", "(II)I"⟩
abbrev cX3_isThing : ByteArray := prog_5_method_9_code
def yX3_isThing : MethodName := ⟨RX3, "isThing", "(I)Z"⟩
abbrev cX3_ruleOn : ByteArray := prog_5_method_10_code
def yX3_ruleOn : MethodName := ⟨RX3, "ruleOn", "(I)I"⟩
abbrev cX3_ratioOn : ByteArray := prog_5_method_11_code
def yX3_ratioOn : MethodName := ⟨RX3, "ratioOn", "(I)I"⟩
abbrev cX3_slackOn : ByteArray := prog_5_method_12_code
def yX3_slackOn : MethodName := ⟨RX3, "slackOn", "(I)I"⟩
abbrev cX3_clippingOn : ByteArray := prog_5_method_13_code
def yX3_clippingOn : MethodName := ⟨RX3, "clippingOn", "(II)I"⟩
abbrev cX3_sizeOn : ByteArray := prog_5_method_14_code
def yX3_sizeOn : MethodName := ⟨RX3, "sizeOn", "(II)I"⟩
abbrev cX3_dueOn : ByteArray := prog_5_method_15_code
def yX3_dueOn : MethodName := ⟨RX3, "dueOn", "(II)I"⟩
abbrev cX3_faultOn : ByteArray := prog_5_method_16_code
def yX3_faultOn : MethodName := ⟨RX3, "faultOn", "(II)I"⟩
def RX4 : String := "ModelTown"
def TX4 : u_T := fun k => match k with
  | 0 => ("ModelTown", "scale", "LModelTown$Scale;", true)
  | 1 => ("ModelTown", "paint", "LModelTown$Paint;", true)
  | 2 => ("ModelTown", "rails", "LModelTown$Rails;", true)
  | _ => ("ModelTown", "book", "LModelTown$Book;", true)
def tyX4 : Nat → FieldType := fun k => match k with
  | 0 => .object "ModelTown$Scale"
  | 1 => .object "ModelTown$Paint"
  | 2 => .object "ModelTown$Rails"
  | _ => .object "ModelTown$Book"
abbrev wsX40 : List Cond := u_ws RX4 TX4 4
theorem nmX4 : ∀ a, a < 4 → ∀ b, b < 4 → a ≠ b → (TX4 a).2.1 ≠ (TX4 b).2.1 := by decide +kernel
theorem tyX4_ok : ∀ k, k < 4 → parseFieldDescriptor (TX4 k).2.2.1 = some (tyX4 k) := by decide +kernel
abbrev cX4_init : ByteArray := prog_1_method_1_code
def yX4_init : MethodName := ⟨RX4, "<init>", "()V"⟩
abbrev cX4_rule : ByteArray := prog_1_method_2_code
def yX4_rule : MethodName := ⟨RX4, "rule", "(III)I"⟩
abbrev cX4_force : ByteArray := prog_1_method_3_code
def yX4_force : MethodName := ⟨RX4, "force", "(II)I"⟩
abbrev cX4_thing : ByteArray := prog_1_method_4_code
def yX4_thing : MethodName := ⟨RX4, "thing", "(IIII)I"⟩
abbrev cX4_clip : ByteArray := prog_1_method_5_code
def yX4_clip : MethodName := ⟨RX4, "clip", "(III)I"⟩
abbrev cX4_look : ByteArray := prog_1_method_6_code
def yX4_look : MethodName := ⟨RX4, "look", "(III)I"⟩
abbrev cX4_fault : ByteArray := prog_1_method_7_code
def yX4_fault : MethodName := ⟨RX4, "fault", "(I)I"⟩
abbrev cX4_spoils : ByteArray := prog_1_method_8_code
def yX4_spoils : MethodName := ⟨RX4, "spoils", "(II)I"⟩
abbrev cX4_fade : ByteArray := prog_1_method_9_code
def yX4_fade : MethodName := ⟨RX4, "fade", "(II)I"⟩
abbrev cX4_wall : ByteArray := prog_1_method_10_code
def yX4_wall : MethodName := ⟨RX4, "wall", "(III)I"⟩
abbrev cX4_wallOf : ByteArray := prog_1_method_11_code
def yX4_wallOf : MethodName := ⟨RX4, "wallOf", "(II)I"⟩
abbrev cX4_hands : ByteArray := prog_1_method_12_code
def yX4_hands : MethodName := ⟨RX4, "hands", "(I)I"⟩
abbrev cX4_frost : ByteArray := prog_1_method_13_code
def yX4_frost : MethodName := ⟨RX4, "frost", "(IZ)I"⟩
abbrev cX4_week : ByteArray := prog_1_method_14_code
def yX4_week : MethodName := ⟨RX4, "week", "()I"⟩
abbrev cX4_foretell : ByteArray := prog_1_method_15_code
def yX4_foretell : MethodName := ⟨RX4, "foretell", "(II)I"⟩
abbrev cX4_enough : ByteArray := prog_1_method_16_code
def yX4_enough : MethodName := ⟨RX4, "enough", "(II)I"⟩
abbrev cX4_ring : ByteArray := prog_1_method_17_code
def yX4_ring : MethodName := ⟨RX4, "ring", "()I"⟩
abbrev cX4_block : ByteArray := prog_1_method_18_code
def yX4_block : MethodName := ⟨RX4, "block", "(II)I"⟩
abbrev cX4_train : ByteArray := prog_1_method_19_code
def yX4_train : MethodName := ⟨RX4, "train", "(III)I"⟩
abbrev cX4_stick : ByteArray := prog_1_method_20_code
def yX4_stick : MethodName := ⟨RX4, "stick", "(IZ)I"⟩
abbrev cX4_run : ByteArray := prog_1_method_21_code
def yX4_run : MethodName := ⟨RX4, "run", "(I)I"⟩
abbrev cX4_trainOf : ByteArray := prog_1_method_22_code
def yX4_trainOf : MethodName := ⟨RX4, "trainOf", "(II)I"⟩
abbrev cX4_stands : ByteArray := prog_1_method_23_code
def yX4_stands : MethodName := ⟨RX4, "stands", "()I"⟩
abbrev cX4_figure : ByteArray := prog_1_method_24_code
def yX4_figure : MethodName := ⟨RX4, "figure", "()I"⟩
abbrev cX4_note : ByteArray := prog_1_method_25_code
def yX4_note : MethodName := ⟨RX4, "note", "(IIII)I"⟩
abbrev cX4_where : ByteArray := prog_1_method_26_code
def yX4_where : MethodName := ⟨RX4, "where", "(III)I"⟩
abbrev cX4_at : ByteArray := prog_1_method_27_code
def yX4_at : MethodName := ⟨RX4, "at", "(III)I"⟩
abbrev cX4_turns : ByteArray := prog_1_method_28_code
def yX4_turns : MethodName := ⟨RX4, "turns", "(II)I"⟩
abbrev cX4_told : ByteArray := prog_1_method_29_code
def yX4_told : MethodName := ⟨RX4, "told", "(I)I"⟩
abbrev cX4_isWithin : ByteArray := prog_1_method_30_code
def yX4_isWithin : MethodName := ⟨RX4, "isWithin", "(III)Z"⟩
abbrev cX4_isDay : ByteArray := prog_1_method_31_code
def yX4_isDay : MethodName := ⟨RX4, "isDay", "(I)Z"⟩
abbrev cX4_oneIf : ByteArray := prog_1_method_32_code
def yX4_oneIf : MethodName := ⟨RX4, "oneIf", "(Z)I"⟩
def RX5 : String := "ModelTownModel"
def TX5 : u_T := fun k => match k with
  | 0 => ("ModelTownModel", "rules", "I", false)
  | 1 => ("ModelTownModel", "rule", "[I", true)
  | 2 => ("ModelTownModel", "things", "I", false)
  | 3 => ("ModelTownModel", "thing", "[I", true)
  | 4 => ("ModelTownModel", "clips", "I", false)
  | 5 => ("ModelTownModel", "clip", "[I", true)
  | 6 => ("ModelTownModel", "fade", "[I", true)
  | 7 => ("ModelTownModel", "walls", "I", false)
  | 8 => ("ModelTownModel", "wall", "[I", true)
  | 9 => ("ModelTownModel", "hands", "I", false)
  | 10 => ("ModelTownModel", "isFrost", "[Z", true)
  | 11 => ("ModelTownModel", "week", "I", false)
  | 12 => ("ModelTownModel", "rings", "I", false)
  | 13 => ("ModelTownModel", "blocks", "[I", true)
  | 14 => ("ModelTownModel", "block", "[I", true)
  | 15 => ("ModelTownModel", "trains", "I", false)
  | 16 => ("ModelTownModel", "train", "[I", true)
  | 17 => ("ModelTownModel", "minutes", "I", false)
  | 18 => ("ModelTownModel", "figures", "I", false)
  | 19 => ("ModelTownModel", "notes", "I", false)
  | 20 => ("ModelTownModel", "note", "[I", true)
  | 21 => ("ModelTownModel", "looks", "[I", true)
  | 22 => ("ModelTownModel", "isPainted", "[Z", true)
  | _ => ("ModelTownModel", "told", "[I", true)
def tyX5 : Nat → FieldType := fun k => match k with
  | 0 => .int
  | 1 => .array .int
  | 2 => .int
  | 3 => .array .int
  | 4 => .int
  | 5 => .array .int
  | 6 => .array .int
  | 7 => .int
  | 8 => .array .int
  | 9 => .int
  | 10 => .array .boolean
  | 11 => .int
  | 12 => .int
  | 13 => .array .int
  | 14 => .array .int
  | 15 => .int
  | 16 => .array .int
  | 17 => .int
  | 18 => .int
  | 19 => .int
  | 20 => .array .int
  | 21 => .array .int
  | 22 => .array .boolean
  | _ => .array .int
abbrev wsX50 : List Cond := u_ws RX5 TX5 24
theorem nmX5 : ∀ a, a < 24 → ∀ b, b < 24 → a ≠ b → (TX5 a).2.1 ≠ (TX5 b).2.1 := by decide +kernel
theorem tyX5_ok : ∀ k, k < 24 → parseFieldDescriptor (TX5 k).2.2.1 = some (tyX5 k) := by decide +kernel
abbrev cX5_init : ByteArray := prog_7_method_1_code
def yX5_init : MethodName := ⟨RX5, "<init>", "()V"⟩
abbrev cX5_in : ByteArray := prog_7_method_2_code
def yX5_in : MethodName := ⟨RX5, "in", "(III)Z"⟩
abbrev cX5_isDay : ByteArray := prog_7_method_3_code
def yX5_isDay : MethodName := ⟨RX5, "isDay", "(I)Z"⟩
abbrev cX5_rule : ByteArray := prog_7_method_4_code
def yX5_rule : MethodName := ⟨RX5, "rule", "(III)I"⟩
abbrev cX5_forceOf : ByteArray := prog_7_method_5_code
def yX5_forceOf : MethodName := ⟨RX5, "forceOf", "(II)I"⟩
abbrev cX5_force : ByteArray := prog_7_method_6_code
def yX5_force : MethodName := ⟨RX5, "force", "(II)I"⟩
abbrev cX5_thing : ByteArray := prog_7_method_7_code
def yX5_thing : MethodName := ⟨RX5, "thing", "(IIII)I"⟩
abbrev cX5_isThing : ByteArray := prog_7_method_8_code
def yX5_isThing : MethodName := ⟨RX5, "isThing", "(I)Z"⟩
abbrev cX5_sizeOn : ByteArray := prog_7_method_9_code
def yX5_sizeOn : MethodName := ⟨RX5, "sizeOn", "(II)I"⟩
abbrev cX5_clip : ByteArray := prog_7_method_10_code
def yX5_clip : MethodName := ⟨RX5, "clip", "(III)I"⟩
abbrev cX5_faultOn : ByteArray := prog_7_method_11_code
def yX5_faultOn : MethodName := ⟨RX5, "faultOn", "(II)I"⟩
abbrev cX5_look : ByteArray := prog_7_method_12_code
def yX5_look : MethodName := ⟨RX5, "look", "(III)I"⟩
abbrev cX5_fault : ByteArray := prog_7_method_13_code
def yX5_fault : MethodName := ⟨RX5, "fault", "(I)I"⟩
abbrev cX5_spoils : ByteArray := prog_7_method_14_code
def yX5_spoils : MethodName := ⟨RX5, "spoils", "(II)I"⟩
abbrev cX5_fade : ByteArray := prog_7_method_15_code
def yX5_fade : MethodName := ⟨RX5, "fade", "(II)I"⟩
abbrev cX5_wall : ByteArray := prog_7_method_16_code
def yX5_wall : MethodName := ⟨RX5, "wall", "(III)I"⟩
abbrev cX5_wallOf : ByteArray := prog_7_method_17_code
def yX5_wallOf : MethodName := ⟨RX5, "wallOf", "(II)I"⟩
abbrev cX5_areHands : ByteArray := prog_7_method_18_code
def yX5_areHands : MethodName := ⟨RX5, "areHands", "(I)Z"⟩
abbrev cX5_hands : ByteArray := prog_7_method_19_code
def yX5_hands : MethodName := ⟨RX5, "hands", "(I)I"⟩
abbrev cX5_frost : ByteArray := prog_7_method_20_code
def yX5_frost : MethodName := ⟨RX5, "frost", "(IZ)I"⟩
abbrev cX5_layLooks : ByteArray := prog_7_method_21_code
def yX5_layLooks : MethodName := ⟨RX5, "layLooks", "()V"⟩
abbrev cX5_goWeek : ByteArray := prog_7_method_22_code
def yX5_goWeek : MethodName := ⟨RX5, "goWeek", "(II)I"⟩
abbrev cX5_week : ByteArray := prog_7_method_23_code
def yX5_week : MethodName := ⟨RX5, "week", "()I"⟩
abbrev cX5_layForetold : ByteArray := prog_7_method_24_code
def yX5_layForetold : MethodName := ⟨RX5, "layForetold", "(II)V"⟩
abbrev cX5_foretell : ByteArray := prog_7_method_25_code
def yX5_foretell : MethodName := ⟨RX5, "foretell", "(II)I"⟩
abbrev cX5_enough : ByteArray := prog_7_method_26_code
def yX5_enough : MethodName := ⟨RX5, "enough", "(II)I"⟩
abbrev cX5_ring : ByteArray := prog_7_method_27_code
def yX5_ring : MethodName := ⟨RX5, "ring", "()I"⟩
abbrev cX5_isRing : ByteArray := prog_7_method_28_code
def yX5_isRing : MethodName := ⟨RX5, "isRing", "(I)Z"⟩
abbrev cX5_block : ByteArray := prog_7_method_29_code
def yX5_block : MethodName := ⟨RX5, "block", "(II)I"⟩
abbrev cX5_blockAt : ByteArray := prog_7_method_30_code
def yX5_blockAt : MethodName := ⟨RX5, "blockAt", "(II)I"⟩
abbrev cX5_blockOf : ByteArray := prog_7_method_31_code
def yX5_blockOf : MethodName := ⟨RX5, "blockOf", "(I)I"⟩
abbrev cX5_nextOf : ByteArray := prog_7_method_32_code
def yX5_nextOf : MethodName := ⟨RX5, "nextOf", "(I)I"⟩
abbrev cX5_trainIn : ByteArray := prog_7_method_33_code
def yX5_trainIn : MethodName := ⟨RX5, "trainIn", "(I)I"⟩
abbrev cX5_train : ByteArray := prog_7_method_34_code
def yX5_train : MethodName := ⟨RX5, "train", "(III)I"⟩
abbrev cX5_isTrain : ByteArray := prog_7_method_35_code
def yX5_isTrain : MethodName := ⟨RX5, "isTrain", "(I)Z"⟩
abbrev cX5_stick : ByteArray := prog_7_method_36_code
def yX5_stick : MethodName := ⟨RX5, "stick", "(IZ)I"⟩
abbrev cX5_run : ByteArray := prog_7_method_37_code
def yX5_run : MethodName := ⟨RX5, "run", "(I)I"⟩
abbrev cX5_trainOf : ByteArray := prog_7_method_38_code
def yX5_trainOf : MethodName := ⟨RX5, "trainOf", "(II)I"⟩
abbrev cX5_stands : ByteArray := prog_7_method_39_code
def yX5_stands : MethodName := ⟨RX5, "stands", "()I"⟩
abbrev cX5_figure : ByteArray := prog_7_method_40_code
def yX5_figure : MethodName := ⟨RX5, "figure", "()I"⟩
abbrev cX5_isFigure : ByteArray := prog_7_method_41_code
def yX5_isFigure : MethodName := ⟨RX5, "isFigure", "(I)Z"⟩
abbrev cX5_isPlace : ByteArray := prog_7_method_42_code
def yX5_isPlace : MethodName := ⟨RX5, "isPlace", "(I)Z"⟩
abbrev cX5_note : ByteArray := prog_7_method_43_code
def yX5_note : MethodName := ⟨RX5, "note", "(IIII)I"⟩
abbrev cX5_placeBy : ByteArray := prog_7_method_44_code
def yX5_placeBy : MethodName := ⟨RX5, "placeBy", "(IIII)I"⟩
abbrev cX5_where : ByteArray := prog_7_method_45_code
def yX5_where : MethodName := ⟨RX5, "where", "(III)I"⟩
abbrev cX5_at : ByteArray := prog_7_method_46_code
def yX5_at : MethodName := ⟨RX5, "at", "(III)I"⟩
abbrev cX5_turns : ByteArray := prog_7_method_47_code
def yX5_turns : MethodName := ⟨RX5, "turns", "(II)I"⟩
abbrev cX5_told : ByteArray := prog_7_method_48_code
def yX5_told : MethodName := ⟨RX5, "told", "(I)I"⟩
def RJ9 : String := "java/lang/Math"
def TJ9 : u_T := fun k => match k with
  | _ => ("", "", "", false)
def tyJ9 : Nat → FieldType := fun k => match k with
  | _ => .int
abbrev wsJ90 : List Cond := u_ws RJ9 TJ9 0
theorem nmJ9 : ∀ a, a < 0 → ∀ b, b < 0 → a ≠ b → (TJ9 a).2.1 ≠ (TJ9 b).2.1 := by decide +kernel
theorem tyJ9_ok : ∀ k, k < 0 → parseFieldDescriptor (TJ9 k).2.2.1 = some (tyJ9 k) := by decide +kernel
abbrev cJ9_min_7cf53 : ByteArray := prog_8_method_69_code
def yJ9_min_7cf53 : MethodName := ⟨RJ9, "min", "(II)I"⟩
def RJ10 : String := "java/lang/System"
def TJ10 : u_T := fun k => match k with
  | _ => ("", "", "", false)
def tyJ10 : Nat → FieldType := fun k => match k with
  | _ => .int
abbrev wsJ100 : List Cond := u_ws RJ10 TJ10 0
theorem nmJ10 : ∀ a, a < 0 → ∀ b, b < 0 → a ≠ b → (TJ10 a).2.1 ≠ (TJ10 b).2.1 := by decide +kernel
theorem tyJ10_ok : ∀ k, k < 0 → parseFieldDescriptor (TJ10 k).2.2.1 = some (tyJ10 k) := by decide +kernel
def RL : String := "ModelTownLaw"
abbrev cL_law : ByteArray := code
def yL_law : MethodName := ⟨RL, "law", "([I)Z"⟩
def wsX0_init : List Cond := .code yX0_init cX0_init 1 none :: ([.methodLink RX0 3 objectInit, .instanceMethod objectInit, .code objectInit ⟨#[0xb1]⟩ 1 none, .arrayClass .int, .fieldLink RX0 11 "ModelTown$Book" "noteFigure" "[I", .fieldLink RX0 15 "ModelTown$Book" "noteDay" "[I", .fieldLink RX0 18 "ModelTown$Book" "noteToldOn" "[I", .fieldLink RX0 21 "ModelTown$Book" "notePlace" "[I"] ++ wsX00)
def wsX0_addFigure : List Cond := .code yX0_addFigure cX0_addFigure 1 (some .int) :: ([.fieldLink RX0 24 "ModelTown$Book" "figures" "I"] ++ wsX00)
def wsX4_isWithin : List Cond := .code yX4_isWithin cX4_isWithin 3 (some .boolean) :: ([])
def wsX0_isFigure : List Cond := .code yX0_isFigure cX0_isFigure 2 (some .boolean) :: ([.fieldLink RX0 24 "ModelTown$Book" "figures" "I", .static yX4_isWithin, .initialized RX4, .code yX4_isWithin cX4_isWithin 3 (some .boolean)] ++ wsX00)
def wsX4_isDay : List Cond := .code yX4_isDay cX4_isDay 1 (some .boolean) :: ([.methodLink RX4 155 yX4_isWithin, .static yX4_isWithin, .initialized RX4, .code yX4_isWithin cX4_isWithin 3 (some .boolean)])
def wsX0_addNote : List Cond := .code yX0_addNote cX0_addNote 5 (some .int) :: ([.fieldLink RX0 39 "ModelTown$Book" "notes" "I", .fieldLink RX0 18 "ModelTown$Book" "noteToldOn" "[I", .fieldLink RX0 11 "ModelTown$Book" "noteFigure" "[I", .fieldLink RX0 15 "ModelTown$Book" "noteDay" "[I", .fieldLink RX0 21 "ModelTown$Book" "notePlace" "[I", .methodLink RX0 28 yX0_isFigure, .instanceMethod yX0_isFigure, .selects RX0 yX0_isFigure yX0_isFigure, .initialized RX0, .code yX0_isFigure cX0_isFigure 2 (some .boolean), .fieldLink RX0 24 "ModelTown$Book" "figures" "I", .static yX4_isWithin, .initialized RX4, .code yX4_isWithin cX4_isWithin 3 (some .boolean), .static yX4_isDay, .code yX4_isDay cX4_isDay 1 (some .boolean), .methodLink RX4 155 yX4_isWithin] ++ wsX00)
def wsX0_tellsOf : List Cond := .code yX0_tellsOf cX0_tellsOf 4 (some .boolean) :: ([.fieldLink RX0 11 "ModelTown$Book" "noteFigure" "[I", .fieldLink RX0 15 "ModelTown$Book" "noteDay" "[I"] ++ wsX00)
def wsX0_prevails : List Cond := .code yX0_prevails cX0_prevails 3 (some .boolean) :: ([.fieldLink RX0 15 "ModelTown$Book" "noteDay" "[I"] ++ wsX00)
def wsX0_placeOn : List Cond := .code yX0_placeOn cX0_placeOn 6 (some .int) :: ([.fieldLink RX0 39 "ModelTown$Book" "notes" "I", .fieldLink RX0 18 "ModelTown$Book" "noteToldOn" "[I", .fieldLink RX0 21 "ModelTown$Book" "notePlace" "[I", .methodLink RX0 46 yX0_tellsOf, .instanceMethod yX0_tellsOf, .selects RX0 yX0_tellsOf yX0_tellsOf, .initialized RX0, .code yX0_tellsOf cX0_tellsOf 4 (some .boolean), .fieldLink RX0 11 "ModelTown$Book" "noteFigure" "[I", .fieldLink RX0 15 "ModelTown$Book" "noteDay" "[I", .methodLink RX0 49 yX0_prevails, .instanceMethod yX0_prevails, .selects RX0 yX0_prevails yX0_prevails, .code yX0_prevails cX0_prevails 3 (some .boolean)] ++ wsX00)
def wsX0_whereIs_r1 : List Cond := [Cond.methodLink RX0 28 yX0_isFigure, Cond.instanceMethod yX0_isFigure, Cond.selects RX0 yX0_isFigure yX0_isFigure, Cond.initialized RX0, Cond.code yX0_isFigure cX0_isFigure 2 (some .boolean), Cond.fieldLink RX0 24 "ModelTown$Book" "figures" "I", Cond.static yX4_isWithin, Cond.initialized RX4, Cond.code yX4_isWithin cX4_isWithin 3 (some .boolean), Cond.static yX4_isDay, Cond.code yX4_isDay cX4_isDay 1 (some .boolean), Cond.methodLink RX4 155 yX4_isWithin, Cond.methodLink RX0 42 yX0_placeOn, Cond.instanceMethod yX0_placeOn, Cond.selects RX0 yX0_placeOn yX0_placeOn, Cond.code yX0_placeOn cX0_placeOn 6 (some .int), Cond.fieldLink RX0 39 "ModelTown$Book" "notes" "I", Cond.fieldLink RX0 18 "ModelTown$Book" "noteToldOn" "[I", Cond.fieldLink RX0 21 "ModelTown$Book" "notePlace" "[I", Cond.methodLink RX0 46 yX0_tellsOf, Cond.instanceMethod yX0_tellsOf, Cond.selects RX0 yX0_tellsOf yX0_tellsOf, Cond.code yX0_tellsOf cX0_tellsOf 4 (some .boolean), Cond.fieldLink RX0 11 "ModelTown$Book" "noteFigure" "[I"]
def wsX0_whereIs_r2 : List Cond := [Cond.fieldLink RX0 15 "ModelTown$Book" "noteDay" "[I", Cond.methodLink RX0 49 yX0_prevails, Cond.instanceMethod yX0_prevails, Cond.selects RX0 yX0_prevails yX0_prevails, Cond.code yX0_prevails cX0_prevails 3 (some .boolean)]
def wsX0_whereIs : List Cond := .code yX0_whereIs cX0_whereIs 4 (some .int) :: ((wsX0_whereIs_r1 ++ wsX0_whereIs_r2) ++ wsX00)
def wsX0_figuresAt_r1 : List Cond := [Cond.fieldLink RX0 24 "ModelTown$Book" "figures" "I", Cond.static yX4_isWithin, Cond.initialized RX4, Cond.code yX4_isWithin cX4_isWithin 3 (some .boolean), Cond.static yX4_isDay, Cond.code yX4_isDay cX4_isDay 1 (some .boolean), Cond.methodLink RX4 155 yX4_isWithin, Cond.methodLink RX0 42 yX0_placeOn, Cond.instanceMethod yX0_placeOn, Cond.selects RX0 yX0_placeOn yX0_placeOn, Cond.initialized RX0, Cond.code yX0_placeOn cX0_placeOn 6 (some .int), Cond.fieldLink RX0 39 "ModelTown$Book" "notes" "I", Cond.fieldLink RX0 18 "ModelTown$Book" "noteToldOn" "[I", Cond.fieldLink RX0 21 "ModelTown$Book" "notePlace" "[I", Cond.methodLink RX0 46 yX0_tellsOf, Cond.instanceMethod yX0_tellsOf, Cond.selects RX0 yX0_tellsOf yX0_tellsOf, Cond.code yX0_tellsOf cX0_tellsOf 4 (some .boolean), Cond.fieldLink RX0 11 "ModelTown$Book" "noteFigure" "[I", Cond.fieldLink RX0 15 "ModelTown$Book" "noteDay" "[I", Cond.methodLink RX0 49 yX0_prevails, Cond.instanceMethod yX0_prevails, Cond.selects RX0 yX0_prevails yX0_prevails]
def wsX0_figuresAt_r2 : List Cond := [Cond.code yX0_prevails cX0_prevails 3 (some .boolean)]
def wsX0_figuresAt : List Cond := .code yX0_figuresAt cX0_figuresAt 6 (some .int) :: ((wsX0_figuresAt_r1 ++ wsX0_figuresAt_r2) ++ wsX00)
def wsX0_turnsOf : List Cond := .code yX0_turnsOf cX0_turnsOf 6 (some .int) :: ([.fieldLink RX0 39 "ModelTown$Book" "notes" "I", .fieldLink RX0 21 "ModelTown$Book" "notePlace" "[I", .methodLink RX0 28 yX0_isFigure, .instanceMethod yX0_isFigure, .selects RX0 yX0_isFigure yX0_isFigure, .initialized RX0, .code yX0_isFigure cX0_isFigure 2 (some .boolean), .fieldLink RX0 24 "ModelTown$Book" "figures" "I", .static yX4_isWithin, .initialized RX4, .code yX4_isWithin cX4_isWithin 3 (some .boolean), .static yX4_isDay, .code yX4_isDay cX4_isDay 1 (some .boolean), .methodLink RX4 155 yX4_isWithin, .methodLink RX0 46 yX0_tellsOf, .instanceMethod yX0_tellsOf, .selects RX0 yX0_tellsOf yX0_tellsOf, .code yX0_tellsOf cX0_tellsOf 4 (some .boolean), .fieldLink RX0 11 "ModelTown$Book" "noteFigure" "[I", .fieldLink RX0 15 "ModelTown$Book" "noteDay" "[I", .methodLink RX0 49 yX0_prevails, .instanceMethod yX0_prevails, .selects RX0 yX0_prevails yX0_prevails, .code yX0_prevails cX0_prevails 3 (some .boolean)] ++ wsX00)
def wsX1_init : List Cond := .code yX1_init cX1_init 2 none :: ([.methodLink RX1 3 objectInit, .instanceMethod objectInit, .code objectInit ⟨#[0xb1]⟩ 1 none, .arrayClass .int, .fieldLink RX1 11 "ModelTown$Paint" "fades" "[I", .arrayClass .boolean, .fieldLink RX1 15 "ModelTown$Paint" "frosts" "[Z", .fieldLink RX1 19 "ModelTown$Paint" "hands" "I", .fieldLink RX1 23 "ModelTown$Paint" "houses" "[I", .fieldLink RX1 26 "ModelTown$Paint" "sides" "[I", .fieldLink RX1 29 "ModelTown$Paint" "hoursToPaint" "[I", .fieldLink RX1 32 "ModelTown$Paint" "looks" "[I", .fieldLink RX1 35 "ModelTown$Paint" "timesPainted" "[I", .fieldLink RX1 38 "ModelTown$Paint" "thoughtLooks" "[I", .fieldLink RX1 41 "ModelTown$Paint" "thoughtTimes" "[I"] ++ wsX10)
def wsX1_setFade : List Cond := .code yX1_setFade cX1_setFade 4 (some .int) :: ([.fieldLink RX1 11 "ModelTown$Paint" "fades" "[I", .static yX4_isWithin, .initialized RX4, .code yX4_isWithin cX4_isWithin 3 (some .boolean)] ++ wsX10)
def wsX1_addWall : List Cond := .code yX1_addWall cX1_addWall 4 (some .int) :: ([.fieldLink RX1 48 "ModelTown$Paint" "walls" "I", .fieldLink RX1 23 "ModelTown$Paint" "houses" "[I", .fieldLink RX1 26 "ModelTown$Paint" "sides" "[I", .fieldLink RX1 29 "ModelTown$Paint" "hoursToPaint" "[I", .fieldLink RX1 32 "ModelTown$Paint" "looks" "[I", .static yX4_isWithin, .initialized RX4, .code yX4_isWithin cX4_isWithin 3 (some .boolean)] ++ wsX10)
def wsX1_aboutWall : List Cond := .code yX1_aboutWall cX1_aboutWall 3 (some .int) :: ([.fieldLink RX1 48 "ModelTown$Paint" "walls" "I", .fieldLink RX1 23 "ModelTown$Paint" "houses" "[I", .fieldLink RX1 26 "ModelTown$Paint" "sides" "[I", .fieldLink RX1 29 "ModelTown$Paint" "hoursToPaint" "[I", .fieldLink RX1 32 "ModelTown$Paint" "looks" "[I", .fieldLink RX1 35 "ModelTown$Paint" "timesPainted" "[I", .static yX4_isWithin, .initialized RX4, .code yX4_isWithin cX4_isWithin 3 (some .boolean)] ++ wsX10)
def wsX1_setHands : List Cond := .code yX1_setHands cX1_setHands 3 (some .int) :: ([.fieldLink RX1 19 "ModelTown$Paint" "hands" "I", .static yX4_isWithin, .initialized RX4, .code yX4_isWithin cX4_isWithin 3 (some .boolean)] ++ wsX10)
def wsX4_oneIf : List Cond := .code yX4_oneIf cX4_oneIf 1 (some .int) :: ([])
def wsX1_setFrost : List Cond := .code yX1_setFrost cX1_setFrost 4 (some .int) :: ([.fieldLink RX1 51 "ModelTown$Paint" "week" "I", .fieldLink RX1 15 "ModelTown$Paint" "frosts" "[Z", .static yX4_isWithin, .initialized RX4, .code yX4_isWithin cX4_isWithin 3 (some .boolean), .static yX4_oneIf, .code yX4_oneIf cX4_oneIf 1 (some .int)] ++ wsX10)
def wsX1_mostFaded : List Cond := .code yX1_mostFaded cX1_mostFaded 5 (some .int) :: ([.fieldLink RX1 48 "ModelTown$Paint" "walls" "I"] ++ wsX10)
def wsX1_paintWalls : List Cond := .code yX1_paintWalls cX1_paintWalls 7 (some .int) :: ([.fieldLink RX1 48 "ModelTown$Paint" "walls" "I", .fieldLink RX1 29 "ModelTown$Paint" "hoursToPaint" "[I", .fieldLink RX1 75 "ModelTown$Paint" "hoursLacking" "I", .methodLink RX1 96 Lib.Math.min.name, .static Lib.Math.min.name, .initialized "java/lang/Math", .code Lib.Math.min.name Lib.Math.min.code 2 (some .int), .methodLink RX1 92 yX1_mostFaded, .instanceMethod yX1_mostFaded, .selects RX1 yX1_mostFaded yX1_mostFaded, .initialized RX1, .code yX1_mostFaded cX1_mostFaded 5 (some .int)] ++ wsX10)
def wsX1_passWeek : List Cond := .code yX1_passWeek cX1_passWeek 8 (some .int) :: ([.fieldLink RX1 15 "ModelTown$Paint" "frosts" "[Z", .fieldLink RX1 48 "ModelTown$Paint" "walls" "I", .fieldLink RX1 11 "ModelTown$Paint" "fades" "[I", .fieldLink RX1 26 "ModelTown$Paint" "sides" "[I", .methodLink RX1 88 yX1_paintWalls, .instanceMethod yX1_paintWalls, .selects RX1 yX1_paintWalls yX1_paintWalls, .initialized RX1, .code yX1_paintWalls cX1_paintWalls 7 (some .int), .fieldLink RX1 29 "ModelTown$Paint" "hoursToPaint" "[I", .fieldLink RX1 75 "ModelTown$Paint" "hoursLacking" "I", .methodLink RX1 96 Lib.Math.min.name, .static Lib.Math.min.name, .initialized "java/lang/Math", .code Lib.Math.min.name Lib.Math.min.code 2 (some .int), .methodLink RX1 92 yX1_mostFaded, .instanceMethod yX1_mostFaded, .selects RX1 yX1_mostFaded yX1_mostFaded, .code yX1_mostFaded cX1_mostFaded 5 (some .int)] ++ wsX10)
def wsX1_goWeek_r1 : List Cond := [Cond.fieldLink RX1 51 "ModelTown$Paint" "week" "I", Cond.fieldLink RX1 19 "ModelTown$Paint" "hands" "I", Cond.fieldLink RX1 32 "ModelTown$Paint" "looks" "[I", Cond.fieldLink RX1 35 "ModelTown$Paint" "timesPainted" "[I", Cond.methodLink RX1 58 yX1_passWeek, Cond.instanceMethod yX1_passWeek, Cond.selects RX1 yX1_passWeek yX1_passWeek, Cond.initialized RX1, Cond.code yX1_passWeek cX1_passWeek 8 (some .int), Cond.fieldLink RX1 15 "ModelTown$Paint" "frosts" "[Z", Cond.fieldLink RX1 48 "ModelTown$Paint" "walls" "I", Cond.fieldLink RX1 11 "ModelTown$Paint" "fades" "[I", Cond.fieldLink RX1 26 "ModelTown$Paint" "sides" "[I", Cond.methodLink RX1 88 yX1_paintWalls, Cond.instanceMethod yX1_paintWalls, Cond.selects RX1 yX1_paintWalls yX1_paintWalls, Cond.code yX1_paintWalls cX1_paintWalls 7 (some .int), Cond.fieldLink RX1 29 "ModelTown$Paint" "hoursToPaint" "[I", Cond.fieldLink RX1 75 "ModelTown$Paint" "hoursLacking" "I", Cond.methodLink RX1 96 Lib.Math.min.name, Cond.static Lib.Math.min.name, Cond.initialized "java/lang/Math", Cond.code Lib.Math.min.name Lib.Math.min.code 2 (some .int), Cond.methodLink RX1 92 yX1_mostFaded]
def wsX1_goWeek_r2 : List Cond := [Cond.instanceMethod yX1_mostFaded, Cond.selects RX1 yX1_mostFaded yX1_mostFaded, Cond.code yX1_mostFaded cX1_mostFaded 5 (some .int)]
def wsX1_goWeek : List Cond := .code yX1_goWeek cX1_goWeek 2 (some .int) :: ((wsX1_goWeek_r1 ++ wsX1_goWeek_r2) ++ wsX10)
def wsX1_keepLeast : List Cond := .code yX1_keepLeast cX1_keepLeast 3 none :: ([.fieldLink RX1 48 "ModelTown$Paint" "walls" "I", .fieldLink RX1 38 "ModelTown$Paint" "thoughtLooks" "[I", .fieldLink RX1 66 "ModelTown$Paint" "leastLook" "I", .fieldLink RX1 69 "ModelTown$Paint" "leastWeek" "I", .fieldLink RX1 72 "ModelTown$Paint" "leastWall" "I"] ++ wsX10)
def wsX1_foresee_r1 : List Cond := [Cond.fieldLink RX1 32 "ModelTown$Paint" "looks" "[I", Cond.fieldLink RX1 38 "ModelTown$Paint" "thoughtLooks" "[I", Cond.fieldLink RX1 48 "ModelTown$Paint" "walls" "I", Cond.methodLink RX1 78 arraycopyName, Cond.native arraycopyName, Cond.static arraycopyName, Cond.initialized "java/lang/System", Cond.fieldLink RX1 66 "ModelTown$Paint" "leastLook" "I", Cond.fieldLink RX1 75 "ModelTown$Paint" "hoursLacking" "I", Cond.fieldLink RX1 51 "ModelTown$Paint" "week" "I", Cond.fieldLink RX1 41 "ModelTown$Paint" "thoughtTimes" "[I", Cond.methodLink RX1 58 yX1_passWeek, Cond.instanceMethod yX1_passWeek, Cond.selects RX1 yX1_passWeek yX1_passWeek, Cond.initialized RX1, Cond.code yX1_passWeek cX1_passWeek 8 (some .int), Cond.fieldLink RX1 15 "ModelTown$Paint" "frosts" "[Z", Cond.fieldLink RX1 11 "ModelTown$Paint" "fades" "[I", Cond.fieldLink RX1 26 "ModelTown$Paint" "sides" "[I", Cond.methodLink RX1 88 yX1_paintWalls, Cond.instanceMethod yX1_paintWalls, Cond.selects RX1 yX1_paintWalls yX1_paintWalls, Cond.code yX1_paintWalls cX1_paintWalls 7 (some .int), Cond.fieldLink RX1 29 "ModelTown$Paint" "hoursToPaint" "[I"]
def wsX1_foresee_r2 : List Cond := [Cond.methodLink RX1 96 Lib.Math.min.name, Cond.static Lib.Math.min.name, Cond.initialized "java/lang/Math", Cond.code Lib.Math.min.name Lib.Math.min.code 2 (some .int), Cond.methodLink RX1 92 yX1_mostFaded, Cond.instanceMethod yX1_mostFaded, Cond.selects RX1 yX1_mostFaded yX1_mostFaded, Cond.code yX1_mostFaded cX1_mostFaded 5 (some .int), Cond.methodLink RX1 84 yX1_keepLeast, Cond.instanceMethod yX1_keepLeast, Cond.selects RX1 yX1_keepLeast yX1_keepLeast, Cond.code yX1_keepLeast cX1_keepLeast 3 none, Cond.fieldLink RX1 69 "ModelTown$Paint" "leastWeek" "I", Cond.fieldLink RX1 72 "ModelTown$Paint" "leastWall" "I"]
def wsX1_foresee : List Cond := .code yX1_foresee cX1_foresee 5 none :: ((wsX1_foresee_r1 ++ wsX1_foresee_r2) ++ wsX10)
def wsX1_leastForetold_r1 : List Cond := [Cond.fieldLink RX1 51 "ModelTown$Paint" "week" "I", Cond.fieldLink RX1 48 "ModelTown$Paint" "walls" "I", Cond.fieldLink RX1 19 "ModelTown$Paint" "hands" "I", Cond.fieldLink RX1 66 "ModelTown$Paint" "leastLook" "I", Cond.fieldLink RX1 69 "ModelTown$Paint" "leastWeek" "I", Cond.fieldLink RX1 72 "ModelTown$Paint" "leastWall" "I", Cond.static yX4_isWithin, Cond.initialized RX4, Cond.code yX4_isWithin cX4_isWithin 3 (some .boolean), Cond.methodLink RX1 62 yX1_foresee, Cond.instanceMethod yX1_foresee, Cond.selects RX1 yX1_foresee yX1_foresee, Cond.initialized RX1, Cond.code yX1_foresee cX1_foresee 5 none, Cond.fieldLink RX1 32 "ModelTown$Paint" "looks" "[I", Cond.fieldLink RX1 38 "ModelTown$Paint" "thoughtLooks" "[I", Cond.methodLink RX1 78 arraycopyName, Cond.native arraycopyName, Cond.static arraycopyName, Cond.initialized "java/lang/System", Cond.fieldLink RX1 75 "ModelTown$Paint" "hoursLacking" "I", Cond.fieldLink RX1 41 "ModelTown$Paint" "thoughtTimes" "[I", Cond.methodLink RX1 58 yX1_passWeek, Cond.instanceMethod yX1_passWeek]
def wsX1_leastForetold_r2 : List Cond := [Cond.selects RX1 yX1_passWeek yX1_passWeek, Cond.code yX1_passWeek cX1_passWeek 8 (some .int), Cond.fieldLink RX1 15 "ModelTown$Paint" "frosts" "[Z", Cond.fieldLink RX1 11 "ModelTown$Paint" "fades" "[I", Cond.fieldLink RX1 26 "ModelTown$Paint" "sides" "[I", Cond.methodLink RX1 88 yX1_paintWalls, Cond.instanceMethod yX1_paintWalls, Cond.selects RX1 yX1_paintWalls yX1_paintWalls, Cond.code yX1_paintWalls cX1_paintWalls 7 (some .int), Cond.fieldLink RX1 29 "ModelTown$Paint" "hoursToPaint" "[I", Cond.methodLink RX1 96 Lib.Math.min.name, Cond.static Lib.Math.min.name, Cond.initialized "java/lang/Math", Cond.code Lib.Math.min.name Lib.Math.min.code 2 (some .int), Cond.methodLink RX1 92 yX1_mostFaded, Cond.instanceMethod yX1_mostFaded, Cond.selects RX1 yX1_mostFaded yX1_mostFaded, Cond.code yX1_mostFaded cX1_mostFaded 5 (some .int), Cond.methodLink RX1 84 yX1_keepLeast, Cond.instanceMethod yX1_keepLeast, Cond.selects RX1 yX1_keepLeast yX1_keepLeast, Cond.code yX1_keepLeast cX1_keepLeast 3 none]
def wsX1_leastForetold : List Cond := .code yX1_leastForetold cX1_leastForetold 3 (some .int) :: ((wsX1_leastForetold_r1 ++ wsX1_leastForetold_r2) ++ wsX10)
def wsX1_fewestHands_r1 : List Cond := [Cond.fieldLink RX1 51 "ModelTown$Paint" "week" "I", Cond.fieldLink RX1 48 "ModelTown$Paint" "walls" "I", Cond.fieldLink RX1 66 "ModelTown$Paint" "leastLook" "I", Cond.fieldLink RX1 75 "ModelTown$Paint" "hoursLacking" "I", Cond.static yX4_isWithin, Cond.initialized RX4, Cond.code yX4_isWithin cX4_isWithin 3 (some .boolean), Cond.methodLink RX1 62 yX1_foresee, Cond.instanceMethod yX1_foresee, Cond.selects RX1 yX1_foresee yX1_foresee, Cond.initialized RX1, Cond.code yX1_foresee cX1_foresee 5 none, Cond.fieldLink RX1 32 "ModelTown$Paint" "looks" "[I", Cond.fieldLink RX1 38 "ModelTown$Paint" "thoughtLooks" "[I", Cond.methodLink RX1 78 arraycopyName, Cond.native arraycopyName, Cond.static arraycopyName, Cond.initialized "java/lang/System", Cond.fieldLink RX1 41 "ModelTown$Paint" "thoughtTimes" "[I", Cond.methodLink RX1 58 yX1_passWeek, Cond.instanceMethod yX1_passWeek, Cond.selects RX1 yX1_passWeek yX1_passWeek, Cond.code yX1_passWeek cX1_passWeek 8 (some .int), Cond.fieldLink RX1 15 "ModelTown$Paint" "frosts" "[Z"]
def wsX1_fewestHands_r2 : List Cond := [Cond.fieldLink RX1 11 "ModelTown$Paint" "fades" "[I", Cond.fieldLink RX1 26 "ModelTown$Paint" "sides" "[I", Cond.methodLink RX1 88 yX1_paintWalls, Cond.instanceMethod yX1_paintWalls, Cond.selects RX1 yX1_paintWalls yX1_paintWalls, Cond.code yX1_paintWalls cX1_paintWalls 7 (some .int), Cond.fieldLink RX1 29 "ModelTown$Paint" "hoursToPaint" "[I", Cond.methodLink RX1 96 Lib.Math.min.name, Cond.static Lib.Math.min.name, Cond.initialized "java/lang/Math", Cond.code Lib.Math.min.name Lib.Math.min.code 2 (some .int), Cond.methodLink RX1 92 yX1_mostFaded, Cond.instanceMethod yX1_mostFaded, Cond.selects RX1 yX1_mostFaded yX1_mostFaded, Cond.code yX1_mostFaded cX1_mostFaded 5 (some .int), Cond.methodLink RX1 84 yX1_keepLeast, Cond.instanceMethod yX1_keepLeast, Cond.selects RX1 yX1_keepLeast yX1_keepLeast, Cond.code yX1_keepLeast cX1_keepLeast 3 none, Cond.fieldLink RX1 69 "ModelTown$Paint" "leastWeek" "I", Cond.fieldLink RX1 72 "ModelTown$Paint" "leastWall" "I"]
def wsX1_fewestHands : List Cond := .code yX1_fewestHands cX1_fewestHands 5 (some .int) :: ((wsX1_fewestHands_r1 ++ wsX1_fewestHands_r2) ++ wsX10)
def wsX2_init : List Cond := .code yX2_init cX2_init 1 none :: ([.methodLink RX2 3 objectInit, .instanceMethod objectInit, .code objectInit ⟨#[0xb1]⟩ 1 none, .classLink RX2 11 "[[I", .arrayClass .int, .fieldLink RX2 13 "ModelTown$Rails" "ringBlocks" "[[I", .fieldLink RX2 16 "ModelTown$Rails" "ringLengths" "[I", .fieldLink RX2 20 "ModelTown$Rails" "trainRings" "[I", .fieldLink RX2 23 "ModelTown$Rails" "places" "[I", .fieldLink RX2 26 "ModelTown$Rails" "minutesNeeded" "[I", .fieldLink RX2 29 "ModelTown$Rails" "minutesInBlock" "[I", .fieldLink RX2 32 "ModelTown$Rails" "minutesWaited" "[I", .fieldLink RX2 35 "ModelTown$Rails" "blocksGone" "[I", .arrayClass .boolean, .fieldLink RX2 38 "ModelTown$Rails" "stuck" "[Z"] ++ wsX20)
def wsX2_addRing : List Cond := .code yX2_addRing cX2_addRing 1 (some .int) :: ([.fieldLink RX2 42 "ModelTown$Rails" "rings" "I"] ++ wsX20)
def wsX2_isRing : List Cond := .code yX2_isRing cX2_isRing 2 (some .boolean) :: ([.fieldLink RX2 42 "ModelTown$Rails" "rings" "I", .static yX4_isWithin, .initialized RX4, .code yX4_isWithin cX4_isWithin 3 (some .boolean)] ++ wsX20)
def wsX2_hasTrain : List Cond := .code yX2_hasTrain cX2_hasTrain 3 (some .boolean) :: ([.fieldLink RX2 61 "ModelTown$Rails" "trains" "I", .fieldLink RX2 20 "ModelTown$Rails" "trainRings" "[I"] ++ wsX20)
def wsX2_hasBlock : List Cond := .code yX2_hasBlock cX2_hasBlock 4 (some .boolean) :: ([.fieldLink RX2 16 "ModelTown$Rails" "ringLengths" "[I", .fieldLink RX2 13 "ModelTown$Rails" "ringBlocks" "[[I"] ++ wsX20)
def wsX2_addBlock : List Cond := .code yX2_addBlock cX2_addBlock 4 (some .int) :: ([.fieldLink RX2 16 "ModelTown$Rails" "ringLengths" "[I", .fieldLink RX2 13 "ModelTown$Rails" "ringBlocks" "[[I", .methodLink RX2 46 yX2_isRing, .instanceMethod yX2_isRing, .selects RX2 yX2_isRing yX2_isRing, .initialized RX2, .code yX2_isRing cX2_isRing 2 (some .boolean), .fieldLink RX2 42 "ModelTown$Rails" "rings" "I", .static yX4_isWithin, .initialized RX4, .code yX4_isWithin cX4_isWithin 3 (some .boolean), .methodLink RX2 54 yX2_hasTrain, .instanceMethod yX2_hasTrain, .selects RX2 yX2_hasTrain yX2_hasTrain, .code yX2_hasTrain cX2_hasTrain 3 (some .boolean), .fieldLink RX2 61 "ModelTown$Rails" "trains" "I", .fieldLink RX2 20 "ModelTown$Rails" "trainRings" "[I", .methodLink RX2 57 yX2_hasBlock, .instanceMethod yX2_hasBlock, .selects RX2 yX2_hasBlock yX2_hasBlock, .code yX2_hasBlock cX2_hasBlock 4 (some .boolean)] ++ wsX20)
def wsX2_blockOf : List Cond := .code yX2_blockOf cX2_blockOf 2 (some .int) :: ([.fieldLink RX2 13 "ModelTown$Rails" "ringBlocks" "[[I", .fieldLink RX2 20 "ModelTown$Rails" "trainRings" "[I", .fieldLink RX2 23 "ModelTown$Rails" "places" "[I"] ++ wsX20)
def wsX2_trainIn : List Cond := .code yX2_trainIn cX2_trainIn 3 (some .int) :: ([.fieldLink RX2 61 "ModelTown$Rails" "trains" "I", .methodLink RX2 81 yX2_blockOf, .instanceMethod yX2_blockOf, .selects RX2 yX2_blockOf yX2_blockOf, .initialized RX2, .code yX2_blockOf cX2_blockOf 2 (some .int), .fieldLink RX2 13 "ModelTown$Rails" "ringBlocks" "[[I", .fieldLink RX2 20 "ModelTown$Rails" "trainRings" "[I", .fieldLink RX2 23 "ModelTown$Rails" "places" "[I"] ++ wsX20)
def wsX2_addTrain : List Cond := .code yX2_addTrain cX2_addTrain 6 (some .int) :: ([.fieldLink RX2 16 "ModelTown$Rails" "ringLengths" "[I", .fieldLink RX2 61 "ModelTown$Rails" "trains" "I", .fieldLink RX2 13 "ModelTown$Rails" "ringBlocks" "[[I", .fieldLink RX2 20 "ModelTown$Rails" "trainRings" "[I", .fieldLink RX2 23 "ModelTown$Rails" "places" "[I", .fieldLink RX2 26 "ModelTown$Rails" "minutesNeeded" "[I", .methodLink RX2 46 yX2_isRing, .instanceMethod yX2_isRing, .selects RX2 yX2_isRing yX2_isRing, .initialized RX2, .code yX2_isRing cX2_isRing 2 (some .boolean), .fieldLink RX2 42 "ModelTown$Rails" "rings" "I", .static yX4_isWithin, .initialized RX4, .code yX4_isWithin cX4_isWithin 3 (some .boolean), .methodLink RX2 64 yX2_trainIn, .instanceMethod yX2_trainIn, .selects RX2 yX2_trainIn yX2_trainIn, .code yX2_trainIn cX2_trainIn 3 (some .int), .methodLink RX2 81 yX2_blockOf, .instanceMethod yX2_blockOf, .selects RX2 yX2_blockOf yX2_blockOf, .code yX2_blockOf cX2_blockOf 2 (some .int)] ++ wsX20)
def wsX2_isTrain : List Cond := .code yX2_isTrain cX2_isTrain 2 (some .boolean) :: ([.fieldLink RX2 61 "ModelTown$Rails" "trains" "I", .static yX4_isWithin, .initialized RX4, .code yX4_isWithin cX4_isWithin 3 (some .boolean)] ++ wsX20)
def wsX2_setStuck : List Cond := .code yX2_setStuck cX2_setStuck 4 (some .int) :: ([.fieldLink RX2 38 "ModelTown$Rails" "stuck" "[Z", .methodLink RX2 68 yX2_isTrain, .instanceMethod yX2_isTrain, .selects RX2 yX2_isTrain yX2_isTrain, .initialized RX2, .code yX2_isTrain cX2_isTrain 2 (some .boolean), .fieldLink RX2 61 "ModelTown$Rails" "trains" "I", .static yX4_isWithin, .initialized RX4, .code yX4_isWithin cX4_isWithin 3 (some .boolean), .static yX4_oneIf, .code yX4_oneIf cX4_oneIf 1 (some .int)] ++ wsX20)
def wsX2_nextPlace : List Cond := .code yX2_nextPlace cX2_nextPlace 3 (some .int) :: ([.fieldLink RX2 23 "ModelTown$Rails" "places" "[I", .fieldLink RX2 16 "ModelTown$Rails" "ringLengths" "[I", .fieldLink RX2 20 "ModelTown$Rails" "trainRings" "[I"] ++ wsX20)
def wsX2_trainAhead : List Cond := .code yX2_trainAhead cX2_trainAhead 2 (some .int) :: ([.fieldLink RX2 13 "ModelTown$Rails" "ringBlocks" "[[I", .fieldLink RX2 20 "ModelTown$Rails" "trainRings" "[I", .methodLink RX2 90 yX2_nextPlace, .instanceMethod yX2_nextPlace, .selects RX2 yX2_nextPlace yX2_nextPlace, .initialized RX2, .code yX2_nextPlace cX2_nextPlace 3 (some .int), .fieldLink RX2 23 "ModelTown$Rails" "places" "[I", .fieldLink RX2 16 "ModelTown$Rails" "ringLengths" "[I", .methodLink RX2 64 yX2_trainIn, .instanceMethod yX2_trainIn, .selects RX2 yX2_trainIn yX2_trainIn, .code yX2_trainIn cX2_trainIn 3 (some .int), .fieldLink RX2 61 "ModelTown$Rails" "trains" "I", .methodLink RX2 81 yX2_blockOf, .instanceMethod yX2_blockOf, .selects RX2 yX2_blockOf yX2_blockOf, .code yX2_blockOf cX2_blockOf 2 (some .int)] ++ wsX20)
def wsX2_goesOn_r1 : List Cond := [Cond.fieldLink RX2 29 "ModelTown$Rails" "minutesInBlock" "[I", Cond.fieldLink RX2 26 "ModelTown$Rails" "minutesNeeded" "[I", Cond.fieldLink RX2 32 "ModelTown$Rails" "minutesWaited" "[I", Cond.fieldLink RX2 23 "ModelTown$Rails" "places" "[I", Cond.fieldLink RX2 35 "ModelTown$Rails" "blocksGone" "[I", Cond.methodLink RX2 84 yX2_trainAhead, Cond.instanceMethod yX2_trainAhead, Cond.selects RX2 yX2_trainAhead yX2_trainAhead, Cond.initialized RX2, Cond.code yX2_trainAhead cX2_trainAhead 2 (some .int), Cond.fieldLink RX2 13 "ModelTown$Rails" "ringBlocks" "[[I", Cond.fieldLink RX2 20 "ModelTown$Rails" "trainRings" "[I", Cond.methodLink RX2 90 yX2_nextPlace, Cond.instanceMethod yX2_nextPlace, Cond.selects RX2 yX2_nextPlace yX2_nextPlace, Cond.code yX2_nextPlace cX2_nextPlace 3 (some .int), Cond.fieldLink RX2 16 "ModelTown$Rails" "ringLengths" "[I", Cond.methodLink RX2 64 yX2_trainIn, Cond.instanceMethod yX2_trainIn, Cond.selects RX2 yX2_trainIn yX2_trainIn, Cond.code yX2_trainIn cX2_trainIn 3 (some .int), Cond.fieldLink RX2 61 "ModelTown$Rails" "trains" "I", Cond.methodLink RX2 81 yX2_blockOf, Cond.instanceMethod yX2_blockOf]
def wsX2_goesOn_r2 : List Cond := [Cond.selects RX2 yX2_blockOf yX2_blockOf, Cond.code yX2_blockOf cX2_blockOf 2 (some .int)]
def wsX2_goesOn : List Cond := .code yX2_goesOn cX2_goesOn 2 (some .boolean) :: ((wsX2_goesOn_r1 ++ wsX2_goesOn_r2) ++ wsX20)
def wsX2_goMinutes_r1 : List Cond := [Cond.fieldLink RX2 61 "ModelTown$Rails" "trains" "I", Cond.fieldLink RX2 38 "ModelTown$Rails" "stuck" "[Z", Cond.fieldLink RX2 78 "ModelTown$Rails" "minutesGone" "I", Cond.static yX4_isWithin, Cond.initialized RX4, Cond.code yX4_isWithin cX4_isWithin 3 (some .boolean), Cond.methodLink RX2 75 yX2_goesOn, Cond.instanceMethod yX2_goesOn, Cond.selects RX2 yX2_goesOn yX2_goesOn, Cond.initialized RX2, Cond.code yX2_goesOn cX2_goesOn 2 (some .boolean), Cond.fieldLink RX2 29 "ModelTown$Rails" "minutesInBlock" "[I", Cond.fieldLink RX2 26 "ModelTown$Rails" "minutesNeeded" "[I", Cond.fieldLink RX2 32 "ModelTown$Rails" "minutesWaited" "[I", Cond.fieldLink RX2 23 "ModelTown$Rails" "places" "[I", Cond.fieldLink RX2 35 "ModelTown$Rails" "blocksGone" "[I", Cond.methodLink RX2 84 yX2_trainAhead, Cond.instanceMethod yX2_trainAhead, Cond.selects RX2 yX2_trainAhead yX2_trainAhead, Cond.code yX2_trainAhead cX2_trainAhead 2 (some .int), Cond.fieldLink RX2 13 "ModelTown$Rails" "ringBlocks" "[[I", Cond.fieldLink RX2 20 "ModelTown$Rails" "trainRings" "[I", Cond.methodLink RX2 90 yX2_nextPlace, Cond.instanceMethod yX2_nextPlace]
def wsX2_goMinutes_r2 : List Cond := [Cond.selects RX2 yX2_nextPlace yX2_nextPlace, Cond.code yX2_nextPlace cX2_nextPlace 3 (some .int), Cond.fieldLink RX2 16 "ModelTown$Rails" "ringLengths" "[I", Cond.methodLink RX2 64 yX2_trainIn, Cond.instanceMethod yX2_trainIn, Cond.selects RX2 yX2_trainIn yX2_trainIn, Cond.code yX2_trainIn cX2_trainIn 3 (some .int), Cond.methodLink RX2 81 yX2_blockOf, Cond.instanceMethod yX2_blockOf, Cond.selects RX2 yX2_blockOf yX2_blockOf, Cond.code yX2_blockOf cX2_blockOf 2 (some .int), Cond.static yX4_oneIf, Cond.code yX4_oneIf cX4_oneIf 1 (some .int)]
def wsX2_goMinutes : List Cond := .code yX2_goMinutes cX2_goMinutes 5 (some .int) :: ((wsX2_goMinutes_r1 ++ wsX2_goMinutes_r2) ++ wsX20)
def wsX2_aboutTrain_r1 : List Cond := [Cond.fieldLink RX2 20 "ModelTown$Rails" "trainRings" "[I", Cond.fieldLink RX2 23 "ModelTown$Rails" "places" "[I", Cond.fieldLink RX2 29 "ModelTown$Rails" "minutesInBlock" "[I", Cond.fieldLink RX2 38 "ModelTown$Rails" "stuck" "[Z", Cond.fieldLink RX2 32 "ModelTown$Rails" "minutesWaited" "[I", Cond.fieldLink RX2 35 "ModelTown$Rails" "blocksGone" "[I", Cond.methodLink RX2 68 yX2_isTrain, Cond.instanceMethod yX2_isTrain, Cond.selects RX2 yX2_isTrain yX2_isTrain, Cond.initialized RX2, Cond.code yX2_isTrain cX2_isTrain 2 (some .boolean), Cond.fieldLink RX2 61 "ModelTown$Rails" "trains" "I", Cond.static yX4_isWithin, Cond.initialized RX4, Cond.code yX4_isWithin cX4_isWithin 3 (some .boolean), Cond.methodLink RX2 81 yX2_blockOf, Cond.instanceMethod yX2_blockOf, Cond.selects RX2 yX2_blockOf yX2_blockOf, Cond.code yX2_blockOf cX2_blockOf 2 (some .int), Cond.fieldLink RX2 13 "ModelTown$Rails" "ringBlocks" "[[I", Cond.static yX4_oneIf, Cond.code yX4_oneIf cX4_oneIf 1 (some .int), Cond.methodLink RX2 84 yX2_trainAhead, Cond.instanceMethod yX2_trainAhead]
def wsX2_aboutTrain_r2 : List Cond := [Cond.selects RX2 yX2_trainAhead yX2_trainAhead, Cond.code yX2_trainAhead cX2_trainAhead 2 (some .int), Cond.methodLink RX2 90 yX2_nextPlace, Cond.instanceMethod yX2_nextPlace, Cond.selects RX2 yX2_nextPlace yX2_nextPlace, Cond.code yX2_nextPlace cX2_nextPlace 3 (some .int), Cond.fieldLink RX2 16 "ModelTown$Rails" "ringLengths" "[I", Cond.methodLink RX2 64 yX2_trainIn, Cond.instanceMethod yX2_trainIn, Cond.selects RX2 yX2_trainIn yX2_trainIn, Cond.code yX2_trainIn cX2_trainIn 3 (some .int)]
def wsX2_aboutTrain : List Cond := .code yX2_aboutTrain cX2_aboutTrain 3 (some .int) :: ((wsX2_aboutTrain_r1 ++ wsX2_aboutTrain_r2) ++ wsX20)
def wsX2_mayGoOn : List Cond := .code yX2_mayGoOn cX2_mayGoOn 4 (some .boolean) :: ([.fieldLink RX2 38 "ModelTown$Rails" "stuck" "[Z", .methodLink RX2 84 yX2_trainAhead, .instanceMethod yX2_trainAhead, .selects RX2 yX2_trainAhead yX2_trainAhead, .initialized RX2, .code yX2_trainAhead cX2_trainAhead 2 (some .int), .fieldLink RX2 13 "ModelTown$Rails" "ringBlocks" "[[I", .fieldLink RX2 20 "ModelTown$Rails" "trainRings" "[I", .methodLink RX2 90 yX2_nextPlace, .instanceMethod yX2_nextPlace, .selects RX2 yX2_nextPlace yX2_nextPlace, .code yX2_nextPlace cX2_nextPlace 3 (some .int), .fieldLink RX2 23 "ModelTown$Rails" "places" "[I", .fieldLink RX2 16 "ModelTown$Rails" "ringLengths" "[I", .methodLink RX2 64 yX2_trainIn, .instanceMethod yX2_trainIn, .selects RX2 yX2_trainIn yX2_trainIn, .code yX2_trainIn cX2_trainIn 3 (some .int), .fieldLink RX2 61 "ModelTown$Rails" "trains" "I", .methodLink RX2 81 yX2_blockOf, .instanceMethod yX2_blockOf, .selects RX2 yX2_blockOf yX2_blockOf, .code yX2_blockOf cX2_blockOf 2 (some .int)] ++ wsX20)
def wsX2_standing_r1 : List Cond := [Cond.fieldLink RX2 61 "ModelTown$Rails" "trains" "I", Cond.methodLink RX2 87 yX2_mayGoOn, Cond.instanceMethod yX2_mayGoOn, Cond.selects RX2 yX2_mayGoOn yX2_mayGoOn, Cond.initialized RX2, Cond.code yX2_mayGoOn cX2_mayGoOn 4 (some .boolean), Cond.fieldLink RX2 38 "ModelTown$Rails" "stuck" "[Z", Cond.methodLink RX2 84 yX2_trainAhead, Cond.instanceMethod yX2_trainAhead, Cond.selects RX2 yX2_trainAhead yX2_trainAhead, Cond.code yX2_trainAhead cX2_trainAhead 2 (some .int), Cond.fieldLink RX2 13 "ModelTown$Rails" "ringBlocks" "[[I", Cond.fieldLink RX2 20 "ModelTown$Rails" "trainRings" "[I", Cond.methodLink RX2 90 yX2_nextPlace, Cond.instanceMethod yX2_nextPlace, Cond.selects RX2 yX2_nextPlace yX2_nextPlace, Cond.code yX2_nextPlace cX2_nextPlace 3 (some .int), Cond.fieldLink RX2 23 "ModelTown$Rails" "places" "[I", Cond.fieldLink RX2 16 "ModelTown$Rails" "ringLengths" "[I", Cond.methodLink RX2 64 yX2_trainIn, Cond.instanceMethod yX2_trainIn, Cond.selects RX2 yX2_trainIn yX2_trainIn, Cond.code yX2_trainIn cX2_trainIn 3 (some .int), Cond.methodLink RX2 81 yX2_blockOf]
def wsX2_standing_r2 : List Cond := [Cond.instanceMethod yX2_blockOf, Cond.selects RX2 yX2_blockOf yX2_blockOf, Cond.code yX2_blockOf cX2_blockOf 2 (some .int)]
def wsX2_standing : List Cond := .code yX2_standing cX2_standing 4 (some .int) :: ((wsX2_standing_r1 ++ wsX2_standing_r2) ++ wsX20)
def wsX3_init : List Cond := .code yX3_init cX3_init 1 none :: ([.methodLink RX3 3 objectInit, .instanceMethod objectInit, .code objectInit ⟨#[0xb1]⟩ 1 none, .arrayClass .int, .fieldLink RX3 11 "ModelTown$Scale" "ruleDay" "[I", .fieldLink RX3 15 "ModelTown$Scale" "ruleRatio" "[I", .fieldLink RX3 18 "ModelTown$Scale" "ruleSlack" "[I", .fieldLink RX3 21 "ModelTown$Scale" "sorts" "[I", .fieldLink RX3 24 "ModelTown$Scale" "trueSizes" "[I", .fieldLink RX3 27 "ModelTown$Scale" "firstSizes" "[I", .fieldLink RX3 30 "ModelTown$Scale" "grows" "[I", .fieldLink RX3 33 "ModelTown$Scale" "clipThing" "[I", .fieldLink RX3 36 "ModelTown$Scale" "clipDay" "[I", .fieldLink RX3 39 "ModelTown$Scale" "clipSize" "[I"] ++ wsX30)
def wsX3_addRule : List Cond := .code yX3_addRule cX3_addRule 4 (some .int) :: ([.fieldLink RX3 50 "ModelTown$Scale" "rules" "I", .fieldLink RX3 11 "ModelTown$Scale" "ruleDay" "[I", .fieldLink RX3 15 "ModelTown$Scale" "ruleRatio" "[I", .fieldLink RX3 18 "ModelTown$Scale" "ruleSlack" "[I", .static yX4_isDay, .initialized RX4, .code yX4_isDay cX4_isDay 1 (some .boolean), .methodLink RX4 155 yX4_isWithin, .static yX4_isWithin, .code yX4_isWithin cX4_isWithin 3 (some .boolean)] ++ wsX30)
def wsX3_ruleOn : List Cond := .code yX3_ruleOn cX3_ruleOn 4 (some .int) :: ([.fieldLink RX3 50 "ModelTown$Scale" "rules" "I", .fieldLink RX3 11 "ModelTown$Scale" "ruleDay" "[I"] ++ wsX30)
def wsX3_ratioOn : List Cond := .code yX3_ratioOn cX3_ratioOn 3 (some .int) :: ([.fieldLink RX3 15 "ModelTown$Scale" "ruleRatio" "[I", .methodLink RX3 84 yX3_ruleOn, .instanceMethod yX3_ruleOn, .selects RX3 yX3_ruleOn yX3_ruleOn, .initialized RX3, .code yX3_ruleOn cX3_ruleOn 4 (some .int), .fieldLink RX3 50 "ModelTown$Scale" "rules" "I", .fieldLink RX3 11 "ModelTown$Scale" "ruleDay" "[I"] ++ wsX30)
def wsX3_slackOn : List Cond := .code yX3_slackOn cX3_slackOn 3 (some .int) :: ([.fieldLink RX3 18 "ModelTown$Scale" "ruleSlack" "[I", .methodLink RX3 84 yX3_ruleOn, .instanceMethod yX3_ruleOn, .selects RX3 yX3_ruleOn yX3_ruleOn, .initialized RX3, .code yX3_ruleOn cX3_ruleOn 4 (some .int), .fieldLink RX3 50 "ModelTown$Scale" "rules" "I", .fieldLink RX3 11 "ModelTown$Scale" "ruleDay" "[I"] ++ wsX30)
def wsX3_inForce : List Cond := .code yX3_inForce cX3_inForce 3 (some .int) :: ([.static yX4_isDay, .initialized RX4, .code yX4_isDay cX4_isDay 1 (some .boolean), .methodLink RX4 155 yX4_isWithin, .static yX4_isWithin, .code yX4_isWithin cX4_isWithin 3 (some .boolean), .methodLink RX3 54 yX3_ratioOn, .instanceMethod yX3_ratioOn, .selects RX3 yX3_ratioOn yX3_ratioOn, .initialized RX3, .code yX3_ratioOn cX3_ratioOn 3 (some .int), .fieldLink RX3 15 "ModelTown$Scale" "ruleRatio" "[I", .methodLink RX3 84 yX3_ruleOn, .instanceMethod yX3_ruleOn, .selects RX3 yX3_ruleOn yX3_ruleOn, .code yX3_ruleOn cX3_ruleOn 4 (some .int), .fieldLink RX3 50 "ModelTown$Scale" "rules" "I", .fieldLink RX3 11 "ModelTown$Scale" "ruleDay" "[I", .methodLink RX3 58 yX3_slackOn, .instanceMethod yX3_slackOn, .selects RX3 yX3_slackOn yX3_slackOn, .code yX3_slackOn cX3_slackOn 3 (some .int), .fieldLink RX3 18 "ModelTown$Scale" "ruleSlack" "[I"] ++ wsX30)
def wsX3_addThing : List Cond := .code yX3_addThing cX3_addThing 5 (some .int) :: ([.constant RX3 61 (60000), .fieldLink RX3 62 "ModelTown$Scale" "things" "I", .fieldLink RX3 21 "ModelTown$Scale" "sorts" "[I", .fieldLink RX3 24 "ModelTown$Scale" "trueSizes" "[I", .fieldLink RX3 27 "ModelTown$Scale" "firstSizes" "[I", .fieldLink RX3 30 "ModelTown$Scale" "grows" "[I", .static yX4_isWithin, .initialized RX4, .code yX4_isWithin cX4_isWithin 3 (some .boolean)] ++ wsX30)
def wsX3_isThing : List Cond := .code yX3_isThing cX3_isThing 2 (some .boolean) :: ([.fieldLink RX3 62 "ModelTown$Scale" "things" "I", .static yX4_isWithin, .initialized RX4, .code yX4_isWithin cX4_isWithin 3 (some .boolean)] ++ wsX30)
def wsX3_clippingOn : List Cond := .code yX3_clippingOn cX3_clippingOn 4 (some .int) :: ([.fieldLink RX3 68 "ModelTown$Scale" "clippings" "I", .fieldLink RX3 33 "ModelTown$Scale" "clipThing" "[I", .fieldLink RX3 36 "ModelTown$Scale" "clipDay" "[I"] ++ wsX30)
def wsX3_sizeOn : List Cond := .code yX3_sizeOn cX3_sizeOn 6 (some .int) :: ([.fieldLink RX3 36 "ModelTown$Scale" "clipDay" "[I", .fieldLink RX3 27 "ModelTown$Scale" "firstSizes" "[I", .fieldLink RX3 39 "ModelTown$Scale" "clipSize" "[I", .fieldLink RX3 30 "ModelTown$Scale" "grows" "[I", .methodLink RX3 71 yX3_clippingOn, .instanceMethod yX3_clippingOn, .selects RX3 yX3_clippingOn yX3_clippingOn, .initialized RX3, .code yX3_clippingOn cX3_clippingOn 4 (some .int), .fieldLink RX3 68 "ModelTown$Scale" "clippings" "I", .fieldLink RX3 33 "ModelTown$Scale" "clipThing" "[I"] ++ wsX30)
def wsX3_clipTree_r1 : List Cond := [Cond.fieldLink RX3 21 "ModelTown$Scale" "sorts" "[I", Cond.fieldLink RX3 68 "ModelTown$Scale" "clippings" "I", Cond.fieldLink RX3 36 "ModelTown$Scale" "clipDay" "[I", Cond.fieldLink RX3 33 "ModelTown$Scale" "clipThing" "[I", Cond.fieldLink RX3 39 "ModelTown$Scale" "clipSize" "[I", Cond.methodLink RX3 65 yX3_isThing, Cond.instanceMethod yX3_isThing, Cond.selects RX3 yX3_isThing yX3_isThing, Cond.initialized RX3, Cond.code yX3_isThing cX3_isThing 2 (some .boolean), Cond.fieldLink RX3 62 "ModelTown$Scale" "things" "I", Cond.static yX4_isWithin, Cond.initialized RX4, Cond.code yX4_isWithin cX4_isWithin 3 (some .boolean), Cond.static yX4_isDay, Cond.code yX4_isDay cX4_isDay 1 (some .boolean), Cond.methodLink RX4 155 yX4_isWithin, Cond.methodLink RX3 71 yX3_clippingOn, Cond.instanceMethod yX3_clippingOn, Cond.selects RX3 yX3_clippingOn yX3_clippingOn, Cond.code yX3_clippingOn cX3_clippingOn 4 (some .int), Cond.methodLink RX3 75 yX3_sizeOn, Cond.instanceMethod yX3_sizeOn, Cond.selects RX3 yX3_sizeOn yX3_sizeOn]
def wsX3_clipTree_r2 : List Cond := [Cond.code yX3_sizeOn cX3_sizeOn 6 (some .int), Cond.fieldLink RX3 27 "ModelTown$Scale" "firstSizes" "[I", Cond.fieldLink RX3 30 "ModelTown$Scale" "grows" "[I"]
def wsX3_clipTree : List Cond := .code yX3_clipTree cX3_clipTree 6 (some .int) :: ((wsX3_clipTree_r1 ++ wsX3_clipTree_r2) ++ wsX30)
def wsX3_dueOn : List Cond := .code yX3_dueOn cX3_dueOn 3 (some .int) :: ([.fieldLink RX3 24 "ModelTown$Scale" "trueSizes" "[I", .methodLink RX3 54 yX3_ratioOn, .instanceMethod yX3_ratioOn, .selects RX3 yX3_ratioOn yX3_ratioOn, .initialized RX3, .code yX3_ratioOn cX3_ratioOn 3 (some .int), .fieldLink RX3 15 "ModelTown$Scale" "ruleRatio" "[I", .methodLink RX3 84 yX3_ruleOn, .instanceMethod yX3_ruleOn, .selects RX3 yX3_ruleOn yX3_ruleOn, .code yX3_ruleOn cX3_ruleOn 4 (some .int), .fieldLink RX3 50 "ModelTown$Scale" "rules" "I", .fieldLink RX3 11 "ModelTown$Scale" "ruleDay" "[I"] ++ wsX30)
def wsX3_faultOn_r1 : List Cond := [Cond.fieldLink RX3 21 "ModelTown$Scale" "sorts" "[I", Cond.methodLink RX3 78 yX3_dueOn, Cond.instanceMethod yX3_dueOn, Cond.selects RX3 yX3_dueOn yX3_dueOn, Cond.initialized RX3, Cond.code yX3_dueOn cX3_dueOn 3 (some .int), Cond.fieldLink RX3 24 "ModelTown$Scale" "trueSizes" "[I", Cond.methodLink RX3 54 yX3_ratioOn, Cond.instanceMethod yX3_ratioOn, Cond.selects RX3 yX3_ratioOn yX3_ratioOn, Cond.code yX3_ratioOn cX3_ratioOn 3 (some .int), Cond.fieldLink RX3 15 "ModelTown$Scale" "ruleRatio" "[I", Cond.methodLink RX3 84 yX3_ruleOn, Cond.instanceMethod yX3_ruleOn, Cond.selects RX3 yX3_ruleOn yX3_ruleOn, Cond.code yX3_ruleOn cX3_ruleOn 4 (some .int), Cond.fieldLink RX3 50 "ModelTown$Scale" "rules" "I", Cond.fieldLink RX3 11 "ModelTown$Scale" "ruleDay" "[I", Cond.methodLink RX3 58 yX3_slackOn, Cond.instanceMethod yX3_slackOn, Cond.selects RX3 yX3_slackOn yX3_slackOn, Cond.code yX3_slackOn cX3_slackOn 3 (some .int), Cond.fieldLink RX3 18 "ModelTown$Scale" "ruleSlack" "[I", Cond.methodLink RX3 75 yX3_sizeOn]
def wsX3_faultOn_r2 : List Cond := [Cond.instanceMethod yX3_sizeOn, Cond.selects RX3 yX3_sizeOn yX3_sizeOn, Cond.code yX3_sizeOn cX3_sizeOn 6 (some .int), Cond.fieldLink RX3 36 "ModelTown$Scale" "clipDay" "[I", Cond.fieldLink RX3 27 "ModelTown$Scale" "firstSizes" "[I", Cond.fieldLink RX3 39 "ModelTown$Scale" "clipSize" "[I", Cond.fieldLink RX3 30 "ModelTown$Scale" "grows" "[I", Cond.methodLink RX3 71 yX3_clippingOn, Cond.instanceMethod yX3_clippingOn, Cond.selects RX3 yX3_clippingOn yX3_clippingOn, Cond.code yX3_clippingOn cX3_clippingOn 4 (some .int), Cond.fieldLink RX3 68 "ModelTown$Scale" "clippings" "I", Cond.fieldLink RX3 33 "ModelTown$Scale" "clipThing" "[I"]
def wsX3_faultOn : List Cond := .code yX3_faultOn cX3_faultOn 6 (some .int) :: ((wsX3_faultOn_r1 ++ wsX3_faultOn_r2) ++ wsX30)
def wsX3_lookAt_r1 : List Cond := [Cond.methodLink RX3 65 yX3_isThing, Cond.instanceMethod yX3_isThing, Cond.selects RX3 yX3_isThing yX3_isThing, Cond.initialized RX3, Cond.code yX3_isThing cX3_isThing 2 (some .boolean), Cond.fieldLink RX3 62 "ModelTown$Scale" "things" "I", Cond.static yX4_isWithin, Cond.initialized RX4, Cond.code yX4_isWithin cX4_isWithin 3 (some .boolean), Cond.static yX4_isDay, Cond.code yX4_isDay cX4_isDay 1 (some .boolean), Cond.methodLink RX4 155 yX4_isWithin, Cond.methodLink RX3 75 yX3_sizeOn, Cond.instanceMethod yX3_sizeOn, Cond.selects RX3 yX3_sizeOn yX3_sizeOn, Cond.code yX3_sizeOn cX3_sizeOn 6 (some .int), Cond.fieldLink RX3 36 "ModelTown$Scale" "clipDay" "[I", Cond.fieldLink RX3 27 "ModelTown$Scale" "firstSizes" "[I", Cond.fieldLink RX3 39 "ModelTown$Scale" "clipSize" "[I", Cond.fieldLink RX3 30 "ModelTown$Scale" "grows" "[I", Cond.methodLink RX3 71 yX3_clippingOn, Cond.instanceMethod yX3_clippingOn, Cond.selects RX3 yX3_clippingOn yX3_clippingOn, Cond.code yX3_clippingOn cX3_clippingOn 4 (some .int)]
def wsX3_lookAt_r2 : List Cond := [Cond.fieldLink RX3 68 "ModelTown$Scale" "clippings" "I", Cond.fieldLink RX3 33 "ModelTown$Scale" "clipThing" "[I", Cond.methodLink RX3 78 yX3_dueOn, Cond.instanceMethod yX3_dueOn, Cond.selects RX3 yX3_dueOn yX3_dueOn, Cond.code yX3_dueOn cX3_dueOn 3 (some .int), Cond.fieldLink RX3 24 "ModelTown$Scale" "trueSizes" "[I", Cond.methodLink RX3 54 yX3_ratioOn, Cond.instanceMethod yX3_ratioOn, Cond.selects RX3 yX3_ratioOn yX3_ratioOn, Cond.code yX3_ratioOn cX3_ratioOn 3 (some .int), Cond.fieldLink RX3 15 "ModelTown$Scale" "ruleRatio" "[I", Cond.methodLink RX3 84 yX3_ruleOn, Cond.instanceMethod yX3_ruleOn, Cond.selects RX3 yX3_ruleOn yX3_ruleOn, Cond.code yX3_ruleOn cX3_ruleOn 4 (some .int), Cond.fieldLink RX3 50 "ModelTown$Scale" "rules" "I", Cond.fieldLink RX3 11 "ModelTown$Scale" "ruleDay" "[I", Cond.methodLink RX3 81 yX3_faultOn, Cond.instanceMethod yX3_faultOn, Cond.selects RX3 yX3_faultOn yX3_faultOn, Cond.code yX3_faultOn cX3_faultOn 6 (some .int), Cond.fieldLink RX3 21 "ModelTown$Scale" "sorts" "[I", Cond.methodLink RX3 58 yX3_slackOn]
def wsX3_lookAt_r3 : List Cond := [Cond.instanceMethod yX3_slackOn, Cond.selects RX3 yX3_slackOn yX3_slackOn, Cond.code yX3_slackOn cX3_slackOn 3 (some .int), Cond.fieldLink RX3 18 "ModelTown$Scale" "ruleSlack" "[I"]
def wsX3_lookAt : List Cond := .code yX3_lookAt cX3_lookAt 4 (some .int) :: ((wsX3_lookAt_r1 ++ (wsX3_lookAt_r2 ++ wsX3_lookAt_r3)) ++ wsX30)
def wsX3_firstFaulty_r1 : List Cond := [Cond.fieldLink RX3 62 "ModelTown$Scale" "things" "I", Cond.static yX4_isDay, Cond.initialized RX4, Cond.code yX4_isDay cX4_isDay 1 (some .boolean), Cond.methodLink RX4 155 yX4_isWithin, Cond.static yX4_isWithin, Cond.code yX4_isWithin cX4_isWithin 3 (some .boolean), Cond.methodLink RX3 81 yX3_faultOn, Cond.instanceMethod yX3_faultOn, Cond.selects RX3 yX3_faultOn yX3_faultOn, Cond.initialized RX3, Cond.code yX3_faultOn cX3_faultOn 6 (some .int), Cond.fieldLink RX3 21 "ModelTown$Scale" "sorts" "[I", Cond.methodLink RX3 78 yX3_dueOn, Cond.instanceMethod yX3_dueOn, Cond.selects RX3 yX3_dueOn yX3_dueOn, Cond.code yX3_dueOn cX3_dueOn 3 (some .int), Cond.fieldLink RX3 24 "ModelTown$Scale" "trueSizes" "[I", Cond.methodLink RX3 54 yX3_ratioOn, Cond.instanceMethod yX3_ratioOn, Cond.selects RX3 yX3_ratioOn yX3_ratioOn, Cond.code yX3_ratioOn cX3_ratioOn 3 (some .int), Cond.fieldLink RX3 15 "ModelTown$Scale" "ruleRatio" "[I", Cond.methodLink RX3 84 yX3_ruleOn]
def wsX3_firstFaulty_r2 : List Cond := [Cond.instanceMethod yX3_ruleOn, Cond.selects RX3 yX3_ruleOn yX3_ruleOn, Cond.code yX3_ruleOn cX3_ruleOn 4 (some .int), Cond.fieldLink RX3 50 "ModelTown$Scale" "rules" "I", Cond.fieldLink RX3 11 "ModelTown$Scale" "ruleDay" "[I", Cond.methodLink RX3 58 yX3_slackOn, Cond.instanceMethod yX3_slackOn, Cond.selects RX3 yX3_slackOn yX3_slackOn, Cond.code yX3_slackOn cX3_slackOn 3 (some .int), Cond.fieldLink RX3 18 "ModelTown$Scale" "ruleSlack" "[I", Cond.methodLink RX3 75 yX3_sizeOn, Cond.instanceMethod yX3_sizeOn, Cond.selects RX3 yX3_sizeOn yX3_sizeOn, Cond.code yX3_sizeOn cX3_sizeOn 6 (some .int), Cond.fieldLink RX3 36 "ModelTown$Scale" "clipDay" "[I", Cond.fieldLink RX3 27 "ModelTown$Scale" "firstSizes" "[I", Cond.fieldLink RX3 39 "ModelTown$Scale" "clipSize" "[I", Cond.fieldLink RX3 30 "ModelTown$Scale" "grows" "[I", Cond.methodLink RX3 71 yX3_clippingOn, Cond.instanceMethod yX3_clippingOn, Cond.selects RX3 yX3_clippingOn yX3_clippingOn, Cond.code yX3_clippingOn cX3_clippingOn 4 (some .int), Cond.fieldLink RX3 68 "ModelTown$Scale" "clippings" "I", Cond.fieldLink RX3 33 "ModelTown$Scale" "clipThing" "[I"]
def wsX3_firstFaulty : List Cond := .code yX3_firstFaulty cX3_firstFaulty 3 (some .int) :: ((wsX3_firstFaulty_r1 ++ wsX3_firstFaulty_r2) ++ wsX30)
def wsX3_firstFaultyDay_r1 : List Cond := [Cond.methodLink RX3 65 yX3_isThing, Cond.instanceMethod yX3_isThing, Cond.selects RX3 yX3_isThing yX3_isThing, Cond.initialized RX3, Cond.code yX3_isThing cX3_isThing 2 (some .boolean), Cond.fieldLink RX3 62 "ModelTown$Scale" "things" "I", Cond.static yX4_isWithin, Cond.initialized RX4, Cond.code yX4_isWithin cX4_isWithin 3 (some .boolean), Cond.static yX4_isDay, Cond.code yX4_isDay cX4_isDay 1 (some .boolean), Cond.methodLink RX4 155 yX4_isWithin, Cond.methodLink RX3 81 yX3_faultOn, Cond.instanceMethod yX3_faultOn, Cond.selects RX3 yX3_faultOn yX3_faultOn, Cond.code yX3_faultOn cX3_faultOn 6 (some .int), Cond.fieldLink RX3 21 "ModelTown$Scale" "sorts" "[I", Cond.methodLink RX3 78 yX3_dueOn, Cond.instanceMethod yX3_dueOn, Cond.selects RX3 yX3_dueOn yX3_dueOn, Cond.code yX3_dueOn cX3_dueOn 3 (some .int), Cond.fieldLink RX3 24 "ModelTown$Scale" "trueSizes" "[I", Cond.methodLink RX3 54 yX3_ratioOn, Cond.instanceMethod yX3_ratioOn]
def wsX3_firstFaultyDay_r2 : List Cond := [Cond.selects RX3 yX3_ratioOn yX3_ratioOn, Cond.code yX3_ratioOn cX3_ratioOn 3 (some .int), Cond.fieldLink RX3 15 "ModelTown$Scale" "ruleRatio" "[I", Cond.methodLink RX3 84 yX3_ruleOn, Cond.instanceMethod yX3_ruleOn, Cond.selects RX3 yX3_ruleOn yX3_ruleOn, Cond.code yX3_ruleOn cX3_ruleOn 4 (some .int), Cond.fieldLink RX3 50 "ModelTown$Scale" "rules" "I", Cond.fieldLink RX3 11 "ModelTown$Scale" "ruleDay" "[I", Cond.methodLink RX3 58 yX3_slackOn, Cond.instanceMethod yX3_slackOn, Cond.selects RX3 yX3_slackOn yX3_slackOn, Cond.code yX3_slackOn cX3_slackOn 3 (some .int), Cond.fieldLink RX3 18 "ModelTown$Scale" "ruleSlack" "[I", Cond.methodLink RX3 75 yX3_sizeOn, Cond.instanceMethod yX3_sizeOn, Cond.selects RX3 yX3_sizeOn yX3_sizeOn, Cond.code yX3_sizeOn cX3_sizeOn 6 (some .int), Cond.fieldLink RX3 36 "ModelTown$Scale" "clipDay" "[I", Cond.fieldLink RX3 27 "ModelTown$Scale" "firstSizes" "[I", Cond.fieldLink RX3 39 "ModelTown$Scale" "clipSize" "[I", Cond.fieldLink RX3 30 "ModelTown$Scale" "grows" "[I", Cond.methodLink RX3 71 yX3_clippingOn, Cond.instanceMethod yX3_clippingOn]
def wsX3_firstFaultyDay_r3 : List Cond := [Cond.selects RX3 yX3_clippingOn yX3_clippingOn, Cond.code yX3_clippingOn cX3_clippingOn 4 (some .int), Cond.fieldLink RX3 68 "ModelTown$Scale" "clippings" "I", Cond.fieldLink RX3 33 "ModelTown$Scale" "clipThing" "[I"]
def wsX3_firstFaultyDay : List Cond := .code yX3_firstFaultyDay cX3_firstFaultyDay 4 (some .int) :: ((wsX3_firstFaultyDay_r1 ++ (wsX3_firstFaultyDay_r2 ++ wsX3_firstFaultyDay_r3)) ++ wsX30)
def wsX4_init_r1 : List Cond := [Cond.methodLink RX4 1 objectInit, Cond.instanceMethod objectInit, Cond.code objectInit ⟨#[0xb1]⟩ 1 none, Cond.classLink RX4 7 RX3, Cond.instantiable RX3 13, Cond.initialized RX3, Cond.fieldLink RX4 10 "ModelTown" "scale" "LModelTown$Scale;", Cond.classLink RX4 16 RX1, Cond.instantiable RX1 16, Cond.initialized RX1, Cond.fieldLink RX4 19 "ModelTown" "paint" "LModelTown$Paint;", Cond.classLink RX4 23 RX2, Cond.instantiable RX2 12, Cond.initialized RX2, Cond.fieldLink RX4 26 "ModelTown" "rails" "LModelTown$Rails;", Cond.classLink RX4 30 RX0, Cond.instantiable RX0 6, Cond.initialized RX0, Cond.fieldLink RX4 33 "ModelTown" "book" "LModelTown$Book;", Cond.instanceMethod yX3_init, Cond.code yX3_init cX3_init 1 none, Cond.methodLink RX3 3 objectInit, Cond.arrayClass .int, Cond.fieldLink RX3 11 "ModelTown$Scale" "ruleDay" "[I"]
def wsX4_init_r2 : List Cond := [Cond.fieldLink RX3 15 "ModelTown$Scale" "ruleRatio" "[I", Cond.fieldLink RX3 18 "ModelTown$Scale" "ruleSlack" "[I", Cond.fieldLink RX3 21 "ModelTown$Scale" "sorts" "[I", Cond.fieldLink RX3 24 "ModelTown$Scale" "trueSizes" "[I", Cond.fieldLink RX3 27 "ModelTown$Scale" "firstSizes" "[I", Cond.fieldLink RX3 30 "ModelTown$Scale" "grows" "[I", Cond.fieldLink RX3 33 "ModelTown$Scale" "clipThing" "[I", Cond.fieldLink RX3 36 "ModelTown$Scale" "clipDay" "[I", Cond.fieldLink RX3 39 "ModelTown$Scale" "clipSize" "[I", Cond.methodLink RX4 18 yX1_init, Cond.instanceMethod yX1_init, Cond.code yX1_init cX1_init 2 none, Cond.methodLink RX1 3 objectInit, Cond.fieldLink RX1 11 "ModelTown$Paint" "fades" "[I", Cond.arrayClass .boolean, Cond.fieldLink RX1 15 "ModelTown$Paint" "frosts" "[Z", Cond.fieldLink RX1 19 "ModelTown$Paint" "hands" "I", Cond.fieldLink RX1 23 "ModelTown$Paint" "houses" "[I", Cond.fieldLink RX1 26 "ModelTown$Paint" "sides" "[I", Cond.fieldLink RX1 29 "ModelTown$Paint" "hoursToPaint" "[I", Cond.fieldLink RX1 32 "ModelTown$Paint" "looks" "[I", Cond.fieldLink RX1 35 "ModelTown$Paint" "timesPainted" "[I", Cond.fieldLink RX1 38 "ModelTown$Paint" "thoughtLooks" "[I", Cond.fieldLink RX1 41 "ModelTown$Paint" "thoughtTimes" "[I"]
def wsX4_init_r3 : List Cond := [Cond.instanceMethod yX2_init, Cond.code yX2_init cX2_init 1 none, Cond.methodLink RX2 3 objectInit, Cond.classLink RX2 11 "[[I", Cond.fieldLink RX2 13 "ModelTown$Rails" "ringBlocks" "[[I", Cond.fieldLink RX2 16 "ModelTown$Rails" "ringLengths" "[I", Cond.fieldLink RX2 20 "ModelTown$Rails" "trainRings" "[I", Cond.fieldLink RX2 23 "ModelTown$Rails" "places" "[I", Cond.fieldLink RX2 26 "ModelTown$Rails" "minutesNeeded" "[I", Cond.fieldLink RX2 29 "ModelTown$Rails" "minutesInBlock" "[I", Cond.fieldLink RX2 32 "ModelTown$Rails" "minutesWaited" "[I", Cond.fieldLink RX2 35 "ModelTown$Rails" "blocksGone" "[I", Cond.fieldLink RX2 38 "ModelTown$Rails" "stuck" "[Z", Cond.instanceMethod yX0_init, Cond.code yX0_init cX0_init 1 none, Cond.methodLink RX0 3 objectInit, Cond.fieldLink RX0 11 "ModelTown$Book" "noteFigure" "[I", Cond.fieldLink RX0 15 "ModelTown$Book" "noteDay" "[I", Cond.fieldLink RX0 18 "ModelTown$Book" "noteToldOn" "[I", Cond.fieldLink RX0 21 "ModelTown$Book" "notePlace" "[I"]
def wsX4_init : List Cond := .code yX4_init cX4_init 1 none :: ((wsX4_init_r1 ++ (wsX4_init_r2 ++ wsX4_init_r3)) ++ wsX30 ++ wsX40 ++ wsX10 ++ wsX20 ++ wsX00)
def wsX4_rule : List Cond := .code yX4_rule cX4_rule 4 (some .int) :: ([.fieldLink RX4 10 "ModelTown" "scale" "LModelTown$Scale;", .methodLink RX4 37 yX3_addRule, .instanceMethod yX3_addRule, .selects RX3 yX3_addRule yX3_addRule, .initialized RX3, .code yX3_addRule cX3_addRule 4 (some .int), .fieldLink RX3 50 "ModelTown$Scale" "rules" "I", .fieldLink RX3 11 "ModelTown$Scale" "ruleDay" "[I", .fieldLink RX3 15 "ModelTown$Scale" "ruleRatio" "[I", .fieldLink RX3 18 "ModelTown$Scale" "ruleSlack" "[I", .static yX4_isDay, .initialized RX4, .code yX4_isDay cX4_isDay 1 (some .boolean), .methodLink RX4 155 yX4_isWithin, .static yX4_isWithin, .code yX4_isWithin cX4_isWithin 3 (some .boolean)] ++ wsX40 ++ wsX30)
def wsX4_force_r1 : List Cond := [Cond.fieldLink RX4 10 "ModelTown" "scale" "LModelTown$Scale;", Cond.methodLink RX4 41 yX3_inForce, Cond.instanceMethod yX3_inForce, Cond.selects RX3 yX3_inForce yX3_inForce, Cond.initialized RX3, Cond.code yX3_inForce cX3_inForce 3 (some .int), Cond.static yX4_isDay, Cond.initialized RX4, Cond.code yX4_isDay cX4_isDay 1 (some .boolean), Cond.methodLink RX4 155 yX4_isWithin, Cond.static yX4_isWithin, Cond.code yX4_isWithin cX4_isWithin 3 (some .boolean), Cond.methodLink RX3 54 yX3_ratioOn, Cond.instanceMethod yX3_ratioOn, Cond.selects RX3 yX3_ratioOn yX3_ratioOn, Cond.code yX3_ratioOn cX3_ratioOn 3 (some .int), Cond.fieldLink RX3 15 "ModelTown$Scale" "ruleRatio" "[I", Cond.methodLink RX3 84 yX3_ruleOn, Cond.instanceMethod yX3_ruleOn, Cond.selects RX3 yX3_ruleOn yX3_ruleOn, Cond.code yX3_ruleOn cX3_ruleOn 4 (some .int), Cond.fieldLink RX3 50 "ModelTown$Scale" "rules" "I", Cond.fieldLink RX3 11 "ModelTown$Scale" "ruleDay" "[I", Cond.methodLink RX3 58 yX3_slackOn]
def wsX4_force_r2 : List Cond := [Cond.instanceMethod yX3_slackOn, Cond.selects RX3 yX3_slackOn yX3_slackOn, Cond.code yX3_slackOn cX3_slackOn 3 (some .int), Cond.fieldLink RX3 18 "ModelTown$Scale" "ruleSlack" "[I"]
def wsX4_force : List Cond := .code yX4_force cX4_force 3 (some .int) :: ((wsX4_force_r1 ++ wsX4_force_r2) ++ wsX40 ++ wsX30)
def wsX4_thing : List Cond := .code yX4_thing cX4_thing 5 (some .int) :: ([.fieldLink RX4 10 "ModelTown" "scale" "LModelTown$Scale;", .methodLink RX4 45 yX3_addThing, .instanceMethod yX3_addThing, .selects RX3 yX3_addThing yX3_addThing, .initialized RX3, .code yX3_addThing cX3_addThing 5 (some .int), .constant RX3 61 (60000), .fieldLink RX3 62 "ModelTown$Scale" "things" "I", .fieldLink RX3 21 "ModelTown$Scale" "sorts" "[I", .fieldLink RX3 24 "ModelTown$Scale" "trueSizes" "[I", .fieldLink RX3 27 "ModelTown$Scale" "firstSizes" "[I", .fieldLink RX3 30 "ModelTown$Scale" "grows" "[I", .static yX4_isWithin, .initialized RX4, .code yX4_isWithin cX4_isWithin 3 (some .boolean)] ++ wsX40 ++ wsX30)
def wsX4_clip_r1 : List Cond := [Cond.fieldLink RX4 10 "ModelTown" "scale" "LModelTown$Scale;", Cond.methodLink RX4 49 yX3_clipTree, Cond.instanceMethod yX3_clipTree, Cond.selects RX3 yX3_clipTree yX3_clipTree, Cond.initialized RX3, Cond.code yX3_clipTree cX3_clipTree 6 (some .int), Cond.fieldLink RX3 21 "ModelTown$Scale" "sorts" "[I", Cond.fieldLink RX3 68 "ModelTown$Scale" "clippings" "I", Cond.fieldLink RX3 36 "ModelTown$Scale" "clipDay" "[I", Cond.fieldLink RX3 33 "ModelTown$Scale" "clipThing" "[I", Cond.fieldLink RX3 39 "ModelTown$Scale" "clipSize" "[I", Cond.methodLink RX3 65 yX3_isThing, Cond.instanceMethod yX3_isThing, Cond.selects RX3 yX3_isThing yX3_isThing, Cond.code yX3_isThing cX3_isThing 2 (some .boolean), Cond.fieldLink RX3 62 "ModelTown$Scale" "things" "I", Cond.static yX4_isWithin, Cond.initialized RX4, Cond.code yX4_isWithin cX4_isWithin 3 (some .boolean), Cond.static yX4_isDay, Cond.code yX4_isDay cX4_isDay 1 (some .boolean), Cond.methodLink RX4 155 yX4_isWithin, Cond.methodLink RX3 71 yX3_clippingOn, Cond.instanceMethod yX3_clippingOn]
def wsX4_clip_r2 : List Cond := [Cond.selects RX3 yX3_clippingOn yX3_clippingOn, Cond.code yX3_clippingOn cX3_clippingOn 4 (some .int), Cond.methodLink RX3 75 yX3_sizeOn, Cond.instanceMethod yX3_sizeOn, Cond.selects RX3 yX3_sizeOn yX3_sizeOn, Cond.code yX3_sizeOn cX3_sizeOn 6 (some .int), Cond.fieldLink RX3 27 "ModelTown$Scale" "firstSizes" "[I", Cond.fieldLink RX3 30 "ModelTown$Scale" "grows" "[I"]
def wsX4_clip : List Cond := .code yX4_clip cX4_clip 4 (some .int) :: ((wsX4_clip_r1 ++ wsX4_clip_r2) ++ wsX40 ++ wsX30)
def wsX4_look_r1 : List Cond := [Cond.fieldLink RX4 10 "ModelTown" "scale" "LModelTown$Scale;", Cond.methodLink RX4 52 yX3_lookAt, Cond.instanceMethod yX3_lookAt, Cond.selects RX3 yX3_lookAt yX3_lookAt, Cond.initialized RX3, Cond.code yX3_lookAt cX3_lookAt 4 (some .int), Cond.methodLink RX3 65 yX3_isThing, Cond.instanceMethod yX3_isThing, Cond.selects RX3 yX3_isThing yX3_isThing, Cond.code yX3_isThing cX3_isThing 2 (some .boolean), Cond.fieldLink RX3 62 "ModelTown$Scale" "things" "I", Cond.static yX4_isWithin, Cond.initialized RX4, Cond.code yX4_isWithin cX4_isWithin 3 (some .boolean), Cond.static yX4_isDay, Cond.code yX4_isDay cX4_isDay 1 (some .boolean), Cond.methodLink RX4 155 yX4_isWithin, Cond.methodLink RX3 75 yX3_sizeOn, Cond.instanceMethod yX3_sizeOn, Cond.selects RX3 yX3_sizeOn yX3_sizeOn, Cond.code yX3_sizeOn cX3_sizeOn 6 (some .int), Cond.fieldLink RX3 36 "ModelTown$Scale" "clipDay" "[I", Cond.fieldLink RX3 27 "ModelTown$Scale" "firstSizes" "[I", Cond.fieldLink RX3 39 "ModelTown$Scale" "clipSize" "[I"]
def wsX4_look_r2 : List Cond := [Cond.fieldLink RX3 30 "ModelTown$Scale" "grows" "[I", Cond.methodLink RX3 71 yX3_clippingOn, Cond.instanceMethod yX3_clippingOn, Cond.selects RX3 yX3_clippingOn yX3_clippingOn, Cond.code yX3_clippingOn cX3_clippingOn 4 (some .int), Cond.fieldLink RX3 68 "ModelTown$Scale" "clippings" "I", Cond.fieldLink RX3 33 "ModelTown$Scale" "clipThing" "[I", Cond.methodLink RX3 78 yX3_dueOn, Cond.instanceMethod yX3_dueOn, Cond.selects RX3 yX3_dueOn yX3_dueOn, Cond.code yX3_dueOn cX3_dueOn 3 (some .int), Cond.fieldLink RX3 24 "ModelTown$Scale" "trueSizes" "[I", Cond.methodLink RX3 54 yX3_ratioOn, Cond.instanceMethod yX3_ratioOn, Cond.selects RX3 yX3_ratioOn yX3_ratioOn, Cond.code yX3_ratioOn cX3_ratioOn 3 (some .int), Cond.fieldLink RX3 15 "ModelTown$Scale" "ruleRatio" "[I", Cond.methodLink RX3 84 yX3_ruleOn, Cond.instanceMethod yX3_ruleOn, Cond.selects RX3 yX3_ruleOn yX3_ruleOn, Cond.code yX3_ruleOn cX3_ruleOn 4 (some .int), Cond.fieldLink RX3 50 "ModelTown$Scale" "rules" "I", Cond.fieldLink RX3 11 "ModelTown$Scale" "ruleDay" "[I", Cond.methodLink RX3 81 yX3_faultOn]
def wsX4_look_r3 : List Cond := [Cond.instanceMethod yX3_faultOn, Cond.selects RX3 yX3_faultOn yX3_faultOn, Cond.code yX3_faultOn cX3_faultOn 6 (some .int), Cond.fieldLink RX3 21 "ModelTown$Scale" "sorts" "[I", Cond.methodLink RX3 58 yX3_slackOn, Cond.instanceMethod yX3_slackOn, Cond.selects RX3 yX3_slackOn yX3_slackOn, Cond.code yX3_slackOn cX3_slackOn 3 (some .int), Cond.fieldLink RX3 18 "ModelTown$Scale" "ruleSlack" "[I"]
def wsX4_look : List Cond := .code yX4_look cX4_look 4 (some .int) :: ((wsX4_look_r1 ++ (wsX4_look_r2 ++ wsX4_look_r3)) ++ wsX40 ++ wsX30)
def wsX4_fault_r1 : List Cond := [Cond.fieldLink RX4 10 "ModelTown" "scale" "LModelTown$Scale;", Cond.methodLink RX4 55 yX3_firstFaulty, Cond.instanceMethod yX3_firstFaulty, Cond.selects RX3 yX3_firstFaulty yX3_firstFaulty, Cond.initialized RX3, Cond.code yX3_firstFaulty cX3_firstFaulty 3 (some .int), Cond.fieldLink RX3 62 "ModelTown$Scale" "things" "I", Cond.static yX4_isDay, Cond.initialized RX4, Cond.code yX4_isDay cX4_isDay 1 (some .boolean), Cond.methodLink RX4 155 yX4_isWithin, Cond.static yX4_isWithin, Cond.code yX4_isWithin cX4_isWithin 3 (some .boolean), Cond.methodLink RX3 81 yX3_faultOn, Cond.instanceMethod yX3_faultOn, Cond.selects RX3 yX3_faultOn yX3_faultOn, Cond.code yX3_faultOn cX3_faultOn 6 (some .int), Cond.fieldLink RX3 21 "ModelTown$Scale" "sorts" "[I", Cond.methodLink RX3 78 yX3_dueOn, Cond.instanceMethod yX3_dueOn, Cond.selects RX3 yX3_dueOn yX3_dueOn, Cond.code yX3_dueOn cX3_dueOn 3 (some .int), Cond.fieldLink RX3 24 "ModelTown$Scale" "trueSizes" "[I", Cond.methodLink RX3 54 yX3_ratioOn]
def wsX4_fault_r2 : List Cond := [Cond.instanceMethod yX3_ratioOn, Cond.selects RX3 yX3_ratioOn yX3_ratioOn, Cond.code yX3_ratioOn cX3_ratioOn 3 (some .int), Cond.fieldLink RX3 15 "ModelTown$Scale" "ruleRatio" "[I", Cond.methodLink RX3 84 yX3_ruleOn, Cond.instanceMethod yX3_ruleOn, Cond.selects RX3 yX3_ruleOn yX3_ruleOn, Cond.code yX3_ruleOn cX3_ruleOn 4 (some .int), Cond.fieldLink RX3 50 "ModelTown$Scale" "rules" "I", Cond.fieldLink RX3 11 "ModelTown$Scale" "ruleDay" "[I", Cond.methodLink RX3 58 yX3_slackOn, Cond.instanceMethod yX3_slackOn, Cond.selects RX3 yX3_slackOn yX3_slackOn, Cond.code yX3_slackOn cX3_slackOn 3 (some .int), Cond.fieldLink RX3 18 "ModelTown$Scale" "ruleSlack" "[I", Cond.methodLink RX3 75 yX3_sizeOn, Cond.instanceMethod yX3_sizeOn, Cond.selects RX3 yX3_sizeOn yX3_sizeOn, Cond.code yX3_sizeOn cX3_sizeOn 6 (some .int), Cond.fieldLink RX3 36 "ModelTown$Scale" "clipDay" "[I", Cond.fieldLink RX3 27 "ModelTown$Scale" "firstSizes" "[I", Cond.fieldLink RX3 39 "ModelTown$Scale" "clipSize" "[I", Cond.fieldLink RX3 30 "ModelTown$Scale" "grows" "[I", Cond.methodLink RX3 71 yX3_clippingOn]
def wsX4_fault_r3 : List Cond := [Cond.instanceMethod yX3_clippingOn, Cond.selects RX3 yX3_clippingOn yX3_clippingOn, Cond.code yX3_clippingOn cX3_clippingOn 4 (some .int), Cond.fieldLink RX3 68 "ModelTown$Scale" "clippings" "I", Cond.fieldLink RX3 33 "ModelTown$Scale" "clipThing" "[I"]
def wsX4_fault : List Cond := .code yX4_fault cX4_fault 2 (some .int) :: ((wsX4_fault_r1 ++ (wsX4_fault_r2 ++ wsX4_fault_r3)) ++ wsX40 ++ wsX30)
def wsX4_spoils_r1 : List Cond := [Cond.fieldLink RX4 10 "ModelTown" "scale" "LModelTown$Scale;", Cond.methodLink RX4 59 yX3_firstFaultyDay, Cond.instanceMethod yX3_firstFaultyDay, Cond.selects RX3 yX3_firstFaultyDay yX3_firstFaultyDay, Cond.initialized RX3, Cond.code yX3_firstFaultyDay cX3_firstFaultyDay 4 (some .int), Cond.methodLink RX3 65 yX3_isThing, Cond.instanceMethod yX3_isThing, Cond.selects RX3 yX3_isThing yX3_isThing, Cond.code yX3_isThing cX3_isThing 2 (some .boolean), Cond.fieldLink RX3 62 "ModelTown$Scale" "things" "I", Cond.static yX4_isWithin, Cond.initialized RX4, Cond.code yX4_isWithin cX4_isWithin 3 (some .boolean), Cond.static yX4_isDay, Cond.code yX4_isDay cX4_isDay 1 (some .boolean), Cond.methodLink RX4 155 yX4_isWithin, Cond.methodLink RX3 81 yX3_faultOn, Cond.instanceMethod yX3_faultOn, Cond.selects RX3 yX3_faultOn yX3_faultOn, Cond.code yX3_faultOn cX3_faultOn 6 (some .int), Cond.fieldLink RX3 21 "ModelTown$Scale" "sorts" "[I", Cond.methodLink RX3 78 yX3_dueOn, Cond.instanceMethod yX3_dueOn]
def wsX4_spoils_r2 : List Cond := [Cond.selects RX3 yX3_dueOn yX3_dueOn, Cond.code yX3_dueOn cX3_dueOn 3 (some .int), Cond.fieldLink RX3 24 "ModelTown$Scale" "trueSizes" "[I", Cond.methodLink RX3 54 yX3_ratioOn, Cond.instanceMethod yX3_ratioOn, Cond.selects RX3 yX3_ratioOn yX3_ratioOn, Cond.code yX3_ratioOn cX3_ratioOn 3 (some .int), Cond.fieldLink RX3 15 "ModelTown$Scale" "ruleRatio" "[I", Cond.methodLink RX3 84 yX3_ruleOn, Cond.instanceMethod yX3_ruleOn, Cond.selects RX3 yX3_ruleOn yX3_ruleOn, Cond.code yX3_ruleOn cX3_ruleOn 4 (some .int), Cond.fieldLink RX3 50 "ModelTown$Scale" "rules" "I", Cond.fieldLink RX3 11 "ModelTown$Scale" "ruleDay" "[I", Cond.methodLink RX3 58 yX3_slackOn, Cond.instanceMethod yX3_slackOn, Cond.selects RX3 yX3_slackOn yX3_slackOn, Cond.code yX3_slackOn cX3_slackOn 3 (some .int), Cond.fieldLink RX3 18 "ModelTown$Scale" "ruleSlack" "[I", Cond.methodLink RX3 75 yX3_sizeOn, Cond.instanceMethod yX3_sizeOn, Cond.selects RX3 yX3_sizeOn yX3_sizeOn, Cond.code yX3_sizeOn cX3_sizeOn 6 (some .int), Cond.fieldLink RX3 36 "ModelTown$Scale" "clipDay" "[I"]
def wsX4_spoils_r3 : List Cond := [Cond.fieldLink RX3 27 "ModelTown$Scale" "firstSizes" "[I", Cond.fieldLink RX3 39 "ModelTown$Scale" "clipSize" "[I", Cond.fieldLink RX3 30 "ModelTown$Scale" "grows" "[I", Cond.methodLink RX3 71 yX3_clippingOn, Cond.instanceMethod yX3_clippingOn, Cond.selects RX3 yX3_clippingOn yX3_clippingOn, Cond.code yX3_clippingOn cX3_clippingOn 4 (some .int), Cond.fieldLink RX3 68 "ModelTown$Scale" "clippings" "I", Cond.fieldLink RX3 33 "ModelTown$Scale" "clipThing" "[I"]
def wsX4_spoils : List Cond := .code yX4_spoils cX4_spoils 3 (some .int) :: ((wsX4_spoils_r1 ++ (wsX4_spoils_r2 ++ wsX4_spoils_r3)) ++ wsX40 ++ wsX30)
def wsX4_fade : List Cond := .code yX4_fade cX4_fade 3 (some .int) :: ([.fieldLink RX4 19 "ModelTown" "paint" "LModelTown$Paint;", .methodLink RX4 62 yX1_setFade, .instanceMethod yX1_setFade, .selects RX1 yX1_setFade yX1_setFade, .initialized RX1, .code yX1_setFade cX1_setFade 4 (some .int), .fieldLink RX1 11 "ModelTown$Paint" "fades" "[I", .static yX4_isWithin, .initialized RX4, .code yX4_isWithin cX4_isWithin 3 (some .boolean)] ++ wsX40 ++ wsX10)
def wsX4_wall : List Cond := .code yX4_wall cX4_wall 4 (some .int) :: ([.fieldLink RX4 19 "ModelTown" "paint" "LModelTown$Paint;", .methodLink RX4 65 yX1_addWall, .instanceMethod yX1_addWall, .selects RX1 yX1_addWall yX1_addWall, .initialized RX1, .code yX1_addWall cX1_addWall 4 (some .int), .fieldLink RX1 48 "ModelTown$Paint" "walls" "I", .fieldLink RX1 23 "ModelTown$Paint" "houses" "[I", .fieldLink RX1 26 "ModelTown$Paint" "sides" "[I", .fieldLink RX1 29 "ModelTown$Paint" "hoursToPaint" "[I", .fieldLink RX1 32 "ModelTown$Paint" "looks" "[I", .static yX4_isWithin, .initialized RX4, .code yX4_isWithin cX4_isWithin 3 (some .boolean)] ++ wsX40 ++ wsX10)
def wsX4_wallOf : List Cond := .code yX4_wallOf cX4_wallOf 3 (some .int) :: ([.fieldLink RX4 19 "ModelTown" "paint" "LModelTown$Paint;", .methodLink RX4 68 yX1_aboutWall, .instanceMethod yX1_aboutWall, .selects RX1 yX1_aboutWall yX1_aboutWall, .initialized RX1, .code yX1_aboutWall cX1_aboutWall 3 (some .int), .fieldLink RX1 48 "ModelTown$Paint" "walls" "I", .fieldLink RX1 23 "ModelTown$Paint" "houses" "[I", .fieldLink RX1 26 "ModelTown$Paint" "sides" "[I", .fieldLink RX1 29 "ModelTown$Paint" "hoursToPaint" "[I", .fieldLink RX1 32 "ModelTown$Paint" "looks" "[I", .fieldLink RX1 35 "ModelTown$Paint" "timesPainted" "[I", .static yX4_isWithin, .initialized RX4, .code yX4_isWithin cX4_isWithin 3 (some .boolean)] ++ wsX40 ++ wsX10)
def wsX4_hands : List Cond := .code yX4_hands cX4_hands 2 (some .int) :: ([.fieldLink RX4 19 "ModelTown" "paint" "LModelTown$Paint;", .methodLink RX4 71 yX1_setHands, .instanceMethod yX1_setHands, .selects RX1 yX1_setHands yX1_setHands, .initialized RX1, .code yX1_setHands cX1_setHands 3 (some .int), .fieldLink RX1 19 "ModelTown$Paint" "hands" "I", .static yX4_isWithin, .initialized RX4, .code yX4_isWithin cX4_isWithin 3 (some .boolean)] ++ wsX40 ++ wsX10)
def wsX4_frost : List Cond := .code yX4_frost cX4_frost 3 (some .int) :: ([.fieldLink RX4 19 "ModelTown" "paint" "LModelTown$Paint;", .methodLink RX4 74 yX1_setFrost, .instanceMethod yX1_setFrost, .selects RX1 yX1_setFrost yX1_setFrost, .initialized RX1, .code yX1_setFrost cX1_setFrost 4 (some .int), .fieldLink RX1 51 "ModelTown$Paint" "week" "I", .fieldLink RX1 15 "ModelTown$Paint" "frosts" "[Z", .static yX4_isWithin, .initialized RX4, .code yX4_isWithin cX4_isWithin 3 (some .boolean), .static yX4_oneIf, .code yX4_oneIf cX4_oneIf 1 (some .int)] ++ wsX40 ++ wsX10)
def wsX4_week_r1 : List Cond := [Cond.fieldLink RX4 19 "ModelTown" "paint" "LModelTown$Paint;", Cond.methodLink RX4 78 yX1_goWeek, Cond.instanceMethod yX1_goWeek, Cond.selects RX1 yX1_goWeek yX1_goWeek, Cond.initialized RX1, Cond.code yX1_goWeek cX1_goWeek 2 (some .int), Cond.fieldLink RX1 51 "ModelTown$Paint" "week" "I", Cond.fieldLink RX1 19 "ModelTown$Paint" "hands" "I", Cond.fieldLink RX1 32 "ModelTown$Paint" "looks" "[I", Cond.fieldLink RX1 35 "ModelTown$Paint" "timesPainted" "[I", Cond.methodLink RX1 58 yX1_passWeek, Cond.instanceMethod yX1_passWeek, Cond.selects RX1 yX1_passWeek yX1_passWeek, Cond.code yX1_passWeek cX1_passWeek 8 (some .int), Cond.fieldLink RX1 15 "ModelTown$Paint" "frosts" "[Z", Cond.fieldLink RX1 48 "ModelTown$Paint" "walls" "I", Cond.fieldLink RX1 11 "ModelTown$Paint" "fades" "[I", Cond.fieldLink RX1 26 "ModelTown$Paint" "sides" "[I", Cond.methodLink RX1 88 yX1_paintWalls, Cond.instanceMethod yX1_paintWalls, Cond.selects RX1 yX1_paintWalls yX1_paintWalls, Cond.code yX1_paintWalls cX1_paintWalls 7 (some .int), Cond.fieldLink RX1 29 "ModelTown$Paint" "hoursToPaint" "[I", Cond.fieldLink RX1 75 "ModelTown$Paint" "hoursLacking" "I"]
def wsX4_week_r2 : List Cond := [Cond.methodLink RX1 96 Lib.Math.min.name, Cond.static Lib.Math.min.name, Cond.initialized "java/lang/Math", Cond.code Lib.Math.min.name Lib.Math.min.code 2 (some .int), Cond.methodLink RX1 92 yX1_mostFaded, Cond.instanceMethod yX1_mostFaded, Cond.selects RX1 yX1_mostFaded yX1_mostFaded, Cond.code yX1_mostFaded cX1_mostFaded 5 (some .int)]
def wsX4_week : List Cond := .code yX4_week cX4_week 1 (some .int) :: ((wsX4_week_r1 ++ wsX4_week_r2) ++ wsX40 ++ wsX10)
def wsX4_foretell_r1 : List Cond := [Cond.fieldLink RX4 19 "ModelTown" "paint" "LModelTown$Paint;", Cond.methodLink RX4 82 yX1_leastForetold, Cond.instanceMethod yX1_leastForetold, Cond.selects RX1 yX1_leastForetold yX1_leastForetold, Cond.initialized RX1, Cond.code yX1_leastForetold cX1_leastForetold 3 (some .int), Cond.fieldLink RX1 51 "ModelTown$Paint" "week" "I", Cond.fieldLink RX1 48 "ModelTown$Paint" "walls" "I", Cond.fieldLink RX1 19 "ModelTown$Paint" "hands" "I", Cond.fieldLink RX1 66 "ModelTown$Paint" "leastLook" "I", Cond.fieldLink RX1 69 "ModelTown$Paint" "leastWeek" "I", Cond.fieldLink RX1 72 "ModelTown$Paint" "leastWall" "I", Cond.static yX4_isWithin, Cond.initialized RX4, Cond.code yX4_isWithin cX4_isWithin 3 (some .boolean), Cond.methodLink RX1 62 yX1_foresee, Cond.instanceMethod yX1_foresee, Cond.selects RX1 yX1_foresee yX1_foresee, Cond.code yX1_foresee cX1_foresee 5 none, Cond.fieldLink RX1 32 "ModelTown$Paint" "looks" "[I", Cond.fieldLink RX1 38 "ModelTown$Paint" "thoughtLooks" "[I", Cond.methodLink RX1 78 arraycopyName, Cond.native arraycopyName, Cond.static arraycopyName]
def wsX4_foretell_r2 : List Cond := [Cond.initialized "java/lang/System", Cond.fieldLink RX1 75 "ModelTown$Paint" "hoursLacking" "I", Cond.fieldLink RX1 41 "ModelTown$Paint" "thoughtTimes" "[I", Cond.methodLink RX1 58 yX1_passWeek, Cond.instanceMethod yX1_passWeek, Cond.selects RX1 yX1_passWeek yX1_passWeek, Cond.code yX1_passWeek cX1_passWeek 8 (some .int), Cond.fieldLink RX1 15 "ModelTown$Paint" "frosts" "[Z", Cond.fieldLink RX1 11 "ModelTown$Paint" "fades" "[I", Cond.fieldLink RX1 26 "ModelTown$Paint" "sides" "[I", Cond.methodLink RX1 88 yX1_paintWalls, Cond.instanceMethod yX1_paintWalls, Cond.selects RX1 yX1_paintWalls yX1_paintWalls, Cond.code yX1_paintWalls cX1_paintWalls 7 (some .int), Cond.fieldLink RX1 29 "ModelTown$Paint" "hoursToPaint" "[I", Cond.methodLink RX1 96 Lib.Math.min.name, Cond.static Lib.Math.min.name, Cond.initialized "java/lang/Math", Cond.code Lib.Math.min.name Lib.Math.min.code 2 (some .int), Cond.methodLink RX1 92 yX1_mostFaded, Cond.instanceMethod yX1_mostFaded, Cond.selects RX1 yX1_mostFaded yX1_mostFaded, Cond.code yX1_mostFaded cX1_mostFaded 5 (some .int), Cond.methodLink RX1 84 yX1_keepLeast]
def wsX4_foretell_r3 : List Cond := [Cond.instanceMethod yX1_keepLeast, Cond.selects RX1 yX1_keepLeast yX1_keepLeast, Cond.code yX1_keepLeast cX1_keepLeast 3 none]
def wsX4_foretell : List Cond := .code yX4_foretell cX4_foretell 3 (some .int) :: ((wsX4_foretell_r1 ++ (wsX4_foretell_r2 ++ wsX4_foretell_r3)) ++ wsX40 ++ wsX10)
def wsX4_enough_r1 : List Cond := [Cond.fieldLink RX4 19 "ModelTown" "paint" "LModelTown$Paint;", Cond.methodLink RX4 85 yX1_fewestHands, Cond.instanceMethod yX1_fewestHands, Cond.selects RX1 yX1_fewestHands yX1_fewestHands, Cond.initialized RX1, Cond.code yX1_fewestHands cX1_fewestHands 5 (some .int), Cond.fieldLink RX1 51 "ModelTown$Paint" "week" "I", Cond.fieldLink RX1 48 "ModelTown$Paint" "walls" "I", Cond.fieldLink RX1 66 "ModelTown$Paint" "leastLook" "I", Cond.fieldLink RX1 75 "ModelTown$Paint" "hoursLacking" "I", Cond.static yX4_isWithin, Cond.initialized RX4, Cond.code yX4_isWithin cX4_isWithin 3 (some .boolean), Cond.methodLink RX1 62 yX1_foresee, Cond.instanceMethod yX1_foresee, Cond.selects RX1 yX1_foresee yX1_foresee, Cond.code yX1_foresee cX1_foresee 5 none, Cond.fieldLink RX1 32 "ModelTown$Paint" "looks" "[I", Cond.fieldLink RX1 38 "ModelTown$Paint" "thoughtLooks" "[I", Cond.methodLink RX1 78 arraycopyName, Cond.native arraycopyName, Cond.static arraycopyName, Cond.initialized "java/lang/System", Cond.fieldLink RX1 41 "ModelTown$Paint" "thoughtTimes" "[I"]
def wsX4_enough_r2 : List Cond := [Cond.methodLink RX1 58 yX1_passWeek, Cond.instanceMethod yX1_passWeek, Cond.selects RX1 yX1_passWeek yX1_passWeek, Cond.code yX1_passWeek cX1_passWeek 8 (some .int), Cond.fieldLink RX1 15 "ModelTown$Paint" "frosts" "[Z", Cond.fieldLink RX1 11 "ModelTown$Paint" "fades" "[I", Cond.fieldLink RX1 26 "ModelTown$Paint" "sides" "[I", Cond.methodLink RX1 88 yX1_paintWalls, Cond.instanceMethod yX1_paintWalls, Cond.selects RX1 yX1_paintWalls yX1_paintWalls, Cond.code yX1_paintWalls cX1_paintWalls 7 (some .int), Cond.fieldLink RX1 29 "ModelTown$Paint" "hoursToPaint" "[I", Cond.methodLink RX1 96 Lib.Math.min.name, Cond.static Lib.Math.min.name, Cond.initialized "java/lang/Math", Cond.code Lib.Math.min.name Lib.Math.min.code 2 (some .int), Cond.methodLink RX1 92 yX1_mostFaded, Cond.instanceMethod yX1_mostFaded, Cond.selects RX1 yX1_mostFaded yX1_mostFaded, Cond.code yX1_mostFaded cX1_mostFaded 5 (some .int), Cond.methodLink RX1 84 yX1_keepLeast, Cond.instanceMethod yX1_keepLeast, Cond.selects RX1 yX1_keepLeast yX1_keepLeast, Cond.code yX1_keepLeast cX1_keepLeast 3 none]
def wsX4_enough_r3 : List Cond := [Cond.fieldLink RX1 69 "ModelTown$Paint" "leastWeek" "I", Cond.fieldLink RX1 72 "ModelTown$Paint" "leastWall" "I"]
def wsX4_enough : List Cond := .code yX4_enough cX4_enough 3 (some .int) :: ((wsX4_enough_r1 ++ (wsX4_enough_r2 ++ wsX4_enough_r3)) ++ wsX40 ++ wsX10)
def wsX4_ring : List Cond := .code yX4_ring cX4_ring 1 (some .int) :: ([.fieldLink RX4 26 "ModelTown" "rails" "LModelTown$Rails;", .methodLink RX4 88 yX2_addRing, .instanceMethod yX2_addRing, .selects RX2 yX2_addRing yX2_addRing, .initialized RX2, .code yX2_addRing cX2_addRing 1 (some .int), .fieldLink RX2 42 "ModelTown$Rails" "rings" "I"] ++ wsX40 ++ wsX20)
def wsX4_block_r1 : List Cond := [Cond.fieldLink RX4 26 "ModelTown" "rails" "LModelTown$Rails;", Cond.methodLink RX4 91 yX2_addBlock, Cond.instanceMethod yX2_addBlock, Cond.selects RX2 yX2_addBlock yX2_addBlock, Cond.initialized RX2, Cond.code yX2_addBlock cX2_addBlock 4 (some .int), Cond.fieldLink RX2 16 "ModelTown$Rails" "ringLengths" "[I", Cond.fieldLink RX2 13 "ModelTown$Rails" "ringBlocks" "[[I", Cond.methodLink RX2 46 yX2_isRing, Cond.instanceMethod yX2_isRing, Cond.selects RX2 yX2_isRing yX2_isRing, Cond.code yX2_isRing cX2_isRing 2 (some .boolean), Cond.fieldLink RX2 42 "ModelTown$Rails" "rings" "I", Cond.static yX4_isWithin, Cond.initialized RX4, Cond.code yX4_isWithin cX4_isWithin 3 (some .boolean), Cond.methodLink RX2 54 yX2_hasTrain, Cond.instanceMethod yX2_hasTrain, Cond.selects RX2 yX2_hasTrain yX2_hasTrain, Cond.code yX2_hasTrain cX2_hasTrain 3 (some .boolean), Cond.fieldLink RX2 61 "ModelTown$Rails" "trains" "I", Cond.fieldLink RX2 20 "ModelTown$Rails" "trainRings" "[I", Cond.methodLink RX2 57 yX2_hasBlock, Cond.instanceMethod yX2_hasBlock]
def wsX4_block_r2 : List Cond := [Cond.selects RX2 yX2_hasBlock yX2_hasBlock, Cond.code yX2_hasBlock cX2_hasBlock 4 (some .boolean)]
def wsX4_block : List Cond := .code yX4_block cX4_block 3 (some .int) :: ((wsX4_block_r1 ++ wsX4_block_r2) ++ wsX40 ++ wsX20)
def wsX4_train_r1 : List Cond := [Cond.fieldLink RX4 26 "ModelTown" "rails" "LModelTown$Rails;", Cond.methodLink RX4 94 yX2_addTrain, Cond.instanceMethod yX2_addTrain, Cond.selects RX2 yX2_addTrain yX2_addTrain, Cond.initialized RX2, Cond.code yX2_addTrain cX2_addTrain 6 (some .int), Cond.fieldLink RX2 16 "ModelTown$Rails" "ringLengths" "[I", Cond.fieldLink RX2 61 "ModelTown$Rails" "trains" "I", Cond.fieldLink RX2 13 "ModelTown$Rails" "ringBlocks" "[[I", Cond.fieldLink RX2 20 "ModelTown$Rails" "trainRings" "[I", Cond.fieldLink RX2 23 "ModelTown$Rails" "places" "[I", Cond.fieldLink RX2 26 "ModelTown$Rails" "minutesNeeded" "[I", Cond.methodLink RX2 46 yX2_isRing, Cond.instanceMethod yX2_isRing, Cond.selects RX2 yX2_isRing yX2_isRing, Cond.code yX2_isRing cX2_isRing 2 (some .boolean), Cond.fieldLink RX2 42 "ModelTown$Rails" "rings" "I", Cond.static yX4_isWithin, Cond.initialized RX4, Cond.code yX4_isWithin cX4_isWithin 3 (some .boolean), Cond.methodLink RX2 64 yX2_trainIn, Cond.instanceMethod yX2_trainIn, Cond.selects RX2 yX2_trainIn yX2_trainIn, Cond.code yX2_trainIn cX2_trainIn 3 (some .int)]
def wsX4_train_r2 : List Cond := [Cond.methodLink RX2 81 yX2_blockOf, Cond.instanceMethod yX2_blockOf, Cond.selects RX2 yX2_blockOf yX2_blockOf, Cond.code yX2_blockOf cX2_blockOf 2 (some .int)]
def wsX4_train : List Cond := .code yX4_train cX4_train 4 (some .int) :: ((wsX4_train_r1 ++ wsX4_train_r2) ++ wsX40 ++ wsX20)
def wsX4_stick : List Cond := .code yX4_stick cX4_stick 3 (some .int) :: ([.fieldLink RX4 26 "ModelTown" "rails" "LModelTown$Rails;", .methodLink RX4 97 yX2_setStuck, .instanceMethod yX2_setStuck, .selects RX2 yX2_setStuck yX2_setStuck, .initialized RX2, .code yX2_setStuck cX2_setStuck 4 (some .int), .fieldLink RX2 38 "ModelTown$Rails" "stuck" "[Z", .methodLink RX2 68 yX2_isTrain, .instanceMethod yX2_isTrain, .selects RX2 yX2_isTrain yX2_isTrain, .code yX2_isTrain cX2_isTrain 2 (some .boolean), .fieldLink RX2 61 "ModelTown$Rails" "trains" "I", .static yX4_isWithin, .initialized RX4, .code yX4_isWithin cX4_isWithin 3 (some .boolean), .static yX4_oneIf, .code yX4_oneIf cX4_oneIf 1 (some .int)] ++ wsX40 ++ wsX20)
def wsX4_run_r1 : List Cond := [Cond.fieldLink RX4 26 "ModelTown" "rails" "LModelTown$Rails;", Cond.methodLink RX4 100 yX2_goMinutes, Cond.instanceMethod yX2_goMinutes, Cond.selects RX2 yX2_goMinutes yX2_goMinutes, Cond.initialized RX2, Cond.code yX2_goMinutes cX2_goMinutes 5 (some .int), Cond.fieldLink RX2 61 "ModelTown$Rails" "trains" "I", Cond.fieldLink RX2 38 "ModelTown$Rails" "stuck" "[Z", Cond.fieldLink RX2 78 "ModelTown$Rails" "minutesGone" "I", Cond.static yX4_isWithin, Cond.initialized RX4, Cond.code yX4_isWithin cX4_isWithin 3 (some .boolean), Cond.methodLink RX2 75 yX2_goesOn, Cond.instanceMethod yX2_goesOn, Cond.selects RX2 yX2_goesOn yX2_goesOn, Cond.code yX2_goesOn cX2_goesOn 2 (some .boolean), Cond.fieldLink RX2 29 "ModelTown$Rails" "minutesInBlock" "[I", Cond.fieldLink RX2 26 "ModelTown$Rails" "minutesNeeded" "[I", Cond.fieldLink RX2 32 "ModelTown$Rails" "minutesWaited" "[I", Cond.fieldLink RX2 23 "ModelTown$Rails" "places" "[I", Cond.fieldLink RX2 35 "ModelTown$Rails" "blocksGone" "[I", Cond.methodLink RX2 84 yX2_trainAhead, Cond.instanceMethod yX2_trainAhead, Cond.selects RX2 yX2_trainAhead yX2_trainAhead]
def wsX4_run_r2 : List Cond := [Cond.code yX2_trainAhead cX2_trainAhead 2 (some .int), Cond.fieldLink RX2 13 "ModelTown$Rails" "ringBlocks" "[[I", Cond.fieldLink RX2 20 "ModelTown$Rails" "trainRings" "[I", Cond.methodLink RX2 90 yX2_nextPlace, Cond.instanceMethod yX2_nextPlace, Cond.selects RX2 yX2_nextPlace yX2_nextPlace, Cond.code yX2_nextPlace cX2_nextPlace 3 (some .int), Cond.fieldLink RX2 16 "ModelTown$Rails" "ringLengths" "[I", Cond.methodLink RX2 64 yX2_trainIn, Cond.instanceMethod yX2_trainIn, Cond.selects RX2 yX2_trainIn yX2_trainIn, Cond.code yX2_trainIn cX2_trainIn 3 (some .int), Cond.methodLink RX2 81 yX2_blockOf, Cond.instanceMethod yX2_blockOf, Cond.selects RX2 yX2_blockOf yX2_blockOf, Cond.code yX2_blockOf cX2_blockOf 2 (some .int), Cond.static yX4_oneIf, Cond.code yX4_oneIf cX4_oneIf 1 (some .int)]
def wsX4_run : List Cond := .code yX4_run cX4_run 2 (some .int) :: ((wsX4_run_r1 ++ wsX4_run_r2) ++ wsX40 ++ wsX20)
def wsX4_trainOf_r1 : List Cond := [Cond.fieldLink RX4 26 "ModelTown" "rails" "LModelTown$Rails;", Cond.methodLink RX4 103 yX2_aboutTrain, Cond.instanceMethod yX2_aboutTrain, Cond.selects RX2 yX2_aboutTrain yX2_aboutTrain, Cond.initialized RX2, Cond.code yX2_aboutTrain cX2_aboutTrain 3 (some .int), Cond.fieldLink RX2 20 "ModelTown$Rails" "trainRings" "[I", Cond.fieldLink RX2 23 "ModelTown$Rails" "places" "[I", Cond.fieldLink RX2 29 "ModelTown$Rails" "minutesInBlock" "[I", Cond.fieldLink RX2 38 "ModelTown$Rails" "stuck" "[Z", Cond.fieldLink RX2 32 "ModelTown$Rails" "minutesWaited" "[I", Cond.fieldLink RX2 35 "ModelTown$Rails" "blocksGone" "[I", Cond.methodLink RX2 68 yX2_isTrain, Cond.instanceMethod yX2_isTrain, Cond.selects RX2 yX2_isTrain yX2_isTrain, Cond.code yX2_isTrain cX2_isTrain 2 (some .boolean), Cond.fieldLink RX2 61 "ModelTown$Rails" "trains" "I", Cond.static yX4_isWithin, Cond.initialized RX4, Cond.code yX4_isWithin cX4_isWithin 3 (some .boolean), Cond.methodLink RX2 81 yX2_blockOf, Cond.instanceMethod yX2_blockOf, Cond.selects RX2 yX2_blockOf yX2_blockOf, Cond.code yX2_blockOf cX2_blockOf 2 (some .int)]
def wsX4_trainOf_r2 : List Cond := [Cond.fieldLink RX2 13 "ModelTown$Rails" "ringBlocks" "[[I", Cond.static yX4_oneIf, Cond.code yX4_oneIf cX4_oneIf 1 (some .int), Cond.methodLink RX2 84 yX2_trainAhead, Cond.instanceMethod yX2_trainAhead, Cond.selects RX2 yX2_trainAhead yX2_trainAhead, Cond.code yX2_trainAhead cX2_trainAhead 2 (some .int), Cond.methodLink RX2 90 yX2_nextPlace, Cond.instanceMethod yX2_nextPlace, Cond.selects RX2 yX2_nextPlace yX2_nextPlace, Cond.code yX2_nextPlace cX2_nextPlace 3 (some .int), Cond.fieldLink RX2 16 "ModelTown$Rails" "ringLengths" "[I", Cond.methodLink RX2 64 yX2_trainIn, Cond.instanceMethod yX2_trainIn, Cond.selects RX2 yX2_trainIn yX2_trainIn, Cond.code yX2_trainIn cX2_trainIn 3 (some .int)]
def wsX4_trainOf : List Cond := .code yX4_trainOf cX4_trainOf 3 (some .int) :: ((wsX4_trainOf_r1 ++ wsX4_trainOf_r2) ++ wsX40 ++ wsX20)
def wsX4_stands_r1 : List Cond := [Cond.fieldLink RX4 26 "ModelTown" "rails" "LModelTown$Rails;", Cond.methodLink RX4 106 yX2_standing, Cond.instanceMethod yX2_standing, Cond.selects RX2 yX2_standing yX2_standing, Cond.initialized RX2, Cond.code yX2_standing cX2_standing 4 (some .int), Cond.fieldLink RX2 61 "ModelTown$Rails" "trains" "I", Cond.methodLink RX2 87 yX2_mayGoOn, Cond.instanceMethod yX2_mayGoOn, Cond.selects RX2 yX2_mayGoOn yX2_mayGoOn, Cond.code yX2_mayGoOn cX2_mayGoOn 4 (some .boolean), Cond.fieldLink RX2 38 "ModelTown$Rails" "stuck" "[Z", Cond.methodLink RX2 84 yX2_trainAhead, Cond.instanceMethod yX2_trainAhead, Cond.selects RX2 yX2_trainAhead yX2_trainAhead, Cond.code yX2_trainAhead cX2_trainAhead 2 (some .int), Cond.fieldLink RX2 13 "ModelTown$Rails" "ringBlocks" "[[I", Cond.fieldLink RX2 20 "ModelTown$Rails" "trainRings" "[I", Cond.methodLink RX2 90 yX2_nextPlace, Cond.instanceMethod yX2_nextPlace, Cond.selects RX2 yX2_nextPlace yX2_nextPlace, Cond.code yX2_nextPlace cX2_nextPlace 3 (some .int), Cond.fieldLink RX2 23 "ModelTown$Rails" "places" "[I", Cond.fieldLink RX2 16 "ModelTown$Rails" "ringLengths" "[I"]
def wsX4_stands_r2 : List Cond := [Cond.methodLink RX2 64 yX2_trainIn, Cond.instanceMethod yX2_trainIn, Cond.selects RX2 yX2_trainIn yX2_trainIn, Cond.code yX2_trainIn cX2_trainIn 3 (some .int), Cond.methodLink RX2 81 yX2_blockOf, Cond.instanceMethod yX2_blockOf, Cond.selects RX2 yX2_blockOf yX2_blockOf, Cond.code yX2_blockOf cX2_blockOf 2 (some .int)]
def wsX4_stands : List Cond := .code yX4_stands cX4_stands 1 (some .int) :: ((wsX4_stands_r1 ++ wsX4_stands_r2) ++ wsX40 ++ wsX20)
def wsX4_figure : List Cond := .code yX4_figure cX4_figure 1 (some .int) :: ([.fieldLink RX4 33 "ModelTown" "book" "LModelTown$Book;", .methodLink RX4 109 yX0_addFigure, .instanceMethod yX0_addFigure, .selects RX0 yX0_addFigure yX0_addFigure, .initialized RX0, .code yX0_addFigure cX0_addFigure 1 (some .int), .fieldLink RX0 24 "ModelTown$Book" "figures" "I"] ++ wsX40 ++ wsX00)
def wsX4_note : List Cond := .code yX4_note cX4_note 5 (some .int) :: ([.fieldLink RX4 33 "ModelTown" "book" "LModelTown$Book;", .methodLink RX4 112 yX0_addNote, .instanceMethod yX0_addNote, .selects RX0 yX0_addNote yX0_addNote, .initialized RX0, .code yX0_addNote cX0_addNote 5 (some .int), .fieldLink RX0 39 "ModelTown$Book" "notes" "I", .fieldLink RX0 18 "ModelTown$Book" "noteToldOn" "[I", .fieldLink RX0 11 "ModelTown$Book" "noteFigure" "[I", .fieldLink RX0 15 "ModelTown$Book" "noteDay" "[I", .fieldLink RX0 21 "ModelTown$Book" "notePlace" "[I", .methodLink RX0 28 yX0_isFigure, .instanceMethod yX0_isFigure, .selects RX0 yX0_isFigure yX0_isFigure, .code yX0_isFigure cX0_isFigure 2 (some .boolean), .fieldLink RX0 24 "ModelTown$Book" "figures" "I", .static yX4_isWithin, .initialized RX4, .code yX4_isWithin cX4_isWithin 3 (some .boolean), .static yX4_isDay, .code yX4_isDay cX4_isDay 1 (some .boolean), .methodLink RX4 155 yX4_isWithin] ++ wsX40 ++ wsX00)
def wsX4_where_r1 : List Cond := [Cond.fieldLink RX4 33 "ModelTown" "book" "LModelTown$Book;", Cond.methodLink RX4 115 yX0_whereIs, Cond.instanceMethod yX0_whereIs, Cond.selects RX0 yX0_whereIs yX0_whereIs, Cond.initialized RX0, Cond.code yX0_whereIs cX0_whereIs 4 (some .int), Cond.methodLink RX0 28 yX0_isFigure, Cond.instanceMethod yX0_isFigure, Cond.selects RX0 yX0_isFigure yX0_isFigure, Cond.code yX0_isFigure cX0_isFigure 2 (some .boolean), Cond.fieldLink RX0 24 "ModelTown$Book" "figures" "I", Cond.static yX4_isWithin, Cond.initialized RX4, Cond.code yX4_isWithin cX4_isWithin 3 (some .boolean), Cond.static yX4_isDay, Cond.code yX4_isDay cX4_isDay 1 (some .boolean), Cond.methodLink RX4 155 yX4_isWithin, Cond.methodLink RX0 42 yX0_placeOn, Cond.instanceMethod yX0_placeOn, Cond.selects RX0 yX0_placeOn yX0_placeOn, Cond.code yX0_placeOn cX0_placeOn 6 (some .int), Cond.fieldLink RX0 39 "ModelTown$Book" "notes" "I", Cond.fieldLink RX0 18 "ModelTown$Book" "noteToldOn" "[I", Cond.fieldLink RX0 21 "ModelTown$Book" "notePlace" "[I"]
def wsX4_where_r2 : List Cond := [Cond.methodLink RX0 46 yX0_tellsOf, Cond.instanceMethod yX0_tellsOf, Cond.selects RX0 yX0_tellsOf yX0_tellsOf, Cond.code yX0_tellsOf cX0_tellsOf 4 (some .boolean), Cond.fieldLink RX0 11 "ModelTown$Book" "noteFigure" "[I", Cond.fieldLink RX0 15 "ModelTown$Book" "noteDay" "[I", Cond.methodLink RX0 49 yX0_prevails, Cond.instanceMethod yX0_prevails, Cond.selects RX0 yX0_prevails yX0_prevails, Cond.code yX0_prevails cX0_prevails 3 (some .boolean)]
def wsX4_where : List Cond := .code yX4_where cX4_where 4 (some .int) :: ((wsX4_where_r1 ++ wsX4_where_r2) ++ wsX40 ++ wsX00)
def wsX4_at_r1 : List Cond := [Cond.fieldLink RX4 33 "ModelTown" "book" "LModelTown$Book;", Cond.methodLink RX4 118 yX0_figuresAt, Cond.instanceMethod yX0_figuresAt, Cond.selects RX0 yX0_figuresAt yX0_figuresAt, Cond.initialized RX0, Cond.code yX0_figuresAt cX0_figuresAt 6 (some .int), Cond.fieldLink RX0 24 "ModelTown$Book" "figures" "I", Cond.static yX4_isWithin, Cond.initialized RX4, Cond.code yX4_isWithin cX4_isWithin 3 (some .boolean), Cond.static yX4_isDay, Cond.code yX4_isDay cX4_isDay 1 (some .boolean), Cond.methodLink RX4 155 yX4_isWithin, Cond.methodLink RX0 42 yX0_placeOn, Cond.instanceMethod yX0_placeOn, Cond.selects RX0 yX0_placeOn yX0_placeOn, Cond.code yX0_placeOn cX0_placeOn 6 (some .int), Cond.fieldLink RX0 39 "ModelTown$Book" "notes" "I", Cond.fieldLink RX0 18 "ModelTown$Book" "noteToldOn" "[I", Cond.fieldLink RX0 21 "ModelTown$Book" "notePlace" "[I", Cond.methodLink RX0 46 yX0_tellsOf, Cond.instanceMethod yX0_tellsOf, Cond.selects RX0 yX0_tellsOf yX0_tellsOf, Cond.code yX0_tellsOf cX0_tellsOf 4 (some .boolean)]
def wsX4_at_r2 : List Cond := [Cond.fieldLink RX0 11 "ModelTown$Book" "noteFigure" "[I", Cond.fieldLink RX0 15 "ModelTown$Book" "noteDay" "[I", Cond.methodLink RX0 49 yX0_prevails, Cond.instanceMethod yX0_prevails, Cond.selects RX0 yX0_prevails yX0_prevails, Cond.code yX0_prevails cX0_prevails 3 (some .boolean)]
def wsX4_at : List Cond := .code yX4_at cX4_at 4 (some .int) :: ((wsX4_at_r1 ++ wsX4_at_r2) ++ wsX40 ++ wsX00)
def wsX4_turns_r1 : List Cond := [Cond.fieldLink RX4 33 "ModelTown" "book" "LModelTown$Book;", Cond.methodLink RX4 121 yX0_turnsOf, Cond.instanceMethod yX0_turnsOf, Cond.selects RX0 yX0_turnsOf yX0_turnsOf, Cond.initialized RX0, Cond.code yX0_turnsOf cX0_turnsOf 6 (some .int), Cond.fieldLink RX0 39 "ModelTown$Book" "notes" "I", Cond.fieldLink RX0 21 "ModelTown$Book" "notePlace" "[I", Cond.methodLink RX0 28 yX0_isFigure, Cond.instanceMethod yX0_isFigure, Cond.selects RX0 yX0_isFigure yX0_isFigure, Cond.code yX0_isFigure cX0_isFigure 2 (some .boolean), Cond.fieldLink RX0 24 "ModelTown$Book" "figures" "I", Cond.static yX4_isWithin, Cond.initialized RX4, Cond.code yX4_isWithin cX4_isWithin 3 (some .boolean), Cond.static yX4_isDay, Cond.code yX4_isDay cX4_isDay 1 (some .boolean), Cond.methodLink RX4 155 yX4_isWithin, Cond.methodLink RX0 46 yX0_tellsOf, Cond.instanceMethod yX0_tellsOf, Cond.selects RX0 yX0_tellsOf yX0_tellsOf, Cond.code yX0_tellsOf cX0_tellsOf 4 (some .boolean), Cond.fieldLink RX0 11 "ModelTown$Book" "noteFigure" "[I"]
def wsX4_turns_r2 : List Cond := [Cond.fieldLink RX0 15 "ModelTown$Book" "noteDay" "[I", Cond.methodLink RX0 49 yX0_prevails, Cond.instanceMethod yX0_prevails, Cond.selects RX0 yX0_prevails yX0_prevails, Cond.code yX0_prevails cX0_prevails 3 (some .boolean)]
def wsX4_turns : List Cond := .code yX4_turns cX4_turns 3 (some .int) :: ((wsX4_turns_r1 ++ wsX4_turns_r2) ++ wsX40 ++ wsX00)
def wsX4_told : List Cond := .code yX4_told cX4_told 2 (some .int) :: ([.fieldLink RX4 10 "ModelTown" "scale" "LModelTown$Scale;", .fieldLink RX4 19 "ModelTown" "paint" "LModelTown$Paint;", .fieldLink RX4 26 "ModelTown" "rails" "LModelTown$Rails;", .fieldLink RX4 33 "ModelTown" "book" "LModelTown$Book;"] ++ wsX40 ++ wsX30 ++ wsX10 ++ wsX20 ++ wsX00)
def wsX5_init : List Cond := .code yX5_init cX5_init 2 none :: ([.methodLink RX5 1 objectInit, .instanceMethod objectInit, .code objectInit ⟨#[0xb1]⟩ 1 none, .arrayClass .int, .fieldLink RX5 7 "ModelTownModel" "rule" "[I", .fieldLink RX5 13 "ModelTownModel" "thing" "[I", .fieldLink RX5 16 "ModelTownModel" "clip" "[I", .fieldLink RX5 19 "ModelTownModel" "fade" "[I", .fieldLink RX5 22 "ModelTownModel" "wall" "[I", .fieldLink RX5 25 "ModelTownModel" "hands" "I", .arrayClass .boolean, .fieldLink RX5 29 "ModelTownModel" "isFrost" "[Z", .fieldLink RX5 33 "ModelTownModel" "blocks" "[I", .fieldLink RX5 36 "ModelTownModel" "block" "[I", .fieldLink RX5 39 "ModelTownModel" "train" "[I", .fieldLink RX5 42 "ModelTownModel" "note" "[I", .fieldLink RX5 45 "ModelTownModel" "looks" "[I", .fieldLink RX5 48 "ModelTownModel" "isPainted" "[Z", .fieldLink RX5 51 "ModelTownModel" "told" "[I"] ++ wsX50)
def wsX5_in : List Cond := .code yX5_in cX5_in 3 (some .boolean) :: ([])
def wsX5_isDay : List Cond := .code yX5_isDay cX5_isDay 1 (some .boolean) :: ([.methodLink RX5 54 yX5_in, .static yX5_in, .initialized RX5, .code yX5_in cX5_in 3 (some .boolean)])
def wsX5_rule : List Cond := .code yX5_rule cX5_rule 4 (some .int) :: ([.fieldLink RX5 62 "ModelTownModel" "rules" "I", .fieldLink RX5 7 "ModelTownModel" "rule" "[I", .methodLink RX5 58 yX5_isDay, .static yX5_isDay, .initialized RX5, .code yX5_isDay cX5_isDay 1 (some .boolean), .methodLink RX5 54 yX5_in, .static yX5_in, .code yX5_in cX5_in 3 (some .boolean)] ++ wsX50)
def wsX5_forceOf : List Cond := .code yX5_forceOf cX5_forceOf 5 (some .int) :: ([.fieldLink RX5 62 "ModelTownModel" "rules" "I", .fieldLink RX5 7 "ModelTownModel" "rule" "[I"] ++ wsX50)
def wsX5_force : List Cond := .code yX5_force cX5_force 3 (some .int) :: ([.methodLink RX5 58 yX5_isDay, .static yX5_isDay, .initialized RX5, .code yX5_isDay cX5_isDay 1 (some .boolean), .methodLink RX5 54 yX5_in, .static yX5_in, .code yX5_in cX5_in 3 (some .boolean), .methodLink RX5 65 yX5_forceOf, .instanceMethod yX5_forceOf, .selects RX5 yX5_forceOf yX5_forceOf, .code yX5_forceOf cX5_forceOf 5 (some .int), .fieldLink RX5 62 "ModelTownModel" "rules" "I", .fieldLink RX5 7 "ModelTownModel" "rule" "[I"] ++ wsX50)
def wsX5_thing : List Cond := .code yX5_thing cX5_thing 5 (some .int) :: ([.constant RX5 69 (60000), .fieldLink RX5 70 "ModelTownModel" "things" "I", .fieldLink RX5 13 "ModelTownModel" "thing" "[I", .methodLink RX5 54 yX5_in, .static yX5_in, .initialized RX5, .code yX5_in cX5_in 3 (some .boolean)] ++ wsX50)
def wsX5_isThing : List Cond := .code yX5_isThing cX5_isThing 2 (some .boolean) :: ([.fieldLink RX5 70 "ModelTownModel" "things" "I", .methodLink RX5 54 yX5_in, .static yX5_in, .initialized RX5, .code yX5_in cX5_in 3 (some .boolean)] ++ wsX50)
def wsX5_sizeOn : List Cond := .code yX5_sizeOn cX5_sizeOn 6 (some .int) :: ([.fieldLink RX5 13 "ModelTownModel" "thing" "[I", .fieldLink RX5 73 "ModelTownModel" "clips" "I", .fieldLink RX5 16 "ModelTownModel" "clip" "[I"] ++ wsX50)
def wsX5_clip : List Cond := .code yX5_clip cX5_clip 5 (some .int) :: ([.fieldLink RX5 13 "ModelTownModel" "thing" "[I", .fieldLink RX5 73 "ModelTownModel" "clips" "I", .fieldLink RX5 16 "ModelTownModel" "clip" "[I", .methodLink RX5 76 yX5_isThing, .instanceMethod yX5_isThing, .selects RX5 yX5_isThing yX5_isThing, .initialized RX5, .code yX5_isThing cX5_isThing 2 (some .boolean), .fieldLink RX5 70 "ModelTownModel" "things" "I", .methodLink RX5 54 yX5_in, .static yX5_in, .code yX5_in cX5_in 3 (some .boolean), .methodLink RX5 58 yX5_isDay, .static yX5_isDay, .code yX5_isDay cX5_isDay 1 (some .boolean), .methodLink RX5 79 yX5_sizeOn, .instanceMethod yX5_sizeOn, .selects RX5 yX5_sizeOn yX5_sizeOn, .code yX5_sizeOn cX5_sizeOn 6 (some .int)] ++ wsX50)
def wsX5_faultOn : List Cond := .code yX5_faultOn cX5_faultOn 7 (some .int) :: ([.fieldLink RX5 13 "ModelTownModel" "thing" "[I", .methodLink RX5 65 yX5_forceOf, .instanceMethod yX5_forceOf, .selects RX5 yX5_forceOf yX5_forceOf, .initialized RX5, .code yX5_forceOf cX5_forceOf 5 (some .int), .fieldLink RX5 62 "ModelTownModel" "rules" "I", .fieldLink RX5 7 "ModelTownModel" "rule" "[I", .methodLink RX5 79 yX5_sizeOn, .instanceMethod yX5_sizeOn, .selects RX5 yX5_sizeOn yX5_sizeOn, .code yX5_sizeOn cX5_sizeOn 6 (some .int), .fieldLink RX5 73 "ModelTownModel" "clips" "I", .fieldLink RX5 16 "ModelTownModel" "clip" "[I"] ++ wsX50)
def wsX5_look_r1 : List Cond := [Cond.fieldLink RX5 13 "ModelTownModel" "thing" "[I", Cond.methodLink RX5 76 yX5_isThing, Cond.instanceMethod yX5_isThing, Cond.selects RX5 yX5_isThing yX5_isThing, Cond.initialized RX5, Cond.code yX5_isThing cX5_isThing 2 (some .boolean), Cond.fieldLink RX5 70 "ModelTownModel" "things" "I", Cond.methodLink RX5 54 yX5_in, Cond.static yX5_in, Cond.code yX5_in cX5_in 3 (some .boolean), Cond.methodLink RX5 58 yX5_isDay, Cond.static yX5_isDay, Cond.code yX5_isDay cX5_isDay 1 (some .boolean), Cond.methodLink RX5 79 yX5_sizeOn, Cond.instanceMethod yX5_sizeOn, Cond.selects RX5 yX5_sizeOn yX5_sizeOn, Cond.code yX5_sizeOn cX5_sizeOn 6 (some .int), Cond.fieldLink RX5 73 "ModelTownModel" "clips" "I", Cond.fieldLink RX5 16 "ModelTownModel" "clip" "[I", Cond.methodLink RX5 65 yX5_forceOf, Cond.instanceMethod yX5_forceOf, Cond.selects RX5 yX5_forceOf yX5_forceOf, Cond.code yX5_forceOf cX5_forceOf 5 (some .int), Cond.fieldLink RX5 62 "ModelTownModel" "rules" "I"]
def wsX5_look_r2 : List Cond := [Cond.fieldLink RX5 7 "ModelTownModel" "rule" "[I", Cond.methodLink RX5 82 yX5_faultOn, Cond.instanceMethod yX5_faultOn, Cond.selects RX5 yX5_faultOn yX5_faultOn, Cond.code yX5_faultOn cX5_faultOn 7 (some .int)]
def wsX5_look : List Cond := .code yX5_look cX5_look 4 (some .int) :: ((wsX5_look_r1 ++ wsX5_look_r2) ++ wsX50)
def wsX5_fault_r1 : List Cond := [Cond.fieldLink RX5 70 "ModelTownModel" "things" "I", Cond.methodLink RX5 58 yX5_isDay, Cond.static yX5_isDay, Cond.initialized RX5, Cond.code yX5_isDay cX5_isDay 1 (some .boolean), Cond.methodLink RX5 54 yX5_in, Cond.static yX5_in, Cond.code yX5_in cX5_in 3 (some .boolean), Cond.methodLink RX5 82 yX5_faultOn, Cond.instanceMethod yX5_faultOn, Cond.selects RX5 yX5_faultOn yX5_faultOn, Cond.code yX5_faultOn cX5_faultOn 7 (some .int), Cond.fieldLink RX5 13 "ModelTownModel" "thing" "[I", Cond.methodLink RX5 65 yX5_forceOf, Cond.instanceMethod yX5_forceOf, Cond.selects RX5 yX5_forceOf yX5_forceOf, Cond.code yX5_forceOf cX5_forceOf 5 (some .int), Cond.fieldLink RX5 62 "ModelTownModel" "rules" "I", Cond.fieldLink RX5 7 "ModelTownModel" "rule" "[I", Cond.methodLink RX5 79 yX5_sizeOn, Cond.instanceMethod yX5_sizeOn, Cond.selects RX5 yX5_sizeOn yX5_sizeOn, Cond.code yX5_sizeOn cX5_sizeOn 6 (some .int), Cond.fieldLink RX5 73 "ModelTownModel" "clips" "I"]
def wsX5_fault_r2 : List Cond := [Cond.fieldLink RX5 16 "ModelTownModel" "clip" "[I"]
def wsX5_fault : List Cond := .code yX5_fault cX5_fault 3 (some .int) :: ((wsX5_fault_r1 ++ wsX5_fault_r2) ++ wsX50)
def wsX5_spoils_r1 : List Cond := [Cond.methodLink RX5 76 yX5_isThing, Cond.instanceMethod yX5_isThing, Cond.selects RX5 yX5_isThing yX5_isThing, Cond.initialized RX5, Cond.code yX5_isThing cX5_isThing 2 (some .boolean), Cond.fieldLink RX5 70 "ModelTownModel" "things" "I", Cond.methodLink RX5 54 yX5_in, Cond.static yX5_in, Cond.code yX5_in cX5_in 3 (some .boolean), Cond.methodLink RX5 58 yX5_isDay, Cond.static yX5_isDay, Cond.code yX5_isDay cX5_isDay 1 (some .boolean), Cond.methodLink RX5 82 yX5_faultOn, Cond.instanceMethod yX5_faultOn, Cond.selects RX5 yX5_faultOn yX5_faultOn, Cond.code yX5_faultOn cX5_faultOn 7 (some .int), Cond.fieldLink RX5 13 "ModelTownModel" "thing" "[I", Cond.methodLink RX5 65 yX5_forceOf, Cond.instanceMethod yX5_forceOf, Cond.selects RX5 yX5_forceOf yX5_forceOf, Cond.code yX5_forceOf cX5_forceOf 5 (some .int), Cond.fieldLink RX5 62 "ModelTownModel" "rules" "I", Cond.fieldLink RX5 7 "ModelTownModel" "rule" "[I", Cond.methodLink RX5 79 yX5_sizeOn]
def wsX5_spoils_r2 : List Cond := [Cond.instanceMethod yX5_sizeOn, Cond.selects RX5 yX5_sizeOn yX5_sizeOn, Cond.code yX5_sizeOn cX5_sizeOn 6 (some .int), Cond.fieldLink RX5 73 "ModelTownModel" "clips" "I", Cond.fieldLink RX5 16 "ModelTownModel" "clip" "[I"]
def wsX5_spoils : List Cond := .code yX5_spoils cX5_spoils 4 (some .int) :: ((wsX5_spoils_r1 ++ wsX5_spoils_r2) ++ wsX50)
def wsX5_fade : List Cond := .code yX5_fade cX5_fade 4 (some .int) :: ([.fieldLink RX5 19 "ModelTownModel" "fade" "[I", .methodLink RX5 54 yX5_in, .static yX5_in, .initialized RX5, .code yX5_in cX5_in 3 (some .boolean)] ++ wsX50)
def wsX5_wall : List Cond := .code yX5_wall cX5_wall 4 (some .int) :: ([.fieldLink RX5 85 "ModelTownModel" "walls" "I", .fieldLink RX5 22 "ModelTownModel" "wall" "[I", .methodLink RX5 54 yX5_in, .static yX5_in, .initialized RX5, .code yX5_in cX5_in 3 (some .boolean)] ++ wsX50)
def wsX5_wallOf : List Cond := .code yX5_wallOf cX5_wallOf 3 (some .int) :: ([.fieldLink RX5 85 "ModelTownModel" "walls" "I", .fieldLink RX5 22 "ModelTownModel" "wall" "[I", .methodLink RX5 54 yX5_in, .static yX5_in, .initialized RX5, .code yX5_in cX5_in 3 (some .boolean)] ++ wsX50)
def wsX5_areHands : List Cond := .code yX5_areHands cX5_areHands 1 (some .boolean) :: ([.methodLink RX5 54 yX5_in, .static yX5_in, .initialized RX5, .code yX5_in cX5_in 3 (some .boolean)])
def wsX5_hands : List Cond := .code yX5_hands cX5_hands 3 (some .int) :: ([.fieldLink RX5 25 "ModelTownModel" "hands" "I", .methodLink RX5 88 yX5_areHands, .static yX5_areHands, .initialized RX5, .code yX5_areHands cX5_areHands 1 (some .boolean), .methodLink RX5 54 yX5_in, .static yX5_in, .code yX5_in cX5_in 3 (some .boolean)] ++ wsX50)
def wsX5_frost : List Cond := .code yX5_frost cX5_frost 4 (some .int) :: ([.fieldLink RX5 91 "ModelTownModel" "week" "I", .fieldLink RX5 29 "ModelTownModel" "isFrost" "[Z", .methodLink RX5 54 yX5_in, .static yX5_in, .initialized RX5, .code yX5_in cX5_in 3 (some .boolean)] ++ wsX50)
def wsX5_layLooks : List Cond := .code yX5_layLooks cX5_layLooks 2 none :: ([.fieldLink RX5 85 "ModelTownModel" "walls" "I", .fieldLink RX5 45 "ModelTownModel" "looks" "[I", .fieldLink RX5 22 "ModelTownModel" "wall" "[I"] ++ wsX50)
def wsX5_goWeek : List Cond := .code yX5_goWeek cX5_goWeek 8 (some .int) :: ([.fieldLink RX5 85 "ModelTownModel" "walls" "I", .fieldLink RX5 48 "ModelTownModel" "isPainted" "[Z", .fieldLink RX5 29 "ModelTownModel" "isFrost" "[Z", .fieldLink RX5 45 "ModelTownModel" "looks" "[I", .fieldLink RX5 22 "ModelTownModel" "wall" "[I", .fieldLink RX5 19 "ModelTownModel" "fade" "[I"] ++ wsX50)
def wsX5_week : List Cond := .code yX5_week cX5_week 3 (some .int) :: ([.fieldLink RX5 91 "ModelTownModel" "week" "I", .fieldLink RX5 25 "ModelTownModel" "hands" "I", .fieldLink RX5 85 "ModelTownModel" "walls" "I", .fieldLink RX5 22 "ModelTownModel" "wall" "[I", .fieldLink RX5 45 "ModelTownModel" "looks" "[I", .fieldLink RX5 48 "ModelTownModel" "isPainted" "[Z", .methodLink RX5 94 yX5_layLooks, .instanceMethod yX5_layLooks, .selects RX5 yX5_layLooks yX5_layLooks, .initialized RX5, .code yX5_layLooks cX5_layLooks 2 none, .methodLink RX5 97 yX5_goWeek, .instanceMethod yX5_goWeek, .selects RX5 yX5_goWeek yX5_goWeek, .code yX5_goWeek cX5_goWeek 8 (some .int), .fieldLink RX5 29 "ModelTownModel" "isFrost" "[Z", .fieldLink RX5 19 "ModelTownModel" "fade" "[I"] ++ wsX50)
def wsX5_layForetold : List Cond := .code yX5_layForetold cX5_layForetold 6 none :: ([.fieldLink RX5 51 "ModelTownModel" "told" "[I", .fieldLink RX5 91 "ModelTownModel" "week" "I", .fieldLink RX5 85 "ModelTownModel" "walls" "I", .fieldLink RX5 45 "ModelTownModel" "looks" "[I", .methodLink RX5 94 yX5_layLooks, .instanceMethod yX5_layLooks, .selects RX5 yX5_layLooks yX5_layLooks, .initialized RX5, .code yX5_layLooks cX5_layLooks 2 none, .fieldLink RX5 22 "ModelTownModel" "wall" "[I", .methodLink RX5 97 yX5_goWeek, .instanceMethod yX5_goWeek, .selects RX5 yX5_goWeek yX5_goWeek, .code yX5_goWeek cX5_goWeek 8 (some .int), .fieldLink RX5 48 "ModelTownModel" "isPainted" "[Z", .fieldLink RX5 29 "ModelTownModel" "isFrost" "[Z", .fieldLink RX5 19 "ModelTownModel" "fade" "[I"] ++ wsX50)
def wsX5_foretell_r1 : List Cond := [Cond.fieldLink RX5 91 "ModelTownModel" "week" "I", Cond.fieldLink RX5 85 "ModelTownModel" "walls" "I", Cond.fieldLink RX5 25 "ModelTownModel" "hands" "I", Cond.fieldLink RX5 51 "ModelTownModel" "told" "[I", Cond.methodLink RX5 54 yX5_in, Cond.static yX5_in, Cond.initialized RX5, Cond.code yX5_in cX5_in 3 (some .boolean), Cond.methodLink RX5 100 yX5_layForetold, Cond.instanceMethod yX5_layForetold, Cond.selects RX5 yX5_layForetold yX5_layForetold, Cond.code yX5_layForetold cX5_layForetold 6 none, Cond.fieldLink RX5 45 "ModelTownModel" "looks" "[I", Cond.methodLink RX5 94 yX5_layLooks, Cond.instanceMethod yX5_layLooks, Cond.selects RX5 yX5_layLooks yX5_layLooks, Cond.code yX5_layLooks cX5_layLooks 2 none, Cond.fieldLink RX5 22 "ModelTownModel" "wall" "[I", Cond.methodLink RX5 97 yX5_goWeek, Cond.instanceMethod yX5_goWeek, Cond.selects RX5 yX5_goWeek yX5_goWeek, Cond.code yX5_goWeek cX5_goWeek 8 (some .int), Cond.fieldLink RX5 48 "ModelTownModel" "isPainted" "[Z", Cond.fieldLink RX5 29 "ModelTownModel" "isFrost" "[Z"]
def wsX5_foretell_r2 : List Cond := [Cond.fieldLink RX5 19 "ModelTownModel" "fade" "[I"]
def wsX5_foretell : List Cond := .code yX5_foretell cX5_foretell 3 (some .int) :: ((wsX5_foretell_r1 ++ wsX5_foretell_r2) ++ wsX50)
def wsX5_enough : List Cond := .code yX5_enough cX5_enough 4 (some .int) :: ([.fieldLink RX5 91 "ModelTownModel" "week" "I", .fieldLink RX5 85 "ModelTownModel" "walls" "I", .fieldLink RX5 51 "ModelTownModel" "told" "[I", .methodLink RX5 54 yX5_in, .static yX5_in, .initialized RX5, .code yX5_in cX5_in 3 (some .boolean), .methodLink RX5 100 yX5_layForetold, .instanceMethod yX5_layForetold, .selects RX5 yX5_layForetold yX5_layForetold, .code yX5_layForetold cX5_layForetold 6 none, .fieldLink RX5 45 "ModelTownModel" "looks" "[I", .methodLink RX5 94 yX5_layLooks, .instanceMethod yX5_layLooks, .selects RX5 yX5_layLooks yX5_layLooks, .code yX5_layLooks cX5_layLooks 2 none, .fieldLink RX5 22 "ModelTownModel" "wall" "[I", .methodLink RX5 97 yX5_goWeek, .instanceMethod yX5_goWeek, .selects RX5 yX5_goWeek yX5_goWeek, .code yX5_goWeek cX5_goWeek 8 (some .int), .fieldLink RX5 48 "ModelTownModel" "isPainted" "[Z", .fieldLink RX5 29 "ModelTownModel" "isFrost" "[Z", .fieldLink RX5 19 "ModelTownModel" "fade" "[I"] ++ wsX50)
def wsX5_ring : List Cond := .code yX5_ring cX5_ring 1 (some .int) :: ([.fieldLink RX5 104 "ModelTownModel" "rings" "I", .fieldLink RX5 33 "ModelTownModel" "blocks" "[I"] ++ wsX50)
def wsX5_isRing : List Cond := .code yX5_isRing cX5_isRing 2 (some .boolean) :: ([.fieldLink RX5 104 "ModelTownModel" "rings" "I", .methodLink RX5 54 yX5_in, .static yX5_in, .initialized RX5, .code yX5_in cX5_in 3 (some .boolean)] ++ wsX50)
def wsX5_block : List Cond := .code yX5_block cX5_block 4 (some .int) :: ([.fieldLink RX5 110 "ModelTownModel" "trains" "I", .fieldLink RX5 39 "ModelTownModel" "train" "[I", .fieldLink RX5 33 "ModelTownModel" "blocks" "[I", .fieldLink RX5 36 "ModelTownModel" "block" "[I", .methodLink RX5 107 yX5_isRing, .instanceMethod yX5_isRing, .selects RX5 yX5_isRing yX5_isRing, .initialized RX5, .code yX5_isRing cX5_isRing 2 (some .boolean), .fieldLink RX5 104 "ModelTownModel" "rings" "I", .methodLink RX5 54 yX5_in, .static yX5_in, .code yX5_in cX5_in 3 (some .boolean)] ++ wsX50)
def wsX5_blockAt : List Cond := .code yX5_blockAt cX5_blockAt 3 (some .int) :: ([.fieldLink RX5 36 "ModelTownModel" "block" "[I", .fieldLink RX5 33 "ModelTownModel" "blocks" "[I"] ++ wsX50)
def wsX5_blockOf : List Cond := .code yX5_blockOf cX5_blockOf 2 (some .int) :: ([.fieldLink RX5 39 "ModelTownModel" "train" "[I", .methodLink RX5 113 yX5_blockAt, .instanceMethod yX5_blockAt, .selects RX5 yX5_blockAt yX5_blockAt, .initialized RX5, .code yX5_blockAt cX5_blockAt 3 (some .int), .fieldLink RX5 36 "ModelTownModel" "block" "[I", .fieldLink RX5 33 "ModelTownModel" "blocks" "[I"] ++ wsX50)
def wsX5_nextOf : List Cond := .code yX5_nextOf cX5_nextOf 2 (some .int) :: ([.fieldLink RX5 39 "ModelTownModel" "train" "[I", .methodLink RX5 113 yX5_blockAt, .instanceMethod yX5_blockAt, .selects RX5 yX5_blockAt yX5_blockAt, .initialized RX5, .code yX5_blockAt cX5_blockAt 3 (some .int), .fieldLink RX5 36 "ModelTownModel" "block" "[I", .fieldLink RX5 33 "ModelTownModel" "blocks" "[I"] ++ wsX50)
def wsX5_trainIn : List Cond := .code yX5_trainIn cX5_trainIn 3 (some .int) :: ([.fieldLink RX5 110 "ModelTownModel" "trains" "I", .methodLink RX5 116 yX5_blockOf, .instanceMethod yX5_blockOf, .selects RX5 yX5_blockOf yX5_blockOf, .initialized RX5, .code yX5_blockOf cX5_blockOf 2 (some .int), .fieldLink RX5 39 "ModelTownModel" "train" "[I", .methodLink RX5 113 yX5_blockAt, .instanceMethod yX5_blockAt, .selects RX5 yX5_blockAt yX5_blockAt, .code yX5_blockAt cX5_blockAt 3 (some .int), .fieldLink RX5 36 "ModelTownModel" "block" "[I", .fieldLink RX5 33 "ModelTownModel" "blocks" "[I"] ++ wsX50)
def wsX5_train_r1 : List Cond := [Cond.fieldLink RX5 33 "ModelTownModel" "blocks" "[I", Cond.fieldLink RX5 110 "ModelTownModel" "trains" "I", Cond.fieldLink RX5 39 "ModelTownModel" "train" "[I", Cond.methodLink RX5 107 yX5_isRing, Cond.instanceMethod yX5_isRing, Cond.selects RX5 yX5_isRing yX5_isRing, Cond.initialized RX5, Cond.code yX5_isRing cX5_isRing 2 (some .boolean), Cond.fieldLink RX5 104 "ModelTownModel" "rings" "I", Cond.methodLink RX5 54 yX5_in, Cond.static yX5_in, Cond.code yX5_in cX5_in 3 (some .boolean), Cond.methodLink RX5 113 yX5_blockAt, Cond.instanceMethod yX5_blockAt, Cond.selects RX5 yX5_blockAt yX5_blockAt, Cond.code yX5_blockAt cX5_blockAt 3 (some .int), Cond.fieldLink RX5 36 "ModelTownModel" "block" "[I", Cond.methodLink RX5 120 yX5_trainIn, Cond.instanceMethod yX5_trainIn, Cond.selects RX5 yX5_trainIn yX5_trainIn, Cond.code yX5_trainIn cX5_trainIn 3 (some .int), Cond.methodLink RX5 116 yX5_blockOf, Cond.instanceMethod yX5_blockOf, Cond.selects RX5 yX5_blockOf yX5_blockOf]
def wsX5_train_r2 : List Cond := [Cond.code yX5_blockOf cX5_blockOf 2 (some .int)]
def wsX5_train : List Cond := .code yX5_train cX5_train 6 (some .int) :: ((wsX5_train_r1 ++ wsX5_train_r2) ++ wsX50)
def wsX5_isTrain : List Cond := .code yX5_isTrain cX5_isTrain 2 (some .boolean) :: ([.fieldLink RX5 110 "ModelTownModel" "trains" "I", .methodLink RX5 54 yX5_in, .static yX5_in, .initialized RX5, .code yX5_in cX5_in 3 (some .boolean)] ++ wsX50)
def wsX5_stick : List Cond := .code yX5_stick cX5_stick 4 (some .int) :: ([.fieldLink RX5 39 "ModelTownModel" "train" "[I", .methodLink RX5 123 yX5_isTrain, .instanceMethod yX5_isTrain, .selects RX5 yX5_isTrain yX5_isTrain, .initialized RX5, .code yX5_isTrain cX5_isTrain 2 (some .boolean), .fieldLink RX5 110 "ModelTownModel" "trains" "I", .methodLink RX5 54 yX5_in, .static yX5_in, .code yX5_in cX5_in 3 (some .boolean)] ++ wsX50)
def wsX5_run_r1 : List Cond := [Cond.fieldLink RX5 110 "ModelTownModel" "trains" "I", Cond.fieldLink RX5 39 "ModelTownModel" "train" "[I", Cond.fieldLink RX5 33 "ModelTownModel" "blocks" "[I", Cond.fieldLink RX5 129 "ModelTownModel" "minutes" "I", Cond.methodLink RX5 54 yX5_in, Cond.static yX5_in, Cond.initialized RX5, Cond.code yX5_in cX5_in 3 (some .boolean), Cond.methodLink RX5 126 yX5_nextOf, Cond.instanceMethod yX5_nextOf, Cond.selects RX5 yX5_nextOf yX5_nextOf, Cond.code yX5_nextOf cX5_nextOf 2 (some .int), Cond.methodLink RX5 113 yX5_blockAt, Cond.instanceMethod yX5_blockAt, Cond.selects RX5 yX5_blockAt yX5_blockAt, Cond.code yX5_blockAt cX5_blockAt 3 (some .int), Cond.fieldLink RX5 36 "ModelTownModel" "block" "[I", Cond.methodLink RX5 120 yX5_trainIn, Cond.instanceMethod yX5_trainIn, Cond.selects RX5 yX5_trainIn yX5_trainIn, Cond.code yX5_trainIn cX5_trainIn 3 (some .int), Cond.methodLink RX5 116 yX5_blockOf, Cond.instanceMethod yX5_blockOf, Cond.selects RX5 yX5_blockOf yX5_blockOf]
def wsX5_run_r2 : List Cond := [Cond.code yX5_blockOf cX5_blockOf 2 (some .int)]
def wsX5_run : List Cond := .code yX5_run cX5_run 6 (some .int) :: ((wsX5_run_r1 ++ wsX5_run_r2) ++ wsX50)
def wsX5_trainOf_r1 : List Cond := [Cond.fieldLink RX5 39 "ModelTownModel" "train" "[I", Cond.methodLink RX5 123 yX5_isTrain, Cond.instanceMethod yX5_isTrain, Cond.selects RX5 yX5_isTrain yX5_isTrain, Cond.initialized RX5, Cond.code yX5_isTrain cX5_isTrain 2 (some .boolean), Cond.fieldLink RX5 110 "ModelTownModel" "trains" "I", Cond.methodLink RX5 54 yX5_in, Cond.static yX5_in, Cond.code yX5_in cX5_in 3 (some .boolean), Cond.methodLink RX5 116 yX5_blockOf, Cond.instanceMethod yX5_blockOf, Cond.selects RX5 yX5_blockOf yX5_blockOf, Cond.code yX5_blockOf cX5_blockOf 2 (some .int), Cond.methodLink RX5 113 yX5_blockAt, Cond.instanceMethod yX5_blockAt, Cond.selects RX5 yX5_blockAt yX5_blockAt, Cond.code yX5_blockAt cX5_blockAt 3 (some .int), Cond.fieldLink RX5 36 "ModelTownModel" "block" "[I", Cond.fieldLink RX5 33 "ModelTownModel" "blocks" "[I", Cond.methodLink RX5 126 yX5_nextOf, Cond.instanceMethod yX5_nextOf, Cond.selects RX5 yX5_nextOf yX5_nextOf, Cond.code yX5_nextOf cX5_nextOf 2 (some .int)]
def wsX5_trainOf_r2 : List Cond := [Cond.methodLink RX5 120 yX5_trainIn, Cond.instanceMethod yX5_trainIn, Cond.selects RX5 yX5_trainIn yX5_trainIn, Cond.code yX5_trainIn cX5_trainIn 3 (some .int)]
def wsX5_trainOf : List Cond := .code yX5_trainOf cX5_trainOf 4 (some .int) :: ((wsX5_trainOf_r1 ++ wsX5_trainOf_r2) ++ wsX50)
def wsX5_stands : List Cond := .code yX5_stands cX5_stands 6 (some .int) :: ([.fieldLink RX5 110 "ModelTownModel" "trains" "I", .fieldLink RX5 39 "ModelTownModel" "train" "[I", .methodLink RX5 126 yX5_nextOf, .instanceMethod yX5_nextOf, .selects RX5 yX5_nextOf yX5_nextOf, .initialized RX5, .code yX5_nextOf cX5_nextOf 2 (some .int), .methodLink RX5 113 yX5_blockAt, .instanceMethod yX5_blockAt, .selects RX5 yX5_blockAt yX5_blockAt, .code yX5_blockAt cX5_blockAt 3 (some .int), .fieldLink RX5 36 "ModelTownModel" "block" "[I", .fieldLink RX5 33 "ModelTownModel" "blocks" "[I", .methodLink RX5 120 yX5_trainIn, .instanceMethod yX5_trainIn, .selects RX5 yX5_trainIn yX5_trainIn, .code yX5_trainIn cX5_trainIn 3 (some .int), .methodLink RX5 116 yX5_blockOf, .instanceMethod yX5_blockOf, .selects RX5 yX5_blockOf yX5_blockOf, .code yX5_blockOf cX5_blockOf 2 (some .int)] ++ wsX50)
def wsX5_figure : List Cond := .code yX5_figure cX5_figure 1 (some .int) :: ([.fieldLink RX5 132 "ModelTownModel" "figures" "I"] ++ wsX50)
def wsX5_isFigure : List Cond := .code yX5_isFigure cX5_isFigure 2 (some .boolean) :: ([.fieldLink RX5 132 "ModelTownModel" "figures" "I", .methodLink RX5 54 yX5_in, .static yX5_in, .initialized RX5, .code yX5_in cX5_in 3 (some .boolean)] ++ wsX50)
def wsX5_isPlace : List Cond := .code yX5_isPlace cX5_isPlace 1 (some .boolean) :: ([.methodLink RX5 54 yX5_in, .static yX5_in, .initialized RX5, .code yX5_in cX5_in 3 (some .boolean)])
def wsX5_note : List Cond := .code yX5_note cX5_note 5 (some .int) :: ([.fieldLink RX5 141 "ModelTownModel" "notes" "I", .fieldLink RX5 42 "ModelTownModel" "note" "[I", .methodLink RX5 135 yX5_isFigure, .instanceMethod yX5_isFigure, .selects RX5 yX5_isFigure yX5_isFigure, .initialized RX5, .code yX5_isFigure cX5_isFigure 2 (some .boolean), .fieldLink RX5 132 "ModelTownModel" "figures" "I", .methodLink RX5 54 yX5_in, .static yX5_in, .code yX5_in cX5_in 3 (some .boolean), .methodLink RX5 58 yX5_isDay, .static yX5_isDay, .code yX5_isDay cX5_isDay 1 (some .boolean), .methodLink RX5 138 yX5_isPlace, .static yX5_isPlace, .code yX5_isPlace cX5_isPlace 1 (some .boolean)] ++ wsX50)
def wsX5_placeBy : List Cond := .code yX5_placeBy cX5_placeBy 8 (some .int) :: ([.fieldLink RX5 42 "ModelTownModel" "note" "[I"] ++ wsX50)
def wsX5_where : List Cond := .code yX5_where cX5_where 4 (some .int) :: ([.fieldLink RX5 141 "ModelTownModel" "notes" "I", .methodLink RX5 135 yX5_isFigure, .instanceMethod yX5_isFigure, .selects RX5 yX5_isFigure yX5_isFigure, .initialized RX5, .code yX5_isFigure cX5_isFigure 2 (some .boolean), .fieldLink RX5 132 "ModelTownModel" "figures" "I", .methodLink RX5 54 yX5_in, .static yX5_in, .code yX5_in cX5_in 3 (some .boolean), .methodLink RX5 58 yX5_isDay, .static yX5_isDay, .code yX5_isDay cX5_isDay 1 (some .boolean), .methodLink RX5 144 yX5_placeBy, .instanceMethod yX5_placeBy, .selects RX5 yX5_placeBy yX5_placeBy, .code yX5_placeBy cX5_placeBy 8 (some .int), .fieldLink RX5 42 "ModelTownModel" "note" "[I"] ++ wsX50)
def wsX5_at : List Cond := .code yX5_at cX5_at 6 (some .int) :: ([.fieldLink RX5 132 "ModelTownModel" "figures" "I", .fieldLink RX5 141 "ModelTownModel" "notes" "I", .methodLink RX5 138 yX5_isPlace, .static yX5_isPlace, .initialized RX5, .code yX5_isPlace cX5_isPlace 1 (some .boolean), .methodLink RX5 54 yX5_in, .static yX5_in, .code yX5_in cX5_in 3 (some .boolean), .methodLink RX5 58 yX5_isDay, .static yX5_isDay, .code yX5_isDay cX5_isDay 1 (some .boolean), .methodLink RX5 144 yX5_placeBy, .instanceMethod yX5_placeBy, .selects RX5 yX5_placeBy yX5_placeBy, .code yX5_placeBy cX5_placeBy 8 (some .int), .fieldLink RX5 42 "ModelTownModel" "note" "[I"] ++ wsX50)
def wsX5_turns : List Cond := .code yX5_turns cX5_turns 5 (some .int) :: ([.fieldLink RX5 141 "ModelTownModel" "notes" "I", .methodLink RX5 135 yX5_isFigure, .instanceMethod yX5_isFigure, .selects RX5 yX5_isFigure yX5_isFigure, .initialized RX5, .code yX5_isFigure cX5_isFigure 2 (some .boolean), .fieldLink RX5 132 "ModelTownModel" "figures" "I", .methodLink RX5 54 yX5_in, .static yX5_in, .code yX5_in cX5_in 3 (some .boolean), .methodLink RX5 58 yX5_isDay, .static yX5_isDay, .code yX5_isDay cX5_isDay 1 (some .boolean), .methodLink RX5 144 yX5_placeBy, .instanceMethod yX5_placeBy, .selects RX5 yX5_placeBy yX5_placeBy, .code yX5_placeBy cX5_placeBy 8 (some .int), .fieldLink RX5 42 "ModelTownModel" "note" "[I"] ++ wsX50)
def wsX5_told : List Cond := .code yX5_told cX5_told 2 (some .int) :: ([.fieldLink RX5 62 "ModelTownModel" "rules" "I", .fieldLink RX5 70 "ModelTownModel" "things" "I", .fieldLink RX5 85 "ModelTownModel" "walls" "I", .fieldLink RX5 91 "ModelTownModel" "week" "I", .fieldLink RX5 25 "ModelTownModel" "hands" "I", .fieldLink RX5 104 "ModelTownModel" "rings" "I", .fieldLink RX5 110 "ModelTownModel" "trains" "I", .fieldLink RX5 129 "ModelTownModel" "minutes" "I", .fieldLink RX5 132 "ModelTownModel" "figures" "I", .fieldLink RX5 141 "ModelTownModel" "notes" "I"] ++ wsX50)
def wsJ9_min_7cf53 : List Cond := .code yJ9_min_7cf53 cJ9_min_7cf53 2 (some .int) :: ([])
def wsL_law_r1 : List Cond := [Cond.classLink RL 7 RX4, Cond.instantiable RX4 4, Cond.initialized RX4, Cond.classLink RL 10 RX5, Cond.instantiable RX5 24, Cond.initialized RX5, Cond.methodLink RL 9 yX4_init, Cond.instanceMethod yX4_init, Cond.code yX4_init cX4_init 1 none, Cond.methodLink RX4 1 objectInit, Cond.instanceMethod objectInit, Cond.code objectInit ⟨#[0xb1]⟩ 1 none, Cond.classLink RX4 7 RX3, Cond.instantiable RX3 13, Cond.initialized RX3, Cond.fieldLink RX4 10 "ModelTown" "scale" "LModelTown$Scale;", Cond.classLink RX4 16 RX1, Cond.instantiable RX1 16, Cond.initialized RX1, Cond.fieldLink RX4 19 "ModelTown" "paint" "LModelTown$Paint;", Cond.classLink RX4 23 RX2, Cond.instantiable RX2 12, Cond.initialized RX2, Cond.fieldLink RX4 26 "ModelTown" "rails" "LModelTown$Rails;"]
def wsL_law_r2 : List Cond := [Cond.classLink RX4 30 RX0, Cond.instantiable RX0 6, Cond.initialized RX0, Cond.fieldLink RX4 33 "ModelTown" "book" "LModelTown$Book;", Cond.instanceMethod yX3_init, Cond.code yX3_init cX3_init 1 none, Cond.methodLink RX3 3 objectInit, Cond.arrayClass .int, Cond.fieldLink RX3 11 "ModelTown$Scale" "ruleDay" "[I", Cond.fieldLink RX3 15 "ModelTown$Scale" "ruleRatio" "[I", Cond.fieldLink RX3 18 "ModelTown$Scale" "ruleSlack" "[I", Cond.fieldLink RX3 21 "ModelTown$Scale" "sorts" "[I", Cond.fieldLink RX3 24 "ModelTown$Scale" "trueSizes" "[I", Cond.fieldLink RX3 27 "ModelTown$Scale" "firstSizes" "[I", Cond.fieldLink RX3 30 "ModelTown$Scale" "grows" "[I", Cond.fieldLink RX3 33 "ModelTown$Scale" "clipThing" "[I", Cond.fieldLink RX3 36 "ModelTown$Scale" "clipDay" "[I", Cond.fieldLink RX3 39 "ModelTown$Scale" "clipSize" "[I", Cond.methodLink RX4 18 yX1_init, Cond.instanceMethod yX1_init, Cond.code yX1_init cX1_init 2 none, Cond.methodLink RX1 3 objectInit, Cond.fieldLink RX1 11 "ModelTown$Paint" "fades" "[I", Cond.arrayClass .boolean]
def wsL_law_r3 : List Cond := [Cond.fieldLink RX1 15 "ModelTown$Paint" "frosts" "[Z", Cond.fieldLink RX1 19 "ModelTown$Paint" "hands" "I", Cond.fieldLink RX1 23 "ModelTown$Paint" "houses" "[I", Cond.fieldLink RX1 26 "ModelTown$Paint" "sides" "[I", Cond.fieldLink RX1 29 "ModelTown$Paint" "hoursToPaint" "[I", Cond.fieldLink RX1 32 "ModelTown$Paint" "looks" "[I", Cond.fieldLink RX1 35 "ModelTown$Paint" "timesPainted" "[I", Cond.fieldLink RX1 38 "ModelTown$Paint" "thoughtLooks" "[I", Cond.fieldLink RX1 41 "ModelTown$Paint" "thoughtTimes" "[I", Cond.instanceMethod yX2_init, Cond.code yX2_init cX2_init 1 none, Cond.methodLink RX2 3 objectInit, Cond.classLink RX2 11 "[[I", Cond.fieldLink RX2 13 "ModelTown$Rails" "ringBlocks" "[[I", Cond.fieldLink RX2 16 "ModelTown$Rails" "ringLengths" "[I", Cond.fieldLink RX2 20 "ModelTown$Rails" "trainRings" "[I", Cond.fieldLink RX2 23 "ModelTown$Rails" "places" "[I", Cond.fieldLink RX2 26 "ModelTown$Rails" "minutesNeeded" "[I", Cond.fieldLink RX2 29 "ModelTown$Rails" "minutesInBlock" "[I", Cond.fieldLink RX2 32 "ModelTown$Rails" "minutesWaited" "[I", Cond.fieldLink RX2 35 "ModelTown$Rails" "blocksGone" "[I", Cond.fieldLink RX2 38 "ModelTown$Rails" "stuck" "[Z", Cond.instanceMethod yX0_init, Cond.code yX0_init cX0_init 1 none]
def wsL_law_r4 : List Cond := [Cond.methodLink RX0 3 objectInit, Cond.fieldLink RX0 11 "ModelTown$Book" "noteFigure" "[I", Cond.fieldLink RX0 15 "ModelTown$Book" "noteDay" "[I", Cond.fieldLink RX0 18 "ModelTown$Book" "noteToldOn" "[I", Cond.fieldLink RX0 21 "ModelTown$Book" "notePlace" "[I", Cond.methodLink RL 12 yX5_init, Cond.instanceMethod yX5_init, Cond.code yX5_init cX5_init 2 none, Cond.methodLink RX5 1 objectInit, Cond.fieldLink RX5 7 "ModelTownModel" "rule" "[I", Cond.fieldLink RX5 13 "ModelTownModel" "thing" "[I", Cond.fieldLink RX5 16 "ModelTownModel" "clip" "[I", Cond.fieldLink RX5 19 "ModelTownModel" "fade" "[I", Cond.fieldLink RX5 22 "ModelTownModel" "wall" "[I", Cond.fieldLink RX5 25 "ModelTownModel" "hands" "I", Cond.fieldLink RX5 29 "ModelTownModel" "isFrost" "[Z", Cond.fieldLink RX5 33 "ModelTownModel" "blocks" "[I", Cond.fieldLink RX5 36 "ModelTownModel" "block" "[I", Cond.fieldLink RX5 39 "ModelTownModel" "train" "[I", Cond.fieldLink RX5 42 "ModelTownModel" "note" "[I", Cond.fieldLink RX5 45 "ModelTownModel" "looks" "[I", Cond.fieldLink RX5 48 "ModelTownModel" "isPainted" "[Z", Cond.fieldLink RX5 51 "ModelTownModel" "told" "[I", Cond.methodLink RL 13 yX4_rule]
def wsL_law_r5 : List Cond := [Cond.instanceMethod yX4_rule, Cond.selects RX4 yX4_rule yX4_rule, Cond.code yX4_rule cX4_rule 4 (some .int), Cond.methodLink RX4 37 yX3_addRule, Cond.instanceMethod yX3_addRule, Cond.selects RX3 yX3_addRule yX3_addRule, Cond.code yX3_addRule cX3_addRule 4 (some .int), Cond.fieldLink RX3 50 "ModelTown$Scale" "rules" "I", Cond.static yX4_isDay, Cond.code yX4_isDay cX4_isDay 1 (some .boolean), Cond.methodLink RX4 155 yX4_isWithin, Cond.static yX4_isWithin, Cond.code yX4_isWithin cX4_isWithin 3 (some .boolean), Cond.methodLink RL 17 yX5_rule, Cond.instanceMethod yX5_rule, Cond.selects RX5 yX5_rule yX5_rule, Cond.code yX5_rule cX5_rule 4 (some .int), Cond.fieldLink RX5 62 "ModelTownModel" "rules" "I", Cond.methodLink RX5 58 yX5_isDay, Cond.static yX5_isDay, Cond.code yX5_isDay cX5_isDay 1 (some .boolean), Cond.methodLink RX5 54 yX5_in, Cond.static yX5_in, Cond.code yX5_in cX5_in 3 (some .boolean)]
def wsL_law_r6 : List Cond := [Cond.methodLink RL 18 yX4_force, Cond.instanceMethod yX4_force, Cond.selects RX4 yX4_force yX4_force, Cond.code yX4_force cX4_force 3 (some .int), Cond.methodLink RX4 41 yX3_inForce, Cond.instanceMethod yX3_inForce, Cond.selects RX3 yX3_inForce yX3_inForce, Cond.code yX3_inForce cX3_inForce 3 (some .int), Cond.methodLink RX3 54 yX3_ratioOn, Cond.instanceMethod yX3_ratioOn, Cond.selects RX3 yX3_ratioOn yX3_ratioOn, Cond.code yX3_ratioOn cX3_ratioOn 3 (some .int), Cond.methodLink RX3 84 yX3_ruleOn, Cond.instanceMethod yX3_ruleOn, Cond.selects RX3 yX3_ruleOn yX3_ruleOn, Cond.code yX3_ruleOn cX3_ruleOn 4 (some .int), Cond.methodLink RX3 58 yX3_slackOn, Cond.instanceMethod yX3_slackOn, Cond.selects RX3 yX3_slackOn yX3_slackOn, Cond.code yX3_slackOn cX3_slackOn 3 (some .int), Cond.methodLink RL 22 yX5_force, Cond.instanceMethod yX5_force, Cond.selects RX5 yX5_force yX5_force, Cond.code yX5_force cX5_force 3 (some .int)]
def wsL_law_r7 : List Cond := [Cond.methodLink RX5 65 yX5_forceOf, Cond.instanceMethod yX5_forceOf, Cond.selects RX5 yX5_forceOf yX5_forceOf, Cond.code yX5_forceOf cX5_forceOf 5 (some .int), Cond.methodLink RL 23 yX4_thing, Cond.instanceMethod yX4_thing, Cond.selects RX4 yX4_thing yX4_thing, Cond.code yX4_thing cX4_thing 5 (some .int), Cond.methodLink RX4 45 yX3_addThing, Cond.instanceMethod yX3_addThing, Cond.selects RX3 yX3_addThing yX3_addThing, Cond.code yX3_addThing cX3_addThing 5 (some .int), Cond.constant RX3 61 (60000), Cond.fieldLink RX3 62 "ModelTown$Scale" "things" "I", Cond.methodLink RL 27 yX5_thing, Cond.instanceMethod yX5_thing, Cond.selects RX5 yX5_thing yX5_thing, Cond.code yX5_thing cX5_thing 5 (some .int), Cond.constant RX5 69 (60000), Cond.fieldLink RX5 70 "ModelTownModel" "things" "I", Cond.methodLink RL 28 yX4_clip, Cond.instanceMethod yX4_clip, Cond.selects RX4 yX4_clip yX4_clip, Cond.code yX4_clip cX4_clip 4 (some .int)]
def wsL_law_r8 : List Cond := [Cond.methodLink RX4 49 yX3_clipTree, Cond.instanceMethod yX3_clipTree, Cond.selects RX3 yX3_clipTree yX3_clipTree, Cond.code yX3_clipTree cX3_clipTree 6 (some .int), Cond.fieldLink RX3 68 "ModelTown$Scale" "clippings" "I", Cond.methodLink RX3 65 yX3_isThing, Cond.instanceMethod yX3_isThing, Cond.selects RX3 yX3_isThing yX3_isThing, Cond.code yX3_isThing cX3_isThing 2 (some .boolean), Cond.methodLink RX3 71 yX3_clippingOn, Cond.instanceMethod yX3_clippingOn, Cond.selects RX3 yX3_clippingOn yX3_clippingOn, Cond.code yX3_clippingOn cX3_clippingOn 4 (some .int), Cond.methodLink RX3 75 yX3_sizeOn, Cond.instanceMethod yX3_sizeOn, Cond.selects RX3 yX3_sizeOn yX3_sizeOn, Cond.code yX3_sizeOn cX3_sizeOn 6 (some .int), Cond.methodLink RL 31 yX5_clip, Cond.instanceMethod yX5_clip, Cond.selects RX5 yX5_clip yX5_clip, Cond.code yX5_clip cX5_clip 5 (some .int), Cond.fieldLink RX5 73 "ModelTownModel" "clips" "I", Cond.methodLink RX5 76 yX5_isThing, Cond.instanceMethod yX5_isThing]
def wsL_law_r9 : List Cond := [Cond.selects RX5 yX5_isThing yX5_isThing, Cond.code yX5_isThing cX5_isThing 2 (some .boolean), Cond.methodLink RX5 79 yX5_sizeOn, Cond.instanceMethod yX5_sizeOn, Cond.selects RX5 yX5_sizeOn yX5_sizeOn, Cond.code yX5_sizeOn cX5_sizeOn 6 (some .int), Cond.methodLink RL 32 yX4_look, Cond.instanceMethod yX4_look, Cond.selects RX4 yX4_look yX4_look, Cond.code yX4_look cX4_look 4 (some .int), Cond.methodLink RX4 52 yX3_lookAt, Cond.instanceMethod yX3_lookAt, Cond.selects RX3 yX3_lookAt yX3_lookAt, Cond.code yX3_lookAt cX3_lookAt 4 (some .int), Cond.methodLink RX3 78 yX3_dueOn, Cond.instanceMethod yX3_dueOn, Cond.selects RX3 yX3_dueOn yX3_dueOn, Cond.code yX3_dueOn cX3_dueOn 3 (some .int), Cond.methodLink RX3 81 yX3_faultOn, Cond.instanceMethod yX3_faultOn, Cond.selects RX3 yX3_faultOn yX3_faultOn, Cond.code yX3_faultOn cX3_faultOn 6 (some .int), Cond.methodLink RL 35 yX5_look, Cond.instanceMethod yX5_look]
def wsL_law_r10 : List Cond := [Cond.selects RX5 yX5_look yX5_look, Cond.code yX5_look cX5_look 4 (some .int), Cond.methodLink RX5 82 yX5_faultOn, Cond.instanceMethod yX5_faultOn, Cond.selects RX5 yX5_faultOn yX5_faultOn, Cond.code yX5_faultOn cX5_faultOn 7 (some .int), Cond.methodLink RL 36 yX4_fault, Cond.instanceMethod yX4_fault, Cond.selects RX4 yX4_fault yX4_fault, Cond.code yX4_fault cX4_fault 2 (some .int), Cond.methodLink RX4 55 yX3_firstFaulty, Cond.instanceMethod yX3_firstFaulty, Cond.selects RX3 yX3_firstFaulty yX3_firstFaulty, Cond.code yX3_firstFaulty cX3_firstFaulty 3 (some .int), Cond.methodLink RL 40 yX5_fault, Cond.instanceMethod yX5_fault, Cond.selects RX5 yX5_fault yX5_fault, Cond.code yX5_fault cX5_fault 3 (some .int), Cond.methodLink RL 41 yX4_spoils, Cond.instanceMethod yX4_spoils, Cond.selects RX4 yX4_spoils yX4_spoils, Cond.code yX4_spoils cX4_spoils 3 (some .int), Cond.methodLink RX4 59 yX3_firstFaultyDay, Cond.instanceMethod yX3_firstFaultyDay]
def wsL_law_r11 : List Cond := [Cond.selects RX3 yX3_firstFaultyDay yX3_firstFaultyDay, Cond.code yX3_firstFaultyDay cX3_firstFaultyDay 4 (some .int), Cond.methodLink RL 44 yX5_spoils, Cond.instanceMethod yX5_spoils, Cond.selects RX5 yX5_spoils yX5_spoils, Cond.code yX5_spoils cX5_spoils 4 (some .int), Cond.methodLink RL 45 yX4_fade, Cond.instanceMethod yX4_fade, Cond.selects RX4 yX4_fade yX4_fade, Cond.code yX4_fade cX4_fade 3 (some .int), Cond.methodLink RX4 62 yX1_setFade, Cond.instanceMethod yX1_setFade, Cond.selects RX1 yX1_setFade yX1_setFade, Cond.code yX1_setFade cX1_setFade 4 (some .int), Cond.methodLink RL 48 yX5_fade, Cond.instanceMethod yX5_fade, Cond.selects RX5 yX5_fade yX5_fade, Cond.code yX5_fade cX5_fade 4 (some .int), Cond.methodLink RL 49 yX4_wall, Cond.instanceMethod yX4_wall, Cond.selects RX4 yX4_wall yX4_wall, Cond.code yX4_wall cX4_wall 4 (some .int), Cond.methodLink RX4 65 yX1_addWall, Cond.instanceMethod yX1_addWall]
def wsL_law_r12 : List Cond := [Cond.selects RX1 yX1_addWall yX1_addWall, Cond.code yX1_addWall cX1_addWall 4 (some .int), Cond.fieldLink RX1 48 "ModelTown$Paint" "walls" "I", Cond.methodLink RL 52 yX5_wall, Cond.instanceMethod yX5_wall, Cond.selects RX5 yX5_wall yX5_wall, Cond.code yX5_wall cX5_wall 4 (some .int), Cond.fieldLink RX5 85 "ModelTownModel" "walls" "I", Cond.methodLink RL 53 yX4_wallOf, Cond.instanceMethod yX4_wallOf, Cond.selects RX4 yX4_wallOf yX4_wallOf, Cond.code yX4_wallOf cX4_wallOf 3 (some .int), Cond.methodLink RX4 68 yX1_aboutWall, Cond.instanceMethod yX1_aboutWall, Cond.selects RX1 yX1_aboutWall yX1_aboutWall, Cond.code yX1_aboutWall cX1_aboutWall 3 (some .int), Cond.methodLink RL 56 yX5_wallOf, Cond.instanceMethod yX5_wallOf, Cond.selects RX5 yX5_wallOf yX5_wallOf, Cond.code yX5_wallOf cX5_wallOf 3 (some .int), Cond.methodLink RL 57 yX4_hands, Cond.instanceMethod yX4_hands, Cond.selects RX4 yX4_hands yX4_hands, Cond.code yX4_hands cX4_hands 2 (some .int)]
def wsL_law_r13 : List Cond := [Cond.methodLink RX4 71 yX1_setHands, Cond.instanceMethod yX1_setHands, Cond.selects RX1 yX1_setHands yX1_setHands, Cond.code yX1_setHands cX1_setHands 3 (some .int), Cond.methodLink RL 60 yX5_hands, Cond.instanceMethod yX5_hands, Cond.selects RX5 yX5_hands yX5_hands, Cond.code yX5_hands cX5_hands 3 (some .int), Cond.methodLink RX5 88 yX5_areHands, Cond.static yX5_areHands, Cond.code yX5_areHands cX5_areHands 1 (some .boolean), Cond.methodLink RL 61 yX4_frost, Cond.instanceMethod yX4_frost, Cond.selects RX4 yX4_frost yX4_frost, Cond.code yX4_frost cX4_frost 3 (some .int), Cond.methodLink RX4 74 yX1_setFrost, Cond.instanceMethod yX1_setFrost, Cond.selects RX1 yX1_setFrost yX1_setFrost, Cond.code yX1_setFrost cX1_setFrost 4 (some .int), Cond.fieldLink RX1 51 "ModelTown$Paint" "week" "I", Cond.static yX4_oneIf, Cond.code yX4_oneIf cX4_oneIf 1 (some .int), Cond.methodLink RL 65 yX5_frost, Cond.instanceMethod yX5_frost]
def wsL_law_r14 : List Cond := [Cond.selects RX5 yX5_frost yX5_frost, Cond.code yX5_frost cX5_frost 4 (some .int), Cond.fieldLink RX5 91 "ModelTownModel" "week" "I", Cond.methodLink RL 66 yX4_week, Cond.instanceMethod yX4_week, Cond.selects RX4 yX4_week yX4_week, Cond.code yX4_week cX4_week 1 (some .int), Cond.methodLink RX4 78 yX1_goWeek, Cond.instanceMethod yX1_goWeek, Cond.selects RX1 yX1_goWeek yX1_goWeek, Cond.code yX1_goWeek cX1_goWeek 2 (some .int), Cond.methodLink RX1 58 yX1_passWeek, Cond.instanceMethod yX1_passWeek, Cond.selects RX1 yX1_passWeek yX1_passWeek, Cond.code yX1_passWeek cX1_passWeek 8 (some .int), Cond.methodLink RX1 88 yX1_paintWalls, Cond.instanceMethod yX1_paintWalls, Cond.selects RX1 yX1_paintWalls yX1_paintWalls, Cond.code yX1_paintWalls cX1_paintWalls 7 (some .int), Cond.fieldLink RX1 75 "ModelTown$Paint" "hoursLacking" "I", Cond.methodLink RX1 96 Lib.Math.min.name, Cond.static Lib.Math.min.name, Cond.initialized "java/lang/Math", Cond.code Lib.Math.min.name Lib.Math.min.code 2 (some .int)]
def wsL_law_r15 : List Cond := [Cond.methodLink RX1 92 yX1_mostFaded, Cond.instanceMethod yX1_mostFaded, Cond.selects RX1 yX1_mostFaded yX1_mostFaded, Cond.code yX1_mostFaded cX1_mostFaded 5 (some .int), Cond.methodLink RL 70 yX5_week, Cond.instanceMethod yX5_week, Cond.selects RX5 yX5_week yX5_week, Cond.code yX5_week cX5_week 3 (some .int), Cond.methodLink RX5 94 yX5_layLooks, Cond.instanceMethod yX5_layLooks, Cond.selects RX5 yX5_layLooks yX5_layLooks, Cond.code yX5_layLooks cX5_layLooks 2 none, Cond.methodLink RX5 97 yX5_goWeek, Cond.instanceMethod yX5_goWeek, Cond.selects RX5 yX5_goWeek yX5_goWeek, Cond.code yX5_goWeek cX5_goWeek 8 (some .int), Cond.methodLink RL 71 yX4_foretell, Cond.instanceMethod yX4_foretell, Cond.selects RX4 yX4_foretell yX4_foretell, Cond.code yX4_foretell cX4_foretell 3 (some .int), Cond.methodLink RX4 82 yX1_leastForetold, Cond.instanceMethod yX1_leastForetold, Cond.selects RX1 yX1_leastForetold yX1_leastForetold, Cond.code yX1_leastForetold cX1_leastForetold 3 (some .int)]
def wsL_law_r16 : List Cond := [Cond.fieldLink RX1 66 "ModelTown$Paint" "leastLook" "I", Cond.fieldLink RX1 69 "ModelTown$Paint" "leastWeek" "I", Cond.fieldLink RX1 72 "ModelTown$Paint" "leastWall" "I", Cond.methodLink RX1 62 yX1_foresee, Cond.instanceMethod yX1_foresee, Cond.selects RX1 yX1_foresee yX1_foresee, Cond.code yX1_foresee cX1_foresee 5 none, Cond.methodLink RX1 78 arraycopyName, Cond.native arraycopyName, Cond.static arraycopyName, Cond.initialized "java/lang/System", Cond.methodLink RX1 84 yX1_keepLeast, Cond.instanceMethod yX1_keepLeast, Cond.selects RX1 yX1_keepLeast yX1_keepLeast, Cond.code yX1_keepLeast cX1_keepLeast 3 none, Cond.methodLink RL 74 yX5_foretell, Cond.instanceMethod yX5_foretell, Cond.selects RX5 yX5_foretell yX5_foretell, Cond.code yX5_foretell cX5_foretell 3 (some .int), Cond.methodLink RX5 100 yX5_layForetold, Cond.instanceMethod yX5_layForetold, Cond.selects RX5 yX5_layForetold yX5_layForetold, Cond.code yX5_layForetold cX5_layForetold 6 none, Cond.methodLink RL 75 yX4_enough]
def wsL_law_r17 : List Cond := [Cond.instanceMethod yX4_enough, Cond.selects RX4 yX4_enough yX4_enough, Cond.code yX4_enough cX4_enough 3 (some .int), Cond.methodLink RX4 85 yX1_fewestHands, Cond.instanceMethod yX1_fewestHands, Cond.selects RX1 yX1_fewestHands yX1_fewestHands, Cond.code yX1_fewestHands cX1_fewestHands 5 (some .int), Cond.methodLink RL 78 yX5_enough, Cond.instanceMethod yX5_enough, Cond.selects RX5 yX5_enough yX5_enough, Cond.code yX5_enough cX5_enough 4 (some .int), Cond.methodLink RL 79 yX4_ring, Cond.instanceMethod yX4_ring, Cond.selects RX4 yX4_ring yX4_ring, Cond.code yX4_ring cX4_ring 1 (some .int), Cond.methodLink RX4 88 yX2_addRing, Cond.instanceMethod yX2_addRing, Cond.selects RX2 yX2_addRing yX2_addRing, Cond.code yX2_addRing cX2_addRing 1 (some .int), Cond.fieldLink RX2 42 "ModelTown$Rails" "rings" "I", Cond.methodLink RL 82 yX5_ring, Cond.instanceMethod yX5_ring, Cond.selects RX5 yX5_ring yX5_ring, Cond.code yX5_ring cX5_ring 1 (some .int)]
def wsL_law_r18 : List Cond := [Cond.fieldLink RX5 104 "ModelTownModel" "rings" "I", Cond.methodLink RL 83 yX4_block, Cond.instanceMethod yX4_block, Cond.selects RX4 yX4_block yX4_block, Cond.code yX4_block cX4_block 3 (some .int), Cond.methodLink RX4 91 yX2_addBlock, Cond.instanceMethod yX2_addBlock, Cond.selects RX2 yX2_addBlock yX2_addBlock, Cond.code yX2_addBlock cX2_addBlock 4 (some .int), Cond.methodLink RX2 46 yX2_isRing, Cond.instanceMethod yX2_isRing, Cond.selects RX2 yX2_isRing yX2_isRing, Cond.code yX2_isRing cX2_isRing 2 (some .boolean), Cond.methodLink RX2 54 yX2_hasTrain, Cond.instanceMethod yX2_hasTrain, Cond.selects RX2 yX2_hasTrain yX2_hasTrain, Cond.code yX2_hasTrain cX2_hasTrain 3 (some .boolean), Cond.fieldLink RX2 61 "ModelTown$Rails" "trains" "I", Cond.methodLink RX2 57 yX2_hasBlock, Cond.instanceMethod yX2_hasBlock, Cond.selects RX2 yX2_hasBlock yX2_hasBlock, Cond.code yX2_hasBlock cX2_hasBlock 4 (some .boolean), Cond.methodLink RL 86 yX5_block, Cond.instanceMethod yX5_block]
def wsL_law_r19 : List Cond := [Cond.selects RX5 yX5_block yX5_block, Cond.code yX5_block cX5_block 4 (some .int), Cond.fieldLink RX5 110 "ModelTownModel" "trains" "I", Cond.methodLink RX5 107 yX5_isRing, Cond.instanceMethod yX5_isRing, Cond.selects RX5 yX5_isRing yX5_isRing, Cond.code yX5_isRing cX5_isRing 2 (some .boolean), Cond.methodLink RL 87 yX4_train, Cond.instanceMethod yX4_train, Cond.selects RX4 yX4_train yX4_train, Cond.code yX4_train cX4_train 4 (some .int), Cond.methodLink RX4 94 yX2_addTrain, Cond.instanceMethod yX2_addTrain, Cond.selects RX2 yX2_addTrain yX2_addTrain, Cond.code yX2_addTrain cX2_addTrain 6 (some .int), Cond.methodLink RX2 64 yX2_trainIn, Cond.instanceMethod yX2_trainIn, Cond.selects RX2 yX2_trainIn yX2_trainIn, Cond.code yX2_trainIn cX2_trainIn 3 (some .int), Cond.methodLink RX2 81 yX2_blockOf, Cond.instanceMethod yX2_blockOf, Cond.selects RX2 yX2_blockOf yX2_blockOf, Cond.code yX2_blockOf cX2_blockOf 2 (some .int), Cond.methodLink RL 90 yX5_train]
def wsL_law_r20 : List Cond := [Cond.instanceMethod yX5_train, Cond.selects RX5 yX5_train yX5_train, Cond.code yX5_train cX5_train 6 (some .int), Cond.methodLink RX5 113 yX5_blockAt, Cond.instanceMethod yX5_blockAt, Cond.selects RX5 yX5_blockAt yX5_blockAt, Cond.code yX5_blockAt cX5_blockAt 3 (some .int), Cond.methodLink RX5 120 yX5_trainIn, Cond.instanceMethod yX5_trainIn, Cond.selects RX5 yX5_trainIn yX5_trainIn, Cond.code yX5_trainIn cX5_trainIn 3 (some .int), Cond.methodLink RX5 116 yX5_blockOf, Cond.instanceMethod yX5_blockOf, Cond.selects RX5 yX5_blockOf yX5_blockOf, Cond.code yX5_blockOf cX5_blockOf 2 (some .int), Cond.methodLink RL 91 yX4_stick, Cond.instanceMethod yX4_stick, Cond.selects RX4 yX4_stick yX4_stick, Cond.code yX4_stick cX4_stick 3 (some .int), Cond.methodLink RX4 97 yX2_setStuck, Cond.instanceMethod yX2_setStuck, Cond.selects RX2 yX2_setStuck yX2_setStuck, Cond.code yX2_setStuck cX2_setStuck 4 (some .int), Cond.methodLink RX2 68 yX2_isTrain]
def wsL_law_r21 : List Cond := [Cond.instanceMethod yX2_isTrain, Cond.selects RX2 yX2_isTrain yX2_isTrain, Cond.code yX2_isTrain cX2_isTrain 2 (some .boolean), Cond.methodLink RL 94 yX5_stick, Cond.instanceMethod yX5_stick, Cond.selects RX5 yX5_stick yX5_stick, Cond.code yX5_stick cX5_stick 4 (some .int), Cond.methodLink RX5 123 yX5_isTrain, Cond.instanceMethod yX5_isTrain, Cond.selects RX5 yX5_isTrain yX5_isTrain, Cond.code yX5_isTrain cX5_isTrain 2 (some .boolean), Cond.methodLink RL 95 yX4_run, Cond.instanceMethod yX4_run, Cond.selects RX4 yX4_run yX4_run, Cond.code yX4_run cX4_run 2 (some .int), Cond.methodLink RX4 100 yX2_goMinutes, Cond.instanceMethod yX2_goMinutes, Cond.selects RX2 yX2_goMinutes yX2_goMinutes, Cond.code yX2_goMinutes cX2_goMinutes 5 (some .int), Cond.fieldLink RX2 78 "ModelTown$Rails" "minutesGone" "I", Cond.methodLink RX2 75 yX2_goesOn, Cond.instanceMethod yX2_goesOn, Cond.selects RX2 yX2_goesOn yX2_goesOn, Cond.code yX2_goesOn cX2_goesOn 2 (some .boolean)]
def wsL_law_r22 : List Cond := [Cond.methodLink RX2 84 yX2_trainAhead, Cond.instanceMethod yX2_trainAhead, Cond.selects RX2 yX2_trainAhead yX2_trainAhead, Cond.code yX2_trainAhead cX2_trainAhead 2 (some .int), Cond.methodLink RX2 90 yX2_nextPlace, Cond.instanceMethod yX2_nextPlace, Cond.selects RX2 yX2_nextPlace yX2_nextPlace, Cond.code yX2_nextPlace cX2_nextPlace 3 (some .int), Cond.methodLink RL 98 yX5_run, Cond.instanceMethod yX5_run, Cond.selects RX5 yX5_run yX5_run, Cond.code yX5_run cX5_run 6 (some .int), Cond.fieldLink RX5 129 "ModelTownModel" "minutes" "I", Cond.methodLink RX5 126 yX5_nextOf, Cond.instanceMethod yX5_nextOf, Cond.selects RX5 yX5_nextOf yX5_nextOf, Cond.code yX5_nextOf cX5_nextOf 2 (some .int), Cond.methodLink RL 99 yX4_trainOf, Cond.instanceMethod yX4_trainOf, Cond.selects RX4 yX4_trainOf yX4_trainOf, Cond.code yX4_trainOf cX4_trainOf 3 (some .int), Cond.methodLink RX4 103 yX2_aboutTrain, Cond.instanceMethod yX2_aboutTrain, Cond.selects RX2 yX2_aboutTrain yX2_aboutTrain]
def wsL_law_r23 : List Cond := [Cond.code yX2_aboutTrain cX2_aboutTrain 3 (some .int), Cond.methodLink RL 102 yX5_trainOf, Cond.instanceMethod yX5_trainOf, Cond.selects RX5 yX5_trainOf yX5_trainOf, Cond.code yX5_trainOf cX5_trainOf 4 (some .int), Cond.methodLink RL 103 yX4_stands, Cond.instanceMethod yX4_stands, Cond.selects RX4 yX4_stands yX4_stands, Cond.code yX4_stands cX4_stands 1 (some .int), Cond.methodLink RX4 106 yX2_standing, Cond.instanceMethod yX2_standing, Cond.selects RX2 yX2_standing yX2_standing, Cond.code yX2_standing cX2_standing 4 (some .int), Cond.methodLink RX2 87 yX2_mayGoOn, Cond.instanceMethod yX2_mayGoOn, Cond.selects RX2 yX2_mayGoOn yX2_mayGoOn, Cond.code yX2_mayGoOn cX2_mayGoOn 4 (some .boolean), Cond.methodLink RL 106 yX5_stands, Cond.instanceMethod yX5_stands, Cond.selects RX5 yX5_stands yX5_stands, Cond.code yX5_stands cX5_stands 6 (some .int), Cond.methodLink RL 107 yX4_figure, Cond.instanceMethod yX4_figure, Cond.selects RX4 yX4_figure yX4_figure]
def wsL_law_r24 : List Cond := [Cond.code yX4_figure cX4_figure 1 (some .int), Cond.methodLink RX4 109 yX0_addFigure, Cond.instanceMethod yX0_addFigure, Cond.selects RX0 yX0_addFigure yX0_addFigure, Cond.code yX0_addFigure cX0_addFigure 1 (some .int), Cond.fieldLink RX0 24 "ModelTown$Book" "figures" "I", Cond.methodLink RL 110 yX5_figure, Cond.instanceMethod yX5_figure, Cond.selects RX5 yX5_figure yX5_figure, Cond.code yX5_figure cX5_figure 1 (some .int), Cond.fieldLink RX5 132 "ModelTownModel" "figures" "I", Cond.methodLink RL 111 yX4_note, Cond.instanceMethod yX4_note, Cond.selects RX4 yX4_note yX4_note, Cond.code yX4_note cX4_note 5 (some .int), Cond.methodLink RX4 112 yX0_addNote, Cond.instanceMethod yX0_addNote, Cond.selects RX0 yX0_addNote yX0_addNote, Cond.code yX0_addNote cX0_addNote 5 (some .int), Cond.fieldLink RX0 39 "ModelTown$Book" "notes" "I", Cond.methodLink RX0 28 yX0_isFigure, Cond.instanceMethod yX0_isFigure, Cond.selects RX0 yX0_isFigure yX0_isFigure, Cond.code yX0_isFigure cX0_isFigure 2 (some .boolean)]
def wsL_law_r25 : List Cond := [Cond.methodLink RL 114 yX5_note, Cond.instanceMethod yX5_note, Cond.selects RX5 yX5_note yX5_note, Cond.code yX5_note cX5_note 5 (some .int), Cond.fieldLink RX5 141 "ModelTownModel" "notes" "I", Cond.methodLink RX5 135 yX5_isFigure, Cond.instanceMethod yX5_isFigure, Cond.selects RX5 yX5_isFigure yX5_isFigure, Cond.code yX5_isFigure cX5_isFigure 2 (some .boolean), Cond.methodLink RX5 138 yX5_isPlace, Cond.static yX5_isPlace, Cond.code yX5_isPlace cX5_isPlace 1 (some .boolean), Cond.methodLink RL 115 yX4_where, Cond.instanceMethod yX4_where, Cond.selects RX4 yX4_where yX4_where, Cond.code yX4_where cX4_where 4 (some .int), Cond.methodLink RX4 115 yX0_whereIs, Cond.instanceMethod yX0_whereIs, Cond.selects RX0 yX0_whereIs yX0_whereIs, Cond.code yX0_whereIs cX0_whereIs 4 (some .int), Cond.methodLink RX0 42 yX0_placeOn, Cond.instanceMethod yX0_placeOn, Cond.selects RX0 yX0_placeOn yX0_placeOn, Cond.code yX0_placeOn cX0_placeOn 6 (some .int)]
def wsL_law_r26 : List Cond := [Cond.methodLink RX0 46 yX0_tellsOf, Cond.instanceMethod yX0_tellsOf, Cond.selects RX0 yX0_tellsOf yX0_tellsOf, Cond.code yX0_tellsOf cX0_tellsOf 4 (some .boolean), Cond.methodLink RX0 49 yX0_prevails, Cond.instanceMethod yX0_prevails, Cond.selects RX0 yX0_prevails yX0_prevails, Cond.code yX0_prevails cX0_prevails 3 (some .boolean), Cond.methodLink RL 118 yX5_where, Cond.instanceMethod yX5_where, Cond.selects RX5 yX5_where yX5_where, Cond.code yX5_where cX5_where 4 (some .int), Cond.methodLink RX5 144 yX5_placeBy, Cond.instanceMethod yX5_placeBy, Cond.selects RX5 yX5_placeBy yX5_placeBy, Cond.code yX5_placeBy cX5_placeBy 8 (some .int), Cond.methodLink RL 119 yX4_at, Cond.instanceMethod yX4_at, Cond.selects RX4 yX4_at yX4_at, Cond.code yX4_at cX4_at 4 (some .int), Cond.methodLink RX4 118 yX0_figuresAt, Cond.instanceMethod yX0_figuresAt, Cond.selects RX0 yX0_figuresAt yX0_figuresAt, Cond.code yX0_figuresAt cX0_figuresAt 6 (some .int)]
def wsL_law_r27 : List Cond := [Cond.methodLink RL 122 yX5_at, Cond.instanceMethod yX5_at, Cond.selects RX5 yX5_at yX5_at, Cond.code yX5_at cX5_at 6 (some .int), Cond.methodLink RL 123 yX4_turns, Cond.instanceMethod yX4_turns, Cond.selects RX4 yX4_turns yX4_turns, Cond.code yX4_turns cX4_turns 3 (some .int), Cond.methodLink RX4 121 yX0_turnsOf, Cond.instanceMethod yX0_turnsOf, Cond.selects RX0 yX0_turnsOf yX0_turnsOf, Cond.code yX0_turnsOf cX0_turnsOf 6 (some .int), Cond.methodLink RL 126 yX5_turns, Cond.instanceMethod yX5_turns, Cond.selects RX5 yX5_turns yX5_turns, Cond.code yX5_turns cX5_turns 5 (some .int), Cond.methodLink RL 127 yX4_told, Cond.instanceMethod yX4_told, Cond.selects RX4 yX4_told yX4_told, Cond.code yX4_told cX4_told 2 (some .int), Cond.methodLink RL 130 yX5_told, Cond.instanceMethod yX5_told, Cond.selects RX5 yX5_told yX5_told, Cond.code yX5_told cX5_told 2 (some .int)]
def wsL_law : List Cond := (wsL_law_r1 ++ (wsL_law_r2 ++ (wsL_law_r3 ++ (wsL_law_r4 ++ (wsL_law_r5 ++ (wsL_law_r6 ++ (wsL_law_r7 ++ (wsL_law_r8 ++ (wsL_law_r9 ++ (wsL_law_r10 ++ (wsL_law_r11 ++ (wsL_law_r12 ++ (wsL_law_r13 ++ (wsL_law_r14 ++ (wsL_law_r15 ++ (wsL_law_r16 ++ (wsL_law_r17 ++ (wsL_law_r18 ++ (wsL_law_r19 ++ (wsL_law_r20 ++ (wsL_law_r21 ++ (wsL_law_r22 ++ (wsL_law_r23 ++ (wsL_law_r24 ++ (wsL_law_r25 ++ (wsL_law_r26 ++ wsL_law_r27)))))))))))))))))))))))))) ++ wsX40 ++ wsX50 ++ wsX30 ++ wsX10 ++ wsX20 ++ wsX00 ++ ([] : List Cond)
theorem posIn {big : List Cond} (ws : List Cond) (ps : List Nat) (hp : ws = ps.filterMap (fun i => big[i]?)) : ∀ w ∈ ws, w ∈ big := by
  intro w hw
  rw [hp] at hw
  obtain ⟨i, -, hi⟩ := List.mem_filterMap.mp hw
  exact List.mem_of_getElem? hi
set_option maxRecDepth 20000 in
theorem wsL_in_r1 : ∀ w ∈ wsL_law_r1, w ∈ lw_tbl := posIn _ [51, 52, 43, 605, 606, 48, 53, 54, 55, 56, 57, 58, 59, 60, 44, 242, 108, 109, 45, 243, 167, 168, 46, 244] (by decide +kernel)
set_option maxRecDepth 20000 in
theorem wsL_in_r2 : ∀ w ∈ wsL_law_r2, w ∈ lw_tbl := posIn _ [215, 216, 47, 245, 62, 63, 64, 107, 65, 66, 67, 70, 71, 72, 73, 76, 77, 78, 110, 111, 112, 113, 114, 166] (by decide +kernel)
set_option maxRecDepth 20000 in
theorem wsL_in_r3 : ∀ w ∈ wsL_law_r3, w ∈ lw_tbl := posIn _ [115, 116, 120, 121, 122, 123, 124, 127, 128, 170, 171, 172, 173, 175, 176, 179, 180, 181, 182, 183, 184, 185, 218, 219] (by decide +kernel)
set_option maxRecDepth 20000 in
theorem wsL_in_r4 : ∀ w ∈ wsL_law_r4, w ∈ lw_tbl := posIn _ [220, 223, 224, 225, 226, 607, 608, 609, 610, 612, 614, 616, 617, 619, 620, 621, 624, 625, 627, 631, 632, 633, 634, 255] (by decide +kernel)
set_option maxRecDepth 20000 in
theorem wsL_in_r5 : ∀ w ∈ wsL_law_r5, w ∈ lw_tbl := posIn _ [256, 257, 258, 259, 260, 261, 262, 68, 264, 265, 266, 267, 268, 684, 685, 686, 687, 611, 688, 689, 690, 691, 692, 693] (by decide +kernel)
set_option maxRecDepth 20000 in
theorem wsL_in_r6 : ∀ w ∈ wsL_law_r6, w ∈ lw_tbl := posIn _ [270, 271, 272, 273, 274, 275, 276, 277, 278, 280, 0, 281, 282, 284, 1, 285, 286, 288, 2, 289, 694, 695, 696, 697] (by decide +kernel)
set_option maxRecDepth 20000 in
theorem wsL_in_r7 : ∀ w ∈ wsL_law_r7, w ∈ lw_tbl := posIn _ [698, 700, 27, 701, 290, 291, 292, 293, 294, 295, 296, 297, 298, 74, 702, 703, 704, 705, 706, 613, 299, 300, 301, 302] (by decide +kernel)
set_option maxRecDepth 20000 in
theorem wsL_in_r8 : ∀ w ∈ wsL_law_r8, w ∈ lw_tbl := posIn _ [303, 304, 305, 306, 79, 307, 309, 3, 310, 311, 313, 4, 314, 315, 317, 5, 318, 707, 708, 709, 710, 615, 711, 713] (by decide +kernel)
set_option maxRecDepth 20000 in
theorem wsL_in_r9 : ∀ w ∈ wsL_law_r9, w ∈ lw_tbl := posIn _ [28, 714, 715, 717, 29, 718, 319, 320, 321, 322, 323, 324, 325, 326, 327, 329, 6, 330, 331, 333, 7, 334, 719, 720] (by decide +kernel)
set_option maxRecDepth 20000 in
theorem wsL_in_r10 : ∀ w ∈ wsL_law_r10, w ∈ lw_tbl := posIn _ [721, 722, 723, 725, 30, 726, 335, 336, 337, 338, 339, 340, 341, 342, 727, 728, 729, 730, 343, 344, 345, 346, 347, 348] (by decide +kernel)
set_option maxRecDepth 20000 in
theorem wsL_in_r11 : ∀ w ∈ wsL_law_r11, w ∈ lw_tbl := posIn _ [349, 350, 731, 732, 733, 734, 351, 352, 353, 354, 355, 356, 357, 358, 735, 736, 737, 738, 360, 361, 362, 363, 364, 365] (by decide +kernel)
set_option maxRecDepth 20000 in
theorem wsL_in_r12 : ∀ w ∈ wsL_law_r12, w ∈ lw_tbl := posIn _ [366, 367, 125, 739, 740, 741, 742, 618, 368, 369, 370, 371, 372, 373, 374, 375, 743, 744, 745, 746, 376, 377, 378, 379] (by decide +kernel)
set_option maxRecDepth 20000 in
theorem wsL_in_r13 : ∀ w ∈ wsL_law_r13, w ∈ lw_tbl := posIn _ [380, 381, 382, 383, 747, 748, 749, 750, 751, 752, 753, 384, 385, 386, 387, 388, 389, 390, 391, 118, 393, 394, 754, 755] (by decide +kernel)
set_option maxRecDepth 20000 in
theorem wsL_in_r14 : ∀ w ∈ wsL_law_r14, w ∈ lw_tbl := posIn _ [756, 757, 622, 395, 396, 397, 398, 399, 400, 401, 402, 403, 405, 8, 406, 407, 409, 9, 410, 132, 415, 416, 49, 417] (by decide +kernel)
set_option maxRecDepth 20000 in
theorem wsL_in_r15 : ∀ w ∈ wsL_law_r15, w ∈ lw_tbl := posIn _ [411, 413, 10, 414, 758, 759, 760, 761, 762, 764, 31, 765, 766, 768, 32, 769, 418, 419, 420, 421, 422, 423, 424, 425] (by decide +kernel)
set_option maxRecDepth 20000 in
theorem wsL_in_r16 : ∀ w ∈ wsL_law_r16, w ∈ lw_tbl := posIn _ [129, 130, 131, 426, 428, 11, 429, 430, 432, 431, 50, 433, 435, 12, 436, 770, 771, 772, 773, 774, 776, 33, 777, 437] (by decide +kernel)
set_option maxRecDepth 20000 in
theorem wsL_in_r17 : ∀ w ∈ wsL_law_r17, w ∈ lw_tbl := posIn _ [438, 439, 440, 441, 442, 443, 444, 778, 779, 780, 781, 445, 446, 447, 448, 449, 450, 451, 452, 177, 782, 783, 784, 785] (by decide +kernel)
set_option maxRecDepth 20000 in
theorem wsL_in_r18 : ∀ w ∈ wsL_law_r18, w ∈ lw_tbl := posIn _ [623, 453, 454, 455, 456, 457, 458, 459, 460, 461, 463, 13, 464, 466, 468, 14, 469, 186, 470, 472, 15, 473, 786, 787] (by decide +kernel)
set_option maxRecDepth 20000 in
theorem wsL_in_r19 : ∀ w ∈ wsL_law_r19, w ∈ lw_tbl := posIn _ [788, 789, 626, 790, 792, 34, 793, 474, 475, 476, 477, 478, 479, 480, 481, 482, 484, 16, 485, 486, 488, 17, 489, 794] (by decide +kernel)
set_option maxRecDepth 20000 in
theorem wsL_in_r20 : ∀ w ∈ wsL_law_r20, w ∈ lw_tbl := posIn _ [795, 796, 797, 798, 800, 35, 801, 802, 804, 36, 805, 806, 808, 37, 809, 490, 491, 492, 493, 494, 495, 496, 497, 498] (by decide +kernel)
set_option maxRecDepth 20000 in
theorem wsL_in_r21 : ∀ w ∈ wsL_law_r21, w ∈ lw_tbl := posIn _ [500, 18, 501, 810, 811, 812, 813, 814, 816, 38, 817, 503, 504, 505, 506, 507, 508, 509, 510, 188, 511, 513, 19, 514] (by decide +kernel)
set_option maxRecDepth 20000 in
theorem wsL_in_r22 : ∀ w ∈ wsL_law_r22, w ∈ lw_tbl := posIn _ [515, 517, 20, 518, 519, 521, 21, 522, 818, 819, 820, 821, 628, 822, 824, 39, 825, 523, 524, 525, 526, 527, 528, 529] (by decide +kernel)
set_option maxRecDepth 20000 in
theorem wsL_in_r23 : ∀ w ∈ wsL_law_r23, w ∈ lw_tbl := posIn _ [530, 826, 827, 828, 829, 531, 532, 533, 534, 535, 536, 537, 538, 539, 541, 22, 542, 830, 831, 832, 833, 543, 544, 545] (by decide +kernel)
set_option maxRecDepth 20000 in
theorem wsL_in_r24 : ∀ w ∈ wsL_law_r24, w ∈ lw_tbl := posIn _ [546, 547, 548, 549, 550, 221, 834, 835, 836, 837, 629, 551, 552, 553, 554, 555, 556, 557, 558, 227, 559, 561, 23, 562] (by decide +kernel)
set_option maxRecDepth 20000 in
theorem wsL_in_r25 : ∀ w ∈ wsL_law_r25, w ∈ lw_tbl := posIn _ [838, 839, 840, 841, 630, 842, 844, 40, 845, 846, 847, 848, 565, 566, 567, 568, 569, 570, 571, 572, 573, 575, 24, 576] (by decide +kernel)
set_option maxRecDepth 20000 in
theorem wsL_in_r26 : ∀ w ∈ wsL_law_r26, w ∈ lw_tbl := posIn _ [577, 579, 25, 580, 581, 583, 26, 584, 849, 850, 851, 852, 853, 855, 41, 856, 585, 586, 587, 588, 589, 590, 591, 592] (by decide +kernel)
set_option maxRecDepth 20000 in
theorem wsL_in_r27 : ∀ w ∈ wsL_law_r27, w ∈ lw_tbl := posIn _ [857, 858, 859, 860, 593, 594, 595, 596, 597, 598, 599, 600, 861, 862, 863, 864, 601, 602, 603, 604, 865, 866, 867, 868] (by decide +kernel)
set_option maxRecDepth 20000 in
theorem wsL_in_X4 : ∀ w ∈ wsX40, w ∈ lw_tbl := posIn _ [246, 248, 250, 252] (by decide +kernel)
set_option maxRecDepth 20000 in
theorem wsL_in_X5 : ∀ w ∈ wsX50, w ∈ lw_tbl := posIn _ [635, 637, 639, 641, 643, 645, 647, 649, 651, 653, 655, 657, 659, 661, 663, 665, 667, 669, 671, 673, 675, 677, 679, 681] (by decide +kernel)
set_option maxRecDepth 20000 in
theorem wsL_in_X3 : ∀ w ∈ wsX30, w ∈ lw_tbl := posIn _ [80, 82, 84, 86, 88, 90, 92, 94, 96, 98, 100, 102, 104] (by decide +kernel)
set_option maxRecDepth 20000 in
theorem wsL_in_X1 : ∀ w ∈ wsX10, w ∈ lw_tbl := posIn _ [133, 135, 137, 139, 141, 143, 145, 147, 149, 151, 153, 155, 157, 159, 161, 163] (by decide +kernel)
set_option maxRecDepth 20000 in
theorem wsL_in_X2 : ∀ w ∈ wsX20, w ∈ lw_tbl := posIn _ [190, 192, 194, 196, 198, 200, 202, 204, 206, 208, 210, 212] (by decide +kernel)
set_option maxRecDepth 20000 in
theorem wsL_in_X0 : ∀ w ∈ wsX00, w ∈ lw_tbl := posIn _ [229, 231, 233, 235, 237, 239] (by decide +kernel)
theorem wsL_law_in : ∀ w ∈ wsL_law, w ∈ lw_tbl := by
  show ∀ w ∈ (wsL_law_r1 ++ _) ++ _ ++ _ ++ _ ++ _ ++ _ ++ _ ++ _, w ∈ lw_tbl
  exact List.forall_mem_append.mpr ⟨List.forall_mem_append.mpr ⟨List.forall_mem_append.mpr ⟨List.forall_mem_append.mpr ⟨List.forall_mem_append.mpr ⟨List.forall_mem_append.mpr ⟨List.forall_mem_append.mpr ⟨List.forall_mem_append.mpr ⟨wsL_in_r1, List.forall_mem_append.mpr ⟨wsL_in_r2, List.forall_mem_append.mpr ⟨wsL_in_r3, List.forall_mem_append.mpr ⟨wsL_in_r4, List.forall_mem_append.mpr ⟨wsL_in_r5, List.forall_mem_append.mpr ⟨wsL_in_r6, List.forall_mem_append.mpr ⟨wsL_in_r7, List.forall_mem_append.mpr ⟨wsL_in_r8, List.forall_mem_append.mpr ⟨wsL_in_r9, List.forall_mem_append.mpr ⟨wsL_in_r10, List.forall_mem_append.mpr ⟨wsL_in_r11, List.forall_mem_append.mpr ⟨wsL_in_r12, List.forall_mem_append.mpr ⟨wsL_in_r13, List.forall_mem_append.mpr ⟨wsL_in_r14, List.forall_mem_append.mpr ⟨wsL_in_r15, List.forall_mem_append.mpr ⟨wsL_in_r16, List.forall_mem_append.mpr ⟨wsL_in_r17, List.forall_mem_append.mpr ⟨wsL_in_r18, List.forall_mem_append.mpr ⟨wsL_in_r19, List.forall_mem_append.mpr ⟨wsL_in_r20, List.forall_mem_append.mpr ⟨wsL_in_r21, List.forall_mem_append.mpr ⟨wsL_in_r22, List.forall_mem_append.mpr ⟨wsL_in_r23, List.forall_mem_append.mpr ⟨wsL_in_r24, List.forall_mem_append.mpr ⟨wsL_in_r25, List.forall_mem_append.mpr ⟨wsL_in_r26, wsL_in_r27⟩⟩⟩⟩⟩⟩⟩⟩⟩⟩⟩⟩⟩⟩⟩⟩⟩⟩⟩⟩⟩⟩⟩⟩⟩⟩, wsL_in_X4⟩, wsL_in_X5⟩, wsL_in_X3⟩, wsL_in_X1⟩, wsL_in_X2⟩, wsL_in_X0⟩, fun _ h => absurd h List.not_mem_nil⟩
theorem inlX0 : ∀ w ∈ wsX00, w ∈ wsL_law := fun _ h => List.mem_append_left _ (List.mem_append_right _ h)
theorem inX0 : ∀ w ∈ wsX00, w ∈ lw_tbl := fun w h => wsL_law_in w (inlX0 w h)
theorem inlX1 : ∀ w ∈ wsX10, w ∈ wsL_law := fun _ h => List.mem_append_left _ (List.mem_append_left _ (List.mem_append_left _ (List.mem_append_right _ h)))
theorem inX1 : ∀ w ∈ wsX10, w ∈ lw_tbl := fun w h => wsL_law_in w (inlX1 w h)
theorem inlX2 : ∀ w ∈ wsX20, w ∈ wsL_law := fun _ h => List.mem_append_left _ (List.mem_append_left _ (List.mem_append_right _ h))
theorem inX2 : ∀ w ∈ wsX20, w ∈ lw_tbl := fun w h => wsL_law_in w (inlX2 w h)
theorem inlX3 : ∀ w ∈ wsX30, w ∈ wsL_law := fun _ h => List.mem_append_left _ (List.mem_append_left _ (List.mem_append_left _ (List.mem_append_left _ (List.mem_append_right _ h))))
theorem inX3 : ∀ w ∈ wsX30, w ∈ lw_tbl := fun w h => wsL_law_in w (inlX3 w h)
theorem inlX4 : ∀ w ∈ wsX40, w ∈ wsL_law := fun _ h => List.mem_append_left _ (List.mem_append_left _ (List.mem_append_left _ (List.mem_append_left _ (List.mem_append_left _ (List.mem_append_left _ (List.mem_append_right _ h))))))
theorem inX4 : ∀ w ∈ wsX40, w ∈ lw_tbl := fun w h => wsL_law_in w (inlX4 w h)
theorem inlX5 : ∀ w ∈ wsX50, w ∈ wsL_law := fun _ h => List.mem_append_left _ (List.mem_append_left _ (List.mem_append_left _ (List.mem_append_left _ (List.mem_append_left _ (List.mem_append_right _ h)))))
theorem inX5 : ∀ w ∈ wsX50, w ∈ lw_tbl := fun w h => wsL_law_in w (inlX5 w h)
theorem inJ9 : ∀ w ∈ wsJ90, w ∈ lw_tbl := by decide +kernel
theorem inJ10 : ∀ w ∈ wsJ100, w ∈ lw_tbl := by decide +kernel
/-! ===== END ===== -/
abbrev vwCl : List vw_C := [(RX0, TX0, 6), (RX1, TX1, 16), (RX2, TX2, 12), (RX3, TX3, 13), (RX4, TX4, 4), (RX5, TX5, 24)]
end
section
theorem dX0_init_0 : decode cX0_init 0 = .ok (.aload_n 0, 1) := by decide +kernel
theorem dX0_init_1 : decode cX0_init 1 = .ok (.invokespecial 3, 3) := by decide +kernel
theorem dX0_init_4 : decode cX0_init 4 = .ok (.aload_n 0, 1) := by decide +kernel
theorem dX0_init_5 : decode cX0_init 5 = .ok (.bipush 60, 2) := by decide +kernel
theorem dX0_init_7 : decode cX0_init 7 = .ok (.newarray .int, 2) := by decide +kernel
theorem dX0_init_9 : decode cX0_init 9 = .ok (.putfield 11, 3) := by decide +kernel
theorem dX0_init_12 : decode cX0_init 12 = .ok (.aload_n 0, 1) := by decide +kernel
theorem dX0_init_13 : decode cX0_init 13 = .ok (.bipush 60, 2) := by decide +kernel
theorem dX0_init_15 : decode cX0_init 15 = .ok (.newarray .int, 2) := by decide +kernel
theorem dX0_init_17 : decode cX0_init 17 = .ok (.putfield 15, 3) := by decide +kernel
theorem dX0_init_20 : decode cX0_init 20 = .ok (.aload_n 0, 1) := by decide +kernel
theorem dX0_init_21 : decode cX0_init 21 = .ok (.bipush 60, 2) := by decide +kernel
theorem dX0_init_23 : decode cX0_init 23 = .ok (.newarray .int, 2) := by decide +kernel
theorem dX0_init_25 : decode cX0_init 25 = .ok (.putfield 18, 3) := by decide +kernel
theorem dX0_init_28 : decode cX0_init 28 = .ok (.aload_n 0, 1) := by decide +kernel
theorem dX0_init_29 : decode cX0_init 29 = .ok (.bipush 60, 2) := by decide +kernel
theorem dX0_init_31 : decode cX0_init 31 = .ok (.newarray .int, 2) := by decide +kernel
theorem dX0_init_33 : decode cX0_init 33 = .ok (.putfield 21, 3) := by decide +kernel
theorem dX0_init_36 : decode cX0_init 36 = .ok (.return_, 1) := by decide +kernel
theorem dX0_addFigure_0 : decode cX0_addFigure 0 = .ok (.aload_n 0, 1) := by decide +kernel
theorem dX0_addFigure_1 : decode cX0_addFigure 1 = .ok (.getfield 24, 3) := by decide +kernel
theorem dX0_addFigure_4 : decode cX0_addFigure 4 = .ok (.bipush 12, 2) := by decide +kernel
theorem dX0_addFigure_6 : decode cX0_addFigure 6 = .ok (.if_icmp .lt 6, 3) := by decide +kernel
theorem dX0_addFigure_9 : decode cX0_addFigure 9 = .ok (.bipush (-4), 2) := by decide +kernel
theorem dX0_addFigure_11 : decode cX0_addFigure 11 = .ok (.ireturn, 1) := by decide +kernel
theorem dX0_addFigure_12 : decode cX0_addFigure 12 = .ok (.aload_n 0, 1) := by decide +kernel
theorem dX0_addFigure_13 : decode cX0_addFigure 13 = .ok (.dup, 1) := by decide +kernel
theorem dX0_addFigure_14 : decode cX0_addFigure 14 = .ok (.getfield 24, 3) := by decide +kernel
theorem dX0_addFigure_17 : decode cX0_addFigure 17 = .ok (.iconst 1, 1) := by decide +kernel
theorem dX0_addFigure_18 : decode cX0_addFigure 18 = .ok (.iadd, 1) := by decide +kernel
theorem dX0_addFigure_19 : decode cX0_addFigure 19 = .ok (.putfield 24, 3) := by decide +kernel
theorem dX0_addFigure_22 : decode cX0_addFigure 22 = .ok (.aload_n 0, 1) := by decide +kernel
theorem dX0_addFigure_23 : decode cX0_addFigure 23 = .ok (.getfield 24, 3) := by decide +kernel
theorem dX0_addFigure_26 : decode cX0_addFigure 26 = .ok (.iconst 1, 1) := by decide +kernel
theorem dX0_addFigure_27 : decode cX0_addFigure 27 = .ok (.isub, 1) := by decide +kernel
theorem dX0_addFigure_28 : decode cX0_addFigure 28 = .ok (.ireturn, 1) := by decide +kernel
set_option maxRecDepth 20000 in
theorem ggX0_addNote_X0_isFigure : GoodIn wsX0_addNote wsX0_isFigure := goodIn_r _ [10, 11, 12, 13, 14, 18, 19, 20, 21, 22, 23] (by decide +kernel) (by decide +kernel)
set_option maxRecDepth 20000 in
theorem gX0_addNote_X0_isFigure : GoodIn wsX0_addNote (wsV RX0 28 RX0 yX0_isFigure wsX0_isFigure) := goodIn_app (goodIn_of _ (by decide +kernel)) ggX0_addNote_X0_isFigure
set_option maxRecDepth 20000 in
theorem ggX0_addNote_X4_isDay : GoodIn wsX0_addNote wsX4_isDay := goodIn_r _ [16, 17, 12, 13, 14] (by decide +kernel) (by decide +kernel)
set_option maxRecDepth 20000 in
theorem gX0_addNote_X4_isDay_n32 : GoodIn wsX0_addNote (wsX4_isDay) := ggX0_addNote_X4_isDay
set_option maxRecDepth 20000 in
theorem ggX0_addNote_X4_isWithin : GoodIn wsX0_addNote wsX4_isWithin := goodIn_r _ [14] (by decide +kernel) (by decide +kernel)
set_option maxRecDepth 20000 in
theorem gX0_addNote_X4_isWithin_n35 : GoodIn wsX0_addNote (wsX4_isWithin) := ggX0_addNote_X4_isWithin
theorem dX0_addNote_0 : decode cX0_addNote 0 = .ok (.aload_n 0, 1) := by decide +kernel
theorem dX0_addNote_1 : decode cX0_addNote 1 = .ok (.iload_n 1, 1) := by decide +kernel
theorem dX0_addNote_2 : decode cX0_addNote 2 = .ok (.invokevirtual 28, 3) := by decide +kernel
theorem dX0_addNote_5 : decode cX0_addNote 5 = .ok (.ifCond .ne 5, 3) := by decide +kernel
theorem dX0_addNote_8 : decode cX0_addNote 8 = .ok (.iconst (-1), 1) := by decide +kernel
theorem dX0_addNote_9 : decode cX0_addNote 9 = .ok (.ireturn, 1) := by decide +kernel
theorem dX0_addNote_10 : decode cX0_addNote 10 = .ok (.iload_n 2, 1) := by decide +kernel
theorem dX0_addNote_11 : decode cX0_addNote 11 = .ok (.invokestatic 32, 3) := by decide +kernel
theorem dX0_addNote_14 : decode cX0_addNote 14 = .ok (.ifCond .eq 21, 3) := by decide +kernel
theorem dX0_addNote_17 : decode cX0_addNote 17 = .ok (.iload_n 3, 1) := by decide +kernel
theorem dX0_addNote_18 : decode cX0_addNote 18 = .ok (.invokestatic 32, 3) := by decide +kernel
theorem dX0_addNote_21 : decode cX0_addNote 21 = .ok (.ifCond .eq 14, 3) := by decide +kernel
theorem dX0_addNote_24 : decode cX0_addNote 24 = .ok (.iload 4, 2) := by decide +kernel
theorem dX0_addNote_26 : decode cX0_addNote 26 = .ok (.iconst (-1), 1) := by decide +kernel
theorem dX0_addNote_27 : decode cX0_addNote 27 = .ok (.bipush 99, 2) := by decide +kernel
theorem dX0_addNote_29 : decode cX0_addNote 29 = .ok (.invokestatic 35, 3) := by decide +kernel
theorem dX0_addNote_32 : decode cX0_addNote 32 = .ok (.ifCond .ne 6, 3) := by decide +kernel
theorem dX0_addNote_35 : decode cX0_addNote 35 = .ok (.bipush (-2), 2) := by decide +kernel
theorem dX0_addNote_37 : decode cX0_addNote 37 = .ok (.ireturn, 1) := by decide +kernel
theorem dX0_addNote_38 : decode cX0_addNote 38 = .ok (.aload_n 0, 1) := by decide +kernel
theorem dX0_addNote_39 : decode cX0_addNote 39 = .ok (.getfield 39, 3) := by decide +kernel
theorem dX0_addNote_42 : decode cX0_addNote 42 = .ok (.bipush 60, 2) := by decide +kernel
theorem dX0_addNote_44 : decode cX0_addNote 44 = .ok (.if_icmp .lt 6, 3) := by decide +kernel
theorem dX0_addNote_47 : decode cX0_addNote 47 = .ok (.bipush (-4), 2) := by decide +kernel
theorem dX0_addNote_49 : decode cX0_addNote 49 = .ok (.ireturn, 1) := by decide +kernel
theorem dX0_addNote_50 : decode cX0_addNote 50 = .ok (.iload_n 2, 1) := by decide +kernel
theorem dX0_addNote_51 : decode cX0_addNote 51 = .ok (.iload_n 3, 1) := by decide +kernel
theorem dX0_addNote_52 : decode cX0_addNote 52 = .ok (.if_icmp .gt 25, 3) := by decide +kernel
theorem dX0_addNote_55 : decode cX0_addNote 55 = .ok (.aload_n 0, 1) := by decide +kernel
theorem dX0_addNote_56 : decode cX0_addNote 56 = .ok (.getfield 39, 3) := by decide +kernel
theorem dX0_addNote_59 : decode cX0_addNote 59 = .ok (.ifCond .le 21, 3) := by decide +kernel
theorem dX0_addNote_62 : decode cX0_addNote 62 = .ok (.iload_n 3, 1) := by decide +kernel
theorem dX0_addNote_63 : decode cX0_addNote 63 = .ok (.aload_n 0, 1) := by decide +kernel
theorem dX0_addNote_64 : decode cX0_addNote 64 = .ok (.getfield 18, 3) := by decide +kernel
theorem dX0_addNote_67 : decode cX0_addNote 67 = .ok (.aload_n 0, 1) := by decide +kernel
theorem dX0_addNote_68 : decode cX0_addNote 68 = .ok (.getfield 39, 3) := by decide +kernel
theorem dX0_addNote_71 : decode cX0_addNote 71 = .ok (.iconst 1, 1) := by decide +kernel
theorem dX0_addNote_72 : decode cX0_addNote 72 = .ok (.isub, 1) := by decide +kernel
theorem dX0_addNote_73 : decode cX0_addNote 73 = .ok (.iaload, 1) := by decide +kernel
theorem dX0_addNote_74 : decode cX0_addNote 74 = .ok (.if_icmp .ge 6, 3) := by decide +kernel
theorem dX0_addNote_77 : decode cX0_addNote 77 = .ok (.bipush (-5), 2) := by decide +kernel
theorem dX0_addNote_79 : decode cX0_addNote 79 = .ok (.ireturn, 1) := by decide +kernel
theorem dX0_addNote_80 : decode cX0_addNote 80 = .ok (.aload_n 0, 1) := by decide +kernel
theorem dX0_addNote_81 : decode cX0_addNote 81 = .ok (.getfield 11, 3) := by decide +kernel
theorem dX0_addNote_84 : decode cX0_addNote 84 = .ok (.aload_n 0, 1) := by decide +kernel
theorem dX0_addNote_85 : decode cX0_addNote 85 = .ok (.getfield 39, 3) := by decide +kernel
theorem dX0_addNote_88 : decode cX0_addNote 88 = .ok (.iload_n 1, 1) := by decide +kernel
theorem dX0_addNote_89 : decode cX0_addNote 89 = .ok (.iastore, 1) := by decide +kernel
theorem dX0_addNote_90 : decode cX0_addNote 90 = .ok (.aload_n 0, 1) := by decide +kernel
theorem dX0_addNote_91 : decode cX0_addNote 91 = .ok (.getfield 15, 3) := by decide +kernel
theorem dX0_addNote_94 : decode cX0_addNote 94 = .ok (.aload_n 0, 1) := by decide +kernel
theorem dX0_addNote_95 : decode cX0_addNote 95 = .ok (.getfield 39, 3) := by decide +kernel
theorem dX0_addNote_98 : decode cX0_addNote 98 = .ok (.iload_n 2, 1) := by decide +kernel
theorem dX0_addNote_99 : decode cX0_addNote 99 = .ok (.iastore, 1) := by decide +kernel
theorem dX0_addNote_100 : decode cX0_addNote 100 = .ok (.aload_n 0, 1) := by decide +kernel
theorem dX0_addNote_101 : decode cX0_addNote 101 = .ok (.getfield 18, 3) := by decide +kernel
theorem dX0_addNote_104 : decode cX0_addNote 104 = .ok (.aload_n 0, 1) := by decide +kernel
theorem dX0_addNote_105 : decode cX0_addNote 105 = .ok (.getfield 39, 3) := by decide +kernel
theorem dX0_addNote_108 : decode cX0_addNote 108 = .ok (.iload_n 3, 1) := by decide +kernel
theorem dX0_addNote_109 : decode cX0_addNote 109 = .ok (.iastore, 1) := by decide +kernel
theorem dX0_addNote_110 : decode cX0_addNote 110 = .ok (.aload_n 0, 1) := by decide +kernel
theorem dX0_addNote_111 : decode cX0_addNote 111 = .ok (.getfield 21, 3) := by decide +kernel
theorem dX0_addNote_114 : decode cX0_addNote 114 = .ok (.aload_n 0, 1) := by decide +kernel
theorem dX0_addNote_115 : decode cX0_addNote 115 = .ok (.getfield 39, 3) := by decide +kernel
theorem dX0_addNote_118 : decode cX0_addNote 118 = .ok (.iload 4, 2) := by decide +kernel
theorem dX0_addNote_120 : decode cX0_addNote 120 = .ok (.iastore, 1) := by decide +kernel
theorem dX0_addNote_121 : decode cX0_addNote 121 = .ok (.aload_n 0, 1) := by decide +kernel
theorem dX0_addNote_122 : decode cX0_addNote 122 = .ok (.dup, 1) := by decide +kernel
theorem dX0_addNote_123 : decode cX0_addNote 123 = .ok (.getfield 39, 3) := by decide +kernel
theorem dX0_addNote_126 : decode cX0_addNote 126 = .ok (.iconst 1, 1) := by decide +kernel
theorem dX0_addNote_127 : decode cX0_addNote 127 = .ok (.iadd, 1) := by decide +kernel
theorem dX0_addNote_128 : decode cX0_addNote 128 = .ok (.putfield 39, 3) := by decide +kernel
theorem dX0_addNote_131 : decode cX0_addNote 131 = .ok (.aload_n 0, 1) := by decide +kernel
theorem dX0_addNote_132 : decode cX0_addNote 132 = .ok (.getfield 39, 3) := by decide +kernel
theorem dX0_addNote_135 : decode cX0_addNote 135 = .ok (.ireturn, 1) := by decide +kernel
set_option maxRecDepth 20000 in
theorem ggX0_whereIs_X0_isFigure : GoodIn wsX0_whereIs wsX0_isFigure := goodIn_r _ [5, 6, 7, 8, 9, 30, 31, 32, 33, 34, 35] (by decide +kernel) (by decide +kernel)
set_option maxRecDepth 20000 in
theorem gX0_whereIs_X0_isFigure : GoodIn wsX0_whereIs (wsV RX0 28 RX0 yX0_isFigure wsX0_isFigure) := goodIn_app (goodIn_of _ (by decide +kernel)) ggX0_whereIs_X0_isFigure
set_option maxRecDepth 20000 in
theorem ggX0_whereIs_X4_isDay : GoodIn wsX0_whereIs wsX4_isDay := goodIn_r _ [11, 12, 7, 8, 9] (by decide +kernel) (by decide +kernel)
set_option maxRecDepth 20000 in
theorem gX0_whereIs_X4_isDay_n32 : GoodIn wsX0_whereIs (wsX4_isDay) := ggX0_whereIs_X4_isDay
set_option maxRecDepth 20000 in
theorem ggX0_whereIs_X0_placeOn : GoodIn wsX0_whereIs wsX0_placeOn := goodIn_r _ [16, 17, 18, 19, 20, 21, 22, 4, 23, 24, 25, 26, 27, 28, 29, 30, 31, 32, 33, 34, 35] (by decide +kernel) (by decide +kernel)
set_option maxRecDepth 20000 in
theorem gX0_whereIs_X0_placeOn : GoodIn wsX0_whereIs (wsV RX0 42 RX0 yX0_placeOn wsX0_placeOn) := goodIn_app (goodIn_of _ (by decide +kernel)) ggX0_whereIs_X0_placeOn
theorem dX0_whereIs_0 : decode cX0_whereIs 0 = .ok (.aload_n 0, 1) := by decide +kernel
theorem dX0_whereIs_1 : decode cX0_whereIs 1 = .ok (.iload_n 1, 1) := by decide +kernel
theorem dX0_whereIs_2 : decode cX0_whereIs 2 = .ok (.invokevirtual 28, 3) := by decide +kernel
theorem dX0_whereIs_5 : decode cX0_whereIs 5 = .ok (.ifCond .ne 6, 3) := by decide +kernel
theorem dX0_whereIs_8 : decode cX0_whereIs 8 = .ok (.bipush (-101), 2) := by decide +kernel
theorem dX0_whereIs_10 : decode cX0_whereIs 10 = .ok (.ireturn, 1) := by decide +kernel
theorem dX0_whereIs_11 : decode cX0_whereIs 11 = .ok (.iload_n 2, 1) := by decide +kernel
theorem dX0_whereIs_12 : decode cX0_whereIs 12 = .ok (.invokestatic 32, 3) := by decide +kernel
theorem dX0_whereIs_15 : decode cX0_whereIs 15 = .ok (.ifCond .eq 10, 3) := by decide +kernel
theorem dX0_whereIs_18 : decode cX0_whereIs 18 = .ok (.iload_n 3, 1) := by decide +kernel
theorem dX0_whereIs_19 : decode cX0_whereIs 19 = .ok (.invokestatic 32, 3) := by decide +kernel
theorem dX0_whereIs_22 : decode cX0_whereIs 22 = .ok (.ifCond .ne 6, 3) := by decide +kernel
theorem dX0_whereIs_25 : decode cX0_whereIs 25 = .ok (.bipush (-102), 2) := by decide +kernel
theorem dX0_whereIs_27 : decode cX0_whereIs 27 = .ok (.ireturn, 1) := by decide +kernel
theorem dX0_whereIs_28 : decode cX0_whereIs 28 = .ok (.aload_n 0, 1) := by decide +kernel
theorem dX0_whereIs_29 : decode cX0_whereIs 29 = .ok (.iload_n 1, 1) := by decide +kernel
theorem dX0_whereIs_30 : decode cX0_whereIs 30 = .ok (.iload_n 2, 1) := by decide +kernel
theorem dX0_whereIs_31 : decode cX0_whereIs 31 = .ok (.iload_n 3, 1) := by decide +kernel
theorem dX0_whereIs_32 : decode cX0_whereIs 32 = .ok (.invokevirtual 42, 3) := by decide +kernel
theorem dX0_whereIs_35 : decode cX0_whereIs 35 = .ok (.ireturn, 1) := by decide +kernel
set_option maxRecDepth 20000 in
theorem ggX0_figuresAt_X4_isWithin : GoodIn wsX0_figuresAt wsX4_isWithin := goodIn_r _ [4] (by decide +kernel) (by decide +kernel)
set_option maxRecDepth 20000 in
theorem gX0_figuresAt_X4_isWithin_n35 : GoodIn wsX0_figuresAt (wsX4_isWithin) := ggX0_figuresAt_X4_isWithin
set_option maxRecDepth 20000 in
theorem ggX0_figuresAt_X4_isDay : GoodIn wsX0_figuresAt wsX4_isDay := goodIn_r _ [6, 7, 2, 3, 4] (by decide +kernel) (by decide +kernel)
set_option maxRecDepth 20000 in
theorem gX0_figuresAt_X4_isDay_n32 : GoodIn wsX0_figuresAt (wsX4_isDay) := ggX0_figuresAt_X4_isDay
set_option maxRecDepth 20000 in
theorem ggX0_figuresAt_X0_placeOn : GoodIn wsX0_figuresAt wsX0_placeOn := goodIn_r _ [12, 13, 14, 15, 16, 17, 18, 11, 19, 20, 21, 22, 23, 24, 25, 26, 27, 28, 29, 30, 31] (by decide +kernel) (by decide +kernel)
set_option maxRecDepth 20000 in
theorem gX0_figuresAt_X0_placeOn : GoodIn wsX0_figuresAt (wsV RX0 42 RX0 yX0_placeOn wsX0_placeOn) := goodIn_app (goodIn_of _ (by decide +kernel)) ggX0_figuresAt_X0_placeOn
theorem dX0_figuresAt_0 : decode cX0_figuresAt 0 = .ok (.iload_n 1, 1) := by decide +kernel
theorem dX0_figuresAt_1 : decode cX0_figuresAt 1 = .ok (.iconst (-1), 1) := by decide +kernel
theorem dX0_figuresAt_2 : decode cX0_figuresAt 2 = .ok (.bipush 99, 2) := by decide +kernel
theorem dX0_figuresAt_4 : decode cX0_figuresAt 4 = .ok (.invokestatic 35, 3) := by decide +kernel
theorem dX0_figuresAt_7 : decode cX0_figuresAt 7 = .ok (.ifCond .eq 17, 3) := by decide +kernel
theorem dX0_figuresAt_10 : decode cX0_figuresAt 10 = .ok (.iload_n 2, 1) := by decide +kernel
theorem dX0_figuresAt_11 : decode cX0_figuresAt 11 = .ok (.invokestatic 32, 3) := by decide +kernel
theorem dX0_figuresAt_14 : decode cX0_figuresAt 14 = .ok (.ifCond .eq 10, 3) := by decide +kernel
theorem dX0_figuresAt_17 : decode cX0_figuresAt 17 = .ok (.iload_n 3, 1) := by decide +kernel
theorem dX0_figuresAt_18 : decode cX0_figuresAt 18 = .ok (.invokestatic 32, 3) := by decide +kernel
theorem dX0_figuresAt_21 : decode cX0_figuresAt 21 = .ok (.ifCond .ne 6, 3) := by decide +kernel
theorem dX0_figuresAt_24 : decode cX0_figuresAt 24 = .ok (.bipush (-2), 2) := by decide +kernel
theorem dX0_figuresAt_26 : decode cX0_figuresAt 26 = .ok (.ireturn, 1) := by decide +kernel
theorem dX0_figuresAt_27 : decode cX0_figuresAt 27 = .ok (.iconst 0, 1) := by decide +kernel
theorem dX0_figuresAt_28 : decode cX0_figuresAt 28 = .ok (.istore 4, 2) := by decide +kernel
theorem dX0_figuresAt_30 : decode cX0_figuresAt 30 = .ok (.iconst 0, 1) := by decide +kernel
theorem dX0_figuresAt_31 : decode cX0_figuresAt 31 = .ok (.istore 5, 2) := by decide +kernel
theorem dX0_figuresAt_33 : decode cX0_figuresAt 33 = .ok (.iload 5, 2) := by decide +kernel
theorem dX0_figuresAt_35 : decode cX0_figuresAt 35 = .ok (.aload_n 0, 1) := by decide +kernel
theorem dX0_figuresAt_36 : decode cX0_figuresAt 36 = .ok (.getfield 24, 3) := by decide +kernel
theorem dX0_figuresAt_39 : decode cX0_figuresAt 39 = .ok (.if_icmp .ge 30, 3) := by decide +kernel
theorem dX0_figuresAt_42 : decode cX0_figuresAt 42 = .ok (.aload_n 0, 1) := by decide +kernel
theorem dX0_figuresAt_43 : decode cX0_figuresAt 43 = .ok (.iload 5, 2) := by decide +kernel
theorem dX0_figuresAt_45 : decode cX0_figuresAt 45 = .ok (.iload_n 2, 1) := by decide +kernel
theorem dX0_figuresAt_46 : decode cX0_figuresAt 46 = .ok (.iload_n 3, 1) := by decide +kernel
theorem dX0_figuresAt_47 : decode cX0_figuresAt 47 = .ok (.invokevirtual 42, 3) := by decide +kernel
theorem dX0_figuresAt_50 : decode cX0_figuresAt 50 = .ok (.iload_n 1, 1) := by decide +kernel
theorem dX0_figuresAt_51 : decode cX0_figuresAt 51 = .ok (.if_icmp .ne 12, 3) := by decide +kernel
theorem dX0_figuresAt_54 : decode cX0_figuresAt 54 = .ok (.iload 4, 2) := by decide +kernel
theorem dX0_figuresAt_56 : decode cX0_figuresAt 56 = .ok (.iconst 1, 1) := by decide +kernel
theorem dX0_figuresAt_57 : decode cX0_figuresAt 57 = .ok (.iload 5, 2) := by decide +kernel
theorem dX0_figuresAt_59 : decode cX0_figuresAt 59 = .ok (.ishl, 1) := by decide +kernel
theorem dX0_figuresAt_60 : decode cX0_figuresAt 60 = .ok (.ior, 1) := by decide +kernel
theorem dX0_figuresAt_61 : decode cX0_figuresAt 61 = .ok (.istore 4, 2) := by decide +kernel
theorem dX0_figuresAt_63 : decode cX0_figuresAt 63 = .ok (.iinc 5 1, 3) := by decide +kernel
theorem dX0_figuresAt_66 : decode cX0_figuresAt 66 = .ok (.goto (-33), 3) := by decide +kernel
theorem dX0_figuresAt_69 : decode cX0_figuresAt 69 = .ok (.iload 4, 2) := by decide +kernel
theorem dX0_figuresAt_71 : decode cX0_figuresAt 71 = .ok (.ireturn, 1) := by decide +kernel
set_option maxRecDepth 20000 in
theorem ggX0_turnsOf_X0_isFigure : GoodIn wsX0_turnsOf wsX0_isFigure := goodIn_r _ [7, 8, 9, 10, 11, 25, 26, 27, 28, 29, 30] (by decide +kernel) (by decide +kernel)
set_option maxRecDepth 20000 in
theorem gX0_turnsOf_X0_isFigure : GoodIn wsX0_turnsOf (wsV RX0 28 RX0 yX0_isFigure wsX0_isFigure) := goodIn_app (goodIn_of _ (by decide +kernel)) ggX0_turnsOf_X0_isFigure
set_option maxRecDepth 20000 in
theorem ggX0_turnsOf_X4_isDay : GoodIn wsX0_turnsOf wsX4_isDay := goodIn_r _ [13, 14, 9, 10, 11] (by decide +kernel) (by decide +kernel)
set_option maxRecDepth 20000 in
theorem gX0_turnsOf_X4_isDay_n32 : GoodIn wsX0_turnsOf (wsX4_isDay) := ggX0_turnsOf_X4_isDay
set_option maxRecDepth 20000 in
theorem ggX0_turnsOf_X0_tellsOf : GoodIn wsX0_turnsOf wsX0_tellsOf := goodIn_r _ [18, 19, 20, 25, 26, 27, 28, 29, 30] (by decide +kernel) (by decide +kernel)
set_option maxRecDepth 20000 in
theorem gX0_turnsOf_X0_tellsOf : GoodIn wsX0_turnsOf (wsV RX0 46 RX0 yX0_tellsOf wsX0_tellsOf) := goodIn_app (goodIn_of _ (by decide +kernel)) ggX0_turnsOf_X0_tellsOf
set_option maxRecDepth 20000 in
theorem ggX0_turnsOf_X0_prevails : GoodIn wsX0_turnsOf wsX0_prevails := goodIn_r _ [24, 20, 25, 26, 27, 28, 29, 30] (by decide +kernel) (by decide +kernel)
set_option maxRecDepth 20000 in
theorem gX0_turnsOf_X0_prevails : GoodIn wsX0_turnsOf (wsV RX0 49 RX0 yX0_prevails wsX0_prevails) := goodIn_app (goodIn_of _ (by decide +kernel)) ggX0_turnsOf_X0_prevails
theorem dX0_turnsOf_0 : decode cX0_turnsOf 0 = .ok (.aload_n 0, 1) := by decide +kernel
theorem dX0_turnsOf_1 : decode cX0_turnsOf 1 = .ok (.iload_n 1, 1) := by decide +kernel
theorem dX0_turnsOf_2 : decode cX0_turnsOf 2 = .ok (.invokevirtual 28, 3) := by decide +kernel
theorem dX0_turnsOf_5 : decode cX0_turnsOf 5 = .ok (.ifCond .ne 5, 3) := by decide +kernel
theorem dX0_turnsOf_8 : decode cX0_turnsOf 8 = .ok (.iconst (-1), 1) := by decide +kernel
theorem dX0_turnsOf_9 : decode cX0_turnsOf 9 = .ok (.ireturn, 1) := by decide +kernel
theorem dX0_turnsOf_10 : decode cX0_turnsOf 10 = .ok (.iload_n 2, 1) := by decide +kernel
theorem dX0_turnsOf_11 : decode cX0_turnsOf 11 = .ok (.invokestatic 32, 3) := by decide +kernel
theorem dX0_turnsOf_14 : decode cX0_turnsOf 14 = .ok (.ifCond .ne 6, 3) := by decide +kernel
theorem dX0_turnsOf_17 : decode cX0_turnsOf 17 = .ok (.bipush (-2), 2) := by decide +kernel
theorem dX0_turnsOf_19 : decode cX0_turnsOf 19 = .ok (.ireturn, 1) := by decide +kernel
theorem dX0_turnsOf_20 : decode cX0_turnsOf 20 = .ok (.iconst 0, 1) := by decide +kernel
theorem dX0_turnsOf_21 : decode cX0_turnsOf 21 = .ok (.istore_n 3, 1) := by decide +kernel
theorem dX0_turnsOf_22 : decode cX0_turnsOf 22 = .ok (.bipush (-6), 2) := by decide +kernel
theorem dX0_turnsOf_24 : decode cX0_turnsOf 24 = .ok (.istore 4, 2) := by decide +kernel
theorem dX0_turnsOf_26 : decode cX0_turnsOf 26 = .ok (.iconst 0, 1) := by decide +kernel
theorem dX0_turnsOf_27 : decode cX0_turnsOf 27 = .ok (.istore 5, 2) := by decide +kernel
theorem dX0_turnsOf_29 : decode cX0_turnsOf 29 = .ok (.iload 5, 2) := by decide +kernel
theorem dX0_turnsOf_31 : decode cX0_turnsOf 31 = .ok (.aload_n 0, 1) := by decide +kernel
theorem dX0_turnsOf_32 : decode cX0_turnsOf 32 = .ok (.getfield 39, 3) := by decide +kernel
theorem dX0_turnsOf_35 : decode cX0_turnsOf 35 = .ok (.if_icmp .ge 62, 3) := by decide +kernel
theorem dX0_turnsOf_38 : decode cX0_turnsOf 38 = .ok (.aload_n 0, 1) := by decide +kernel
theorem dX0_turnsOf_39 : decode cX0_turnsOf 39 = .ok (.iload 5, 2) := by decide +kernel
theorem dX0_turnsOf_41 : decode cX0_turnsOf 41 = .ok (.iload_n 1, 1) := by decide +kernel
theorem dX0_turnsOf_42 : decode cX0_turnsOf 42 = .ok (.iload_n 2, 1) := by decide +kernel
theorem dX0_turnsOf_43 : decode cX0_turnsOf 43 = .ok (.invokevirtual 46, 3) := by decide +kernel
theorem dX0_turnsOf_46 : decode cX0_turnsOf 46 = .ok (.ifCond .eq 45, 3) := by decide +kernel
theorem dX0_turnsOf_49 : decode cX0_turnsOf 49 = .ok (.aload_n 0, 1) := by decide +kernel
theorem dX0_turnsOf_50 : decode cX0_turnsOf 50 = .ok (.iload 5, 2) := by decide +kernel
theorem dX0_turnsOf_52 : decode cX0_turnsOf 52 = .ok (.iload 4, 2) := by decide +kernel
theorem dX0_turnsOf_54 : decode cX0_turnsOf 54 = .ok (.invokevirtual 49, 3) := by decide +kernel
theorem dX0_turnsOf_57 : decode cX0_turnsOf 57 = .ok (.ifCond .eq 34, 3) := by decide +kernel
theorem dX0_turnsOf_60 : decode cX0_turnsOf 60 = .ok (.iload 4, 2) := by decide +kernel
theorem dX0_turnsOf_62 : decode cX0_turnsOf 62 = .ok (.bipush (-6), 2) := by decide +kernel
theorem dX0_turnsOf_64 : decode cX0_turnsOf 64 = .ok (.if_icmp .eq 20, 3) := by decide +kernel
theorem dX0_turnsOf_67 : decode cX0_turnsOf 67 = .ok (.aload_n 0, 1) := by decide +kernel
theorem dX0_turnsOf_68 : decode cX0_turnsOf 68 = .ok (.getfield 21, 3) := by decide +kernel
theorem dX0_turnsOf_71 : decode cX0_turnsOf 71 = .ok (.iload 5, 2) := by decide +kernel
theorem dX0_turnsOf_73 : decode cX0_turnsOf 73 = .ok (.iaload, 1) := by decide +kernel
theorem dX0_turnsOf_74 : decode cX0_turnsOf 74 = .ok (.aload_n 0, 1) := by decide +kernel
theorem dX0_turnsOf_75 : decode cX0_turnsOf 75 = .ok (.getfield 21, 3) := by decide +kernel
theorem dX0_turnsOf_78 : decode cX0_turnsOf 78 = .ok (.iload 4, 2) := by decide +kernel
theorem dX0_turnsOf_80 : decode cX0_turnsOf 80 = .ok (.iaload, 1) := by decide +kernel
theorem dX0_turnsOf_81 : decode cX0_turnsOf 81 = .ok (.if_icmp .eq 6, 3) := by decide +kernel
theorem dX0_turnsOf_84 : decode cX0_turnsOf 84 = .ok (.iinc 3 1, 3) := by decide +kernel
theorem dX0_turnsOf_87 : decode cX0_turnsOf 87 = .ok (.iload 5, 2) := by decide +kernel
theorem dX0_turnsOf_89 : decode cX0_turnsOf 89 = .ok (.istore 4, 2) := by decide +kernel
theorem dX0_turnsOf_91 : decode cX0_turnsOf 91 = .ok (.iinc 5 1, 3) := by decide +kernel
theorem dX0_turnsOf_94 : decode cX0_turnsOf 94 = .ok (.goto (-65), 3) := by decide +kernel
theorem dX0_turnsOf_97 : decode cX0_turnsOf 97 = .ok (.iload_n 3, 1) := by decide +kernel
theorem dX0_turnsOf_98 : decode cX0_turnsOf 98 = .ok (.ireturn, 1) := by decide +kernel
set_option maxRecDepth 20000 in
theorem ggX0_isFigure_X4_isWithin : GoodIn wsX0_isFigure wsX4_isWithin := goodIn_r _ [4] (by decide +kernel) (by decide +kernel)
set_option maxRecDepth 20000 in
theorem gX0_isFigure_X4_isWithin_n35 : GoodIn wsX0_isFigure (wsX4_isWithin) := ggX0_isFigure_X4_isWithin
theorem dX0_isFigure_0 : decode cX0_isFigure 0 = .ok (.iload_n 1, 1) := by decide +kernel
theorem dX0_isFigure_1 : decode cX0_isFigure 1 = .ok (.iconst 0, 1) := by decide +kernel
theorem dX0_isFigure_2 : decode cX0_isFigure 2 = .ok (.aload_n 0, 1) := by decide +kernel
theorem dX0_isFigure_3 : decode cX0_isFigure 3 = .ok (.getfield 24, 3) := by decide +kernel
theorem dX0_isFigure_6 : decode cX0_isFigure 6 = .ok (.iconst 1, 1) := by decide +kernel
theorem dX0_isFigure_7 : decode cX0_isFigure 7 = .ok (.isub, 1) := by decide +kernel
theorem dX0_isFigure_8 : decode cX0_isFigure 8 = .ok (.invokestatic 35, 3) := by decide +kernel
theorem dX0_isFigure_11 : decode cX0_isFigure 11 = .ok (.ireturn, 1) := by decide +kernel
set_option maxRecDepth 20000 in
theorem ggX0_placeOn_X0_tellsOf : GoodIn wsX0_placeOn wsX0_tellsOf := goodIn_r _ [8, 9, 10, 15, 16, 17, 18, 19, 20] (by decide +kernel) (by decide +kernel)
set_option maxRecDepth 20000 in
theorem gX0_placeOn_X0_tellsOf : GoodIn wsX0_placeOn (wsV RX0 46 RX0 yX0_tellsOf wsX0_tellsOf) := goodIn_app (goodIn_of _ (by decide +kernel)) ggX0_placeOn_X0_tellsOf
set_option maxRecDepth 20000 in
theorem ggX0_placeOn_X0_prevails : GoodIn wsX0_placeOn wsX0_prevails := goodIn_r _ [14, 10, 15, 16, 17, 18, 19, 20] (by decide +kernel) (by decide +kernel)
set_option maxRecDepth 20000 in
theorem gX0_placeOn_X0_prevails : GoodIn wsX0_placeOn (wsV RX0 49 RX0 yX0_prevails wsX0_prevails) := goodIn_app (goodIn_of _ (by decide +kernel)) ggX0_placeOn_X0_prevails
theorem dX0_placeOn_0 : decode cX0_placeOn 0 = .ok (.bipush (-6), 2) := by decide +kernel
theorem dX0_placeOn_2 : decode cX0_placeOn 2 = .ok (.istore 4, 2) := by decide +kernel
theorem dX0_placeOn_4 : decode cX0_placeOn 4 = .ok (.iconst 0, 1) := by decide +kernel
theorem dX0_placeOn_5 : decode cX0_placeOn 5 = .ok (.istore 5, 2) := by decide +kernel
theorem dX0_placeOn_7 : decode cX0_placeOn 7 = .ok (.iload 5, 2) := by decide +kernel
theorem dX0_placeOn_9 : decode cX0_placeOn 9 = .ok (.aload_n 0, 1) := by decide +kernel
theorem dX0_placeOn_10 : decode cX0_placeOn 10 = .ok (.getfield 39, 3) := by decide +kernel
theorem dX0_placeOn_13 : decode cX0_placeOn 13 = .ok (.if_icmp .ge 46, 3) := by decide +kernel
theorem dX0_placeOn_16 : decode cX0_placeOn 16 = .ok (.aload_n 0, 1) := by decide +kernel
theorem dX0_placeOn_17 : decode cX0_placeOn 17 = .ok (.getfield 18, 3) := by decide +kernel
theorem dX0_placeOn_20 : decode cX0_placeOn 20 = .ok (.iload 5, 2) := by decide +kernel
theorem dX0_placeOn_22 : decode cX0_placeOn 22 = .ok (.iaload, 1) := by decide +kernel
theorem dX0_placeOn_23 : decode cX0_placeOn 23 = .ok (.iload_n 3, 1) := by decide +kernel
theorem dX0_placeOn_24 : decode cX0_placeOn 24 = .ok (.if_icmp .gt 29, 3) := by decide +kernel
theorem dX0_placeOn_27 : decode cX0_placeOn 27 = .ok (.aload_n 0, 1) := by decide +kernel
theorem dX0_placeOn_28 : decode cX0_placeOn 28 = .ok (.iload 5, 2) := by decide +kernel
theorem dX0_placeOn_30 : decode cX0_placeOn 30 = .ok (.iload_n 1, 1) := by decide +kernel
theorem dX0_placeOn_31 : decode cX0_placeOn 31 = .ok (.iload_n 2, 1) := by decide +kernel
theorem dX0_placeOn_32 : decode cX0_placeOn 32 = .ok (.invokevirtual 46, 3) := by decide +kernel
theorem dX0_placeOn_35 : decode cX0_placeOn 35 = .ok (.ifCond .eq 18, 3) := by decide +kernel
theorem dX0_placeOn_38 : decode cX0_placeOn 38 = .ok (.aload_n 0, 1) := by decide +kernel
theorem dX0_placeOn_39 : decode cX0_placeOn 39 = .ok (.iload 5, 2) := by decide +kernel
theorem dX0_placeOn_41 : decode cX0_placeOn 41 = .ok (.iload 4, 2) := by decide +kernel
theorem dX0_placeOn_43 : decode cX0_placeOn 43 = .ok (.invokevirtual 49, 3) := by decide +kernel
theorem dX0_placeOn_46 : decode cX0_placeOn 46 = .ok (.ifCond .eq 7, 3) := by decide +kernel
theorem dX0_placeOn_49 : decode cX0_placeOn 49 = .ok (.iload 5, 2) := by decide +kernel
theorem dX0_placeOn_51 : decode cX0_placeOn 51 = .ok (.istore 4, 2) := by decide +kernel
theorem dX0_placeOn_53 : decode cX0_placeOn 53 = .ok (.iinc 5 1, 3) := by decide +kernel
theorem dX0_placeOn_56 : decode cX0_placeOn 56 = .ok (.goto (-49), 3) := by decide +kernel
theorem dX0_placeOn_59 : decode cX0_placeOn 59 = .ok (.iload 4, 2) := by decide +kernel
theorem dX0_placeOn_61 : decode cX0_placeOn 61 = .ok (.bipush (-6), 2) := by decide +kernel
theorem dX0_placeOn_63 : decode cX0_placeOn 63 = .ok (.if_icmp .ne 8, 3) := by decide +kernel
theorem dX0_placeOn_66 : decode cX0_placeOn 66 = .ok (.bipush (-6), 2) := by decide +kernel
theorem dX0_placeOn_68 : decode cX0_placeOn 68 = .ok (.goto 10, 3) := by decide +kernel
theorem dX0_placeOn_71 : decode cX0_placeOn 71 = .ok (.aload_n 0, 1) := by decide +kernel
theorem dX0_placeOn_72 : decode cX0_placeOn 72 = .ok (.getfield 21, 3) := by decide +kernel
theorem dX0_placeOn_75 : decode cX0_placeOn 75 = .ok (.iload 4, 2) := by decide +kernel
theorem dX0_placeOn_77 : decode cX0_placeOn 77 = .ok (.iaload, 1) := by decide +kernel
theorem dX0_placeOn_78 : decode cX0_placeOn 78 = .ok (.ireturn, 1) := by decide +kernel
theorem dX0_tellsOf_0 : decode cX0_tellsOf 0 = .ok (.aload_n 0, 1) := by decide +kernel
theorem dX0_tellsOf_1 : decode cX0_tellsOf 1 = .ok (.getfield 11, 3) := by decide +kernel
theorem dX0_tellsOf_4 : decode cX0_tellsOf 4 = .ok (.iload_n 1, 1) := by decide +kernel
theorem dX0_tellsOf_5 : decode cX0_tellsOf 5 = .ok (.iaload, 1) := by decide +kernel
theorem dX0_tellsOf_6 : decode cX0_tellsOf 6 = .ok (.iload_n 2, 1) := by decide +kernel
theorem dX0_tellsOf_7 : decode cX0_tellsOf 7 = .ok (.if_icmp .ne 17, 3) := by decide +kernel
theorem dX0_tellsOf_10 : decode cX0_tellsOf 10 = .ok (.aload_n 0, 1) := by decide +kernel
theorem dX0_tellsOf_11 : decode cX0_tellsOf 11 = .ok (.getfield 15, 3) := by decide +kernel
theorem dX0_tellsOf_14 : decode cX0_tellsOf 14 = .ok (.iload_n 1, 1) := by decide +kernel
theorem dX0_tellsOf_15 : decode cX0_tellsOf 15 = .ok (.iaload, 1) := by decide +kernel
theorem dX0_tellsOf_16 : decode cX0_tellsOf 16 = .ok (.iload_n 3, 1) := by decide +kernel
theorem dX0_tellsOf_17 : decode cX0_tellsOf 17 = .ok (.if_icmp .gt 7, 3) := by decide +kernel
theorem dX0_tellsOf_20 : decode cX0_tellsOf 20 = .ok (.iconst 1, 1) := by decide +kernel
theorem dX0_tellsOf_21 : decode cX0_tellsOf 21 = .ok (.goto 4, 3) := by decide +kernel
theorem dX0_tellsOf_24 : decode cX0_tellsOf 24 = .ok (.iconst 0, 1) := by decide +kernel
theorem dX0_tellsOf_25 : decode cX0_tellsOf 25 = .ok (.ireturn, 1) := by decide +kernel
theorem dX0_prevails_0 : decode cX0_prevails 0 = .ok (.iload_n 2, 1) := by decide +kernel
theorem dX0_prevails_1 : decode cX0_prevails 1 = .ok (.bipush (-6), 2) := by decide +kernel
theorem dX0_prevails_3 : decode cX0_prevails 3 = .ok (.if_icmp .eq 18, 3) := by decide +kernel
theorem dX0_prevails_6 : decode cX0_prevails 6 = .ok (.aload_n 0, 1) := by decide +kernel
theorem dX0_prevails_7 : decode cX0_prevails 7 = .ok (.getfield 15, 3) := by decide +kernel
theorem dX0_prevails_10 : decode cX0_prevails 10 = .ok (.iload_n 1, 1) := by decide +kernel
theorem dX0_prevails_11 : decode cX0_prevails 11 = .ok (.iaload, 1) := by decide +kernel
theorem dX0_prevails_12 : decode cX0_prevails 12 = .ok (.aload_n 0, 1) := by decide +kernel
theorem dX0_prevails_13 : decode cX0_prevails 13 = .ok (.getfield 15, 3) := by decide +kernel
theorem dX0_prevails_16 : decode cX0_prevails 16 = .ok (.iload_n 2, 1) := by decide +kernel
theorem dX0_prevails_17 : decode cX0_prevails 17 = .ok (.iaload, 1) := by decide +kernel
theorem dX0_prevails_18 : decode cX0_prevails 18 = .ok (.if_icmp .lt 7, 3) := by decide +kernel
theorem dX0_prevails_21 : decode cX0_prevails 21 = .ok (.iconst 1, 1) := by decide +kernel
theorem dX0_prevails_22 : decode cX0_prevails 22 = .ok (.goto 4, 3) := by decide +kernel
theorem dX0_prevails_25 : decode cX0_prevails 25 = .ok (.iconst 0, 1) := by decide +kernel
theorem dX0_prevails_26 : decode cX0_prevails 26 = .ok (.ireturn, 1) := by decide +kernel
theorem dX1_init_0 : decode cX1_init 0 = .ok (.aload_n 0, 1) := by decide +kernel
theorem dX1_init_1 : decode cX1_init 1 = .ok (.invokespecial 3, 3) := by decide +kernel
theorem dX1_init_4 : decode cX1_init 4 = .ok (.aload_n 0, 1) := by decide +kernel
theorem dX1_init_5 : decode cX1_init 5 = .ok (.iconst 4, 1) := by decide +kernel
theorem dX1_init_6 : decode cX1_init 6 = .ok (.newarray .int, 2) := by decide +kernel
theorem dX1_init_8 : decode cX1_init 8 = .ok (.putfield 11, 3) := by decide +kernel
theorem dX1_init_11 : decode cX1_init 11 = .ok (.aload_n 0, 1) := by decide +kernel
theorem dX1_init_12 : decode cX1_init 12 = .ok (.sipush 200, 3) := by decide +kernel
theorem dX1_init_15 : decode cX1_init 15 = .ok (.newarray .boolean, 2) := by decide +kernel
theorem dX1_init_17 : decode cX1_init 17 = .ok (.putfield 15, 3) := by decide +kernel
theorem dX1_init_20 : decode cX1_init 20 = .ok (.aload_n 0, 1) := by decide +kernel
theorem dX1_init_21 : decode cX1_init 21 = .ok (.bipush 20, 2) := by decide +kernel
theorem dX1_init_23 : decode cX1_init 23 = .ok (.putfield 19, 3) := by decide +kernel
theorem dX1_init_26 : decode cX1_init 26 = .ok (.aload_n 0, 1) := by decide +kernel
theorem dX1_init_27 : decode cX1_init 27 = .ok (.bipush 24, 2) := by decide +kernel
theorem dX1_init_29 : decode cX1_init 29 = .ok (.newarray .int, 2) := by decide +kernel
theorem dX1_init_31 : decode cX1_init 31 = .ok (.putfield 23, 3) := by decide +kernel
theorem dX1_init_34 : decode cX1_init 34 = .ok (.aload_n 0, 1) := by decide +kernel
theorem dX1_init_35 : decode cX1_init 35 = .ok (.bipush 24, 2) := by decide +kernel
theorem dX1_init_37 : decode cX1_init 37 = .ok (.newarray .int, 2) := by decide +kernel
theorem dX1_init_39 : decode cX1_init 39 = .ok (.putfield 26, 3) := by decide +kernel
theorem dX1_init_42 : decode cX1_init 42 = .ok (.aload_n 0, 1) := by decide +kernel
theorem dX1_init_43 : decode cX1_init 43 = .ok (.bipush 24, 2) := by decide +kernel
theorem dX1_init_45 : decode cX1_init 45 = .ok (.newarray .int, 2) := by decide +kernel
theorem dX1_init_47 : decode cX1_init 47 = .ok (.putfield 29, 3) := by decide +kernel
theorem dX1_init_50 : decode cX1_init 50 = .ok (.aload_n 0, 1) := by decide +kernel
theorem dX1_init_51 : decode cX1_init 51 = .ok (.bipush 24, 2) := by decide +kernel
theorem dX1_init_53 : decode cX1_init 53 = .ok (.newarray .int, 2) := by decide +kernel
theorem dX1_init_55 : decode cX1_init 55 = .ok (.putfield 32, 3) := by decide +kernel
theorem dX1_init_58 : decode cX1_init 58 = .ok (.aload_n 0, 1) := by decide +kernel
theorem dX1_init_59 : decode cX1_init 59 = .ok (.bipush 24, 2) := by decide +kernel
theorem dX1_init_61 : decode cX1_init 61 = .ok (.newarray .int, 2) := by decide +kernel
theorem dX1_init_63 : decode cX1_init 63 = .ok (.putfield 35, 3) := by decide +kernel
theorem dX1_init_66 : decode cX1_init 66 = .ok (.aload_n 0, 1) := by decide +kernel
theorem dX1_init_67 : decode cX1_init 67 = .ok (.bipush 24, 2) := by decide +kernel
theorem dX1_init_69 : decode cX1_init 69 = .ok (.newarray .int, 2) := by decide +kernel
theorem dX1_init_71 : decode cX1_init 71 = .ok (.putfield 38, 3) := by decide +kernel
theorem dX1_init_74 : decode cX1_init 74 = .ok (.aload_n 0, 1) := by decide +kernel
theorem dX1_init_75 : decode cX1_init 75 = .ok (.bipush 24, 2) := by decide +kernel
theorem dX1_init_77 : decode cX1_init 77 = .ok (.newarray .int, 2) := by decide +kernel
theorem dX1_init_79 : decode cX1_init 79 = .ok (.putfield 41, 3) := by decide +kernel
theorem dX1_init_82 : decode cX1_init 82 = .ok (.iconst 0, 1) := by decide +kernel
theorem dX1_init_83 : decode cX1_init 83 = .ok (.istore_n 1, 1) := by decide +kernel
theorem dX1_init_84 : decode cX1_init 84 = .ok (.iload_n 1, 1) := by decide +kernel
theorem dX1_init_85 : decode cX1_init 85 = .ok (.iconst 4, 1) := by decide +kernel
theorem dX1_init_86 : decode cX1_init 86 = .ok (.if_icmp .ge 16, 3) := by decide +kernel
theorem dX1_init_89 : decode cX1_init 89 = .ok (.aload_n 0, 1) := by decide +kernel
theorem dX1_init_90 : decode cX1_init 90 = .ok (.getfield 11, 3) := by decide +kernel
theorem dX1_init_93 : decode cX1_init 93 = .ok (.iload_n 1, 1) := by decide +kernel
theorem dX1_init_94 : decode cX1_init 94 = .ok (.iconst 5, 1) := by decide +kernel
theorem dX1_init_95 : decode cX1_init 95 = .ok (.iastore, 1) := by decide +kernel
theorem dX1_init_96 : decode cX1_init 96 = .ok (.iinc 1 1, 3) := by decide +kernel
theorem dX1_init_99 : decode cX1_init 99 = .ok (.goto (-15), 3) := by decide +kernel
theorem dX1_init_102 : decode cX1_init 102 = .ok (.return_, 1) := by decide +kernel
set_option maxRecDepth 20000 in
theorem ggX1_setFade_X4_isWithin : GoodIn wsX1_setFade wsX4_isWithin := goodIn_r _ [4] (by decide +kernel) (by decide +kernel)
set_option maxRecDepth 20000 in
theorem gX1_setFade_X4_isWithin_n44 : GoodIn wsX1_setFade (wsX4_isWithin) := ggX1_setFade_X4_isWithin
theorem dX1_setFade_0 : decode cX1_setFade 0 = .ok (.iload_n 1, 1) := by decide +kernel
theorem dX1_setFade_1 : decode cX1_setFade 1 = .ok (.iconst 0, 1) := by decide +kernel
theorem dX1_setFade_2 : decode cX1_setFade 2 = .ok (.iconst 3, 1) := by decide +kernel
theorem dX1_setFade_3 : decode cX1_setFade 3 = .ok (.invokestatic 44, 3) := by decide +kernel
theorem dX1_setFade_6 : decode cX1_setFade 6 = .ok (.ifCond .eq 13, 3) := by decide +kernel
theorem dX1_setFade_9 : decode cX1_setFade 9 = .ok (.iload_n 2, 1) := by decide +kernel
theorem dX1_setFade_10 : decode cX1_setFade 10 = .ok (.iconst 0, 1) := by decide +kernel
theorem dX1_setFade_11 : decode cX1_setFade 11 = .ok (.bipush 40, 2) := by decide +kernel
theorem dX1_setFade_13 : decode cX1_setFade 13 = .ok (.invokestatic 44, 3) := by decide +kernel
theorem dX1_setFade_16 : decode cX1_setFade 16 = .ok (.ifCond .ne 6, 3) := by decide +kernel
theorem dX1_setFade_19 : decode cX1_setFade 19 = .ok (.bipush (-2), 2) := by decide +kernel
theorem dX1_setFade_21 : decode cX1_setFade 21 = .ok (.ireturn, 1) := by decide +kernel
theorem dX1_setFade_22 : decode cX1_setFade 22 = .ok (.aload_n 0, 1) := by decide +kernel
theorem dX1_setFade_23 : decode cX1_setFade 23 = .ok (.getfield 11, 3) := by decide +kernel
theorem dX1_setFade_26 : decode cX1_setFade 26 = .ok (.iload_n 1, 1) := by decide +kernel
theorem dX1_setFade_27 : decode cX1_setFade 27 = .ok (.iaload, 1) := by decide +kernel
theorem dX1_setFade_28 : decode cX1_setFade 28 = .ok (.istore_n 3, 1) := by decide +kernel
theorem dX1_setFade_29 : decode cX1_setFade 29 = .ok (.aload_n 0, 1) := by decide +kernel
theorem dX1_setFade_30 : decode cX1_setFade 30 = .ok (.getfield 11, 3) := by decide +kernel
theorem dX1_setFade_33 : decode cX1_setFade 33 = .ok (.iload_n 1, 1) := by decide +kernel
theorem dX1_setFade_34 : decode cX1_setFade 34 = .ok (.iload_n 2, 1) := by decide +kernel
theorem dX1_setFade_35 : decode cX1_setFade 35 = .ok (.iastore, 1) := by decide +kernel
theorem dX1_setFade_36 : decode cX1_setFade 36 = .ok (.iload_n 3, 1) := by decide +kernel
theorem dX1_setFade_37 : decode cX1_setFade 37 = .ok (.ireturn, 1) := by decide +kernel
set_option maxRecDepth 20000 in
theorem ggX1_addWall_X4_isWithin : GoodIn wsX1_addWall wsX4_isWithin := goodIn_r _ [8] (by decide +kernel) (by decide +kernel)
set_option maxRecDepth 20000 in
theorem gX1_addWall_X4_isWithin_n44 : GoodIn wsX1_addWall (wsX4_isWithin) := ggX1_addWall_X4_isWithin
theorem dX1_addWall_0 : decode cX1_addWall 0 = .ok (.iload_n 1, 1) := by decide +kernel
theorem dX1_addWall_1 : decode cX1_addWall 1 = .ok (.iconst 0, 1) := by decide +kernel
theorem dX1_addWall_2 : decode cX1_addWall 2 = .ok (.bipush 99, 2) := by decide +kernel
theorem dX1_addWall_4 : decode cX1_addWall 4 = .ok (.invokestatic 44, 3) := by decide +kernel
theorem dX1_addWall_7 : decode cX1_addWall 7 = .ok (.ifCond .eq 22, 3) := by decide +kernel
theorem dX1_addWall_10 : decode cX1_addWall 10 = .ok (.iload_n 2, 1) := by decide +kernel
theorem dX1_addWall_11 : decode cX1_addWall 11 = .ok (.iconst 0, 1) := by decide +kernel
theorem dX1_addWall_12 : decode cX1_addWall 12 = .ok (.iconst 3, 1) := by decide +kernel
theorem dX1_addWall_13 : decode cX1_addWall 13 = .ok (.invokestatic 44, 3) := by decide +kernel
theorem dX1_addWall_16 : decode cX1_addWall 16 = .ok (.ifCond .eq 13, 3) := by decide +kernel
theorem dX1_addWall_19 : decode cX1_addWall 19 = .ok (.iload_n 3, 1) := by decide +kernel
theorem dX1_addWall_20 : decode cX1_addWall 20 = .ok (.iconst 1, 1) := by decide +kernel
theorem dX1_addWall_21 : decode cX1_addWall 21 = .ok (.bipush 60, 2) := by decide +kernel
theorem dX1_addWall_23 : decode cX1_addWall 23 = .ok (.invokestatic 44, 3) := by decide +kernel
theorem dX1_addWall_26 : decode cX1_addWall 26 = .ok (.ifCond .ne 6, 3) := by decide +kernel
theorem dX1_addWall_29 : decode cX1_addWall 29 = .ok (.bipush (-2), 2) := by decide +kernel
theorem dX1_addWall_31 : decode cX1_addWall 31 = .ok (.ireturn, 1) := by decide +kernel
theorem dX1_addWall_32 : decode cX1_addWall 32 = .ok (.aload_n 0, 1) := by decide +kernel
theorem dX1_addWall_33 : decode cX1_addWall 33 = .ok (.getfield 48, 3) := by decide +kernel
theorem dX1_addWall_36 : decode cX1_addWall 36 = .ok (.bipush 24, 2) := by decide +kernel
theorem dX1_addWall_38 : decode cX1_addWall 38 = .ok (.if_icmp .lt 6, 3) := by decide +kernel
theorem dX1_addWall_41 : decode cX1_addWall 41 = .ok (.bipush (-4), 2) := by decide +kernel
theorem dX1_addWall_43 : decode cX1_addWall 43 = .ok (.ireturn, 1) := by decide +kernel
theorem dX1_addWall_44 : decode cX1_addWall 44 = .ok (.aload_n 0, 1) := by decide +kernel
theorem dX1_addWall_45 : decode cX1_addWall 45 = .ok (.getfield 23, 3) := by decide +kernel
theorem dX1_addWall_48 : decode cX1_addWall 48 = .ok (.aload_n 0, 1) := by decide +kernel
theorem dX1_addWall_49 : decode cX1_addWall 49 = .ok (.getfield 48, 3) := by decide +kernel
theorem dX1_addWall_52 : decode cX1_addWall 52 = .ok (.iload_n 1, 1) := by decide +kernel
theorem dX1_addWall_53 : decode cX1_addWall 53 = .ok (.iastore, 1) := by decide +kernel
theorem dX1_addWall_54 : decode cX1_addWall 54 = .ok (.aload_n 0, 1) := by decide +kernel
theorem dX1_addWall_55 : decode cX1_addWall 55 = .ok (.getfield 26, 3) := by decide +kernel
theorem dX1_addWall_58 : decode cX1_addWall 58 = .ok (.aload_n 0, 1) := by decide +kernel
theorem dX1_addWall_59 : decode cX1_addWall 59 = .ok (.getfield 48, 3) := by decide +kernel
theorem dX1_addWall_62 : decode cX1_addWall 62 = .ok (.iload_n 2, 1) := by decide +kernel
theorem dX1_addWall_63 : decode cX1_addWall 63 = .ok (.iastore, 1) := by decide +kernel
theorem dX1_addWall_64 : decode cX1_addWall 64 = .ok (.aload_n 0, 1) := by decide +kernel
theorem dX1_addWall_65 : decode cX1_addWall 65 = .ok (.getfield 29, 3) := by decide +kernel
theorem dX1_addWall_68 : decode cX1_addWall 68 = .ok (.aload_n 0, 1) := by decide +kernel
theorem dX1_addWall_69 : decode cX1_addWall 69 = .ok (.getfield 48, 3) := by decide +kernel
theorem dX1_addWall_72 : decode cX1_addWall 72 = .ok (.iload_n 3, 1) := by decide +kernel
theorem dX1_addWall_73 : decode cX1_addWall 73 = .ok (.iastore, 1) := by decide +kernel
theorem dX1_addWall_74 : decode cX1_addWall 74 = .ok (.aload_n 0, 1) := by decide +kernel
theorem dX1_addWall_75 : decode cX1_addWall 75 = .ok (.getfield 32, 3) := by decide +kernel
theorem dX1_addWall_78 : decode cX1_addWall 78 = .ok (.aload_n 0, 1) := by decide +kernel
theorem dX1_addWall_79 : decode cX1_addWall 79 = .ok (.getfield 48, 3) := by decide +kernel
theorem dX1_addWall_82 : decode cX1_addWall 82 = .ok (.bipush 100, 2) := by decide +kernel
theorem dX1_addWall_84 : decode cX1_addWall 84 = .ok (.iastore, 1) := by decide +kernel
theorem dX1_addWall_85 : decode cX1_addWall 85 = .ok (.aload_n 0, 1) := by decide +kernel
theorem dX1_addWall_86 : decode cX1_addWall 86 = .ok (.dup, 1) := by decide +kernel
theorem dX1_addWall_87 : decode cX1_addWall 87 = .ok (.getfield 48, 3) := by decide +kernel
theorem dX1_addWall_90 : decode cX1_addWall 90 = .ok (.iconst 1, 1) := by decide +kernel
theorem dX1_addWall_91 : decode cX1_addWall 91 = .ok (.iadd, 1) := by decide +kernel
theorem dX1_addWall_92 : decode cX1_addWall 92 = .ok (.putfield 48, 3) := by decide +kernel
theorem dX1_addWall_95 : decode cX1_addWall 95 = .ok (.aload_n 0, 1) := by decide +kernel
theorem dX1_addWall_96 : decode cX1_addWall 96 = .ok (.getfield 48, 3) := by decide +kernel
theorem dX1_addWall_99 : decode cX1_addWall 99 = .ok (.iconst 1, 1) := by decide +kernel
theorem dX1_addWall_100 : decode cX1_addWall 100 = .ok (.isub, 1) := by decide +kernel
theorem dX1_addWall_101 : decode cX1_addWall 101 = .ok (.ireturn, 1) := by decide +kernel
set_option maxRecDepth 20000 in
theorem ggX1_aboutWall_X4_isWithin : GoodIn wsX1_aboutWall wsX4_isWithin := goodIn_r _ [9] (by decide +kernel) (by decide +kernel)
set_option maxRecDepth 20000 in
theorem gX1_aboutWall_X4_isWithin_n44 : GoodIn wsX1_aboutWall (wsX4_isWithin) := ggX1_aboutWall_X4_isWithin
theorem dX1_aboutWall_0 : decode cX1_aboutWall 0 = .ok (.iload_n 1, 1) := by decide +kernel
theorem dX1_aboutWall_1 : decode cX1_aboutWall 1 = .ok (.iconst 0, 1) := by decide +kernel
theorem dX1_aboutWall_2 : decode cX1_aboutWall 2 = .ok (.aload_n 0, 1) := by decide +kernel
theorem dX1_aboutWall_3 : decode cX1_aboutWall 3 = .ok (.getfield 48, 3) := by decide +kernel
theorem dX1_aboutWall_6 : decode cX1_aboutWall 6 = .ok (.iconst 1, 1) := by decide +kernel
theorem dX1_aboutWall_7 : decode cX1_aboutWall 7 = .ok (.isub, 1) := by decide +kernel
theorem dX1_aboutWall_8 : decode cX1_aboutWall 8 = .ok (.invokestatic 44, 3) := by decide +kernel
theorem dX1_aboutWall_11 : decode cX1_aboutWall 11 = .ok (.ifCond .ne 5, 3) := by decide +kernel
theorem dX1_aboutWall_14 : decode cX1_aboutWall 14 = .ok (.iconst (-1), 1) := by decide +kernel
theorem dX1_aboutWall_15 : decode cX1_aboutWall 15 = .ok (.ireturn, 1) := by decide +kernel
theorem dX1_aboutWall_16 : decode cX1_aboutWall 16 = .ok (.iload_n 2, 1) := by decide +kernel
theorem dX1_aboutWall_17 : decode cX1_aboutWall 17 = .ok (.tableswitch 70 0 4 #[35, 42, 49, 56, 63], 35) := by decide +kernel
theorem dX1_aboutWall_52 : decode cX1_aboutWall 52 = .ok (.aload_n 0, 1) := by decide +kernel
theorem dX1_aboutWall_53 : decode cX1_aboutWall 53 = .ok (.getfield 23, 3) := by decide +kernel
theorem dX1_aboutWall_56 : decode cX1_aboutWall 56 = .ok (.iload_n 1, 1) := by decide +kernel
theorem dX1_aboutWall_57 : decode cX1_aboutWall 57 = .ok (.iaload, 1) := by decide +kernel
theorem dX1_aboutWall_58 : decode cX1_aboutWall 58 = .ok (.ireturn, 1) := by decide +kernel
theorem dX1_aboutWall_59 : decode cX1_aboutWall 59 = .ok (.aload_n 0, 1) := by decide +kernel
theorem dX1_aboutWall_60 : decode cX1_aboutWall 60 = .ok (.getfield 26, 3) := by decide +kernel
theorem dX1_aboutWall_63 : decode cX1_aboutWall 63 = .ok (.iload_n 1, 1) := by decide +kernel
theorem dX1_aboutWall_64 : decode cX1_aboutWall 64 = .ok (.iaload, 1) := by decide +kernel
theorem dX1_aboutWall_65 : decode cX1_aboutWall 65 = .ok (.ireturn, 1) := by decide +kernel
theorem dX1_aboutWall_66 : decode cX1_aboutWall 66 = .ok (.aload_n 0, 1) := by decide +kernel
theorem dX1_aboutWall_67 : decode cX1_aboutWall 67 = .ok (.getfield 29, 3) := by decide +kernel
theorem dX1_aboutWall_70 : decode cX1_aboutWall 70 = .ok (.iload_n 1, 1) := by decide +kernel
theorem dX1_aboutWall_71 : decode cX1_aboutWall 71 = .ok (.iaload, 1) := by decide +kernel
theorem dX1_aboutWall_72 : decode cX1_aboutWall 72 = .ok (.ireturn, 1) := by decide +kernel
theorem dX1_aboutWall_73 : decode cX1_aboutWall 73 = .ok (.aload_n 0, 1) := by decide +kernel
theorem dX1_aboutWall_74 : decode cX1_aboutWall 74 = .ok (.getfield 32, 3) := by decide +kernel
theorem dX1_aboutWall_77 : decode cX1_aboutWall 77 = .ok (.iload_n 1, 1) := by decide +kernel
theorem dX1_aboutWall_78 : decode cX1_aboutWall 78 = .ok (.iaload, 1) := by decide +kernel
theorem dX1_aboutWall_79 : decode cX1_aboutWall 79 = .ok (.ireturn, 1) := by decide +kernel
theorem dX1_aboutWall_80 : decode cX1_aboutWall 80 = .ok (.aload_n 0, 1) := by decide +kernel
theorem dX1_aboutWall_81 : decode cX1_aboutWall 81 = .ok (.getfield 35, 3) := by decide +kernel
theorem dX1_aboutWall_84 : decode cX1_aboutWall 84 = .ok (.iload_n 1, 1) := by decide +kernel
theorem dX1_aboutWall_85 : decode cX1_aboutWall 85 = .ok (.iaload, 1) := by decide +kernel
theorem dX1_aboutWall_86 : decode cX1_aboutWall 86 = .ok (.ireturn, 1) := by decide +kernel
theorem dX1_aboutWall_87 : decode cX1_aboutWall 87 = .ok (.bipush (-2), 2) := by decide +kernel
theorem dX1_aboutWall_89 : decode cX1_aboutWall 89 = .ok (.ireturn, 1) := by decide +kernel
set_option maxRecDepth 20000 in
theorem ggX1_setHands_X4_isWithin : GoodIn wsX1_setHands wsX4_isWithin := goodIn_r _ [4] (by decide +kernel) (by decide +kernel)
set_option maxRecDepth 20000 in
theorem gX1_setHands_X4_isWithin_n44 : GoodIn wsX1_setHands (wsX4_isWithin) := ggX1_setHands_X4_isWithin
theorem dX1_setHands_0 : decode cX1_setHands 0 = .ok (.iload_n 1, 1) := by decide +kernel
theorem dX1_setHands_1 : decode cX1_setHands 1 = .ok (.iconst 0, 1) := by decide +kernel
theorem dX1_setHands_2 : decode cX1_setHands 2 = .ok (.sipush 500, 3) := by decide +kernel
theorem dX1_setHands_5 : decode cX1_setHands 5 = .ok (.invokestatic 44, 3) := by decide +kernel
theorem dX1_setHands_8 : decode cX1_setHands 8 = .ok (.ifCond .ne 6, 3) := by decide +kernel
theorem dX1_setHands_11 : decode cX1_setHands 11 = .ok (.bipush (-2), 2) := by decide +kernel
theorem dX1_setHands_13 : decode cX1_setHands 13 = .ok (.ireturn, 1) := by decide +kernel
theorem dX1_setHands_14 : decode cX1_setHands 14 = .ok (.aload_n 0, 1) := by decide +kernel
theorem dX1_setHands_15 : decode cX1_setHands 15 = .ok (.getfield 19, 3) := by decide +kernel
theorem dX1_setHands_18 : decode cX1_setHands 18 = .ok (.istore_n 2, 1) := by decide +kernel
theorem dX1_setHands_19 : decode cX1_setHands 19 = .ok (.aload_n 0, 1) := by decide +kernel
theorem dX1_setHands_20 : decode cX1_setHands 20 = .ok (.iload_n 1, 1) := by decide +kernel
theorem dX1_setHands_21 : decode cX1_setHands 21 = .ok (.putfield 19, 3) := by decide +kernel
theorem dX1_setHands_24 : decode cX1_setHands 24 = .ok (.iload_n 2, 1) := by decide +kernel
theorem dX1_setHands_25 : decode cX1_setHands 25 = .ok (.ireturn, 1) := by decide +kernel
set_option maxRecDepth 20000 in
theorem ggX1_setFrost_X4_isWithin : GoodIn wsX1_setFrost wsX4_isWithin := goodIn_r _ [5] (by decide +kernel) (by decide +kernel)
set_option maxRecDepth 20000 in
theorem gX1_setFrost_X4_isWithin_n44 : GoodIn wsX1_setFrost (wsX4_isWithin) := ggX1_setFrost_X4_isWithin
set_option maxRecDepth 20000 in
theorem ggX1_setFrost_X4_oneIf : GoodIn wsX1_setFrost wsX4_oneIf := goodIn_r _ [7] (by decide +kernel) (by decide +kernel)
set_option maxRecDepth 20000 in
theorem gX1_setFrost_X4_oneIf_n54 : GoodIn wsX1_setFrost (wsX4_oneIf) := ggX1_setFrost_X4_oneIf
theorem dX1_setFrost_0 : decode cX1_setFrost 0 = .ok (.iload_n 1, 1) := by decide +kernel
theorem dX1_setFrost_1 : decode cX1_setFrost 1 = .ok (.iconst 0, 1) := by decide +kernel
theorem dX1_setFrost_2 : decode cX1_setFrost 2 = .ok (.sipush 199, 3) := by decide +kernel
theorem dX1_setFrost_5 : decode cX1_setFrost 5 = .ok (.invokestatic 44, 3) := by decide +kernel
theorem dX1_setFrost_8 : decode cX1_setFrost 8 = .ok (.ifCond .ne 6, 3) := by decide +kernel
theorem dX1_setFrost_11 : decode cX1_setFrost 11 = .ok (.bipush (-2), 2) := by decide +kernel
theorem dX1_setFrost_13 : decode cX1_setFrost 13 = .ok (.ireturn, 1) := by decide +kernel
theorem dX1_setFrost_14 : decode cX1_setFrost 14 = .ok (.iload_n 1, 1) := by decide +kernel
theorem dX1_setFrost_15 : decode cX1_setFrost 15 = .ok (.aload_n 0, 1) := by decide +kernel
theorem dX1_setFrost_16 : decode cX1_setFrost 16 = .ok (.getfield 51, 3) := by decide +kernel
theorem dX1_setFrost_19 : decode cX1_setFrost 19 = .ok (.if_icmp .ge 6, 3) := by decide +kernel
theorem dX1_setFrost_22 : decode cX1_setFrost 22 = .ok (.bipush (-5), 2) := by decide +kernel
theorem dX1_setFrost_24 : decode cX1_setFrost 24 = .ok (.ireturn, 1) := by decide +kernel
theorem dX1_setFrost_25 : decode cX1_setFrost 25 = .ok (.aload_n 0, 1) := by decide +kernel
theorem dX1_setFrost_26 : decode cX1_setFrost 26 = .ok (.getfield 15, 3) := by decide +kernel
theorem dX1_setFrost_29 : decode cX1_setFrost 29 = .ok (.iload_n 1, 1) := by decide +kernel
theorem dX1_setFrost_30 : decode cX1_setFrost 30 = .ok (.baload, 1) := by decide +kernel
theorem dX1_setFrost_31 : decode cX1_setFrost 31 = .ok (.invokestatic 54, 3) := by decide +kernel
theorem dX1_setFrost_34 : decode cX1_setFrost 34 = .ok (.istore_n 3, 1) := by decide +kernel
theorem dX1_setFrost_35 : decode cX1_setFrost 35 = .ok (.aload_n 0, 1) := by decide +kernel
theorem dX1_setFrost_36 : decode cX1_setFrost 36 = .ok (.getfield 15, 3) := by decide +kernel
theorem dX1_setFrost_39 : decode cX1_setFrost 39 = .ok (.iload_n 1, 1) := by decide +kernel
theorem dX1_setFrost_40 : decode cX1_setFrost 40 = .ok (.iload_n 2, 1) := by decide +kernel
theorem dX1_setFrost_41 : decode cX1_setFrost 41 = .ok (.bastore, 1) := by decide +kernel
theorem dX1_setFrost_42 : decode cX1_setFrost 42 = .ok (.iload_n 3, 1) := by decide +kernel
theorem dX1_setFrost_43 : decode cX1_setFrost 43 = .ok (.ireturn, 1) := by decide +kernel
set_option maxRecDepth 20000 in
theorem ggX1_goWeek_X1_passWeek : GoodIn wsX1_goWeek wsX1_passWeek := goodIn_r _ [9, 10, 11, 12, 13, 14, 15, 16, 8, 17, 18, 19, 20, 21, 22, 23, 24, 25, 26, 27, 28, 29, 30, 31, 32, 33, 34, 35, 36, 37, 38, 39, 40, 41, 42, 43] (by decide +kernel) (by decide +kernel)
set_option maxRecDepth 20000 in
theorem gX1_goWeek_X1_passWeek : GoodIn wsX1_goWeek (wsV RX1 58 RX1 yX1_passWeek wsX1_passWeek) := goodIn_app (goodIn_of _ (by decide +kernel)) ggX1_goWeek_X1_passWeek
theorem dX1_goWeek_0 : decode cX1_goWeek 0 = .ok (.aload_n 0, 1) := by decide +kernel
theorem dX1_goWeek_1 : decode cX1_goWeek 1 = .ok (.getfield 51, 3) := by decide +kernel
theorem dX1_goWeek_4 : decode cX1_goWeek 4 = .ok (.sipush 200, 3) := by decide +kernel
theorem dX1_goWeek_7 : decode cX1_goWeek 7 = .ok (.if_icmp .lt 6, 3) := by decide +kernel
theorem dX1_goWeek_10 : decode cX1_goWeek 10 = .ok (.bipush (-3), 2) := by decide +kernel
theorem dX1_goWeek_12 : decode cX1_goWeek 12 = .ok (.ireturn, 1) := by decide +kernel
theorem dX1_goWeek_13 : decode cX1_goWeek 13 = .ok (.aload_n 0, 1) := by decide +kernel
theorem dX1_goWeek_14 : decode cX1_goWeek 14 = .ok (.aload_n 0, 1) := by decide +kernel
theorem dX1_goWeek_15 : decode cX1_goWeek 15 = .ok (.getfield 51, 3) := by decide +kernel
theorem dX1_goWeek_18 : decode cX1_goWeek 18 = .ok (.aload_n 0, 1) := by decide +kernel
theorem dX1_goWeek_19 : decode cX1_goWeek 19 = .ok (.getfield 19, 3) := by decide +kernel
theorem dX1_goWeek_22 : decode cX1_goWeek 22 = .ok (.aload_n 0, 1) := by decide +kernel
theorem dX1_goWeek_23 : decode cX1_goWeek 23 = .ok (.getfield 32, 3) := by decide +kernel
theorem dX1_goWeek_26 : decode cX1_goWeek 26 = .ok (.aload_n 0, 1) := by decide +kernel
theorem dX1_goWeek_27 : decode cX1_goWeek 27 = .ok (.getfield 35, 3) := by decide +kernel
theorem dX1_goWeek_30 : decode cX1_goWeek 30 = .ok (.invokevirtual 58, 3) := by decide +kernel
theorem dX1_goWeek_33 : decode cX1_goWeek 33 = .ok (.istore_n 1, 1) := by decide +kernel
theorem dX1_goWeek_34 : decode cX1_goWeek 34 = .ok (.aload_n 0, 1) := by decide +kernel
theorem dX1_goWeek_35 : decode cX1_goWeek 35 = .ok (.dup, 1) := by decide +kernel
theorem dX1_goWeek_36 : decode cX1_goWeek 36 = .ok (.getfield 51, 3) := by decide +kernel
theorem dX1_goWeek_39 : decode cX1_goWeek 39 = .ok (.iconst 1, 1) := by decide +kernel
theorem dX1_goWeek_40 : decode cX1_goWeek 40 = .ok (.iadd, 1) := by decide +kernel
theorem dX1_goWeek_41 : decode cX1_goWeek 41 = .ok (.putfield 51, 3) := by decide +kernel
theorem dX1_goWeek_44 : decode cX1_goWeek 44 = .ok (.iload_n 1, 1) := by decide +kernel
theorem dX1_goWeek_45 : decode cX1_goWeek 45 = .ok (.ireturn, 1) := by decide +kernel
set_option maxRecDepth 20000 in
theorem ggX1_leastForetold_X4_isWithin : GoodIn wsX1_leastForetold wsX4_isWithin := goodIn_r _ [9] (by decide +kernel) (by decide +kernel)
set_option maxRecDepth 20000 in
theorem gX1_leastForetold_X4_isWithin_n44 : GoodIn wsX1_leastForetold (wsX4_isWithin) := ggX1_leastForetold_X4_isWithin
set_option maxRecDepth 20000 in
theorem ggX1_leastForetold_X1_foresee : GoodIn wsX1_leastForetold wsX1_foresee := goodIn_r _ [14, 15, 16, 2, 17, 18, 19, 20, 4, 21, 1, 22, 23, 24, 25, 13, 26, 27, 28, 29, 30, 31, 32, 33, 34, 35, 36, 37, 38, 39, 40, 41, 42, 43, 44, 45, 46, 5, 6, 47, 48, 49, 50, 51, 52, 53, 54, 55, 56, 57, 58, 59, 60, 61, 62] (by decide +kernel) (by decide +kernel)
set_option maxRecDepth 20000 in
theorem gX1_leastForetold_X1_foresee : GoodIn wsX1_leastForetold (wsV RX1 62 RX1 yX1_foresee wsX1_foresee) := goodIn_app (goodIn_of _ (by decide +kernel)) ggX1_leastForetold_X1_foresee
theorem dX1_leastForetold_0 : decode cX1_leastForetold 0 = .ok (.iload_n 1, 1) := by decide +kernel
theorem dX1_leastForetold_1 : decode cX1_leastForetold 1 = .ok (.iconst 1, 1) := by decide +kernel
theorem dX1_leastForetold_2 : decode cX1_leastForetold 2 = .ok (.bipush 52, 2) := by decide +kernel
theorem dX1_leastForetold_4 : decode cX1_leastForetold 4 = .ok (.invokestatic 44, 3) := by decide +kernel
theorem dX1_leastForetold_7 : decode cX1_leastForetold 7 = .ok (.ifCond .eq 12, 3) := by decide +kernel
theorem dX1_leastForetold_10 : decode cX1_leastForetold 10 = .ok (.iload_n 2, 1) := by decide +kernel
theorem dX1_leastForetold_11 : decode cX1_leastForetold 11 = .ok (.iconst 0, 1) := by decide +kernel
theorem dX1_leastForetold_12 : decode cX1_leastForetold 12 = .ok (.iconst 2, 1) := by decide +kernel
theorem dX1_leastForetold_13 : decode cX1_leastForetold 13 = .ok (.invokestatic 44, 3) := by decide +kernel
theorem dX1_leastForetold_16 : decode cX1_leastForetold 16 = .ok (.ifCond .ne 6, 3) := by decide +kernel
theorem dX1_leastForetold_19 : decode cX1_leastForetold 19 = .ok (.bipush (-2), 2) := by decide +kernel
theorem dX1_leastForetold_21 : decode cX1_leastForetold 21 = .ok (.ireturn, 1) := by decide +kernel
theorem dX1_leastForetold_22 : decode cX1_leastForetold 22 = .ok (.aload_n 0, 1) := by decide +kernel
theorem dX1_leastForetold_23 : decode cX1_leastForetold 23 = .ok (.getfield 51, 3) := by decide +kernel
theorem dX1_leastForetold_26 : decode cX1_leastForetold 26 = .ok (.iload_n 1, 1) := by decide +kernel
theorem dX1_leastForetold_27 : decode cX1_leastForetold 27 = .ok (.iadd, 1) := by decide +kernel
theorem dX1_leastForetold_28 : decode cX1_leastForetold 28 = .ok (.sipush 200, 3) := by decide +kernel
theorem dX1_leastForetold_31 : decode cX1_leastForetold 31 = .ok (.if_icmp .le 6, 3) := by decide +kernel
theorem dX1_leastForetold_34 : decode cX1_leastForetold 34 = .ok (.bipush (-3), 2) := by decide +kernel
theorem dX1_leastForetold_36 : decode cX1_leastForetold 36 = .ok (.ireturn, 1) := by decide +kernel
theorem dX1_leastForetold_37 : decode cX1_leastForetold 37 = .ok (.aload_n 0, 1) := by decide +kernel
theorem dX1_leastForetold_38 : decode cX1_leastForetold 38 = .ok (.getfield 48, 3) := by decide +kernel
theorem dX1_leastForetold_41 : decode cX1_leastForetold 41 = .ok (.ifCond .ne 6, 3) := by decide +kernel
theorem dX1_leastForetold_44 : decode cX1_leastForetold 44 = .ok (.bipush (-6), 2) := by decide +kernel
theorem dX1_leastForetold_46 : decode cX1_leastForetold 46 = .ok (.ireturn, 1) := by decide +kernel
theorem dX1_leastForetold_47 : decode cX1_leastForetold 47 = .ok (.aload_n 0, 1) := by decide +kernel
theorem dX1_leastForetold_48 : decode cX1_leastForetold 48 = .ok (.iload_n 1, 1) := by decide +kernel
theorem dX1_leastForetold_49 : decode cX1_leastForetold 49 = .ok (.aload_n 0, 1) := by decide +kernel
theorem dX1_leastForetold_50 : decode cX1_leastForetold 50 = .ok (.getfield 19, 3) := by decide +kernel
theorem dX1_leastForetold_53 : decode cX1_leastForetold 53 = .ok (.iconst 0, 1) := by decide +kernel
theorem dX1_leastForetold_54 : decode cX1_leastForetold 54 = .ok (.invokevirtual 62, 3) := by decide +kernel
theorem dX1_leastForetold_57 : decode cX1_leastForetold 57 = .ok (.iload_n 2, 1) := by decide +kernel
theorem dX1_leastForetold_58 : decode cX1_leastForetold 58 = .ok (.lookupswitch 36 #[(0, 26), (1, 31)], 26) := by decide +kernel
theorem dX1_leastForetold_84 : decode cX1_leastForetold 84 = .ok (.aload_n 0, 1) := by decide +kernel
theorem dX1_leastForetold_85 : decode cX1_leastForetold 85 = .ok (.getfield 66, 3) := by decide +kernel
theorem dX1_leastForetold_88 : decode cX1_leastForetold 88 = .ok (.ireturn, 1) := by decide +kernel
theorem dX1_leastForetold_89 : decode cX1_leastForetold 89 = .ok (.aload_n 0, 1) := by decide +kernel
theorem dX1_leastForetold_90 : decode cX1_leastForetold 90 = .ok (.getfield 69, 3) := by decide +kernel
theorem dX1_leastForetold_93 : decode cX1_leastForetold 93 = .ok (.ireturn, 1) := by decide +kernel
theorem dX1_leastForetold_94 : decode cX1_leastForetold 94 = .ok (.aload_n 0, 1) := by decide +kernel
theorem dX1_leastForetold_95 : decode cX1_leastForetold 95 = .ok (.getfield 72, 3) := by decide +kernel
theorem dX1_leastForetold_98 : decode cX1_leastForetold 98 = .ok (.ireturn, 1) := by decide +kernel
set_option maxRecDepth 20000 in
theorem ggX1_fewestHands_X4_isWithin : GoodIn wsX1_fewestHands wsX4_isWithin := goodIn_r _ [7] (by decide +kernel) (by decide +kernel)
set_option maxRecDepth 20000 in
theorem gX1_fewestHands_X4_isWithin_n44 : GoodIn wsX1_fewestHands (wsX4_isWithin) := ggX1_fewestHands_X4_isWithin
set_option maxRecDepth 20000 in
theorem ggX1_fewestHands_X1_foresee : GoodIn wsX1_fewestHands wsX1_foresee := goodIn_r _ [12, 13, 14, 2, 15, 16, 17, 18, 3, 4, 1, 19, 20, 21, 22, 11, 23, 24, 25, 26, 27, 28, 29, 30, 31, 32, 33, 34, 35, 36, 37, 38, 39, 40, 41, 42, 43, 44, 45, 46, 47, 48, 49, 50, 51, 52, 53, 54, 55, 56, 57, 58, 59, 60, 61] (by decide +kernel) (by decide +kernel)
set_option maxRecDepth 20000 in
theorem gX1_fewestHands_X1_foresee : GoodIn wsX1_fewestHands (wsV RX1 62 RX1 yX1_foresee wsX1_foresee) := goodIn_app (goodIn_of _ (by decide +kernel)) ggX1_fewestHands_X1_foresee
theorem dX1_fewestHands_0 : decode cX1_fewestHands 0 = .ok (.iload_n 1, 1) := by decide +kernel
theorem dX1_fewestHands_1 : decode cX1_fewestHands 1 = .ok (.iconst 1, 1) := by decide +kernel
theorem dX1_fewestHands_2 : decode cX1_fewestHands 2 = .ok (.bipush 52, 2) := by decide +kernel
theorem dX1_fewestHands_4 : decode cX1_fewestHands 4 = .ok (.invokestatic 44, 3) := by decide +kernel
theorem dX1_fewestHands_7 : decode cX1_fewestHands 7 = .ok (.ifCond .eq 13, 3) := by decide +kernel
theorem dX1_fewestHands_10 : decode cX1_fewestHands 10 = .ok (.iload_n 2, 1) := by decide +kernel
theorem dX1_fewestHands_11 : decode cX1_fewestHands 11 = .ok (.iconst 0, 1) := by decide +kernel
theorem dX1_fewestHands_12 : decode cX1_fewestHands 12 = .ok (.bipush 100, 2) := by decide +kernel
theorem dX1_fewestHands_14 : decode cX1_fewestHands 14 = .ok (.invokestatic 44, 3) := by decide +kernel
theorem dX1_fewestHands_17 : decode cX1_fewestHands 17 = .ok (.ifCond .ne 6, 3) := by decide +kernel
theorem dX1_fewestHands_20 : decode cX1_fewestHands 20 = .ok (.bipush (-2), 2) := by decide +kernel
theorem dX1_fewestHands_22 : decode cX1_fewestHands 22 = .ok (.ireturn, 1) := by decide +kernel
theorem dX1_fewestHands_23 : decode cX1_fewestHands 23 = .ok (.aload_n 0, 1) := by decide +kernel
theorem dX1_fewestHands_24 : decode cX1_fewestHands 24 = .ok (.getfield 51, 3) := by decide +kernel
theorem dX1_fewestHands_27 : decode cX1_fewestHands 27 = .ok (.iload_n 1, 1) := by decide +kernel
theorem dX1_fewestHands_28 : decode cX1_fewestHands 28 = .ok (.iadd, 1) := by decide +kernel
theorem dX1_fewestHands_29 : decode cX1_fewestHands 29 = .ok (.sipush 200, 3) := by decide +kernel
theorem dX1_fewestHands_32 : decode cX1_fewestHands 32 = .ok (.if_icmp .le 6, 3) := by decide +kernel
theorem dX1_fewestHands_35 : decode cX1_fewestHands 35 = .ok (.bipush (-3), 2) := by decide +kernel
theorem dX1_fewestHands_37 : decode cX1_fewestHands 37 = .ok (.ireturn, 1) := by decide +kernel
theorem dX1_fewestHands_38 : decode cX1_fewestHands 38 = .ok (.aload_n 0, 1) := by decide +kernel
theorem dX1_fewestHands_39 : decode cX1_fewestHands 39 = .ok (.getfield 48, 3) := by decide +kernel
theorem dX1_fewestHands_42 : decode cX1_fewestHands 42 = .ok (.ifCond .ne 6, 3) := by decide +kernel
theorem dX1_fewestHands_45 : decode cX1_fewestHands 45 = .ok (.bipush (-6), 2) := by decide +kernel
theorem dX1_fewestHands_47 : decode cX1_fewestHands 47 = .ok (.ireturn, 1) := by decide +kernel
theorem dX1_fewestHands_48 : decode cX1_fewestHands 48 = .ok (.iconst 0, 1) := by decide +kernel
theorem dX1_fewestHands_49 : decode cX1_fewestHands 49 = .ok (.istore_n 3, 1) := by decide +kernel
theorem dX1_fewestHands_50 : decode cX1_fewestHands 50 = .ok (.iconst 0, 1) := by decide +kernel
theorem dX1_fewestHands_51 : decode cX1_fewestHands 51 = .ok (.istore 4, 2) := by decide +kernel
theorem dX1_fewestHands_53 : decode cX1_fewestHands 53 = .ok (.iload 4, 2) := by decide +kernel
theorem dX1_fewestHands_55 : decode cX1_fewestHands 55 = .ok (.sipush 500, 3) := by decide +kernel
theorem dX1_fewestHands_58 : decode cX1_fewestHands 58 = .ok (.if_icmp .gt 42, 3) := by decide +kernel
theorem dX1_fewestHands_61 : decode cX1_fewestHands 61 = .ok (.iload 4, 2) := by decide +kernel
theorem dX1_fewestHands_63 : decode cX1_fewestHands 63 = .ok (.iload_n 3, 1) := by decide +kernel
theorem dX1_fewestHands_64 : decode cX1_fewestHands 64 = .ok (.if_icmp .ne 30, 3) := by decide +kernel
theorem dX1_fewestHands_67 : decode cX1_fewestHands 67 = .ok (.aload_n 0, 1) := by decide +kernel
theorem dX1_fewestHands_68 : decode cX1_fewestHands 68 = .ok (.iload_n 1, 1) := by decide +kernel
theorem dX1_fewestHands_69 : decode cX1_fewestHands 69 = .ok (.iload 4, 2) := by decide +kernel
theorem dX1_fewestHands_71 : decode cX1_fewestHands 71 = .ok (.iload_n 2, 1) := by decide +kernel
theorem dX1_fewestHands_72 : decode cX1_fewestHands 72 = .ok (.invokevirtual 62, 3) := by decide +kernel
theorem dX1_fewestHands_75 : decode cX1_fewestHands 75 = .ok (.aload_n 0, 1) := by decide +kernel
theorem dX1_fewestHands_76 : decode cX1_fewestHands 76 = .ok (.getfield 66, 3) := by decide +kernel
theorem dX1_fewestHands_79 : decode cX1_fewestHands 79 = .ok (.iload_n 2, 1) := by decide +kernel
theorem dX1_fewestHands_80 : decode cX1_fewestHands 80 = .ok (.if_icmp .lt 6, 3) := by decide +kernel
theorem dX1_fewestHands_83 : decode cX1_fewestHands 83 = .ok (.iload 4, 2) := by decide +kernel
theorem dX1_fewestHands_85 : decode cX1_fewestHands 85 = .ok (.ireturn, 1) := by decide +kernel
theorem dX1_fewestHands_86 : decode cX1_fewestHands 86 = .ok (.iload 4, 2) := by decide +kernel
theorem dX1_fewestHands_88 : decode cX1_fewestHands 88 = .ok (.aload_n 0, 1) := by decide +kernel
theorem dX1_fewestHands_89 : decode cX1_fewestHands 89 = .ok (.getfield 75, 3) := by decide +kernel
theorem dX1_fewestHands_92 : decode cX1_fewestHands 92 = .ok (.iadd, 1) := by decide +kernel
theorem dX1_fewestHands_93 : decode cX1_fewestHands 93 = .ok (.istore_n 3, 1) := by decide +kernel
theorem dX1_fewestHands_94 : decode cX1_fewestHands 94 = .ok (.iinc 4 1, 3) := by decide +kernel
theorem dX1_fewestHands_97 : decode cX1_fewestHands 97 = .ok (.goto (-44), 3) := by decide +kernel
theorem dX1_fewestHands_100 : decode cX1_fewestHands 100 = .ok (.bipush (-6), 2) := by decide +kernel
theorem dX1_fewestHands_102 : decode cX1_fewestHands 102 = .ok (.ireturn, 1) := by decide +kernel
set_option maxRecDepth 20000 in
theorem ggX1_foresee_X1_passWeek : GoodIn wsX1_foresee wsX1_passWeek := goodIn_r _ [16, 17, 3, 18, 19, 20, 21, 22, 15, 23, 24, 9, 25, 26, 27, 28, 29, 30, 31, 32, 39, 40, 41, 42, 43, 44, 45, 46, 47, 48, 49, 50, 51, 52, 53, 54] (by decide +kernel) (by decide +kernel)
set_option maxRecDepth 20000 in
theorem gX1_foresee_X1_passWeek : GoodIn wsX1_foresee (wsV RX1 58 RX1 yX1_passWeek wsX1_passWeek) := goodIn_app (goodIn_of _ (by decide +kernel)) ggX1_foresee_X1_passWeek
set_option maxRecDepth 20000 in
theorem ggX1_foresee_X1_keepLeast : GoodIn wsX1_foresee wsX1_keepLeast := goodIn_r _ [36, 3, 2, 8, 37, 38, 39, 40, 41, 42, 43, 44, 45, 46, 47, 48, 49, 50, 51, 52, 53, 54] (by decide +kernel) (by decide +kernel)
set_option maxRecDepth 20000 in
theorem gX1_foresee_X1_keepLeast : GoodIn wsX1_foresee (wsV RX1 84 RX1 yX1_keepLeast wsX1_keepLeast) := goodIn_app (goodIn_of _ (by decide +kernel)) ggX1_foresee_X1_keepLeast
theorem dX1_foresee_0 : decode cX1_foresee 0 = .ok (.aload_n 0, 1) := by decide +kernel
theorem dX1_foresee_1 : decode cX1_foresee 1 = .ok (.getfield 32, 3) := by decide +kernel
theorem dX1_foresee_4 : decode cX1_foresee 4 = .ok (.iconst 0, 1) := by decide +kernel
theorem dX1_foresee_5 : decode cX1_foresee 5 = .ok (.aload_n 0, 1) := by decide +kernel
theorem dX1_foresee_6 : decode cX1_foresee 6 = .ok (.getfield 38, 3) := by decide +kernel
theorem dX1_foresee_9 : decode cX1_foresee 9 = .ok (.iconst 0, 1) := by decide +kernel
theorem dX1_foresee_10 : decode cX1_foresee 10 = .ok (.aload_n 0, 1) := by decide +kernel
theorem dX1_foresee_11 : decode cX1_foresee 11 = .ok (.getfield 48, 3) := by decide +kernel
theorem dX1_foresee_14 : decode cX1_foresee 14 = .ok (.invokestatic 78, 3) := by decide +kernel
theorem dX1_foresee_17 : decode cX1_foresee 17 = .ok (.aload_n 0, 1) := by decide +kernel
theorem dX1_foresee_18 : decode cX1_foresee 18 = .ok (.bipush 101, 2) := by decide +kernel
theorem dX1_foresee_20 : decode cX1_foresee 20 = .ok (.putfield 66, 3) := by decide +kernel
theorem dX1_foresee_23 : decode cX1_foresee 23 = .ok (.aload_n 0, 1) := by decide +kernel
theorem dX1_foresee_24 : decode cX1_foresee 24 = .ok (.sipush 501, 3) := by decide +kernel
theorem dX1_foresee_27 : decode cX1_foresee 27 = .ok (.putfield 75, 3) := by decide +kernel
theorem dX1_foresee_30 : decode cX1_foresee 30 = .ok (.aload_n 0, 1) := by decide +kernel
theorem dX1_foresee_31 : decode cX1_foresee 31 = .ok (.getfield 51, 3) := by decide +kernel
theorem dX1_foresee_34 : decode cX1_foresee 34 = .ok (.istore 4, 2) := by decide +kernel
theorem dX1_foresee_36 : decode cX1_foresee 36 = .ok (.iload 4, 2) := by decide +kernel
theorem dX1_foresee_38 : decode cX1_foresee 38 = .ok (.aload_n 0, 1) := by decide +kernel
theorem dX1_foresee_39 : decode cX1_foresee 39 = .ok (.getfield 51, 3) := by decide +kernel
theorem dX1_foresee_42 : decode cX1_foresee 42 = .ok (.iload_n 1, 1) := by decide +kernel
theorem dX1_foresee_43 : decode cX1_foresee 43 = .ok (.iadd, 1) := by decide +kernel
theorem dX1_foresee_44 : decode cX1_foresee 44 = .ok (.if_icmp .ge 39, 3) := by decide +kernel
theorem dX1_foresee_47 : decode cX1_foresee 47 = .ok (.aload_n 0, 1) := by decide +kernel
theorem dX1_foresee_48 : decode cX1_foresee 48 = .ok (.getfield 66, 3) := by decide +kernel
theorem dX1_foresee_51 : decode cX1_foresee 51 = .ok (.iload_n 3, 1) := by decide +kernel
theorem dX1_foresee_52 : decode cX1_foresee 52 = .ok (.if_icmp .lt 31, 3) := by decide +kernel
theorem dX1_foresee_55 : decode cX1_foresee 55 = .ok (.aload_n 0, 1) := by decide +kernel
theorem dX1_foresee_56 : decode cX1_foresee 56 = .ok (.iload 4, 2) := by decide +kernel
theorem dX1_foresee_58 : decode cX1_foresee 58 = .ok (.iload_n 2, 1) := by decide +kernel
theorem dX1_foresee_59 : decode cX1_foresee 59 = .ok (.aload_n 0, 1) := by decide +kernel
theorem dX1_foresee_60 : decode cX1_foresee 60 = .ok (.getfield 38, 3) := by decide +kernel
theorem dX1_foresee_63 : decode cX1_foresee 63 = .ok (.aload_n 0, 1) := by decide +kernel
theorem dX1_foresee_64 : decode cX1_foresee 64 = .ok (.getfield 41, 3) := by decide +kernel
theorem dX1_foresee_67 : decode cX1_foresee 67 = .ok (.invokevirtual 58, 3) := by decide +kernel
theorem dX1_foresee_70 : decode cX1_foresee 70 = .ok (.pop, 1) := by decide +kernel
theorem dX1_foresee_71 : decode cX1_foresee 71 = .ok (.aload_n 0, 1) := by decide +kernel
theorem dX1_foresee_72 : decode cX1_foresee 72 = .ok (.iload 4, 2) := by decide +kernel
theorem dX1_foresee_74 : decode cX1_foresee 74 = .ok (.invokevirtual 84, 3) := by decide +kernel
theorem dX1_foresee_77 : decode cX1_foresee 77 = .ok (.iinc 4 1, 3) := by decide +kernel
theorem dX1_foresee_80 : decode cX1_foresee 80 = .ok (.goto (-44), 3) := by decide +kernel
theorem dX1_foresee_83 : decode cX1_foresee 83 = .ok (.return_, 1) := by decide +kernel
theorem dX1_keepLeast_0 : decode cX1_keepLeast 0 = .ok (.iconst 0, 1) := by decide +kernel
theorem dX1_keepLeast_1 : decode cX1_keepLeast 1 = .ok (.istore_n 2, 1) := by decide +kernel
theorem dX1_keepLeast_2 : decode cX1_keepLeast 2 = .ok (.iload_n 2, 1) := by decide +kernel
theorem dX1_keepLeast_3 : decode cX1_keepLeast 3 = .ok (.aload_n 0, 1) := by decide +kernel
theorem dX1_keepLeast_4 : decode cX1_keepLeast 4 = .ok (.getfield 48, 3) := by decide +kernel
theorem dX1_keepLeast_7 : decode cX1_keepLeast 7 = .ok (.if_icmp .ge 42, 3) := by decide +kernel
theorem dX1_keepLeast_10 : decode cX1_keepLeast 10 = .ok (.aload_n 0, 1) := by decide +kernel
theorem dX1_keepLeast_11 : decode cX1_keepLeast 11 = .ok (.getfield 38, 3) := by decide +kernel
theorem dX1_keepLeast_14 : decode cX1_keepLeast 14 = .ok (.iload_n 2, 1) := by decide +kernel
theorem dX1_keepLeast_15 : decode cX1_keepLeast 15 = .ok (.iaload, 1) := by decide +kernel
theorem dX1_keepLeast_16 : decode cX1_keepLeast 16 = .ok (.aload_n 0, 1) := by decide +kernel
theorem dX1_keepLeast_17 : decode cX1_keepLeast 17 = .ok (.getfield 66, 3) := by decide +kernel
theorem dX1_keepLeast_20 : decode cX1_keepLeast 20 = .ok (.if_icmp .ge 23, 3) := by decide +kernel
theorem dX1_keepLeast_23 : decode cX1_keepLeast 23 = .ok (.aload_n 0, 1) := by decide +kernel
theorem dX1_keepLeast_24 : decode cX1_keepLeast 24 = .ok (.aload_n 0, 1) := by decide +kernel
theorem dX1_keepLeast_25 : decode cX1_keepLeast 25 = .ok (.getfield 38, 3) := by decide +kernel
theorem dX1_keepLeast_28 : decode cX1_keepLeast 28 = .ok (.iload_n 2, 1) := by decide +kernel
theorem dX1_keepLeast_29 : decode cX1_keepLeast 29 = .ok (.iaload, 1) := by decide +kernel
theorem dX1_keepLeast_30 : decode cX1_keepLeast 30 = .ok (.putfield 66, 3) := by decide +kernel
theorem dX1_keepLeast_33 : decode cX1_keepLeast 33 = .ok (.aload_n 0, 1) := by decide +kernel
theorem dX1_keepLeast_34 : decode cX1_keepLeast 34 = .ok (.iload_n 1, 1) := by decide +kernel
theorem dX1_keepLeast_35 : decode cX1_keepLeast 35 = .ok (.putfield 69, 3) := by decide +kernel
theorem dX1_keepLeast_38 : decode cX1_keepLeast 38 = .ok (.aload_n 0, 1) := by decide +kernel
theorem dX1_keepLeast_39 : decode cX1_keepLeast 39 = .ok (.iload_n 2, 1) := by decide +kernel
theorem dX1_keepLeast_40 : decode cX1_keepLeast 40 = .ok (.putfield 72, 3) := by decide +kernel
theorem dX1_keepLeast_43 : decode cX1_keepLeast 43 = .ok (.iinc 2 1, 3) := by decide +kernel
theorem dX1_keepLeast_46 : decode cX1_keepLeast 46 = .ok (.goto (-44), 3) := by decide +kernel
theorem dX1_keepLeast_49 : decode cX1_keepLeast 49 = .ok (.return_, 1) := by decide +kernel
set_option maxRecDepth 20000 in
theorem ggX1_passWeek_X1_paintWalls : GoodIn wsX1_passWeek wsX1_paintWalls := goodIn_r _ [9, 2, 10, 11, 12, 13, 14, 15, 16, 17, 18, 8, 19, 20, 21, 22, 23, 24, 25, 26, 27, 28, 29, 30, 31, 32, 33, 34, 35] (by decide +kernel) (by decide +kernel)
set_option maxRecDepth 20000 in
theorem gX1_passWeek_X1_paintWalls : GoodIn wsX1_passWeek (wsV RX1 88 RX1 yX1_paintWalls wsX1_paintWalls) := goodIn_app (goodIn_of _ (by decide +kernel)) ggX1_passWeek_X1_paintWalls
theorem dX1_passWeek_0 : decode cX1_passWeek 0 = .ok (.aload_n 0, 1) := by decide +kernel
theorem dX1_passWeek_1 : decode cX1_passWeek 1 = .ok (.getfield 15, 3) := by decide +kernel
theorem dX1_passWeek_4 : decode cX1_passWeek 4 = .ok (.iload_n 1, 1) := by decide +kernel
theorem dX1_passWeek_5 : decode cX1_passWeek 5 = .ok (.baload, 1) := by decide +kernel
theorem dX1_passWeek_6 : decode cX1_passWeek 6 = .ok (.ifCond .eq 7, 3) := by decide +kernel
theorem dX1_passWeek_9 : decode cX1_passWeek 9 = .ok (.iconst 0, 1) := by decide +kernel
theorem dX1_passWeek_10 : decode cX1_passWeek 10 = .ok (.goto 11, 3) := by decide +kernel
theorem dX1_passWeek_13 : decode cX1_passWeek 13 = .ok (.aload_n 0, 1) := by decide +kernel
theorem dX1_passWeek_14 : decode cX1_passWeek 14 = .ok (.iload_n 2, 1) := by decide +kernel
theorem dX1_passWeek_15 : decode cX1_passWeek 15 = .ok (.aload_n 3, 1) := by decide +kernel
theorem dX1_passWeek_16 : decode cX1_passWeek 16 = .ok (.aload 4, 2) := by decide +kernel
theorem dX1_passWeek_18 : decode cX1_passWeek 18 = .ok (.invokevirtual 88, 3) := by decide +kernel
theorem dX1_passWeek_21 : decode cX1_passWeek 21 = .ok (.istore 5, 2) := by decide +kernel
theorem dX1_passWeek_23 : decode cX1_passWeek 23 = .ok (.iconst 0, 1) := by decide +kernel
theorem dX1_passWeek_24 : decode cX1_passWeek 24 = .ok (.istore 6, 2) := by decide +kernel
theorem dX1_passWeek_26 : decode cX1_passWeek 26 = .ok (.iload 6, 2) := by decide +kernel
theorem dX1_passWeek_28 : decode cX1_passWeek 28 = .ok (.aload_n 0, 1) := by decide +kernel
theorem dX1_passWeek_29 : decode cX1_passWeek 29 = .ok (.getfield 48, 3) := by decide +kernel
theorem dX1_passWeek_32 : decode cX1_passWeek 32 = .ok (.if_icmp .ge 43, 3) := by decide +kernel
theorem dX1_passWeek_35 : decode cX1_passWeek 35 = .ok (.aload_n 3, 1) := by decide +kernel
theorem dX1_passWeek_36 : decode cX1_passWeek 36 = .ok (.iload 6, 2) := by decide +kernel
theorem dX1_passWeek_38 : decode cX1_passWeek 38 = .ok (.iaload, 1) := by decide +kernel
theorem dX1_passWeek_39 : decode cX1_passWeek 39 = .ok (.aload_n 0, 1) := by decide +kernel
theorem dX1_passWeek_40 : decode cX1_passWeek 40 = .ok (.getfield 11, 3) := by decide +kernel
theorem dX1_passWeek_43 : decode cX1_passWeek 43 = .ok (.aload_n 0, 1) := by decide +kernel
theorem dX1_passWeek_44 : decode cX1_passWeek 44 = .ok (.getfield 26, 3) := by decide +kernel
theorem dX1_passWeek_47 : decode cX1_passWeek 47 = .ok (.iload 6, 2) := by decide +kernel
theorem dX1_passWeek_49 : decode cX1_passWeek 49 = .ok (.iaload, 1) := by decide +kernel
theorem dX1_passWeek_50 : decode cX1_passWeek 50 = .ok (.iaload, 1) := by decide +kernel
theorem dX1_passWeek_51 : decode cX1_passWeek 51 = .ok (.isub, 1) := by decide +kernel
theorem dX1_passWeek_52 : decode cX1_passWeek 52 = .ok (.istore 7, 2) := by decide +kernel
theorem dX1_passWeek_54 : decode cX1_passWeek 54 = .ok (.aload_n 3, 1) := by decide +kernel
theorem dX1_passWeek_55 : decode cX1_passWeek 55 = .ok (.iload 6, 2) := by decide +kernel
theorem dX1_passWeek_57 : decode cX1_passWeek 57 = .ok (.iload 7, 2) := by decide +kernel
theorem dX1_passWeek_59 : decode cX1_passWeek 59 = .ok (.ifCond .le 8, 3) := by decide +kernel
theorem dX1_passWeek_62 : decode cX1_passWeek 62 = .ok (.iload 7, 2) := by decide +kernel
theorem dX1_passWeek_64 : decode cX1_passWeek 64 = .ok (.goto 4, 3) := by decide +kernel
theorem dX1_passWeek_67 : decode cX1_passWeek 67 = .ok (.iconst 0, 1) := by decide +kernel
theorem dX1_passWeek_68 : decode cX1_passWeek 68 = .ok (.iastore, 1) := by decide +kernel
theorem dX1_passWeek_69 : decode cX1_passWeek 69 = .ok (.iinc 6 1, 3) := by decide +kernel
theorem dX1_passWeek_72 : decode cX1_passWeek 72 = .ok (.goto (-46), 3) := by decide +kernel
theorem dX1_passWeek_75 : decode cX1_passWeek 75 = .ok (.iload 5, 2) := by decide +kernel
theorem dX1_passWeek_77 : decode cX1_passWeek 77 = .ok (.ireturn, 1) := by decide +kernel
set_option maxRecDepth 20000 in
theorem ggX1_paintWalls_X1_mostFaded : GoodIn wsX1_paintWalls wsX1_mostFaded := goodIn_r _ [12, 1, 13, 14, 15, 16, 17, 18, 19, 20, 21, 22, 23, 24, 25, 26, 27, 28] (by decide +kernel) (by decide +kernel)
set_option maxRecDepth 20000 in
theorem gX1_paintWalls_X1_mostFaded : GoodIn wsX1_paintWalls (wsV RX1 92 RX1 yX1_mostFaded wsX1_mostFaded) := goodIn_app (goodIn_of _ (by decide +kernel)) ggX1_paintWalls_X1_mostFaded
theorem dX1_paintWalls_0 : decode cX1_paintWalls 0 = .ok (.iload_n 1, 1) := by decide +kernel
theorem dX1_paintWalls_1 : decode cX1_paintWalls 1 = .ok (.istore 4, 2) := by decide +kernel
theorem dX1_paintWalls_3 : decode cX1_paintWalls 3 = .ok (.iconst 0, 1) := by decide +kernel
theorem dX1_paintWalls_4 : decode cX1_paintWalls 4 = .ok (.istore 5, 2) := by decide +kernel
theorem dX1_paintWalls_6 : decode cX1_paintWalls 6 = .ok (.iload 5, 2) := by decide +kernel
theorem dX1_paintWalls_8 : decode cX1_paintWalls 8 = .ok (.aload_n 0, 1) := by decide +kernel
theorem dX1_paintWalls_9 : decode cX1_paintWalls 9 = .ok (.getfield 48, 3) := by decide +kernel
theorem dX1_paintWalls_12 : decode cX1_paintWalls 12 = .ok (.if_icmp .ge 88, 3) := by decide +kernel
theorem dX1_paintWalls_15 : decode cX1_paintWalls 15 = .ok (.aload_n 0, 1) := by decide +kernel
theorem dX1_paintWalls_16 : decode cX1_paintWalls 16 = .ok (.aload_n 2, 1) := by decide +kernel
theorem dX1_paintWalls_17 : decode cX1_paintWalls 17 = .ok (.invokevirtual 92, 3) := by decide +kernel
theorem dX1_paintWalls_20 : decode cX1_paintWalls 20 = .ok (.istore 6, 2) := by decide +kernel
theorem dX1_paintWalls_22 : decode cX1_paintWalls 22 = .ok (.iload 6, 2) := by decide +kernel
theorem dX1_paintWalls_24 : decode cX1_paintWalls 24 = .ok (.bipush (-6), 2) := by decide +kernel
theorem dX1_paintWalls_26 : decode cX1_paintWalls 26 = .ok (.if_icmp .ne 6, 3) := by decide +kernel
theorem dX1_paintWalls_29 : decode cX1_paintWalls 29 = .ok (.iload 5, 2) := by decide +kernel
theorem dX1_paintWalls_31 : decode cX1_paintWalls 31 = .ok (.ireturn, 1) := by decide +kernel
theorem dX1_paintWalls_32 : decode cX1_paintWalls 32 = .ok (.aload_n 0, 1) := by decide +kernel
theorem dX1_paintWalls_33 : decode cX1_paintWalls 33 = .ok (.getfield 29, 3) := by decide +kernel
theorem dX1_paintWalls_36 : decode cX1_paintWalls 36 = .ok (.iload 6, 2) := by decide +kernel
theorem dX1_paintWalls_38 : decode cX1_paintWalls 38 = .ok (.iaload, 1) := by decide +kernel
theorem dX1_paintWalls_39 : decode cX1_paintWalls 39 = .ok (.iload 4, 2) := by decide +kernel
theorem dX1_paintWalls_41 : decode cX1_paintWalls 41 = .ok (.if_icmp .le 27, 3) := by decide +kernel
theorem dX1_paintWalls_44 : decode cX1_paintWalls 44 = .ok (.aload_n 0, 1) := by decide +kernel
theorem dX1_paintWalls_45 : decode cX1_paintWalls 45 = .ok (.aload_n 0, 1) := by decide +kernel
theorem dX1_paintWalls_46 : decode cX1_paintWalls 46 = .ok (.getfield 75, 3) := by decide +kernel
theorem dX1_paintWalls_49 : decode cX1_paintWalls 49 = .ok (.aload_n 0, 1) := by decide +kernel
theorem dX1_paintWalls_50 : decode cX1_paintWalls 50 = .ok (.getfield 29, 3) := by decide +kernel
theorem dX1_paintWalls_53 : decode cX1_paintWalls 53 = .ok (.iload 6, 2) := by decide +kernel
theorem dX1_paintWalls_55 : decode cX1_paintWalls 55 = .ok (.iaload, 1) := by decide +kernel
theorem dX1_paintWalls_56 : decode cX1_paintWalls 56 = .ok (.iload 4, 2) := by decide +kernel
theorem dX1_paintWalls_58 : decode cX1_paintWalls 58 = .ok (.isub, 1) := by decide +kernel
theorem dX1_paintWalls_59 : decode cX1_paintWalls 59 = .ok (.invokestatic 96, 3) := by decide +kernel
theorem dX1_paintWalls_62 : decode cX1_paintWalls 62 = .ok (.putfield 75, 3) := by decide +kernel
theorem dX1_paintWalls_65 : decode cX1_paintWalls 65 = .ok (.iload 5, 2) := by decide +kernel
theorem dX1_paintWalls_67 : decode cX1_paintWalls 67 = .ok (.ireturn, 1) := by decide +kernel
theorem dX1_paintWalls_68 : decode cX1_paintWalls 68 = .ok (.iload 4, 2) := by decide +kernel
theorem dX1_paintWalls_70 : decode cX1_paintWalls 70 = .ok (.aload_n 0, 1) := by decide +kernel
theorem dX1_paintWalls_71 : decode cX1_paintWalls 71 = .ok (.getfield 29, 3) := by decide +kernel
theorem dX1_paintWalls_74 : decode cX1_paintWalls 74 = .ok (.iload 6, 2) := by decide +kernel
theorem dX1_paintWalls_76 : decode cX1_paintWalls 76 = .ok (.iaload, 1) := by decide +kernel
theorem dX1_paintWalls_77 : decode cX1_paintWalls 77 = .ok (.isub, 1) := by decide +kernel
theorem dX1_paintWalls_78 : decode cX1_paintWalls 78 = .ok (.istore 4, 2) := by decide +kernel
theorem dX1_paintWalls_80 : decode cX1_paintWalls 80 = .ok (.aload_n 2, 1) := by decide +kernel
theorem dX1_paintWalls_81 : decode cX1_paintWalls 81 = .ok (.iload 6, 2) := by decide +kernel
theorem dX1_paintWalls_83 : decode cX1_paintWalls 83 = .ok (.bipush 100, 2) := by decide +kernel
theorem dX1_paintWalls_85 : decode cX1_paintWalls 85 = .ok (.iastore, 1) := by decide +kernel
theorem dX1_paintWalls_86 : decode cX1_paintWalls 86 = .ok (.aload_n 3, 1) := by decide +kernel
theorem dX1_paintWalls_87 : decode cX1_paintWalls 87 = .ok (.iload 6, 2) := by decide +kernel
theorem dX1_paintWalls_89 : decode cX1_paintWalls 89 = .ok (.dup2, 1) := by decide +kernel
theorem dX1_paintWalls_90 : decode cX1_paintWalls 90 = .ok (.iaload, 1) := by decide +kernel
theorem dX1_paintWalls_91 : decode cX1_paintWalls 91 = .ok (.iconst 1, 1) := by decide +kernel
theorem dX1_paintWalls_92 : decode cX1_paintWalls 92 = .ok (.iadd, 1) := by decide +kernel
theorem dX1_paintWalls_93 : decode cX1_paintWalls 93 = .ok (.iastore, 1) := by decide +kernel
theorem dX1_paintWalls_94 : decode cX1_paintWalls 94 = .ok (.iinc 5 1, 3) := by decide +kernel
theorem dX1_paintWalls_97 : decode cX1_paintWalls 97 = .ok (.goto (-91), 3) := by decide +kernel
theorem dX1_paintWalls_100 : decode cX1_paintWalls 100 = .ok (.aload_n 0, 1) := by decide +kernel
theorem dX1_paintWalls_101 : decode cX1_paintWalls 101 = .ok (.getfield 48, 3) := by decide +kernel
theorem dX1_paintWalls_104 : decode cX1_paintWalls 104 = .ok (.ireturn, 1) := by decide +kernel
theorem dX1_mostFaded_0 : decode cX1_mostFaded 0 = .ok (.bipush 100, 2) := by decide +kernel
theorem dX1_mostFaded_2 : decode cX1_mostFaded 2 = .ok (.istore_n 2, 1) := by decide +kernel
theorem dX1_mostFaded_3 : decode cX1_mostFaded 3 = .ok (.bipush (-6), 2) := by decide +kernel
theorem dX1_mostFaded_5 : decode cX1_mostFaded 5 = .ok (.istore_n 3, 1) := by decide +kernel
theorem dX1_mostFaded_6 : decode cX1_mostFaded 6 = .ok (.iconst 0, 1) := by decide +kernel
theorem dX1_mostFaded_7 : decode cX1_mostFaded 7 = .ok (.istore 4, 2) := by decide +kernel
theorem dX1_mostFaded_9 : decode cX1_mostFaded 9 = .ok (.iload 4, 2) := by decide +kernel
theorem dX1_mostFaded_11 : decode cX1_mostFaded 11 = .ok (.aload_n 0, 1) := by decide +kernel
theorem dX1_mostFaded_12 : decode cX1_mostFaded 12 = .ok (.getfield 48, 3) := by decide +kernel
theorem dX1_mostFaded_15 : decode cX1_mostFaded 15 = .ok (.if_icmp .ge 25, 3) := by decide +kernel
theorem dX1_mostFaded_18 : decode cX1_mostFaded 18 = .ok (.aload_n 1, 1) := by decide +kernel
theorem dX1_mostFaded_19 : decode cX1_mostFaded 19 = .ok (.iload 4, 2) := by decide +kernel
theorem dX1_mostFaded_21 : decode cX1_mostFaded 21 = .ok (.iaload, 1) := by decide +kernel
theorem dX1_mostFaded_22 : decode cX1_mostFaded 22 = .ok (.iload_n 2, 1) := by decide +kernel
theorem dX1_mostFaded_23 : decode cX1_mostFaded 23 = .ok (.if_icmp .ge 11, 3) := by decide +kernel
theorem dX1_mostFaded_26 : decode cX1_mostFaded 26 = .ok (.aload_n 1, 1) := by decide +kernel
theorem dX1_mostFaded_27 : decode cX1_mostFaded 27 = .ok (.iload 4, 2) := by decide +kernel
theorem dX1_mostFaded_29 : decode cX1_mostFaded 29 = .ok (.iaload, 1) := by decide +kernel
theorem dX1_mostFaded_30 : decode cX1_mostFaded 30 = .ok (.istore_n 2, 1) := by decide +kernel
theorem dX1_mostFaded_31 : decode cX1_mostFaded 31 = .ok (.iload 4, 2) := by decide +kernel
theorem dX1_mostFaded_33 : decode cX1_mostFaded 33 = .ok (.istore_n 3, 1) := by decide +kernel
theorem dX1_mostFaded_34 : decode cX1_mostFaded 34 = .ok (.iinc 4 1, 3) := by decide +kernel
theorem dX1_mostFaded_37 : decode cX1_mostFaded 37 = .ok (.goto (-28), 3) := by decide +kernel
theorem dX1_mostFaded_40 : decode cX1_mostFaded 40 = .ok (.iload_n 3, 1) := by decide +kernel
theorem dX1_mostFaded_41 : decode cX1_mostFaded 41 = .ok (.ireturn, 1) := by decide +kernel
theorem dX2_init_0 : decode cX2_init 0 = .ok (.aload_n 0, 1) := by decide +kernel
theorem dX2_init_1 : decode cX2_init 1 = .ok (.invokespecial 3, 3) := by decide +kernel
theorem dX2_init_4 : decode cX2_init 4 = .ok (.aload_n 0, 1) := by decide +kernel
theorem dX2_init_5 : decode cX2_init 5 = .ok (.iconst 3, 1) := by decide +kernel
theorem dX2_init_6 : decode cX2_init 6 = .ok (.bipush 12, 2) := by decide +kernel
theorem dX2_init_8 : decode cX2_init 8 = .ok (.multianewarray 11 2, 4) := by decide +kernel
theorem dX2_init_12 : decode cX2_init 12 = .ok (.putfield 13, 3) := by decide +kernel
theorem dX2_init_15 : decode cX2_init 15 = .ok (.aload_n 0, 1) := by decide +kernel
theorem dX2_init_16 : decode cX2_init 16 = .ok (.iconst 3, 1) := by decide +kernel
theorem dX2_init_17 : decode cX2_init 17 = .ok (.newarray .int, 2) := by decide +kernel
theorem dX2_init_19 : decode cX2_init 19 = .ok (.putfield 16, 3) := by decide +kernel
theorem dX2_init_22 : decode cX2_init 22 = .ok (.aload_n 0, 1) := by decide +kernel
theorem dX2_init_23 : decode cX2_init 23 = .ok (.iconst 4, 1) := by decide +kernel
theorem dX2_init_24 : decode cX2_init 24 = .ok (.newarray .int, 2) := by decide +kernel
theorem dX2_init_26 : decode cX2_init 26 = .ok (.putfield 20, 3) := by decide +kernel
theorem dX2_init_29 : decode cX2_init 29 = .ok (.aload_n 0, 1) := by decide +kernel
theorem dX2_init_30 : decode cX2_init 30 = .ok (.iconst 4, 1) := by decide +kernel
theorem dX2_init_31 : decode cX2_init 31 = .ok (.newarray .int, 2) := by decide +kernel
theorem dX2_init_33 : decode cX2_init 33 = .ok (.putfield 23, 3) := by decide +kernel
theorem dX2_init_36 : decode cX2_init 36 = .ok (.aload_n 0, 1) := by decide +kernel
theorem dX2_init_37 : decode cX2_init 37 = .ok (.iconst 4, 1) := by decide +kernel
theorem dX2_init_38 : decode cX2_init 38 = .ok (.newarray .int, 2) := by decide +kernel
theorem dX2_init_40 : decode cX2_init 40 = .ok (.putfield 26, 3) := by decide +kernel
theorem dX2_init_43 : decode cX2_init 43 = .ok (.aload_n 0, 1) := by decide +kernel
theorem dX2_init_44 : decode cX2_init 44 = .ok (.iconst 4, 1) := by decide +kernel
theorem dX2_init_45 : decode cX2_init 45 = .ok (.newarray .int, 2) := by decide +kernel
theorem dX2_init_47 : decode cX2_init 47 = .ok (.putfield 29, 3) := by decide +kernel
theorem dX2_init_50 : decode cX2_init 50 = .ok (.aload_n 0, 1) := by decide +kernel
theorem dX2_init_51 : decode cX2_init 51 = .ok (.iconst 4, 1) := by decide +kernel
theorem dX2_init_52 : decode cX2_init 52 = .ok (.newarray .int, 2) := by decide +kernel
theorem dX2_init_54 : decode cX2_init 54 = .ok (.putfield 32, 3) := by decide +kernel
theorem dX2_init_57 : decode cX2_init 57 = .ok (.aload_n 0, 1) := by decide +kernel
theorem dX2_init_58 : decode cX2_init 58 = .ok (.iconst 4, 1) := by decide +kernel
theorem dX2_init_59 : decode cX2_init 59 = .ok (.newarray .int, 2) := by decide +kernel
theorem dX2_init_61 : decode cX2_init 61 = .ok (.putfield 35, 3) := by decide +kernel
theorem dX2_init_64 : decode cX2_init 64 = .ok (.aload_n 0, 1) := by decide +kernel
theorem dX2_init_65 : decode cX2_init 65 = .ok (.iconst 4, 1) := by decide +kernel
theorem dX2_init_66 : decode cX2_init 66 = .ok (.newarray .boolean, 2) := by decide +kernel
theorem dX2_init_68 : decode cX2_init 68 = .ok (.putfield 38, 3) := by decide +kernel
theorem dX2_init_71 : decode cX2_init 71 = .ok (.return_, 1) := by decide +kernel
theorem dX2_addRing_0 : decode cX2_addRing 0 = .ok (.aload_n 0, 1) := by decide +kernel
theorem dX2_addRing_1 : decode cX2_addRing 1 = .ok (.getfield 42, 3) := by decide +kernel
theorem dX2_addRing_4 : decode cX2_addRing 4 = .ok (.iconst 3, 1) := by decide +kernel
theorem dX2_addRing_5 : decode cX2_addRing 5 = .ok (.if_icmp .lt 6, 3) := by decide +kernel
theorem dX2_addRing_8 : decode cX2_addRing 8 = .ok (.bipush (-4), 2) := by decide +kernel
theorem dX2_addRing_10 : decode cX2_addRing 10 = .ok (.ireturn, 1) := by decide +kernel
theorem dX2_addRing_11 : decode cX2_addRing 11 = .ok (.aload_n 0, 1) := by decide +kernel
theorem dX2_addRing_12 : decode cX2_addRing 12 = .ok (.dup, 1) := by decide +kernel
theorem dX2_addRing_13 : decode cX2_addRing 13 = .ok (.getfield 42, 3) := by decide +kernel
theorem dX2_addRing_16 : decode cX2_addRing 16 = .ok (.iconst 1, 1) := by decide +kernel
theorem dX2_addRing_17 : decode cX2_addRing 17 = .ok (.iadd, 1) := by decide +kernel
theorem dX2_addRing_18 : decode cX2_addRing 18 = .ok (.putfield 42, 3) := by decide +kernel
theorem dX2_addRing_21 : decode cX2_addRing 21 = .ok (.aload_n 0, 1) := by decide +kernel
theorem dX2_addRing_22 : decode cX2_addRing 22 = .ok (.getfield 42, 3) := by decide +kernel
theorem dX2_addRing_25 : decode cX2_addRing 25 = .ok (.iconst 1, 1) := by decide +kernel
theorem dX2_addRing_26 : decode cX2_addRing 26 = .ok (.isub, 1) := by decide +kernel
theorem dX2_addRing_27 : decode cX2_addRing 27 = .ok (.ireturn, 1) := by decide +kernel
set_option maxRecDepth 20000 in
theorem ggX2_addBlock_X2_isRing : GoodIn wsX2_addBlock wsX2_isRing := goodIn_r _ [7, 8, 9, 10, 11, 22, 23, 24, 25, 26, 27, 28, 29, 30, 31, 32, 33] (by decide +kernel) (by decide +kernel)
set_option maxRecDepth 20000 in
theorem gX2_addBlock_X2_isRing : GoodIn wsX2_addBlock (wsV RX2 46 RX2 yX2_isRing wsX2_isRing) := goodIn_app (goodIn_of _ (by decide +kernel)) ggX2_addBlock_X2_isRing
set_option maxRecDepth 20000 in
theorem ggX2_addBlock_X4_isWithin : GoodIn wsX2_addBlock wsX4_isWithin := goodIn_r _ [11] (by decide +kernel) (by decide +kernel)
set_option maxRecDepth 20000 in
theorem gX2_addBlock_X4_isWithin_n50 : GoodIn wsX2_addBlock (wsX4_isWithin) := ggX2_addBlock_X4_isWithin
set_option maxRecDepth 20000 in
theorem ggX2_addBlock_X2_hasTrain : GoodIn wsX2_addBlock wsX2_hasTrain := goodIn_r _ [15, 16, 17, 22, 23, 24, 25, 26, 27, 28, 29, 30, 31, 32, 33] (by decide +kernel) (by decide +kernel)
set_option maxRecDepth 20000 in
theorem gX2_addBlock_X2_hasTrain : GoodIn wsX2_addBlock (wsV RX2 54 RX2 yX2_hasTrain wsX2_hasTrain) := goodIn_app (goodIn_of _ (by decide +kernel)) ggX2_addBlock_X2_hasTrain
set_option maxRecDepth 20000 in
theorem ggX2_addBlock_X2_hasBlock : GoodIn wsX2_addBlock wsX2_hasBlock := goodIn_r _ [21, 1, 2, 22, 23, 24, 25, 26, 27, 28, 29, 30, 31, 32, 33] (by decide +kernel) (by decide +kernel)
set_option maxRecDepth 20000 in
theorem gX2_addBlock_X2_hasBlock : GoodIn wsX2_addBlock (wsV RX2 57 RX2 yX2_hasBlock wsX2_hasBlock) := goodIn_app (goodIn_of _ (by decide +kernel)) ggX2_addBlock_X2_hasBlock
theorem dX2_addBlock_0 : decode cX2_addBlock 0 = .ok (.aload_n 0, 1) := by decide +kernel
theorem dX2_addBlock_1 : decode cX2_addBlock 1 = .ok (.iload_n 1, 1) := by decide +kernel
theorem dX2_addBlock_2 : decode cX2_addBlock 2 = .ok (.invokevirtual 46, 3) := by decide +kernel
theorem dX2_addBlock_5 : decode cX2_addBlock 5 = .ok (.ifCond .ne 5, 3) := by decide +kernel
theorem dX2_addBlock_8 : decode cX2_addBlock 8 = .ok (.iconst (-1), 1) := by decide +kernel
theorem dX2_addBlock_9 : decode cX2_addBlock 9 = .ok (.ireturn, 1) := by decide +kernel
theorem dX2_addBlock_10 : decode cX2_addBlock 10 = .ok (.iload_n 2, 1) := by decide +kernel
theorem dX2_addBlock_11 : decode cX2_addBlock 11 = .ok (.iconst 0, 1) := by decide +kernel
theorem dX2_addBlock_12 : decode cX2_addBlock 12 = .ok (.bipush 29, 2) := by decide +kernel
theorem dX2_addBlock_14 : decode cX2_addBlock 14 = .ok (.invokestatic 50, 3) := by decide +kernel
theorem dX2_addBlock_17 : decode cX2_addBlock 17 = .ok (.ifCond .ne 6, 3) := by decide +kernel
theorem dX2_addBlock_20 : decode cX2_addBlock 20 = .ok (.bipush (-2), 2) := by decide +kernel
theorem dX2_addBlock_22 : decode cX2_addBlock 22 = .ok (.ireturn, 1) := by decide +kernel
theorem dX2_addBlock_23 : decode cX2_addBlock 23 = .ok (.aload_n 0, 1) := by decide +kernel
theorem dX2_addBlock_24 : decode cX2_addBlock 24 = .ok (.iload_n 1, 1) := by decide +kernel
theorem dX2_addBlock_25 : decode cX2_addBlock 25 = .ok (.invokevirtual 54, 3) := by decide +kernel
theorem dX2_addBlock_28 : decode cX2_addBlock 28 = .ok (.ifCond .eq 6, 3) := by decide +kernel
theorem dX2_addBlock_31 : decode cX2_addBlock 31 = .ok (.bipush (-3), 2) := by decide +kernel
theorem dX2_addBlock_33 : decode cX2_addBlock 33 = .ok (.ireturn, 1) := by decide +kernel
theorem dX2_addBlock_34 : decode cX2_addBlock 34 = .ok (.aload_n 0, 1) := by decide +kernel
theorem dX2_addBlock_35 : decode cX2_addBlock 35 = .ok (.getfield 16, 3) := by decide +kernel
theorem dX2_addBlock_38 : decode cX2_addBlock 38 = .ok (.iload_n 1, 1) := by decide +kernel
theorem dX2_addBlock_39 : decode cX2_addBlock 39 = .ok (.iaload, 1) := by decide +kernel
theorem dX2_addBlock_40 : decode cX2_addBlock 40 = .ok (.istore_n 3, 1) := by decide +kernel
theorem dX2_addBlock_41 : decode cX2_addBlock 41 = .ok (.iload_n 3, 1) := by decide +kernel
theorem dX2_addBlock_42 : decode cX2_addBlock 42 = .ok (.bipush 12, 2) := by decide +kernel
theorem dX2_addBlock_44 : decode cX2_addBlock 44 = .ok (.if_icmp .lt 6, 3) := by decide +kernel
theorem dX2_addBlock_47 : decode cX2_addBlock 47 = .ok (.bipush (-4), 2) := by decide +kernel
theorem dX2_addBlock_49 : decode cX2_addBlock 49 = .ok (.ireturn, 1) := by decide +kernel
theorem dX2_addBlock_50 : decode cX2_addBlock 50 = .ok (.aload_n 0, 1) := by decide +kernel
theorem dX2_addBlock_51 : decode cX2_addBlock 51 = .ok (.iload_n 1, 1) := by decide +kernel
theorem dX2_addBlock_52 : decode cX2_addBlock 52 = .ok (.iload_n 2, 1) := by decide +kernel
theorem dX2_addBlock_53 : decode cX2_addBlock 53 = .ok (.invokevirtual 57, 3) := by decide +kernel
theorem dX2_addBlock_56 : decode cX2_addBlock 56 = .ok (.ifCond .eq 6, 3) := by decide +kernel
theorem dX2_addBlock_59 : decode cX2_addBlock 59 = .ok (.bipush (-5), 2) := by decide +kernel
theorem dX2_addBlock_61 : decode cX2_addBlock 61 = .ok (.ireturn, 1) := by decide +kernel
theorem dX2_addBlock_62 : decode cX2_addBlock 62 = .ok (.aload_n 0, 1) := by decide +kernel
theorem dX2_addBlock_63 : decode cX2_addBlock 63 = .ok (.getfield 13, 3) := by decide +kernel
theorem dX2_addBlock_66 : decode cX2_addBlock 66 = .ok (.iload_n 1, 1) := by decide +kernel
theorem dX2_addBlock_67 : decode cX2_addBlock 67 = .ok (.aaload, 1) := by decide +kernel
theorem dX2_addBlock_68 : decode cX2_addBlock 68 = .ok (.iload_n 3, 1) := by decide +kernel
theorem dX2_addBlock_69 : decode cX2_addBlock 69 = .ok (.iload_n 2, 1) := by decide +kernel
theorem dX2_addBlock_70 : decode cX2_addBlock 70 = .ok (.iastore, 1) := by decide +kernel
theorem dX2_addBlock_71 : decode cX2_addBlock 71 = .ok (.aload_n 0, 1) := by decide +kernel
theorem dX2_addBlock_72 : decode cX2_addBlock 72 = .ok (.getfield 16, 3) := by decide +kernel
theorem dX2_addBlock_75 : decode cX2_addBlock 75 = .ok (.iload_n 1, 1) := by decide +kernel
theorem dX2_addBlock_76 : decode cX2_addBlock 76 = .ok (.iload_n 3, 1) := by decide +kernel
theorem dX2_addBlock_77 : decode cX2_addBlock 77 = .ok (.iconst 1, 1) := by decide +kernel
theorem dX2_addBlock_78 : decode cX2_addBlock 78 = .ok (.iadd, 1) := by decide +kernel
theorem dX2_addBlock_79 : decode cX2_addBlock 79 = .ok (.iastore, 1) := by decide +kernel
theorem dX2_addBlock_80 : decode cX2_addBlock 80 = .ok (.iload_n 3, 1) := by decide +kernel
theorem dX2_addBlock_81 : decode cX2_addBlock 81 = .ok (.iconst 1, 1) := by decide +kernel
theorem dX2_addBlock_82 : decode cX2_addBlock 82 = .ok (.iadd, 1) := by decide +kernel
theorem dX2_addBlock_83 : decode cX2_addBlock 83 = .ok (.ireturn, 1) := by decide +kernel
set_option maxRecDepth 20000 in
theorem ggX2_addTrain_X2_isRing : GoodIn wsX2_addTrain wsX2_isRing := goodIn_r _ [11, 12, 13, 14, 15, 24, 25, 26, 27, 28, 29, 30, 31, 32, 33, 34, 35] (by decide +kernel) (by decide +kernel)
set_option maxRecDepth 20000 in
theorem gX2_addTrain_X2_isRing : GoodIn wsX2_addTrain (wsV RX2 46 RX2 yX2_isRing wsX2_isRing) := goodIn_app (goodIn_of _ (by decide +kernel)) ggX2_addTrain_X2_isRing
set_option maxRecDepth 20000 in
theorem ggX2_addTrain_X4_isWithin : GoodIn wsX2_addTrain wsX4_isWithin := goodIn_r _ [15] (by decide +kernel) (by decide +kernel)
set_option maxRecDepth 20000 in
theorem gX2_addTrain_X4_isWithin_n50 : GoodIn wsX2_addTrain (wsX4_isWithin) := ggX2_addTrain_X4_isWithin
set_option maxRecDepth 20000 in
theorem ggX2_addTrain_X2_trainIn : GoodIn wsX2_addTrain wsX2_trainIn := goodIn_r _ [19, 2, 20, 21, 22, 10, 23, 3, 4, 5, 24, 25, 26, 27, 28, 29, 30, 31, 32, 33, 34, 35] (by decide +kernel) (by decide +kernel)
set_option maxRecDepth 20000 in
theorem gX2_addTrain_X2_trainIn : GoodIn wsX2_addTrain (wsV RX2 64 RX2 yX2_trainIn wsX2_trainIn) := goodIn_app (goodIn_of _ (by decide +kernel)) ggX2_addTrain_X2_trainIn
theorem dX2_addTrain_0 : decode cX2_addTrain 0 = .ok (.aload_n 0, 1) := by decide +kernel
theorem dX2_addTrain_1 : decode cX2_addTrain 1 = .ok (.iload_n 1, 1) := by decide +kernel
theorem dX2_addTrain_2 : decode cX2_addTrain 2 = .ok (.invokevirtual 46, 3) := by decide +kernel
theorem dX2_addTrain_5 : decode cX2_addTrain 5 = .ok (.ifCond .ne 5, 3) := by decide +kernel
theorem dX2_addTrain_8 : decode cX2_addTrain 8 = .ok (.iconst (-1), 1) := by decide +kernel
theorem dX2_addTrain_9 : decode cX2_addTrain 9 = .ok (.ireturn, 1) := by decide +kernel
theorem dX2_addTrain_10 : decode cX2_addTrain 10 = .ok (.aload_n 0, 1) := by decide +kernel
theorem dX2_addTrain_11 : decode cX2_addTrain 11 = .ok (.getfield 16, 3) := by decide +kernel
theorem dX2_addTrain_14 : decode cX2_addTrain 14 = .ok (.iload_n 1, 1) := by decide +kernel
theorem dX2_addTrain_15 : decode cX2_addTrain 15 = .ok (.iaload, 1) := by decide +kernel
theorem dX2_addTrain_16 : decode cX2_addTrain 16 = .ok (.istore 4, 2) := by decide +kernel
theorem dX2_addTrain_18 : decode cX2_addTrain 18 = .ok (.iload 4, 2) := by decide +kernel
theorem dX2_addTrain_20 : decode cX2_addTrain 20 = .ok (.iconst 2, 1) := by decide +kernel
theorem dX2_addTrain_21 : decode cX2_addTrain 21 = .ok (.if_icmp .ge 8, 3) := by decide +kernel
theorem dX2_addTrain_24 : decode cX2_addTrain 24 = .ok (.bipush 11, 2) := by decide +kernel
theorem dX2_addTrain_26 : decode cX2_addTrain 26 = .ok (.goto 7, 3) := by decide +kernel
theorem dX2_addTrain_29 : decode cX2_addTrain 29 = .ok (.iload 4, 2) := by decide +kernel
theorem dX2_addTrain_31 : decode cX2_addTrain 31 = .ok (.iconst 1, 1) := by decide +kernel
theorem dX2_addTrain_32 : decode cX2_addTrain 32 = .ok (.isub, 1) := by decide +kernel
theorem dX2_addTrain_33 : decode cX2_addTrain 33 = .ok (.istore 5, 2) := by decide +kernel
theorem dX2_addTrain_35 : decode cX2_addTrain 35 = .ok (.iload_n 2, 1) := by decide +kernel
theorem dX2_addTrain_36 : decode cX2_addTrain 36 = .ok (.iconst 0, 1) := by decide +kernel
theorem dX2_addTrain_37 : decode cX2_addTrain 37 = .ok (.iload 5, 2) := by decide +kernel
theorem dX2_addTrain_39 : decode cX2_addTrain 39 = .ok (.invokestatic 50, 3) := by decide +kernel
theorem dX2_addTrain_42 : decode cX2_addTrain 42 = .ok (.ifCond .eq 13, 3) := by decide +kernel
theorem dX2_addTrain_45 : decode cX2_addTrain 45 = .ok (.iload_n 3, 1) := by decide +kernel
theorem dX2_addTrain_46 : decode cX2_addTrain 46 = .ok (.iconst 1, 1) := by decide +kernel
theorem dX2_addTrain_47 : decode cX2_addTrain 47 = .ok (.bipush 9, 2) := by decide +kernel
theorem dX2_addTrain_49 : decode cX2_addTrain 49 = .ok (.invokestatic 50, 3) := by decide +kernel
theorem dX2_addTrain_52 : decode cX2_addTrain 52 = .ok (.ifCond .ne 6, 3) := by decide +kernel
theorem dX2_addTrain_55 : decode cX2_addTrain 55 = .ok (.bipush (-2), 2) := by decide +kernel
theorem dX2_addTrain_57 : decode cX2_addTrain 57 = .ok (.ireturn, 1) := by decide +kernel
theorem dX2_addTrain_58 : decode cX2_addTrain 58 = .ok (.iload 4, 2) := by decide +kernel
theorem dX2_addTrain_60 : decode cX2_addTrain 60 = .ok (.iconst 2, 1) := by decide +kernel
theorem dX2_addTrain_61 : decode cX2_addTrain 61 = .ok (.if_icmp .ge 6, 3) := by decide +kernel
theorem dX2_addTrain_64 : decode cX2_addTrain 64 = .ok (.bipush (-3), 2) := by decide +kernel
theorem dX2_addTrain_66 : decode cX2_addTrain 66 = .ok (.ireturn, 1) := by decide +kernel
theorem dX2_addTrain_67 : decode cX2_addTrain 67 = .ok (.aload_n 0, 1) := by decide +kernel
theorem dX2_addTrain_68 : decode cX2_addTrain 68 = .ok (.getfield 61, 3) := by decide +kernel
theorem dX2_addTrain_71 : decode cX2_addTrain 71 = .ok (.iconst 4, 1) := by decide +kernel
theorem dX2_addTrain_72 : decode cX2_addTrain 72 = .ok (.if_icmp .lt 6, 3) := by decide +kernel
theorem dX2_addTrain_75 : decode cX2_addTrain 75 = .ok (.bipush (-4), 2) := by decide +kernel
theorem dX2_addTrain_77 : decode cX2_addTrain 77 = .ok (.ireturn, 1) := by decide +kernel
theorem dX2_addTrain_78 : decode cX2_addTrain 78 = .ok (.aload_n 0, 1) := by decide +kernel
theorem dX2_addTrain_79 : decode cX2_addTrain 79 = .ok (.aload_n 0, 1) := by decide +kernel
theorem dX2_addTrain_80 : decode cX2_addTrain 80 = .ok (.getfield 13, 3) := by decide +kernel
theorem dX2_addTrain_83 : decode cX2_addTrain 83 = .ok (.iload_n 1, 1) := by decide +kernel
theorem dX2_addTrain_84 : decode cX2_addTrain 84 = .ok (.aaload, 1) := by decide +kernel
theorem dX2_addTrain_85 : decode cX2_addTrain 85 = .ok (.iload_n 2, 1) := by decide +kernel
theorem dX2_addTrain_86 : decode cX2_addTrain 86 = .ok (.iaload, 1) := by decide +kernel
theorem dX2_addTrain_87 : decode cX2_addTrain 87 = .ok (.invokevirtual 64, 3) := by decide +kernel
theorem dX2_addTrain_90 : decode cX2_addTrain 90 = .ok (.bipush (-6), 2) := by decide +kernel
theorem dX2_addTrain_92 : decode cX2_addTrain 92 = .ok (.if_icmp .eq 6, 3) := by decide +kernel
theorem dX2_addTrain_95 : decode cX2_addTrain 95 = .ok (.bipush (-5), 2) := by decide +kernel
theorem dX2_addTrain_97 : decode cX2_addTrain 97 = .ok (.ireturn, 1) := by decide +kernel
theorem dX2_addTrain_98 : decode cX2_addTrain 98 = .ok (.aload_n 0, 1) := by decide +kernel
theorem dX2_addTrain_99 : decode cX2_addTrain 99 = .ok (.getfield 20, 3) := by decide +kernel
theorem dX2_addTrain_102 : decode cX2_addTrain 102 = .ok (.aload_n 0, 1) := by decide +kernel
theorem dX2_addTrain_103 : decode cX2_addTrain 103 = .ok (.getfield 61, 3) := by decide +kernel
theorem dX2_addTrain_106 : decode cX2_addTrain 106 = .ok (.iload_n 1, 1) := by decide +kernel
theorem dX2_addTrain_107 : decode cX2_addTrain 107 = .ok (.iastore, 1) := by decide +kernel
theorem dX2_addTrain_108 : decode cX2_addTrain 108 = .ok (.aload_n 0, 1) := by decide +kernel
theorem dX2_addTrain_109 : decode cX2_addTrain 109 = .ok (.getfield 23, 3) := by decide +kernel
theorem dX2_addTrain_112 : decode cX2_addTrain 112 = .ok (.aload_n 0, 1) := by decide +kernel
theorem dX2_addTrain_113 : decode cX2_addTrain 113 = .ok (.getfield 61, 3) := by decide +kernel
theorem dX2_addTrain_116 : decode cX2_addTrain 116 = .ok (.iload_n 2, 1) := by decide +kernel
theorem dX2_addTrain_117 : decode cX2_addTrain 117 = .ok (.iastore, 1) := by decide +kernel
theorem dX2_addTrain_118 : decode cX2_addTrain 118 = .ok (.aload_n 0, 1) := by decide +kernel
theorem dX2_addTrain_119 : decode cX2_addTrain 119 = .ok (.getfield 26, 3) := by decide +kernel
theorem dX2_addTrain_122 : decode cX2_addTrain 122 = .ok (.aload_n 0, 1) := by decide +kernel
theorem dX2_addTrain_123 : decode cX2_addTrain 123 = .ok (.getfield 61, 3) := by decide +kernel
theorem dX2_addTrain_126 : decode cX2_addTrain 126 = .ok (.iload_n 3, 1) := by decide +kernel
theorem dX2_addTrain_127 : decode cX2_addTrain 127 = .ok (.iastore, 1) := by decide +kernel
theorem dX2_addTrain_128 : decode cX2_addTrain 128 = .ok (.aload_n 0, 1) := by decide +kernel
theorem dX2_addTrain_129 : decode cX2_addTrain 129 = .ok (.dup, 1) := by decide +kernel
theorem dX2_addTrain_130 : decode cX2_addTrain 130 = .ok (.getfield 61, 3) := by decide +kernel
theorem dX2_addTrain_133 : decode cX2_addTrain 133 = .ok (.iconst 1, 1) := by decide +kernel
theorem dX2_addTrain_134 : decode cX2_addTrain 134 = .ok (.iadd, 1) := by decide +kernel
theorem dX2_addTrain_135 : decode cX2_addTrain 135 = .ok (.putfield 61, 3) := by decide +kernel
theorem dX2_addTrain_138 : decode cX2_addTrain 138 = .ok (.aload_n 0, 1) := by decide +kernel
theorem dX2_addTrain_139 : decode cX2_addTrain 139 = .ok (.getfield 61, 3) := by decide +kernel
theorem dX2_addTrain_142 : decode cX2_addTrain 142 = .ok (.iconst 1, 1) := by decide +kernel
theorem dX2_addTrain_143 : decode cX2_addTrain 143 = .ok (.isub, 1) := by decide +kernel
theorem dX2_addTrain_144 : decode cX2_addTrain 144 = .ok (.ireturn, 1) := by decide +kernel
set_option maxRecDepth 20000 in
theorem ggX2_setStuck_X2_isTrain : GoodIn wsX2_setStuck wsX2_isTrain := goodIn_r _ [6, 7, 8, 9, 10, 13, 14, 15, 16, 17, 18, 19, 20, 21, 22, 23, 24] (by decide +kernel) (by decide +kernel)
set_option maxRecDepth 20000 in
theorem gX2_setStuck_X2_isTrain : GoodIn wsX2_setStuck (wsV RX2 68 RX2 yX2_isTrain wsX2_isTrain) := goodIn_app (goodIn_of _ (by decide +kernel)) ggX2_setStuck_X2_isTrain
set_option maxRecDepth 20000 in
theorem ggX2_setStuck_X4_oneIf : GoodIn wsX2_setStuck wsX4_oneIf := goodIn_r _ [12] (by decide +kernel) (by decide +kernel)
set_option maxRecDepth 20000 in
theorem gX2_setStuck_X4_oneIf_n71 : GoodIn wsX2_setStuck (wsX4_oneIf) := ggX2_setStuck_X4_oneIf
theorem dX2_setStuck_0 : decode cX2_setStuck 0 = .ok (.aload_n 0, 1) := by decide +kernel
theorem dX2_setStuck_1 : decode cX2_setStuck 1 = .ok (.iload_n 1, 1) := by decide +kernel
theorem dX2_setStuck_2 : decode cX2_setStuck 2 = .ok (.invokevirtual 68, 3) := by decide +kernel
theorem dX2_setStuck_5 : decode cX2_setStuck 5 = .ok (.ifCond .ne 5, 3) := by decide +kernel
theorem dX2_setStuck_8 : decode cX2_setStuck 8 = .ok (.iconst (-1), 1) := by decide +kernel
theorem dX2_setStuck_9 : decode cX2_setStuck 9 = .ok (.ireturn, 1) := by decide +kernel
theorem dX2_setStuck_10 : decode cX2_setStuck 10 = .ok (.aload_n 0, 1) := by decide +kernel
theorem dX2_setStuck_11 : decode cX2_setStuck 11 = .ok (.getfield 38, 3) := by decide +kernel
theorem dX2_setStuck_14 : decode cX2_setStuck 14 = .ok (.iload_n 1, 1) := by decide +kernel
theorem dX2_setStuck_15 : decode cX2_setStuck 15 = .ok (.baload, 1) := by decide +kernel
theorem dX2_setStuck_16 : decode cX2_setStuck 16 = .ok (.invokestatic 71, 3) := by decide +kernel
theorem dX2_setStuck_19 : decode cX2_setStuck 19 = .ok (.istore_n 3, 1) := by decide +kernel
theorem dX2_setStuck_20 : decode cX2_setStuck 20 = .ok (.aload_n 0, 1) := by decide +kernel
theorem dX2_setStuck_21 : decode cX2_setStuck 21 = .ok (.getfield 38, 3) := by decide +kernel
theorem dX2_setStuck_24 : decode cX2_setStuck 24 = .ok (.iload_n 1, 1) := by decide +kernel
theorem dX2_setStuck_25 : decode cX2_setStuck 25 = .ok (.iload_n 2, 1) := by decide +kernel
theorem dX2_setStuck_26 : decode cX2_setStuck 26 = .ok (.bastore, 1) := by decide +kernel
theorem dX2_setStuck_27 : decode cX2_setStuck 27 = .ok (.iload_n 3, 1) := by decide +kernel
theorem dX2_setStuck_28 : decode cX2_setStuck 28 = .ok (.ireturn, 1) := by decide +kernel
set_option maxRecDepth 20000 in
theorem ggX2_goMinutes_X4_isWithin : GoodIn wsX2_goMinutes wsX4_isWithin := goodIn_r _ [6] (by decide +kernel) (by decide +kernel)
set_option maxRecDepth 20000 in
theorem gX2_goMinutes_X4_isWithin_n50 : GoodIn wsX2_goMinutes (wsX4_isWithin) := ggX2_goMinutes_X4_isWithin
set_option maxRecDepth 20000 in
theorem ggX2_goMinutes_X2_goesOn : GoodIn wsX2_goMinutes wsX2_goesOn := goodIn_r _ [11, 12, 13, 14, 15, 16, 17, 18, 19, 10, 20, 21, 22, 23, 24, 25, 26, 27, 28, 29, 30, 31, 1, 32, 33, 34, 35, 38, 39, 40, 41, 42, 43, 44, 45, 46, 47, 48, 49] (by decide +kernel) (by decide +kernel)
set_option maxRecDepth 20000 in
theorem gX2_goMinutes_X2_goesOn : GoodIn wsX2_goMinutes (wsV RX2 75 RX2 yX2_goesOn wsX2_goesOn) := goodIn_app (goodIn_of _ (by decide +kernel)) ggX2_goMinutes_X2_goesOn
set_option maxRecDepth 20000 in
theorem ggX2_goMinutes_X4_oneIf : GoodIn wsX2_goMinutes wsX4_oneIf := goodIn_r _ [37] (by decide +kernel) (by decide +kernel)
set_option maxRecDepth 20000 in
theorem gX2_goMinutes_X4_oneIf_n71 : GoodIn wsX2_goMinutes (wsX4_oneIf) := ggX2_goMinutes_X4_oneIf
theorem dX2_goMinutes_0 : decode cX2_goMinutes 0 = .ok (.iload_n 1, 1) := by decide +kernel
theorem dX2_goMinutes_1 : decode cX2_goMinutes 1 = .ok (.iconst 1, 1) := by decide +kernel
theorem dX2_goMinutes_2 : decode cX2_goMinutes 2 = .ok (.sipush 500, 3) := by decide +kernel
theorem dX2_goMinutes_5 : decode cX2_goMinutes 5 = .ok (.invokestatic 50, 3) := by decide +kernel
theorem dX2_goMinutes_8 : decode cX2_goMinutes 8 = .ok (.ifCond .ne 6, 3) := by decide +kernel
theorem dX2_goMinutes_11 : decode cX2_goMinutes 11 = .ok (.bipush (-2), 2) := by decide +kernel
theorem dX2_goMinutes_13 : decode cX2_goMinutes 13 = .ok (.ireturn, 1) := by decide +kernel
theorem dX2_goMinutes_14 : decode cX2_goMinutes 14 = .ok (.iconst 0, 1) := by decide +kernel
theorem dX2_goMinutes_15 : decode cX2_goMinutes 15 = .ok (.istore_n 2, 1) := by decide +kernel
theorem dX2_goMinutes_16 : decode cX2_goMinutes 16 = .ok (.iconst 0, 1) := by decide +kernel
theorem dX2_goMinutes_17 : decode cX2_goMinutes 17 = .ok (.istore_n 3, 1) := by decide +kernel
theorem dX2_goMinutes_18 : decode cX2_goMinutes 18 = .ok (.iload_n 3, 1) := by decide +kernel
theorem dX2_goMinutes_19 : decode cX2_goMinutes 19 = .ok (.iload_n 1, 1) := by decide +kernel
theorem dX2_goMinutes_20 : decode cX2_goMinutes 20 = .ok (.if_icmp .ge 57, 3) := by decide +kernel
theorem dX2_goMinutes_23 : decode cX2_goMinutes 23 = .ok (.iconst 0, 1) := by decide +kernel
theorem dX2_goMinutes_24 : decode cX2_goMinutes 24 = .ok (.istore 4, 2) := by decide +kernel
theorem dX2_goMinutes_26 : decode cX2_goMinutes 26 = .ok (.iload 4, 2) := by decide +kernel
theorem dX2_goMinutes_28 : decode cX2_goMinutes 28 = .ok (.aload_n 0, 1) := by decide +kernel
theorem dX2_goMinutes_29 : decode cX2_goMinutes 29 = .ok (.getfield 61, 3) := by decide +kernel
theorem dX2_goMinutes_32 : decode cX2_goMinutes 32 = .ok (.if_icmp .ge 39, 3) := by decide +kernel
theorem dX2_goMinutes_35 : decode cX2_goMinutes 35 = .ok (.iload_n 2, 1) := by decide +kernel
theorem dX2_goMinutes_36 : decode cX2_goMinutes 36 = .ok (.aload_n 0, 1) := by decide +kernel
theorem dX2_goMinutes_37 : decode cX2_goMinutes 37 = .ok (.getfield 38, 3) := by decide +kernel
theorem dX2_goMinutes_40 : decode cX2_goMinutes 40 = .ok (.iload 4, 2) := by decide +kernel
theorem dX2_goMinutes_42 : decode cX2_goMinutes 42 = .ok (.baload, 1) := by decide +kernel
theorem dX2_goMinutes_43 : decode cX2_goMinutes 43 = .ok (.ifCond .ne 16, 3) := by decide +kernel
theorem dX2_goMinutes_46 : decode cX2_goMinutes 46 = .ok (.aload_n 0, 1) := by decide +kernel
theorem dX2_goMinutes_47 : decode cX2_goMinutes 47 = .ok (.iload 4, 2) := by decide +kernel
theorem dX2_goMinutes_49 : decode cX2_goMinutes 49 = .ok (.invokevirtual 75, 3) := by decide +kernel
theorem dX2_goMinutes_52 : decode cX2_goMinutes 52 = .ok (.ifCond .eq 7, 3) := by decide +kernel
theorem dX2_goMinutes_55 : decode cX2_goMinutes 55 = .ok (.iconst 1, 1) := by decide +kernel
theorem dX2_goMinutes_56 : decode cX2_goMinutes 56 = .ok (.goto 4, 3) := by decide +kernel
theorem dX2_goMinutes_59 : decode cX2_goMinutes 59 = .ok (.iconst 0, 1) := by decide +kernel
theorem dX2_goMinutes_60 : decode cX2_goMinutes 60 = .ok (.invokestatic 71, 3) := by decide +kernel
theorem dX2_goMinutes_63 : decode cX2_goMinutes 63 = .ok (.iadd, 1) := by decide +kernel
theorem dX2_goMinutes_64 : decode cX2_goMinutes 64 = .ok (.istore_n 2, 1) := by decide +kernel
theorem dX2_goMinutes_65 : decode cX2_goMinutes 65 = .ok (.iinc 4 1, 3) := by decide +kernel
theorem dX2_goMinutes_68 : decode cX2_goMinutes 68 = .ok (.goto (-42), 3) := by decide +kernel
theorem dX2_goMinutes_71 : decode cX2_goMinutes 71 = .ok (.iinc 3 1, 3) := by decide +kernel
theorem dX2_goMinutes_74 : decode cX2_goMinutes 74 = .ok (.goto (-56), 3) := by decide +kernel
theorem dX2_goMinutes_77 : decode cX2_goMinutes 77 = .ok (.aload_n 0, 1) := by decide +kernel
theorem dX2_goMinutes_78 : decode cX2_goMinutes 78 = .ok (.dup, 1) := by decide +kernel
theorem dX2_goMinutes_79 : decode cX2_goMinutes 79 = .ok (.getfield 78, 3) := by decide +kernel
theorem dX2_goMinutes_82 : decode cX2_goMinutes 82 = .ok (.iload_n 1, 1) := by decide +kernel
theorem dX2_goMinutes_83 : decode cX2_goMinutes 83 = .ok (.iadd, 1) := by decide +kernel
theorem dX2_goMinutes_84 : decode cX2_goMinutes 84 = .ok (.putfield 78, 3) := by decide +kernel
theorem dX2_goMinutes_87 : decode cX2_goMinutes 87 = .ok (.iload_n 2, 1) := by decide +kernel
theorem dX2_goMinutes_88 : decode cX2_goMinutes 88 = .ok (.ireturn, 1) := by decide +kernel
set_option maxRecDepth 20000 in
theorem ggX2_aboutTrain_X2_isTrain : GoodIn wsX2_aboutTrain wsX2_isTrain := goodIn_r _ [11, 12, 13, 14, 15, 36, 37, 38, 39, 40, 41, 42, 43, 44, 45, 46, 47] (by decide +kernel) (by decide +kernel)
set_option maxRecDepth 20000 in
theorem gX2_aboutTrain_X2_isTrain : GoodIn wsX2_aboutTrain (wsV RX2 68 RX2 yX2_isTrain wsX2_isTrain) := goodIn_app (goodIn_of _ (by decide +kernel)) ggX2_aboutTrain_X2_isTrain
set_option maxRecDepth 20000 in
theorem ggX2_aboutTrain_X2_blockOf : GoodIn wsX2_aboutTrain wsX2_blockOf := goodIn_r _ [19, 20, 1, 2, 36, 37, 38, 39, 40, 41, 42, 43, 44, 45, 46, 47] (by decide +kernel) (by decide +kernel)
set_option maxRecDepth 20000 in
theorem gX2_aboutTrain_X2_blockOf : GoodIn wsX2_aboutTrain (wsV RX2 81 RX2 yX2_blockOf wsX2_blockOf) := goodIn_app (goodIn_of _ (by decide +kernel)) ggX2_aboutTrain_X2_blockOf
set_option maxRecDepth 20000 in
theorem ggX2_aboutTrain_X4_oneIf : GoodIn wsX2_aboutTrain wsX4_oneIf := goodIn_r _ [22] (by decide +kernel) (by decide +kernel)
set_option maxRecDepth 20000 in
theorem gX2_aboutTrain_X4_oneIf_n71 : GoodIn wsX2_aboutTrain (wsX4_oneIf) := ggX2_aboutTrain_X4_oneIf
set_option maxRecDepth 20000 in
theorem ggX2_aboutTrain_X2_trainAhead : GoodIn wsX2_aboutTrain wsX2_trainAhead := goodIn_r _ [26, 20, 1, 27, 28, 29, 10, 30, 2, 31, 32, 33, 34, 35, 12, 16, 17, 18, 19, 36, 37, 38, 39, 40, 41, 42, 43, 44, 45, 46, 47] (by decide +kernel) (by decide +kernel)
set_option maxRecDepth 20000 in
theorem gX2_aboutTrain_X2_trainAhead : GoodIn wsX2_aboutTrain (wsV RX2 84 RX2 yX2_trainAhead wsX2_trainAhead) := goodIn_app (goodIn_of _ (by decide +kernel)) ggX2_aboutTrain_X2_trainAhead
theorem dX2_aboutTrain_0 : decode cX2_aboutTrain 0 = .ok (.aload_n 0, 1) := by decide +kernel
theorem dX2_aboutTrain_1 : decode cX2_aboutTrain 1 = .ok (.iload_n 1, 1) := by decide +kernel
theorem dX2_aboutTrain_2 : decode cX2_aboutTrain 2 = .ok (.invokevirtual 68, 3) := by decide +kernel
theorem dX2_aboutTrain_5 : decode cX2_aboutTrain 5 = .ok (.ifCond .ne 5, 3) := by decide +kernel
theorem dX2_aboutTrain_8 : decode cX2_aboutTrain 8 = .ok (.iconst (-1), 1) := by decide +kernel
theorem dX2_aboutTrain_9 : decode cX2_aboutTrain 9 = .ok (.ireturn, 1) := by decide +kernel
theorem dX2_aboutTrain_10 : decode cX2_aboutTrain 10 = .ok (.iload_n 2, 1) := by decide +kernel
theorem dX2_aboutTrain_11 : decode cX2_aboutTrain 11 = .ok (.tableswitch 102 0 7 #[45, 52, 59, 65, 72, 82, 89, 96], 45) := by decide +kernel
theorem dX2_aboutTrain_56 : decode cX2_aboutTrain 56 = .ok (.aload_n 0, 1) := by decide +kernel
theorem dX2_aboutTrain_57 : decode cX2_aboutTrain 57 = .ok (.getfield 20, 3) := by decide +kernel
theorem dX2_aboutTrain_60 : decode cX2_aboutTrain 60 = .ok (.iload_n 1, 1) := by decide +kernel
theorem dX2_aboutTrain_61 : decode cX2_aboutTrain 61 = .ok (.iaload, 1) := by decide +kernel
theorem dX2_aboutTrain_62 : decode cX2_aboutTrain 62 = .ok (.ireturn, 1) := by decide +kernel
theorem dX2_aboutTrain_63 : decode cX2_aboutTrain 63 = .ok (.aload_n 0, 1) := by decide +kernel
theorem dX2_aboutTrain_64 : decode cX2_aboutTrain 64 = .ok (.getfield 23, 3) := by decide +kernel
theorem dX2_aboutTrain_67 : decode cX2_aboutTrain 67 = .ok (.iload_n 1, 1) := by decide +kernel
theorem dX2_aboutTrain_68 : decode cX2_aboutTrain 68 = .ok (.iaload, 1) := by decide +kernel
theorem dX2_aboutTrain_69 : decode cX2_aboutTrain 69 = .ok (.ireturn, 1) := by decide +kernel
theorem dX2_aboutTrain_70 : decode cX2_aboutTrain 70 = .ok (.aload_n 0, 1) := by decide +kernel
theorem dX2_aboutTrain_71 : decode cX2_aboutTrain 71 = .ok (.iload_n 1, 1) := by decide +kernel
theorem dX2_aboutTrain_72 : decode cX2_aboutTrain 72 = .ok (.invokevirtual 81, 3) := by decide +kernel
theorem dX2_aboutTrain_75 : decode cX2_aboutTrain 75 = .ok (.ireturn, 1) := by decide +kernel
theorem dX2_aboutTrain_76 : decode cX2_aboutTrain 76 = .ok (.aload_n 0, 1) := by decide +kernel
theorem dX2_aboutTrain_77 : decode cX2_aboutTrain 77 = .ok (.getfield 29, 3) := by decide +kernel
theorem dX2_aboutTrain_80 : decode cX2_aboutTrain 80 = .ok (.iload_n 1, 1) := by decide +kernel
theorem dX2_aboutTrain_81 : decode cX2_aboutTrain 81 = .ok (.iaload, 1) := by decide +kernel
theorem dX2_aboutTrain_82 : decode cX2_aboutTrain 82 = .ok (.ireturn, 1) := by decide +kernel
theorem dX2_aboutTrain_83 : decode cX2_aboutTrain 83 = .ok (.aload_n 0, 1) := by decide +kernel
theorem dX2_aboutTrain_84 : decode cX2_aboutTrain 84 = .ok (.getfield 38, 3) := by decide +kernel
theorem dX2_aboutTrain_87 : decode cX2_aboutTrain 87 = .ok (.iload_n 1, 1) := by decide +kernel
theorem dX2_aboutTrain_88 : decode cX2_aboutTrain 88 = .ok (.baload, 1) := by decide +kernel
theorem dX2_aboutTrain_89 : decode cX2_aboutTrain 89 = .ok (.invokestatic 71, 3) := by decide +kernel
theorem dX2_aboutTrain_92 : decode cX2_aboutTrain 92 = .ok (.ireturn, 1) := by decide +kernel
theorem dX2_aboutTrain_93 : decode cX2_aboutTrain 93 = .ok (.aload_n 0, 1) := by decide +kernel
theorem dX2_aboutTrain_94 : decode cX2_aboutTrain 94 = .ok (.getfield 32, 3) := by decide +kernel
theorem dX2_aboutTrain_97 : decode cX2_aboutTrain 97 = .ok (.iload_n 1, 1) := by decide +kernel
theorem dX2_aboutTrain_98 : decode cX2_aboutTrain 98 = .ok (.iaload, 1) := by decide +kernel
theorem dX2_aboutTrain_99 : decode cX2_aboutTrain 99 = .ok (.ireturn, 1) := by decide +kernel
theorem dX2_aboutTrain_100 : decode cX2_aboutTrain 100 = .ok (.aload_n 0, 1) := by decide +kernel
theorem dX2_aboutTrain_101 : decode cX2_aboutTrain 101 = .ok (.getfield 35, 3) := by decide +kernel
theorem dX2_aboutTrain_104 : decode cX2_aboutTrain 104 = .ok (.iload_n 1, 1) := by decide +kernel
theorem dX2_aboutTrain_105 : decode cX2_aboutTrain 105 = .ok (.iaload, 1) := by decide +kernel
theorem dX2_aboutTrain_106 : decode cX2_aboutTrain 106 = .ok (.ireturn, 1) := by decide +kernel
theorem dX2_aboutTrain_107 : decode cX2_aboutTrain 107 = .ok (.aload_n 0, 1) := by decide +kernel
theorem dX2_aboutTrain_108 : decode cX2_aboutTrain 108 = .ok (.iload_n 1, 1) := by decide +kernel
theorem dX2_aboutTrain_109 : decode cX2_aboutTrain 109 = .ok (.invokevirtual 84, 3) := by decide +kernel
theorem dX2_aboutTrain_112 : decode cX2_aboutTrain 112 = .ok (.ireturn, 1) := by decide +kernel
theorem dX2_aboutTrain_113 : decode cX2_aboutTrain 113 = .ok (.bipush (-2), 2) := by decide +kernel
theorem dX2_aboutTrain_115 : decode cX2_aboutTrain 115 = .ok (.ireturn, 1) := by decide +kernel
set_option maxRecDepth 20000 in
theorem ggX2_standing_X2_mayGoOn : GoodIn wsX2_standing wsX2_mayGoOn := goodIn_r _ [6, 7, 8, 9, 10, 5, 11, 12, 13, 14, 15, 16, 17, 18, 19, 20, 21, 22, 23, 1, 24, 25, 26, 27, 28, 29, 30, 31, 32, 33, 34, 35, 36, 37, 38, 39] (by decide +kernel) (by decide +kernel)
set_option maxRecDepth 20000 in
theorem gX2_standing_X2_mayGoOn : GoodIn wsX2_standing (wsV RX2 87 RX2 yX2_mayGoOn wsX2_mayGoOn) := goodIn_app (goodIn_of _ (by decide +kernel)) ggX2_standing_X2_mayGoOn
theorem dX2_standing_0 : decode cX2_standing 0 = .ok (.iconst 1, 1) := by decide +kernel
theorem dX2_standing_1 : decode cX2_standing 1 = .ok (.aload_n 0, 1) := by decide +kernel
theorem dX2_standing_2 : decode cX2_standing 2 = .ok (.getfield 61, 3) := by decide +kernel
theorem dX2_standing_5 : decode cX2_standing 5 = .ok (.ishl, 1) := by decide +kernel
theorem dX2_standing_6 : decode cX2_standing 6 = .ok (.iconst 1, 1) := by decide +kernel
theorem dX2_standing_7 : decode cX2_standing 7 = .ok (.isub, 1) := by decide +kernel
theorem dX2_standing_8 : decode cX2_standing 8 = .ok (.istore_n 1, 1) := by decide +kernel
theorem dX2_standing_9 : decode cX2_standing 9 = .ok (.iconst 0, 1) := by decide +kernel
theorem dX2_standing_10 : decode cX2_standing 10 = .ok (.istore_n 2, 1) := by decide +kernel
theorem dX2_standing_11 : decode cX2_standing 11 = .ok (.iload_n 2, 1) := by decide +kernel
theorem dX2_standing_12 : decode cX2_standing 12 = .ok (.aload_n 0, 1) := by decide +kernel
theorem dX2_standing_13 : decode cX2_standing 13 = .ok (.getfield 61, 3) := by decide +kernel
theorem dX2_standing_16 : decode cX2_standing 16 = .ok (.if_icmp .ge 42, 3) := by decide +kernel
theorem dX2_standing_19 : decode cX2_standing 19 = .ok (.iconst 0, 1) := by decide +kernel
theorem dX2_standing_20 : decode cX2_standing 20 = .ok (.istore_n 3, 1) := by decide +kernel
theorem dX2_standing_21 : decode cX2_standing 21 = .ok (.iload_n 3, 1) := by decide +kernel
theorem dX2_standing_22 : decode cX2_standing 22 = .ok (.aload_n 0, 1) := by decide +kernel
theorem dX2_standing_23 : decode cX2_standing 23 = .ok (.getfield 61, 3) := by decide +kernel
theorem dX2_standing_26 : decode cX2_standing 26 = .ok (.if_icmp .ge 26, 3) := by decide +kernel
theorem dX2_standing_29 : decode cX2_standing 29 = .ok (.aload_n 0, 1) := by decide +kernel
theorem dX2_standing_30 : decode cX2_standing 30 = .ok (.iload_n 3, 1) := by decide +kernel
theorem dX2_standing_31 : decode cX2_standing 31 = .ok (.iload_n 1, 1) := by decide +kernel
theorem dX2_standing_32 : decode cX2_standing 32 = .ok (.invokevirtual 87, 3) := by decide +kernel
theorem dX2_standing_35 : decode cX2_standing 35 = .ok (.ifCond .eq 11, 3) := by decide +kernel
theorem dX2_standing_38 : decode cX2_standing 38 = .ok (.iload_n 1, 1) := by decide +kernel
theorem dX2_standing_39 : decode cX2_standing 39 = .ok (.iconst 1, 1) := by decide +kernel
theorem dX2_standing_40 : decode cX2_standing 40 = .ok (.iload_n 3, 1) := by decide +kernel
theorem dX2_standing_41 : decode cX2_standing 41 = .ok (.ishl, 1) := by decide +kernel
theorem dX2_standing_42 : decode cX2_standing 42 = .ok (.iconst (-1), 1) := by decide +kernel
theorem dX2_standing_43 : decode cX2_standing 43 = .ok (.ixor, 1) := by decide +kernel
theorem dX2_standing_44 : decode cX2_standing 44 = .ok (.iand, 1) := by decide +kernel
theorem dX2_standing_45 : decode cX2_standing 45 = .ok (.istore_n 1, 1) := by decide +kernel
theorem dX2_standing_46 : decode cX2_standing 46 = .ok (.iinc 3 1, 3) := by decide +kernel
theorem dX2_standing_49 : decode cX2_standing 49 = .ok (.goto (-28), 3) := by decide +kernel
theorem dX2_standing_52 : decode cX2_standing 52 = .ok (.iinc 2 1, 3) := by decide +kernel
theorem dX2_standing_55 : decode cX2_standing 55 = .ok (.goto (-44), 3) := by decide +kernel
theorem dX2_standing_58 : decode cX2_standing 58 = .ok (.iload_n 1, 1) := by decide +kernel
theorem dX2_standing_59 : decode cX2_standing 59 = .ok (.ireturn, 1) := by decide +kernel
set_option maxRecDepth 20000 in
theorem ggX2_isRing_X4_isWithin : GoodIn wsX2_isRing wsX4_isWithin := goodIn_r _ [4] (by decide +kernel) (by decide +kernel)
set_option maxRecDepth 20000 in
theorem gX2_isRing_X4_isWithin_n50 : GoodIn wsX2_isRing (wsX4_isWithin) := ggX2_isRing_X4_isWithin
theorem dX2_isRing_0 : decode cX2_isRing 0 = .ok (.iload_n 1, 1) := by decide +kernel
theorem dX2_isRing_1 : decode cX2_isRing 1 = .ok (.iconst 0, 1) := by decide +kernel
theorem dX2_isRing_2 : decode cX2_isRing 2 = .ok (.aload_n 0, 1) := by decide +kernel
theorem dX2_isRing_3 : decode cX2_isRing 3 = .ok (.getfield 42, 3) := by decide +kernel
theorem dX2_isRing_6 : decode cX2_isRing 6 = .ok (.iconst 1, 1) := by decide +kernel
theorem dX2_isRing_7 : decode cX2_isRing 7 = .ok (.isub, 1) := by decide +kernel
theorem dX2_isRing_8 : decode cX2_isRing 8 = .ok (.invokestatic 50, 3) := by decide +kernel
theorem dX2_isRing_11 : decode cX2_isRing 11 = .ok (.ireturn, 1) := by decide +kernel
set_option maxRecDepth 20000 in
theorem ggX2_isTrain_X4_isWithin : GoodIn wsX2_isTrain wsX4_isWithin := goodIn_r _ [4] (by decide +kernel) (by decide +kernel)
set_option maxRecDepth 20000 in
theorem gX2_isTrain_X4_isWithin_n50 : GoodIn wsX2_isTrain (wsX4_isWithin) := ggX2_isTrain_X4_isWithin
theorem dX2_isTrain_0 : decode cX2_isTrain 0 = .ok (.iload_n 1, 1) := by decide +kernel
theorem dX2_isTrain_1 : decode cX2_isTrain 1 = .ok (.iconst 0, 1) := by decide +kernel
theorem dX2_isTrain_2 : decode cX2_isTrain 2 = .ok (.aload_n 0, 1) := by decide +kernel
theorem dX2_isTrain_3 : decode cX2_isTrain 3 = .ok (.getfield 61, 3) := by decide +kernel
theorem dX2_isTrain_6 : decode cX2_isTrain 6 = .ok (.iconst 1, 1) := by decide +kernel
theorem dX2_isTrain_7 : decode cX2_isTrain 7 = .ok (.isub, 1) := by decide +kernel
theorem dX2_isTrain_8 : decode cX2_isTrain 8 = .ok (.invokestatic 50, 3) := by decide +kernel
theorem dX2_isTrain_11 : decode cX2_isTrain 11 = .ok (.ireturn, 1) := by decide +kernel
theorem dX2_hasTrain_0 : decode cX2_hasTrain 0 = .ok (.iconst 0, 1) := by decide +kernel
theorem dX2_hasTrain_1 : decode cX2_hasTrain 1 = .ok (.istore_n 2, 1) := by decide +kernel
theorem dX2_hasTrain_2 : decode cX2_hasTrain 2 = .ok (.iload_n 2, 1) := by decide +kernel
theorem dX2_hasTrain_3 : decode cX2_hasTrain 3 = .ok (.aload_n 0, 1) := by decide +kernel
theorem dX2_hasTrain_4 : decode cX2_hasTrain 4 = .ok (.getfield 61, 3) := by decide +kernel
theorem dX2_hasTrain_7 : decode cX2_hasTrain 7 = .ok (.if_icmp .ge 21, 3) := by decide +kernel
theorem dX2_hasTrain_10 : decode cX2_hasTrain 10 = .ok (.aload_n 0, 1) := by decide +kernel
theorem dX2_hasTrain_11 : decode cX2_hasTrain 11 = .ok (.getfield 20, 3) := by decide +kernel
theorem dX2_hasTrain_14 : decode cX2_hasTrain 14 = .ok (.iload_n 2, 1) := by decide +kernel
theorem dX2_hasTrain_15 : decode cX2_hasTrain 15 = .ok (.iaload, 1) := by decide +kernel
theorem dX2_hasTrain_16 : decode cX2_hasTrain 16 = .ok (.iload_n 1, 1) := by decide +kernel
theorem dX2_hasTrain_17 : decode cX2_hasTrain 17 = .ok (.if_icmp .ne 5, 3) := by decide +kernel
theorem dX2_hasTrain_20 : decode cX2_hasTrain 20 = .ok (.iconst 1, 1) := by decide +kernel
theorem dX2_hasTrain_21 : decode cX2_hasTrain 21 = .ok (.ireturn, 1) := by decide +kernel
theorem dX2_hasTrain_22 : decode cX2_hasTrain 22 = .ok (.iinc 2 1, 3) := by decide +kernel
theorem dX2_hasTrain_25 : decode cX2_hasTrain 25 = .ok (.goto (-23), 3) := by decide +kernel
theorem dX2_hasTrain_28 : decode cX2_hasTrain 28 = .ok (.iconst 0, 1) := by decide +kernel
theorem dX2_hasTrain_29 : decode cX2_hasTrain 29 = .ok (.ireturn, 1) := by decide +kernel
theorem dX2_hasBlock_0 : decode cX2_hasBlock 0 = .ok (.iconst 0, 1) := by decide +kernel
theorem dX2_hasBlock_1 : decode cX2_hasBlock 1 = .ok (.istore_n 3, 1) := by decide +kernel
theorem dX2_hasBlock_2 : decode cX2_hasBlock 2 = .ok (.iload_n 3, 1) := by decide +kernel
theorem dX2_hasBlock_3 : decode cX2_hasBlock 3 = .ok (.aload_n 0, 1) := by decide +kernel
theorem dX2_hasBlock_4 : decode cX2_hasBlock 4 = .ok (.getfield 16, 3) := by decide +kernel
theorem dX2_hasBlock_7 : decode cX2_hasBlock 7 = .ok (.iload_n 1, 1) := by decide +kernel
theorem dX2_hasBlock_8 : decode cX2_hasBlock 8 = .ok (.iaload, 1) := by decide +kernel
theorem dX2_hasBlock_9 : decode cX2_hasBlock 9 = .ok (.if_icmp .ge 23, 3) := by decide +kernel
theorem dX2_hasBlock_12 : decode cX2_hasBlock 12 = .ok (.aload_n 0, 1) := by decide +kernel
theorem dX2_hasBlock_13 : decode cX2_hasBlock 13 = .ok (.getfield 13, 3) := by decide +kernel
theorem dX2_hasBlock_16 : decode cX2_hasBlock 16 = .ok (.iload_n 1, 1) := by decide +kernel
theorem dX2_hasBlock_17 : decode cX2_hasBlock 17 = .ok (.aaload, 1) := by decide +kernel
theorem dX2_hasBlock_18 : decode cX2_hasBlock 18 = .ok (.iload_n 3, 1) := by decide +kernel
theorem dX2_hasBlock_19 : decode cX2_hasBlock 19 = .ok (.iaload, 1) := by decide +kernel
theorem dX2_hasBlock_20 : decode cX2_hasBlock 20 = .ok (.iload_n 2, 1) := by decide +kernel
theorem dX2_hasBlock_21 : decode cX2_hasBlock 21 = .ok (.if_icmp .ne 5, 3) := by decide +kernel
theorem dX2_hasBlock_24 : decode cX2_hasBlock 24 = .ok (.iconst 1, 1) := by decide +kernel
theorem dX2_hasBlock_25 : decode cX2_hasBlock 25 = .ok (.ireturn, 1) := by decide +kernel
theorem dX2_hasBlock_26 : decode cX2_hasBlock 26 = .ok (.iinc 3 1, 3) := by decide +kernel
theorem dX2_hasBlock_29 : decode cX2_hasBlock 29 = .ok (.goto (-27), 3) := by decide +kernel
theorem dX2_hasBlock_32 : decode cX2_hasBlock 32 = .ok (.iconst 0, 1) := by decide +kernel
theorem dX2_hasBlock_33 : decode cX2_hasBlock 33 = .ok (.ireturn, 1) := by decide +kernel
theorem dX2_blockOf_0 : decode cX2_blockOf 0 = .ok (.aload_n 0, 1) := by decide +kernel
theorem dX2_blockOf_1 : decode cX2_blockOf 1 = .ok (.getfield 13, 3) := by decide +kernel
theorem dX2_blockOf_4 : decode cX2_blockOf 4 = .ok (.aload_n 0, 1) := by decide +kernel
theorem dX2_blockOf_5 : decode cX2_blockOf 5 = .ok (.getfield 20, 3) := by decide +kernel
theorem dX2_blockOf_8 : decode cX2_blockOf 8 = .ok (.iload_n 1, 1) := by decide +kernel
theorem dX2_blockOf_9 : decode cX2_blockOf 9 = .ok (.iaload, 1) := by decide +kernel
theorem dX2_blockOf_10 : decode cX2_blockOf 10 = .ok (.aaload, 1) := by decide +kernel
theorem dX2_blockOf_11 : decode cX2_blockOf 11 = .ok (.aload_n 0, 1) := by decide +kernel
theorem dX2_blockOf_12 : decode cX2_blockOf 12 = .ok (.getfield 23, 3) := by decide +kernel
theorem dX2_blockOf_15 : decode cX2_blockOf 15 = .ok (.iload_n 1, 1) := by decide +kernel
theorem dX2_blockOf_16 : decode cX2_blockOf 16 = .ok (.iaload, 1) := by decide +kernel
theorem dX2_blockOf_17 : decode cX2_blockOf 17 = .ok (.iaload, 1) := by decide +kernel
theorem dX2_blockOf_18 : decode cX2_blockOf 18 = .ok (.ireturn, 1) := by decide +kernel
theorem dX2_nextPlace_0 : decode cX2_nextPlace 0 = .ok (.aload_n 0, 1) := by decide +kernel
theorem dX2_nextPlace_1 : decode cX2_nextPlace 1 = .ok (.getfield 23, 3) := by decide +kernel
theorem dX2_nextPlace_4 : decode cX2_nextPlace 4 = .ok (.iload_n 1, 1) := by decide +kernel
theorem dX2_nextPlace_5 : decode cX2_nextPlace 5 = .ok (.iaload, 1) := by decide +kernel
theorem dX2_nextPlace_6 : decode cX2_nextPlace 6 = .ok (.iconst 1, 1) := by decide +kernel
theorem dX2_nextPlace_7 : decode cX2_nextPlace 7 = .ok (.iadd, 1) := by decide +kernel
theorem dX2_nextPlace_8 : decode cX2_nextPlace 8 = .ok (.istore_n 2, 1) := by decide +kernel
theorem dX2_nextPlace_9 : decode cX2_nextPlace 9 = .ok (.iload_n 2, 1) := by decide +kernel
theorem dX2_nextPlace_10 : decode cX2_nextPlace 10 = .ok (.aload_n 0, 1) := by decide +kernel
theorem dX2_nextPlace_11 : decode cX2_nextPlace 11 = .ok (.getfield 16, 3) := by decide +kernel
theorem dX2_nextPlace_14 : decode cX2_nextPlace 14 = .ok (.aload_n 0, 1) := by decide +kernel
theorem dX2_nextPlace_15 : decode cX2_nextPlace 15 = .ok (.getfield 20, 3) := by decide +kernel
theorem dX2_nextPlace_18 : decode cX2_nextPlace 18 = .ok (.iload_n 1, 1) := by decide +kernel
theorem dX2_nextPlace_19 : decode cX2_nextPlace 19 = .ok (.iaload, 1) := by decide +kernel
theorem dX2_nextPlace_20 : decode cX2_nextPlace 20 = .ok (.iaload, 1) := by decide +kernel
theorem dX2_nextPlace_21 : decode cX2_nextPlace 21 = .ok (.if_icmp .ge 7, 3) := by decide +kernel
theorem dX2_nextPlace_24 : decode cX2_nextPlace 24 = .ok (.iload_n 2, 1) := by decide +kernel
theorem dX2_nextPlace_25 : decode cX2_nextPlace 25 = .ok (.goto 4, 3) := by decide +kernel
theorem dX2_nextPlace_28 : decode cX2_nextPlace 28 = .ok (.iconst 0, 1) := by decide +kernel
theorem dX2_nextPlace_29 : decode cX2_nextPlace 29 = .ok (.ireturn, 1) := by decide +kernel
set_option maxRecDepth 20000 in
theorem ggX2_trainIn_X2_blockOf : GoodIn wsX2_trainIn wsX2_blockOf := goodIn_r _ [6, 7, 8, 9, 10, 11, 12, 13, 14, 15, 16, 17, 18, 19, 20, 21] (by decide +kernel) (by decide +kernel)
set_option maxRecDepth 20000 in
theorem gX2_trainIn_X2_blockOf : GoodIn wsX2_trainIn (wsV RX2 81 RX2 yX2_blockOf wsX2_blockOf) := goodIn_app (goodIn_of _ (by decide +kernel)) ggX2_trainIn_X2_blockOf
theorem dX2_trainIn_0 : decode cX2_trainIn 0 = .ok (.iconst 0, 1) := by decide +kernel
theorem dX2_trainIn_1 : decode cX2_trainIn 1 = .ok (.istore_n 2, 1) := by decide +kernel
theorem dX2_trainIn_2 : decode cX2_trainIn 2 = .ok (.iload_n 2, 1) := by decide +kernel
theorem dX2_trainIn_3 : decode cX2_trainIn 3 = .ok (.aload_n 0, 1) := by decide +kernel
theorem dX2_trainIn_4 : decode cX2_trainIn 4 = .ok (.getfield 61, 3) := by decide +kernel
theorem dX2_trainIn_7 : decode cX2_trainIn 7 = .ok (.if_icmp .ge 20, 3) := by decide +kernel
theorem dX2_trainIn_10 : decode cX2_trainIn 10 = .ok (.aload_n 0, 1) := by decide +kernel
theorem dX2_trainIn_11 : decode cX2_trainIn 11 = .ok (.iload_n 2, 1) := by decide +kernel
theorem dX2_trainIn_12 : decode cX2_trainIn 12 = .ok (.invokevirtual 81, 3) := by decide +kernel
theorem dX2_trainIn_15 : decode cX2_trainIn 15 = .ok (.iload_n 1, 1) := by decide +kernel
theorem dX2_trainIn_16 : decode cX2_trainIn 16 = .ok (.if_icmp .ne 5, 3) := by decide +kernel
theorem dX2_trainIn_19 : decode cX2_trainIn 19 = .ok (.iload_n 2, 1) := by decide +kernel
theorem dX2_trainIn_20 : decode cX2_trainIn 20 = .ok (.ireturn, 1) := by decide +kernel
theorem dX2_trainIn_21 : decode cX2_trainIn 21 = .ok (.iinc 2 1, 3) := by decide +kernel
theorem dX2_trainIn_24 : decode cX2_trainIn 24 = .ok (.goto (-22), 3) := by decide +kernel
theorem dX2_trainIn_27 : decode cX2_trainIn 27 = .ok (.bipush (-6), 2) := by decide +kernel
theorem dX2_trainIn_29 : decode cX2_trainIn 29 = .ok (.ireturn, 1) := by decide +kernel
set_option maxRecDepth 20000 in
theorem ggX2_trainAhead_X2_nextPlace : GoodIn wsX2_trainAhead wsX2_nextPlace := goodIn_r _ [7, 8, 9, 2, 19, 20, 21, 22, 23, 24, 25, 26, 27, 28, 29, 30] (by decide +kernel) (by decide +kernel)
set_option maxRecDepth 20000 in
theorem gX2_trainAhead_X2_nextPlace : GoodIn wsX2_trainAhead (wsV RX2 90 RX2 yX2_nextPlace wsX2_nextPlace) := goodIn_app (goodIn_of _ (by decide +kernel)) ggX2_trainAhead_X2_nextPlace
set_option maxRecDepth 20000 in
theorem ggX2_trainAhead_X2_trainIn : GoodIn wsX2_trainAhead wsX2_trainIn := goodIn_r _ [13, 14, 15, 16, 17, 6, 18, 1, 2, 8, 19, 20, 21, 22, 23, 24, 25, 26, 27, 28, 29, 30] (by decide +kernel) (by decide +kernel)
set_option maxRecDepth 20000 in
theorem gX2_trainAhead_X2_trainIn : GoodIn wsX2_trainAhead (wsV RX2 64 RX2 yX2_trainIn wsX2_trainIn) := goodIn_app (goodIn_of _ (by decide +kernel)) ggX2_trainAhead_X2_trainIn
theorem dX2_trainAhead_0 : decode cX2_trainAhead 0 = .ok (.aload_n 0, 1) := by decide +kernel
theorem dX2_trainAhead_1 : decode cX2_trainAhead 1 = .ok (.aload_n 0, 1) := by decide +kernel
theorem dX2_trainAhead_2 : decode cX2_trainAhead 2 = .ok (.getfield 13, 3) := by decide +kernel
theorem dX2_trainAhead_5 : decode cX2_trainAhead 5 = .ok (.aload_n 0, 1) := by decide +kernel
theorem dX2_trainAhead_6 : decode cX2_trainAhead 6 = .ok (.getfield 20, 3) := by decide +kernel
theorem dX2_trainAhead_9 : decode cX2_trainAhead 9 = .ok (.iload_n 1, 1) := by decide +kernel
theorem dX2_trainAhead_10 : decode cX2_trainAhead 10 = .ok (.iaload, 1) := by decide +kernel
theorem dX2_trainAhead_11 : decode cX2_trainAhead 11 = .ok (.aaload, 1) := by decide +kernel
theorem dX2_trainAhead_12 : decode cX2_trainAhead 12 = .ok (.aload_n 0, 1) := by decide +kernel
theorem dX2_trainAhead_13 : decode cX2_trainAhead 13 = .ok (.iload_n 1, 1) := by decide +kernel
theorem dX2_trainAhead_14 : decode cX2_trainAhead 14 = .ok (.invokevirtual 90, 3) := by decide +kernel
theorem dX2_trainAhead_17 : decode cX2_trainAhead 17 = .ok (.iaload, 1) := by decide +kernel
theorem dX2_trainAhead_18 : decode cX2_trainAhead 18 = .ok (.invokevirtual 64, 3) := by decide +kernel
theorem dX2_trainAhead_21 : decode cX2_trainAhead 21 = .ok (.ireturn, 1) := by decide +kernel
set_option maxRecDepth 20000 in
theorem ggX2_goesOn_X2_trainAhead : GoodIn wsX2_goesOn wsX2_trainAhead := goodIn_r _ [10, 11, 12, 13, 14, 15, 9, 16, 4, 17, 18, 19, 20, 21, 22, 23, 24, 25, 26, 27, 28, 29, 30, 31, 32, 33, 34, 35, 36, 37, 38] (by decide +kernel) (by decide +kernel)
set_option maxRecDepth 20000 in
theorem gX2_goesOn_X2_trainAhead : GoodIn wsX2_goesOn (wsV RX2 84 RX2 yX2_trainAhead wsX2_trainAhead) := goodIn_app (goodIn_of _ (by decide +kernel)) ggX2_goesOn_X2_trainAhead
set_option maxRecDepth 20000 in
theorem ggX2_goesOn_X2_nextPlace : GoodIn wsX2_goesOn wsX2_nextPlace := goodIn_r _ [16, 4, 17, 12, 27, 28, 29, 30, 31, 32, 33, 34, 35, 36, 37, 38] (by decide +kernel) (by decide +kernel)
set_option maxRecDepth 20000 in
theorem gX2_goesOn_X2_nextPlace : GoodIn wsX2_goesOn (wsV RX2 90 RX2 yX2_nextPlace wsX2_nextPlace) := goodIn_app (goodIn_of _ (by decide +kernel)) ggX2_goesOn_X2_nextPlace
theorem dX2_goesOn_0 : decode cX2_goesOn 0 = .ok (.aload_n 0, 1) := by decide +kernel
theorem dX2_goesOn_1 : decode cX2_goesOn 1 = .ok (.getfield 29, 3) := by decide +kernel
theorem dX2_goesOn_4 : decode cX2_goesOn 4 = .ok (.iload_n 1, 1) := by decide +kernel
theorem dX2_goesOn_5 : decode cX2_goesOn 5 = .ok (.dup2, 1) := by decide +kernel
theorem dX2_goesOn_6 : decode cX2_goesOn 6 = .ok (.iaload, 1) := by decide +kernel
theorem dX2_goesOn_7 : decode cX2_goesOn 7 = .ok (.iconst 1, 1) := by decide +kernel
theorem dX2_goesOn_8 : decode cX2_goesOn 8 = .ok (.iadd, 1) := by decide +kernel
theorem dX2_goesOn_9 : decode cX2_goesOn 9 = .ok (.iastore, 1) := by decide +kernel
theorem dX2_goesOn_10 : decode cX2_goesOn 10 = .ok (.aload_n 0, 1) := by decide +kernel
theorem dX2_goesOn_11 : decode cX2_goesOn 11 = .ok (.getfield 29, 3) := by decide +kernel
theorem dX2_goesOn_14 : decode cX2_goesOn 14 = .ok (.iload_n 1, 1) := by decide +kernel
theorem dX2_goesOn_15 : decode cX2_goesOn 15 = .ok (.iaload, 1) := by decide +kernel
theorem dX2_goesOn_16 : decode cX2_goesOn 16 = .ok (.aload_n 0, 1) := by decide +kernel
theorem dX2_goesOn_17 : decode cX2_goesOn 17 = .ok (.getfield 26, 3) := by decide +kernel
theorem dX2_goesOn_20 : decode cX2_goesOn 20 = .ok (.iload_n 1, 1) := by decide +kernel
theorem dX2_goesOn_21 : decode cX2_goesOn 21 = .ok (.iaload, 1) := by decide +kernel
theorem dX2_goesOn_22 : decode cX2_goesOn 22 = .ok (.if_icmp .ge 5, 3) := by decide +kernel
theorem dX2_goesOn_25 : decode cX2_goesOn 25 = .ok (.iconst 0, 1) := by decide +kernel
theorem dX2_goesOn_26 : decode cX2_goesOn 26 = .ok (.ireturn, 1) := by decide +kernel
theorem dX2_goesOn_27 : decode cX2_goesOn 27 = .ok (.aload_n 0, 1) := by decide +kernel
theorem dX2_goesOn_28 : decode cX2_goesOn 28 = .ok (.iload_n 1, 1) := by decide +kernel
theorem dX2_goesOn_29 : decode cX2_goesOn 29 = .ok (.invokevirtual 84, 3) := by decide +kernel
theorem dX2_goesOn_32 : decode cX2_goesOn 32 = .ok (.bipush (-6), 2) := by decide +kernel
theorem dX2_goesOn_34 : decode cX2_goesOn 34 = .ok (.if_icmp .eq 15, 3) := by decide +kernel
theorem dX2_goesOn_37 : decode cX2_goesOn 37 = .ok (.aload_n 0, 1) := by decide +kernel
theorem dX2_goesOn_38 : decode cX2_goesOn 38 = .ok (.getfield 32, 3) := by decide +kernel
theorem dX2_goesOn_41 : decode cX2_goesOn 41 = .ok (.iload_n 1, 1) := by decide +kernel
theorem dX2_goesOn_42 : decode cX2_goesOn 42 = .ok (.dup2, 1) := by decide +kernel
theorem dX2_goesOn_43 : decode cX2_goesOn 43 = .ok (.iaload, 1) := by decide +kernel
theorem dX2_goesOn_44 : decode cX2_goesOn 44 = .ok (.iconst 1, 1) := by decide +kernel
theorem dX2_goesOn_45 : decode cX2_goesOn 45 = .ok (.iadd, 1) := by decide +kernel
theorem dX2_goesOn_46 : decode cX2_goesOn 46 = .ok (.iastore, 1) := by decide +kernel
theorem dX2_goesOn_47 : decode cX2_goesOn 47 = .ok (.iconst 0, 1) := by decide +kernel
theorem dX2_goesOn_48 : decode cX2_goesOn 48 = .ok (.ireturn, 1) := by decide +kernel
theorem dX2_goesOn_49 : decode cX2_goesOn 49 = .ok (.aload_n 0, 1) := by decide +kernel
theorem dX2_goesOn_50 : decode cX2_goesOn 50 = .ok (.getfield 23, 3) := by decide +kernel
theorem dX2_goesOn_53 : decode cX2_goesOn 53 = .ok (.iload_n 1, 1) := by decide +kernel
theorem dX2_goesOn_54 : decode cX2_goesOn 54 = .ok (.aload_n 0, 1) := by decide +kernel
theorem dX2_goesOn_55 : decode cX2_goesOn 55 = .ok (.iload_n 1, 1) := by decide +kernel
theorem dX2_goesOn_56 : decode cX2_goesOn 56 = .ok (.invokevirtual 90, 3) := by decide +kernel
theorem dX2_goesOn_59 : decode cX2_goesOn 59 = .ok (.iastore, 1) := by decide +kernel
theorem dX2_goesOn_60 : decode cX2_goesOn 60 = .ok (.aload_n 0, 1) := by decide +kernel
theorem dX2_goesOn_61 : decode cX2_goesOn 61 = .ok (.getfield 29, 3) := by decide +kernel
theorem dX2_goesOn_64 : decode cX2_goesOn 64 = .ok (.iload_n 1, 1) := by decide +kernel
theorem dX2_goesOn_65 : decode cX2_goesOn 65 = .ok (.iconst 0, 1) := by decide +kernel
theorem dX2_goesOn_66 : decode cX2_goesOn 66 = .ok (.iastore, 1) := by decide +kernel
theorem dX2_goesOn_67 : decode cX2_goesOn 67 = .ok (.aload_n 0, 1) := by decide +kernel
theorem dX2_goesOn_68 : decode cX2_goesOn 68 = .ok (.getfield 35, 3) := by decide +kernel
theorem dX2_goesOn_71 : decode cX2_goesOn 71 = .ok (.iload_n 1, 1) := by decide +kernel
theorem dX2_goesOn_72 : decode cX2_goesOn 72 = .ok (.dup2, 1) := by decide +kernel
theorem dX2_goesOn_73 : decode cX2_goesOn 73 = .ok (.iaload, 1) := by decide +kernel
theorem dX2_goesOn_74 : decode cX2_goesOn 74 = .ok (.iconst 1, 1) := by decide +kernel
theorem dX2_goesOn_75 : decode cX2_goesOn 75 = .ok (.iadd, 1) := by decide +kernel
theorem dX2_goesOn_76 : decode cX2_goesOn 76 = .ok (.iastore, 1) := by decide +kernel
theorem dX2_goesOn_77 : decode cX2_goesOn 77 = .ok (.iconst 1, 1) := by decide +kernel
theorem dX2_goesOn_78 : decode cX2_goesOn 78 = .ok (.ireturn, 1) := by decide +kernel
set_option maxRecDepth 20000 in
theorem ggX2_mayGoOn_X2_trainAhead : GoodIn wsX2_mayGoOn wsX2_trainAhead := goodIn_r _ [6, 7, 8, 9, 10, 11, 5, 12, 13, 14, 15, 16, 17, 18, 19, 20, 21, 22, 23, 24, 25, 26, 27, 28, 29, 30, 31, 32, 33, 34, 35] (by decide +kernel) (by decide +kernel)
set_option maxRecDepth 20000 in
theorem gX2_mayGoOn_X2_trainAhead : GoodIn wsX2_mayGoOn (wsV RX2 84 RX2 yX2_trainAhead wsX2_trainAhead) := goodIn_app (goodIn_of _ (by decide +kernel)) ggX2_mayGoOn_X2_trainAhead
theorem dX2_mayGoOn_0 : decode cX2_mayGoOn 0 = .ok (.aload_n 0, 1) := by decide +kernel
theorem dX2_mayGoOn_1 : decode cX2_mayGoOn 1 = .ok (.getfield 38, 3) := by decide +kernel
theorem dX2_mayGoOn_4 : decode cX2_mayGoOn 4 = .ok (.iload_n 1, 1) := by decide +kernel
theorem dX2_mayGoOn_5 : decode cX2_mayGoOn 5 = .ok (.baload, 1) := by decide +kernel
theorem dX2_mayGoOn_6 : decode cX2_mayGoOn 6 = .ok (.ifCond .eq 5, 3) := by decide +kernel
theorem dX2_mayGoOn_9 : decode cX2_mayGoOn 9 = .ok (.iconst 0, 1) := by decide +kernel
theorem dX2_mayGoOn_10 : decode cX2_mayGoOn 10 = .ok (.ireturn, 1) := by decide +kernel
theorem dX2_mayGoOn_11 : decode cX2_mayGoOn 11 = .ok (.aload_n 0, 1) := by decide +kernel
theorem dX2_mayGoOn_12 : decode cX2_mayGoOn 12 = .ok (.iload_n 1, 1) := by decide +kernel
theorem dX2_mayGoOn_13 : decode cX2_mayGoOn 13 = .ok (.invokevirtual 84, 3) := by decide +kernel
theorem dX2_mayGoOn_16 : decode cX2_mayGoOn 16 = .ok (.istore_n 3, 1) := by decide +kernel
theorem dX2_mayGoOn_17 : decode cX2_mayGoOn 17 = .ok (.iload_n 3, 1) := by decide +kernel
theorem dX2_mayGoOn_18 : decode cX2_mayGoOn 18 = .ok (.bipush (-6), 2) := by decide +kernel
theorem dX2_mayGoOn_20 : decode cX2_mayGoOn 20 = .ok (.if_icmp .eq 11, 3) := by decide +kernel
theorem dX2_mayGoOn_23 : decode cX2_mayGoOn 23 = .ok (.iload_n 2, 1) := by decide +kernel
theorem dX2_mayGoOn_24 : decode cX2_mayGoOn 24 = .ok (.iload_n 3, 1) := by decide +kernel
theorem dX2_mayGoOn_25 : decode cX2_mayGoOn 25 = .ok (.ishr, 1) := by decide +kernel
theorem dX2_mayGoOn_26 : decode cX2_mayGoOn 26 = .ok (.iconst 1, 1) := by decide +kernel
theorem dX2_mayGoOn_27 : decode cX2_mayGoOn 27 = .ok (.iand, 1) := by decide +kernel
theorem dX2_mayGoOn_28 : decode cX2_mayGoOn 28 = .ok (.ifCond .ne 7, 3) := by decide +kernel
theorem dX2_mayGoOn_31 : decode cX2_mayGoOn 31 = .ok (.iconst 1, 1) := by decide +kernel
theorem dX2_mayGoOn_32 : decode cX2_mayGoOn 32 = .ok (.goto 4, 3) := by decide +kernel
theorem dX2_mayGoOn_35 : decode cX2_mayGoOn 35 = .ok (.iconst 0, 1) := by decide +kernel
theorem dX2_mayGoOn_36 : decode cX2_mayGoOn 36 = .ok (.ireturn, 1) := by decide +kernel
theorem dX3_init_0 : decode cX3_init 0 = .ok (.aload_n 0, 1) := by decide +kernel
theorem dX3_init_1 : decode cX3_init 1 = .ok (.invokespecial 3, 3) := by decide +kernel
theorem dX3_init_4 : decode cX3_init 4 = .ok (.aload_n 0, 1) := by decide +kernel
theorem dX3_init_5 : decode cX3_init 5 = .ok (.bipush 6, 2) := by decide +kernel
theorem dX3_init_7 : decode cX3_init 7 = .ok (.newarray .int, 2) := by decide +kernel
theorem dX3_init_9 : decode cX3_init 9 = .ok (.putfield 11, 3) := by decide +kernel
theorem dX3_init_12 : decode cX3_init 12 = .ok (.aload_n 0, 1) := by decide +kernel
theorem dX3_init_13 : decode cX3_init 13 = .ok (.bipush 6, 2) := by decide +kernel
theorem dX3_init_15 : decode cX3_init 15 = .ok (.newarray .int, 2) := by decide +kernel
theorem dX3_init_17 : decode cX3_init 17 = .ok (.putfield 15, 3) := by decide +kernel
theorem dX3_init_20 : decode cX3_init 20 = .ok (.aload_n 0, 1) := by decide +kernel
theorem dX3_init_21 : decode cX3_init 21 = .ok (.bipush 6, 2) := by decide +kernel
theorem dX3_init_23 : decode cX3_init 23 = .ok (.newarray .int, 2) := by decide +kernel
theorem dX3_init_25 : decode cX3_init 25 = .ok (.putfield 18, 3) := by decide +kernel
theorem dX3_init_28 : decode cX3_init 28 = .ok (.aload_n 0, 1) := by decide +kernel
theorem dX3_init_29 : decode cX3_init 29 = .ok (.bipush 20, 2) := by decide +kernel
theorem dX3_init_31 : decode cX3_init 31 = .ok (.newarray .int, 2) := by decide +kernel
theorem dX3_init_33 : decode cX3_init 33 = .ok (.putfield 21, 3) := by decide +kernel
theorem dX3_init_36 : decode cX3_init 36 = .ok (.aload_n 0, 1) := by decide +kernel
theorem dX3_init_37 : decode cX3_init 37 = .ok (.bipush 20, 2) := by decide +kernel
theorem dX3_init_39 : decode cX3_init 39 = .ok (.newarray .int, 2) := by decide +kernel
theorem dX3_init_41 : decode cX3_init 41 = .ok (.putfield 24, 3) := by decide +kernel
theorem dX3_init_44 : decode cX3_init 44 = .ok (.aload_n 0, 1) := by decide +kernel
theorem dX3_init_45 : decode cX3_init 45 = .ok (.bipush 20, 2) := by decide +kernel
theorem dX3_init_47 : decode cX3_init 47 = .ok (.newarray .int, 2) := by decide +kernel
theorem dX3_init_49 : decode cX3_init 49 = .ok (.putfield 27, 3) := by decide +kernel
theorem dX3_init_52 : decode cX3_init 52 = .ok (.aload_n 0, 1) := by decide +kernel
theorem dX3_init_53 : decode cX3_init 53 = .ok (.bipush 20, 2) := by decide +kernel
theorem dX3_init_55 : decode cX3_init 55 = .ok (.newarray .int, 2) := by decide +kernel
theorem dX3_init_57 : decode cX3_init 57 = .ok (.putfield 30, 3) := by decide +kernel
theorem dX3_init_60 : decode cX3_init 60 = .ok (.aload_n 0, 1) := by decide +kernel
theorem dX3_init_61 : decode cX3_init 61 = .ok (.bipush 60, 2) := by decide +kernel
theorem dX3_init_63 : decode cX3_init 63 = .ok (.newarray .int, 2) := by decide +kernel
theorem dX3_init_65 : decode cX3_init 65 = .ok (.putfield 33, 3) := by decide +kernel
theorem dX3_init_68 : decode cX3_init 68 = .ok (.aload_n 0, 1) := by decide +kernel
theorem dX3_init_69 : decode cX3_init 69 = .ok (.bipush 60, 2) := by decide +kernel
theorem dX3_init_71 : decode cX3_init 71 = .ok (.newarray .int, 2) := by decide +kernel
theorem dX3_init_73 : decode cX3_init 73 = .ok (.putfield 36, 3) := by decide +kernel
theorem dX3_init_76 : decode cX3_init 76 = .ok (.aload_n 0, 1) := by decide +kernel
theorem dX3_init_77 : decode cX3_init 77 = .ok (.bipush 60, 2) := by decide +kernel
theorem dX3_init_79 : decode cX3_init 79 = .ok (.newarray .int, 2) := by decide +kernel
theorem dX3_init_81 : decode cX3_init 81 = .ok (.putfield 39, 3) := by decide +kernel
theorem dX3_init_84 : decode cX3_init 84 = .ok (.return_, 1) := by decide +kernel
set_option maxRecDepth 20000 in
theorem ggX3_addRule_X4_isDay : GoodIn wsX3_addRule wsX4_isDay := goodIn_r _ [7, 8, 9, 6, 10] (by decide +kernel) (by decide +kernel)
set_option maxRecDepth 20000 in
theorem gX3_addRule_X4_isDay_n42 : GoodIn wsX3_addRule (wsX4_isDay) := ggX3_addRule_X4_isDay
set_option maxRecDepth 20000 in
theorem ggX3_addRule_X4_isWithin : GoodIn wsX3_addRule wsX4_isWithin := goodIn_r _ [10] (by decide +kernel) (by decide +kernel)
set_option maxRecDepth 20000 in
theorem gX3_addRule_X4_isWithin_n46 : GoodIn wsX3_addRule (wsX4_isWithin) := ggX3_addRule_X4_isWithin
theorem dX3_addRule_0 : decode cX3_addRule 0 = .ok (.iload_n 1, 1) := by decide +kernel
theorem dX3_addRule_1 : decode cX3_addRule 1 = .ok (.invokestatic 42, 3) := by decide +kernel
theorem dX3_addRule_4 : decode cX3_addRule 4 = .ok (.ifCond .eq 23, 3) := by decide +kernel
theorem dX3_addRule_7 : decode cX3_addRule 7 = .ok (.iload_n 2, 1) := by decide +kernel
theorem dX3_addRule_8 : decode cX3_addRule 8 = .ok (.iconst 2, 1) := by decide +kernel
theorem dX3_addRule_9 : decode cX3_addRule 9 = .ok (.bipush 30, 2) := by decide +kernel
theorem dX3_addRule_11 : decode cX3_addRule 11 = .ok (.invokestatic 46, 3) := by decide +kernel
theorem dX3_addRule_14 : decode cX3_addRule 14 = .ok (.ifCond .eq 13, 3) := by decide +kernel
theorem dX3_addRule_17 : decode cX3_addRule 17 = .ok (.iload_n 3, 1) := by decide +kernel
theorem dX3_addRule_18 : decode cX3_addRule 18 = .ok (.iconst 0, 1) := by decide +kernel
theorem dX3_addRule_19 : decode cX3_addRule 19 = .ok (.bipush 50, 2) := by decide +kernel
theorem dX3_addRule_21 : decode cX3_addRule 21 = .ok (.invokestatic 46, 3) := by decide +kernel
theorem dX3_addRule_24 : decode cX3_addRule 24 = .ok (.ifCond .ne 6, 3) := by decide +kernel
theorem dX3_addRule_27 : decode cX3_addRule 27 = .ok (.bipush (-2), 2) := by decide +kernel
theorem dX3_addRule_29 : decode cX3_addRule 29 = .ok (.ireturn, 1) := by decide +kernel
theorem dX3_addRule_30 : decode cX3_addRule 30 = .ok (.aload_n 0, 1) := by decide +kernel
theorem dX3_addRule_31 : decode cX3_addRule 31 = .ok (.getfield 50, 3) := by decide +kernel
theorem dX3_addRule_34 : decode cX3_addRule 34 = .ok (.bipush 6, 2) := by decide +kernel
theorem dX3_addRule_36 : decode cX3_addRule 36 = .ok (.if_icmp .lt 6, 3) := by decide +kernel
theorem dX3_addRule_39 : decode cX3_addRule 39 = .ok (.bipush (-4), 2) := by decide +kernel
theorem dX3_addRule_41 : decode cX3_addRule 41 = .ok (.ireturn, 1) := by decide +kernel
theorem dX3_addRule_42 : decode cX3_addRule 42 = .ok (.aload_n 0, 1) := by decide +kernel
theorem dX3_addRule_43 : decode cX3_addRule 43 = .ok (.getfield 11, 3) := by decide +kernel
theorem dX3_addRule_46 : decode cX3_addRule 46 = .ok (.aload_n 0, 1) := by decide +kernel
theorem dX3_addRule_47 : decode cX3_addRule 47 = .ok (.getfield 50, 3) := by decide +kernel
theorem dX3_addRule_50 : decode cX3_addRule 50 = .ok (.iload_n 1, 1) := by decide +kernel
theorem dX3_addRule_51 : decode cX3_addRule 51 = .ok (.iastore, 1) := by decide +kernel
theorem dX3_addRule_52 : decode cX3_addRule 52 = .ok (.aload_n 0, 1) := by decide +kernel
theorem dX3_addRule_53 : decode cX3_addRule 53 = .ok (.getfield 15, 3) := by decide +kernel
theorem dX3_addRule_56 : decode cX3_addRule 56 = .ok (.aload_n 0, 1) := by decide +kernel
theorem dX3_addRule_57 : decode cX3_addRule 57 = .ok (.getfield 50, 3) := by decide +kernel
theorem dX3_addRule_60 : decode cX3_addRule 60 = .ok (.iload_n 2, 1) := by decide +kernel
theorem dX3_addRule_61 : decode cX3_addRule 61 = .ok (.iastore, 1) := by decide +kernel
theorem dX3_addRule_62 : decode cX3_addRule 62 = .ok (.aload_n 0, 1) := by decide +kernel
theorem dX3_addRule_63 : decode cX3_addRule 63 = .ok (.getfield 18, 3) := by decide +kernel
theorem dX3_addRule_66 : decode cX3_addRule 66 = .ok (.aload_n 0, 1) := by decide +kernel
theorem dX3_addRule_67 : decode cX3_addRule 67 = .ok (.getfield 50, 3) := by decide +kernel
theorem dX3_addRule_70 : decode cX3_addRule 70 = .ok (.iload_n 3, 1) := by decide +kernel
theorem dX3_addRule_71 : decode cX3_addRule 71 = .ok (.iastore, 1) := by decide +kernel
theorem dX3_addRule_72 : decode cX3_addRule 72 = .ok (.aload_n 0, 1) := by decide +kernel
theorem dX3_addRule_73 : decode cX3_addRule 73 = .ok (.dup, 1) := by decide +kernel
theorem dX3_addRule_74 : decode cX3_addRule 74 = .ok (.getfield 50, 3) := by decide +kernel
theorem dX3_addRule_77 : decode cX3_addRule 77 = .ok (.iconst 1, 1) := by decide +kernel
theorem dX3_addRule_78 : decode cX3_addRule 78 = .ok (.iadd, 1) := by decide +kernel
theorem dX3_addRule_79 : decode cX3_addRule 79 = .ok (.putfield 50, 3) := by decide +kernel
theorem dX3_addRule_82 : decode cX3_addRule 82 = .ok (.aload_n 0, 1) := by decide +kernel
theorem dX3_addRule_83 : decode cX3_addRule 83 = .ok (.getfield 50, 3) := by decide +kernel
theorem dX3_addRule_86 : decode cX3_addRule 86 = .ok (.ireturn, 1) := by decide +kernel
set_option maxRecDepth 20000 in
theorem ggX3_inForce_X4_isDay : GoodIn wsX3_inForce wsX4_isDay := goodIn_r _ [3, 4, 5, 2, 6] (by decide +kernel) (by decide +kernel)
set_option maxRecDepth 20000 in
theorem gX3_inForce_X4_isDay_n42 : GoodIn wsX3_inForce (wsX4_isDay) := ggX3_inForce_X4_isDay
set_option maxRecDepth 20000 in
theorem ggX3_inForce_X4_isWithin : GoodIn wsX3_inForce wsX4_isWithin := goodIn_r _ [6] (by decide +kernel) (by decide +kernel)
set_option maxRecDepth 20000 in
theorem gX3_inForce_X4_isWithin_n46 : GoodIn wsX3_inForce (wsX4_isWithin) := ggX3_inForce_X4_isWithin
set_option maxRecDepth 20000 in
theorem ggX3_inForce_X3_ratioOn : GoodIn wsX3_inForce wsX3_ratioOn := goodIn_r _ [11, 12, 13, 14, 15, 10, 16, 17, 18, 24, 25, 26, 27, 28, 29, 30, 31, 32, 33, 34, 35, 36] (by decide +kernel) (by decide +kernel)
set_option maxRecDepth 20000 in
theorem gX3_inForce_X3_ratioOn : GoodIn wsX3_inForce (wsV RX3 54 RX3 yX3_ratioOn wsX3_ratioOn) := goodIn_app (goodIn_of _ (by decide +kernel)) ggX3_inForce_X3_ratioOn
set_option maxRecDepth 20000 in
theorem ggX3_inForce_X3_slackOn : GoodIn wsX3_inForce wsX3_slackOn := goodIn_r _ [22, 23, 13, 14, 15, 10, 16, 17, 18, 24, 25, 26, 27, 28, 29, 30, 31, 32, 33, 34, 35, 36] (by decide +kernel) (by decide +kernel)
set_option maxRecDepth 20000 in
theorem gX3_inForce_X3_slackOn : GoodIn wsX3_inForce (wsV RX3 58 RX3 yX3_slackOn wsX3_slackOn) := goodIn_app (goodIn_of _ (by decide +kernel)) ggX3_inForce_X3_slackOn
theorem dX3_inForce_0 : decode cX3_inForce 0 = .ok (.iload_n 1, 1) := by decide +kernel
theorem dX3_inForce_1 : decode cX3_inForce 1 = .ok (.invokestatic 42, 3) := by decide +kernel
theorem dX3_inForce_4 : decode cX3_inForce 4 = .ok (.ifCond .eq 12, 3) := by decide +kernel
theorem dX3_inForce_7 : decode cX3_inForce 7 = .ok (.iload_n 2, 1) := by decide +kernel
theorem dX3_inForce_8 : decode cX3_inForce 8 = .ok (.iconst 0, 1) := by decide +kernel
theorem dX3_inForce_9 : decode cX3_inForce 9 = .ok (.iconst 1, 1) := by decide +kernel
theorem dX3_inForce_10 : decode cX3_inForce 10 = .ok (.invokestatic 46, 3) := by decide +kernel
theorem dX3_inForce_13 : decode cX3_inForce 13 = .ok (.ifCond .ne 6, 3) := by decide +kernel
theorem dX3_inForce_16 : decode cX3_inForce 16 = .ok (.bipush (-2), 2) := by decide +kernel
theorem dX3_inForce_18 : decode cX3_inForce 18 = .ok (.ireturn, 1) := by decide +kernel
theorem dX3_inForce_19 : decode cX3_inForce 19 = .ok (.iload_n 2, 1) := by decide +kernel
theorem dX3_inForce_20 : decode cX3_inForce 20 = .ok (.ifCond .ne 11, 3) := by decide +kernel
theorem dX3_inForce_23 : decode cX3_inForce 23 = .ok (.aload_n 0, 1) := by decide +kernel
theorem dX3_inForce_24 : decode cX3_inForce 24 = .ok (.iload_n 1, 1) := by decide +kernel
theorem dX3_inForce_25 : decode cX3_inForce 25 = .ok (.invokevirtual 54, 3) := by decide +kernel
theorem dX3_inForce_28 : decode cX3_inForce 28 = .ok (.goto 8, 3) := by decide +kernel
theorem dX3_inForce_31 : decode cX3_inForce 31 = .ok (.aload_n 0, 1) := by decide +kernel
theorem dX3_inForce_32 : decode cX3_inForce 32 = .ok (.iload_n 1, 1) := by decide +kernel
theorem dX3_inForce_33 : decode cX3_inForce 33 = .ok (.invokevirtual 58, 3) := by decide +kernel
theorem dX3_inForce_36 : decode cX3_inForce 36 = .ok (.ireturn, 1) := by decide +kernel
set_option maxRecDepth 20000 in
theorem ggX3_addThing_X4_isWithin : GoodIn wsX3_addThing wsX4_isWithin := goodIn_r _ [9] (by decide +kernel) (by decide +kernel)
set_option maxRecDepth 20000 in
theorem gX3_addThing_X4_isWithin_n46 : GoodIn wsX3_addThing (wsX4_isWithin) := ggX3_addThing_X4_isWithin
theorem dX3_addThing_0 : decode cX3_addThing 0 = .ok (.iload_n 1, 1) := by decide +kernel
theorem dX3_addThing_1 : decode cX3_addThing 1 = .ok (.iconst 0, 1) := by decide +kernel
theorem dX3_addThing_2 : decode cX3_addThing 2 = .ok (.iconst 2, 1) := by decide +kernel
theorem dX3_addThing_3 : decode cX3_addThing 3 = .ok (.invokestatic 46, 3) := by decide +kernel
theorem dX3_addThing_6 : decode cX3_addThing 6 = .ok (.ifCond .eq 36, 3) := by decide +kernel
theorem dX3_addThing_9 : decode cX3_addThing 9 = .ok (.iload_n 2, 1) := by decide +kernel
theorem dX3_addThing_10 : decode cX3_addThing 10 = .ok (.bipush 100, 2) := by decide +kernel
theorem dX3_addThing_12 : decode cX3_addThing 12 = .ok (.ldc 61, 2) := by decide +kernel
theorem dX3_addThing_14 : decode cX3_addThing 14 = .ok (.invokestatic 46, 3) := by decide +kernel
theorem dX3_addThing_17 : decode cX3_addThing 17 = .ok (.ifCond .eq 25, 3) := by decide +kernel
theorem dX3_addThing_20 : decode cX3_addThing 20 = .ok (.iload_n 3, 1) := by decide +kernel
theorem dX3_addThing_21 : decode cX3_addThing 21 = .ok (.iconst 1, 1) := by decide +kernel
theorem dX3_addThing_22 : decode cX3_addThing 22 = .ok (.sipush 9000, 3) := by decide +kernel
theorem dX3_addThing_25 : decode cX3_addThing 25 = .ok (.invokestatic 46, 3) := by decide +kernel
theorem dX3_addThing_28 : decode cX3_addThing 28 = .ok (.ifCond .eq 14, 3) := by decide +kernel
theorem dX3_addThing_31 : decode cX3_addThing 31 = .ok (.iload 4, 2) := by decide +kernel
theorem dX3_addThing_33 : decode cX3_addThing 33 = .ok (.iconst 0, 1) := by decide +kernel
theorem dX3_addThing_34 : decode cX3_addThing 34 = .ok (.bipush 50, 2) := by decide +kernel
theorem dX3_addThing_36 : decode cX3_addThing 36 = .ok (.invokestatic 46, 3) := by decide +kernel
theorem dX3_addThing_39 : decode cX3_addThing 39 = .ok (.ifCond .ne 6, 3) := by decide +kernel
theorem dX3_addThing_42 : decode cX3_addThing 42 = .ok (.bipush (-2), 2) := by decide +kernel
theorem dX3_addThing_44 : decode cX3_addThing 44 = .ok (.ireturn, 1) := by decide +kernel
theorem dX3_addThing_45 : decode cX3_addThing 45 = .ok (.aload_n 0, 1) := by decide +kernel
theorem dX3_addThing_46 : decode cX3_addThing 46 = .ok (.getfield 62, 3) := by decide +kernel
theorem dX3_addThing_49 : decode cX3_addThing 49 = .ok (.bipush 20, 2) := by decide +kernel
theorem dX3_addThing_51 : decode cX3_addThing 51 = .ok (.if_icmp .lt 6, 3) := by decide +kernel
theorem dX3_addThing_54 : decode cX3_addThing 54 = .ok (.bipush (-4), 2) := by decide +kernel
theorem dX3_addThing_56 : decode cX3_addThing 56 = .ok (.ireturn, 1) := by decide +kernel
theorem dX3_addThing_57 : decode cX3_addThing 57 = .ok (.aload_n 0, 1) := by decide +kernel
theorem dX3_addThing_58 : decode cX3_addThing 58 = .ok (.getfield 21, 3) := by decide +kernel
theorem dX3_addThing_61 : decode cX3_addThing 61 = .ok (.aload_n 0, 1) := by decide +kernel
theorem dX3_addThing_62 : decode cX3_addThing 62 = .ok (.getfield 62, 3) := by decide +kernel
theorem dX3_addThing_65 : decode cX3_addThing 65 = .ok (.iload_n 1, 1) := by decide +kernel
theorem dX3_addThing_66 : decode cX3_addThing 66 = .ok (.iastore, 1) := by decide +kernel
theorem dX3_addThing_67 : decode cX3_addThing 67 = .ok (.aload_n 0, 1) := by decide +kernel
theorem dX3_addThing_68 : decode cX3_addThing 68 = .ok (.getfield 24, 3) := by decide +kernel
theorem dX3_addThing_71 : decode cX3_addThing 71 = .ok (.aload_n 0, 1) := by decide +kernel
theorem dX3_addThing_72 : decode cX3_addThing 72 = .ok (.getfield 62, 3) := by decide +kernel
theorem dX3_addThing_75 : decode cX3_addThing 75 = .ok (.iload_n 2, 1) := by decide +kernel
theorem dX3_addThing_76 : decode cX3_addThing 76 = .ok (.iastore, 1) := by decide +kernel
theorem dX3_addThing_77 : decode cX3_addThing 77 = .ok (.aload_n 0, 1) := by decide +kernel
theorem dX3_addThing_78 : decode cX3_addThing 78 = .ok (.getfield 27, 3) := by decide +kernel
theorem dX3_addThing_81 : decode cX3_addThing 81 = .ok (.aload_n 0, 1) := by decide +kernel
theorem dX3_addThing_82 : decode cX3_addThing 82 = .ok (.getfield 62, 3) := by decide +kernel
theorem dX3_addThing_85 : decode cX3_addThing 85 = .ok (.iload_n 3, 1) := by decide +kernel
theorem dX3_addThing_86 : decode cX3_addThing 86 = .ok (.iastore, 1) := by decide +kernel
theorem dX3_addThing_87 : decode cX3_addThing 87 = .ok (.aload_n 0, 1) := by decide +kernel
theorem dX3_addThing_88 : decode cX3_addThing 88 = .ok (.getfield 30, 3) := by decide +kernel
theorem dX3_addThing_91 : decode cX3_addThing 91 = .ok (.aload_n 0, 1) := by decide +kernel
theorem dX3_addThing_92 : decode cX3_addThing 92 = .ok (.getfield 62, 3) := by decide +kernel
theorem dX3_addThing_95 : decode cX3_addThing 95 = .ok (.iload_n 1, 1) := by decide +kernel
theorem dX3_addThing_96 : decode cX3_addThing 96 = .ok (.iconst 1, 1) := by decide +kernel
theorem dX3_addThing_97 : decode cX3_addThing 97 = .ok (.if_icmp .ne 8, 3) := by decide +kernel
theorem dX3_addThing_100 : decode cX3_addThing 100 = .ok (.iload 4, 2) := by decide +kernel
theorem dX3_addThing_102 : decode cX3_addThing 102 = .ok (.goto 4, 3) := by decide +kernel
theorem dX3_addThing_105 : decode cX3_addThing 105 = .ok (.iconst 0, 1) := by decide +kernel
theorem dX3_addThing_106 : decode cX3_addThing 106 = .ok (.iastore, 1) := by decide +kernel
theorem dX3_addThing_107 : decode cX3_addThing 107 = .ok (.aload_n 0, 1) := by decide +kernel
theorem dX3_addThing_108 : decode cX3_addThing 108 = .ok (.dup, 1) := by decide +kernel
theorem dX3_addThing_109 : decode cX3_addThing 109 = .ok (.getfield 62, 3) := by decide +kernel
theorem dX3_addThing_112 : decode cX3_addThing 112 = .ok (.iconst 1, 1) := by decide +kernel
theorem dX3_addThing_113 : decode cX3_addThing 113 = .ok (.iadd, 1) := by decide +kernel
theorem dX3_addThing_114 : decode cX3_addThing 114 = .ok (.putfield 62, 3) := by decide +kernel
theorem dX3_addThing_117 : decode cX3_addThing 117 = .ok (.aload_n 0, 1) := by decide +kernel
theorem dX3_addThing_118 : decode cX3_addThing 118 = .ok (.getfield 62, 3) := by decide +kernel
theorem dX3_addThing_121 : decode cX3_addThing 121 = .ok (.iconst 1, 1) := by decide +kernel
theorem dX3_addThing_122 : decode cX3_addThing 122 = .ok (.isub, 1) := by decide +kernel
theorem dX3_addThing_123 : decode cX3_addThing 123 = .ok (.ireturn, 1) := by decide +kernel
set_option maxRecDepth 20000 in
theorem ggX3_clipTree_X3_isThing : GoodIn wsX3_clipTree wsX3_isThing := goodIn_r _ [10, 11, 12, 13, 14, 28, 29, 30, 31, 32, 33, 34, 35, 36, 37, 38, 39, 40] (by decide +kernel) (by decide +kernel)
set_option maxRecDepth 20000 in
theorem gX3_clipTree_X3_isThing : GoodIn wsX3_clipTree (wsV RX3 65 RX3 yX3_isThing wsX3_isThing) := goodIn_app (goodIn_of _ (by decide +kernel)) ggX3_clipTree_X3_isThing
set_option maxRecDepth 20000 in
theorem ggX3_clipTree_X4_isDay : GoodIn wsX3_clipTree wsX4_isDay := goodIn_r _ [16, 17, 12, 13, 14] (by decide +kernel) (by decide +kernel)
set_option maxRecDepth 20000 in
theorem gX3_clipTree_X4_isDay_n42 : GoodIn wsX3_clipTree (wsX4_isDay) := ggX3_clipTree_X4_isDay
set_option maxRecDepth 20000 in
theorem ggX3_clipTree_X4_isWithin : GoodIn wsX3_clipTree wsX4_isWithin := goodIn_r _ [14] (by decide +kernel) (by decide +kernel)
set_option maxRecDepth 20000 in
theorem gX3_clipTree_X4_isWithin_n46 : GoodIn wsX3_clipTree (wsX4_isWithin) := ggX3_clipTree_X4_isWithin
set_option maxRecDepth 20000 in
theorem ggX3_clipTree_X3_clippingOn : GoodIn wsX3_clipTree wsX3_clippingOn := goodIn_r _ [21, 2, 4, 3, 28, 29, 30, 31, 32, 33, 34, 35, 36, 37, 38, 39, 40] (by decide +kernel) (by decide +kernel)
set_option maxRecDepth 20000 in
theorem gX3_clipTree_X3_clippingOn : GoodIn wsX3_clipTree (wsV RX3 71 RX3 yX3_clippingOn wsX3_clippingOn) := goodIn_app (goodIn_of _ (by decide +kernel)) ggX3_clipTree_X3_clippingOn
set_option maxRecDepth 20000 in
theorem ggX3_clipTree_X3_sizeOn : GoodIn wsX3_clipTree wsX3_sizeOn := goodIn_r _ [25, 3, 26, 5, 27, 18, 19, 20, 9, 21, 2, 4, 28, 29, 30, 31, 32, 33, 34, 35, 36, 37, 38, 39, 40] (by decide +kernel) (by decide +kernel)
set_option maxRecDepth 20000 in
theorem gX3_clipTree_X3_sizeOn : GoodIn wsX3_clipTree (wsV RX3 75 RX3 yX3_sizeOn wsX3_sizeOn) := goodIn_app (goodIn_of _ (by decide +kernel)) ggX3_clipTree_X3_sizeOn
theorem dX3_clipTree_0 : decode cX3_clipTree 0 = .ok (.aload_n 0, 1) := by decide +kernel
theorem dX3_clipTree_1 : decode cX3_clipTree 1 = .ok (.iload_n 1, 1) := by decide +kernel
theorem dX3_clipTree_2 : decode cX3_clipTree 2 = .ok (.invokevirtual 65, 3) := by decide +kernel
theorem dX3_clipTree_5 : decode cX3_clipTree 5 = .ok (.ifCond .ne 5, 3) := by decide +kernel
theorem dX3_clipTree_8 : decode cX3_clipTree 8 = .ok (.iconst (-1), 1) := by decide +kernel
theorem dX3_clipTree_9 : decode cX3_clipTree 9 = .ok (.ireturn, 1) := by decide +kernel
theorem dX3_clipTree_10 : decode cX3_clipTree 10 = .ok (.iload_n 2, 1) := by decide +kernel
theorem dX3_clipTree_11 : decode cX3_clipTree 11 = .ok (.invokestatic 42, 3) := by decide +kernel
theorem dX3_clipTree_14 : decode cX3_clipTree 14 = .ok (.ifCond .eq 14, 3) := by decide +kernel
theorem dX3_clipTree_17 : decode cX3_clipTree 17 = .ok (.iload_n 3, 1) := by decide +kernel
theorem dX3_clipTree_18 : decode cX3_clipTree 18 = .ok (.iconst 1, 1) := by decide +kernel
theorem dX3_clipTree_19 : decode cX3_clipTree 19 = .ok (.sipush 9000, 3) := by decide +kernel
theorem dX3_clipTree_22 : decode cX3_clipTree 22 = .ok (.invokestatic 46, 3) := by decide +kernel
theorem dX3_clipTree_25 : decode cX3_clipTree 25 = .ok (.ifCond .ne 6, 3) := by decide +kernel
theorem dX3_clipTree_28 : decode cX3_clipTree 28 = .ok (.bipush (-2), 2) := by decide +kernel
theorem dX3_clipTree_30 : decode cX3_clipTree 30 = .ok (.ireturn, 1) := by decide +kernel
theorem dX3_clipTree_31 : decode cX3_clipTree 31 = .ok (.aload_n 0, 1) := by decide +kernel
theorem dX3_clipTree_32 : decode cX3_clipTree 32 = .ok (.getfield 21, 3) := by decide +kernel
theorem dX3_clipTree_35 : decode cX3_clipTree 35 = .ok (.iload_n 1, 1) := by decide +kernel
theorem dX3_clipTree_36 : decode cX3_clipTree 36 = .ok (.iaload, 1) := by decide +kernel
theorem dX3_clipTree_37 : decode cX3_clipTree 37 = .ok (.iconst 1, 1) := by decide +kernel
theorem dX3_clipTree_38 : decode cX3_clipTree 38 = .ok (.if_icmp .eq 6, 3) := by decide +kernel
theorem dX3_clipTree_41 : decode cX3_clipTree 41 = .ok (.bipush (-3), 2) := by decide +kernel
theorem dX3_clipTree_43 : decode cX3_clipTree 43 = .ok (.ireturn, 1) := by decide +kernel
theorem dX3_clipTree_44 : decode cX3_clipTree 44 = .ok (.aload_n 0, 1) := by decide +kernel
theorem dX3_clipTree_45 : decode cX3_clipTree 45 = .ok (.getfield 68, 3) := by decide +kernel
theorem dX3_clipTree_48 : decode cX3_clipTree 48 = .ok (.bipush 60, 2) := by decide +kernel
theorem dX3_clipTree_50 : decode cX3_clipTree 50 = .ok (.if_icmp .lt 6, 3) := by decide +kernel
theorem dX3_clipTree_53 : decode cX3_clipTree 53 = .ok (.bipush (-4), 2) := by decide +kernel
theorem dX3_clipTree_55 : decode cX3_clipTree 55 = .ok (.ireturn, 1) := by decide +kernel
theorem dX3_clipTree_56 : decode cX3_clipTree 56 = .ok (.aload_n 0, 1) := by decide +kernel
theorem dX3_clipTree_57 : decode cX3_clipTree 57 = .ok (.iload_n 1, 1) := by decide +kernel
theorem dX3_clipTree_58 : decode cX3_clipTree 58 = .ok (.sipush 3000, 3) := by decide +kernel
theorem dX3_clipTree_61 : decode cX3_clipTree 61 = .ok (.invokevirtual 71, 3) := by decide +kernel
theorem dX3_clipTree_64 : decode cX3_clipTree 64 = .ok (.istore 4, 2) := by decide +kernel
theorem dX3_clipTree_66 : decode cX3_clipTree 66 = .ok (.iload 4, 2) := by decide +kernel
theorem dX3_clipTree_68 : decode cX3_clipTree 68 = .ok (.bipush (-6), 2) := by decide +kernel
theorem dX3_clipTree_70 : decode cX3_clipTree 70 = .ok (.if_icmp .eq 17, 3) := by decide +kernel
theorem dX3_clipTree_73 : decode cX3_clipTree 73 = .ok (.iload_n 2, 1) := by decide +kernel
theorem dX3_clipTree_74 : decode cX3_clipTree 74 = .ok (.aload_n 0, 1) := by decide +kernel
theorem dX3_clipTree_75 : decode cX3_clipTree 75 = .ok (.getfield 36, 3) := by decide +kernel
theorem dX3_clipTree_78 : decode cX3_clipTree 78 = .ok (.iload 4, 2) := by decide +kernel
theorem dX3_clipTree_80 : decode cX3_clipTree 80 = .ok (.iaload, 1) := by decide +kernel
theorem dX3_clipTree_81 : decode cX3_clipTree 81 = .ok (.if_icmp .ge 6, 3) := by decide +kernel
theorem dX3_clipTree_84 : decode cX3_clipTree 84 = .ok (.bipush (-5), 2) := by decide +kernel
theorem dX3_clipTree_86 : decode cX3_clipTree 86 = .ok (.ireturn, 1) := by decide +kernel
theorem dX3_clipTree_87 : decode cX3_clipTree 87 = .ok (.aload_n 0, 1) := by decide +kernel
theorem dX3_clipTree_88 : decode cX3_clipTree 88 = .ok (.iload_n 1, 1) := by decide +kernel
theorem dX3_clipTree_89 : decode cX3_clipTree 89 = .ok (.iload_n 2, 1) := by decide +kernel
theorem dX3_clipTree_90 : decode cX3_clipTree 90 = .ok (.invokevirtual 75, 3) := by decide +kernel
theorem dX3_clipTree_93 : decode cX3_clipTree 93 = .ok (.istore 5, 2) := by decide +kernel
theorem dX3_clipTree_95 : decode cX3_clipTree 95 = .ok (.aload_n 0, 1) := by decide +kernel
theorem dX3_clipTree_96 : decode cX3_clipTree 96 = .ok (.getfield 33, 3) := by decide +kernel
theorem dX3_clipTree_99 : decode cX3_clipTree 99 = .ok (.aload_n 0, 1) := by decide +kernel
theorem dX3_clipTree_100 : decode cX3_clipTree 100 = .ok (.getfield 68, 3) := by decide +kernel
theorem dX3_clipTree_103 : decode cX3_clipTree 103 = .ok (.iload_n 1, 1) := by decide +kernel
theorem dX3_clipTree_104 : decode cX3_clipTree 104 = .ok (.iastore, 1) := by decide +kernel
theorem dX3_clipTree_105 : decode cX3_clipTree 105 = .ok (.aload_n 0, 1) := by decide +kernel
theorem dX3_clipTree_106 : decode cX3_clipTree 106 = .ok (.getfield 36, 3) := by decide +kernel
theorem dX3_clipTree_109 : decode cX3_clipTree 109 = .ok (.aload_n 0, 1) := by decide +kernel
theorem dX3_clipTree_110 : decode cX3_clipTree 110 = .ok (.getfield 68, 3) := by decide +kernel
theorem dX3_clipTree_113 : decode cX3_clipTree 113 = .ok (.iload_n 2, 1) := by decide +kernel
theorem dX3_clipTree_114 : decode cX3_clipTree 114 = .ok (.iastore, 1) := by decide +kernel
theorem dX3_clipTree_115 : decode cX3_clipTree 115 = .ok (.aload_n 0, 1) := by decide +kernel
theorem dX3_clipTree_116 : decode cX3_clipTree 116 = .ok (.getfield 39, 3) := by decide +kernel
theorem dX3_clipTree_119 : decode cX3_clipTree 119 = .ok (.aload_n 0, 1) := by decide +kernel
theorem dX3_clipTree_120 : decode cX3_clipTree 120 = .ok (.getfield 68, 3) := by decide +kernel
theorem dX3_clipTree_123 : decode cX3_clipTree 123 = .ok (.iload_n 3, 1) := by decide +kernel
theorem dX3_clipTree_124 : decode cX3_clipTree 124 = .ok (.iastore, 1) := by decide +kernel
theorem dX3_clipTree_125 : decode cX3_clipTree 125 = .ok (.aload_n 0, 1) := by decide +kernel
theorem dX3_clipTree_126 : decode cX3_clipTree 126 = .ok (.dup, 1) := by decide +kernel
theorem dX3_clipTree_127 : decode cX3_clipTree 127 = .ok (.getfield 68, 3) := by decide +kernel
theorem dX3_clipTree_130 : decode cX3_clipTree 130 = .ok (.iconst 1, 1) := by decide +kernel
theorem dX3_clipTree_131 : decode cX3_clipTree 131 = .ok (.iadd, 1) := by decide +kernel
theorem dX3_clipTree_132 : decode cX3_clipTree 132 = .ok (.putfield 68, 3) := by decide +kernel
theorem dX3_clipTree_135 : decode cX3_clipTree 135 = .ok (.iload 5, 2) := by decide +kernel
theorem dX3_clipTree_137 : decode cX3_clipTree 137 = .ok (.ireturn, 1) := by decide +kernel
set_option maxRecDepth 20000 in
theorem ggX3_lookAt_X3_isThing : GoodIn wsX3_lookAt wsX3_isThing := goodIn_r _ [5, 6, 7, 8, 9, 53, 54, 55, 56, 57, 58, 59, 60, 61, 62, 63, 64, 65] (by decide +kernel) (by decide +kernel)
set_option maxRecDepth 20000 in
theorem gX3_lookAt_X3_isThing : GoodIn wsX3_lookAt (wsV RX3 65 RX3 yX3_isThing wsX3_isThing) := goodIn_app (goodIn_of _ (by decide +kernel)) ggX3_lookAt_X3_isThing
set_option maxRecDepth 20000 in
theorem ggX3_lookAt_X4_isDay : GoodIn wsX3_lookAt wsX4_isDay := goodIn_r _ [11, 12, 7, 8, 9] (by decide +kernel) (by decide +kernel)
set_option maxRecDepth 20000 in
theorem gX3_lookAt_X4_isDay_n42 : GoodIn wsX3_lookAt (wsX4_isDay) := ggX3_lookAt_X4_isDay
set_option maxRecDepth 20000 in
theorem ggX3_lookAt_X3_sizeOn : GoodIn wsX3_lookAt wsX3_sizeOn := goodIn_r _ [16, 17, 18, 19, 20, 21, 22, 23, 4, 24, 25, 26, 53, 54, 55, 56, 57, 58, 59, 60, 61, 62, 63, 64, 65] (by decide +kernel) (by decide +kernel)
set_option maxRecDepth 20000 in
theorem gX3_lookAt_X3_sizeOn : GoodIn wsX3_lookAt (wsV RX3 75 RX3 yX3_sizeOn wsX3_sizeOn) := goodIn_app (goodIn_of _ (by decide +kernel)) ggX3_lookAt_X3_sizeOn
set_option maxRecDepth 20000 in
theorem ggX3_lookAt_X3_dueOn : GoodIn wsX3_lookAt wsX3_dueOn := goodIn_r _ [30, 31, 32, 33, 34, 4, 35, 36, 37, 38, 39, 40, 41, 42, 53, 54, 55, 56, 57, 58, 59, 60, 61, 62, 63, 64, 65] (by decide +kernel) (by decide +kernel)
set_option maxRecDepth 20000 in
theorem gX3_lookAt_X3_dueOn : GoodIn wsX3_lookAt (wsV RX3 78 RX3 yX3_dueOn wsX3_dueOn) := goodIn_app (goodIn_of _ (by decide +kernel)) ggX3_lookAt_X3_dueOn
set_option maxRecDepth 20000 in
theorem ggX3_lookAt_X3_faultOn : GoodIn wsX3_lookAt wsX3_faultOn := goodIn_r _ [46, 47, 27, 28, 29, 4, 30, 31, 32, 33, 34, 35, 36, 37, 38, 39, 40, 41, 42, 48, 49, 50, 51, 52, 13, 14, 15, 16, 17, 18, 19, 20, 21, 22, 23, 24, 25, 26, 53, 54, 55, 56, 57, 58, 59, 60, 61, 62, 63, 64, 65] (by decide +kernel) (by decide +kernel)
set_option maxRecDepth 20000 in
theorem gX3_lookAt_X3_faultOn : GoodIn wsX3_lookAt (wsV RX3 81 RX3 yX3_faultOn wsX3_faultOn) := goodIn_app (goodIn_of _ (by decide +kernel)) ggX3_lookAt_X3_faultOn
theorem dX3_lookAt_0 : decode cX3_lookAt 0 = .ok (.aload_n 0, 1) := by decide +kernel
theorem dX3_lookAt_1 : decode cX3_lookAt 1 = .ok (.iload_n 1, 1) := by decide +kernel
theorem dX3_lookAt_2 : decode cX3_lookAt 2 = .ok (.invokevirtual 65, 3) := by decide +kernel
theorem dX3_lookAt_5 : decode cX3_lookAt 5 = .ok (.ifCond .ne 5, 3) := by decide +kernel
theorem dX3_lookAt_8 : decode cX3_lookAt 8 = .ok (.iconst (-1), 1) := by decide +kernel
theorem dX3_lookAt_9 : decode cX3_lookAt 9 = .ok (.ireturn, 1) := by decide +kernel
theorem dX3_lookAt_10 : decode cX3_lookAt 10 = .ok (.iload_n 2, 1) := by decide +kernel
theorem dX3_lookAt_11 : decode cX3_lookAt 11 = .ok (.invokestatic 42, 3) := by decide +kernel
theorem dX3_lookAt_14 : decode cX3_lookAt 14 = .ok (.ifCond .ne 6, 3) := by decide +kernel
theorem dX3_lookAt_17 : decode cX3_lookAt 17 = .ok (.bipush (-2), 2) := by decide +kernel
theorem dX3_lookAt_19 : decode cX3_lookAt 19 = .ok (.ireturn, 1) := by decide +kernel
theorem dX3_lookAt_20 : decode cX3_lookAt 20 = .ok (.iload_n 3, 1) := by decide +kernel
theorem dX3_lookAt_21 : decode cX3_lookAt 21 = .ok (.tableswitch 48 0 2 #[27, 34, 41], 27) := by decide +kernel
theorem dX3_lookAt_48 : decode cX3_lookAt 48 = .ok (.aload_n 0, 1) := by decide +kernel
theorem dX3_lookAt_49 : decode cX3_lookAt 49 = .ok (.iload_n 1, 1) := by decide +kernel
theorem dX3_lookAt_50 : decode cX3_lookAt 50 = .ok (.iload_n 2, 1) := by decide +kernel
theorem dX3_lookAt_51 : decode cX3_lookAt 51 = .ok (.invokevirtual 75, 3) := by decide +kernel
theorem dX3_lookAt_54 : decode cX3_lookAt 54 = .ok (.ireturn, 1) := by decide +kernel
theorem dX3_lookAt_55 : decode cX3_lookAt 55 = .ok (.aload_n 0, 1) := by decide +kernel
theorem dX3_lookAt_56 : decode cX3_lookAt 56 = .ok (.iload_n 1, 1) := by decide +kernel
theorem dX3_lookAt_57 : decode cX3_lookAt 57 = .ok (.iload_n 2, 1) := by decide +kernel
theorem dX3_lookAt_58 : decode cX3_lookAt 58 = .ok (.invokevirtual 78, 3) := by decide +kernel
theorem dX3_lookAt_61 : decode cX3_lookAt 61 = .ok (.ireturn, 1) := by decide +kernel
theorem dX3_lookAt_62 : decode cX3_lookAt 62 = .ok (.aload_n 0, 1) := by decide +kernel
theorem dX3_lookAt_63 : decode cX3_lookAt 63 = .ok (.iload_n 1, 1) := by decide +kernel
theorem dX3_lookAt_64 : decode cX3_lookAt 64 = .ok (.iload_n 2, 1) := by decide +kernel
theorem dX3_lookAt_65 : decode cX3_lookAt 65 = .ok (.invokevirtual 81, 3) := by decide +kernel
theorem dX3_lookAt_68 : decode cX3_lookAt 68 = .ok (.ireturn, 1) := by decide +kernel
theorem dX3_lookAt_69 : decode cX3_lookAt 69 = .ok (.bipush (-2), 2) := by decide +kernel
theorem dX3_lookAt_71 : decode cX3_lookAt 71 = .ok (.ireturn, 1) := by decide +kernel
set_option maxRecDepth 20000 in
theorem ggX3_firstFaulty_X4_isDay : GoodIn wsX3_firstFaulty wsX4_isDay := goodIn_r _ [4, 5, 6, 3, 7] (by decide +kernel) (by decide +kernel)
set_option maxRecDepth 20000 in
theorem gX3_firstFaulty_X4_isDay_n42 : GoodIn wsX3_firstFaulty (wsX4_isDay) := ggX3_firstFaulty_X4_isDay
set_option maxRecDepth 20000 in
theorem ggX3_firstFaulty_X3_faultOn : GoodIn wsX3_firstFaulty wsX3_faultOn := goodIn_r _ [12, 13, 14, 15, 16, 11, 17, 18, 19, 20, 21, 22, 23, 24, 25, 26, 27, 28, 29, 30, 31, 32, 33, 34, 35, 36, 37, 38, 39, 40, 41, 42, 43, 44, 45, 46, 47, 48, 49, 50, 51, 52, 53, 54, 55, 56, 57, 58, 59, 60, 61] (by decide +kernel) (by decide +kernel)
set_option maxRecDepth 20000 in
theorem gX3_firstFaulty_X3_faultOn : GoodIn wsX3_firstFaulty (wsV RX3 81 RX3 yX3_faultOn wsX3_faultOn) := goodIn_app (goodIn_of _ (by decide +kernel)) ggX3_firstFaulty_X3_faultOn
theorem dX3_firstFaulty_0 : decode cX3_firstFaulty 0 = .ok (.iload_n 1, 1) := by decide +kernel
theorem dX3_firstFaulty_1 : decode cX3_firstFaulty 1 = .ok (.invokestatic 42, 3) := by decide +kernel
theorem dX3_firstFaulty_4 : decode cX3_firstFaulty 4 = .ok (.ifCond .ne 6, 3) := by decide +kernel
theorem dX3_firstFaulty_7 : decode cX3_firstFaulty 7 = .ok (.bipush (-2), 2) := by decide +kernel
theorem dX3_firstFaulty_9 : decode cX3_firstFaulty 9 = .ok (.ireturn, 1) := by decide +kernel
theorem dX3_firstFaulty_10 : decode cX3_firstFaulty 10 = .ok (.iconst 0, 1) := by decide +kernel
theorem dX3_firstFaulty_11 : decode cX3_firstFaulty 11 = .ok (.istore_n 2, 1) := by decide +kernel
theorem dX3_firstFaulty_12 : decode cX3_firstFaulty 12 = .ok (.iload_n 2, 1) := by decide +kernel
theorem dX3_firstFaulty_13 : decode cX3_firstFaulty 13 = .ok (.aload_n 0, 1) := by decide +kernel
theorem dX3_firstFaulty_14 : decode cX3_firstFaulty 14 = .ok (.getfield 62, 3) := by decide +kernel
theorem dX3_firstFaulty_17 : decode cX3_firstFaulty 17 = .ok (.if_icmp .ge 20, 3) := by decide +kernel
theorem dX3_firstFaulty_20 : decode cX3_firstFaulty 20 = .ok (.aload_n 0, 1) := by decide +kernel
theorem dX3_firstFaulty_21 : decode cX3_firstFaulty 21 = .ok (.iload_n 2, 1) := by decide +kernel
theorem dX3_firstFaulty_22 : decode cX3_firstFaulty 22 = .ok (.iload_n 1, 1) := by decide +kernel
theorem dX3_firstFaulty_23 : decode cX3_firstFaulty 23 = .ok (.invokevirtual 81, 3) := by decide +kernel
theorem dX3_firstFaulty_26 : decode cX3_firstFaulty 26 = .ok (.ifCond .eq 5, 3) := by decide +kernel
theorem dX3_firstFaulty_29 : decode cX3_firstFaulty 29 = .ok (.iload_n 2, 1) := by decide +kernel
theorem dX3_firstFaulty_30 : decode cX3_firstFaulty 30 = .ok (.ireturn, 1) := by decide +kernel
theorem dX3_firstFaulty_31 : decode cX3_firstFaulty 31 = .ok (.iinc 2 1, 3) := by decide +kernel
theorem dX3_firstFaulty_34 : decode cX3_firstFaulty 34 = .ok (.goto (-22), 3) := by decide +kernel
theorem dX3_firstFaulty_37 : decode cX3_firstFaulty 37 = .ok (.bipush (-6), 2) := by decide +kernel
theorem dX3_firstFaulty_39 : decode cX3_firstFaulty 39 = .ok (.ireturn, 1) := by decide +kernel
set_option maxRecDepth 20000 in
theorem ggX3_firstFaultyDay_X3_isThing : GoodIn wsX3_firstFaultyDay wsX3_isThing := goodIn_r _ [5, 6, 7, 8, 9, 53, 54, 55, 56, 57, 58, 59, 60, 61, 62, 63, 64, 65] (by decide +kernel) (by decide +kernel)
set_option maxRecDepth 20000 in
theorem gX3_firstFaultyDay_X3_isThing : GoodIn wsX3_firstFaultyDay (wsV RX3 65 RX3 yX3_isThing wsX3_isThing) := goodIn_app (goodIn_of _ (by decide +kernel)) ggX3_firstFaultyDay_X3_isThing
set_option maxRecDepth 20000 in
theorem ggX3_firstFaultyDay_X4_isDay : GoodIn wsX3_firstFaultyDay wsX4_isDay := goodIn_r _ [11, 12, 7, 8, 9] (by decide +kernel) (by decide +kernel)
set_option maxRecDepth 20000 in
theorem gX3_firstFaultyDay_X4_isDay_n42 : GoodIn wsX3_firstFaultyDay (wsX4_isDay) := ggX3_firstFaultyDay_X4_isDay
set_option maxRecDepth 20000 in
theorem ggX3_firstFaultyDay_X3_faultOn : GoodIn wsX3_firstFaultyDay wsX3_faultOn := goodIn_r _ [16, 17, 18, 19, 20, 4, 21, 22, 23, 24, 25, 26, 27, 28, 29, 30, 31, 32, 33, 34, 35, 36, 37, 38, 39, 40, 41, 42, 43, 44, 45, 46, 47, 48, 49, 50, 51, 52, 53, 54, 55, 56, 57, 58, 59, 60, 61, 62, 63, 64, 65] (by decide +kernel) (by decide +kernel)
set_option maxRecDepth 20000 in
theorem gX3_firstFaultyDay_X3_faultOn : GoodIn wsX3_firstFaultyDay (wsV RX3 81 RX3 yX3_faultOn wsX3_faultOn) := goodIn_app (goodIn_of _ (by decide +kernel)) ggX3_firstFaultyDay_X3_faultOn
theorem dX3_firstFaultyDay_0 : decode cX3_firstFaultyDay 0 = .ok (.aload_n 0, 1) := by decide +kernel
theorem dX3_firstFaultyDay_1 : decode cX3_firstFaultyDay 1 = .ok (.iload_n 1, 1) := by decide +kernel
theorem dX3_firstFaultyDay_2 : decode cX3_firstFaultyDay 2 = .ok (.invokevirtual 65, 3) := by decide +kernel
theorem dX3_firstFaultyDay_5 : decode cX3_firstFaultyDay 5 = .ok (.ifCond .ne 5, 3) := by decide +kernel
theorem dX3_firstFaultyDay_8 : decode cX3_firstFaultyDay 8 = .ok (.iconst (-1), 1) := by decide +kernel
theorem dX3_firstFaultyDay_9 : decode cX3_firstFaultyDay 9 = .ok (.ireturn, 1) := by decide +kernel
theorem dX3_firstFaultyDay_10 : decode cX3_firstFaultyDay 10 = .ok (.iload_n 2, 1) := by decide +kernel
theorem dX3_firstFaultyDay_11 : decode cX3_firstFaultyDay 11 = .ok (.invokestatic 42, 3) := by decide +kernel
theorem dX3_firstFaultyDay_14 : decode cX3_firstFaultyDay 14 = .ok (.ifCond .ne 6, 3) := by decide +kernel
theorem dX3_firstFaultyDay_17 : decode cX3_firstFaultyDay 17 = .ok (.bipush (-2), 2) := by decide +kernel
theorem dX3_firstFaultyDay_19 : decode cX3_firstFaultyDay 19 = .ok (.ireturn, 1) := by decide +kernel
theorem dX3_firstFaultyDay_20 : decode cX3_firstFaultyDay 20 = .ok (.iload_n 2, 1) := by decide +kernel
theorem dX3_firstFaultyDay_21 : decode cX3_firstFaultyDay 21 = .ok (.istore_n 3, 1) := by decide +kernel
theorem dX3_firstFaultyDay_22 : decode cX3_firstFaultyDay 22 = .ok (.iload_n 3, 1) := by decide +kernel
theorem dX3_firstFaultyDay_23 : decode cX3_firstFaultyDay 23 = .ok (.sipush 3000, 3) := by decide +kernel
theorem dX3_firstFaultyDay_26 : decode cX3_firstFaultyDay 26 = .ok (.if_icmp .gt 20, 3) := by decide +kernel
theorem dX3_firstFaultyDay_29 : decode cX3_firstFaultyDay 29 = .ok (.aload_n 0, 1) := by decide +kernel
theorem dX3_firstFaultyDay_30 : decode cX3_firstFaultyDay 30 = .ok (.iload_n 1, 1) := by decide +kernel
theorem dX3_firstFaultyDay_31 : decode cX3_firstFaultyDay 31 = .ok (.iload_n 3, 1) := by decide +kernel
theorem dX3_firstFaultyDay_32 : decode cX3_firstFaultyDay 32 = .ok (.invokevirtual 81, 3) := by decide +kernel
theorem dX3_firstFaultyDay_35 : decode cX3_firstFaultyDay 35 = .ok (.ifCond .eq 5, 3) := by decide +kernel
theorem dX3_firstFaultyDay_38 : decode cX3_firstFaultyDay 38 = .ok (.iload_n 3, 1) := by decide +kernel
theorem dX3_firstFaultyDay_39 : decode cX3_firstFaultyDay 39 = .ok (.ireturn, 1) := by decide +kernel
theorem dX3_firstFaultyDay_40 : decode cX3_firstFaultyDay 40 = .ok (.iinc 3 1, 3) := by decide +kernel
theorem dX3_firstFaultyDay_43 : decode cX3_firstFaultyDay 43 = .ok (.goto (-21), 3) := by decide +kernel
theorem dX3_firstFaultyDay_46 : decode cX3_firstFaultyDay 46 = .ok (.bipush (-6), 2) := by decide +kernel
theorem dX3_firstFaultyDay_48 : decode cX3_firstFaultyDay 48 = .ok (.ireturn, 1) := by decide +kernel
set_option maxRecDepth 20000 in
theorem ggX3_isThing_X4_isWithin : GoodIn wsX3_isThing wsX4_isWithin := goodIn_r _ [4] (by decide +kernel) (by decide +kernel)
set_option maxRecDepth 20000 in
theorem gX3_isThing_X4_isWithin_n46 : GoodIn wsX3_isThing (wsX4_isWithin) := ggX3_isThing_X4_isWithin
theorem dX3_isThing_0 : decode cX3_isThing 0 = .ok (.iload_n 1, 1) := by decide +kernel
theorem dX3_isThing_1 : decode cX3_isThing 1 = .ok (.iconst 0, 1) := by decide +kernel
theorem dX3_isThing_2 : decode cX3_isThing 2 = .ok (.aload_n 0, 1) := by decide +kernel
theorem dX3_isThing_3 : decode cX3_isThing 3 = .ok (.getfield 62, 3) := by decide +kernel
theorem dX3_isThing_6 : decode cX3_isThing 6 = .ok (.iconst 1, 1) := by decide +kernel
theorem dX3_isThing_7 : decode cX3_isThing 7 = .ok (.isub, 1) := by decide +kernel
theorem dX3_isThing_8 : decode cX3_isThing 8 = .ok (.invokestatic 46, 3) := by decide +kernel
theorem dX3_isThing_11 : decode cX3_isThing 11 = .ok (.ireturn, 1) := by decide +kernel
theorem dX3_ruleOn_0 : decode cX3_ruleOn 0 = .ok (.bipush (-6), 2) := by decide +kernel
theorem dX3_ruleOn_2 : decode cX3_ruleOn 2 = .ok (.istore_n 2, 1) := by decide +kernel
theorem dX3_ruleOn_3 : decode cX3_ruleOn 3 = .ok (.iconst 0, 1) := by decide +kernel
theorem dX3_ruleOn_4 : decode cX3_ruleOn 4 = .ok (.istore_n 3, 1) := by decide +kernel
theorem dX3_ruleOn_5 : decode cX3_ruleOn 5 = .ok (.iload_n 3, 1) := by decide +kernel
theorem dX3_ruleOn_6 : decode cX3_ruleOn 6 = .ok (.aload_n 0, 1) := by decide +kernel
theorem dX3_ruleOn_7 : decode cX3_ruleOn 7 = .ok (.getfield 50, 3) := by decide +kernel
theorem dX3_ruleOn_10 : decode cX3_ruleOn 10 = .ok (.if_icmp .ge 42, 3) := by decide +kernel
theorem dX3_ruleOn_13 : decode cX3_ruleOn 13 = .ok (.aload_n 0, 1) := by decide +kernel
theorem dX3_ruleOn_14 : decode cX3_ruleOn 14 = .ok (.getfield 11, 3) := by decide +kernel
theorem dX3_ruleOn_17 : decode cX3_ruleOn 17 = .ok (.iload_n 3, 1) := by decide +kernel
theorem dX3_ruleOn_18 : decode cX3_ruleOn 18 = .ok (.iaload, 1) := by decide +kernel
theorem dX3_ruleOn_19 : decode cX3_ruleOn 19 = .ok (.iload_n 1, 1) := by decide +kernel
theorem dX3_ruleOn_20 : decode cX3_ruleOn 20 = .ok (.if_icmp .gt 26, 3) := by decide +kernel
theorem dX3_ruleOn_23 : decode cX3_ruleOn 23 = .ok (.iload_n 2, 1) := by decide +kernel
theorem dX3_ruleOn_24 : decode cX3_ruleOn 24 = .ok (.bipush (-6), 2) := by decide +kernel
theorem dX3_ruleOn_26 : decode cX3_ruleOn 26 = .ok (.if_icmp .eq 18, 3) := by decide +kernel
theorem dX3_ruleOn_29 : decode cX3_ruleOn 29 = .ok (.aload_n 0, 1) := by decide +kernel
theorem dX3_ruleOn_30 : decode cX3_ruleOn 30 = .ok (.getfield 11, 3) := by decide +kernel
theorem dX3_ruleOn_33 : decode cX3_ruleOn 33 = .ok (.iload_n 3, 1) := by decide +kernel
theorem dX3_ruleOn_34 : decode cX3_ruleOn 34 = .ok (.iaload, 1) := by decide +kernel
theorem dX3_ruleOn_35 : decode cX3_ruleOn 35 = .ok (.aload_n 0, 1) := by decide +kernel
theorem dX3_ruleOn_36 : decode cX3_ruleOn 36 = .ok (.getfield 11, 3) := by decide +kernel
theorem dX3_ruleOn_39 : decode cX3_ruleOn 39 = .ok (.iload_n 2, 1) := by decide +kernel
theorem dX3_ruleOn_40 : decode cX3_ruleOn 40 = .ok (.iaload, 1) := by decide +kernel
theorem dX3_ruleOn_41 : decode cX3_ruleOn 41 = .ok (.if_icmp .lt 5, 3) := by decide +kernel
theorem dX3_ruleOn_44 : decode cX3_ruleOn 44 = .ok (.iload_n 3, 1) := by decide +kernel
theorem dX3_ruleOn_45 : decode cX3_ruleOn 45 = .ok (.istore_n 2, 1) := by decide +kernel
theorem dX3_ruleOn_46 : decode cX3_ruleOn 46 = .ok (.iinc 3 1, 3) := by decide +kernel
theorem dX3_ruleOn_49 : decode cX3_ruleOn 49 = .ok (.goto (-44), 3) := by decide +kernel
theorem dX3_ruleOn_52 : decode cX3_ruleOn 52 = .ok (.iload_n 2, 1) := by decide +kernel
theorem dX3_ruleOn_53 : decode cX3_ruleOn 53 = .ok (.ireturn, 1) := by decide +kernel
set_option maxRecDepth 20000 in
theorem ggX3_ratioOn_X3_ruleOn : GoodIn wsX3_ratioOn wsX3_ruleOn := goodIn_r _ [6, 7, 8, 9, 10, 11, 12, 13, 14, 15, 16, 17, 18, 19, 20, 21] (by decide +kernel) (by decide +kernel)
set_option maxRecDepth 20000 in
theorem gX3_ratioOn_X3_ruleOn : GoodIn wsX3_ratioOn (wsV RX3 84 RX3 yX3_ruleOn wsX3_ruleOn) := goodIn_app (goodIn_of _ (by decide +kernel)) ggX3_ratioOn_X3_ruleOn
theorem dX3_ratioOn_0 : decode cX3_ratioOn 0 = .ok (.aload_n 0, 1) := by decide +kernel
theorem dX3_ratioOn_1 : decode cX3_ratioOn 1 = .ok (.iload_n 1, 1) := by decide +kernel
theorem dX3_ratioOn_2 : decode cX3_ratioOn 2 = .ok (.invokevirtual 84, 3) := by decide +kernel
theorem dX3_ratioOn_5 : decode cX3_ratioOn 5 = .ok (.istore_n 2, 1) := by decide +kernel
theorem dX3_ratioOn_6 : decode cX3_ratioOn 6 = .ok (.iload_n 2, 1) := by decide +kernel
theorem dX3_ratioOn_7 : decode cX3_ratioOn 7 = .ok (.bipush (-6), 2) := by decide +kernel
theorem dX3_ratioOn_9 : decode cX3_ratioOn 9 = .ok (.if_icmp .ne 8, 3) := by decide +kernel
theorem dX3_ratioOn_12 : decode cX3_ratioOn 12 = .ok (.bipush 12, 2) := by decide +kernel
theorem dX3_ratioOn_14 : decode cX3_ratioOn 14 = .ok (.goto 9, 3) := by decide +kernel
theorem dX3_ratioOn_17 : decode cX3_ratioOn 17 = .ok (.aload_n 0, 1) := by decide +kernel
theorem dX3_ratioOn_18 : decode cX3_ratioOn 18 = .ok (.getfield 15, 3) := by decide +kernel
theorem dX3_ratioOn_21 : decode cX3_ratioOn 21 = .ok (.iload_n 2, 1) := by decide +kernel
theorem dX3_ratioOn_22 : decode cX3_ratioOn 22 = .ok (.iaload, 1) := by decide +kernel
theorem dX3_ratioOn_23 : decode cX3_ratioOn 23 = .ok (.ireturn, 1) := by decide +kernel
set_option maxRecDepth 20000 in
theorem ggX3_slackOn_X3_ruleOn : GoodIn wsX3_slackOn wsX3_ruleOn := goodIn_r _ [6, 7, 8, 9, 10, 11, 12, 13, 14, 15, 16, 17, 18, 19, 20, 21] (by decide +kernel) (by decide +kernel)
set_option maxRecDepth 20000 in
theorem gX3_slackOn_X3_ruleOn : GoodIn wsX3_slackOn (wsV RX3 84 RX3 yX3_ruleOn wsX3_ruleOn) := goodIn_app (goodIn_of _ (by decide +kernel)) ggX3_slackOn_X3_ruleOn
theorem dX3_slackOn_0 : decode cX3_slackOn 0 = .ok (.aload_n 0, 1) := by decide +kernel
theorem dX3_slackOn_1 : decode cX3_slackOn 1 = .ok (.iload_n 1, 1) := by decide +kernel
theorem dX3_slackOn_2 : decode cX3_slackOn 2 = .ok (.invokevirtual 84, 3) := by decide +kernel
theorem dX3_slackOn_5 : decode cX3_slackOn 5 = .ok (.istore_n 2, 1) := by decide +kernel
theorem dX3_slackOn_6 : decode cX3_slackOn 6 = .ok (.iload_n 2, 1) := by decide +kernel
theorem dX3_slackOn_7 : decode cX3_slackOn 7 = .ok (.bipush (-6), 2) := by decide +kernel
theorem dX3_slackOn_9 : decode cX3_slackOn 9 = .ok (.if_icmp .ne 8, 3) := by decide +kernel
theorem dX3_slackOn_12 : decode cX3_slackOn 12 = .ok (.bipush 10, 2) := by decide +kernel
theorem dX3_slackOn_14 : decode cX3_slackOn 14 = .ok (.goto 9, 3) := by decide +kernel
theorem dX3_slackOn_17 : decode cX3_slackOn 17 = .ok (.aload_n 0, 1) := by decide +kernel
theorem dX3_slackOn_18 : decode cX3_slackOn 18 = .ok (.getfield 18, 3) := by decide +kernel
theorem dX3_slackOn_21 : decode cX3_slackOn 21 = .ok (.iload_n 2, 1) := by decide +kernel
theorem dX3_slackOn_22 : decode cX3_slackOn 22 = .ok (.iaload, 1) := by decide +kernel
theorem dX3_slackOn_23 : decode cX3_slackOn 23 = .ok (.ireturn, 1) := by decide +kernel
theorem dX3_clippingOn_0 : decode cX3_clippingOn 0 = .ok (.aload_n 0, 1) := by decide +kernel
theorem dX3_clippingOn_1 : decode cX3_clippingOn 1 = .ok (.getfield 68, 3) := by decide +kernel
theorem dX3_clippingOn_4 : decode cX3_clippingOn 4 = .ok (.iconst 1, 1) := by decide +kernel
theorem dX3_clippingOn_5 : decode cX3_clippingOn 5 = .ok (.isub, 1) := by decide +kernel
theorem dX3_clippingOn_6 : decode cX3_clippingOn 6 = .ok (.istore_n 3, 1) := by decide +kernel
theorem dX3_clippingOn_7 : decode cX3_clippingOn 7 = .ok (.iload_n 3, 1) := by decide +kernel
theorem dX3_clippingOn_8 : decode cX3_clippingOn 8 = .ok (.ifCond .lt 31, 3) := by decide +kernel
theorem dX3_clippingOn_11 : decode cX3_clippingOn 11 = .ok (.aload_n 0, 1) := by decide +kernel
theorem dX3_clippingOn_12 : decode cX3_clippingOn 12 = .ok (.getfield 33, 3) := by decide +kernel
theorem dX3_clippingOn_15 : decode cX3_clippingOn 15 = .ok (.iload_n 3, 1) := by decide +kernel
theorem dX3_clippingOn_16 : decode cX3_clippingOn 16 = .ok (.iaload, 1) := by decide +kernel
theorem dX3_clippingOn_17 : decode cX3_clippingOn 17 = .ok (.iload_n 1, 1) := by decide +kernel
theorem dX3_clippingOn_18 : decode cX3_clippingOn 18 = .ok (.if_icmp .ne 15, 3) := by decide +kernel
theorem dX3_clippingOn_21 : decode cX3_clippingOn 21 = .ok (.aload_n 0, 1) := by decide +kernel
theorem dX3_clippingOn_22 : decode cX3_clippingOn 22 = .ok (.getfield 36, 3) := by decide +kernel
theorem dX3_clippingOn_25 : decode cX3_clippingOn 25 = .ok (.iload_n 3, 1) := by decide +kernel
theorem dX3_clippingOn_26 : decode cX3_clippingOn 26 = .ok (.iaload, 1) := by decide +kernel
theorem dX3_clippingOn_27 : decode cX3_clippingOn 27 = .ok (.iload_n 2, 1) := by decide +kernel
theorem dX3_clippingOn_28 : decode cX3_clippingOn 28 = .ok (.if_icmp .gt 5, 3) := by decide +kernel
theorem dX3_clippingOn_31 : decode cX3_clippingOn 31 = .ok (.iload_n 3, 1) := by decide +kernel
theorem dX3_clippingOn_32 : decode cX3_clippingOn 32 = .ok (.ireturn, 1) := by decide +kernel
theorem dX3_clippingOn_33 : decode cX3_clippingOn 33 = .ok (.iinc 3 (-1), 3) := by decide +kernel
theorem dX3_clippingOn_36 : decode cX3_clippingOn 36 = .ok (.goto (-29), 3) := by decide +kernel
theorem dX3_clippingOn_39 : decode cX3_clippingOn 39 = .ok (.bipush (-6), 2) := by decide +kernel
theorem dX3_clippingOn_41 : decode cX3_clippingOn 41 = .ok (.ireturn, 1) := by decide +kernel
set_option maxRecDepth 20000 in
theorem ggX3_sizeOn_X3_clippingOn : GoodIn wsX3_sizeOn wsX3_clippingOn := goodIn_r _ [9, 10, 11, 1, 12, 13, 14, 15, 16, 17, 18, 19, 20, 21, 22, 23, 24] (by decide +kernel) (by decide +kernel)
set_option maxRecDepth 20000 in
theorem gX3_sizeOn_X3_clippingOn : GoodIn wsX3_sizeOn (wsV RX3 71 RX3 yX3_clippingOn wsX3_clippingOn) := goodIn_app (goodIn_of _ (by decide +kernel)) ggX3_sizeOn_X3_clippingOn
theorem dX3_sizeOn_0 : decode cX3_sizeOn 0 = .ok (.aload_n 0, 1) := by decide +kernel
theorem dX3_sizeOn_1 : decode cX3_sizeOn 1 = .ok (.iload_n 1, 1) := by decide +kernel
theorem dX3_sizeOn_2 : decode cX3_sizeOn 2 = .ok (.iload_n 2, 1) := by decide +kernel
theorem dX3_sizeOn_3 : decode cX3_sizeOn 3 = .ok (.invokevirtual 71, 3) := by decide +kernel
theorem dX3_sizeOn_6 : decode cX3_sizeOn 6 = .ok (.istore_n 3, 1) := by decide +kernel
theorem dX3_sizeOn_7 : decode cX3_sizeOn 7 = .ok (.iload_n 3, 1) := by decide +kernel
theorem dX3_sizeOn_8 : decode cX3_sizeOn 8 = .ok (.bipush (-6), 2) := by decide +kernel
theorem dX3_sizeOn_10 : decode cX3_sizeOn 10 = .ok (.if_icmp .ne 7, 3) := by decide +kernel
theorem dX3_sizeOn_13 : decode cX3_sizeOn 13 = .ok (.iconst 0, 1) := by decide +kernel
theorem dX3_sizeOn_14 : decode cX3_sizeOn 14 = .ok (.goto 9, 3) := by decide +kernel
theorem dX3_sizeOn_17 : decode cX3_sizeOn 17 = .ok (.aload_n 0, 1) := by decide +kernel
theorem dX3_sizeOn_18 : decode cX3_sizeOn 18 = .ok (.getfield 36, 3) := by decide +kernel
theorem dX3_sizeOn_21 : decode cX3_sizeOn 21 = .ok (.iload_n 3, 1) := by decide +kernel
theorem dX3_sizeOn_22 : decode cX3_sizeOn 22 = .ok (.iaload, 1) := by decide +kernel
theorem dX3_sizeOn_23 : decode cX3_sizeOn 23 = .ok (.istore 4, 2) := by decide +kernel
theorem dX3_sizeOn_25 : decode cX3_sizeOn 25 = .ok (.iload_n 3, 1) := by decide +kernel
theorem dX3_sizeOn_26 : decode cX3_sizeOn 26 = .ok (.bipush (-6), 2) := by decide +kernel
theorem dX3_sizeOn_28 : decode cX3_sizeOn 28 = .ok (.if_icmp .ne 12, 3) := by decide +kernel
theorem dX3_sizeOn_31 : decode cX3_sizeOn 31 = .ok (.aload_n 0, 1) := by decide +kernel
theorem dX3_sizeOn_32 : decode cX3_sizeOn 32 = .ok (.getfield 27, 3) := by decide +kernel
theorem dX3_sizeOn_35 : decode cX3_sizeOn 35 = .ok (.iload_n 1, 1) := by decide +kernel
theorem dX3_sizeOn_36 : decode cX3_sizeOn 36 = .ok (.iaload, 1) := by decide +kernel
theorem dX3_sizeOn_37 : decode cX3_sizeOn 37 = .ok (.goto 9, 3) := by decide +kernel
theorem dX3_sizeOn_40 : decode cX3_sizeOn 40 = .ok (.aload_n 0, 1) := by decide +kernel
theorem dX3_sizeOn_41 : decode cX3_sizeOn 41 = .ok (.getfield 39, 3) := by decide +kernel
theorem dX3_sizeOn_44 : decode cX3_sizeOn 44 = .ok (.iload_n 3, 1) := by decide +kernel
theorem dX3_sizeOn_45 : decode cX3_sizeOn 45 = .ok (.iaload, 1) := by decide +kernel
theorem dX3_sizeOn_46 : decode cX3_sizeOn 46 = .ok (.istore 5, 2) := by decide +kernel
theorem dX3_sizeOn_48 : decode cX3_sizeOn 48 = .ok (.iload 5, 2) := by decide +kernel
theorem dX3_sizeOn_50 : decode cX3_sizeOn 50 = .ok (.iload_n 2, 1) := by decide +kernel
theorem dX3_sizeOn_51 : decode cX3_sizeOn 51 = .ok (.iload 4, 2) := by decide +kernel
theorem dX3_sizeOn_53 : decode cX3_sizeOn 53 = .ok (.isub, 1) := by decide +kernel
theorem dX3_sizeOn_54 : decode cX3_sizeOn 54 = .ok (.bipush 7, 2) := by decide +kernel
theorem dX3_sizeOn_56 : decode cX3_sizeOn 56 = .ok (.idiv, 1) := by decide +kernel
theorem dX3_sizeOn_57 : decode cX3_sizeOn 57 = .ok (.aload_n 0, 1) := by decide +kernel
theorem dX3_sizeOn_58 : decode cX3_sizeOn 58 = .ok (.getfield 30, 3) := by decide +kernel
theorem dX3_sizeOn_61 : decode cX3_sizeOn 61 = .ok (.iload_n 1, 1) := by decide +kernel
theorem dX3_sizeOn_62 : decode cX3_sizeOn 62 = .ok (.iaload, 1) := by decide +kernel
theorem dX3_sizeOn_63 : decode cX3_sizeOn 63 = .ok (.imul, 1) := by decide +kernel
theorem dX3_sizeOn_64 : decode cX3_sizeOn 64 = .ok (.iadd, 1) := by decide +kernel
theorem dX3_sizeOn_65 : decode cX3_sizeOn 65 = .ok (.ireturn, 1) := by decide +kernel
set_option maxRecDepth 20000 in
theorem ggX3_dueOn_X3_ratioOn : GoodIn wsX3_dueOn wsX3_ratioOn := goodIn_r _ [6, 7, 8, 9, 10, 5, 11, 12, 13, 14, 15, 16, 17, 18, 19, 20, 21, 22, 23, 24, 25, 26] (by decide +kernel) (by decide +kernel)
set_option maxRecDepth 20000 in
theorem gX3_dueOn_X3_ratioOn : GoodIn wsX3_dueOn (wsV RX3 54 RX3 yX3_ratioOn wsX3_ratioOn) := goodIn_app (goodIn_of _ (by decide +kernel)) ggX3_dueOn_X3_ratioOn
theorem dX3_dueOn_0 : decode cX3_dueOn 0 = .ok (.aload_n 0, 1) := by decide +kernel
theorem dX3_dueOn_1 : decode cX3_dueOn 1 = .ok (.getfield 24, 3) := by decide +kernel
theorem dX3_dueOn_4 : decode cX3_dueOn 4 = .ok (.iload_n 1, 1) := by decide +kernel
theorem dX3_dueOn_5 : decode cX3_dueOn 5 = .ok (.iaload, 1) := by decide +kernel
theorem dX3_dueOn_6 : decode cX3_dueOn 6 = .ok (.aload_n 0, 1) := by decide +kernel
theorem dX3_dueOn_7 : decode cX3_dueOn 7 = .ok (.iload_n 2, 1) := by decide +kernel
theorem dX3_dueOn_8 : decode cX3_dueOn 8 = .ok (.invokevirtual 54, 3) := by decide +kernel
theorem dX3_dueOn_11 : decode cX3_dueOn 11 = .ok (.idiv, 1) := by decide +kernel
theorem dX3_dueOn_12 : decode cX3_dueOn 12 = .ok (.ireturn, 1) := by decide +kernel
set_option maxRecDepth 20000 in
theorem ggX3_faultOn_X3_dueOn : GoodIn wsX3_faultOn wsX3_dueOn := goodIn_r _ [6, 7, 8, 9, 10, 5, 11, 12, 13, 14, 15, 16, 17, 18, 38, 39, 40, 41, 42, 43, 44, 45, 46, 47, 48, 49, 50] (by decide +kernel) (by decide +kernel)
set_option maxRecDepth 20000 in
theorem gX3_faultOn_X3_dueOn : GoodIn wsX3_faultOn (wsV RX3 78 RX3 yX3_dueOn wsX3_dueOn) := goodIn_app (goodIn_of _ (by decide +kernel)) ggX3_faultOn_X3_dueOn
set_option maxRecDepth 20000 in
theorem ggX3_faultOn_X3_slackOn : GoodIn wsX3_faultOn wsX3_slackOn := goodIn_r _ [22, 23, 13, 14, 15, 5, 16, 17, 18, 38, 39, 40, 41, 42, 43, 44, 45, 46, 47, 48, 49, 50] (by decide +kernel) (by decide +kernel)
set_option maxRecDepth 20000 in
theorem gX3_faultOn_X3_slackOn : GoodIn wsX3_faultOn (wsV RX3 58 RX3 yX3_slackOn wsX3_slackOn) := goodIn_app (goodIn_of _ (by decide +kernel)) ggX3_faultOn_X3_slackOn
set_option maxRecDepth 20000 in
theorem ggX3_faultOn_X3_sizeOn : GoodIn wsX3_faultOn wsX3_sizeOn := goodIn_r _ [27, 28, 29, 30, 31, 32, 33, 34, 5, 35, 36, 37, 38, 39, 40, 41, 42, 43, 44, 45, 46, 47, 48, 49, 50] (by decide +kernel) (by decide +kernel)
set_option maxRecDepth 20000 in
theorem gX3_faultOn_X3_sizeOn : GoodIn wsX3_faultOn (wsV RX3 75 RX3 yX3_sizeOn wsX3_sizeOn) := goodIn_app (goodIn_of _ (by decide +kernel)) ggX3_faultOn_X3_sizeOn
theorem dX3_faultOn_0 : decode cX3_faultOn 0 = .ok (.aload_n 0, 1) := by decide +kernel
theorem dX3_faultOn_1 : decode cX3_faultOn 1 = .ok (.iload_n 1, 1) := by decide +kernel
theorem dX3_faultOn_2 : decode cX3_faultOn 2 = .ok (.iload_n 2, 1) := by decide +kernel
theorem dX3_faultOn_3 : decode cX3_faultOn 3 = .ok (.invokevirtual 78, 3) := by decide +kernel
theorem dX3_faultOn_6 : decode cX3_faultOn 6 = .ok (.istore_n 3, 1) := by decide +kernel
theorem dX3_faultOn_7 : decode cX3_faultOn 7 = .ok (.iload_n 3, 1) := by decide +kernel
theorem dX3_faultOn_8 : decode cX3_faultOn 8 = .ok (.aload_n 0, 1) := by decide +kernel
theorem dX3_faultOn_9 : decode cX3_faultOn 9 = .ok (.iload_n 2, 1) := by decide +kernel
theorem dX3_faultOn_10 : decode cX3_faultOn 10 = .ok (.invokevirtual 58, 3) := by decide +kernel
theorem dX3_faultOn_13 : decode cX3_faultOn 13 = .ok (.imul, 1) := by decide +kernel
theorem dX3_faultOn_14 : decode cX3_faultOn 14 = .ok (.bipush 100, 2) := by decide +kernel
theorem dX3_faultOn_16 : decode cX3_faultOn 16 = .ok (.idiv, 1) := by decide +kernel
theorem dX3_faultOn_17 : decode cX3_faultOn 17 = .ok (.istore 4, 2) := by decide +kernel
theorem dX3_faultOn_19 : decode cX3_faultOn 19 = .ok (.aload_n 0, 1) := by decide +kernel
theorem dX3_faultOn_20 : decode cX3_faultOn 20 = .ok (.iload_n 1, 1) := by decide +kernel
theorem dX3_faultOn_21 : decode cX3_faultOn 21 = .ok (.iload_n 2, 1) := by decide +kernel
theorem dX3_faultOn_22 : decode cX3_faultOn 22 = .ok (.invokevirtual 75, 3) := by decide +kernel
theorem dX3_faultOn_25 : decode cX3_faultOn 25 = .ok (.iload_n 3, 1) := by decide +kernel
theorem dX3_faultOn_26 : decode cX3_faultOn 26 = .ok (.isub, 1) := by decide +kernel
theorem dX3_faultOn_27 : decode cX3_faultOn 27 = .ok (.istore 5, 2) := by decide +kernel
theorem dX3_faultOn_29 : decode cX3_faultOn 29 = .ok (.iload 5, 2) := by decide +kernel
theorem dX3_faultOn_31 : decode cX3_faultOn 31 = .ok (.iload 4, 2) := by decide +kernel
theorem dX3_faultOn_33 : decode cX3_faultOn 33 = .ok (.if_icmp .le 15, 3) := by decide +kernel
theorem dX3_faultOn_36 : decode cX3_faultOn 36 = .ok (.aload_n 0, 1) := by decide +kernel
theorem dX3_faultOn_37 : decode cX3_faultOn 37 = .ok (.getfield 21, 3) := by decide +kernel
theorem dX3_faultOn_40 : decode cX3_faultOn 40 = .ok (.iload_n 1, 1) := by decide +kernel
theorem dX3_faultOn_41 : decode cX3_faultOn 41 = .ok (.iaload, 1) := by decide +kernel
theorem dX3_faultOn_42 : decode cX3_faultOn 42 = .ok (.iconst 2, 1) := by decide +kernel
theorem dX3_faultOn_43 : decode cX3_faultOn 43 = .ok (.if_icmp .eq 5, 3) := by decide +kernel
theorem dX3_faultOn_46 : decode cX3_faultOn 46 = .ok (.iconst 1, 1) := by decide +kernel
theorem dX3_faultOn_47 : decode cX3_faultOn 47 = .ok (.ireturn, 1) := by decide +kernel
theorem dX3_faultOn_48 : decode cX3_faultOn 48 = .ok (.iload 5, 2) := by decide +kernel
theorem dX3_faultOn_50 : decode cX3_faultOn 50 = .ok (.ineg, 1) := by decide +kernel
theorem dX3_faultOn_51 : decode cX3_faultOn 51 = .ok (.iload 4, 2) := by decide +kernel
theorem dX3_faultOn_53 : decode cX3_faultOn 53 = .ok (.if_icmp .le 15, 3) := by decide +kernel
theorem dX3_faultOn_56 : decode cX3_faultOn 56 = .ok (.aload_n 0, 1) := by decide +kernel
theorem dX3_faultOn_57 : decode cX3_faultOn 57 = .ok (.getfield 21, 3) := by decide +kernel
theorem dX3_faultOn_60 : decode cX3_faultOn 60 = .ok (.iload_n 1, 1) := by decide +kernel
theorem dX3_faultOn_61 : decode cX3_faultOn 61 = .ok (.iaload, 1) := by decide +kernel
theorem dX3_faultOn_62 : decode cX3_faultOn 62 = .ok (.iconst 1, 1) := by decide +kernel
theorem dX3_faultOn_63 : decode cX3_faultOn 63 = .ok (.if_icmp .eq 5, 3) := by decide +kernel
theorem dX3_faultOn_66 : decode cX3_faultOn 66 = .ok (.iconst 2, 1) := by decide +kernel
theorem dX3_faultOn_67 : decode cX3_faultOn 67 = .ok (.ireturn, 1) := by decide +kernel
theorem dX3_faultOn_68 : decode cX3_faultOn 68 = .ok (.iconst 0, 1) := by decide +kernel
theorem dX3_faultOn_69 : decode cX3_faultOn 69 = .ok (.ireturn, 1) := by decide +kernel
set_option maxRecDepth 20000 in
theorem ggX4_init_X3_init : GoodIn wsX4_init wsX3_init := goodIn_r _ [21, 22, 2, 3, 23, 24, 25, 26, 27, 28, 29, 30, 31, 32, 33, 69, 70, 71, 72, 73, 74, 75, 76, 77, 78, 79, 80, 81] (by decide +kernel) (by decide +kernel)
set_option maxRecDepth 20000 in
theorem gX4_init_X3_init_n9 : GoodIn wsX4_init (wsX3_init) := ggX4_init_X3_init
set_option maxRecDepth 20000 in
theorem ggX4_init_X1_init : GoodIn wsX4_init wsX1_init := goodIn_r _ [36, 37, 2, 3, 23, 38, 39, 40, 41, 42, 43, 44, 45, 46, 47, 48, 86, 87, 88, 89, 90, 91, 92, 93, 94, 95, 96, 97, 98, 99, 100, 101] (by decide +kernel) (by decide +kernel)
set_option maxRecDepth 20000 in
theorem gX4_init_X1_init : GoodIn wsX4_init (wsX1_init) := ggX4_init_X1_init
set_option maxRecDepth 20000 in
theorem ggX4_init_X2_init : GoodIn wsX4_init wsX2_init := goodIn_r _ [50, 51, 2, 3, 52, 23, 53, 54, 55, 56, 57, 58, 59, 60, 39, 61, 102, 103, 104, 105, 106, 107, 108, 109, 110, 111, 112, 113] (by decide +kernel) (by decide +kernel)
set_option maxRecDepth 20000 in
theorem gX4_init_X2_init_n25 : GoodIn wsX4_init (wsX2_init) := ggX4_init_X2_init
set_option maxRecDepth 20000 in
theorem ggX4_init_X0_init : GoodIn wsX4_init wsX0_init := goodIn_r _ [63, 64, 2, 3, 23, 65, 66, 67, 68, 114, 115, 116, 117, 118, 119] (by decide +kernel) (by decide +kernel)
set_option maxRecDepth 20000 in
theorem gX4_init_X0_init_n32 : GoodIn wsX4_init (wsX0_init) := ggX4_init_X0_init
theorem dX4_init_0 : decode cX4_init 0 = .ok (.aload_n 0, 1) := by decide +kernel
theorem dX4_init_1 : decode cX4_init 1 = .ok (.invokespecial 1, 3) := by decide +kernel
theorem dX4_init_4 : decode cX4_init 4 = .ok (.aload_n 0, 1) := by decide +kernel
theorem dX4_init_5 : decode cX4_init 5 = .ok (.new 7, 3) := by decide +kernel
theorem dX4_init_8 : decode cX4_init 8 = .ok (.dup, 1) := by decide +kernel
theorem dX4_init_9 : decode cX4_init 9 = .ok (.invokespecial 9, 3) := by decide +kernel
theorem dX4_init_12 : decode cX4_init 12 = .ok (.putfield 10, 3) := by decide +kernel
theorem dX4_init_15 : decode cX4_init 15 = .ok (.aload_n 0, 1) := by decide +kernel
theorem dX4_init_16 : decode cX4_init 16 = .ok (.new 16, 3) := by decide +kernel
theorem dX4_init_19 : decode cX4_init 19 = .ok (.dup, 1) := by decide +kernel
theorem dX4_init_20 : decode cX4_init 20 = .ok (.invokespecial 18, 3) := by decide +kernel
theorem dX4_init_23 : decode cX4_init 23 = .ok (.putfield 19, 3) := by decide +kernel
theorem dX4_init_26 : decode cX4_init 26 = .ok (.aload_n 0, 1) := by decide +kernel
theorem dX4_init_27 : decode cX4_init 27 = .ok (.new 23, 3) := by decide +kernel
theorem dX4_init_30 : decode cX4_init 30 = .ok (.dup, 1) := by decide +kernel
theorem dX4_init_31 : decode cX4_init 31 = .ok (.invokespecial 25, 3) := by decide +kernel
theorem dX4_init_34 : decode cX4_init 34 = .ok (.putfield 26, 3) := by decide +kernel
theorem dX4_init_37 : decode cX4_init 37 = .ok (.aload_n 0, 1) := by decide +kernel
theorem dX4_init_38 : decode cX4_init 38 = .ok (.new 30, 3) := by decide +kernel
theorem dX4_init_41 : decode cX4_init 41 = .ok (.dup, 1) := by decide +kernel
theorem dX4_init_42 : decode cX4_init 42 = .ok (.invokespecial 32, 3) := by decide +kernel
theorem dX4_init_45 : decode cX4_init 45 = .ok (.putfield 33, 3) := by decide +kernel
theorem dX4_init_48 : decode cX4_init 48 = .ok (.return_, 1) := by decide +kernel
set_option maxRecDepth 20000 in
theorem ggX4_rule_X3_addRule : GoodIn wsX4_rule wsX3_addRule := goodIn_r _ [6, 7, 8, 9, 10, 11, 12, 13, 14, 15, 16, 21, 22, 23, 24, 25, 26, 27, 28, 29, 30, 31, 32, 33] (by decide +kernel) (by decide +kernel)
set_option maxRecDepth 20000 in
theorem gX4_rule_X3_addRule : GoodIn wsX4_rule (wsV RX4 37 RX3 yX3_addRule wsX3_addRule) := goodIn_app (goodIn_of _ (by decide +kernel)) ggX4_rule_X3_addRule
theorem dX4_rule_0 : decode cX4_rule 0 = .ok (.aload_n 0, 1) := by decide +kernel
theorem dX4_rule_1 : decode cX4_rule 1 = .ok (.getfield 10, 3) := by decide +kernel
theorem dX4_rule_4 : decode cX4_rule 4 = .ok (.iload_n 1, 1) := by decide +kernel
theorem dX4_rule_5 : decode cX4_rule 5 = .ok (.iload_n 2, 1) := by decide +kernel
theorem dX4_rule_6 : decode cX4_rule 6 = .ok (.iload_n 3, 1) := by decide +kernel
theorem dX4_rule_7 : decode cX4_rule 7 = .ok (.invokevirtual 37, 3) := by decide +kernel
theorem dX4_rule_10 : decode cX4_rule 10 = .ok (.ireturn, 1) := by decide +kernel
set_option maxRecDepth 20000 in
theorem ggX4_force_X3_inForce : GoodIn wsX4_force wsX3_inForce := goodIn_r _ [6, 7, 8, 9, 10, 11, 12, 13, 14, 15, 5, 16, 17, 18, 19, 20, 21, 22, 23, 24, 25, 26, 27, 28, 33, 34, 35, 36, 37, 38, 39, 40, 41, 42, 43, 44, 45] (by decide +kernel) (by decide +kernel)
set_option maxRecDepth 20000 in
theorem gX4_force_X3_inForce : GoodIn wsX4_force (wsV RX4 41 RX3 yX3_inForce wsX3_inForce) := goodIn_app (goodIn_of _ (by decide +kernel)) ggX4_force_X3_inForce
theorem dX4_force_0 : decode cX4_force 0 = .ok (.aload_n 0, 1) := by decide +kernel
theorem dX4_force_1 : decode cX4_force 1 = .ok (.getfield 10, 3) := by decide +kernel
theorem dX4_force_4 : decode cX4_force 4 = .ok (.iload_n 1, 1) := by decide +kernel
theorem dX4_force_5 : decode cX4_force 5 = .ok (.iload_n 2, 1) := by decide +kernel
theorem dX4_force_6 : decode cX4_force 6 = .ok (.invokevirtual 41, 3) := by decide +kernel
theorem dX4_force_9 : decode cX4_force 9 = .ok (.ireturn, 1) := by decide +kernel
set_option maxRecDepth 20000 in
theorem ggX4_thing_X3_addThing : GoodIn wsX4_thing wsX3_addThing := goodIn_r _ [6, 7, 8, 9, 10, 11, 12, 13, 14, 15, 20, 21, 22, 23, 24, 25, 26, 27, 28, 29, 30, 31, 32] (by decide +kernel) (by decide +kernel)
set_option maxRecDepth 20000 in
theorem gX4_thing_X3_addThing : GoodIn wsX4_thing (wsV RX4 45 RX3 yX3_addThing wsX3_addThing) := goodIn_app (goodIn_of _ (by decide +kernel)) ggX4_thing_X3_addThing
theorem dX4_thing_0 : decode cX4_thing 0 = .ok (.aload_n 0, 1) := by decide +kernel
theorem dX4_thing_1 : decode cX4_thing 1 = .ok (.getfield 10, 3) := by decide +kernel
theorem dX4_thing_4 : decode cX4_thing 4 = .ok (.iload_n 1, 1) := by decide +kernel
theorem dX4_thing_5 : decode cX4_thing 5 = .ok (.iload_n 2, 1) := by decide +kernel
theorem dX4_thing_6 : decode cX4_thing 6 = .ok (.iload_n 3, 1) := by decide +kernel
theorem dX4_thing_7 : decode cX4_thing 7 = .ok (.iload 4, 2) := by decide +kernel
theorem dX4_thing_9 : decode cX4_thing 9 = .ok (.invokevirtual 45, 3) := by decide +kernel
theorem dX4_thing_12 : decode cX4_thing 12 = .ok (.ireturn, 1) := by decide +kernel
set_option maxRecDepth 20000 in
theorem ggX4_clip_X3_clipTree : GoodIn wsX4_clip wsX3_clipTree := goodIn_r _ [6, 7, 8, 9, 10, 11, 12, 13, 14, 5, 15, 16, 17, 18, 19, 20, 21, 22, 23, 24, 25, 26, 27, 28, 29, 30, 31, 32, 37, 38, 39, 40, 41, 42, 43, 44, 45, 46, 47, 48, 49] (by decide +kernel) (by decide +kernel)
set_option maxRecDepth 20000 in
theorem gX4_clip_X3_clipTree : GoodIn wsX4_clip (wsV RX4 49 RX3 yX3_clipTree wsX3_clipTree) := goodIn_app (goodIn_of _ (by decide +kernel)) ggX4_clip_X3_clipTree
theorem dX4_clip_0 : decode cX4_clip 0 = .ok (.aload_n 0, 1) := by decide +kernel
theorem dX4_clip_1 : decode cX4_clip 1 = .ok (.getfield 10, 3) := by decide +kernel
theorem dX4_clip_4 : decode cX4_clip 4 = .ok (.iload_n 1, 1) := by decide +kernel
theorem dX4_clip_5 : decode cX4_clip 5 = .ok (.iload_n 2, 1) := by decide +kernel
theorem dX4_clip_6 : decode cX4_clip 6 = .ok (.iload_n 3, 1) := by decide +kernel
theorem dX4_clip_7 : decode cX4_clip 7 = .ok (.invokevirtual 49, 3) := by decide +kernel
theorem dX4_clip_10 : decode cX4_clip 10 = .ok (.ireturn, 1) := by decide +kernel
set_option maxRecDepth 20000 in
theorem ggX4_look_X3_lookAt : GoodIn wsX4_look wsX3_lookAt := goodIn_r _ [6, 7, 8, 9, 5, 10, 11, 12, 13, 14, 15, 16, 17, 18, 19, 20, 21, 22, 23, 24, 25, 26, 27, 28, 29, 30, 31, 32, 33, 34, 35, 36, 37, 38, 39, 40, 41, 42, 43, 44, 45, 46, 47, 48, 49, 50, 51, 52, 53, 54, 55, 56, 57, 62, 63, 64, 65, 66, 67, 68, 69, 70, 71, 72, 73, 74] (by decide +kernel) (by decide +kernel)
set_option maxRecDepth 20000 in
theorem gX4_look_X3_lookAt : GoodIn wsX4_look (wsV RX4 52 RX3 yX3_lookAt wsX3_lookAt) := goodIn_app (goodIn_of _ (by decide +kernel)) ggX4_look_X3_lookAt
theorem dX4_look_0 : decode cX4_look 0 = .ok (.aload_n 0, 1) := by decide +kernel
theorem dX4_look_1 : decode cX4_look 1 = .ok (.getfield 10, 3) := by decide +kernel
theorem dX4_look_4 : decode cX4_look 4 = .ok (.iload_n 1, 1) := by decide +kernel
theorem dX4_look_5 : decode cX4_look 5 = .ok (.iload_n 2, 1) := by decide +kernel
theorem dX4_look_6 : decode cX4_look 6 = .ok (.iload_n 3, 1) := by decide +kernel
theorem dX4_look_7 : decode cX4_look 7 = .ok (.invokevirtual 52, 3) := by decide +kernel
theorem dX4_look_10 : decode cX4_look 10 = .ok (.ireturn, 1) := by decide +kernel
set_option maxRecDepth 20000 in
theorem ggX4_fault_X3_firstFaulty : GoodIn wsX4_fault wsX3_firstFaulty := goodIn_r _ [6, 7, 8, 9, 10, 11, 12, 13, 14, 15, 16, 5, 17, 18, 19, 20, 21, 22, 23, 24, 25, 26, 27, 28, 29, 30, 31, 32, 33, 34, 35, 36, 37, 38, 39, 40, 41, 42, 43, 44, 45, 46, 47, 48, 49, 50, 51, 52, 53, 58, 59, 60, 61, 62, 63, 64, 65, 66, 67, 68, 69, 70] (by decide +kernel) (by decide +kernel)
set_option maxRecDepth 20000 in
theorem gX4_fault_X3_firstFaulty : GoodIn wsX4_fault (wsV RX4 55 RX3 yX3_firstFaulty wsX3_firstFaulty) := goodIn_app (goodIn_of _ (by decide +kernel)) ggX4_fault_X3_firstFaulty
theorem dX4_fault_0 : decode cX4_fault 0 = .ok (.aload_n 0, 1) := by decide +kernel
theorem dX4_fault_1 : decode cX4_fault 1 = .ok (.getfield 10, 3) := by decide +kernel
theorem dX4_fault_4 : decode cX4_fault 4 = .ok (.iload_n 1, 1) := by decide +kernel
theorem dX4_fault_5 : decode cX4_fault 5 = .ok (.invokevirtual 55, 3) := by decide +kernel
theorem dX4_fault_8 : decode cX4_fault 8 = .ok (.ireturn, 1) := by decide +kernel
set_option maxRecDepth 20000 in
theorem ggX4_spoils_X3_firstFaultyDay : GoodIn wsX4_spoils wsX3_firstFaultyDay := goodIn_r _ [6, 7, 8, 9, 5, 10, 11, 12, 13, 14, 15, 16, 17, 18, 19, 20, 21, 22, 23, 24, 25, 26, 27, 28, 29, 30, 31, 32, 33, 34, 35, 36, 37, 38, 39, 40, 41, 42, 43, 44, 45, 46, 47, 48, 49, 50, 51, 52, 53, 54, 55, 56, 57, 62, 63, 64, 65, 66, 67, 68, 69, 70, 71, 72, 73, 74] (by decide +kernel) (by decide +kernel)
set_option maxRecDepth 20000 in
theorem gX4_spoils_X3_firstFaultyDay : GoodIn wsX4_spoils (wsV RX4 59 RX3 yX3_firstFaultyDay wsX3_firstFaultyDay) := goodIn_app (goodIn_of _ (by decide +kernel)) ggX4_spoils_X3_firstFaultyDay
theorem dX4_spoils_0 : decode cX4_spoils 0 = .ok (.aload_n 0, 1) := by decide +kernel
theorem dX4_spoils_1 : decode cX4_spoils 1 = .ok (.getfield 10, 3) := by decide +kernel
theorem dX4_spoils_4 : decode cX4_spoils 4 = .ok (.iload_n 1, 1) := by decide +kernel
theorem dX4_spoils_5 : decode cX4_spoils 5 = .ok (.iload_n 2, 1) := by decide +kernel
theorem dX4_spoils_6 : decode cX4_spoils 6 = .ok (.invokevirtual 59, 3) := by decide +kernel
theorem dX4_spoils_9 : decode cX4_spoils 9 = .ok (.ireturn, 1) := by decide +kernel
set_option maxRecDepth 20000 in
theorem ggX4_fade_X1_setFade : GoodIn wsX4_fade wsX1_setFade := goodIn_r _ [6, 7, 8, 9, 10, 15, 16, 17, 18, 19, 20, 21, 22, 23, 24, 25, 26, 27, 28, 29, 30] (by decide +kernel) (by decide +kernel)
set_option maxRecDepth 20000 in
theorem gX4_fade_X1_setFade : GoodIn wsX4_fade (wsV RX4 62 RX1 yX1_setFade wsX1_setFade) := goodIn_app (goodIn_of _ (by decide +kernel)) ggX4_fade_X1_setFade
theorem dX4_fade_0 : decode cX4_fade 0 = .ok (.aload_n 0, 1) := by decide +kernel
theorem dX4_fade_1 : decode cX4_fade 1 = .ok (.getfield 19, 3) := by decide +kernel
theorem dX4_fade_4 : decode cX4_fade 4 = .ok (.iload_n 1, 1) := by decide +kernel
theorem dX4_fade_5 : decode cX4_fade 5 = .ok (.iload_n 2, 1) := by decide +kernel
theorem dX4_fade_6 : decode cX4_fade 6 = .ok (.invokevirtual 62, 3) := by decide +kernel
theorem dX4_fade_9 : decode cX4_fade 9 = .ok (.ireturn, 1) := by decide +kernel
set_option maxRecDepth 20000 in
theorem ggX4_wall_X1_addWall : GoodIn wsX4_wall wsX1_addWall := goodIn_r _ [6, 7, 8, 9, 10, 11, 12, 13, 14, 19, 20, 21, 22, 23, 24, 25, 26, 27, 28, 29, 30, 31, 32, 33, 34] (by decide +kernel) (by decide +kernel)
set_option maxRecDepth 20000 in
theorem gX4_wall_X1_addWall : GoodIn wsX4_wall (wsV RX4 65 RX1 yX1_addWall wsX1_addWall) := goodIn_app (goodIn_of _ (by decide +kernel)) ggX4_wall_X1_addWall
theorem dX4_wall_0 : decode cX4_wall 0 = .ok (.aload_n 0, 1) := by decide +kernel
theorem dX4_wall_1 : decode cX4_wall 1 = .ok (.getfield 19, 3) := by decide +kernel
theorem dX4_wall_4 : decode cX4_wall 4 = .ok (.iload_n 1, 1) := by decide +kernel
theorem dX4_wall_5 : decode cX4_wall 5 = .ok (.iload_n 2, 1) := by decide +kernel
theorem dX4_wall_6 : decode cX4_wall 6 = .ok (.iload_n 3, 1) := by decide +kernel
theorem dX4_wall_7 : decode cX4_wall 7 = .ok (.invokevirtual 65, 3) := by decide +kernel
theorem dX4_wall_10 : decode cX4_wall 10 = .ok (.ireturn, 1) := by decide +kernel
set_option maxRecDepth 20000 in
theorem ggX4_wallOf_X1_aboutWall : GoodIn wsX4_wallOf wsX1_aboutWall := goodIn_r _ [6, 7, 8, 9, 10, 11, 12, 13, 14, 15, 20, 21, 22, 23, 24, 25, 26, 27, 28, 29, 30, 31, 32, 33, 34, 35] (by decide +kernel) (by decide +kernel)
set_option maxRecDepth 20000 in
theorem gX4_wallOf_X1_aboutWall : GoodIn wsX4_wallOf (wsV RX4 68 RX1 yX1_aboutWall wsX1_aboutWall) := goodIn_app (goodIn_of _ (by decide +kernel)) ggX4_wallOf_X1_aboutWall
theorem dX4_wallOf_0 : decode cX4_wallOf 0 = .ok (.aload_n 0, 1) := by decide +kernel
theorem dX4_wallOf_1 : decode cX4_wallOf 1 = .ok (.getfield 19, 3) := by decide +kernel
theorem dX4_wallOf_4 : decode cX4_wallOf 4 = .ok (.iload_n 1, 1) := by decide +kernel
theorem dX4_wallOf_5 : decode cX4_wallOf 5 = .ok (.iload_n 2, 1) := by decide +kernel
theorem dX4_wallOf_6 : decode cX4_wallOf 6 = .ok (.invokevirtual 68, 3) := by decide +kernel
theorem dX4_wallOf_9 : decode cX4_wallOf 9 = .ok (.ireturn, 1) := by decide +kernel
set_option maxRecDepth 20000 in
theorem ggX4_hands_X1_setHands : GoodIn wsX4_hands wsX1_setHands := goodIn_r _ [6, 7, 8, 9, 10, 15, 16, 17, 18, 19, 20, 21, 22, 23, 24, 25, 26, 27, 28, 29, 30] (by decide +kernel) (by decide +kernel)
set_option maxRecDepth 20000 in
theorem gX4_hands_X1_setHands : GoodIn wsX4_hands (wsV RX4 71 RX1 yX1_setHands wsX1_setHands) := goodIn_app (goodIn_of _ (by decide +kernel)) ggX4_hands_X1_setHands
theorem dX4_hands_0 : decode cX4_hands 0 = .ok (.aload_n 0, 1) := by decide +kernel
theorem dX4_hands_1 : decode cX4_hands 1 = .ok (.getfield 19, 3) := by decide +kernel
theorem dX4_hands_4 : decode cX4_hands 4 = .ok (.iload_n 1, 1) := by decide +kernel
theorem dX4_hands_5 : decode cX4_hands 5 = .ok (.invokevirtual 71, 3) := by decide +kernel
theorem dX4_hands_8 : decode cX4_hands 8 = .ok (.ireturn, 1) := by decide +kernel
set_option maxRecDepth 20000 in
theorem ggX4_frost_X1_setFrost : GoodIn wsX4_frost wsX1_setFrost := goodIn_r _ [6, 7, 8, 9, 10, 11, 12, 13, 18, 19, 20, 21, 22, 23, 24, 25, 26, 27, 28, 29, 30, 31, 32, 33] (by decide +kernel) (by decide +kernel)
set_option maxRecDepth 20000 in
theorem gX4_frost_X1_setFrost : GoodIn wsX4_frost (wsV RX4 74 RX1 yX1_setFrost wsX1_setFrost) := goodIn_app (goodIn_of _ (by decide +kernel)) ggX4_frost_X1_setFrost
theorem dX4_frost_0 : decode cX4_frost 0 = .ok (.aload_n 0, 1) := by decide +kernel
theorem dX4_frost_1 : decode cX4_frost 1 = .ok (.getfield 19, 3) := by decide +kernel
theorem dX4_frost_4 : decode cX4_frost 4 = .ok (.iload_n 1, 1) := by decide +kernel
theorem dX4_frost_5 : decode cX4_frost 5 = .ok (.iload_n 2, 1) := by decide +kernel
theorem dX4_frost_6 : decode cX4_frost 6 = .ok (.invokevirtual 74, 3) := by decide +kernel
theorem dX4_frost_9 : decode cX4_frost 9 = .ok (.ireturn, 1) := by decide +kernel
set_option maxRecDepth 20000 in
theorem ggX4_week_X1_goWeek : GoodIn wsX4_week wsX1_goWeek := goodIn_r _ [6, 7, 8, 9, 10, 11, 12, 13, 5, 14, 15, 16, 17, 18, 19, 20, 21, 22, 23, 24, 25, 26, 27, 28, 29, 30, 31, 32, 37, 38, 39, 40, 41, 42, 43, 44, 45, 46, 47, 48, 49, 50, 51, 52] (by decide +kernel) (by decide +kernel)
set_option maxRecDepth 20000 in
theorem gX4_week_X1_goWeek : GoodIn wsX4_week (wsV RX4 78 RX1 yX1_goWeek wsX1_goWeek) := goodIn_app (goodIn_of _ (by decide +kernel)) ggX4_week_X1_goWeek
theorem dX4_week_0 : decode cX4_week 0 = .ok (.aload_n 0, 1) := by decide +kernel
theorem dX4_week_1 : decode cX4_week 1 = .ok (.getfield 19, 3) := by decide +kernel
theorem dX4_week_4 : decode cX4_week 4 = .ok (.invokevirtual 78, 3) := by decide +kernel
theorem dX4_week_7 : decode cX4_week 7 = .ok (.ireturn, 1) := by decide +kernel
set_option maxRecDepth 20000 in
theorem ggX4_foretell_X1_leastForetold : GoodIn wsX4_foretell wsX1_leastForetold := goodIn_r _ [6, 7, 8, 9, 10, 11, 12, 13, 14, 15, 16, 17, 18, 5, 19, 20, 21, 22, 23, 24, 25, 26, 27, 28, 29, 30, 31, 32, 33, 34, 35, 36, 37, 38, 39, 40, 41, 42, 43, 44, 45, 46, 47, 48, 49, 50, 51, 56, 57, 58, 59, 60, 61, 62, 63, 64, 65, 66, 67, 68, 69, 70, 71] (by decide +kernel) (by decide +kernel)
set_option maxRecDepth 20000 in
theorem gX4_foretell_X1_leastForetold : GoodIn wsX4_foretell (wsV RX4 82 RX1 yX1_leastForetold wsX1_leastForetold) := goodIn_app (goodIn_of _ (by decide +kernel)) ggX4_foretell_X1_leastForetold
theorem dX4_foretell_0 : decode cX4_foretell 0 = .ok (.aload_n 0, 1) := by decide +kernel
theorem dX4_foretell_1 : decode cX4_foretell 1 = .ok (.getfield 19, 3) := by decide +kernel
theorem dX4_foretell_4 : decode cX4_foretell 4 = .ok (.iload_n 1, 1) := by decide +kernel
theorem dX4_foretell_5 : decode cX4_foretell 5 = .ok (.iload_n 2, 1) := by decide +kernel
theorem dX4_foretell_6 : decode cX4_foretell 6 = .ok (.invokevirtual 82, 3) := by decide +kernel
theorem dX4_foretell_9 : decode cX4_foretell 9 = .ok (.ireturn, 1) := by decide +kernel
set_option maxRecDepth 20000 in
theorem ggX4_enough_X1_fewestHands : GoodIn wsX4_enough wsX1_fewestHands := goodIn_r _ [6, 7, 8, 9, 10, 11, 12, 13, 14, 15, 16, 5, 17, 18, 19, 20, 21, 22, 23, 24, 25, 26, 27, 28, 29, 30, 31, 32, 33, 34, 35, 36, 37, 38, 39, 40, 41, 42, 43, 44, 45, 46, 47, 48, 49, 50, 55, 56, 57, 58, 59, 60, 61, 62, 63, 64, 65, 66, 67, 68, 69, 70] (by decide +kernel) (by decide +kernel)
set_option maxRecDepth 20000 in
theorem gX4_enough_X1_fewestHands : GoodIn wsX4_enough (wsV RX4 85 RX1 yX1_fewestHands wsX1_fewestHands) := goodIn_app (goodIn_of _ (by decide +kernel)) ggX4_enough_X1_fewestHands
theorem dX4_enough_0 : decode cX4_enough 0 = .ok (.aload_n 0, 1) := by decide +kernel
theorem dX4_enough_1 : decode cX4_enough 1 = .ok (.getfield 19, 3) := by decide +kernel
theorem dX4_enough_4 : decode cX4_enough 4 = .ok (.iload_n 1, 1) := by decide +kernel
theorem dX4_enough_5 : decode cX4_enough 5 = .ok (.iload_n 2, 1) := by decide +kernel
theorem dX4_enough_6 : decode cX4_enough 6 = .ok (.invokevirtual 85, 3) := by decide +kernel
theorem dX4_enough_9 : decode cX4_enough 9 = .ok (.ireturn, 1) := by decide +kernel
set_option maxRecDepth 20000 in
theorem ggX4_ring_X2_addRing : GoodIn wsX4_ring wsX2_addRing := goodIn_r _ [6, 7, 12, 13, 14, 15, 16, 17, 18, 19, 20, 21, 22, 23] (by decide +kernel) (by decide +kernel)
set_option maxRecDepth 20000 in
theorem gX4_ring_X2_addRing : GoodIn wsX4_ring (wsV RX4 88 RX2 yX2_addRing wsX2_addRing) := goodIn_app (goodIn_of _ (by decide +kernel)) ggX4_ring_X2_addRing
theorem dX4_ring_0 : decode cX4_ring 0 = .ok (.aload_n 0, 1) := by decide +kernel
theorem dX4_ring_1 : decode cX4_ring 1 = .ok (.getfield 26, 3) := by decide +kernel
theorem dX4_ring_4 : decode cX4_ring 4 = .ok (.invokevirtual 88, 3) := by decide +kernel
theorem dX4_ring_7 : decode cX4_ring 7 = .ok (.ireturn, 1) := by decide +kernel
set_option maxRecDepth 20000 in
theorem ggX4_block_X2_addBlock : GoodIn wsX4_block wsX2_addBlock := goodIn_r _ [6, 7, 8, 9, 10, 11, 5, 12, 13, 14, 15, 16, 17, 18, 19, 20, 21, 22, 23, 24, 25, 26, 31, 32, 33, 34, 35, 36, 37, 38, 39, 40, 41, 42] (by decide +kernel) (by decide +kernel)
set_option maxRecDepth 20000 in
theorem gX4_block_X2_addBlock : GoodIn wsX4_block (wsV RX4 91 RX2 yX2_addBlock wsX2_addBlock) := goodIn_app (goodIn_of _ (by decide +kernel)) ggX4_block_X2_addBlock
theorem dX4_block_0 : decode cX4_block 0 = .ok (.aload_n 0, 1) := by decide +kernel
theorem dX4_block_1 : decode cX4_block 1 = .ok (.getfield 26, 3) := by decide +kernel
theorem dX4_block_4 : decode cX4_block 4 = .ok (.iload_n 1, 1) := by decide +kernel
theorem dX4_block_5 : decode cX4_block 5 = .ok (.iload_n 2, 1) := by decide +kernel
theorem dX4_block_6 : decode cX4_block 6 = .ok (.invokevirtual 91, 3) := by decide +kernel
theorem dX4_block_9 : decode cX4_block 9 = .ok (.ireturn, 1) := by decide +kernel
set_option maxRecDepth 20000 in
theorem ggX4_train_X2_addTrain : GoodIn wsX4_train wsX2_addTrain := goodIn_r _ [6, 7, 8, 9, 10, 11, 12, 13, 14, 15, 5, 16, 17, 18, 19, 20, 21, 22, 23, 24, 25, 26, 27, 28, 33, 34, 35, 36, 37, 38, 39, 40, 41, 42, 43, 44] (by decide +kernel) (by decide +kernel)
set_option maxRecDepth 20000 in
theorem gX4_train_X2_addTrain : GoodIn wsX4_train (wsV RX4 94 RX2 yX2_addTrain wsX2_addTrain) := goodIn_app (goodIn_of _ (by decide +kernel)) ggX4_train_X2_addTrain
theorem dX4_train_0 : decode cX4_train 0 = .ok (.aload_n 0, 1) := by decide +kernel
theorem dX4_train_1 : decode cX4_train 1 = .ok (.getfield 26, 3) := by decide +kernel
theorem dX4_train_4 : decode cX4_train 4 = .ok (.iload_n 1, 1) := by decide +kernel
theorem dX4_train_5 : decode cX4_train 5 = .ok (.iload_n 2, 1) := by decide +kernel
theorem dX4_train_6 : decode cX4_train 6 = .ok (.iload_n 3, 1) := by decide +kernel
theorem dX4_train_7 : decode cX4_train 7 = .ok (.invokevirtual 94, 3) := by decide +kernel
theorem dX4_train_10 : decode cX4_train 10 = .ok (.ireturn, 1) := by decide +kernel
set_option maxRecDepth 20000 in
theorem ggX4_stick_X2_setStuck : GoodIn wsX4_stick wsX2_setStuck := goodIn_r _ [6, 7, 8, 9, 10, 5, 11, 12, 13, 14, 15, 16, 17, 22, 23, 24, 25, 26, 27, 28, 29, 30, 31, 32, 33] (by decide +kernel) (by decide +kernel)
set_option maxRecDepth 20000 in
theorem gX4_stick_X2_setStuck : GoodIn wsX4_stick (wsV RX4 97 RX2 yX2_setStuck wsX2_setStuck) := goodIn_app (goodIn_of _ (by decide +kernel)) ggX4_stick_X2_setStuck
theorem dX4_stick_0 : decode cX4_stick 0 = .ok (.aload_n 0, 1) := by decide +kernel
theorem dX4_stick_1 : decode cX4_stick 1 = .ok (.getfield 26, 3) := by decide +kernel
theorem dX4_stick_4 : decode cX4_stick 4 = .ok (.iload_n 1, 1) := by decide +kernel
theorem dX4_stick_5 : decode cX4_stick 5 = .ok (.iload_n 2, 1) := by decide +kernel
theorem dX4_stick_6 : decode cX4_stick 6 = .ok (.invokevirtual 97, 3) := by decide +kernel
theorem dX4_stick_9 : decode cX4_stick 9 = .ok (.ireturn, 1) := by decide +kernel
set_option maxRecDepth 20000 in
theorem ggX4_run_X2_goMinutes : GoodIn wsX4_run wsX2_goMinutes := goodIn_r _ [6, 7, 8, 9, 10, 11, 12, 13, 14, 15, 5, 16, 17, 18, 19, 20, 21, 22, 23, 24, 25, 26, 27, 28, 29, 30, 31, 32, 33, 34, 35, 36, 37, 38, 39, 40, 41, 42, 47, 48, 49, 50, 51, 52, 53, 54, 55, 56, 57, 58] (by decide +kernel) (by decide +kernel)
set_option maxRecDepth 20000 in
theorem gX4_run_X2_goMinutes : GoodIn wsX4_run (wsV RX4 100 RX2 yX2_goMinutes wsX2_goMinutes) := goodIn_app (goodIn_of _ (by decide +kernel)) ggX4_run_X2_goMinutes
theorem dX4_run_0 : decode cX4_run 0 = .ok (.aload_n 0, 1) := by decide +kernel
theorem dX4_run_1 : decode cX4_run 1 = .ok (.getfield 26, 3) := by decide +kernel
theorem dX4_run_4 : decode cX4_run 4 = .ok (.iload_n 1, 1) := by decide +kernel
theorem dX4_run_5 : decode cX4_run 5 = .ok (.invokevirtual 100, 3) := by decide +kernel
theorem dX4_run_8 : decode cX4_run 8 = .ok (.ireturn, 1) := by decide +kernel
set_option maxRecDepth 20000 in
theorem ggX4_trainOf_X2_aboutTrain : GoodIn wsX4_trainOf wsX2_aboutTrain := goodIn_r _ [6, 7, 8, 9, 10, 11, 12, 13, 14, 15, 5, 16, 17, 18, 19, 20, 21, 22, 23, 24, 25, 26, 27, 28, 29, 30, 31, 32, 33, 34, 35, 36, 37, 38, 39, 40, 45, 46, 47, 48, 49, 50, 51, 52, 53, 54, 55, 56] (by decide +kernel) (by decide +kernel)
set_option maxRecDepth 20000 in
theorem gX4_trainOf_X2_aboutTrain : GoodIn wsX4_trainOf (wsV RX4 103 RX2 yX2_aboutTrain wsX2_aboutTrain) := goodIn_app (goodIn_of _ (by decide +kernel)) ggX4_trainOf_X2_aboutTrain
theorem dX4_trainOf_0 : decode cX4_trainOf 0 = .ok (.aload_n 0, 1) := by decide +kernel
theorem dX4_trainOf_1 : decode cX4_trainOf 1 = .ok (.getfield 26, 3) := by decide +kernel
theorem dX4_trainOf_4 : decode cX4_trainOf 4 = .ok (.iload_n 1, 1) := by decide +kernel
theorem dX4_trainOf_5 : decode cX4_trainOf 5 = .ok (.iload_n 2, 1) := by decide +kernel
theorem dX4_trainOf_6 : decode cX4_trainOf 6 = .ok (.invokevirtual 103, 3) := by decide +kernel
theorem dX4_trainOf_9 : decode cX4_trainOf 9 = .ok (.ireturn, 1) := by decide +kernel
set_option maxRecDepth 20000 in
theorem ggX4_stands_X2_standing : GoodIn wsX4_stands wsX2_standing := goodIn_r _ [6, 7, 8, 9, 10, 5, 11, 12, 13, 14, 15, 16, 17, 18, 19, 20, 21, 22, 23, 24, 25, 26, 27, 28, 29, 30, 31, 32, 37, 38, 39, 40, 41, 42, 43, 44, 45, 46, 47, 48] (by decide +kernel) (by decide +kernel)
set_option maxRecDepth 20000 in
theorem gX4_stands_X2_standing : GoodIn wsX4_stands (wsV RX4 106 RX2 yX2_standing wsX2_standing) := goodIn_app (goodIn_of _ (by decide +kernel)) ggX4_stands_X2_standing
theorem dX4_stands_0 : decode cX4_stands 0 = .ok (.aload_n 0, 1) := by decide +kernel
theorem dX4_stands_1 : decode cX4_stands 1 = .ok (.getfield 26, 3) := by decide +kernel
theorem dX4_stands_4 : decode cX4_stands 4 = .ok (.invokevirtual 106, 3) := by decide +kernel
theorem dX4_stands_7 : decode cX4_stands 7 = .ok (.ireturn, 1) := by decide +kernel
set_option maxRecDepth 20000 in
theorem ggX4_figure_X0_addFigure : GoodIn wsX4_figure wsX0_addFigure := goodIn_r _ [6, 7, 12, 13, 14, 15, 16, 17] (by decide +kernel) (by decide +kernel)
set_option maxRecDepth 20000 in
theorem gX4_figure_X0_addFigure : GoodIn wsX4_figure (wsV RX4 109 RX0 yX0_addFigure wsX0_addFigure) := goodIn_app (goodIn_of _ (by decide +kernel)) ggX4_figure_X0_addFigure
theorem dX4_figure_0 : decode cX4_figure 0 = .ok (.aload_n 0, 1) := by decide +kernel
theorem dX4_figure_1 : decode cX4_figure 1 = .ok (.getfield 33, 3) := by decide +kernel
theorem dX4_figure_4 : decode cX4_figure 4 = .ok (.invokevirtual 109, 3) := by decide +kernel
theorem dX4_figure_7 : decode cX4_figure 7 = .ok (.ireturn, 1) := by decide +kernel
set_option maxRecDepth 20000 in
theorem ggX4_note_X0_addNote : GoodIn wsX4_note wsX0_addNote := goodIn_r _ [6, 7, 8, 9, 10, 11, 12, 13, 14, 5, 15, 16, 17, 18, 19, 20, 21, 22, 27, 28, 29, 30, 31, 32] (by decide +kernel) (by decide +kernel)
set_option maxRecDepth 20000 in
theorem gX4_note_X0_addNote : GoodIn wsX4_note (wsV RX4 112 RX0 yX0_addNote wsX0_addNote) := goodIn_app (goodIn_of _ (by decide +kernel)) ggX4_note_X0_addNote
theorem dX4_note_0 : decode cX4_note 0 = .ok (.aload_n 0, 1) := by decide +kernel
theorem dX4_note_1 : decode cX4_note 1 = .ok (.getfield 33, 3) := by decide +kernel
theorem dX4_note_4 : decode cX4_note 4 = .ok (.iload_n 1, 1) := by decide +kernel
theorem dX4_note_5 : decode cX4_note 5 = .ok (.iload_n 2, 1) := by decide +kernel
theorem dX4_note_6 : decode cX4_note 6 = .ok (.iload_n 3, 1) := by decide +kernel
theorem dX4_note_7 : decode cX4_note 7 = .ok (.iload 4, 2) := by decide +kernel
theorem dX4_note_9 : decode cX4_note 9 = .ok (.invokevirtual 112, 3) := by decide +kernel
theorem dX4_note_12 : decode cX4_note 12 = .ok (.ireturn, 1) := by decide +kernel
set_option maxRecDepth 20000 in
theorem ggX4_where_X0_whereIs : GoodIn wsX4_where wsX0_whereIs := goodIn_r _ [6, 7, 8, 9, 5, 10, 11, 12, 13, 14, 15, 16, 17, 18, 19, 20, 21, 22, 23, 24, 25, 26, 27, 28, 29, 30, 31, 32, 33, 34, 39, 40, 41, 42, 43, 44] (by decide +kernel) (by decide +kernel)
set_option maxRecDepth 20000 in
theorem gX4_where_X0_whereIs : GoodIn wsX4_where (wsV RX4 115 RX0 yX0_whereIs wsX0_whereIs) := goodIn_app (goodIn_of _ (by decide +kernel)) ggX4_where_X0_whereIs
theorem dX4_where_0 : decode cX4_where 0 = .ok (.aload_n 0, 1) := by decide +kernel
theorem dX4_where_1 : decode cX4_where 1 = .ok (.getfield 33, 3) := by decide +kernel
theorem dX4_where_4 : decode cX4_where 4 = .ok (.iload_n 1, 1) := by decide +kernel
theorem dX4_where_5 : decode cX4_where 5 = .ok (.iload_n 2, 1) := by decide +kernel
theorem dX4_where_6 : decode cX4_where 6 = .ok (.iload_n 3, 1) := by decide +kernel
theorem dX4_where_7 : decode cX4_where 7 = .ok (.invokevirtual 115, 3) := by decide +kernel
theorem dX4_where_10 : decode cX4_where 10 = .ok (.ireturn, 1) := by decide +kernel
set_option maxRecDepth 20000 in
theorem ggX4_at_X0_figuresAt : GoodIn wsX4_at wsX0_figuresAt := goodIn_r _ [6, 7, 8, 9, 10, 11, 12, 13, 14, 15, 16, 5, 17, 18, 19, 20, 21, 22, 23, 24, 25, 26, 27, 28, 29, 30, 35, 36, 37, 38, 39, 40] (by decide +kernel) (by decide +kernel)
set_option maxRecDepth 20000 in
theorem gX4_at_X0_figuresAt : GoodIn wsX4_at (wsV RX4 118 RX0 yX0_figuresAt wsX0_figuresAt) := goodIn_app (goodIn_of _ (by decide +kernel)) ggX4_at_X0_figuresAt
theorem dX4_at_0 : decode cX4_at 0 = .ok (.aload_n 0, 1) := by decide +kernel
theorem dX4_at_1 : decode cX4_at 1 = .ok (.getfield 33, 3) := by decide +kernel
theorem dX4_at_4 : decode cX4_at 4 = .ok (.iload_n 1, 1) := by decide +kernel
theorem dX4_at_5 : decode cX4_at 5 = .ok (.iload_n 2, 1) := by decide +kernel
theorem dX4_at_6 : decode cX4_at 6 = .ok (.iload_n 3, 1) := by decide +kernel
theorem dX4_at_7 : decode cX4_at 7 = .ok (.invokevirtual 118, 3) := by decide +kernel
theorem dX4_at_10 : decode cX4_at 10 = .ok (.ireturn, 1) := by decide +kernel
set_option maxRecDepth 20000 in
theorem ggX4_turns_X0_turnsOf : GoodIn wsX4_turns wsX0_turnsOf := goodIn_r _ [6, 7, 8, 9, 10, 11, 5, 12, 13, 14, 15, 16, 17, 18, 19, 20, 21, 22, 23, 24, 25, 26, 27, 28, 29, 34, 35, 36, 37, 38, 39] (by decide +kernel) (by decide +kernel)
set_option maxRecDepth 20000 in
theorem gX4_turns_X0_turnsOf : GoodIn wsX4_turns (wsV RX4 121 RX0 yX0_turnsOf wsX0_turnsOf) := goodIn_app (goodIn_of _ (by decide +kernel)) ggX4_turns_X0_turnsOf
theorem dX4_turns_0 : decode cX4_turns 0 = .ok (.aload_n 0, 1) := by decide +kernel
theorem dX4_turns_1 : decode cX4_turns 1 = .ok (.getfield 33, 3) := by decide +kernel
theorem dX4_turns_4 : decode cX4_turns 4 = .ok (.iload_n 1, 1) := by decide +kernel
theorem dX4_turns_5 : decode cX4_turns 5 = .ok (.iload_n 2, 1) := by decide +kernel
theorem dX4_turns_6 : decode cX4_turns 6 = .ok (.invokevirtual 121, 3) := by decide +kernel
theorem dX4_turns_9 : decode cX4_turns 9 = .ok (.ireturn, 1) := by decide +kernel
theorem dX4_told_0 : decode cX4_told 0 = .ok (.iload_n 1, 1) := by decide +kernel
theorem dX4_told_1 : decode cX4_told 1 = .ok (.tableswitch 135 0 9 #[55, 63, 71, 79, 87, 95, 103, 111, 119, 127], 55) := by decide +kernel
theorem dX4_told_56 : decode cX4_told 56 = .ok (.aload_n 0, 1) := by decide +kernel
theorem dX4_told_57 : decode cX4_told 57 = .ok (.getfield 10, 3) := by decide +kernel
theorem dX4_told_60 : decode cX4_told 60 = .ok (.getfield 124, 3) := by decide +kernel
theorem dX4_told_63 : decode cX4_told 63 = .ok (.ireturn, 1) := by decide +kernel
theorem dX4_told_64 : decode cX4_told 64 = .ok (.aload_n 0, 1) := by decide +kernel
theorem dX4_told_65 : decode cX4_told 65 = .ok (.getfield 10, 3) := by decide +kernel
theorem dX4_told_68 : decode cX4_told 68 = .ok (.getfield 128, 3) := by decide +kernel
theorem dX4_told_71 : decode cX4_told 71 = .ok (.ireturn, 1) := by decide +kernel
theorem dX4_told_72 : decode cX4_told 72 = .ok (.aload_n 0, 1) := by decide +kernel
theorem dX4_told_73 : decode cX4_told 73 = .ok (.getfield 19, 3) := by decide +kernel
theorem dX4_told_76 : decode cX4_told 76 = .ok (.getfield 131, 3) := by decide +kernel
theorem dX4_told_79 : decode cX4_told 79 = .ok (.ireturn, 1) := by decide +kernel
theorem dX4_told_80 : decode cX4_told 80 = .ok (.aload_n 0, 1) := by decide +kernel
theorem dX4_told_81 : decode cX4_told 81 = .ok (.getfield 19, 3) := by decide +kernel
theorem dX4_told_84 : decode cX4_told 84 = .ok (.getfield 134, 3) := by decide +kernel
theorem dX4_told_87 : decode cX4_told 87 = .ok (.ireturn, 1) := by decide +kernel
theorem dX4_told_88 : decode cX4_told 88 = .ok (.aload_n 0, 1) := by decide +kernel
theorem dX4_told_89 : decode cX4_told 89 = .ok (.getfield 19, 3) := by decide +kernel
theorem dX4_told_92 : decode cX4_told 92 = .ok (.getfield 137, 3) := by decide +kernel
theorem dX4_told_95 : decode cX4_told 95 = .ok (.ireturn, 1) := by decide +kernel
theorem dX4_told_96 : decode cX4_told 96 = .ok (.aload_n 0, 1) := by decide +kernel
theorem dX4_told_97 : decode cX4_told 97 = .ok (.getfield 26, 3) := by decide +kernel
theorem dX4_told_100 : decode cX4_told 100 = .ok (.getfield 140, 3) := by decide +kernel
theorem dX4_told_103 : decode cX4_told 103 = .ok (.ireturn, 1) := by decide +kernel
theorem dX4_told_104 : decode cX4_told 104 = .ok (.aload_n 0, 1) := by decide +kernel
theorem dX4_told_105 : decode cX4_told 105 = .ok (.getfield 26, 3) := by decide +kernel
theorem dX4_told_108 : decode cX4_told 108 = .ok (.getfield 143, 3) := by decide +kernel
theorem dX4_told_111 : decode cX4_told 111 = .ok (.ireturn, 1) := by decide +kernel
theorem dX4_told_112 : decode cX4_told 112 = .ok (.aload_n 0, 1) := by decide +kernel
theorem dX4_told_113 : decode cX4_told 113 = .ok (.getfield 26, 3) := by decide +kernel
theorem dX4_told_116 : decode cX4_told 116 = .ok (.getfield 146, 3) := by decide +kernel
theorem dX4_told_119 : decode cX4_told 119 = .ok (.ireturn, 1) := by decide +kernel
theorem dX4_told_120 : decode cX4_told 120 = .ok (.aload_n 0, 1) := by decide +kernel
theorem dX4_told_121 : decode cX4_told 121 = .ok (.getfield 33, 3) := by decide +kernel
theorem dX4_told_124 : decode cX4_told 124 = .ok (.getfield 149, 3) := by decide +kernel
theorem dX4_told_127 : decode cX4_told 127 = .ok (.ireturn, 1) := by decide +kernel
theorem dX4_told_128 : decode cX4_told 128 = .ok (.aload_n 0, 1) := by decide +kernel
theorem dX4_told_129 : decode cX4_told 129 = .ok (.getfield 33, 3) := by decide +kernel
theorem dX4_told_132 : decode cX4_told 132 = .ok (.getfield 152, 3) := by decide +kernel
theorem dX4_told_135 : decode cX4_told 135 = .ok (.ireturn, 1) := by decide +kernel
theorem dX4_told_136 : decode cX4_told 136 = .ok (.bipush (-2), 2) := by decide +kernel
theorem dX4_told_138 : decode cX4_told 138 = .ok (.ireturn, 1) := by decide +kernel
theorem dX4_isWithin_0 : decode cX4_isWithin 0 = .ok (.iload_n 0, 1) := by decide +kernel
theorem dX4_isWithin_1 : decode cX4_isWithin 1 = .ok (.iload_n 1, 1) := by decide +kernel
theorem dX4_isWithin_2 : decode cX4_isWithin 2 = .ok (.if_icmp .lt 12, 3) := by decide +kernel
theorem dX4_isWithin_5 : decode cX4_isWithin 5 = .ok (.iload_n 0, 1) := by decide +kernel
theorem dX4_isWithin_6 : decode cX4_isWithin 6 = .ok (.iload_n 2, 1) := by decide +kernel
theorem dX4_isWithin_7 : decode cX4_isWithin 7 = .ok (.if_icmp .gt 7, 3) := by decide +kernel
theorem dX4_isWithin_10 : decode cX4_isWithin 10 = .ok (.iconst 1, 1) := by decide +kernel
theorem dX4_isWithin_11 : decode cX4_isWithin 11 = .ok (.goto 4, 3) := by decide +kernel
theorem dX4_isWithin_14 : decode cX4_isWithin 14 = .ok (.iconst 0, 1) := by decide +kernel
theorem dX4_isWithin_15 : decode cX4_isWithin 15 = .ok (.ireturn, 1) := by decide +kernel
set_option maxRecDepth 20000 in
theorem ggX4_isDay_X4_isWithin : GoodIn wsX4_isDay wsX4_isWithin := goodIn_r _ [4] (by decide +kernel) (by decide +kernel)
set_option maxRecDepth 20000 in
theorem gX4_isDay_X4_isWithin : GoodIn wsX4_isDay (va_wsS RX4 155 yX4_isWithin wsX4_isWithin) := goodIn_app (goodIn_of _ (by decide +kernel)) ggX4_isDay_X4_isWithin
theorem dX4_isDay_0 : decode cX4_isDay 0 = .ok (.iload_n 0, 1) := by decide +kernel
theorem dX4_isDay_1 : decode cX4_isDay 1 = .ok (.iconst 0, 1) := by decide +kernel
theorem dX4_isDay_2 : decode cX4_isDay 2 = .ok (.sipush 3000, 3) := by decide +kernel
theorem dX4_isDay_5 : decode cX4_isDay 5 = .ok (.invokestatic 155, 3) := by decide +kernel
theorem dX4_isDay_8 : decode cX4_isDay 8 = .ok (.ireturn, 1) := by decide +kernel
theorem dX4_oneIf_0 : decode cX4_oneIf 0 = .ok (.iload_n 0, 1) := by decide +kernel
theorem dX4_oneIf_1 : decode cX4_oneIf 1 = .ok (.ifCond .eq 7, 3) := by decide +kernel
theorem dX4_oneIf_4 : decode cX4_oneIf 4 = .ok (.iconst 1, 1) := by decide +kernel
theorem dX4_oneIf_5 : decode cX4_oneIf 5 = .ok (.goto 4, 3) := by decide +kernel
theorem dX4_oneIf_8 : decode cX4_oneIf 8 = .ok (.iconst 0, 1) := by decide +kernel
theorem dX4_oneIf_9 : decode cX4_oneIf 9 = .ok (.ireturn, 1) := by decide +kernel
end
section
theorem dX5_init_0 : decode cX5_init 0 = .ok (.aload_n 0, 1) := by decide +kernel
theorem dX5_init_1 : decode cX5_init 1 = .ok (.invokespecial 1, 3) := by decide +kernel
theorem dX5_init_4 : decode cX5_init 4 = .ok (.aload_n 0, 1) := by decide +kernel
theorem dX5_init_5 : decode cX5_init 5 = .ok (.bipush 18, 2) := by decide +kernel
theorem dX5_init_7 : decode cX5_init 7 = .ok (.newarray .int, 2) := by decide +kernel
theorem dX5_init_9 : decode cX5_init 9 = .ok (.putfield 7, 3) := by decide +kernel
theorem dX5_init_12 : decode cX5_init 12 = .ok (.aload_n 0, 1) := by decide +kernel
theorem dX5_init_13 : decode cX5_init 13 = .ok (.bipush 80, 2) := by decide +kernel
theorem dX5_init_15 : decode cX5_init 15 = .ok (.newarray .int, 2) := by decide +kernel
theorem dX5_init_17 : decode cX5_init 17 = .ok (.putfield 13, 3) := by decide +kernel
theorem dX5_init_20 : decode cX5_init 20 = .ok (.aload_n 0, 1) := by decide +kernel
theorem dX5_init_21 : decode cX5_init 21 = .ok (.sipush 180, 3) := by decide +kernel
theorem dX5_init_24 : decode cX5_init 24 = .ok (.newarray .int, 2) := by decide +kernel
theorem dX5_init_26 : decode cX5_init 26 = .ok (.putfield 16, 3) := by decide +kernel
theorem dX5_init_29 : decode cX5_init 29 = .ok (.aload_n 0, 1) := by decide +kernel
theorem dX5_init_30 : decode cX5_init 30 = .ok (.iconst 4, 1) := by decide +kernel
theorem dX5_init_31 : decode cX5_init 31 = .ok (.newarray .int, 2) := by decide +kernel
theorem dX5_init_33 : decode cX5_init 33 = .ok (.putfield 19, 3) := by decide +kernel
theorem dX5_init_36 : decode cX5_init 36 = .ok (.aload_n 0, 1) := by decide +kernel
theorem dX5_init_37 : decode cX5_init 37 = .ok (.bipush 120, 2) := by decide +kernel
theorem dX5_init_39 : decode cX5_init 39 = .ok (.newarray .int, 2) := by decide +kernel
theorem dX5_init_41 : decode cX5_init 41 = .ok (.putfield 22, 3) := by decide +kernel
theorem dX5_init_44 : decode cX5_init 44 = .ok (.aload_n 0, 1) := by decide +kernel
theorem dX5_init_45 : decode cX5_init 45 = .ok (.bipush 20, 2) := by decide +kernel
theorem dX5_init_47 : decode cX5_init 47 = .ok (.putfield 25, 3) := by decide +kernel
theorem dX5_init_50 : decode cX5_init 50 = .ok (.aload_n 0, 1) := by decide +kernel
theorem dX5_init_51 : decode cX5_init 51 = .ok (.sipush 200, 3) := by decide +kernel
theorem dX5_init_54 : decode cX5_init 54 = .ok (.newarray .boolean, 2) := by decide +kernel
theorem dX5_init_56 : decode cX5_init 56 = .ok (.putfield 29, 3) := by decide +kernel
theorem dX5_init_59 : decode cX5_init 59 = .ok (.aload_n 0, 1) := by decide +kernel
theorem dX5_init_60 : decode cX5_init 60 = .ok (.iconst 3, 1) := by decide +kernel
theorem dX5_init_61 : decode cX5_init 61 = .ok (.newarray .int, 2) := by decide +kernel
theorem dX5_init_63 : decode cX5_init 63 = .ok (.putfield 33, 3) := by decide +kernel
theorem dX5_init_66 : decode cX5_init 66 = .ok (.aload_n 0, 1) := by decide +kernel
theorem dX5_init_67 : decode cX5_init 67 = .ok (.bipush 36, 2) := by decide +kernel
theorem dX5_init_69 : decode cX5_init 69 = .ok (.newarray .int, 2) := by decide +kernel
theorem dX5_init_71 : decode cX5_init 71 = .ok (.putfield 36, 3) := by decide +kernel
theorem dX5_init_74 : decode cX5_init 74 = .ok (.aload_n 0, 1) := by decide +kernel
theorem dX5_init_75 : decode cX5_init 75 = .ok (.bipush 28, 2) := by decide +kernel
theorem dX5_init_77 : decode cX5_init 77 = .ok (.newarray .int, 2) := by decide +kernel
theorem dX5_init_79 : decode cX5_init 79 = .ok (.putfield 39, 3) := by decide +kernel
theorem dX5_init_82 : decode cX5_init 82 = .ok (.aload_n 0, 1) := by decide +kernel
theorem dX5_init_83 : decode cX5_init 83 = .ok (.sipush 240, 3) := by decide +kernel
theorem dX5_init_86 : decode cX5_init 86 = .ok (.newarray .int, 2) := by decide +kernel
theorem dX5_init_88 : decode cX5_init 88 = .ok (.putfield 42, 3) := by decide +kernel
theorem dX5_init_91 : decode cX5_init 91 = .ok (.aload_n 0, 1) := by decide +kernel
theorem dX5_init_92 : decode cX5_init 92 = .ok (.bipush 24, 2) := by decide +kernel
theorem dX5_init_94 : decode cX5_init 94 = .ok (.newarray .int, 2) := by decide +kernel
theorem dX5_init_96 : decode cX5_init 96 = .ok (.putfield 45, 3) := by decide +kernel
theorem dX5_init_99 : decode cX5_init 99 = .ok (.aload_n 0, 1) := by decide +kernel
theorem dX5_init_100 : decode cX5_init 100 = .ok (.bipush 24, 2) := by decide +kernel
theorem dX5_init_102 : decode cX5_init 102 = .ok (.newarray .boolean, 2) := by decide +kernel
theorem dX5_init_104 : decode cX5_init 104 = .ok (.putfield 48, 3) := by decide +kernel
theorem dX5_init_107 : decode cX5_init 107 = .ok (.aload_n 0, 1) := by decide +kernel
theorem dX5_init_108 : decode cX5_init 108 = .ok (.iconst 3, 1) := by decide +kernel
theorem dX5_init_109 : decode cX5_init 109 = .ok (.newarray .int, 2) := by decide +kernel
theorem dX5_init_111 : decode cX5_init 111 = .ok (.putfield 51, 3) := by decide +kernel
theorem dX5_init_114 : decode cX5_init 114 = .ok (.iconst 0, 1) := by decide +kernel
theorem dX5_init_115 : decode cX5_init 115 = .ok (.istore_n 1, 1) := by decide +kernel
theorem dX5_init_116 : decode cX5_init 116 = .ok (.iload_n 1, 1) := by decide +kernel
theorem dX5_init_117 : decode cX5_init 117 = .ok (.iconst 4, 1) := by decide +kernel
theorem dX5_init_118 : decode cX5_init 118 = .ok (.if_icmp .ge 16, 3) := by decide +kernel
theorem dX5_init_121 : decode cX5_init 121 = .ok (.aload_n 0, 1) := by decide +kernel
theorem dX5_init_122 : decode cX5_init 122 = .ok (.getfield 19, 3) := by decide +kernel
theorem dX5_init_125 : decode cX5_init 125 = .ok (.iload_n 1, 1) := by decide +kernel
theorem dX5_init_126 : decode cX5_init 126 = .ok (.iconst 5, 1) := by decide +kernel
theorem dX5_init_127 : decode cX5_init 127 = .ok (.iastore, 1) := by decide +kernel
theorem dX5_init_128 : decode cX5_init 128 = .ok (.iinc 1 1, 3) := by decide +kernel
theorem dX5_init_131 : decode cX5_init 131 = .ok (.goto (-15), 3) := by decide +kernel
theorem dX5_init_134 : decode cX5_init 134 = .ok (.return_, 1) := by decide +kernel
theorem dX5_in_0 : decode cX5_in 0 = .ok (.iload_n 0, 1) := by decide +kernel
theorem dX5_in_1 : decode cX5_in 1 = .ok (.iload_n 1, 1) := by decide +kernel
theorem dX5_in_2 : decode cX5_in 2 = .ok (.if_icmp .lt 12, 3) := by decide +kernel
theorem dX5_in_5 : decode cX5_in 5 = .ok (.iload_n 0, 1) := by decide +kernel
theorem dX5_in_6 : decode cX5_in 6 = .ok (.iload_n 2, 1) := by decide +kernel
theorem dX5_in_7 : decode cX5_in 7 = .ok (.if_icmp .gt 7, 3) := by decide +kernel
theorem dX5_in_10 : decode cX5_in 10 = .ok (.iconst 1, 1) := by decide +kernel
theorem dX5_in_11 : decode cX5_in 11 = .ok (.goto 4, 3) := by decide +kernel
theorem dX5_in_14 : decode cX5_in 14 = .ok (.iconst 0, 1) := by decide +kernel
theorem dX5_in_15 : decode cX5_in 15 = .ok (.ireturn, 1) := by decide +kernel
set_option maxRecDepth 20000 in
theorem ggX5_isDay_X5_in : GoodIn wsX5_isDay wsX5_in := goodIn_r _ [4] (by decide +kernel) (by decide +kernel)
set_option maxRecDepth 20000 in
theorem gX5_isDay_X5_in : GoodIn wsX5_isDay (va_wsS RX5 54 yX5_in wsX5_in) := goodIn_app (goodIn_of _ (by decide +kernel)) ggX5_isDay_X5_in
theorem dX5_isDay_0 : decode cX5_isDay 0 = .ok (.iload_n 0, 1) := by decide +kernel
theorem dX5_isDay_1 : decode cX5_isDay 1 = .ok (.iconst 0, 1) := by decide +kernel
theorem dX5_isDay_2 : decode cX5_isDay 2 = .ok (.sipush 3000, 3) := by decide +kernel
theorem dX5_isDay_5 : decode cX5_isDay 5 = .ok (.invokestatic 54, 3) := by decide +kernel
theorem dX5_isDay_8 : decode cX5_isDay 8 = .ok (.ireturn, 1) := by decide +kernel
set_option maxRecDepth 20000 in
theorem ggX5_rule_X5_isDay : GoodIn wsX5_rule wsX5_isDay := goodIn_r _ [6, 7, 8, 5, 9] (by decide +kernel) (by decide +kernel)
set_option maxRecDepth 20000 in
theorem gX5_rule_X5_isDay : GoodIn wsX5_rule (va_wsS RX5 58 yX5_isDay wsX5_isDay) := goodIn_app (goodIn_of _ (by decide +kernel)) ggX5_rule_X5_isDay
set_option maxRecDepth 20000 in
theorem ggX5_rule_X5_in : GoodIn wsX5_rule wsX5_in := goodIn_r _ [9] (by decide +kernel) (by decide +kernel)
set_option maxRecDepth 20000 in
theorem gX5_rule_X5_in : GoodIn wsX5_rule (va_wsS RX5 54 yX5_in wsX5_in) := goodIn_app (goodIn_of _ (by decide +kernel)) ggX5_rule_X5_in
theorem dX5_rule_0 : decode cX5_rule 0 = .ok (.iload_n 1, 1) := by decide +kernel
theorem dX5_rule_1 : decode cX5_rule 1 = .ok (.invokestatic 58, 3) := by decide +kernel
theorem dX5_rule_4 : decode cX5_rule 4 = .ok (.ifCond .eq 23, 3) := by decide +kernel
theorem dX5_rule_7 : decode cX5_rule 7 = .ok (.iload_n 2, 1) := by decide +kernel
theorem dX5_rule_8 : decode cX5_rule 8 = .ok (.iconst 2, 1) := by decide +kernel
theorem dX5_rule_9 : decode cX5_rule 9 = .ok (.bipush 30, 2) := by decide +kernel
theorem dX5_rule_11 : decode cX5_rule 11 = .ok (.invokestatic 54, 3) := by decide +kernel
theorem dX5_rule_14 : decode cX5_rule 14 = .ok (.ifCond .eq 13, 3) := by decide +kernel
theorem dX5_rule_17 : decode cX5_rule 17 = .ok (.iload_n 3, 1) := by decide +kernel
theorem dX5_rule_18 : decode cX5_rule 18 = .ok (.iconst 0, 1) := by decide +kernel
theorem dX5_rule_19 : decode cX5_rule 19 = .ok (.bipush 50, 2) := by decide +kernel
theorem dX5_rule_21 : decode cX5_rule 21 = .ok (.invokestatic 54, 3) := by decide +kernel
theorem dX5_rule_24 : decode cX5_rule 24 = .ok (.ifCond .ne 6, 3) := by decide +kernel
theorem dX5_rule_27 : decode cX5_rule 27 = .ok (.bipush (-2), 2) := by decide +kernel
theorem dX5_rule_29 : decode cX5_rule 29 = .ok (.ireturn, 1) := by decide +kernel
theorem dX5_rule_30 : decode cX5_rule 30 = .ok (.aload_n 0, 1) := by decide +kernel
theorem dX5_rule_31 : decode cX5_rule 31 = .ok (.getfield 62, 3) := by decide +kernel
theorem dX5_rule_34 : decode cX5_rule 34 = .ok (.bipush 6, 2) := by decide +kernel
theorem dX5_rule_36 : decode cX5_rule 36 = .ok (.if_icmp .ne 6, 3) := by decide +kernel
theorem dX5_rule_39 : decode cX5_rule 39 = .ok (.bipush (-4), 2) := by decide +kernel
theorem dX5_rule_41 : decode cX5_rule 41 = .ok (.ireturn, 1) := by decide +kernel
theorem dX5_rule_42 : decode cX5_rule 42 = .ok (.aload_n 0, 1) := by decide +kernel
theorem dX5_rule_43 : decode cX5_rule 43 = .ok (.getfield 7, 3) := by decide +kernel
theorem dX5_rule_46 : decode cX5_rule 46 = .ok (.iconst 3, 1) := by decide +kernel
theorem dX5_rule_47 : decode cX5_rule 47 = .ok (.aload_n 0, 1) := by decide +kernel
theorem dX5_rule_48 : decode cX5_rule 48 = .ok (.getfield 62, 3) := by decide +kernel
theorem dX5_rule_51 : decode cX5_rule 51 = .ok (.imul, 1) := by decide +kernel
theorem dX5_rule_52 : decode cX5_rule 52 = .ok (.iload_n 1, 1) := by decide +kernel
theorem dX5_rule_53 : decode cX5_rule 53 = .ok (.iastore, 1) := by decide +kernel
theorem dX5_rule_54 : decode cX5_rule 54 = .ok (.aload_n 0, 1) := by decide +kernel
theorem dX5_rule_55 : decode cX5_rule 55 = .ok (.getfield 7, 3) := by decide +kernel
theorem dX5_rule_58 : decode cX5_rule 58 = .ok (.iconst 3, 1) := by decide +kernel
theorem dX5_rule_59 : decode cX5_rule 59 = .ok (.aload_n 0, 1) := by decide +kernel
theorem dX5_rule_60 : decode cX5_rule 60 = .ok (.getfield 62, 3) := by decide +kernel
theorem dX5_rule_63 : decode cX5_rule 63 = .ok (.imul, 1) := by decide +kernel
theorem dX5_rule_64 : decode cX5_rule 64 = .ok (.iconst 1, 1) := by decide +kernel
theorem dX5_rule_65 : decode cX5_rule 65 = .ok (.iadd, 1) := by decide +kernel
theorem dX5_rule_66 : decode cX5_rule 66 = .ok (.iload_n 2, 1) := by decide +kernel
theorem dX5_rule_67 : decode cX5_rule 67 = .ok (.iastore, 1) := by decide +kernel
theorem dX5_rule_68 : decode cX5_rule 68 = .ok (.aload_n 0, 1) := by decide +kernel
theorem dX5_rule_69 : decode cX5_rule 69 = .ok (.getfield 7, 3) := by decide +kernel
theorem dX5_rule_72 : decode cX5_rule 72 = .ok (.iconst 3, 1) := by decide +kernel
theorem dX5_rule_73 : decode cX5_rule 73 = .ok (.aload_n 0, 1) := by decide +kernel
theorem dX5_rule_74 : decode cX5_rule 74 = .ok (.getfield 62, 3) := by decide +kernel
theorem dX5_rule_77 : decode cX5_rule 77 = .ok (.imul, 1) := by decide +kernel
theorem dX5_rule_78 : decode cX5_rule 78 = .ok (.iconst 2, 1) := by decide +kernel
theorem dX5_rule_79 : decode cX5_rule 79 = .ok (.iadd, 1) := by decide +kernel
theorem dX5_rule_80 : decode cX5_rule 80 = .ok (.iload_n 3, 1) := by decide +kernel
theorem dX5_rule_81 : decode cX5_rule 81 = .ok (.iastore, 1) := by decide +kernel
theorem dX5_rule_82 : decode cX5_rule 82 = .ok (.aload_n 0, 1) := by decide +kernel
theorem dX5_rule_83 : decode cX5_rule 83 = .ok (.dup, 1) := by decide +kernel
theorem dX5_rule_84 : decode cX5_rule 84 = .ok (.getfield 62, 3) := by decide +kernel
theorem dX5_rule_87 : decode cX5_rule 87 = .ok (.iconst 1, 1) := by decide +kernel
theorem dX5_rule_88 : decode cX5_rule 88 = .ok (.iadd, 1) := by decide +kernel
theorem dX5_rule_89 : decode cX5_rule 89 = .ok (.putfield 62, 3) := by decide +kernel
theorem dX5_rule_92 : decode cX5_rule 92 = .ok (.aload_n 0, 1) := by decide +kernel
theorem dX5_rule_93 : decode cX5_rule 93 = .ok (.getfield 62, 3) := by decide +kernel
theorem dX5_rule_96 : decode cX5_rule 96 = .ok (.ireturn, 1) := by decide +kernel
theorem dX5_forceOf_0 : decode cX5_forceOf 0 = .ok (.bipush (-6), 2) := by decide +kernel
theorem dX5_forceOf_2 : decode cX5_forceOf 2 = .ok (.istore_n 3, 1) := by decide +kernel
theorem dX5_forceOf_3 : decode cX5_forceOf 3 = .ok (.iconst 0, 1) := by decide +kernel
theorem dX5_forceOf_4 : decode cX5_forceOf 4 = .ok (.istore 4, 2) := by decide +kernel
theorem dX5_forceOf_6 : decode cX5_forceOf 6 = .ok (.iload 4, 2) := by decide +kernel
theorem dX5_forceOf_8 : decode cX5_forceOf 8 = .ok (.aload_n 0, 1) := by decide +kernel
theorem dX5_forceOf_9 : decode cX5_forceOf 9 = .ok (.getfield 62, 3) := by decide +kernel
theorem dX5_forceOf_12 : decode cX5_forceOf 12 = .ok (.if_icmp .ge 53, 3) := by decide +kernel
theorem dX5_forceOf_15 : decode cX5_forceOf 15 = .ok (.aload_n 0, 1) := by decide +kernel
theorem dX5_forceOf_16 : decode cX5_forceOf 16 = .ok (.getfield 7, 3) := by decide +kernel
theorem dX5_forceOf_19 : decode cX5_forceOf 19 = .ok (.iconst 3, 1) := by decide +kernel
theorem dX5_forceOf_20 : decode cX5_forceOf 20 = .ok (.iload 4, 2) := by decide +kernel
theorem dX5_forceOf_22 : decode cX5_forceOf 22 = .ok (.imul, 1) := by decide +kernel
theorem dX5_forceOf_23 : decode cX5_forceOf 23 = .ok (.iaload, 1) := by decide +kernel
theorem dX5_forceOf_24 : decode cX5_forceOf 24 = .ok (.iload_n 1, 1) := by decide +kernel
theorem dX5_forceOf_25 : decode cX5_forceOf 25 = .ok (.if_icmp .gt 32, 3) := by decide +kernel
theorem dX5_forceOf_28 : decode cX5_forceOf 28 = .ok (.iload_n 3, 1) := by decide +kernel
theorem dX5_forceOf_29 : decode cX5_forceOf 29 = .ok (.ifCond .lt 23, 3) := by decide +kernel
theorem dX5_forceOf_32 : decode cX5_forceOf 32 = .ok (.aload_n 0, 1) := by decide +kernel
theorem dX5_forceOf_33 : decode cX5_forceOf 33 = .ok (.getfield 7, 3) := by decide +kernel
theorem dX5_forceOf_36 : decode cX5_forceOf 36 = .ok (.iconst 3, 1) := by decide +kernel
theorem dX5_forceOf_37 : decode cX5_forceOf 37 = .ok (.iload 4, 2) := by decide +kernel
theorem dX5_forceOf_39 : decode cX5_forceOf 39 = .ok (.imul, 1) := by decide +kernel
theorem dX5_forceOf_40 : decode cX5_forceOf 40 = .ok (.iaload, 1) := by decide +kernel
theorem dX5_forceOf_41 : decode cX5_forceOf 41 = .ok (.aload_n 0, 1) := by decide +kernel
theorem dX5_forceOf_42 : decode cX5_forceOf 42 = .ok (.getfield 7, 3) := by decide +kernel
theorem dX5_forceOf_45 : decode cX5_forceOf 45 = .ok (.iconst 3, 1) := by decide +kernel
theorem dX5_forceOf_46 : decode cX5_forceOf 46 = .ok (.iload_n 3, 1) := by decide +kernel
theorem dX5_forceOf_47 : decode cX5_forceOf 47 = .ok (.imul, 1) := by decide +kernel
theorem dX5_forceOf_48 : decode cX5_forceOf 48 = .ok (.iaload, 1) := by decide +kernel
theorem dX5_forceOf_49 : decode cX5_forceOf 49 = .ok (.if_icmp .lt 8, 3) := by decide +kernel
theorem dX5_forceOf_52 : decode cX5_forceOf 52 = .ok (.iload 4, 2) := by decide +kernel
theorem dX5_forceOf_54 : decode cX5_forceOf 54 = .ok (.goto 4, 3) := by decide +kernel
theorem dX5_forceOf_57 : decode cX5_forceOf 57 = .ok (.iload_n 3, 1) := by decide +kernel
theorem dX5_forceOf_58 : decode cX5_forceOf 58 = .ok (.istore_n 3, 1) := by decide +kernel
theorem dX5_forceOf_59 : decode cX5_forceOf 59 = .ok (.iinc 4 1, 3) := by decide +kernel
theorem dX5_forceOf_62 : decode cX5_forceOf 62 = .ok (.goto (-56), 3) := by decide +kernel
theorem dX5_forceOf_65 : decode cX5_forceOf 65 = .ok (.iload_n 3, 1) := by decide +kernel
theorem dX5_forceOf_66 : decode cX5_forceOf 66 = .ok (.ifCond .ge 17, 3) := by decide +kernel
theorem dX5_forceOf_69 : decode cX5_forceOf 69 = .ok (.iload_n 2, 1) := by decide +kernel
theorem dX5_forceOf_70 : decode cX5_forceOf 70 = .ok (.ifCond .ne 8, 3) := by decide +kernel
theorem dX5_forceOf_73 : decode cX5_forceOf 73 = .ok (.bipush 12, 2) := by decide +kernel
theorem dX5_forceOf_75 : decode cX5_forceOf 75 = .ok (.goto 20, 3) := by decide +kernel
theorem dX5_forceOf_78 : decode cX5_forceOf 78 = .ok (.bipush 10, 2) := by decide +kernel
theorem dX5_forceOf_80 : decode cX5_forceOf 80 = .ok (.goto 15, 3) := by decide +kernel
theorem dX5_forceOf_83 : decode cX5_forceOf 83 = .ok (.aload_n 0, 1) := by decide +kernel
theorem dX5_forceOf_84 : decode cX5_forceOf 84 = .ok (.getfield 7, 3) := by decide +kernel
theorem dX5_forceOf_87 : decode cX5_forceOf 87 = .ok (.iconst 3, 1) := by decide +kernel
theorem dX5_forceOf_88 : decode cX5_forceOf 88 = .ok (.iload_n 3, 1) := by decide +kernel
theorem dX5_forceOf_89 : decode cX5_forceOf 89 = .ok (.imul, 1) := by decide +kernel
theorem dX5_forceOf_90 : decode cX5_forceOf 90 = .ok (.iconst 1, 1) := by decide +kernel
theorem dX5_forceOf_91 : decode cX5_forceOf 91 = .ok (.iadd, 1) := by decide +kernel
theorem dX5_forceOf_92 : decode cX5_forceOf 92 = .ok (.iload_n 2, 1) := by decide +kernel
theorem dX5_forceOf_93 : decode cX5_forceOf 93 = .ok (.iadd, 1) := by decide +kernel
theorem dX5_forceOf_94 : decode cX5_forceOf 94 = .ok (.iaload, 1) := by decide +kernel
theorem dX5_forceOf_95 : decode cX5_forceOf 95 = .ok (.ireturn, 1) := by decide +kernel
set_option maxRecDepth 20000 in
theorem ggX5_force_X5_isDay : GoodIn wsX5_force wsX5_isDay := goodIn_r _ [4, 5, 6, 3, 7] (by decide +kernel) (by decide +kernel)
set_option maxRecDepth 20000 in
theorem gX5_force_X5_isDay : GoodIn wsX5_force (va_wsS RX5 58 yX5_isDay wsX5_isDay) := goodIn_app (goodIn_of _ (by decide +kernel)) ggX5_force_X5_isDay
set_option maxRecDepth 20000 in
theorem ggX5_force_X5_in : GoodIn wsX5_force wsX5_in := goodIn_r _ [7] (by decide +kernel) (by decide +kernel)
set_option maxRecDepth 20000 in
theorem gX5_force_X5_in : GoodIn wsX5_force (va_wsS RX5 54 yX5_in wsX5_in) := goodIn_app (goodIn_of _ (by decide +kernel)) ggX5_force_X5_in
set_option maxRecDepth 20000 in
theorem ggX5_force_X5_forceOf : GoodIn wsX5_force wsX5_forceOf := goodIn_r _ [11, 12, 13, 14, 15, 16, 17, 18, 19, 20, 21, 22, 23, 24, 25, 26, 27, 28, 29, 30, 31, 32, 33, 34, 35, 36, 37] (by decide +kernel) (by decide +kernel)
set_option maxRecDepth 20000 in
theorem gX5_force_X5_forceOf : GoodIn wsX5_force (wsV RX5 65 RX5 yX5_forceOf wsX5_forceOf) := goodIn_app (goodIn_of _ (by decide +kernel)) ggX5_force_X5_forceOf
theorem dX5_force_0 : decode cX5_force 0 = .ok (.iload_n 1, 1) := by decide +kernel
theorem dX5_force_1 : decode cX5_force 1 = .ok (.invokestatic 58, 3) := by decide +kernel
theorem dX5_force_4 : decode cX5_force 4 = .ok (.ifCond .eq 21, 3) := by decide +kernel
theorem dX5_force_7 : decode cX5_force 7 = .ok (.iload_n 2, 1) := by decide +kernel
theorem dX5_force_8 : decode cX5_force 8 = .ok (.iconst 0, 1) := by decide +kernel
theorem dX5_force_9 : decode cX5_force 9 = .ok (.iconst 1, 1) := by decide +kernel
theorem dX5_force_10 : decode cX5_force 10 = .ok (.invokestatic 54, 3) := by decide +kernel
theorem dX5_force_13 : decode cX5_force 13 = .ok (.ifCond .eq 12, 3) := by decide +kernel
theorem dX5_force_16 : decode cX5_force 16 = .ok (.aload_n 0, 1) := by decide +kernel
theorem dX5_force_17 : decode cX5_force 17 = .ok (.iload_n 1, 1) := by decide +kernel
theorem dX5_force_18 : decode cX5_force 18 = .ok (.iload_n 2, 1) := by decide +kernel
theorem dX5_force_19 : decode cX5_force 19 = .ok (.invokevirtual 65, 3) := by decide +kernel
theorem dX5_force_22 : decode cX5_force 22 = .ok (.goto 5, 3) := by decide +kernel
theorem dX5_force_25 : decode cX5_force 25 = .ok (.bipush (-2), 2) := by decide +kernel
theorem dX5_force_27 : decode cX5_force 27 = .ok (.ireturn, 1) := by decide +kernel
set_option maxRecDepth 20000 in
theorem ggX5_thing_X5_in : GoodIn wsX5_thing wsX5_in := goodIn_r _ [7] (by decide +kernel) (by decide +kernel)
set_option maxRecDepth 20000 in
theorem gX5_thing_X5_in : GoodIn wsX5_thing (va_wsS RX5 54 yX5_in wsX5_in) := goodIn_app (goodIn_of _ (by decide +kernel)) ggX5_thing_X5_in
theorem dX5_thing_0 : decode cX5_thing 0 = .ok (.iload_n 1, 1) := by decide +kernel
theorem dX5_thing_1 : decode cX5_thing 1 = .ok (.iconst 0, 1) := by decide +kernel
theorem dX5_thing_2 : decode cX5_thing 2 = .ok (.iconst 2, 1) := by decide +kernel
theorem dX5_thing_3 : decode cX5_thing 3 = .ok (.invokestatic 54, 3) := by decide +kernel
theorem dX5_thing_6 : decode cX5_thing 6 = .ok (.ifCond .eq 36, 3) := by decide +kernel
theorem dX5_thing_9 : decode cX5_thing 9 = .ok (.iload_n 2, 1) := by decide +kernel
theorem dX5_thing_10 : decode cX5_thing 10 = .ok (.bipush 100, 2) := by decide +kernel
theorem dX5_thing_12 : decode cX5_thing 12 = .ok (.ldc 69, 2) := by decide +kernel
theorem dX5_thing_14 : decode cX5_thing 14 = .ok (.invokestatic 54, 3) := by decide +kernel
theorem dX5_thing_17 : decode cX5_thing 17 = .ok (.ifCond .eq 25, 3) := by decide +kernel
theorem dX5_thing_20 : decode cX5_thing 20 = .ok (.iload_n 3, 1) := by decide +kernel
theorem dX5_thing_21 : decode cX5_thing 21 = .ok (.iconst 1, 1) := by decide +kernel
theorem dX5_thing_22 : decode cX5_thing 22 = .ok (.sipush 9000, 3) := by decide +kernel
theorem dX5_thing_25 : decode cX5_thing 25 = .ok (.invokestatic 54, 3) := by decide +kernel
theorem dX5_thing_28 : decode cX5_thing 28 = .ok (.ifCond .eq 14, 3) := by decide +kernel
theorem dX5_thing_31 : decode cX5_thing 31 = .ok (.iload 4, 2) := by decide +kernel
theorem dX5_thing_33 : decode cX5_thing 33 = .ok (.iconst 0, 1) := by decide +kernel
theorem dX5_thing_34 : decode cX5_thing 34 = .ok (.bipush 50, 2) := by decide +kernel
theorem dX5_thing_36 : decode cX5_thing 36 = .ok (.invokestatic 54, 3) := by decide +kernel
theorem dX5_thing_39 : decode cX5_thing 39 = .ok (.ifCond .ne 6, 3) := by decide +kernel
theorem dX5_thing_42 : decode cX5_thing 42 = .ok (.bipush (-2), 2) := by decide +kernel
theorem dX5_thing_44 : decode cX5_thing 44 = .ok (.ireturn, 1) := by decide +kernel
theorem dX5_thing_45 : decode cX5_thing 45 = .ok (.aload_n 0, 1) := by decide +kernel
theorem dX5_thing_46 : decode cX5_thing 46 = .ok (.getfield 70, 3) := by decide +kernel
theorem dX5_thing_49 : decode cX5_thing 49 = .ok (.bipush 20, 2) := by decide +kernel
theorem dX5_thing_51 : decode cX5_thing 51 = .ok (.if_icmp .ne 6, 3) := by decide +kernel
theorem dX5_thing_54 : decode cX5_thing 54 = .ok (.bipush (-4), 2) := by decide +kernel
theorem dX5_thing_56 : decode cX5_thing 56 = .ok (.ireturn, 1) := by decide +kernel
theorem dX5_thing_57 : decode cX5_thing 57 = .ok (.aload_n 0, 1) := by decide +kernel
theorem dX5_thing_58 : decode cX5_thing 58 = .ok (.getfield 13, 3) := by decide +kernel
theorem dX5_thing_61 : decode cX5_thing 61 = .ok (.iconst 4, 1) := by decide +kernel
theorem dX5_thing_62 : decode cX5_thing 62 = .ok (.aload_n 0, 1) := by decide +kernel
theorem dX5_thing_63 : decode cX5_thing 63 = .ok (.getfield 70, 3) := by decide +kernel
theorem dX5_thing_66 : decode cX5_thing 66 = .ok (.imul, 1) := by decide +kernel
theorem dX5_thing_67 : decode cX5_thing 67 = .ok (.iload_n 1, 1) := by decide +kernel
theorem dX5_thing_68 : decode cX5_thing 68 = .ok (.iastore, 1) := by decide +kernel
theorem dX5_thing_69 : decode cX5_thing 69 = .ok (.aload_n 0, 1) := by decide +kernel
theorem dX5_thing_70 : decode cX5_thing 70 = .ok (.getfield 13, 3) := by decide +kernel
theorem dX5_thing_73 : decode cX5_thing 73 = .ok (.iconst 4, 1) := by decide +kernel
theorem dX5_thing_74 : decode cX5_thing 74 = .ok (.aload_n 0, 1) := by decide +kernel
theorem dX5_thing_75 : decode cX5_thing 75 = .ok (.getfield 70, 3) := by decide +kernel
theorem dX5_thing_78 : decode cX5_thing 78 = .ok (.imul, 1) := by decide +kernel
theorem dX5_thing_79 : decode cX5_thing 79 = .ok (.iconst 1, 1) := by decide +kernel
theorem dX5_thing_80 : decode cX5_thing 80 = .ok (.iadd, 1) := by decide +kernel
theorem dX5_thing_81 : decode cX5_thing 81 = .ok (.iload_n 2, 1) := by decide +kernel
theorem dX5_thing_82 : decode cX5_thing 82 = .ok (.iastore, 1) := by decide +kernel
theorem dX5_thing_83 : decode cX5_thing 83 = .ok (.aload_n 0, 1) := by decide +kernel
theorem dX5_thing_84 : decode cX5_thing 84 = .ok (.getfield 13, 3) := by decide +kernel
theorem dX5_thing_87 : decode cX5_thing 87 = .ok (.iconst 4, 1) := by decide +kernel
theorem dX5_thing_88 : decode cX5_thing 88 = .ok (.aload_n 0, 1) := by decide +kernel
theorem dX5_thing_89 : decode cX5_thing 89 = .ok (.getfield 70, 3) := by decide +kernel
theorem dX5_thing_92 : decode cX5_thing 92 = .ok (.imul, 1) := by decide +kernel
theorem dX5_thing_93 : decode cX5_thing 93 = .ok (.iconst 2, 1) := by decide +kernel
theorem dX5_thing_94 : decode cX5_thing 94 = .ok (.iadd, 1) := by decide +kernel
theorem dX5_thing_95 : decode cX5_thing 95 = .ok (.iload_n 3, 1) := by decide +kernel
theorem dX5_thing_96 : decode cX5_thing 96 = .ok (.iastore, 1) := by decide +kernel
theorem dX5_thing_97 : decode cX5_thing 97 = .ok (.aload_n 0, 1) := by decide +kernel
theorem dX5_thing_98 : decode cX5_thing 98 = .ok (.getfield 13, 3) := by decide +kernel
theorem dX5_thing_101 : decode cX5_thing 101 = .ok (.iconst 4, 1) := by decide +kernel
theorem dX5_thing_102 : decode cX5_thing 102 = .ok (.aload_n 0, 1) := by decide +kernel
theorem dX5_thing_103 : decode cX5_thing 103 = .ok (.getfield 70, 3) := by decide +kernel
theorem dX5_thing_106 : decode cX5_thing 106 = .ok (.imul, 1) := by decide +kernel
theorem dX5_thing_107 : decode cX5_thing 107 = .ok (.iconst 3, 1) := by decide +kernel
theorem dX5_thing_108 : decode cX5_thing 108 = .ok (.iadd, 1) := by decide +kernel
theorem dX5_thing_109 : decode cX5_thing 109 = .ok (.iload 4, 2) := by decide +kernel
theorem dX5_thing_111 : decode cX5_thing 111 = .ok (.iastore, 1) := by decide +kernel
theorem dX5_thing_112 : decode cX5_thing 112 = .ok (.aload_n 0, 1) := by decide +kernel
theorem dX5_thing_113 : decode cX5_thing 113 = .ok (.dup, 1) := by decide +kernel
theorem dX5_thing_114 : decode cX5_thing 114 = .ok (.getfield 70, 3) := by decide +kernel
theorem dX5_thing_117 : decode cX5_thing 117 = .ok (.iconst 1, 1) := by decide +kernel
theorem dX5_thing_118 : decode cX5_thing 118 = .ok (.iadd, 1) := by decide +kernel
theorem dX5_thing_119 : decode cX5_thing 119 = .ok (.putfield 70, 3) := by decide +kernel
theorem dX5_thing_122 : decode cX5_thing 122 = .ok (.aload_n 0, 1) := by decide +kernel
theorem dX5_thing_123 : decode cX5_thing 123 = .ok (.getfield 70, 3) := by decide +kernel
theorem dX5_thing_126 : decode cX5_thing 126 = .ok (.iconst 1, 1) := by decide +kernel
theorem dX5_thing_127 : decode cX5_thing 127 = .ok (.isub, 1) := by decide +kernel
theorem dX5_thing_128 : decode cX5_thing 128 = .ok (.ireturn, 1) := by decide +kernel
set_option maxRecDepth 20000 in
theorem ggX5_isThing_X5_in : GoodIn wsX5_isThing wsX5_in := goodIn_r _ [5] (by decide +kernel) (by decide +kernel)
set_option maxRecDepth 20000 in
theorem gX5_isThing_X5_in : GoodIn wsX5_isThing (va_wsS RX5 54 yX5_in wsX5_in) := goodIn_app (goodIn_of _ (by decide +kernel)) ggX5_isThing_X5_in
theorem dX5_isThing_0 : decode cX5_isThing 0 = .ok (.iload_n 1, 1) := by decide +kernel
theorem dX5_isThing_1 : decode cX5_isThing 1 = .ok (.iconst 0, 1) := by decide +kernel
theorem dX5_isThing_2 : decode cX5_isThing 2 = .ok (.aload_n 0, 1) := by decide +kernel
theorem dX5_isThing_3 : decode cX5_isThing 3 = .ok (.getfield 70, 3) := by decide +kernel
theorem dX5_isThing_6 : decode cX5_isThing 6 = .ok (.iconst 1, 1) := by decide +kernel
theorem dX5_isThing_7 : decode cX5_isThing 7 = .ok (.isub, 1) := by decide +kernel
theorem dX5_isThing_8 : decode cX5_isThing 8 = .ok (.invokestatic 54, 3) := by decide +kernel
theorem dX5_isThing_11 : decode cX5_isThing 11 = .ok (.ireturn, 1) := by decide +kernel
theorem dX5_sizeOn_0 : decode cX5_sizeOn 0 = .ok (.aload_n 0, 1) := by decide +kernel
theorem dX5_sizeOn_1 : decode cX5_sizeOn 1 = .ok (.getfield 13, 3) := by decide +kernel
theorem dX5_sizeOn_4 : decode cX5_sizeOn 4 = .ok (.iconst 4, 1) := by decide +kernel
theorem dX5_sizeOn_5 : decode cX5_sizeOn 5 = .ok (.iload_n 1, 1) := by decide +kernel
theorem dX5_sizeOn_6 : decode cX5_sizeOn 6 = .ok (.imul, 1) := by decide +kernel
theorem dX5_sizeOn_7 : decode cX5_sizeOn 7 = .ok (.iconst 2, 1) := by decide +kernel
theorem dX5_sizeOn_8 : decode cX5_sizeOn 8 = .ok (.iadd, 1) := by decide +kernel
theorem dX5_sizeOn_9 : decode cX5_sizeOn 9 = .ok (.iaload, 1) := by decide +kernel
theorem dX5_sizeOn_10 : decode cX5_sizeOn 10 = .ok (.istore_n 3, 1) := by decide +kernel
theorem dX5_sizeOn_11 : decode cX5_sizeOn 11 = .ok (.iconst 0, 1) := by decide +kernel
theorem dX5_sizeOn_12 : decode cX5_sizeOn 12 = .ok (.istore 4, 2) := by decide +kernel
theorem dX5_sizeOn_14 : decode cX5_sizeOn 14 = .ok (.iconst 0, 1) := by decide +kernel
theorem dX5_sizeOn_15 : decode cX5_sizeOn 15 = .ok (.istore 5, 2) := by decide +kernel
theorem dX5_sizeOn_17 : decode cX5_sizeOn 17 = .ok (.iload 5, 2) := by decide +kernel
theorem dX5_sizeOn_19 : decode cX5_sizeOn 19 = .ok (.aload_n 0, 1) := by decide +kernel
theorem dX5_sizeOn_20 : decode cX5_sizeOn 20 = .ok (.getfield 73, 3) := by decide +kernel
theorem dX5_sizeOn_23 : decode cX5_sizeOn 23 = .ok (.if_icmp .ge 62, 3) := by decide +kernel
theorem dX5_sizeOn_26 : decode cX5_sizeOn 26 = .ok (.aload_n 0, 1) := by decide +kernel
theorem dX5_sizeOn_27 : decode cX5_sizeOn 27 = .ok (.getfield 16, 3) := by decide +kernel
theorem dX5_sizeOn_30 : decode cX5_sizeOn 30 = .ok (.iconst 3, 1) := by decide +kernel
theorem dX5_sizeOn_31 : decode cX5_sizeOn 31 = .ok (.iload 5, 2) := by decide +kernel
theorem dX5_sizeOn_33 : decode cX5_sizeOn 33 = .ok (.imul, 1) := by decide +kernel
theorem dX5_sizeOn_34 : decode cX5_sizeOn 34 = .ok (.iaload, 1) := by decide +kernel
theorem dX5_sizeOn_35 : decode cX5_sizeOn 35 = .ok (.iload_n 1, 1) := by decide +kernel
theorem dX5_sizeOn_36 : decode cX5_sizeOn 36 = .ok (.if_icmp .ne 43, 3) := by decide +kernel
theorem dX5_sizeOn_39 : decode cX5_sizeOn 39 = .ok (.aload_n 0, 1) := by decide +kernel
theorem dX5_sizeOn_40 : decode cX5_sizeOn 40 = .ok (.getfield 16, 3) := by decide +kernel
theorem dX5_sizeOn_43 : decode cX5_sizeOn 43 = .ok (.iconst 3, 1) := by decide +kernel
theorem dX5_sizeOn_44 : decode cX5_sizeOn 44 = .ok (.iload 5, 2) := by decide +kernel
theorem dX5_sizeOn_46 : decode cX5_sizeOn 46 = .ok (.imul, 1) := by decide +kernel
theorem dX5_sizeOn_47 : decode cX5_sizeOn 47 = .ok (.iconst 1, 1) := by decide +kernel
theorem dX5_sizeOn_48 : decode cX5_sizeOn 48 = .ok (.iadd, 1) := by decide +kernel
theorem dX5_sizeOn_49 : decode cX5_sizeOn 49 = .ok (.iaload, 1) := by decide +kernel
theorem dX5_sizeOn_50 : decode cX5_sizeOn 50 = .ok (.iload_n 2, 1) := by decide +kernel
theorem dX5_sizeOn_51 : decode cX5_sizeOn 51 = .ok (.if_icmp .gt 28, 3) := by decide +kernel
theorem dX5_sizeOn_54 : decode cX5_sizeOn 54 = .ok (.aload_n 0, 1) := by decide +kernel
theorem dX5_sizeOn_55 : decode cX5_sizeOn 55 = .ok (.getfield 16, 3) := by decide +kernel
theorem dX5_sizeOn_58 : decode cX5_sizeOn 58 = .ok (.iconst 3, 1) := by decide +kernel
theorem dX5_sizeOn_59 : decode cX5_sizeOn 59 = .ok (.iload 5, 2) := by decide +kernel
theorem dX5_sizeOn_61 : decode cX5_sizeOn 61 = .ok (.imul, 1) := by decide +kernel
theorem dX5_sizeOn_62 : decode cX5_sizeOn 62 = .ok (.iconst 1, 1) := by decide +kernel
theorem dX5_sizeOn_63 : decode cX5_sizeOn 63 = .ok (.iadd, 1) := by decide +kernel
theorem dX5_sizeOn_64 : decode cX5_sizeOn 64 = .ok (.iaload, 1) := by decide +kernel
theorem dX5_sizeOn_65 : decode cX5_sizeOn 65 = .ok (.istore 4, 2) := by decide +kernel
theorem dX5_sizeOn_67 : decode cX5_sizeOn 67 = .ok (.aload_n 0, 1) := by decide +kernel
theorem dX5_sizeOn_68 : decode cX5_sizeOn 68 = .ok (.getfield 16, 3) := by decide +kernel
theorem dX5_sizeOn_71 : decode cX5_sizeOn 71 = .ok (.iconst 3, 1) := by decide +kernel
theorem dX5_sizeOn_72 : decode cX5_sizeOn 72 = .ok (.iload 5, 2) := by decide +kernel
theorem dX5_sizeOn_74 : decode cX5_sizeOn 74 = .ok (.imul, 1) := by decide +kernel
theorem dX5_sizeOn_75 : decode cX5_sizeOn 75 = .ok (.iconst 2, 1) := by decide +kernel
theorem dX5_sizeOn_76 : decode cX5_sizeOn 76 = .ok (.iadd, 1) := by decide +kernel
theorem dX5_sizeOn_77 : decode cX5_sizeOn 77 = .ok (.iaload, 1) := by decide +kernel
theorem dX5_sizeOn_78 : decode cX5_sizeOn 78 = .ok (.istore_n 3, 1) := by decide +kernel
theorem dX5_sizeOn_79 : decode cX5_sizeOn 79 = .ok (.iinc 5 1, 3) := by decide +kernel
theorem dX5_sizeOn_82 : decode cX5_sizeOn 82 = .ok (.goto (-65), 3) := by decide +kernel
theorem dX5_sizeOn_85 : decode cX5_sizeOn 85 = .ok (.aload_n 0, 1) := by decide +kernel
theorem dX5_sizeOn_86 : decode cX5_sizeOn 86 = .ok (.getfield 13, 3) := by decide +kernel
theorem dX5_sizeOn_89 : decode cX5_sizeOn 89 = .ok (.iconst 4, 1) := by decide +kernel
theorem dX5_sizeOn_90 : decode cX5_sizeOn 90 = .ok (.iload_n 1, 1) := by decide +kernel
theorem dX5_sizeOn_91 : decode cX5_sizeOn 91 = .ok (.imul, 1) := by decide +kernel
theorem dX5_sizeOn_92 : decode cX5_sizeOn 92 = .ok (.iaload, 1) := by decide +kernel
theorem dX5_sizeOn_93 : decode cX5_sizeOn 93 = .ok (.iconst 1, 1) := by decide +kernel
theorem dX5_sizeOn_94 : decode cX5_sizeOn 94 = .ok (.if_icmp .ne 26, 3) := by decide +kernel
theorem dX5_sizeOn_97 : decode cX5_sizeOn 97 = .ok (.iload_n 3, 1) := by decide +kernel
theorem dX5_sizeOn_98 : decode cX5_sizeOn 98 = .ok (.aload_n 0, 1) := by decide +kernel
theorem dX5_sizeOn_99 : decode cX5_sizeOn 99 = .ok (.getfield 13, 3) := by decide +kernel
theorem dX5_sizeOn_102 : decode cX5_sizeOn 102 = .ok (.iconst 4, 1) := by decide +kernel
theorem dX5_sizeOn_103 : decode cX5_sizeOn 103 = .ok (.iload_n 1, 1) := by decide +kernel
theorem dX5_sizeOn_104 : decode cX5_sizeOn 104 = .ok (.imul, 1) := by decide +kernel
theorem dX5_sizeOn_105 : decode cX5_sizeOn 105 = .ok (.iconst 3, 1) := by decide +kernel
theorem dX5_sizeOn_106 : decode cX5_sizeOn 106 = .ok (.iadd, 1) := by decide +kernel
theorem dX5_sizeOn_107 : decode cX5_sizeOn 107 = .ok (.iaload, 1) := by decide +kernel
theorem dX5_sizeOn_108 : decode cX5_sizeOn 108 = .ok (.iload_n 2, 1) := by decide +kernel
theorem dX5_sizeOn_109 : decode cX5_sizeOn 109 = .ok (.iload 4, 2) := by decide +kernel
theorem dX5_sizeOn_111 : decode cX5_sizeOn 111 = .ok (.isub, 1) := by decide +kernel
theorem dX5_sizeOn_112 : decode cX5_sizeOn 112 = .ok (.bipush 7, 2) := by decide +kernel
theorem dX5_sizeOn_114 : decode cX5_sizeOn 114 = .ok (.idiv, 1) := by decide +kernel
theorem dX5_sizeOn_115 : decode cX5_sizeOn 115 = .ok (.imul, 1) := by decide +kernel
theorem dX5_sizeOn_116 : decode cX5_sizeOn 116 = .ok (.iadd, 1) := by decide +kernel
theorem dX5_sizeOn_117 : decode cX5_sizeOn 117 = .ok (.goto 4, 3) := by decide +kernel
theorem dX5_sizeOn_120 : decode cX5_sizeOn 120 = .ok (.iload_n 3, 1) := by decide +kernel
theorem dX5_sizeOn_121 : decode cX5_sizeOn 121 = .ok (.ireturn, 1) := by decide +kernel
set_option maxRecDepth 20000 in
theorem ggX5_clip_X5_isThing : GoodIn wsX5_clip wsX5_isThing := goodIn_r _ [8, 9, 10, 11, 7, 12, 20, 21, 22, 23, 24, 25, 26, 27, 28, 29, 30, 31, 32, 33, 34, 35, 36, 37, 38, 39, 40, 41, 42, 43] (by decide +kernel) (by decide +kernel)
set_option maxRecDepth 20000 in
theorem gX5_clip_X5_isThing : GoodIn wsX5_clip (wsV RX5 76 RX5 yX5_isThing wsX5_isThing) := goodIn_app (goodIn_of _ (by decide +kernel)) ggX5_clip_X5_isThing
set_option maxRecDepth 20000 in
theorem ggX5_clip_X5_isDay : GoodIn wsX5_clip wsX5_isDay := goodIn_r _ [15, 10, 11, 7, 12] (by decide +kernel) (by decide +kernel)
set_option maxRecDepth 20000 in
theorem gX5_clip_X5_isDay : GoodIn wsX5_clip (va_wsS RX5 58 yX5_isDay wsX5_isDay) := goodIn_app (goodIn_of _ (by decide +kernel)) ggX5_clip_X5_isDay
set_option maxRecDepth 20000 in
theorem ggX5_clip_X5_in : GoodIn wsX5_clip wsX5_in := goodIn_r _ [12] (by decide +kernel) (by decide +kernel)
set_option maxRecDepth 20000 in
theorem gX5_clip_X5_in : GoodIn wsX5_clip (va_wsS RX5 54 yX5_in wsX5_in) := goodIn_app (goodIn_of _ (by decide +kernel)) ggX5_clip_X5_in
set_option maxRecDepth 20000 in
theorem ggX5_clip_X5_sizeOn : GoodIn wsX5_clip wsX5_sizeOn := goodIn_r _ [19, 1, 2, 3, 20, 21, 22, 23, 24, 25, 26, 27, 28, 29, 30, 31, 32, 33, 34, 35, 36, 37, 38, 39, 40, 41, 42, 43] (by decide +kernel) (by decide +kernel)
set_option maxRecDepth 20000 in
theorem gX5_clip_X5_sizeOn : GoodIn wsX5_clip (wsV RX5 79 RX5 yX5_sizeOn wsX5_sizeOn) := goodIn_app (goodIn_of _ (by decide +kernel)) ggX5_clip_X5_sizeOn
theorem dX5_clip_0 : decode cX5_clip 0 = .ok (.aload_n 0, 1) := by decide +kernel
theorem dX5_clip_1 : decode cX5_clip 1 = .ok (.iload_n 1, 1) := by decide +kernel
theorem dX5_clip_2 : decode cX5_clip 2 = .ok (.invokevirtual 76, 3) := by decide +kernel
theorem dX5_clip_5 : decode cX5_clip 5 = .ok (.ifCond .ne 5, 3) := by decide +kernel
theorem dX5_clip_8 : decode cX5_clip 8 = .ok (.iconst (-1), 1) := by decide +kernel
theorem dX5_clip_9 : decode cX5_clip 9 = .ok (.ireturn, 1) := by decide +kernel
theorem dX5_clip_10 : decode cX5_clip 10 = .ok (.iload_n 2, 1) := by decide +kernel
theorem dX5_clip_11 : decode cX5_clip 11 = .ok (.invokestatic 58, 3) := by decide +kernel
theorem dX5_clip_14 : decode cX5_clip 14 = .ok (.ifCond .eq 14, 3) := by decide +kernel
theorem dX5_clip_17 : decode cX5_clip 17 = .ok (.iload_n 3, 1) := by decide +kernel
theorem dX5_clip_18 : decode cX5_clip 18 = .ok (.iconst 1, 1) := by decide +kernel
theorem dX5_clip_19 : decode cX5_clip 19 = .ok (.sipush 9000, 3) := by decide +kernel
theorem dX5_clip_22 : decode cX5_clip 22 = .ok (.invokestatic 54, 3) := by decide +kernel
theorem dX5_clip_25 : decode cX5_clip 25 = .ok (.ifCond .ne 6, 3) := by decide +kernel
theorem dX5_clip_28 : decode cX5_clip 28 = .ok (.bipush (-2), 2) := by decide +kernel
theorem dX5_clip_30 : decode cX5_clip 30 = .ok (.ireturn, 1) := by decide +kernel
theorem dX5_clip_31 : decode cX5_clip 31 = .ok (.aload_n 0, 1) := by decide +kernel
theorem dX5_clip_32 : decode cX5_clip 32 = .ok (.getfield 13, 3) := by decide +kernel
theorem dX5_clip_35 : decode cX5_clip 35 = .ok (.iconst 4, 1) := by decide +kernel
theorem dX5_clip_36 : decode cX5_clip 36 = .ok (.iload_n 1, 1) := by decide +kernel
theorem dX5_clip_37 : decode cX5_clip 37 = .ok (.imul, 1) := by decide +kernel
theorem dX5_clip_38 : decode cX5_clip 38 = .ok (.iaload, 1) := by decide +kernel
theorem dX5_clip_39 : decode cX5_clip 39 = .ok (.iconst 1, 1) := by decide +kernel
theorem dX5_clip_40 : decode cX5_clip 40 = .ok (.if_icmp .eq 6, 3) := by decide +kernel
theorem dX5_clip_43 : decode cX5_clip 43 = .ok (.bipush (-3), 2) := by decide +kernel
theorem dX5_clip_45 : decode cX5_clip 45 = .ok (.ireturn, 1) := by decide +kernel
theorem dX5_clip_46 : decode cX5_clip 46 = .ok (.aload_n 0, 1) := by decide +kernel
theorem dX5_clip_47 : decode cX5_clip 47 = .ok (.getfield 73, 3) := by decide +kernel
theorem dX5_clip_50 : decode cX5_clip 50 = .ok (.bipush 60, 2) := by decide +kernel
theorem dX5_clip_52 : decode cX5_clip 52 = .ok (.if_icmp .ne 6, 3) := by decide +kernel
theorem dX5_clip_55 : decode cX5_clip 55 = .ok (.bipush (-4), 2) := by decide +kernel
theorem dX5_clip_57 : decode cX5_clip 57 = .ok (.ireturn, 1) := by decide +kernel
theorem dX5_clip_58 : decode cX5_clip 58 = .ok (.iconst 0, 1) := by decide +kernel
theorem dX5_clip_59 : decode cX5_clip 59 = .ok (.istore 4, 2) := by decide +kernel
theorem dX5_clip_61 : decode cX5_clip 61 = .ok (.iload 4, 2) := by decide +kernel
theorem dX5_clip_63 : decode cX5_clip 63 = .ok (.aload_n 0, 1) := by decide +kernel
theorem dX5_clip_64 : decode cX5_clip 64 = .ok (.getfield 73, 3) := by decide +kernel
theorem dX5_clip_67 : decode cX5_clip 67 = .ok (.if_icmp .ge 40, 3) := by decide +kernel
theorem dX5_clip_70 : decode cX5_clip 70 = .ok (.aload_n 0, 1) := by decide +kernel
theorem dX5_clip_71 : decode cX5_clip 71 = .ok (.getfield 16, 3) := by decide +kernel
theorem dX5_clip_74 : decode cX5_clip 74 = .ok (.iconst 3, 1) := by decide +kernel
theorem dX5_clip_75 : decode cX5_clip 75 = .ok (.iload 4, 2) := by decide +kernel
theorem dX5_clip_77 : decode cX5_clip 77 = .ok (.imul, 1) := by decide +kernel
theorem dX5_clip_78 : decode cX5_clip 78 = .ok (.iaload, 1) := by decide +kernel
theorem dX5_clip_79 : decode cX5_clip 79 = .ok (.iload_n 1, 1) := by decide +kernel
theorem dX5_clip_80 : decode cX5_clip 80 = .ok (.if_icmp .ne 21, 3) := by decide +kernel
theorem dX5_clip_83 : decode cX5_clip 83 = .ok (.aload_n 0, 1) := by decide +kernel
theorem dX5_clip_84 : decode cX5_clip 84 = .ok (.getfield 16, 3) := by decide +kernel
theorem dX5_clip_87 : decode cX5_clip 87 = .ok (.iconst 3, 1) := by decide +kernel
theorem dX5_clip_88 : decode cX5_clip 88 = .ok (.iload 4, 2) := by decide +kernel
theorem dX5_clip_90 : decode cX5_clip 90 = .ok (.imul, 1) := by decide +kernel
theorem dX5_clip_91 : decode cX5_clip 91 = .ok (.iconst 1, 1) := by decide +kernel
theorem dX5_clip_92 : decode cX5_clip 92 = .ok (.iadd, 1) := by decide +kernel
theorem dX5_clip_93 : decode cX5_clip 93 = .ok (.iaload, 1) := by decide +kernel
theorem dX5_clip_94 : decode cX5_clip 94 = .ok (.iload_n 2, 1) := by decide +kernel
theorem dX5_clip_95 : decode cX5_clip 95 = .ok (.if_icmp .le 6, 3) := by decide +kernel
theorem dX5_clip_98 : decode cX5_clip 98 = .ok (.bipush (-5), 2) := by decide +kernel
theorem dX5_clip_100 : decode cX5_clip 100 = .ok (.ireturn, 1) := by decide +kernel
theorem dX5_clip_101 : decode cX5_clip 101 = .ok (.iinc 4 1, 3) := by decide +kernel
theorem dX5_clip_104 : decode cX5_clip 104 = .ok (.goto (-43), 3) := by decide +kernel
theorem dX5_clip_107 : decode cX5_clip 107 = .ok (.aload_n 0, 1) := by decide +kernel
theorem dX5_clip_108 : decode cX5_clip 108 = .ok (.iload_n 1, 1) := by decide +kernel
theorem dX5_clip_109 : decode cX5_clip 109 = .ok (.iload_n 2, 1) := by decide +kernel
theorem dX5_clip_110 : decode cX5_clip 110 = .ok (.invokevirtual 79, 3) := by decide +kernel
theorem dX5_clip_113 : decode cX5_clip 113 = .ok (.istore 4, 2) := by decide +kernel
theorem dX5_clip_115 : decode cX5_clip 115 = .ok (.aload_n 0, 1) := by decide +kernel
theorem dX5_clip_116 : decode cX5_clip 116 = .ok (.getfield 16, 3) := by decide +kernel
theorem dX5_clip_119 : decode cX5_clip 119 = .ok (.iconst 3, 1) := by decide +kernel
theorem dX5_clip_120 : decode cX5_clip 120 = .ok (.aload_n 0, 1) := by decide +kernel
theorem dX5_clip_121 : decode cX5_clip 121 = .ok (.getfield 73, 3) := by decide +kernel
theorem dX5_clip_124 : decode cX5_clip 124 = .ok (.imul, 1) := by decide +kernel
theorem dX5_clip_125 : decode cX5_clip 125 = .ok (.iload_n 1, 1) := by decide +kernel
theorem dX5_clip_126 : decode cX5_clip 126 = .ok (.iastore, 1) := by decide +kernel
theorem dX5_clip_127 : decode cX5_clip 127 = .ok (.aload_n 0, 1) := by decide +kernel
theorem dX5_clip_128 : decode cX5_clip 128 = .ok (.getfield 16, 3) := by decide +kernel
theorem dX5_clip_131 : decode cX5_clip 131 = .ok (.iconst 3, 1) := by decide +kernel
theorem dX5_clip_132 : decode cX5_clip 132 = .ok (.aload_n 0, 1) := by decide +kernel
theorem dX5_clip_133 : decode cX5_clip 133 = .ok (.getfield 73, 3) := by decide +kernel
theorem dX5_clip_136 : decode cX5_clip 136 = .ok (.imul, 1) := by decide +kernel
theorem dX5_clip_137 : decode cX5_clip 137 = .ok (.iconst 1, 1) := by decide +kernel
theorem dX5_clip_138 : decode cX5_clip 138 = .ok (.iadd, 1) := by decide +kernel
theorem dX5_clip_139 : decode cX5_clip 139 = .ok (.iload_n 2, 1) := by decide +kernel
theorem dX5_clip_140 : decode cX5_clip 140 = .ok (.iastore, 1) := by decide +kernel
theorem dX5_clip_141 : decode cX5_clip 141 = .ok (.aload_n 0, 1) := by decide +kernel
theorem dX5_clip_142 : decode cX5_clip 142 = .ok (.getfield 16, 3) := by decide +kernel
theorem dX5_clip_145 : decode cX5_clip 145 = .ok (.iconst 3, 1) := by decide +kernel
theorem dX5_clip_146 : decode cX5_clip 146 = .ok (.aload_n 0, 1) := by decide +kernel
theorem dX5_clip_147 : decode cX5_clip 147 = .ok (.getfield 73, 3) := by decide +kernel
theorem dX5_clip_150 : decode cX5_clip 150 = .ok (.imul, 1) := by decide +kernel
theorem dX5_clip_151 : decode cX5_clip 151 = .ok (.iconst 2, 1) := by decide +kernel
theorem dX5_clip_152 : decode cX5_clip 152 = .ok (.iadd, 1) := by decide +kernel
theorem dX5_clip_153 : decode cX5_clip 153 = .ok (.iload_n 3, 1) := by decide +kernel
theorem dX5_clip_154 : decode cX5_clip 154 = .ok (.iastore, 1) := by decide +kernel
theorem dX5_clip_155 : decode cX5_clip 155 = .ok (.aload_n 0, 1) := by decide +kernel
theorem dX5_clip_156 : decode cX5_clip 156 = .ok (.dup, 1) := by decide +kernel
theorem dX5_clip_157 : decode cX5_clip 157 = .ok (.getfield 73, 3) := by decide +kernel
theorem dX5_clip_160 : decode cX5_clip 160 = .ok (.iconst 1, 1) := by decide +kernel
theorem dX5_clip_161 : decode cX5_clip 161 = .ok (.iadd, 1) := by decide +kernel
theorem dX5_clip_162 : decode cX5_clip 162 = .ok (.putfield 73, 3) := by decide +kernel
theorem dX5_clip_165 : decode cX5_clip 165 = .ok (.iload 4, 2) := by decide +kernel
theorem dX5_clip_167 : decode cX5_clip 167 = .ok (.ireturn, 1) := by decide +kernel
set_option maxRecDepth 20000 in
theorem ggX5_faultOn_X5_forceOf : GoodIn wsX5_faultOn wsX5_forceOf := goodIn_r _ [6, 7, 8, 15, 16, 17, 18, 19, 20, 21, 22, 23, 24, 25, 26, 27, 28, 29, 30, 31, 32, 33, 34, 35, 36, 37, 38] (by decide +kernel) (by decide +kernel)
set_option maxRecDepth 20000 in
theorem gX5_faultOn_X5_forceOf : GoodIn wsX5_faultOn (wsV RX5 65 RX5 yX5_forceOf wsX5_forceOf) := goodIn_app (goodIn_of _ (by decide +kernel)) ggX5_faultOn_X5_forceOf
set_option maxRecDepth 20000 in
theorem ggX5_faultOn_X5_sizeOn : GoodIn wsX5_faultOn wsX5_sizeOn := goodIn_r _ [12, 1, 13, 14, 15, 16, 17, 18, 19, 20, 21, 22, 23, 24, 25, 26, 27, 28, 29, 30, 31, 32, 33, 34, 35, 36, 37, 38] (by decide +kernel) (by decide +kernel)
set_option maxRecDepth 20000 in
theorem gX5_faultOn_X5_sizeOn : GoodIn wsX5_faultOn (wsV RX5 79 RX5 yX5_sizeOn wsX5_sizeOn) := goodIn_app (goodIn_of _ (by decide +kernel)) ggX5_faultOn_X5_sizeOn
theorem dX5_faultOn_0 : decode cX5_faultOn 0 = .ok (.aload_n 0, 1) := by decide +kernel
theorem dX5_faultOn_1 : decode cX5_faultOn 1 = .ok (.getfield 13, 3) := by decide +kernel
theorem dX5_faultOn_4 : decode cX5_faultOn 4 = .ok (.iconst 4, 1) := by decide +kernel
theorem dX5_faultOn_5 : decode cX5_faultOn 5 = .ok (.iload_n 1, 1) := by decide +kernel
theorem dX5_faultOn_6 : decode cX5_faultOn 6 = .ok (.imul, 1) := by decide +kernel
theorem dX5_faultOn_7 : decode cX5_faultOn 7 = .ok (.iconst 1, 1) := by decide +kernel
theorem dX5_faultOn_8 : decode cX5_faultOn 8 = .ok (.iadd, 1) := by decide +kernel
theorem dX5_faultOn_9 : decode cX5_faultOn 9 = .ok (.iaload, 1) := by decide +kernel
theorem dX5_faultOn_10 : decode cX5_faultOn 10 = .ok (.aload_n 0, 1) := by decide +kernel
theorem dX5_faultOn_11 : decode cX5_faultOn 11 = .ok (.iload_n 2, 1) := by decide +kernel
theorem dX5_faultOn_12 : decode cX5_faultOn 12 = .ok (.iconst 0, 1) := by decide +kernel
theorem dX5_faultOn_13 : decode cX5_faultOn 13 = .ok (.invokevirtual 65, 3) := by decide +kernel
theorem dX5_faultOn_16 : decode cX5_faultOn 16 = .ok (.idiv, 1) := by decide +kernel
theorem dX5_faultOn_17 : decode cX5_faultOn 17 = .ok (.istore_n 3, 1) := by decide +kernel
theorem dX5_faultOn_18 : decode cX5_faultOn 18 = .ok (.aload_n 0, 1) := by decide +kernel
theorem dX5_faultOn_19 : decode cX5_faultOn 19 = .ok (.iload_n 1, 1) := by decide +kernel
theorem dX5_faultOn_20 : decode cX5_faultOn 20 = .ok (.iload_n 2, 1) := by decide +kernel
theorem dX5_faultOn_21 : decode cX5_faultOn 21 = .ok (.invokevirtual 79, 3) := by decide +kernel
theorem dX5_faultOn_24 : decode cX5_faultOn 24 = .ok (.iload_n 3, 1) := by decide +kernel
theorem dX5_faultOn_25 : decode cX5_faultOn 25 = .ok (.isub, 1) := by decide +kernel
theorem dX5_faultOn_26 : decode cX5_faultOn 26 = .ok (.istore 4, 2) := by decide +kernel
theorem dX5_faultOn_28 : decode cX5_faultOn 28 = .ok (.iload_n 3, 1) := by decide +kernel
theorem dX5_faultOn_29 : decode cX5_faultOn 29 = .ok (.aload_n 0, 1) := by decide +kernel
theorem dX5_faultOn_30 : decode cX5_faultOn 30 = .ok (.iload_n 2, 1) := by decide +kernel
theorem dX5_faultOn_31 : decode cX5_faultOn 31 = .ok (.iconst 1, 1) := by decide +kernel
theorem dX5_faultOn_32 : decode cX5_faultOn 32 = .ok (.invokevirtual 65, 3) := by decide +kernel
theorem dX5_faultOn_35 : decode cX5_faultOn 35 = .ok (.imul, 1) := by decide +kernel
theorem dX5_faultOn_36 : decode cX5_faultOn 36 = .ok (.bipush 100, 2) := by decide +kernel
theorem dX5_faultOn_38 : decode cX5_faultOn 38 = .ok (.idiv, 1) := by decide +kernel
theorem dX5_faultOn_39 : decode cX5_faultOn 39 = .ok (.istore 5, 2) := by decide +kernel
theorem dX5_faultOn_41 : decode cX5_faultOn 41 = .ok (.aload_n 0, 1) := by decide +kernel
theorem dX5_faultOn_42 : decode cX5_faultOn 42 = .ok (.getfield 13, 3) := by decide +kernel
theorem dX5_faultOn_45 : decode cX5_faultOn 45 = .ok (.iconst 4, 1) := by decide +kernel
theorem dX5_faultOn_46 : decode cX5_faultOn 46 = .ok (.iload_n 1, 1) := by decide +kernel
theorem dX5_faultOn_47 : decode cX5_faultOn 47 = .ok (.imul, 1) := by decide +kernel
theorem dX5_faultOn_48 : decode cX5_faultOn 48 = .ok (.iaload, 1) := by decide +kernel
theorem dX5_faultOn_49 : decode cX5_faultOn 49 = .ok (.istore 6, 2) := by decide +kernel
theorem dX5_faultOn_51 : decode cX5_faultOn 51 = .ok (.iload 6, 2) := by decide +kernel
theorem dX5_faultOn_53 : decode cX5_faultOn 53 = .ok (.iconst 2, 1) := by decide +kernel
theorem dX5_faultOn_54 : decode cX5_faultOn 54 = .ok (.if_icmp .eq 14, 3) := by decide +kernel
theorem dX5_faultOn_57 : decode cX5_faultOn 57 = .ok (.iload 4, 2) := by decide +kernel
theorem dX5_faultOn_59 : decode cX5_faultOn 59 = .ok (.iload 5, 2) := by decide +kernel
theorem dX5_faultOn_61 : decode cX5_faultOn 61 = .ok (.if_icmp .le 7, 3) := by decide +kernel
theorem dX5_faultOn_64 : decode cX5_faultOn 64 = .ok (.iconst 1, 1) := by decide +kernel
theorem dX5_faultOn_65 : decode cX5_faultOn 65 = .ok (.goto 22, 3) := by decide +kernel
theorem dX5_faultOn_68 : decode cX5_faultOn 68 = .ok (.iload 6, 2) := by decide +kernel
theorem dX5_faultOn_70 : decode cX5_faultOn 70 = .ok (.iconst 1, 1) := by decide +kernel
theorem dX5_faultOn_71 : decode cX5_faultOn 71 = .ok (.if_icmp .eq 15, 3) := by decide +kernel
theorem dX5_faultOn_74 : decode cX5_faultOn 74 = .ok (.iload 4, 2) := by decide +kernel
theorem dX5_faultOn_76 : decode cX5_faultOn 76 = .ok (.ineg, 1) := by decide +kernel
theorem dX5_faultOn_77 : decode cX5_faultOn 77 = .ok (.iload 5, 2) := by decide +kernel
theorem dX5_faultOn_79 : decode cX5_faultOn 79 = .ok (.if_icmp .le 7, 3) := by decide +kernel
theorem dX5_faultOn_82 : decode cX5_faultOn 82 = .ok (.iconst 2, 1) := by decide +kernel
theorem dX5_faultOn_83 : decode cX5_faultOn 83 = .ok (.goto 4, 3) := by decide +kernel
theorem dX5_faultOn_86 : decode cX5_faultOn 86 = .ok (.iconst 0, 1) := by decide +kernel
theorem dX5_faultOn_87 : decode cX5_faultOn 87 = .ok (.ireturn, 1) := by decide +kernel
set_option maxRecDepth 20000 in
theorem ggX5_look_X5_isThing : GoodIn wsX5_look wsX5_isThing := goodIn_r _ [6, 7, 8, 9, 5, 10, 30, 31, 32, 33, 34, 35, 36, 37, 38, 39, 40, 41, 42, 43, 44, 45, 46, 47, 48, 49, 50, 51, 52, 53] (by decide +kernel) (by decide +kernel)
set_option maxRecDepth 20000 in
theorem gX5_look_X5_isThing : GoodIn wsX5_look (wsV RX5 76 RX5 yX5_isThing wsX5_isThing) := goodIn_app (goodIn_of _ (by decide +kernel)) ggX5_look_X5_isThing
set_option maxRecDepth 20000 in
theorem ggX5_look_X5_isDay : GoodIn wsX5_look wsX5_isDay := goodIn_r _ [13, 8, 9, 5, 10] (by decide +kernel) (by decide +kernel)
set_option maxRecDepth 20000 in
theorem gX5_look_X5_isDay : GoodIn wsX5_look (va_wsS RX5 58 yX5_isDay wsX5_isDay) := goodIn_app (goodIn_of _ (by decide +kernel)) ggX5_look_X5_isDay
set_option maxRecDepth 20000 in
theorem ggX5_look_X5_in : GoodIn wsX5_look wsX5_in := goodIn_r _ [10] (by decide +kernel) (by decide +kernel)
set_option maxRecDepth 20000 in
theorem gX5_look_X5_in : GoodIn wsX5_look (va_wsS RX5 54 yX5_in wsX5_in) := goodIn_app (goodIn_of _ (by decide +kernel)) ggX5_look_X5_in
set_option maxRecDepth 20000 in
theorem ggX5_look_X5_sizeOn : GoodIn wsX5_look wsX5_sizeOn := goodIn_r _ [17, 1, 18, 19, 30, 31, 32, 33, 34, 35, 36, 37, 38, 39, 40, 41, 42, 43, 44, 45, 46, 47, 48, 49, 50, 51, 52, 53] (by decide +kernel) (by decide +kernel)
set_option maxRecDepth 20000 in
theorem gX5_look_X5_sizeOn : GoodIn wsX5_look (wsV RX5 79 RX5 yX5_sizeOn wsX5_sizeOn) := goodIn_app (goodIn_of _ (by decide +kernel)) ggX5_look_X5_sizeOn
set_option maxRecDepth 20000 in
theorem ggX5_look_X5_forceOf : GoodIn wsX5_look wsX5_forceOf := goodIn_r _ [23, 24, 25, 30, 31, 32, 33, 34, 35, 36, 37, 38, 39, 40, 41, 42, 43, 44, 45, 46, 47, 48, 49, 50, 51, 52, 53] (by decide +kernel) (by decide +kernel)
set_option maxRecDepth 20000 in
theorem gX5_look_X5_forceOf : GoodIn wsX5_look (wsV RX5 65 RX5 yX5_forceOf wsX5_forceOf) := goodIn_app (goodIn_of _ (by decide +kernel)) ggX5_look_X5_forceOf
set_option maxRecDepth 20000 in
theorem ggX5_look_X5_faultOn : GoodIn wsX5_look wsX5_faultOn := goodIn_r _ [29, 1, 20, 21, 22, 5, 23, 24, 25, 14, 15, 16, 17, 18, 19, 30, 31, 32, 33, 34, 35, 36, 37, 38, 39, 40, 41, 42, 43, 44, 45, 46, 47, 48, 49, 50, 51, 52, 53] (by decide +kernel) (by decide +kernel)
set_option maxRecDepth 20000 in
theorem gX5_look_X5_faultOn : GoodIn wsX5_look (wsV RX5 82 RX5 yX5_faultOn wsX5_faultOn) := goodIn_app (goodIn_of _ (by decide +kernel)) ggX5_look_X5_faultOn
theorem dX5_look_0 : decode cX5_look 0 = .ok (.aload_n 0, 1) := by decide +kernel
theorem dX5_look_1 : decode cX5_look 1 = .ok (.iload_n 1, 1) := by decide +kernel
theorem dX5_look_2 : decode cX5_look 2 = .ok (.invokevirtual 76, 3) := by decide +kernel
theorem dX5_look_5 : decode cX5_look 5 = .ok (.ifCond .ne 5, 3) := by decide +kernel
theorem dX5_look_8 : decode cX5_look 8 = .ok (.iconst (-1), 1) := by decide +kernel
theorem dX5_look_9 : decode cX5_look 9 = .ok (.ireturn, 1) := by decide +kernel
theorem dX5_look_10 : decode cX5_look 10 = .ok (.iload_n 2, 1) := by decide +kernel
theorem dX5_look_11 : decode cX5_look 11 = .ok (.invokestatic 58, 3) := by decide +kernel
theorem dX5_look_14 : decode cX5_look 14 = .ok (.ifCond .eq 12, 3) := by decide +kernel
theorem dX5_look_17 : decode cX5_look 17 = .ok (.iload_n 3, 1) := by decide +kernel
theorem dX5_look_18 : decode cX5_look 18 = .ok (.iconst 0, 1) := by decide +kernel
theorem dX5_look_19 : decode cX5_look 19 = .ok (.iconst 2, 1) := by decide +kernel
theorem dX5_look_20 : decode cX5_look 20 = .ok (.invokestatic 54, 3) := by decide +kernel
theorem dX5_look_23 : decode cX5_look 23 = .ok (.ifCond .ne 6, 3) := by decide +kernel
theorem dX5_look_26 : decode cX5_look 26 = .ok (.bipush (-2), 2) := by decide +kernel
theorem dX5_look_28 : decode cX5_look 28 = .ok (.ireturn, 1) := by decide +kernel
theorem dX5_look_29 : decode cX5_look 29 = .ok (.iload_n 3, 1) := by decide +kernel
theorem dX5_look_30 : decode cX5_look 30 = .ok (.ifCond .ne 12, 3) := by decide +kernel
theorem dX5_look_33 : decode cX5_look 33 = .ok (.aload_n 0, 1) := by decide +kernel
theorem dX5_look_34 : decode cX5_look 34 = .ok (.iload_n 1, 1) := by decide +kernel
theorem dX5_look_35 : decode cX5_look 35 = .ok (.iload_n 2, 1) := by decide +kernel
theorem dX5_look_36 : decode cX5_look 36 = .ok (.invokevirtual 79, 3) := by decide +kernel
theorem dX5_look_39 : decode cX5_look 39 = .ok (.goto 34, 3) := by decide +kernel
theorem dX5_look_42 : decode cX5_look 42 = .ok (.iload_n 3, 1) := by decide +kernel
theorem dX5_look_43 : decode cX5_look 43 = .ok (.iconst 1, 1) := by decide +kernel
theorem dX5_look_44 : decode cX5_look 44 = .ok (.if_icmp .ne 23, 3) := by decide +kernel
theorem dX5_look_47 : decode cX5_look 47 = .ok (.aload_n 0, 1) := by decide +kernel
theorem dX5_look_48 : decode cX5_look 48 = .ok (.getfield 13, 3) := by decide +kernel
theorem dX5_look_51 : decode cX5_look 51 = .ok (.iconst 4, 1) := by decide +kernel
theorem dX5_look_52 : decode cX5_look 52 = .ok (.iload_n 1, 1) := by decide +kernel
theorem dX5_look_53 : decode cX5_look 53 = .ok (.imul, 1) := by decide +kernel
theorem dX5_look_54 : decode cX5_look 54 = .ok (.iconst 1, 1) := by decide +kernel
theorem dX5_look_55 : decode cX5_look 55 = .ok (.iadd, 1) := by decide +kernel
theorem dX5_look_56 : decode cX5_look 56 = .ok (.iaload, 1) := by decide +kernel
theorem dX5_look_57 : decode cX5_look 57 = .ok (.aload_n 0, 1) := by decide +kernel
theorem dX5_look_58 : decode cX5_look 58 = .ok (.iload_n 2, 1) := by decide +kernel
theorem dX5_look_59 : decode cX5_look 59 = .ok (.iconst 0, 1) := by decide +kernel
theorem dX5_look_60 : decode cX5_look 60 = .ok (.invokevirtual 65, 3) := by decide +kernel
theorem dX5_look_63 : decode cX5_look 63 = .ok (.idiv, 1) := by decide +kernel
theorem dX5_look_64 : decode cX5_look 64 = .ok (.goto 9, 3) := by decide +kernel
theorem dX5_look_67 : decode cX5_look 67 = .ok (.aload_n 0, 1) := by decide +kernel
theorem dX5_look_68 : decode cX5_look 68 = .ok (.iload_n 1, 1) := by decide +kernel
theorem dX5_look_69 : decode cX5_look 69 = .ok (.iload_n 2, 1) := by decide +kernel
theorem dX5_look_70 : decode cX5_look 70 = .ok (.invokevirtual 82, 3) := by decide +kernel
theorem dX5_look_73 : decode cX5_look 73 = .ok (.ireturn, 1) := by decide +kernel
set_option maxRecDepth 20000 in
theorem ggX5_fault_X5_isDay : GoodIn wsX5_fault wsX5_isDay := goodIn_r _ [5, 6, 7, 4, 8] (by decide +kernel) (by decide +kernel)
set_option maxRecDepth 20000 in
theorem gX5_fault_X5_isDay : GoodIn wsX5_fault (va_wsS RX5 58 yX5_isDay wsX5_isDay) := goodIn_app (goodIn_of _ (by decide +kernel)) ggX5_fault_X5_isDay
set_option maxRecDepth 20000 in
theorem ggX5_fault_X5_faultOn : GoodIn wsX5_fault wsX5_faultOn := goodIn_r _ [12, 13, 14, 15, 16, 4, 17, 18, 19, 20, 21, 22, 23, 24, 25, 26, 27, 28, 29, 30, 31, 32, 33, 34, 35, 36, 37, 38, 39, 40, 41, 42, 43, 44, 45, 46, 47, 48, 49] (by decide +kernel) (by decide +kernel)
set_option maxRecDepth 20000 in
theorem gX5_fault_X5_faultOn : GoodIn wsX5_fault (wsV RX5 82 RX5 yX5_faultOn wsX5_faultOn) := goodIn_app (goodIn_of _ (by decide +kernel)) ggX5_fault_X5_faultOn
theorem dX5_fault_0 : decode cX5_fault 0 = .ok (.iload_n 1, 1) := by decide +kernel
theorem dX5_fault_1 : decode cX5_fault 1 = .ok (.invokestatic 58, 3) := by decide +kernel
theorem dX5_fault_4 : decode cX5_fault 4 = .ok (.ifCond .ne 6, 3) := by decide +kernel
theorem dX5_fault_7 : decode cX5_fault 7 = .ok (.bipush (-2), 2) := by decide +kernel
theorem dX5_fault_9 : decode cX5_fault 9 = .ok (.ireturn, 1) := by decide +kernel
theorem dX5_fault_10 : decode cX5_fault 10 = .ok (.iconst 0, 1) := by decide +kernel
theorem dX5_fault_11 : decode cX5_fault 11 = .ok (.istore_n 2, 1) := by decide +kernel
theorem dX5_fault_12 : decode cX5_fault 12 = .ok (.iload_n 2, 1) := by decide +kernel
theorem dX5_fault_13 : decode cX5_fault 13 = .ok (.aload_n 0, 1) := by decide +kernel
theorem dX5_fault_14 : decode cX5_fault 14 = .ok (.getfield 70, 3) := by decide +kernel
theorem dX5_fault_17 : decode cX5_fault 17 = .ok (.if_icmp .ge 20, 3) := by decide +kernel
theorem dX5_fault_20 : decode cX5_fault 20 = .ok (.aload_n 0, 1) := by decide +kernel
theorem dX5_fault_21 : decode cX5_fault 21 = .ok (.iload_n 2, 1) := by decide +kernel
theorem dX5_fault_22 : decode cX5_fault 22 = .ok (.iload_n 1, 1) := by decide +kernel
theorem dX5_fault_23 : decode cX5_fault 23 = .ok (.invokevirtual 82, 3) := by decide +kernel
theorem dX5_fault_26 : decode cX5_fault 26 = .ok (.ifCond .le 5, 3) := by decide +kernel
theorem dX5_fault_29 : decode cX5_fault 29 = .ok (.iload_n 2, 1) := by decide +kernel
theorem dX5_fault_30 : decode cX5_fault 30 = .ok (.ireturn, 1) := by decide +kernel
theorem dX5_fault_31 : decode cX5_fault 31 = .ok (.iinc 2 1, 3) := by decide +kernel
theorem dX5_fault_34 : decode cX5_fault 34 = .ok (.goto (-22), 3) := by decide +kernel
theorem dX5_fault_37 : decode cX5_fault 37 = .ok (.bipush (-6), 2) := by decide +kernel
theorem dX5_fault_39 : decode cX5_fault 39 = .ok (.ireturn, 1) := by decide +kernel
set_option maxRecDepth 20000 in
theorem ggX5_spoils_X5_isThing : GoodIn wsX5_spoils wsX5_isThing := goodIn_r _ [5, 6, 7, 8, 4, 9, 30, 31, 32, 33, 34, 35, 36, 37, 38, 39, 40, 41, 42, 43, 44, 45, 46, 47, 48, 49, 50, 51, 52, 53] (by decide +kernel) (by decide +kernel)
set_option maxRecDepth 20000 in
theorem gX5_spoils_X5_isThing : GoodIn wsX5_spoils (wsV RX5 76 RX5 yX5_isThing wsX5_isThing) := goodIn_app (goodIn_of _ (by decide +kernel)) ggX5_spoils_X5_isThing
set_option maxRecDepth 20000 in
theorem ggX5_spoils_X5_isDay : GoodIn wsX5_spoils wsX5_isDay := goodIn_r _ [12, 7, 8, 4, 9] (by decide +kernel) (by decide +kernel)
set_option maxRecDepth 20000 in
theorem gX5_spoils_X5_isDay : GoodIn wsX5_spoils (va_wsS RX5 58 yX5_isDay wsX5_isDay) := goodIn_app (goodIn_of _ (by decide +kernel)) ggX5_spoils_X5_isDay
set_option maxRecDepth 20000 in
theorem ggX5_spoils_X5_faultOn : GoodIn wsX5_spoils wsX5_faultOn := goodIn_r _ [16, 17, 18, 19, 20, 4, 21, 22, 23, 24, 25, 26, 27, 28, 29, 30, 31, 32, 33, 34, 35, 36, 37, 38, 39, 40, 41, 42, 43, 44, 45, 46, 47, 48, 49, 50, 51, 52, 53] (by decide +kernel) (by decide +kernel)
set_option maxRecDepth 20000 in
theorem gX5_spoils_X5_faultOn : GoodIn wsX5_spoils (wsV RX5 82 RX5 yX5_faultOn wsX5_faultOn) := goodIn_app (goodIn_of _ (by decide +kernel)) ggX5_spoils_X5_faultOn
theorem dX5_spoils_0 : decode cX5_spoils 0 = .ok (.aload_n 0, 1) := by decide +kernel
theorem dX5_spoils_1 : decode cX5_spoils 1 = .ok (.iload_n 1, 1) := by decide +kernel
theorem dX5_spoils_2 : decode cX5_spoils 2 = .ok (.invokevirtual 76, 3) := by decide +kernel
theorem dX5_spoils_5 : decode cX5_spoils 5 = .ok (.ifCond .ne 5, 3) := by decide +kernel
theorem dX5_spoils_8 : decode cX5_spoils 8 = .ok (.iconst (-1), 1) := by decide +kernel
theorem dX5_spoils_9 : decode cX5_spoils 9 = .ok (.ireturn, 1) := by decide +kernel
theorem dX5_spoils_10 : decode cX5_spoils 10 = .ok (.iload_n 2, 1) := by decide +kernel
theorem dX5_spoils_11 : decode cX5_spoils 11 = .ok (.invokestatic 58, 3) := by decide +kernel
theorem dX5_spoils_14 : decode cX5_spoils 14 = .ok (.ifCond .ne 6, 3) := by decide +kernel
theorem dX5_spoils_17 : decode cX5_spoils 17 = .ok (.bipush (-2), 2) := by decide +kernel
theorem dX5_spoils_19 : decode cX5_spoils 19 = .ok (.ireturn, 1) := by decide +kernel
theorem dX5_spoils_20 : decode cX5_spoils 20 = .ok (.iload_n 2, 1) := by decide +kernel
theorem dX5_spoils_21 : decode cX5_spoils 21 = .ok (.istore_n 3, 1) := by decide +kernel
theorem dX5_spoils_22 : decode cX5_spoils 22 = .ok (.iload_n 3, 1) := by decide +kernel
theorem dX5_spoils_23 : decode cX5_spoils 23 = .ok (.sipush 3000, 3) := by decide +kernel
theorem dX5_spoils_26 : decode cX5_spoils 26 = .ok (.if_icmp .gt 20, 3) := by decide +kernel
theorem dX5_spoils_29 : decode cX5_spoils 29 = .ok (.aload_n 0, 1) := by decide +kernel
theorem dX5_spoils_30 : decode cX5_spoils 30 = .ok (.iload_n 1, 1) := by decide +kernel
theorem dX5_spoils_31 : decode cX5_spoils 31 = .ok (.iload_n 3, 1) := by decide +kernel
theorem dX5_spoils_32 : decode cX5_spoils 32 = .ok (.invokevirtual 82, 3) := by decide +kernel
theorem dX5_spoils_35 : decode cX5_spoils 35 = .ok (.ifCond .le 5, 3) := by decide +kernel
theorem dX5_spoils_38 : decode cX5_spoils 38 = .ok (.iload_n 3, 1) := by decide +kernel
theorem dX5_spoils_39 : decode cX5_spoils 39 = .ok (.ireturn, 1) := by decide +kernel
theorem dX5_spoils_40 : decode cX5_spoils 40 = .ok (.iinc 3 1, 3) := by decide +kernel
theorem dX5_spoils_43 : decode cX5_spoils 43 = .ok (.goto (-21), 3) := by decide +kernel
theorem dX5_spoils_46 : decode cX5_spoils 46 = .ok (.bipush (-6), 2) := by decide +kernel
theorem dX5_spoils_48 : decode cX5_spoils 48 = .ok (.ireturn, 1) := by decide +kernel
set_option maxRecDepth 20000 in
theorem ggX5_fade_X5_in : GoodIn wsX5_fade wsX5_in := goodIn_r _ [5] (by decide +kernel) (by decide +kernel)
set_option maxRecDepth 20000 in
theorem gX5_fade_X5_in : GoodIn wsX5_fade (va_wsS RX5 54 yX5_in wsX5_in) := goodIn_app (goodIn_of _ (by decide +kernel)) ggX5_fade_X5_in
theorem dX5_fade_0 : decode cX5_fade 0 = .ok (.iload_n 1, 1) := by decide +kernel
theorem dX5_fade_1 : decode cX5_fade 1 = .ok (.iconst 0, 1) := by decide +kernel
theorem dX5_fade_2 : decode cX5_fade 2 = .ok (.iconst 3, 1) := by decide +kernel
theorem dX5_fade_3 : decode cX5_fade 3 = .ok (.invokestatic 54, 3) := by decide +kernel
theorem dX5_fade_6 : decode cX5_fade 6 = .ok (.ifCond .eq 13, 3) := by decide +kernel
theorem dX5_fade_9 : decode cX5_fade 9 = .ok (.iload_n 2, 1) := by decide +kernel
theorem dX5_fade_10 : decode cX5_fade 10 = .ok (.iconst 0, 1) := by decide +kernel
theorem dX5_fade_11 : decode cX5_fade 11 = .ok (.bipush 40, 2) := by decide +kernel
theorem dX5_fade_13 : decode cX5_fade 13 = .ok (.invokestatic 54, 3) := by decide +kernel
theorem dX5_fade_16 : decode cX5_fade 16 = .ok (.ifCond .ne 6, 3) := by decide +kernel
theorem dX5_fade_19 : decode cX5_fade 19 = .ok (.bipush (-2), 2) := by decide +kernel
theorem dX5_fade_21 : decode cX5_fade 21 = .ok (.ireturn, 1) := by decide +kernel
theorem dX5_fade_22 : decode cX5_fade 22 = .ok (.aload_n 0, 1) := by decide +kernel
theorem dX5_fade_23 : decode cX5_fade 23 = .ok (.getfield 19, 3) := by decide +kernel
theorem dX5_fade_26 : decode cX5_fade 26 = .ok (.iload_n 1, 1) := by decide +kernel
theorem dX5_fade_27 : decode cX5_fade 27 = .ok (.iaload, 1) := by decide +kernel
theorem dX5_fade_28 : decode cX5_fade 28 = .ok (.istore_n 3, 1) := by decide +kernel
theorem dX5_fade_29 : decode cX5_fade 29 = .ok (.aload_n 0, 1) := by decide +kernel
theorem dX5_fade_30 : decode cX5_fade 30 = .ok (.getfield 19, 3) := by decide +kernel
theorem dX5_fade_33 : decode cX5_fade 33 = .ok (.iload_n 1, 1) := by decide +kernel
theorem dX5_fade_34 : decode cX5_fade 34 = .ok (.iload_n 2, 1) := by decide +kernel
theorem dX5_fade_35 : decode cX5_fade 35 = .ok (.iastore, 1) := by decide +kernel
theorem dX5_fade_36 : decode cX5_fade 36 = .ok (.iload_n 3, 1) := by decide +kernel
theorem dX5_fade_37 : decode cX5_fade 37 = .ok (.ireturn, 1) := by decide +kernel
set_option maxRecDepth 20000 in
theorem ggX5_wall_X5_in : GoodIn wsX5_wall wsX5_in := goodIn_r _ [6] (by decide +kernel) (by decide +kernel)
set_option maxRecDepth 20000 in
theorem gX5_wall_X5_in : GoodIn wsX5_wall (va_wsS RX5 54 yX5_in wsX5_in) := goodIn_app (goodIn_of _ (by decide +kernel)) ggX5_wall_X5_in
theorem dX5_wall_0 : decode cX5_wall 0 = .ok (.iload_n 1, 1) := by decide +kernel
theorem dX5_wall_1 : decode cX5_wall 1 = .ok (.iconst 0, 1) := by decide +kernel
theorem dX5_wall_2 : decode cX5_wall 2 = .ok (.bipush 99, 2) := by decide +kernel
theorem dX5_wall_4 : decode cX5_wall 4 = .ok (.invokestatic 54, 3) := by decide +kernel
theorem dX5_wall_7 : decode cX5_wall 7 = .ok (.ifCond .eq 22, 3) := by decide +kernel
theorem dX5_wall_10 : decode cX5_wall 10 = .ok (.iload_n 2, 1) := by decide +kernel
theorem dX5_wall_11 : decode cX5_wall 11 = .ok (.iconst 0, 1) := by decide +kernel
theorem dX5_wall_12 : decode cX5_wall 12 = .ok (.iconst 3, 1) := by decide +kernel
theorem dX5_wall_13 : decode cX5_wall 13 = .ok (.invokestatic 54, 3) := by decide +kernel
theorem dX5_wall_16 : decode cX5_wall 16 = .ok (.ifCond .eq 13, 3) := by decide +kernel
theorem dX5_wall_19 : decode cX5_wall 19 = .ok (.iload_n 3, 1) := by decide +kernel
theorem dX5_wall_20 : decode cX5_wall 20 = .ok (.iconst 1, 1) := by decide +kernel
theorem dX5_wall_21 : decode cX5_wall 21 = .ok (.bipush 60, 2) := by decide +kernel
theorem dX5_wall_23 : decode cX5_wall 23 = .ok (.invokestatic 54, 3) := by decide +kernel
theorem dX5_wall_26 : decode cX5_wall 26 = .ok (.ifCond .ne 6, 3) := by decide +kernel
theorem dX5_wall_29 : decode cX5_wall 29 = .ok (.bipush (-2), 2) := by decide +kernel
theorem dX5_wall_31 : decode cX5_wall 31 = .ok (.ireturn, 1) := by decide +kernel
theorem dX5_wall_32 : decode cX5_wall 32 = .ok (.aload_n 0, 1) := by decide +kernel
theorem dX5_wall_33 : decode cX5_wall 33 = .ok (.getfield 85, 3) := by decide +kernel
theorem dX5_wall_36 : decode cX5_wall 36 = .ok (.bipush 24, 2) := by decide +kernel
theorem dX5_wall_38 : decode cX5_wall 38 = .ok (.if_icmp .ne 6, 3) := by decide +kernel
theorem dX5_wall_41 : decode cX5_wall 41 = .ok (.bipush (-4), 2) := by decide +kernel
theorem dX5_wall_43 : decode cX5_wall 43 = .ok (.ireturn, 1) := by decide +kernel
theorem dX5_wall_44 : decode cX5_wall 44 = .ok (.aload_n 0, 1) := by decide +kernel
theorem dX5_wall_45 : decode cX5_wall 45 = .ok (.getfield 22, 3) := by decide +kernel
theorem dX5_wall_48 : decode cX5_wall 48 = .ok (.iconst 5, 1) := by decide +kernel
theorem dX5_wall_49 : decode cX5_wall 49 = .ok (.aload_n 0, 1) := by decide +kernel
theorem dX5_wall_50 : decode cX5_wall 50 = .ok (.getfield 85, 3) := by decide +kernel
theorem dX5_wall_53 : decode cX5_wall 53 = .ok (.imul, 1) := by decide +kernel
theorem dX5_wall_54 : decode cX5_wall 54 = .ok (.iload_n 1, 1) := by decide +kernel
theorem dX5_wall_55 : decode cX5_wall 55 = .ok (.iastore, 1) := by decide +kernel
theorem dX5_wall_56 : decode cX5_wall 56 = .ok (.aload_n 0, 1) := by decide +kernel
theorem dX5_wall_57 : decode cX5_wall 57 = .ok (.getfield 22, 3) := by decide +kernel
theorem dX5_wall_60 : decode cX5_wall 60 = .ok (.iconst 5, 1) := by decide +kernel
theorem dX5_wall_61 : decode cX5_wall 61 = .ok (.aload_n 0, 1) := by decide +kernel
theorem dX5_wall_62 : decode cX5_wall 62 = .ok (.getfield 85, 3) := by decide +kernel
theorem dX5_wall_65 : decode cX5_wall 65 = .ok (.imul, 1) := by decide +kernel
theorem dX5_wall_66 : decode cX5_wall 66 = .ok (.iconst 1, 1) := by decide +kernel
theorem dX5_wall_67 : decode cX5_wall 67 = .ok (.iadd, 1) := by decide +kernel
theorem dX5_wall_68 : decode cX5_wall 68 = .ok (.iload_n 2, 1) := by decide +kernel
theorem dX5_wall_69 : decode cX5_wall 69 = .ok (.iastore, 1) := by decide +kernel
theorem dX5_wall_70 : decode cX5_wall 70 = .ok (.aload_n 0, 1) := by decide +kernel
theorem dX5_wall_71 : decode cX5_wall 71 = .ok (.getfield 22, 3) := by decide +kernel
theorem dX5_wall_74 : decode cX5_wall 74 = .ok (.iconst 5, 1) := by decide +kernel
theorem dX5_wall_75 : decode cX5_wall 75 = .ok (.aload_n 0, 1) := by decide +kernel
theorem dX5_wall_76 : decode cX5_wall 76 = .ok (.getfield 85, 3) := by decide +kernel
theorem dX5_wall_79 : decode cX5_wall 79 = .ok (.imul, 1) := by decide +kernel
theorem dX5_wall_80 : decode cX5_wall 80 = .ok (.iconst 2, 1) := by decide +kernel
theorem dX5_wall_81 : decode cX5_wall 81 = .ok (.iadd, 1) := by decide +kernel
theorem dX5_wall_82 : decode cX5_wall 82 = .ok (.iload_n 3, 1) := by decide +kernel
theorem dX5_wall_83 : decode cX5_wall 83 = .ok (.iastore, 1) := by decide +kernel
theorem dX5_wall_84 : decode cX5_wall 84 = .ok (.aload_n 0, 1) := by decide +kernel
theorem dX5_wall_85 : decode cX5_wall 85 = .ok (.getfield 22, 3) := by decide +kernel
theorem dX5_wall_88 : decode cX5_wall 88 = .ok (.iconst 5, 1) := by decide +kernel
theorem dX5_wall_89 : decode cX5_wall 89 = .ok (.aload_n 0, 1) := by decide +kernel
theorem dX5_wall_90 : decode cX5_wall 90 = .ok (.getfield 85, 3) := by decide +kernel
theorem dX5_wall_93 : decode cX5_wall 93 = .ok (.imul, 1) := by decide +kernel
theorem dX5_wall_94 : decode cX5_wall 94 = .ok (.iconst 3, 1) := by decide +kernel
theorem dX5_wall_95 : decode cX5_wall 95 = .ok (.iadd, 1) := by decide +kernel
theorem dX5_wall_96 : decode cX5_wall 96 = .ok (.bipush 100, 2) := by decide +kernel
theorem dX5_wall_98 : decode cX5_wall 98 = .ok (.iastore, 1) := by decide +kernel
theorem dX5_wall_99 : decode cX5_wall 99 = .ok (.aload_n 0, 1) := by decide +kernel
theorem dX5_wall_100 : decode cX5_wall 100 = .ok (.getfield 22, 3) := by decide +kernel
theorem dX5_wall_103 : decode cX5_wall 103 = .ok (.iconst 5, 1) := by decide +kernel
theorem dX5_wall_104 : decode cX5_wall 104 = .ok (.aload_n 0, 1) := by decide +kernel
theorem dX5_wall_105 : decode cX5_wall 105 = .ok (.getfield 85, 3) := by decide +kernel
theorem dX5_wall_108 : decode cX5_wall 108 = .ok (.imul, 1) := by decide +kernel
theorem dX5_wall_109 : decode cX5_wall 109 = .ok (.iconst 4, 1) := by decide +kernel
theorem dX5_wall_110 : decode cX5_wall 110 = .ok (.iadd, 1) := by decide +kernel
theorem dX5_wall_111 : decode cX5_wall 111 = .ok (.iconst 0, 1) := by decide +kernel
theorem dX5_wall_112 : decode cX5_wall 112 = .ok (.iastore, 1) := by decide +kernel
theorem dX5_wall_113 : decode cX5_wall 113 = .ok (.aload_n 0, 1) := by decide +kernel
theorem dX5_wall_114 : decode cX5_wall 114 = .ok (.dup, 1) := by decide +kernel
theorem dX5_wall_115 : decode cX5_wall 115 = .ok (.getfield 85, 3) := by decide +kernel
theorem dX5_wall_118 : decode cX5_wall 118 = .ok (.iconst 1, 1) := by decide +kernel
theorem dX5_wall_119 : decode cX5_wall 119 = .ok (.iadd, 1) := by decide +kernel
theorem dX5_wall_120 : decode cX5_wall 120 = .ok (.putfield 85, 3) := by decide +kernel
theorem dX5_wall_123 : decode cX5_wall 123 = .ok (.aload_n 0, 1) := by decide +kernel
theorem dX5_wall_124 : decode cX5_wall 124 = .ok (.getfield 85, 3) := by decide +kernel
theorem dX5_wall_127 : decode cX5_wall 127 = .ok (.iconst 1, 1) := by decide +kernel
theorem dX5_wall_128 : decode cX5_wall 128 = .ok (.isub, 1) := by decide +kernel
theorem dX5_wall_129 : decode cX5_wall 129 = .ok (.ireturn, 1) := by decide +kernel
set_option maxRecDepth 20000 in
theorem ggX5_wallOf_X5_in : GoodIn wsX5_wallOf wsX5_in := goodIn_r _ [6] (by decide +kernel) (by decide +kernel)
set_option maxRecDepth 20000 in
theorem gX5_wallOf_X5_in : GoodIn wsX5_wallOf (va_wsS RX5 54 yX5_in wsX5_in) := goodIn_app (goodIn_of _ (by decide +kernel)) ggX5_wallOf_X5_in
theorem dX5_wallOf_0 : decode cX5_wallOf 0 = .ok (.iload_n 1, 1) := by decide +kernel
theorem dX5_wallOf_1 : decode cX5_wallOf 1 = .ok (.iconst 0, 1) := by decide +kernel
theorem dX5_wallOf_2 : decode cX5_wallOf 2 = .ok (.aload_n 0, 1) := by decide +kernel
theorem dX5_wallOf_3 : decode cX5_wallOf 3 = .ok (.getfield 85, 3) := by decide +kernel
theorem dX5_wallOf_6 : decode cX5_wallOf 6 = .ok (.iconst 1, 1) := by decide +kernel
theorem dX5_wallOf_7 : decode cX5_wallOf 7 = .ok (.isub, 1) := by decide +kernel
theorem dX5_wallOf_8 : decode cX5_wallOf 8 = .ok (.invokestatic 54, 3) := by decide +kernel
theorem dX5_wallOf_11 : decode cX5_wallOf 11 = .ok (.ifCond .ne 5, 3) := by decide +kernel
theorem dX5_wallOf_14 : decode cX5_wallOf 14 = .ok (.iconst (-1), 1) := by decide +kernel
theorem dX5_wallOf_15 : decode cX5_wallOf 15 = .ok (.ireturn, 1) := by decide +kernel
theorem dX5_wallOf_16 : decode cX5_wallOf 16 = .ok (.iload_n 2, 1) := by decide +kernel
theorem dX5_wallOf_17 : decode cX5_wallOf 17 = .ok (.iconst 0, 1) := by decide +kernel
theorem dX5_wallOf_18 : decode cX5_wallOf 18 = .ok (.iconst 4, 1) := by decide +kernel
theorem dX5_wallOf_19 : decode cX5_wallOf 19 = .ok (.invokestatic 54, 3) := by decide +kernel
theorem dX5_wallOf_22 : decode cX5_wallOf 22 = .ok (.ifCond .eq 16, 3) := by decide +kernel
theorem dX5_wallOf_25 : decode cX5_wallOf 25 = .ok (.aload_n 0, 1) := by decide +kernel
theorem dX5_wallOf_26 : decode cX5_wallOf 26 = .ok (.getfield 22, 3) := by decide +kernel
theorem dX5_wallOf_29 : decode cX5_wallOf 29 = .ok (.iconst 5, 1) := by decide +kernel
theorem dX5_wallOf_30 : decode cX5_wallOf 30 = .ok (.iload_n 1, 1) := by decide +kernel
theorem dX5_wallOf_31 : decode cX5_wallOf 31 = .ok (.imul, 1) := by decide +kernel
theorem dX5_wallOf_32 : decode cX5_wallOf 32 = .ok (.iload_n 2, 1) := by decide +kernel
theorem dX5_wallOf_33 : decode cX5_wallOf 33 = .ok (.iadd, 1) := by decide +kernel
theorem dX5_wallOf_34 : decode cX5_wallOf 34 = .ok (.iaload, 1) := by decide +kernel
theorem dX5_wallOf_35 : decode cX5_wallOf 35 = .ok (.goto 5, 3) := by decide +kernel
theorem dX5_wallOf_38 : decode cX5_wallOf 38 = .ok (.bipush (-2), 2) := by decide +kernel
theorem dX5_wallOf_40 : decode cX5_wallOf 40 = .ok (.ireturn, 1) := by decide +kernel
set_option maxRecDepth 20000 in
theorem ggX5_areHands_X5_in : GoodIn wsX5_areHands wsX5_in := goodIn_r _ [4] (by decide +kernel) (by decide +kernel)
set_option maxRecDepth 20000 in
theorem gX5_areHands_X5_in : GoodIn wsX5_areHands (va_wsS RX5 54 yX5_in wsX5_in) := goodIn_app (goodIn_of _ (by decide +kernel)) ggX5_areHands_X5_in
theorem dX5_areHands_0 : decode cX5_areHands 0 = .ok (.iload_n 0, 1) := by decide +kernel
theorem dX5_areHands_1 : decode cX5_areHands 1 = .ok (.iconst 0, 1) := by decide +kernel
theorem dX5_areHands_2 : decode cX5_areHands 2 = .ok (.sipush 500, 3) := by decide +kernel
theorem dX5_areHands_5 : decode cX5_areHands 5 = .ok (.invokestatic 54, 3) := by decide +kernel
theorem dX5_areHands_8 : decode cX5_areHands 8 = .ok (.ireturn, 1) := by decide +kernel
set_option maxRecDepth 20000 in
theorem ggX5_hands_X5_areHands : GoodIn wsX5_hands wsX5_areHands := goodIn_r _ [5, 6, 7, 4, 8] (by decide +kernel) (by decide +kernel)
set_option maxRecDepth 20000 in
theorem gX5_hands_X5_areHands : GoodIn wsX5_hands (va_wsS RX5 88 yX5_areHands wsX5_areHands) := goodIn_app (goodIn_of _ (by decide +kernel)) ggX5_hands_X5_areHands
theorem dX5_hands_0 : decode cX5_hands 0 = .ok (.iload_n 1, 1) := by decide +kernel
theorem dX5_hands_1 : decode cX5_hands 1 = .ok (.invokestatic 88, 3) := by decide +kernel
theorem dX5_hands_4 : decode cX5_hands 4 = .ok (.ifCond .ne 6, 3) := by decide +kernel
theorem dX5_hands_7 : decode cX5_hands 7 = .ok (.bipush (-2), 2) := by decide +kernel
theorem dX5_hands_9 : decode cX5_hands 9 = .ok (.ireturn, 1) := by decide +kernel
theorem dX5_hands_10 : decode cX5_hands 10 = .ok (.aload_n 0, 1) := by decide +kernel
theorem dX5_hands_11 : decode cX5_hands 11 = .ok (.getfield 25, 3) := by decide +kernel
theorem dX5_hands_14 : decode cX5_hands 14 = .ok (.istore_n 2, 1) := by decide +kernel
theorem dX5_hands_15 : decode cX5_hands 15 = .ok (.aload_n 0, 1) := by decide +kernel
theorem dX5_hands_16 : decode cX5_hands 16 = .ok (.iload_n 1, 1) := by decide +kernel
theorem dX5_hands_17 : decode cX5_hands 17 = .ok (.putfield 25, 3) := by decide +kernel
theorem dX5_hands_20 : decode cX5_hands 20 = .ok (.iload_n 2, 1) := by decide +kernel
theorem dX5_hands_21 : decode cX5_hands 21 = .ok (.ireturn, 1) := by decide +kernel
set_option maxRecDepth 20000 in
theorem ggX5_frost_X5_in : GoodIn wsX5_frost wsX5_in := goodIn_r _ [6] (by decide +kernel) (by decide +kernel)
set_option maxRecDepth 20000 in
theorem gX5_frost_X5_in : GoodIn wsX5_frost (va_wsS RX5 54 yX5_in wsX5_in) := goodIn_app (goodIn_of _ (by decide +kernel)) ggX5_frost_X5_in
theorem dX5_frost_0 : decode cX5_frost 0 = .ok (.iload_n 1, 1) := by decide +kernel
theorem dX5_frost_1 : decode cX5_frost 1 = .ok (.iconst 0, 1) := by decide +kernel
theorem dX5_frost_2 : decode cX5_frost 2 = .ok (.sipush 199, 3) := by decide +kernel
theorem dX5_frost_5 : decode cX5_frost 5 = .ok (.invokestatic 54, 3) := by decide +kernel
theorem dX5_frost_8 : decode cX5_frost 8 = .ok (.ifCond .ne 6, 3) := by decide +kernel
theorem dX5_frost_11 : decode cX5_frost 11 = .ok (.bipush (-2), 2) := by decide +kernel
theorem dX5_frost_13 : decode cX5_frost 13 = .ok (.ireturn, 1) := by decide +kernel
theorem dX5_frost_14 : decode cX5_frost 14 = .ok (.iload_n 1, 1) := by decide +kernel
theorem dX5_frost_15 : decode cX5_frost 15 = .ok (.aload_n 0, 1) := by decide +kernel
theorem dX5_frost_16 : decode cX5_frost 16 = .ok (.getfield 91, 3) := by decide +kernel
theorem dX5_frost_19 : decode cX5_frost 19 = .ok (.if_icmp .ge 6, 3) := by decide +kernel
theorem dX5_frost_22 : decode cX5_frost 22 = .ok (.bipush (-5), 2) := by decide +kernel
theorem dX5_frost_24 : decode cX5_frost 24 = .ok (.ireturn, 1) := by decide +kernel
theorem dX5_frost_25 : decode cX5_frost 25 = .ok (.aload_n 0, 1) := by decide +kernel
theorem dX5_frost_26 : decode cX5_frost 26 = .ok (.getfield 29, 3) := by decide +kernel
theorem dX5_frost_29 : decode cX5_frost 29 = .ok (.iload_n 1, 1) := by decide +kernel
theorem dX5_frost_30 : decode cX5_frost 30 = .ok (.baload, 1) := by decide +kernel
theorem dX5_frost_31 : decode cX5_frost 31 = .ok (.ifCond .eq 7, 3) := by decide +kernel
theorem dX5_frost_34 : decode cX5_frost 34 = .ok (.iconst 1, 1) := by decide +kernel
theorem dX5_frost_35 : decode cX5_frost 35 = .ok (.goto 4, 3) := by decide +kernel
theorem dX5_frost_38 : decode cX5_frost 38 = .ok (.iconst 0, 1) := by decide +kernel
theorem dX5_frost_39 : decode cX5_frost 39 = .ok (.istore_n 3, 1) := by decide +kernel
theorem dX5_frost_40 : decode cX5_frost 40 = .ok (.aload_n 0, 1) := by decide +kernel
theorem dX5_frost_41 : decode cX5_frost 41 = .ok (.getfield 29, 3) := by decide +kernel
theorem dX5_frost_44 : decode cX5_frost 44 = .ok (.iload_n 1, 1) := by decide +kernel
theorem dX5_frost_45 : decode cX5_frost 45 = .ok (.iload_n 2, 1) := by decide +kernel
theorem dX5_frost_46 : decode cX5_frost 46 = .ok (.bastore, 1) := by decide +kernel
theorem dX5_frost_47 : decode cX5_frost 47 = .ok (.iload_n 3, 1) := by decide +kernel
theorem dX5_frost_48 : decode cX5_frost 48 = .ok (.ireturn, 1) := by decide +kernel
theorem dX5_layLooks_0 : decode cX5_layLooks 0 = .ok (.iconst 0, 1) := by decide +kernel
theorem dX5_layLooks_1 : decode cX5_layLooks 1 = .ok (.istore_n 1, 1) := by decide +kernel
theorem dX5_layLooks_2 : decode cX5_layLooks 2 = .ok (.iload_n 1, 1) := by decide +kernel
theorem dX5_layLooks_3 : decode cX5_layLooks 3 = .ok (.aload_n 0, 1) := by decide +kernel
theorem dX5_layLooks_4 : decode cX5_layLooks 4 = .ok (.getfield 85, 3) := by decide +kernel
theorem dX5_layLooks_7 : decode cX5_layLooks 7 = .ok (.if_icmp .ge 25, 3) := by decide +kernel
theorem dX5_layLooks_10 : decode cX5_layLooks 10 = .ok (.aload_n 0, 1) := by decide +kernel
theorem dX5_layLooks_11 : decode cX5_layLooks 11 = .ok (.getfield 45, 3) := by decide +kernel
theorem dX5_layLooks_14 : decode cX5_layLooks 14 = .ok (.iload_n 1, 1) := by decide +kernel
theorem dX5_layLooks_15 : decode cX5_layLooks 15 = .ok (.aload_n 0, 1) := by decide +kernel
theorem dX5_layLooks_16 : decode cX5_layLooks 16 = .ok (.getfield 22, 3) := by decide +kernel
theorem dX5_layLooks_19 : decode cX5_layLooks 19 = .ok (.iconst 5, 1) := by decide +kernel
theorem dX5_layLooks_20 : decode cX5_layLooks 20 = .ok (.iload_n 1, 1) := by decide +kernel
theorem dX5_layLooks_21 : decode cX5_layLooks 21 = .ok (.imul, 1) := by decide +kernel
theorem dX5_layLooks_22 : decode cX5_layLooks 22 = .ok (.iconst 3, 1) := by decide +kernel
theorem dX5_layLooks_23 : decode cX5_layLooks 23 = .ok (.iadd, 1) := by decide +kernel
theorem dX5_layLooks_24 : decode cX5_layLooks 24 = .ok (.iaload, 1) := by decide +kernel
theorem dX5_layLooks_25 : decode cX5_layLooks 25 = .ok (.iastore, 1) := by decide +kernel
theorem dX5_layLooks_26 : decode cX5_layLooks 26 = .ok (.iinc 1 1, 3) := by decide +kernel
theorem dX5_layLooks_29 : decode cX5_layLooks 29 = .ok (.goto (-27), 3) := by decide +kernel
theorem dX5_layLooks_32 : decode cX5_layLooks 32 = .ok (.return_, 1) := by decide +kernel
theorem dX5_goWeek_0 : decode cX5_goWeek 0 = .ok (.iconst 0, 1) := by decide +kernel
theorem dX5_goWeek_1 : decode cX5_goWeek 1 = .ok (.istore_n 3, 1) := by decide +kernel
theorem dX5_goWeek_2 : decode cX5_goWeek 2 = .ok (.iconst 0, 1) := by decide +kernel
theorem dX5_goWeek_3 : decode cX5_goWeek 3 = .ok (.istore 4, 2) := by decide +kernel
theorem dX5_goWeek_5 : decode cX5_goWeek 5 = .ok (.iload 4, 2) := by decide +kernel
theorem dX5_goWeek_7 : decode cX5_goWeek 7 = .ok (.aload_n 0, 1) := by decide +kernel
theorem dX5_goWeek_8 : decode cX5_goWeek 8 = .ok (.getfield 85, 3) := by decide +kernel
theorem dX5_goWeek_11 : decode cX5_goWeek 11 = .ok (.if_icmp .ge 17, 3) := by decide +kernel
theorem dX5_goWeek_14 : decode cX5_goWeek 14 = .ok (.aload_n 0, 1) := by decide +kernel
theorem dX5_goWeek_15 : decode cX5_goWeek 15 = .ok (.getfield 48, 3) := by decide +kernel
theorem dX5_goWeek_18 : decode cX5_goWeek 18 = .ok (.iload 4, 2) := by decide +kernel
theorem dX5_goWeek_20 : decode cX5_goWeek 20 = .ok (.iconst 0, 1) := by decide +kernel
theorem dX5_goWeek_21 : decode cX5_goWeek 21 = .ok (.bastore, 1) := by decide +kernel
theorem dX5_goWeek_22 : decode cX5_goWeek 22 = .ok (.iinc 4 1, 3) := by decide +kernel
theorem dX5_goWeek_25 : decode cX5_goWeek 25 = .ok (.goto (-20), 3) := by decide +kernel
theorem dX5_goWeek_28 : decode cX5_goWeek 28 = .ok (.iload_n 2, 1) := by decide +kernel
theorem dX5_goWeek_29 : decode cX5_goWeek 29 = .ok (.istore 4, 2) := by decide +kernel
theorem dX5_goWeek_31 : decode cX5_goWeek 31 = .ok (.aload_n 0, 1) := by decide +kernel
theorem dX5_goWeek_32 : decode cX5_goWeek 32 = .ok (.getfield 29, 3) := by decide +kernel
theorem dX5_goWeek_35 : decode cX5_goWeek 35 = .ok (.iload_n 1, 1) := by decide +kernel
theorem dX5_goWeek_36 : decode cX5_goWeek 36 = .ok (.baload, 1) := by decide +kernel
theorem dX5_goWeek_37 : decode cX5_goWeek 37 = .ok (.ifCond .ne 7, 3) := by decide +kernel
theorem dX5_goWeek_40 : decode cX5_goWeek 40 = .ok (.iconst 1, 1) := by decide +kernel
theorem dX5_goWeek_41 : decode cX5_goWeek 41 = .ok (.goto 4, 3) := by decide +kernel
theorem dX5_goWeek_44 : decode cX5_goWeek 44 = .ok (.iconst 0, 1) := by decide +kernel
theorem dX5_goWeek_45 : decode cX5_goWeek 45 = .ok (.istore 5, 2) := by decide +kernel
theorem dX5_goWeek_47 : decode cX5_goWeek 47 = .ok (.iload 5, 2) := by decide +kernel
theorem dX5_goWeek_49 : decode cX5_goWeek 49 = .ok (.ifCond .eq 150, 3) := by decide +kernel
theorem dX5_goWeek_52 : decode cX5_goWeek 52 = .ok (.bipush (-6), 2) := by decide +kernel
theorem dX5_goWeek_54 : decode cX5_goWeek 54 = .ok (.istore 6, 2) := by decide +kernel
theorem dX5_goWeek_56 : decode cX5_goWeek 56 = .ok (.iconst 0, 1) := by decide +kernel
theorem dX5_goWeek_57 : decode cX5_goWeek 57 = .ok (.istore 7, 2) := by decide +kernel
theorem dX5_goWeek_59 : decode cX5_goWeek 59 = .ok (.iload 7, 2) := by decide +kernel
theorem dX5_goWeek_61 : decode cX5_goWeek 61 = .ok (.aload_n 0, 1) := by decide +kernel
theorem dX5_goWeek_62 : decode cX5_goWeek 62 = .ok (.getfield 85, 3) := by decide +kernel
theorem dX5_goWeek_65 : decode cX5_goWeek 65 = .ok (.if_icmp .ge 62, 3) := by decide +kernel
theorem dX5_goWeek_68 : decode cX5_goWeek 68 = .ok (.aload_n 0, 1) := by decide +kernel
theorem dX5_goWeek_69 : decode cX5_goWeek 69 = .ok (.getfield 48, 3) := by decide +kernel
theorem dX5_goWeek_72 : decode cX5_goWeek 72 = .ok (.iload 7, 2) := by decide +kernel
theorem dX5_goWeek_74 : decode cX5_goWeek 74 = .ok (.baload, 1) := by decide +kernel
theorem dX5_goWeek_75 : decode cX5_goWeek 75 = .ok (.ifCond .ne 42, 3) := by decide +kernel
theorem dX5_goWeek_78 : decode cX5_goWeek 78 = .ok (.aload_n 0, 1) := by decide +kernel
theorem dX5_goWeek_79 : decode cX5_goWeek 79 = .ok (.getfield 45, 3) := by decide +kernel
theorem dX5_goWeek_82 : decode cX5_goWeek 82 = .ok (.iload 7, 2) := by decide +kernel
theorem dX5_goWeek_84 : decode cX5_goWeek 84 = .ok (.iaload, 1) := by decide +kernel
theorem dX5_goWeek_85 : decode cX5_goWeek 85 = .ok (.bipush 100, 2) := by decide +kernel
theorem dX5_goWeek_87 : decode cX5_goWeek 87 = .ok (.if_icmp .ge 30, 3) := by decide +kernel
theorem dX5_goWeek_90 : decode cX5_goWeek 90 = .ok (.iload 6, 2) := by decide +kernel
theorem dX5_goWeek_92 : decode cX5_goWeek 92 = .ok (.ifCond .lt 20, 3) := by decide +kernel
theorem dX5_goWeek_95 : decode cX5_goWeek 95 = .ok (.aload_n 0, 1) := by decide +kernel
theorem dX5_goWeek_96 : decode cX5_goWeek 96 = .ok (.getfield 45, 3) := by decide +kernel
theorem dX5_goWeek_99 : decode cX5_goWeek 99 = .ok (.iload 7, 2) := by decide +kernel
theorem dX5_goWeek_101 : decode cX5_goWeek 101 = .ok (.iaload, 1) := by decide +kernel
theorem dX5_goWeek_102 : decode cX5_goWeek 102 = .ok (.aload_n 0, 1) := by decide +kernel
theorem dX5_goWeek_103 : decode cX5_goWeek 103 = .ok (.getfield 45, 3) := by decide +kernel
theorem dX5_goWeek_106 : decode cX5_goWeek 106 = .ok (.iload 6, 2) := by decide +kernel
theorem dX5_goWeek_108 : decode cX5_goWeek 108 = .ok (.iaload, 1) := by decide +kernel
theorem dX5_goWeek_109 : decode cX5_goWeek 109 = .ok (.if_icmp .ge 8, 3) := by decide +kernel
theorem dX5_goWeek_112 : decode cX5_goWeek 112 = .ok (.iload 7, 2) := by decide +kernel
theorem dX5_goWeek_114 : decode cX5_goWeek 114 = .ok (.goto 5, 3) := by decide +kernel
theorem dX5_goWeek_117 : decode cX5_goWeek 117 = .ok (.iload 6, 2) := by decide +kernel
theorem dX5_goWeek_119 : decode cX5_goWeek 119 = .ok (.istore 6, 2) := by decide +kernel
theorem dX5_goWeek_121 : decode cX5_goWeek 121 = .ok (.iinc 7 1, 3) := by decide +kernel
theorem dX5_goWeek_124 : decode cX5_goWeek 124 = .ok (.goto (-65), 3) := by decide +kernel
theorem dX5_goWeek_127 : decode cX5_goWeek 127 = .ok (.iload 6, 2) := by decide +kernel
theorem dX5_goWeek_129 : decode cX5_goWeek 129 = .ok (.ifCond .lt 23, 3) := by decide +kernel
theorem dX5_goWeek_132 : decode cX5_goWeek 132 = .ok (.aload_n 0, 1) := by decide +kernel
theorem dX5_goWeek_133 : decode cX5_goWeek 133 = .ok (.getfield 22, 3) := by decide +kernel
theorem dX5_goWeek_136 : decode cX5_goWeek 136 = .ok (.iconst 5, 1) := by decide +kernel
theorem dX5_goWeek_137 : decode cX5_goWeek 137 = .ok (.iload 6, 2) := by decide +kernel
theorem dX5_goWeek_139 : decode cX5_goWeek 139 = .ok (.imul, 1) := by decide +kernel
theorem dX5_goWeek_140 : decode cX5_goWeek 140 = .ok (.iconst 2, 1) := by decide +kernel
theorem dX5_goWeek_141 : decode cX5_goWeek 141 = .ok (.iadd, 1) := by decide +kernel
theorem dX5_goWeek_142 : decode cX5_goWeek 142 = .ok (.iaload, 1) := by decide +kernel
theorem dX5_goWeek_143 : decode cX5_goWeek 143 = .ok (.iload 4, 2) := by decide +kernel
theorem dX5_goWeek_145 : decode cX5_goWeek 145 = .ok (.if_icmp .gt 7, 3) := by decide +kernel
theorem dX5_goWeek_148 : decode cX5_goWeek 148 = .ok (.iconst 1, 1) := by decide +kernel
theorem dX5_goWeek_149 : decode cX5_goWeek 149 = .ok (.goto 4, 3) := by decide +kernel
theorem dX5_goWeek_152 : decode cX5_goWeek 152 = .ok (.iconst 0, 1) := by decide +kernel
theorem dX5_goWeek_153 : decode cX5_goWeek 153 = .ok (.istore 5, 2) := by decide +kernel
theorem dX5_goWeek_155 : decode cX5_goWeek 155 = .ok (.iload 5, 2) := by decide +kernel
theorem dX5_goWeek_157 : decode cX5_goWeek 157 = .ok (.ifCond .eq 39, 3) := by decide +kernel
theorem dX5_goWeek_160 : decode cX5_goWeek 160 = .ok (.aload_n 0, 1) := by decide +kernel
theorem dX5_goWeek_161 : decode cX5_goWeek 161 = .ok (.getfield 48, 3) := by decide +kernel
theorem dX5_goWeek_164 : decode cX5_goWeek 164 = .ok (.iload 6, 2) := by decide +kernel
theorem dX5_goWeek_166 : decode cX5_goWeek 166 = .ok (.iconst 1, 1) := by decide +kernel
theorem dX5_goWeek_167 : decode cX5_goWeek 167 = .ok (.bastore, 1) := by decide +kernel
theorem dX5_goWeek_168 : decode cX5_goWeek 168 = .ok (.aload_n 0, 1) := by decide +kernel
theorem dX5_goWeek_169 : decode cX5_goWeek 169 = .ok (.getfield 45, 3) := by decide +kernel
theorem dX5_goWeek_172 : decode cX5_goWeek 172 = .ok (.iload 6, 2) := by decide +kernel
theorem dX5_goWeek_174 : decode cX5_goWeek 174 = .ok (.bipush 100, 2) := by decide +kernel
theorem dX5_goWeek_176 : decode cX5_goWeek 176 = .ok (.iastore, 1) := by decide +kernel
theorem dX5_goWeek_177 : decode cX5_goWeek 177 = .ok (.iload 4, 2) := by decide +kernel
theorem dX5_goWeek_179 : decode cX5_goWeek 179 = .ok (.aload_n 0, 1) := by decide +kernel
theorem dX5_goWeek_180 : decode cX5_goWeek 180 = .ok (.getfield 22, 3) := by decide +kernel
theorem dX5_goWeek_183 : decode cX5_goWeek 183 = .ok (.iconst 5, 1) := by decide +kernel
theorem dX5_goWeek_184 : decode cX5_goWeek 184 = .ok (.iload 6, 2) := by decide +kernel
theorem dX5_goWeek_186 : decode cX5_goWeek 186 = .ok (.imul, 1) := by decide +kernel
theorem dX5_goWeek_187 : decode cX5_goWeek 187 = .ok (.iconst 2, 1) := by decide +kernel
theorem dX5_goWeek_188 : decode cX5_goWeek 188 = .ok (.iadd, 1) := by decide +kernel
theorem dX5_goWeek_189 : decode cX5_goWeek 189 = .ok (.iaload, 1) := by decide +kernel
theorem dX5_goWeek_190 : decode cX5_goWeek 190 = .ok (.isub, 1) := by decide +kernel
theorem dX5_goWeek_191 : decode cX5_goWeek 191 = .ok (.istore 4, 2) := by decide +kernel
theorem dX5_goWeek_193 : decode cX5_goWeek 193 = .ok (.iinc 3 1, 3) := by decide +kernel
theorem dX5_goWeek_196 : decode cX5_goWeek 196 = .ok (.goto (-149), 3) := by decide +kernel
theorem dX5_goWeek_199 : decode cX5_goWeek 199 = .ok (.iconst 0, 1) := by decide +kernel
theorem dX5_goWeek_200 : decode cX5_goWeek 200 = .ok (.istore 6, 2) := by decide +kernel
theorem dX5_goWeek_202 : decode cX5_goWeek 202 = .ok (.iload 6, 2) := by decide +kernel
theorem dX5_goWeek_204 : decode cX5_goWeek 204 = .ok (.aload_n 0, 1) := by decide +kernel
theorem dX5_goWeek_205 : decode cX5_goWeek 205 = .ok (.getfield 85, 3) := by decide +kernel
theorem dX5_goWeek_208 : decode cX5_goWeek 208 = .ok (.if_icmp .ge 53, 3) := by decide +kernel
theorem dX5_goWeek_211 : decode cX5_goWeek 211 = .ok (.aload_n 0, 1) := by decide +kernel
theorem dX5_goWeek_212 : decode cX5_goWeek 212 = .ok (.getfield 45, 3) := by decide +kernel
theorem dX5_goWeek_215 : decode cX5_goWeek 215 = .ok (.iload 6, 2) := by decide +kernel
theorem dX5_goWeek_217 : decode cX5_goWeek 217 = .ok (.iaload, 1) := by decide +kernel
theorem dX5_goWeek_218 : decode cX5_goWeek 218 = .ok (.aload_n 0, 1) := by decide +kernel
theorem dX5_goWeek_219 : decode cX5_goWeek 219 = .ok (.getfield 19, 3) := by decide +kernel
theorem dX5_goWeek_222 : decode cX5_goWeek 222 = .ok (.aload_n 0, 1) := by decide +kernel
theorem dX5_goWeek_223 : decode cX5_goWeek 223 = .ok (.getfield 22, 3) := by decide +kernel
theorem dX5_goWeek_226 : decode cX5_goWeek 226 = .ok (.iconst 5, 1) := by decide +kernel
theorem dX5_goWeek_227 : decode cX5_goWeek 227 = .ok (.iload 6, 2) := by decide +kernel
theorem dX5_goWeek_229 : decode cX5_goWeek 229 = .ok (.imul, 1) := by decide +kernel
theorem dX5_goWeek_230 : decode cX5_goWeek 230 = .ok (.iconst 1, 1) := by decide +kernel
theorem dX5_goWeek_231 : decode cX5_goWeek 231 = .ok (.iadd, 1) := by decide +kernel
theorem dX5_goWeek_232 : decode cX5_goWeek 232 = .ok (.iaload, 1) := by decide +kernel
theorem dX5_goWeek_233 : decode cX5_goWeek 233 = .ok (.iaload, 1) := by decide +kernel
theorem dX5_goWeek_234 : decode cX5_goWeek 234 = .ok (.isub, 1) := by decide +kernel
theorem dX5_goWeek_235 : decode cX5_goWeek 235 = .ok (.istore 7, 2) := by decide +kernel
theorem dX5_goWeek_237 : decode cX5_goWeek 237 = .ok (.aload_n 0, 1) := by decide +kernel
theorem dX5_goWeek_238 : decode cX5_goWeek 238 = .ok (.getfield 45, 3) := by decide +kernel
theorem dX5_goWeek_241 : decode cX5_goWeek 241 = .ok (.iload 6, 2) := by decide +kernel
theorem dX5_goWeek_243 : decode cX5_goWeek 243 = .ok (.iload 7, 2) := by decide +kernel
theorem dX5_goWeek_245 : decode cX5_goWeek 245 = .ok (.ifCond .ge 7, 3) := by decide +kernel
theorem dX5_goWeek_248 : decode cX5_goWeek 248 = .ok (.iconst 0, 1) := by decide +kernel
theorem dX5_goWeek_249 : decode cX5_goWeek 249 = .ok (.goto 5, 3) := by decide +kernel
theorem dX5_goWeek_252 : decode cX5_goWeek 252 = .ok (.iload 7, 2) := by decide +kernel
theorem dX5_goWeek_254 : decode cX5_goWeek 254 = .ok (.iastore, 1) := by decide +kernel
theorem dX5_goWeek_255 : decode cX5_goWeek 255 = .ok (.iinc 6 1, 3) := by decide +kernel
theorem dX5_goWeek_258 : decode cX5_goWeek 258 = .ok (.goto (-56), 3) := by decide +kernel
theorem dX5_goWeek_261 : decode cX5_goWeek 261 = .ok (.iload_n 3, 1) := by decide +kernel
theorem dX5_goWeek_262 : decode cX5_goWeek 262 = .ok (.ireturn, 1) := by decide +kernel
set_option maxRecDepth 20000 in
theorem ggX5_week_X5_layLooks : GoodIn wsX5_week wsX5_layLooks := goodIn_r _ [11, 3, 5, 4, 18, 19, 20, 21, 22, 23, 24, 25, 26, 27, 28, 29, 30, 31, 32, 33, 34, 35, 36, 37, 38, 39, 40, 41] (by decide +kernel) (by decide +kernel)
set_option maxRecDepth 20000 in
theorem gX5_week_X5_layLooks : GoodIn wsX5_week (wsV RX5 94 RX5 yX5_layLooks wsX5_layLooks) := goodIn_app (goodIn_of _ (by decide +kernel)) ggX5_week_X5_layLooks
set_option maxRecDepth 20000 in
theorem ggX5_week_X5_goWeek : GoodIn wsX5_week wsX5_goWeek := goodIn_r _ [15, 3, 6, 16, 5, 4, 17, 18, 19, 20, 21, 22, 23, 24, 25, 26, 27, 28, 29, 30, 31, 32, 33, 34, 35, 36, 37, 38, 39, 40, 41] (by decide +kernel) (by decide +kernel)
set_option maxRecDepth 20000 in
theorem gX5_week_X5_goWeek : GoodIn wsX5_week (wsV RX5 97 RX5 yX5_goWeek wsX5_goWeek) := goodIn_app (goodIn_of _ (by decide +kernel)) ggX5_week_X5_goWeek
theorem dX5_week_0 : decode cX5_week 0 = .ok (.aload_n 0, 1) := by decide +kernel
theorem dX5_week_1 : decode cX5_week 1 = .ok (.getfield 91, 3) := by decide +kernel
theorem dX5_week_4 : decode cX5_week 4 = .ok (.sipush 200, 3) := by decide +kernel
theorem dX5_week_7 : decode cX5_week 7 = .ok (.if_icmp .ne 6, 3) := by decide +kernel
theorem dX5_week_10 : decode cX5_week 10 = .ok (.bipush (-3), 2) := by decide +kernel
theorem dX5_week_12 : decode cX5_week 12 = .ok (.ireturn, 1) := by decide +kernel
theorem dX5_week_13 : decode cX5_week 13 = .ok (.aload_n 0, 1) := by decide +kernel
theorem dX5_week_14 : decode cX5_week 14 = .ok (.invokevirtual 94, 3) := by decide +kernel
theorem dX5_week_17 : decode cX5_week 17 = .ok (.aload_n 0, 1) := by decide +kernel
theorem dX5_week_18 : decode cX5_week 18 = .ok (.aload_n 0, 1) := by decide +kernel
theorem dX5_week_19 : decode cX5_week 19 = .ok (.getfield 91, 3) := by decide +kernel
theorem dX5_week_22 : decode cX5_week 22 = .ok (.aload_n 0, 1) := by decide +kernel
theorem dX5_week_23 : decode cX5_week 23 = .ok (.getfield 25, 3) := by decide +kernel
theorem dX5_week_26 : decode cX5_week 26 = .ok (.invokevirtual 97, 3) := by decide +kernel
theorem dX5_week_29 : decode cX5_week 29 = .ok (.istore_n 1, 1) := by decide +kernel
theorem dX5_week_30 : decode cX5_week 30 = .ok (.iconst 0, 1) := by decide +kernel
theorem dX5_week_31 : decode cX5_week 31 = .ok (.istore_n 2, 1) := by decide +kernel
theorem dX5_week_32 : decode cX5_week 32 = .ok (.iload_n 2, 1) := by decide +kernel
theorem dX5_week_33 : decode cX5_week 33 = .ok (.aload_n 0, 1) := by decide +kernel
theorem dX5_week_34 : decode cX5_week 34 = .ok (.getfield 85, 3) := by decide +kernel
theorem dX5_week_37 : decode cX5_week 37 = .ok (.if_icmp .ge 52, 3) := by decide +kernel
theorem dX5_week_40 : decode cX5_week 40 = .ok (.aload_n 0, 1) := by decide +kernel
theorem dX5_week_41 : decode cX5_week 41 = .ok (.getfield 22, 3) := by decide +kernel
theorem dX5_week_44 : decode cX5_week 44 = .ok (.iconst 5, 1) := by decide +kernel
theorem dX5_week_45 : decode cX5_week 45 = .ok (.iload_n 2, 1) := by decide +kernel
theorem dX5_week_46 : decode cX5_week 46 = .ok (.imul, 1) := by decide +kernel
theorem dX5_week_47 : decode cX5_week 47 = .ok (.iconst 3, 1) := by decide +kernel
theorem dX5_week_48 : decode cX5_week 48 = .ok (.iadd, 1) := by decide +kernel
theorem dX5_week_49 : decode cX5_week 49 = .ok (.aload_n 0, 1) := by decide +kernel
theorem dX5_week_50 : decode cX5_week 50 = .ok (.getfield 45, 3) := by decide +kernel
theorem dX5_week_53 : decode cX5_week 53 = .ok (.iload_n 2, 1) := by decide +kernel
theorem dX5_week_54 : decode cX5_week 54 = .ok (.iaload, 1) := by decide +kernel
theorem dX5_week_55 : decode cX5_week 55 = .ok (.iastore, 1) := by decide +kernel
theorem dX5_week_56 : decode cX5_week 56 = .ok (.aload_n 0, 1) := by decide +kernel
theorem dX5_week_57 : decode cX5_week 57 = .ok (.getfield 22, 3) := by decide +kernel
theorem dX5_week_60 : decode cX5_week 60 = .ok (.iconst 5, 1) := by decide +kernel
theorem dX5_week_61 : decode cX5_week 61 = .ok (.iload_n 2, 1) := by decide +kernel
theorem dX5_week_62 : decode cX5_week 62 = .ok (.imul, 1) := by decide +kernel
theorem dX5_week_63 : decode cX5_week 63 = .ok (.iconst 4, 1) := by decide +kernel
theorem dX5_week_64 : decode cX5_week 64 = .ok (.iadd, 1) := by decide +kernel
theorem dX5_week_65 : decode cX5_week 65 = .ok (.dup2, 1) := by decide +kernel
theorem dX5_week_66 : decode cX5_week 66 = .ok (.iaload, 1) := by decide +kernel
theorem dX5_week_67 : decode cX5_week 67 = .ok (.aload_n 0, 1) := by decide +kernel
theorem dX5_week_68 : decode cX5_week 68 = .ok (.getfield 48, 3) := by decide +kernel
theorem dX5_week_71 : decode cX5_week 71 = .ok (.iload_n 2, 1) := by decide +kernel
theorem dX5_week_72 : decode cX5_week 72 = .ok (.baload, 1) := by decide +kernel
theorem dX5_week_73 : decode cX5_week 73 = .ok (.ifCond .eq 7, 3) := by decide +kernel
theorem dX5_week_76 : decode cX5_week 76 = .ok (.iconst 1, 1) := by decide +kernel
theorem dX5_week_77 : decode cX5_week 77 = .ok (.goto 4, 3) := by decide +kernel
theorem dX5_week_80 : decode cX5_week 80 = .ok (.iconst 0, 1) := by decide +kernel
theorem dX5_week_81 : decode cX5_week 81 = .ok (.iadd, 1) := by decide +kernel
theorem dX5_week_82 : decode cX5_week 82 = .ok (.iastore, 1) := by decide +kernel
theorem dX5_week_83 : decode cX5_week 83 = .ok (.iinc 2 1, 3) := by decide +kernel
theorem dX5_week_86 : decode cX5_week 86 = .ok (.goto (-54), 3) := by decide +kernel
theorem dX5_week_89 : decode cX5_week 89 = .ok (.aload_n 0, 1) := by decide +kernel
theorem dX5_week_90 : decode cX5_week 90 = .ok (.dup, 1) := by decide +kernel
theorem dX5_week_91 : decode cX5_week 91 = .ok (.getfield 91, 3) := by decide +kernel
theorem dX5_week_94 : decode cX5_week 94 = .ok (.iconst 1, 1) := by decide +kernel
theorem dX5_week_95 : decode cX5_week 95 = .ok (.iadd, 1) := by decide +kernel
theorem dX5_week_96 : decode cX5_week 96 = .ok (.putfield 91, 3) := by decide +kernel
theorem dX5_week_99 : decode cX5_week 99 = .ok (.iload_n 1, 1) := by decide +kernel
theorem dX5_week_100 : decode cX5_week 100 = .ok (.ireturn, 1) := by decide +kernel
set_option maxRecDepth 20000 in
theorem ggX5_layForetold_X5_layLooks : GoodIn wsX5_layForetold wsX5_layLooks := goodIn_r _ [9, 3, 4, 10, 18, 19, 20, 21, 22, 23, 24, 25, 26, 27, 28, 29, 30, 31, 32, 33, 34, 35, 36, 37, 38, 39, 40, 41] (by decide +kernel) (by decide +kernel)
set_option maxRecDepth 20000 in
theorem gX5_layForetold_X5_layLooks : GoodIn wsX5_layForetold (wsV RX5 94 RX5 yX5_layLooks wsX5_layLooks) := goodIn_app (goodIn_of _ (by decide +kernel)) ggX5_layForetold_X5_layLooks
set_option maxRecDepth 20000 in
theorem ggX5_layForetold_X5_goWeek : GoodIn wsX5_layForetold wsX5_goWeek := goodIn_r _ [14, 3, 15, 16, 4, 10, 17, 18, 19, 20, 21, 22, 23, 24, 25, 26, 27, 28, 29, 30, 31, 32, 33, 34, 35, 36, 37, 38, 39, 40, 41] (by decide +kernel) (by decide +kernel)
set_option maxRecDepth 20000 in
theorem gX5_layForetold_X5_goWeek : GoodIn wsX5_layForetold (wsV RX5 97 RX5 yX5_goWeek wsX5_goWeek) := goodIn_app (goodIn_of _ (by decide +kernel)) ggX5_layForetold_X5_goWeek
theorem dX5_layForetold_0 : decode cX5_layForetold 0 = .ok (.aload_n 0, 1) := by decide +kernel
theorem dX5_layForetold_1 : decode cX5_layForetold 1 = .ok (.invokevirtual 94, 3) := by decide +kernel
theorem dX5_layForetold_4 : decode cX5_layForetold 4 = .ok (.aload_n 0, 1) := by decide +kernel
theorem dX5_layForetold_5 : decode cX5_layForetold 5 = .ok (.getfield 51, 3) := by decide +kernel
theorem dX5_layForetold_8 : decode cX5_layForetold 8 = .ok (.iconst 0, 1) := by decide +kernel
theorem dX5_layForetold_9 : decode cX5_layForetold 9 = .ok (.sipush 1000, 3) := by decide +kernel
theorem dX5_layForetold_12 : decode cX5_layForetold 12 = .ok (.iastore, 1) := by decide +kernel
theorem dX5_layForetold_13 : decode cX5_layForetold 13 = .ok (.aload_n 0, 1) := by decide +kernel
theorem dX5_layForetold_14 : decode cX5_layForetold 14 = .ok (.getfield 91, 3) := by decide +kernel
theorem dX5_layForetold_17 : decode cX5_layForetold 17 = .ok (.istore_n 3, 1) := by decide +kernel
theorem dX5_layForetold_18 : decode cX5_layForetold 18 = .ok (.iload_n 3, 1) := by decide +kernel
theorem dX5_layForetold_19 : decode cX5_layForetold 19 = .ok (.aload_n 0, 1) := by decide +kernel
theorem dX5_layForetold_20 : decode cX5_layForetold 20 = .ok (.getfield 91, 3) := by decide +kernel
theorem dX5_layForetold_23 : decode cX5_layForetold 23 = .ok (.iload_n 1, 1) := by decide +kernel
theorem dX5_layForetold_24 : decode cX5_layForetold 24 = .ok (.iadd, 1) := by decide +kernel
theorem dX5_layForetold_25 : decode cX5_layForetold 25 = .ok (.if_icmp .ge 79, 3) := by decide +kernel
theorem dX5_layForetold_28 : decode cX5_layForetold 28 = .ok (.aload_n 0, 1) := by decide +kernel
theorem dX5_layForetold_29 : decode cX5_layForetold 29 = .ok (.iload_n 3, 1) := by decide +kernel
theorem dX5_layForetold_30 : decode cX5_layForetold 30 = .ok (.iload_n 2, 1) := by decide +kernel
theorem dX5_layForetold_31 : decode cX5_layForetold 31 = .ok (.invokevirtual 97, 3) := by decide +kernel
theorem dX5_layForetold_34 : decode cX5_layForetold 34 = .ok (.istore 4, 2) := by decide +kernel
theorem dX5_layForetold_36 : decode cX5_layForetold 36 = .ok (.iconst 0, 1) := by decide +kernel
theorem dX5_layForetold_37 : decode cX5_layForetold 37 = .ok (.istore 5, 2) := by decide +kernel
theorem dX5_layForetold_39 : decode cX5_layForetold 39 = .ok (.iload 5, 2) := by decide +kernel
theorem dX5_layForetold_41 : decode cX5_layForetold 41 = .ok (.aload_n 0, 1) := by decide +kernel
theorem dX5_layForetold_42 : decode cX5_layForetold 42 = .ok (.getfield 85, 3) := by decide +kernel
theorem dX5_layForetold_45 : decode cX5_layForetold 45 = .ok (.if_icmp .ge 53, 3) := by decide +kernel
theorem dX5_layForetold_48 : decode cX5_layForetold 48 = .ok (.aload_n 0, 1) := by decide +kernel
theorem dX5_layForetold_49 : decode cX5_layForetold 49 = .ok (.getfield 45, 3) := by decide +kernel
theorem dX5_layForetold_52 : decode cX5_layForetold 52 = .ok (.iload 5, 2) := by decide +kernel
theorem dX5_layForetold_54 : decode cX5_layForetold 54 = .ok (.iaload, 1) := by decide +kernel
theorem dX5_layForetold_55 : decode cX5_layForetold 55 = .ok (.aload_n 0, 1) := by decide +kernel
theorem dX5_layForetold_56 : decode cX5_layForetold 56 = .ok (.getfield 51, 3) := by decide +kernel
theorem dX5_layForetold_59 : decode cX5_layForetold 59 = .ok (.iconst 0, 1) := by decide +kernel
theorem dX5_layForetold_60 : decode cX5_layForetold 60 = .ok (.iaload, 1) := by decide +kernel
theorem dX5_layForetold_61 : decode cX5_layForetold 61 = .ok (.if_icmp .ge 31, 3) := by decide +kernel
theorem dX5_layForetold_64 : decode cX5_layForetold 64 = .ok (.aload_n 0, 1) := by decide +kernel
theorem dX5_layForetold_65 : decode cX5_layForetold 65 = .ok (.getfield 51, 3) := by decide +kernel
theorem dX5_layForetold_68 : decode cX5_layForetold 68 = .ok (.iconst 0, 1) := by decide +kernel
theorem dX5_layForetold_69 : decode cX5_layForetold 69 = .ok (.aload_n 0, 1) := by decide +kernel
theorem dX5_layForetold_70 : decode cX5_layForetold 70 = .ok (.getfield 45, 3) := by decide +kernel
theorem dX5_layForetold_73 : decode cX5_layForetold 73 = .ok (.iload 5, 2) := by decide +kernel
theorem dX5_layForetold_75 : decode cX5_layForetold 75 = .ok (.iaload, 1) := by decide +kernel
theorem dX5_layForetold_76 : decode cX5_layForetold 76 = .ok (.iastore, 1) := by decide +kernel
theorem dX5_layForetold_77 : decode cX5_layForetold 77 = .ok (.aload_n 0, 1) := by decide +kernel
theorem dX5_layForetold_78 : decode cX5_layForetold 78 = .ok (.getfield 51, 3) := by decide +kernel
theorem dX5_layForetold_81 : decode cX5_layForetold 81 = .ok (.iconst 1, 1) := by decide +kernel
theorem dX5_layForetold_82 : decode cX5_layForetold 82 = .ok (.iload_n 3, 1) := by decide +kernel
theorem dX5_layForetold_83 : decode cX5_layForetold 83 = .ok (.iastore, 1) := by decide +kernel
theorem dX5_layForetold_84 : decode cX5_layForetold 84 = .ok (.aload_n 0, 1) := by decide +kernel
theorem dX5_layForetold_85 : decode cX5_layForetold 85 = .ok (.getfield 51, 3) := by decide +kernel
theorem dX5_layForetold_88 : decode cX5_layForetold 88 = .ok (.iconst 2, 1) := by decide +kernel
theorem dX5_layForetold_89 : decode cX5_layForetold 89 = .ok (.iload 5, 2) := by decide +kernel
theorem dX5_layForetold_91 : decode cX5_layForetold 91 = .ok (.iastore, 1) := by decide +kernel
theorem dX5_layForetold_92 : decode cX5_layForetold 92 = .ok (.iinc 5 1, 3) := by decide +kernel
theorem dX5_layForetold_95 : decode cX5_layForetold 95 = .ok (.goto (-56), 3) := by decide +kernel
theorem dX5_layForetold_98 : decode cX5_layForetold 98 = .ok (.iinc 3 1, 3) := by decide +kernel
theorem dX5_layForetold_101 : decode cX5_layForetold 101 = .ok (.goto (-83), 3) := by decide +kernel
theorem dX5_layForetold_104 : decode cX5_layForetold 104 = .ok (.return_, 1) := by decide +kernel
set_option maxRecDepth 20000 in
theorem ggX5_foretell_X5_in : GoodIn wsX5_foretell wsX5_in := goodIn_r _ [8] (by decide +kernel) (by decide +kernel)
set_option maxRecDepth 20000 in
theorem gX5_foretell_X5_in : GoodIn wsX5_foretell (va_wsS RX5 54 yX5_in wsX5_in) := goodIn_app (goodIn_of _ (by decide +kernel)) ggX5_foretell_X5_in
set_option maxRecDepth 20000 in
theorem ggX5_foretell_X5_layForetold : GoodIn wsX5_foretell wsX5_layForetold := goodIn_r _ [12, 4, 1, 2, 13, 14, 15, 16, 7, 17, 18, 19, 20, 21, 22, 23, 24, 25, 26, 27, 28, 29, 30, 31, 32, 33, 34, 35, 36, 37, 38, 39, 40, 41, 42, 43, 44, 45, 46, 47, 48, 49] (by decide +kernel) (by decide +kernel)
set_option maxRecDepth 20000 in
theorem gX5_foretell_X5_layForetold : GoodIn wsX5_foretell (wsV RX5 100 RX5 yX5_layForetold wsX5_layForetold) := goodIn_app (goodIn_of _ (by decide +kernel)) ggX5_foretell_X5_layForetold
theorem dX5_foretell_0 : decode cX5_foretell 0 = .ok (.iload_n 1, 1) := by decide +kernel
theorem dX5_foretell_1 : decode cX5_foretell 1 = .ok (.iconst 1, 1) := by decide +kernel
theorem dX5_foretell_2 : decode cX5_foretell 2 = .ok (.bipush 52, 2) := by decide +kernel
theorem dX5_foretell_4 : decode cX5_foretell 4 = .ok (.invokestatic 54, 3) := by decide +kernel
theorem dX5_foretell_7 : decode cX5_foretell 7 = .ok (.ifCond .eq 12, 3) := by decide +kernel
theorem dX5_foretell_10 : decode cX5_foretell 10 = .ok (.iload_n 2, 1) := by decide +kernel
theorem dX5_foretell_11 : decode cX5_foretell 11 = .ok (.iconst 0, 1) := by decide +kernel
theorem dX5_foretell_12 : decode cX5_foretell 12 = .ok (.iconst 2, 1) := by decide +kernel
theorem dX5_foretell_13 : decode cX5_foretell 13 = .ok (.invokestatic 54, 3) := by decide +kernel
theorem dX5_foretell_16 : decode cX5_foretell 16 = .ok (.ifCond .ne 6, 3) := by decide +kernel
theorem dX5_foretell_19 : decode cX5_foretell 19 = .ok (.bipush (-2), 2) := by decide +kernel
theorem dX5_foretell_21 : decode cX5_foretell 21 = .ok (.ireturn, 1) := by decide +kernel
theorem dX5_foretell_22 : decode cX5_foretell 22 = .ok (.aload_n 0, 1) := by decide +kernel
theorem dX5_foretell_23 : decode cX5_foretell 23 = .ok (.getfield 91, 3) := by decide +kernel
theorem dX5_foretell_26 : decode cX5_foretell 26 = .ok (.iload_n 1, 1) := by decide +kernel
theorem dX5_foretell_27 : decode cX5_foretell 27 = .ok (.iadd, 1) := by decide +kernel
theorem dX5_foretell_28 : decode cX5_foretell 28 = .ok (.sipush 200, 3) := by decide +kernel
theorem dX5_foretell_31 : decode cX5_foretell 31 = .ok (.if_icmp .le 6, 3) := by decide +kernel
theorem dX5_foretell_34 : decode cX5_foretell 34 = .ok (.bipush (-3), 2) := by decide +kernel
theorem dX5_foretell_36 : decode cX5_foretell 36 = .ok (.ireturn, 1) := by decide +kernel
theorem dX5_foretell_37 : decode cX5_foretell 37 = .ok (.aload_n 0, 1) := by decide +kernel
theorem dX5_foretell_38 : decode cX5_foretell 38 = .ok (.getfield 85, 3) := by decide +kernel
theorem dX5_foretell_41 : decode cX5_foretell 41 = .ok (.ifCond .ne 6, 3) := by decide +kernel
theorem dX5_foretell_44 : decode cX5_foretell 44 = .ok (.bipush (-6), 2) := by decide +kernel
theorem dX5_foretell_46 : decode cX5_foretell 46 = .ok (.ireturn, 1) := by decide +kernel
theorem dX5_foretell_47 : decode cX5_foretell 47 = .ok (.aload_n 0, 1) := by decide +kernel
theorem dX5_foretell_48 : decode cX5_foretell 48 = .ok (.iload_n 1, 1) := by decide +kernel
theorem dX5_foretell_49 : decode cX5_foretell 49 = .ok (.aload_n 0, 1) := by decide +kernel
theorem dX5_foretell_50 : decode cX5_foretell 50 = .ok (.getfield 25, 3) := by decide +kernel
theorem dX5_foretell_53 : decode cX5_foretell 53 = .ok (.invokevirtual 100, 3) := by decide +kernel
theorem dX5_foretell_56 : decode cX5_foretell 56 = .ok (.aload_n 0, 1) := by decide +kernel
theorem dX5_foretell_57 : decode cX5_foretell 57 = .ok (.getfield 51, 3) := by decide +kernel
theorem dX5_foretell_60 : decode cX5_foretell 60 = .ok (.iload_n 2, 1) := by decide +kernel
theorem dX5_foretell_61 : decode cX5_foretell 61 = .ok (.iaload, 1) := by decide +kernel
theorem dX5_foretell_62 : decode cX5_foretell 62 = .ok (.ireturn, 1) := by decide +kernel
set_option maxRecDepth 20000 in
theorem ggX5_enough_X5_in : GoodIn wsX5_enough wsX5_in := goodIn_r _ [7] (by decide +kernel) (by decide +kernel)
set_option maxRecDepth 20000 in
theorem gX5_enough_X5_in : GoodIn wsX5_enough (va_wsS RX5 54 yX5_in wsX5_in) := goodIn_app (goodIn_of _ (by decide +kernel)) ggX5_enough_X5_in
set_option maxRecDepth 20000 in
theorem ggX5_enough_X5_layForetold : GoodIn wsX5_enough wsX5_layForetold := goodIn_r _ [11, 3, 1, 2, 12, 13, 14, 15, 6, 16, 17, 18, 19, 20, 21, 22, 23, 24, 25, 26, 27, 28, 29, 30, 31, 32, 33, 34, 35, 36, 37, 38, 39, 40, 41, 42, 43, 44, 45, 46, 47, 48] (by decide +kernel) (by decide +kernel)
set_option maxRecDepth 20000 in
theorem gX5_enough_X5_layForetold : GoodIn wsX5_enough (wsV RX5 100 RX5 yX5_layForetold wsX5_layForetold) := goodIn_app (goodIn_of _ (by decide +kernel)) ggX5_enough_X5_layForetold
theorem dX5_enough_0 : decode cX5_enough 0 = .ok (.iload_n 1, 1) := by decide +kernel
theorem dX5_enough_1 : decode cX5_enough 1 = .ok (.iconst 1, 1) := by decide +kernel
theorem dX5_enough_2 : decode cX5_enough 2 = .ok (.bipush 52, 2) := by decide +kernel
theorem dX5_enough_4 : decode cX5_enough 4 = .ok (.invokestatic 54, 3) := by decide +kernel
theorem dX5_enough_7 : decode cX5_enough 7 = .ok (.ifCond .eq 13, 3) := by decide +kernel
theorem dX5_enough_10 : decode cX5_enough 10 = .ok (.iload_n 2, 1) := by decide +kernel
theorem dX5_enough_11 : decode cX5_enough 11 = .ok (.iconst 0, 1) := by decide +kernel
theorem dX5_enough_12 : decode cX5_enough 12 = .ok (.bipush 100, 2) := by decide +kernel
theorem dX5_enough_14 : decode cX5_enough 14 = .ok (.invokestatic 54, 3) := by decide +kernel
theorem dX5_enough_17 : decode cX5_enough 17 = .ok (.ifCond .ne 6, 3) := by decide +kernel
theorem dX5_enough_20 : decode cX5_enough 20 = .ok (.bipush (-2), 2) := by decide +kernel
theorem dX5_enough_22 : decode cX5_enough 22 = .ok (.ireturn, 1) := by decide +kernel
theorem dX5_enough_23 : decode cX5_enough 23 = .ok (.aload_n 0, 1) := by decide +kernel
theorem dX5_enough_24 : decode cX5_enough 24 = .ok (.getfield 91, 3) := by decide +kernel
theorem dX5_enough_27 : decode cX5_enough 27 = .ok (.iload_n 1, 1) := by decide +kernel
theorem dX5_enough_28 : decode cX5_enough 28 = .ok (.iadd, 1) := by decide +kernel
theorem dX5_enough_29 : decode cX5_enough 29 = .ok (.sipush 200, 3) := by decide +kernel
theorem dX5_enough_32 : decode cX5_enough 32 = .ok (.if_icmp .le 6, 3) := by decide +kernel
theorem dX5_enough_35 : decode cX5_enough 35 = .ok (.bipush (-3), 2) := by decide +kernel
theorem dX5_enough_37 : decode cX5_enough 37 = .ok (.ireturn, 1) := by decide +kernel
theorem dX5_enough_38 : decode cX5_enough 38 = .ok (.aload_n 0, 1) := by decide +kernel
theorem dX5_enough_39 : decode cX5_enough 39 = .ok (.getfield 85, 3) := by decide +kernel
theorem dX5_enough_42 : decode cX5_enough 42 = .ok (.ifCond .ne 6, 3) := by decide +kernel
theorem dX5_enough_45 : decode cX5_enough 45 = .ok (.bipush (-6), 2) := by decide +kernel
theorem dX5_enough_47 : decode cX5_enough 47 = .ok (.ireturn, 1) := by decide +kernel
theorem dX5_enough_48 : decode cX5_enough 48 = .ok (.iconst 0, 1) := by decide +kernel
theorem dX5_enough_49 : decode cX5_enough 49 = .ok (.istore_n 3, 1) := by decide +kernel
theorem dX5_enough_50 : decode cX5_enough 50 = .ok (.iload_n 3, 1) := by decide +kernel
theorem dX5_enough_51 : decode cX5_enough 51 = .ok (.sipush 500, 3) := by decide +kernel
theorem dX5_enough_54 : decode cX5_enough 54 = .ok (.if_icmp .gt 27, 3) := by decide +kernel
theorem dX5_enough_57 : decode cX5_enough 57 = .ok (.aload_n 0, 1) := by decide +kernel
theorem dX5_enough_58 : decode cX5_enough 58 = .ok (.iload_n 1, 1) := by decide +kernel
theorem dX5_enough_59 : decode cX5_enough 59 = .ok (.iload_n 3, 1) := by decide +kernel
theorem dX5_enough_60 : decode cX5_enough 60 = .ok (.invokevirtual 100, 3) := by decide +kernel
theorem dX5_enough_63 : decode cX5_enough 63 = .ok (.aload_n 0, 1) := by decide +kernel
theorem dX5_enough_64 : decode cX5_enough 64 = .ok (.getfield 51, 3) := by decide +kernel
theorem dX5_enough_67 : decode cX5_enough 67 = .ok (.iconst 0, 1) := by decide +kernel
theorem dX5_enough_68 : decode cX5_enough 68 = .ok (.iaload, 1) := by decide +kernel
theorem dX5_enough_69 : decode cX5_enough 69 = .ok (.iload_n 2, 1) := by decide +kernel
theorem dX5_enough_70 : decode cX5_enough 70 = .ok (.if_icmp .lt 5, 3) := by decide +kernel
theorem dX5_enough_73 : decode cX5_enough 73 = .ok (.iload_n 3, 1) := by decide +kernel
theorem dX5_enough_74 : decode cX5_enough 74 = .ok (.ireturn, 1) := by decide +kernel
theorem dX5_enough_75 : decode cX5_enough 75 = .ok (.iinc 3 1, 3) := by decide +kernel
theorem dX5_enough_78 : decode cX5_enough 78 = .ok (.goto (-28), 3) := by decide +kernel
theorem dX5_enough_81 : decode cX5_enough 81 = .ok (.bipush (-6), 2) := by decide +kernel
theorem dX5_enough_83 : decode cX5_enough 83 = .ok (.ireturn, 1) := by decide +kernel
theorem dX5_ring_0 : decode cX5_ring 0 = .ok (.aload_n 0, 1) := by decide +kernel
theorem dX5_ring_1 : decode cX5_ring 1 = .ok (.getfield 104, 3) := by decide +kernel
theorem dX5_ring_4 : decode cX5_ring 4 = .ok (.iconst 3, 1) := by decide +kernel
theorem dX5_ring_5 : decode cX5_ring 5 = .ok (.if_icmp .ne 6, 3) := by decide +kernel
theorem dX5_ring_8 : decode cX5_ring 8 = .ok (.bipush (-4), 2) := by decide +kernel
theorem dX5_ring_10 : decode cX5_ring 10 = .ok (.ireturn, 1) := by decide +kernel
theorem dX5_ring_11 : decode cX5_ring 11 = .ok (.aload_n 0, 1) := by decide +kernel
theorem dX5_ring_12 : decode cX5_ring 12 = .ok (.getfield 33, 3) := by decide +kernel
theorem dX5_ring_15 : decode cX5_ring 15 = .ok (.aload_n 0, 1) := by decide +kernel
theorem dX5_ring_16 : decode cX5_ring 16 = .ok (.getfield 104, 3) := by decide +kernel
theorem dX5_ring_19 : decode cX5_ring 19 = .ok (.iconst 0, 1) := by decide +kernel
theorem dX5_ring_20 : decode cX5_ring 20 = .ok (.iastore, 1) := by decide +kernel
theorem dX5_ring_21 : decode cX5_ring 21 = .ok (.aload_n 0, 1) := by decide +kernel
theorem dX5_ring_22 : decode cX5_ring 22 = .ok (.dup, 1) := by decide +kernel
theorem dX5_ring_23 : decode cX5_ring 23 = .ok (.getfield 104, 3) := by decide +kernel
theorem dX5_ring_26 : decode cX5_ring 26 = .ok (.iconst 1, 1) := by decide +kernel
theorem dX5_ring_27 : decode cX5_ring 27 = .ok (.iadd, 1) := by decide +kernel
theorem dX5_ring_28 : decode cX5_ring 28 = .ok (.putfield 104, 3) := by decide +kernel
theorem dX5_ring_31 : decode cX5_ring 31 = .ok (.aload_n 0, 1) := by decide +kernel
theorem dX5_ring_32 : decode cX5_ring 32 = .ok (.getfield 104, 3) := by decide +kernel
theorem dX5_ring_35 : decode cX5_ring 35 = .ok (.iconst 1, 1) := by decide +kernel
theorem dX5_ring_36 : decode cX5_ring 36 = .ok (.isub, 1) := by decide +kernel
theorem dX5_ring_37 : decode cX5_ring 37 = .ok (.ireturn, 1) := by decide +kernel
set_option maxRecDepth 20000 in
theorem ggX5_isRing_X5_in : GoodIn wsX5_isRing wsX5_in := goodIn_r _ [5] (by decide +kernel) (by decide +kernel)
set_option maxRecDepth 20000 in
theorem gX5_isRing_X5_in : GoodIn wsX5_isRing (va_wsS RX5 54 yX5_in wsX5_in) := goodIn_app (goodIn_of _ (by decide +kernel)) ggX5_isRing_X5_in
theorem dX5_isRing_0 : decode cX5_isRing 0 = .ok (.iload_n 1, 1) := by decide +kernel
theorem dX5_isRing_1 : decode cX5_isRing 1 = .ok (.iconst 0, 1) := by decide +kernel
theorem dX5_isRing_2 : decode cX5_isRing 2 = .ok (.aload_n 0, 1) := by decide +kernel
theorem dX5_isRing_3 : decode cX5_isRing 3 = .ok (.getfield 104, 3) := by decide +kernel
theorem dX5_isRing_6 : decode cX5_isRing 6 = .ok (.iconst 1, 1) := by decide +kernel
theorem dX5_isRing_7 : decode cX5_isRing 7 = .ok (.isub, 1) := by decide +kernel
theorem dX5_isRing_8 : decode cX5_isRing 8 = .ok (.invokestatic 54, 3) := by decide +kernel
theorem dX5_isRing_11 : decode cX5_isRing 11 = .ok (.ireturn, 1) := by decide +kernel
set_option maxRecDepth 20000 in
theorem ggX5_block_X5_isRing : GoodIn wsX5_block wsX5_isRing := goodIn_r _ [9, 10, 11, 12, 8, 13, 14, 15, 16, 17, 18, 19, 20, 21, 22, 23, 24, 25, 26, 27, 28, 29, 30, 31, 32, 33, 34, 35, 36, 37] (by decide +kernel) (by decide +kernel)
set_option maxRecDepth 20000 in
theorem gX5_block_X5_isRing : GoodIn wsX5_block (wsV RX5 107 RX5 yX5_isRing wsX5_isRing) := goodIn_app (goodIn_of _ (by decide +kernel)) ggX5_block_X5_isRing
set_option maxRecDepth 20000 in
theorem ggX5_block_X5_in : GoodIn wsX5_block wsX5_in := goodIn_r _ [13] (by decide +kernel) (by decide +kernel)
set_option maxRecDepth 20000 in
theorem gX5_block_X5_in : GoodIn wsX5_block (va_wsS RX5 54 yX5_in wsX5_in) := goodIn_app (goodIn_of _ (by decide +kernel)) ggX5_block_X5_in
theorem dX5_block_0 : decode cX5_block 0 = .ok (.aload_n 0, 1) := by decide +kernel
theorem dX5_block_1 : decode cX5_block 1 = .ok (.iload_n 1, 1) := by decide +kernel
theorem dX5_block_2 : decode cX5_block 2 = .ok (.invokevirtual 107, 3) := by decide +kernel
theorem dX5_block_5 : decode cX5_block 5 = .ok (.ifCond .ne 5, 3) := by decide +kernel
theorem dX5_block_8 : decode cX5_block 8 = .ok (.iconst (-1), 1) := by decide +kernel
theorem dX5_block_9 : decode cX5_block 9 = .ok (.ireturn, 1) := by decide +kernel
theorem dX5_block_10 : decode cX5_block 10 = .ok (.iload_n 2, 1) := by decide +kernel
theorem dX5_block_11 : decode cX5_block 11 = .ok (.iconst 0, 1) := by decide +kernel
theorem dX5_block_12 : decode cX5_block 12 = .ok (.bipush 29, 2) := by decide +kernel
theorem dX5_block_14 : decode cX5_block 14 = .ok (.invokestatic 54, 3) := by decide +kernel
theorem dX5_block_17 : decode cX5_block 17 = .ok (.ifCond .ne 6, 3) := by decide +kernel
theorem dX5_block_20 : decode cX5_block 20 = .ok (.bipush (-2), 2) := by decide +kernel
theorem dX5_block_22 : decode cX5_block 22 = .ok (.ireturn, 1) := by decide +kernel
theorem dX5_block_23 : decode cX5_block 23 = .ok (.iconst 0, 1) := by decide +kernel
theorem dX5_block_24 : decode cX5_block 24 = .ok (.istore_n 3, 1) := by decide +kernel
theorem dX5_block_25 : decode cX5_block 25 = .ok (.iload_n 3, 1) := by decide +kernel
theorem dX5_block_26 : decode cX5_block 26 = .ok (.aload_n 0, 1) := by decide +kernel
theorem dX5_block_27 : decode cX5_block 27 = .ok (.getfield 110, 3) := by decide +kernel
theorem dX5_block_30 : decode cX5_block 30 = .ok (.if_icmp .ge 25, 3) := by decide +kernel
theorem dX5_block_33 : decode cX5_block 33 = .ok (.aload_n 0, 1) := by decide +kernel
theorem dX5_block_34 : decode cX5_block 34 = .ok (.getfield 39, 3) := by decide +kernel
theorem dX5_block_37 : decode cX5_block 37 = .ok (.bipush 7, 2) := by decide +kernel
theorem dX5_block_39 : decode cX5_block 39 = .ok (.iload_n 3, 1) := by decide +kernel
theorem dX5_block_40 : decode cX5_block 40 = .ok (.imul, 1) := by decide +kernel
theorem dX5_block_41 : decode cX5_block 41 = .ok (.iaload, 1) := by decide +kernel
theorem dX5_block_42 : decode cX5_block 42 = .ok (.iload_n 1, 1) := by decide +kernel
theorem dX5_block_43 : decode cX5_block 43 = .ok (.if_icmp .ne 6, 3) := by decide +kernel
theorem dX5_block_46 : decode cX5_block 46 = .ok (.bipush (-3), 2) := by decide +kernel
theorem dX5_block_48 : decode cX5_block 48 = .ok (.ireturn, 1) := by decide +kernel
theorem dX5_block_49 : decode cX5_block 49 = .ok (.iinc 3 1, 3) := by decide +kernel
theorem dX5_block_52 : decode cX5_block 52 = .ok (.goto (-27), 3) := by decide +kernel
theorem dX5_block_55 : decode cX5_block 55 = .ok (.aload_n 0, 1) := by decide +kernel
theorem dX5_block_56 : decode cX5_block 56 = .ok (.getfield 33, 3) := by decide +kernel
theorem dX5_block_59 : decode cX5_block 59 = .ok (.iload_n 1, 1) := by decide +kernel
theorem dX5_block_60 : decode cX5_block 60 = .ok (.iaload, 1) := by decide +kernel
theorem dX5_block_61 : decode cX5_block 61 = .ok (.bipush 12, 2) := by decide +kernel
theorem dX5_block_63 : decode cX5_block 63 = .ok (.if_icmp .ne 6, 3) := by decide +kernel
theorem dX5_block_66 : decode cX5_block 66 = .ok (.bipush (-4), 2) := by decide +kernel
theorem dX5_block_68 : decode cX5_block 68 = .ok (.ireturn, 1) := by decide +kernel
theorem dX5_block_69 : decode cX5_block 69 = .ok (.iconst 0, 1) := by decide +kernel
theorem dX5_block_70 : decode cX5_block 70 = .ok (.istore_n 3, 1) := by decide +kernel
theorem dX5_block_71 : decode cX5_block 71 = .ok (.iload_n 3, 1) := by decide +kernel
theorem dX5_block_72 : decode cX5_block 72 = .ok (.aload_n 0, 1) := by decide +kernel
theorem dX5_block_73 : decode cX5_block 73 = .ok (.getfield 33, 3) := by decide +kernel
theorem dX5_block_76 : decode cX5_block 76 = .ok (.iload_n 1, 1) := by decide +kernel
theorem dX5_block_77 : decode cX5_block 77 = .ok (.iaload, 1) := by decide +kernel
theorem dX5_block_78 : decode cX5_block 78 = .ok (.if_icmp .ge 27, 3) := by decide +kernel
theorem dX5_block_81 : decode cX5_block 81 = .ok (.aload_n 0, 1) := by decide +kernel
theorem dX5_block_82 : decode cX5_block 82 = .ok (.getfield 36, 3) := by decide +kernel
theorem dX5_block_85 : decode cX5_block 85 = .ok (.bipush 12, 2) := by decide +kernel
theorem dX5_block_87 : decode cX5_block 87 = .ok (.iload_n 1, 1) := by decide +kernel
theorem dX5_block_88 : decode cX5_block 88 = .ok (.imul, 1) := by decide +kernel
theorem dX5_block_89 : decode cX5_block 89 = .ok (.iload_n 3, 1) := by decide +kernel
theorem dX5_block_90 : decode cX5_block 90 = .ok (.iadd, 1) := by decide +kernel
theorem dX5_block_91 : decode cX5_block 91 = .ok (.iaload, 1) := by decide +kernel
theorem dX5_block_92 : decode cX5_block 92 = .ok (.iload_n 2, 1) := by decide +kernel
theorem dX5_block_93 : decode cX5_block 93 = .ok (.if_icmp .ne 6, 3) := by decide +kernel
theorem dX5_block_96 : decode cX5_block 96 = .ok (.bipush (-5), 2) := by decide +kernel
theorem dX5_block_98 : decode cX5_block 98 = .ok (.ireturn, 1) := by decide +kernel
theorem dX5_block_99 : decode cX5_block 99 = .ok (.iinc 3 1, 3) := by decide +kernel
theorem dX5_block_102 : decode cX5_block 102 = .ok (.goto (-31), 3) := by decide +kernel
theorem dX5_block_105 : decode cX5_block 105 = .ok (.aload_n 0, 1) := by decide +kernel
theorem dX5_block_106 : decode cX5_block 106 = .ok (.getfield 36, 3) := by decide +kernel
theorem dX5_block_109 : decode cX5_block 109 = .ok (.bipush 12, 2) := by decide +kernel
theorem dX5_block_111 : decode cX5_block 111 = .ok (.iload_n 1, 1) := by decide +kernel
theorem dX5_block_112 : decode cX5_block 112 = .ok (.imul, 1) := by decide +kernel
theorem dX5_block_113 : decode cX5_block 113 = .ok (.aload_n 0, 1) := by decide +kernel
theorem dX5_block_114 : decode cX5_block 114 = .ok (.getfield 33, 3) := by decide +kernel
theorem dX5_block_117 : decode cX5_block 117 = .ok (.iload_n 1, 1) := by decide +kernel
theorem dX5_block_118 : decode cX5_block 118 = .ok (.iaload, 1) := by decide +kernel
theorem dX5_block_119 : decode cX5_block 119 = .ok (.iadd, 1) := by decide +kernel
theorem dX5_block_120 : decode cX5_block 120 = .ok (.iload_n 2, 1) := by decide +kernel
theorem dX5_block_121 : decode cX5_block 121 = .ok (.iastore, 1) := by decide +kernel
theorem dX5_block_122 : decode cX5_block 122 = .ok (.aload_n 0, 1) := by decide +kernel
theorem dX5_block_123 : decode cX5_block 123 = .ok (.getfield 33, 3) := by decide +kernel
theorem dX5_block_126 : decode cX5_block 126 = .ok (.iload_n 1, 1) := by decide +kernel
theorem dX5_block_127 : decode cX5_block 127 = .ok (.dup2, 1) := by decide +kernel
theorem dX5_block_128 : decode cX5_block 128 = .ok (.iaload, 1) := by decide +kernel
theorem dX5_block_129 : decode cX5_block 129 = .ok (.iconst 1, 1) := by decide +kernel
theorem dX5_block_130 : decode cX5_block 130 = .ok (.iadd, 1) := by decide +kernel
theorem dX5_block_131 : decode cX5_block 131 = .ok (.iastore, 1) := by decide +kernel
theorem dX5_block_132 : decode cX5_block 132 = .ok (.aload_n 0, 1) := by decide +kernel
theorem dX5_block_133 : decode cX5_block 133 = .ok (.getfield 33, 3) := by decide +kernel
theorem dX5_block_136 : decode cX5_block 136 = .ok (.iload_n 1, 1) := by decide +kernel
theorem dX5_block_137 : decode cX5_block 137 = .ok (.iaload, 1) := by decide +kernel
theorem dX5_block_138 : decode cX5_block 138 = .ok (.ireturn, 1) := by decide +kernel
theorem dX5_blockAt_0 : decode cX5_blockAt 0 = .ok (.aload_n 0, 1) := by decide +kernel
theorem dX5_blockAt_1 : decode cX5_blockAt 1 = .ok (.getfield 36, 3) := by decide +kernel
theorem dX5_blockAt_4 : decode cX5_blockAt 4 = .ok (.bipush 12, 2) := by decide +kernel
theorem dX5_blockAt_6 : decode cX5_blockAt 6 = .ok (.iload_n 1, 1) := by decide +kernel
theorem dX5_blockAt_7 : decode cX5_blockAt 7 = .ok (.imul, 1) := by decide +kernel
theorem dX5_blockAt_8 : decode cX5_blockAt 8 = .ok (.iload_n 2, 1) := by decide +kernel
theorem dX5_blockAt_9 : decode cX5_blockAt 9 = .ok (.aload_n 0, 1) := by decide +kernel
theorem dX5_blockAt_10 : decode cX5_blockAt 10 = .ok (.getfield 33, 3) := by decide +kernel
theorem dX5_blockAt_13 : decode cX5_blockAt 13 = .ok (.iload_n 1, 1) := by decide +kernel
theorem dX5_blockAt_14 : decode cX5_blockAt 14 = .ok (.iaload, 1) := by decide +kernel
theorem dX5_blockAt_15 : decode cX5_blockAt 15 = .ok (.irem, 1) := by decide +kernel
theorem dX5_blockAt_16 : decode cX5_blockAt 16 = .ok (.iadd, 1) := by decide +kernel
theorem dX5_blockAt_17 : decode cX5_blockAt 17 = .ok (.iaload, 1) := by decide +kernel
theorem dX5_blockAt_18 : decode cX5_blockAt 18 = .ok (.ireturn, 1) := by decide +kernel
set_option maxRecDepth 20000 in
theorem ggX5_blockOf_X5_blockAt : GoodIn wsX5_blockOf wsX5_blockAt := goodIn_r _ [6, 7, 8, 9, 10, 11, 12, 13, 14, 15, 16, 17, 18, 19, 20, 21, 22, 23, 24, 25, 26, 27, 28, 29, 30, 31, 32] (by decide +kernel) (by decide +kernel)
set_option maxRecDepth 20000 in
theorem gX5_blockOf_X5_blockAt : GoodIn wsX5_blockOf (wsV RX5 113 RX5 yX5_blockAt wsX5_blockAt) := goodIn_app (goodIn_of _ (by decide +kernel)) ggX5_blockOf_X5_blockAt
theorem dX5_blockOf_0 : decode cX5_blockOf 0 = .ok (.aload_n 0, 1) := by decide +kernel
theorem dX5_blockOf_1 : decode cX5_blockOf 1 = .ok (.aload_n 0, 1) := by decide +kernel
theorem dX5_blockOf_2 : decode cX5_blockOf 2 = .ok (.getfield 39, 3) := by decide +kernel
theorem dX5_blockOf_5 : decode cX5_blockOf 5 = .ok (.bipush 7, 2) := by decide +kernel
theorem dX5_blockOf_7 : decode cX5_blockOf 7 = .ok (.iload_n 1, 1) := by decide +kernel
theorem dX5_blockOf_8 : decode cX5_blockOf 8 = .ok (.imul, 1) := by decide +kernel
theorem dX5_blockOf_9 : decode cX5_blockOf 9 = .ok (.iaload, 1) := by decide +kernel
theorem dX5_blockOf_10 : decode cX5_blockOf 10 = .ok (.aload_n 0, 1) := by decide +kernel
theorem dX5_blockOf_11 : decode cX5_blockOf 11 = .ok (.getfield 39, 3) := by decide +kernel
theorem dX5_blockOf_14 : decode cX5_blockOf 14 = .ok (.bipush 7, 2) := by decide +kernel
theorem dX5_blockOf_16 : decode cX5_blockOf 16 = .ok (.iload_n 1, 1) := by decide +kernel
theorem dX5_blockOf_17 : decode cX5_blockOf 17 = .ok (.imul, 1) := by decide +kernel
theorem dX5_blockOf_18 : decode cX5_blockOf 18 = .ok (.iconst 1, 1) := by decide +kernel
theorem dX5_blockOf_19 : decode cX5_blockOf 19 = .ok (.iadd, 1) := by decide +kernel
theorem dX5_blockOf_20 : decode cX5_blockOf 20 = .ok (.iaload, 1) := by decide +kernel
theorem dX5_blockOf_21 : decode cX5_blockOf 21 = .ok (.invokevirtual 113, 3) := by decide +kernel
theorem dX5_blockOf_24 : decode cX5_blockOf 24 = .ok (.ireturn, 1) := by decide +kernel
set_option maxRecDepth 20000 in
theorem ggX5_nextOf_X5_blockAt : GoodIn wsX5_nextOf wsX5_blockAt := goodIn_r _ [6, 7, 8, 9, 10, 11, 12, 13, 14, 15, 16, 17, 18, 19, 20, 21, 22, 23, 24, 25, 26, 27, 28, 29, 30, 31, 32] (by decide +kernel) (by decide +kernel)
set_option maxRecDepth 20000 in
theorem gX5_nextOf_X5_blockAt : GoodIn wsX5_nextOf (wsV RX5 113 RX5 yX5_blockAt wsX5_blockAt) := goodIn_app (goodIn_of _ (by decide +kernel)) ggX5_nextOf_X5_blockAt
theorem dX5_nextOf_0 : decode cX5_nextOf 0 = .ok (.aload_n 0, 1) := by decide +kernel
theorem dX5_nextOf_1 : decode cX5_nextOf 1 = .ok (.aload_n 0, 1) := by decide +kernel
theorem dX5_nextOf_2 : decode cX5_nextOf 2 = .ok (.getfield 39, 3) := by decide +kernel
theorem dX5_nextOf_5 : decode cX5_nextOf 5 = .ok (.bipush 7, 2) := by decide +kernel
theorem dX5_nextOf_7 : decode cX5_nextOf 7 = .ok (.iload_n 1, 1) := by decide +kernel
theorem dX5_nextOf_8 : decode cX5_nextOf 8 = .ok (.imul, 1) := by decide +kernel
theorem dX5_nextOf_9 : decode cX5_nextOf 9 = .ok (.iaload, 1) := by decide +kernel
theorem dX5_nextOf_10 : decode cX5_nextOf 10 = .ok (.aload_n 0, 1) := by decide +kernel
theorem dX5_nextOf_11 : decode cX5_nextOf 11 = .ok (.getfield 39, 3) := by decide +kernel
theorem dX5_nextOf_14 : decode cX5_nextOf 14 = .ok (.bipush 7, 2) := by decide +kernel
theorem dX5_nextOf_16 : decode cX5_nextOf 16 = .ok (.iload_n 1, 1) := by decide +kernel
theorem dX5_nextOf_17 : decode cX5_nextOf 17 = .ok (.imul, 1) := by decide +kernel
theorem dX5_nextOf_18 : decode cX5_nextOf 18 = .ok (.iconst 1, 1) := by decide +kernel
theorem dX5_nextOf_19 : decode cX5_nextOf 19 = .ok (.iadd, 1) := by decide +kernel
theorem dX5_nextOf_20 : decode cX5_nextOf 20 = .ok (.iaload, 1) := by decide +kernel
theorem dX5_nextOf_21 : decode cX5_nextOf 21 = .ok (.iconst 1, 1) := by decide +kernel
theorem dX5_nextOf_22 : decode cX5_nextOf 22 = .ok (.iadd, 1) := by decide +kernel
theorem dX5_nextOf_23 : decode cX5_nextOf 23 = .ok (.invokevirtual 113, 3) := by decide +kernel
theorem dX5_nextOf_26 : decode cX5_nextOf 26 = .ok (.ireturn, 1) := by decide +kernel
set_option maxRecDepth 20000 in
theorem ggX5_trainIn_X5_blockOf : GoodIn wsX5_trainIn wsX5_blockOf := goodIn_r _ [6, 7, 8, 9, 10, 5, 11, 12, 13, 14, 15, 16, 17, 18, 19, 20, 21, 22, 23, 24, 25, 26, 27, 28, 29, 30, 31, 32, 33, 34, 35, 36, 37] (by decide +kernel) (by decide +kernel)
set_option maxRecDepth 20000 in
theorem gX5_trainIn_X5_blockOf : GoodIn wsX5_trainIn (wsV RX5 116 RX5 yX5_blockOf wsX5_blockOf) := goodIn_app (goodIn_of _ (by decide +kernel)) ggX5_trainIn_X5_blockOf
theorem dX5_trainIn_0 : decode cX5_trainIn 0 = .ok (.iconst 0, 1) := by decide +kernel
theorem dX5_trainIn_1 : decode cX5_trainIn 1 = .ok (.istore_n 2, 1) := by decide +kernel
theorem dX5_trainIn_2 : decode cX5_trainIn 2 = .ok (.iload_n 2, 1) := by decide +kernel
theorem dX5_trainIn_3 : decode cX5_trainIn 3 = .ok (.aload_n 0, 1) := by decide +kernel
theorem dX5_trainIn_4 : decode cX5_trainIn 4 = .ok (.getfield 110, 3) := by decide +kernel
theorem dX5_trainIn_7 : decode cX5_trainIn 7 = .ok (.if_icmp .ge 20, 3) := by decide +kernel
theorem dX5_trainIn_10 : decode cX5_trainIn 10 = .ok (.aload_n 0, 1) := by decide +kernel
theorem dX5_trainIn_11 : decode cX5_trainIn 11 = .ok (.iload_n 2, 1) := by decide +kernel
theorem dX5_trainIn_12 : decode cX5_trainIn 12 = .ok (.invokevirtual 116, 3) := by decide +kernel
theorem dX5_trainIn_15 : decode cX5_trainIn 15 = .ok (.iload_n 1, 1) := by decide +kernel
theorem dX5_trainIn_16 : decode cX5_trainIn 16 = .ok (.if_icmp .ne 5, 3) := by decide +kernel
theorem dX5_trainIn_19 : decode cX5_trainIn 19 = .ok (.iload_n 2, 1) := by decide +kernel
theorem dX5_trainIn_20 : decode cX5_trainIn 20 = .ok (.ireturn, 1) := by decide +kernel
theorem dX5_trainIn_21 : decode cX5_trainIn 21 = .ok (.iinc 2 1, 3) := by decide +kernel
theorem dX5_trainIn_24 : decode cX5_trainIn 24 = .ok (.goto (-22), 3) := by decide +kernel
theorem dX5_trainIn_27 : decode cX5_trainIn 27 = .ok (.bipush (-6), 2) := by decide +kernel
theorem dX5_trainIn_29 : decode cX5_trainIn 29 = .ok (.ireturn, 1) := by decide +kernel
set_option maxRecDepth 20000 in
theorem ggX5_train_X5_isRing : GoodIn wsX5_train wsX5_isRing := goodIn_r _ [8, 9, 10, 11, 7, 12, 26, 27, 28, 29, 30, 31, 32, 33, 34, 35, 36, 37, 38, 39, 40, 41, 42, 43, 44, 45, 46, 47, 48, 49] (by decide +kernel) (by decide +kernel)
set_option maxRecDepth 20000 in
theorem gX5_train_X5_isRing : GoodIn wsX5_train (wsV RX5 107 RX5 yX5_isRing wsX5_isRing) := goodIn_app (goodIn_of _ (by decide +kernel)) ggX5_train_X5_isRing
set_option maxRecDepth 20000 in
theorem ggX5_train_X5_in : GoodIn wsX5_train wsX5_in := goodIn_r _ [12] (by decide +kernel) (by decide +kernel)
set_option maxRecDepth 20000 in
theorem gX5_train_X5_in : GoodIn wsX5_train (va_wsS RX5 54 yX5_in wsX5_in) := goodIn_app (goodIn_of _ (by decide +kernel)) ggX5_train_X5_in
set_option maxRecDepth 20000 in
theorem ggX5_train_X5_blockAt : GoodIn wsX5_train wsX5_blockAt := goodIn_r _ [16, 17, 1, 26, 27, 28, 29, 30, 31, 32, 33, 34, 35, 36, 37, 38, 39, 40, 41, 42, 43, 44, 45, 46, 47, 48, 49] (by decide +kernel) (by decide +kernel)
set_option maxRecDepth 20000 in
theorem gX5_train_X5_blockAt : GoodIn wsX5_train (wsV RX5 113 RX5 yX5_blockAt wsX5_blockAt) := goodIn_app (goodIn_of _ (by decide +kernel)) ggX5_train_X5_blockAt
set_option maxRecDepth 20000 in
theorem ggX5_train_X5_trainIn : GoodIn wsX5_train wsX5_trainIn := goodIn_r _ [21, 2, 22, 23, 24, 7, 25, 3, 13, 14, 15, 16, 17, 1, 26, 27, 28, 29, 30, 31, 32, 33, 34, 35, 36, 37, 38, 39, 40, 41, 42, 43, 44, 45, 46, 47, 48, 49] (by decide +kernel) (by decide +kernel)
set_option maxRecDepth 20000 in
theorem gX5_train_X5_trainIn : GoodIn wsX5_train (wsV RX5 120 RX5 yX5_trainIn wsX5_trainIn) := goodIn_app (goodIn_of _ (by decide +kernel)) ggX5_train_X5_trainIn
theorem dX5_train_0 : decode cX5_train 0 = .ok (.aload_n 0, 1) := by decide +kernel
theorem dX5_train_1 : decode cX5_train 1 = .ok (.iload_n 1, 1) := by decide +kernel
theorem dX5_train_2 : decode cX5_train 2 = .ok (.invokevirtual 107, 3) := by decide +kernel
theorem dX5_train_5 : decode cX5_train 5 = .ok (.ifCond .ne 5, 3) := by decide +kernel
theorem dX5_train_8 : decode cX5_train 8 = .ok (.iconst (-1), 1) := by decide +kernel
theorem dX5_train_9 : decode cX5_train 9 = .ok (.ireturn, 1) := by decide +kernel
theorem dX5_train_10 : decode cX5_train 10 = .ok (.iload_n 2, 1) := by decide +kernel
theorem dX5_train_11 : decode cX5_train 11 = .ok (.iconst 0, 1) := by decide +kernel
theorem dX5_train_12 : decode cX5_train 12 = .ok (.bipush 11, 2) := by decide +kernel
theorem dX5_train_14 : decode cX5_train 14 = .ok (.invokestatic 54, 3) := by decide +kernel
theorem dX5_train_17 : decode cX5_train 17 = .ok (.ifCond .eq 33, 3) := by decide +kernel
theorem dX5_train_20 : decode cX5_train 20 = .ok (.aload_n 0, 1) := by decide +kernel
theorem dX5_train_21 : decode cX5_train 21 = .ok (.getfield 33, 3) := by decide +kernel
theorem dX5_train_24 : decode cX5_train 24 = .ok (.iload_n 1, 1) := by decide +kernel
theorem dX5_train_25 : decode cX5_train 25 = .ok (.iaload, 1) := by decide +kernel
theorem dX5_train_26 : decode cX5_train 26 = .ok (.iconst 1, 1) := by decide +kernel
theorem dX5_train_27 : decode cX5_train 27 = .ok (.if_icmp .le 13, 3) := by decide +kernel
theorem dX5_train_30 : decode cX5_train 30 = .ok (.iload_n 2, 1) := by decide +kernel
theorem dX5_train_31 : decode cX5_train 31 = .ok (.aload_n 0, 1) := by decide +kernel
theorem dX5_train_32 : decode cX5_train 32 = .ok (.getfield 33, 3) := by decide +kernel
theorem dX5_train_35 : decode cX5_train 35 = .ok (.iload_n 1, 1) := by decide +kernel
theorem dX5_train_36 : decode cX5_train 36 = .ok (.iaload, 1) := by decide +kernel
theorem dX5_train_37 : decode cX5_train 37 = .ok (.if_icmp .ge 13, 3) := by decide +kernel
theorem dX5_train_40 : decode cX5_train 40 = .ok (.iload_n 3, 1) := by decide +kernel
theorem dX5_train_41 : decode cX5_train 41 = .ok (.iconst 1, 1) := by decide +kernel
theorem dX5_train_42 : decode cX5_train 42 = .ok (.bipush 9, 2) := by decide +kernel
theorem dX5_train_44 : decode cX5_train 44 = .ok (.invokestatic 54, 3) := by decide +kernel
theorem dX5_train_47 : decode cX5_train 47 = .ok (.ifCond .ne 6, 3) := by decide +kernel
theorem dX5_train_50 : decode cX5_train 50 = .ok (.bipush (-2), 2) := by decide +kernel
theorem dX5_train_52 : decode cX5_train 52 = .ok (.ireturn, 1) := by decide +kernel
theorem dX5_train_53 : decode cX5_train 53 = .ok (.aload_n 0, 1) := by decide +kernel
theorem dX5_train_54 : decode cX5_train 54 = .ok (.getfield 33, 3) := by decide +kernel
theorem dX5_train_57 : decode cX5_train 57 = .ok (.iload_n 1, 1) := by decide +kernel
theorem dX5_train_58 : decode cX5_train 58 = .ok (.iaload, 1) := by decide +kernel
theorem dX5_train_59 : decode cX5_train 59 = .ok (.iconst 2, 1) := by decide +kernel
theorem dX5_train_60 : decode cX5_train 60 = .ok (.if_icmp .ge 6, 3) := by decide +kernel
theorem dX5_train_63 : decode cX5_train 63 = .ok (.bipush (-3), 2) := by decide +kernel
theorem dX5_train_65 : decode cX5_train 65 = .ok (.ireturn, 1) := by decide +kernel
theorem dX5_train_66 : decode cX5_train 66 = .ok (.aload_n 0, 1) := by decide +kernel
theorem dX5_train_67 : decode cX5_train 67 = .ok (.getfield 110, 3) := by decide +kernel
theorem dX5_train_70 : decode cX5_train 70 = .ok (.iconst 4, 1) := by decide +kernel
theorem dX5_train_71 : decode cX5_train 71 = .ok (.if_icmp .ne 6, 3) := by decide +kernel
theorem dX5_train_74 : decode cX5_train 74 = .ok (.bipush (-4), 2) := by decide +kernel
theorem dX5_train_76 : decode cX5_train 76 = .ok (.ireturn, 1) := by decide +kernel
theorem dX5_train_77 : decode cX5_train 77 = .ok (.aload_n 0, 1) := by decide +kernel
theorem dX5_train_78 : decode cX5_train 78 = .ok (.aload_n 0, 1) := by decide +kernel
theorem dX5_train_79 : decode cX5_train 79 = .ok (.iload_n 1, 1) := by decide +kernel
theorem dX5_train_80 : decode cX5_train 80 = .ok (.iload_n 2, 1) := by decide +kernel
theorem dX5_train_81 : decode cX5_train 81 = .ok (.invokevirtual 113, 3) := by decide +kernel
theorem dX5_train_84 : decode cX5_train 84 = .ok (.invokevirtual 120, 3) := by decide +kernel
theorem dX5_train_87 : decode cX5_train 87 = .ok (.ifCond .lt 6, 3) := by decide +kernel
theorem dX5_train_90 : decode cX5_train 90 = .ok (.bipush (-5), 2) := by decide +kernel
theorem dX5_train_92 : decode cX5_train 92 = .ok (.ireturn, 1) := by decide +kernel
theorem dX5_train_93 : decode cX5_train 93 = .ok (.bipush 7, 2) := by decide +kernel
theorem dX5_train_95 : decode cX5_train 95 = .ok (.aload_n 0, 1) := by decide +kernel
theorem dX5_train_96 : decode cX5_train 96 = .ok (.getfield 110, 3) := by decide +kernel
theorem dX5_train_99 : decode cX5_train 99 = .ok (.imul, 1) := by decide +kernel
theorem dX5_train_100 : decode cX5_train 100 = .ok (.istore 4, 2) := by decide +kernel
theorem dX5_train_102 : decode cX5_train 102 = .ok (.aload_n 0, 1) := by decide +kernel
theorem dX5_train_103 : decode cX5_train 103 = .ok (.getfield 39, 3) := by decide +kernel
theorem dX5_train_106 : decode cX5_train 106 = .ok (.iload 4, 2) := by decide +kernel
theorem dX5_train_108 : decode cX5_train 108 = .ok (.iload_n 1, 1) := by decide +kernel
theorem dX5_train_109 : decode cX5_train 109 = .ok (.iastore, 1) := by decide +kernel
theorem dX5_train_110 : decode cX5_train 110 = .ok (.aload_n 0, 1) := by decide +kernel
theorem dX5_train_111 : decode cX5_train 111 = .ok (.getfield 39, 3) := by decide +kernel
theorem dX5_train_114 : decode cX5_train 114 = .ok (.iload 4, 2) := by decide +kernel
theorem dX5_train_116 : decode cX5_train 116 = .ok (.iconst 1, 1) := by decide +kernel
theorem dX5_train_117 : decode cX5_train 117 = .ok (.iadd, 1) := by decide +kernel
theorem dX5_train_118 : decode cX5_train 118 = .ok (.iload_n 2, 1) := by decide +kernel
theorem dX5_train_119 : decode cX5_train 119 = .ok (.iastore, 1) := by decide +kernel
theorem dX5_train_120 : decode cX5_train 120 = .ok (.aload_n 0, 1) := by decide +kernel
theorem dX5_train_121 : decode cX5_train 121 = .ok (.getfield 39, 3) := by decide +kernel
theorem dX5_train_124 : decode cX5_train 124 = .ok (.iload 4, 2) := by decide +kernel
theorem dX5_train_126 : decode cX5_train 126 = .ok (.iconst 2, 1) := by decide +kernel
theorem dX5_train_127 : decode cX5_train 127 = .ok (.iadd, 1) := by decide +kernel
theorem dX5_train_128 : decode cX5_train 128 = .ok (.iload_n 3, 1) := by decide +kernel
theorem dX5_train_129 : decode cX5_train 129 = .ok (.iastore, 1) := by decide +kernel
theorem dX5_train_130 : decode cX5_train 130 = .ok (.iconst 3, 1) := by decide +kernel
theorem dX5_train_131 : decode cX5_train 131 = .ok (.istore 5, 2) := by decide +kernel
theorem dX5_train_133 : decode cX5_train 133 = .ok (.iload 5, 2) := by decide +kernel
theorem dX5_train_135 : decode cX5_train 135 = .ok (.bipush 7, 2) := by decide +kernel
theorem dX5_train_137 : decode cX5_train 137 = .ok (.if_icmp .ge 20, 3) := by decide +kernel
theorem dX5_train_140 : decode cX5_train 140 = .ok (.aload_n 0, 1) := by decide +kernel
theorem dX5_train_141 : decode cX5_train 141 = .ok (.getfield 39, 3) := by decide +kernel
theorem dX5_train_144 : decode cX5_train 144 = .ok (.iload 4, 2) := by decide +kernel
theorem dX5_train_146 : decode cX5_train 146 = .ok (.iload 5, 2) := by decide +kernel
theorem dX5_train_148 : decode cX5_train 148 = .ok (.iadd, 1) := by decide +kernel
theorem dX5_train_149 : decode cX5_train 149 = .ok (.iconst 0, 1) := by decide +kernel
theorem dX5_train_150 : decode cX5_train 150 = .ok (.iastore, 1) := by decide +kernel
theorem dX5_train_151 : decode cX5_train 151 = .ok (.iinc 5 1, 3) := by decide +kernel
theorem dX5_train_154 : decode cX5_train 154 = .ok (.goto (-21), 3) := by decide +kernel
theorem dX5_train_157 : decode cX5_train 157 = .ok (.aload_n 0, 1) := by decide +kernel
theorem dX5_train_158 : decode cX5_train 158 = .ok (.dup, 1) := by decide +kernel
theorem dX5_train_159 : decode cX5_train 159 = .ok (.getfield 110, 3) := by decide +kernel
theorem dX5_train_162 : decode cX5_train 162 = .ok (.iconst 1, 1) := by decide +kernel
theorem dX5_train_163 : decode cX5_train 163 = .ok (.iadd, 1) := by decide +kernel
theorem dX5_train_164 : decode cX5_train 164 = .ok (.putfield 110, 3) := by decide +kernel
theorem dX5_train_167 : decode cX5_train 167 = .ok (.aload_n 0, 1) := by decide +kernel
theorem dX5_train_168 : decode cX5_train 168 = .ok (.getfield 110, 3) := by decide +kernel
theorem dX5_train_171 : decode cX5_train 171 = .ok (.iconst 1, 1) := by decide +kernel
theorem dX5_train_172 : decode cX5_train 172 = .ok (.isub, 1) := by decide +kernel
theorem dX5_train_173 : decode cX5_train 173 = .ok (.ireturn, 1) := by decide +kernel
set_option maxRecDepth 20000 in
theorem ggX5_isTrain_X5_in : GoodIn wsX5_isTrain wsX5_in := goodIn_r _ [5] (by decide +kernel) (by decide +kernel)
set_option maxRecDepth 20000 in
theorem gX5_isTrain_X5_in : GoodIn wsX5_isTrain (va_wsS RX5 54 yX5_in wsX5_in) := goodIn_app (goodIn_of _ (by decide +kernel)) ggX5_isTrain_X5_in
theorem dX5_isTrain_0 : decode cX5_isTrain 0 = .ok (.iload_n 1, 1) := by decide +kernel
theorem dX5_isTrain_1 : decode cX5_isTrain 1 = .ok (.iconst 0, 1) := by decide +kernel
theorem dX5_isTrain_2 : decode cX5_isTrain 2 = .ok (.aload_n 0, 1) := by decide +kernel
theorem dX5_isTrain_3 : decode cX5_isTrain 3 = .ok (.getfield 110, 3) := by decide +kernel
theorem dX5_isTrain_6 : decode cX5_isTrain 6 = .ok (.iconst 1, 1) := by decide +kernel
theorem dX5_isTrain_7 : decode cX5_isTrain 7 = .ok (.isub, 1) := by decide +kernel
theorem dX5_isTrain_8 : decode cX5_isTrain 8 = .ok (.invokestatic 54, 3) := by decide +kernel
theorem dX5_isTrain_11 : decode cX5_isTrain 11 = .ok (.ireturn, 1) := by decide +kernel
set_option maxRecDepth 20000 in
theorem ggX5_stick_X5_isTrain : GoodIn wsX5_stick wsX5_isTrain := goodIn_r _ [6, 7, 8, 9, 5, 10, 11, 12, 13, 14, 15, 16, 17, 18, 19, 20, 21, 22, 23, 24, 25, 26, 27, 28, 29, 30, 31, 32, 33, 34] (by decide +kernel) (by decide +kernel)
set_option maxRecDepth 20000 in
theorem gX5_stick_X5_isTrain : GoodIn wsX5_stick (wsV RX5 123 RX5 yX5_isTrain wsX5_isTrain) := goodIn_app (goodIn_of _ (by decide +kernel)) ggX5_stick_X5_isTrain
theorem dX5_stick_0 : decode cX5_stick 0 = .ok (.aload_n 0, 1) := by decide +kernel
theorem dX5_stick_1 : decode cX5_stick 1 = .ok (.iload_n 1, 1) := by decide +kernel
theorem dX5_stick_2 : decode cX5_stick 2 = .ok (.invokevirtual 123, 3) := by decide +kernel
theorem dX5_stick_5 : decode cX5_stick 5 = .ok (.ifCond .ne 5, 3) := by decide +kernel
theorem dX5_stick_8 : decode cX5_stick 8 = .ok (.iconst (-1), 1) := by decide +kernel
theorem dX5_stick_9 : decode cX5_stick 9 = .ok (.ireturn, 1) := by decide +kernel
theorem dX5_stick_10 : decode cX5_stick 10 = .ok (.aload_n 0, 1) := by decide +kernel
theorem dX5_stick_11 : decode cX5_stick 11 = .ok (.getfield 39, 3) := by decide +kernel
theorem dX5_stick_14 : decode cX5_stick 14 = .ok (.bipush 7, 2) := by decide +kernel
theorem dX5_stick_16 : decode cX5_stick 16 = .ok (.iload_n 1, 1) := by decide +kernel
theorem dX5_stick_17 : decode cX5_stick 17 = .ok (.imul, 1) := by decide +kernel
theorem dX5_stick_18 : decode cX5_stick 18 = .ok (.iconst 4, 1) := by decide +kernel
theorem dX5_stick_19 : decode cX5_stick 19 = .ok (.iadd, 1) := by decide +kernel
theorem dX5_stick_20 : decode cX5_stick 20 = .ok (.iaload, 1) := by decide +kernel
theorem dX5_stick_21 : decode cX5_stick 21 = .ok (.istore_n 3, 1) := by decide +kernel
theorem dX5_stick_22 : decode cX5_stick 22 = .ok (.aload_n 0, 1) := by decide +kernel
theorem dX5_stick_23 : decode cX5_stick 23 = .ok (.getfield 39, 3) := by decide +kernel
theorem dX5_stick_26 : decode cX5_stick 26 = .ok (.bipush 7, 2) := by decide +kernel
theorem dX5_stick_28 : decode cX5_stick 28 = .ok (.iload_n 1, 1) := by decide +kernel
theorem dX5_stick_29 : decode cX5_stick 29 = .ok (.imul, 1) := by decide +kernel
theorem dX5_stick_30 : decode cX5_stick 30 = .ok (.iconst 4, 1) := by decide +kernel
theorem dX5_stick_31 : decode cX5_stick 31 = .ok (.iadd, 1) := by decide +kernel
theorem dX5_stick_32 : decode cX5_stick 32 = .ok (.iload_n 2, 1) := by decide +kernel
theorem dX5_stick_33 : decode cX5_stick 33 = .ok (.ifCond .eq 7, 3) := by decide +kernel
theorem dX5_stick_36 : decode cX5_stick 36 = .ok (.iconst 1, 1) := by decide +kernel
theorem dX5_stick_37 : decode cX5_stick 37 = .ok (.goto 4, 3) := by decide +kernel
theorem dX5_stick_40 : decode cX5_stick 40 = .ok (.iconst 0, 1) := by decide +kernel
theorem dX5_stick_41 : decode cX5_stick 41 = .ok (.iastore, 1) := by decide +kernel
theorem dX5_stick_42 : decode cX5_stick 42 = .ok (.iload_n 3, 1) := by decide +kernel
theorem dX5_stick_43 : decode cX5_stick 43 = .ok (.ireturn, 1) := by decide +kernel
set_option maxRecDepth 20000 in
theorem ggX5_run_X5_in : GoodIn wsX5_run wsX5_in := goodIn_r _ [8] (by decide +kernel) (by decide +kernel)
set_option maxRecDepth 20000 in
theorem gX5_run_X5_in : GoodIn wsX5_run (va_wsS RX5 54 yX5_in wsX5_in) := goodIn_app (goodIn_of _ (by decide +kernel)) ggX5_run_X5_in
set_option maxRecDepth 20000 in
theorem ggX5_run_X5_nextOf : GoodIn wsX5_run wsX5_nextOf := goodIn_r _ [12, 2, 13, 14, 15, 7, 16, 17, 3, 26, 27, 28, 29, 30, 31, 32, 33, 34, 35, 36, 37, 38, 39, 40, 41, 42, 43, 44, 45, 46, 47, 48, 49] (by decide +kernel) (by decide +kernel)
set_option maxRecDepth 20000 in
theorem gX5_run_X5_nextOf : GoodIn wsX5_run (wsV RX5 126 RX5 yX5_nextOf wsX5_nextOf) := goodIn_app (goodIn_of _ (by decide +kernel)) ggX5_run_X5_nextOf
set_option maxRecDepth 20000 in
theorem ggX5_run_X5_trainIn : GoodIn wsX5_run wsX5_trainIn := goodIn_r _ [21, 1, 22, 23, 24, 7, 25, 2, 13, 14, 15, 16, 17, 3, 26, 27, 28, 29, 30, 31, 32, 33, 34, 35, 36, 37, 38, 39, 40, 41, 42, 43, 44, 45, 46, 47, 48, 49] (by decide +kernel) (by decide +kernel)
set_option maxRecDepth 20000 in
theorem gX5_run_X5_trainIn : GoodIn wsX5_run (wsV RX5 120 RX5 yX5_trainIn wsX5_trainIn) := goodIn_app (goodIn_of _ (by decide +kernel)) ggX5_run_X5_trainIn
theorem dX5_run_0 : decode cX5_run 0 = .ok (.iload_n 1, 1) := by decide +kernel
theorem dX5_run_1 : decode cX5_run 1 = .ok (.iconst 1, 1) := by decide +kernel
theorem dX5_run_2 : decode cX5_run 2 = .ok (.sipush 500, 3) := by decide +kernel
theorem dX5_run_5 : decode cX5_run 5 = .ok (.invokestatic 54, 3) := by decide +kernel
theorem dX5_run_8 : decode cX5_run 8 = .ok (.ifCond .ne 6, 3) := by decide +kernel
theorem dX5_run_11 : decode cX5_run 11 = .ok (.bipush (-2), 2) := by decide +kernel
theorem dX5_run_13 : decode cX5_run 13 = .ok (.ireturn, 1) := by decide +kernel
theorem dX5_run_14 : decode cX5_run 14 = .ok (.iconst 0, 1) := by decide +kernel
theorem dX5_run_15 : decode cX5_run 15 = .ok (.istore_n 2, 1) := by decide +kernel
theorem dX5_run_16 : decode cX5_run 16 = .ok (.iconst 0, 1) := by decide +kernel
theorem dX5_run_17 : decode cX5_run 17 = .ok (.istore_n 3, 1) := by decide +kernel
theorem dX5_run_18 : decode cX5_run 18 = .ok (.iload_n 3, 1) := by decide +kernel
theorem dX5_run_19 : decode cX5_run 19 = .ok (.iload_n 1, 1) := by decide +kernel
theorem dX5_run_20 : decode cX5_run 20 = .ok (.if_icmp .ge 179, 3) := by decide +kernel
theorem dX5_run_23 : decode cX5_run 23 = .ok (.iconst 0, 1) := by decide +kernel
theorem dX5_run_24 : decode cX5_run 24 = .ok (.istore 4, 2) := by decide +kernel
theorem dX5_run_26 : decode cX5_run 26 = .ok (.iload 4, 2) := by decide +kernel
theorem dX5_run_28 : decode cX5_run 28 = .ok (.aload_n 0, 1) := by decide +kernel
theorem dX5_run_29 : decode cX5_run 29 = .ok (.getfield 110, 3) := by decide +kernel
theorem dX5_run_32 : decode cX5_run 32 = .ok (.if_icmp .ge 151, 3) := by decide +kernel
theorem dX5_run_35 : decode cX5_run 35 = .ok (.bipush 7, 2) := by decide +kernel
theorem dX5_run_37 : decode cX5_run 37 = .ok (.iload 4, 2) := by decide +kernel
theorem dX5_run_39 : decode cX5_run 39 = .ok (.imul, 1) := by decide +kernel
theorem dX5_run_40 : decode cX5_run 40 = .ok (.istore 5, 2) := by decide +kernel
theorem dX5_run_42 : decode cX5_run 42 = .ok (.aload_n 0, 1) := by decide +kernel
theorem dX5_run_43 : decode cX5_run 43 = .ok (.getfield 39, 3) := by decide +kernel
theorem dX5_run_46 : decode cX5_run 46 = .ok (.iload 5, 2) := by decide +kernel
theorem dX5_run_48 : decode cX5_run 48 = .ok (.iconst 4, 1) := by decide +kernel
theorem dX5_run_49 : decode cX5_run 49 = .ok (.iadd, 1) := by decide +kernel
theorem dX5_run_50 : decode cX5_run 50 = .ok (.iaload, 1) := by decide +kernel
theorem dX5_run_51 : decode cX5_run 51 = .ok (.ifCond .ne 126, 3) := by decide +kernel
theorem dX5_run_54 : decode cX5_run 54 = .ok (.aload_n 0, 1) := by decide +kernel
theorem dX5_run_55 : decode cX5_run 55 = .ok (.getfield 39, 3) := by decide +kernel
theorem dX5_run_58 : decode cX5_run 58 = .ok (.iload 5, 2) := by decide +kernel
theorem dX5_run_60 : decode cX5_run 60 = .ok (.iconst 3, 1) := by decide +kernel
theorem dX5_run_61 : decode cX5_run 61 = .ok (.iadd, 1) := by decide +kernel
theorem dX5_run_62 : decode cX5_run 62 = .ok (.dup2, 1) := by decide +kernel
theorem dX5_run_63 : decode cX5_run 63 = .ok (.iaload, 1) := by decide +kernel
theorem dX5_run_64 : decode cX5_run 64 = .ok (.iconst 1, 1) := by decide +kernel
theorem dX5_run_65 : decode cX5_run 65 = .ok (.iadd, 1) := by decide +kernel
theorem dX5_run_66 : decode cX5_run 66 = .ok (.iastore, 1) := by decide +kernel
theorem dX5_run_67 : decode cX5_run 67 = .ok (.aload_n 0, 1) := by decide +kernel
theorem dX5_run_68 : decode cX5_run 68 = .ok (.getfield 39, 3) := by decide +kernel
theorem dX5_run_71 : decode cX5_run 71 = .ok (.iload 5, 2) := by decide +kernel
theorem dX5_run_73 : decode cX5_run 73 = .ok (.iconst 3, 1) := by decide +kernel
theorem dX5_run_74 : decode cX5_run 74 = .ok (.iadd, 1) := by decide +kernel
theorem dX5_run_75 : decode cX5_run 75 = .ok (.iaload, 1) := by decide +kernel
theorem dX5_run_76 : decode cX5_run 76 = .ok (.aload_n 0, 1) := by decide +kernel
theorem dX5_run_77 : decode cX5_run 77 = .ok (.getfield 39, 3) := by decide +kernel
theorem dX5_run_80 : decode cX5_run 80 = .ok (.iload 5, 2) := by decide +kernel
theorem dX5_run_82 : decode cX5_run 82 = .ok (.iconst 2, 1) := by decide +kernel
theorem dX5_run_83 : decode cX5_run 83 = .ok (.iadd, 1) := by decide +kernel
theorem dX5_run_84 : decode cX5_run 84 = .ok (.iaload, 1) := by decide +kernel
theorem dX5_run_85 : decode cX5_run 85 = .ok (.if_icmp .lt 92, 3) := by decide +kernel
theorem dX5_run_88 : decode cX5_run 88 = .ok (.aload_n 0, 1) := by decide +kernel
theorem dX5_run_89 : decode cX5_run 89 = .ok (.aload_n 0, 1) := by decide +kernel
theorem dX5_run_90 : decode cX5_run 90 = .ok (.iload 4, 2) := by decide +kernel
theorem dX5_run_92 : decode cX5_run 92 = .ok (.invokevirtual 126, 3) := by decide +kernel
theorem dX5_run_95 : decode cX5_run 95 = .ok (.invokevirtual 120, 3) := by decide +kernel
theorem dX5_run_98 : decode cX5_run 98 = .ok (.ifCond .ge 66, 3) := by decide +kernel
theorem dX5_run_101 : decode cX5_run 101 = .ok (.aload_n 0, 1) := by decide +kernel
theorem dX5_run_102 : decode cX5_run 102 = .ok (.getfield 39, 3) := by decide +kernel
theorem dX5_run_105 : decode cX5_run 105 = .ok (.iload 5, 2) := by decide +kernel
theorem dX5_run_107 : decode cX5_run 107 = .ok (.iconst 1, 1) := by decide +kernel
theorem dX5_run_108 : decode cX5_run 108 = .ok (.iadd, 1) := by decide +kernel
theorem dX5_run_109 : decode cX5_run 109 = .ok (.aload_n 0, 1) := by decide +kernel
theorem dX5_run_110 : decode cX5_run 110 = .ok (.getfield 39, 3) := by decide +kernel
theorem dX5_run_113 : decode cX5_run 113 = .ok (.iload 5, 2) := by decide +kernel
theorem dX5_run_115 : decode cX5_run 115 = .ok (.iconst 1, 1) := by decide +kernel
theorem dX5_run_116 : decode cX5_run 116 = .ok (.iadd, 1) := by decide +kernel
theorem dX5_run_117 : decode cX5_run 117 = .ok (.iaload, 1) := by decide +kernel
theorem dX5_run_118 : decode cX5_run 118 = .ok (.iconst 1, 1) := by decide +kernel
theorem dX5_run_119 : decode cX5_run 119 = .ok (.iadd, 1) := by decide +kernel
theorem dX5_run_120 : decode cX5_run 120 = .ok (.aload_n 0, 1) := by decide +kernel
theorem dX5_run_121 : decode cX5_run 121 = .ok (.getfield 33, 3) := by decide +kernel
theorem dX5_run_124 : decode cX5_run 124 = .ok (.aload_n 0, 1) := by decide +kernel
theorem dX5_run_125 : decode cX5_run 125 = .ok (.getfield 39, 3) := by decide +kernel
theorem dX5_run_128 : decode cX5_run 128 = .ok (.iload 5, 2) := by decide +kernel
theorem dX5_run_130 : decode cX5_run 130 = .ok (.iaload, 1) := by decide +kernel
theorem dX5_run_131 : decode cX5_run 131 = .ok (.iaload, 1) := by decide +kernel
theorem dX5_run_132 : decode cX5_run 132 = .ok (.irem, 1) := by decide +kernel
theorem dX5_run_133 : decode cX5_run 133 = .ok (.iastore, 1) := by decide +kernel
theorem dX5_run_134 : decode cX5_run 134 = .ok (.aload_n 0, 1) := by decide +kernel
theorem dX5_run_135 : decode cX5_run 135 = .ok (.getfield 39, 3) := by decide +kernel
theorem dX5_run_138 : decode cX5_run 138 = .ok (.iload 5, 2) := by decide +kernel
theorem dX5_run_140 : decode cX5_run 140 = .ok (.iconst 3, 1) := by decide +kernel
theorem dX5_run_141 : decode cX5_run 141 = .ok (.iadd, 1) := by decide +kernel
theorem dX5_run_142 : decode cX5_run 142 = .ok (.iconst 0, 1) := by decide +kernel
theorem dX5_run_143 : decode cX5_run 143 = .ok (.iastore, 1) := by decide +kernel
theorem dX5_run_144 : decode cX5_run 144 = .ok (.aload_n 0, 1) := by decide +kernel
theorem dX5_run_145 : decode cX5_run 145 = .ok (.getfield 39, 3) := by decide +kernel
theorem dX5_run_148 : decode cX5_run 148 = .ok (.iload 5, 2) := by decide +kernel
theorem dX5_run_150 : decode cX5_run 150 = .ok (.bipush 6, 2) := by decide +kernel
theorem dX5_run_152 : decode cX5_run 152 = .ok (.iadd, 1) := by decide +kernel
theorem dX5_run_153 : decode cX5_run 153 = .ok (.dup2, 1) := by decide +kernel
theorem dX5_run_154 : decode cX5_run 154 = .ok (.iaload, 1) := by decide +kernel
theorem dX5_run_155 : decode cX5_run 155 = .ok (.iconst 1, 1) := by decide +kernel
theorem dX5_run_156 : decode cX5_run 156 = .ok (.iadd, 1) := by decide +kernel
theorem dX5_run_157 : decode cX5_run 157 = .ok (.iastore, 1) := by decide +kernel
theorem dX5_run_158 : decode cX5_run 158 = .ok (.iinc 2 1, 3) := by decide +kernel
theorem dX5_run_161 : decode cX5_run 161 = .ok (.goto 16, 3) := by decide +kernel
theorem dX5_run_164 : decode cX5_run 164 = .ok (.aload_n 0, 1) := by decide +kernel
theorem dX5_run_165 : decode cX5_run 165 = .ok (.getfield 39, 3) := by decide +kernel
theorem dX5_run_168 : decode cX5_run 168 = .ok (.iload 5, 2) := by decide +kernel
theorem dX5_run_170 : decode cX5_run 170 = .ok (.iconst 5, 1) := by decide +kernel
theorem dX5_run_171 : decode cX5_run 171 = .ok (.iadd, 1) := by decide +kernel
theorem dX5_run_172 : decode cX5_run 172 = .ok (.dup2, 1) := by decide +kernel
theorem dX5_run_173 : decode cX5_run 173 = .ok (.iaload, 1) := by decide +kernel
theorem dX5_run_174 : decode cX5_run 174 = .ok (.iconst 1, 1) := by decide +kernel
theorem dX5_run_175 : decode cX5_run 175 = .ok (.iadd, 1) := by decide +kernel
theorem dX5_run_176 : decode cX5_run 176 = .ok (.iastore, 1) := by decide +kernel
theorem dX5_run_177 : decode cX5_run 177 = .ok (.iinc 4 1, 3) := by decide +kernel
theorem dX5_run_180 : decode cX5_run 180 = .ok (.goto (-154), 3) := by decide +kernel
theorem dX5_run_183 : decode cX5_run 183 = .ok (.aload_n 0, 1) := by decide +kernel
theorem dX5_run_184 : decode cX5_run 184 = .ok (.dup, 1) := by decide +kernel
theorem dX5_run_185 : decode cX5_run 185 = .ok (.getfield 129, 3) := by decide +kernel
theorem dX5_run_188 : decode cX5_run 188 = .ok (.iconst 1, 1) := by decide +kernel
theorem dX5_run_189 : decode cX5_run 189 = .ok (.iadd, 1) := by decide +kernel
theorem dX5_run_190 : decode cX5_run 190 = .ok (.putfield 129, 3) := by decide +kernel
theorem dX5_run_193 : decode cX5_run 193 = .ok (.iinc 3 1, 3) := by decide +kernel
theorem dX5_run_196 : decode cX5_run 196 = .ok (.goto (-178), 3) := by decide +kernel
theorem dX5_run_199 : decode cX5_run 199 = .ok (.iload_n 2, 1) := by decide +kernel
theorem dX5_run_200 : decode cX5_run 200 = .ok (.ireturn, 1) := by decide +kernel
set_option maxRecDepth 20000 in
theorem ggX5_trainOf_X5_isTrain : GoodIn wsX5_trainOf wsX5_isTrain := goodIn_r _ [6, 7, 8, 9, 5, 10, 29, 30, 31, 32, 33, 34, 35, 36, 37, 38, 39, 40, 41, 42, 43, 44, 45, 46, 47, 48, 49, 50, 51, 52] (by decide +kernel) (by decide +kernel)
set_option maxRecDepth 20000 in
theorem gX5_trainOf_X5_isTrain : GoodIn wsX5_trainOf (wsV RX5 123 RX5 yX5_isTrain wsX5_isTrain) := goodIn_app (goodIn_of _ (by decide +kernel)) ggX5_trainOf_X5_isTrain
set_option maxRecDepth 20000 in
theorem ggX5_trainOf_X5_blockOf : GoodIn wsX5_trainOf wsX5_blockOf := goodIn_r _ [14, 1, 15, 16, 17, 5, 18, 19, 20, 29, 30, 31, 32, 33, 34, 35, 36, 37, 38, 39, 40, 41, 42, 43, 44, 45, 46, 47, 48, 49, 50, 51, 52] (by decide +kernel) (by decide +kernel)
set_option maxRecDepth 20000 in
theorem gX5_trainOf_X5_blockOf : GoodIn wsX5_trainOf (wsV RX5 116 RX5 yX5_blockOf wsX5_blockOf) := goodIn_app (goodIn_of _ (by decide +kernel)) ggX5_trainOf_X5_blockOf
set_option maxRecDepth 20000 in
theorem ggX5_trainOf_X5_nextOf : GoodIn wsX5_trainOf wsX5_nextOf := goodIn_r _ [24, 1, 15, 16, 17, 5, 18, 19, 20, 29, 30, 31, 32, 33, 34, 35, 36, 37, 38, 39, 40, 41, 42, 43, 44, 45, 46, 47, 48, 49, 50, 51, 52] (by decide +kernel) (by decide +kernel)
set_option maxRecDepth 20000 in
theorem gX5_trainOf_X5_nextOf : GoodIn wsX5_trainOf (wsV RX5 126 RX5 yX5_nextOf wsX5_nextOf) := goodIn_app (goodIn_of _ (by decide +kernel)) ggX5_trainOf_X5_nextOf
set_option maxRecDepth 20000 in
theorem ggX5_trainOf_X5_trainIn : GoodIn wsX5_trainOf wsX5_trainIn := goodIn_r _ [28, 7, 11, 12, 13, 5, 14, 1, 15, 16, 17, 18, 19, 20, 29, 30, 31, 32, 33, 34, 35, 36, 37, 38, 39, 40, 41, 42, 43, 44, 45, 46, 47, 48, 49, 50, 51, 52] (by decide +kernel) (by decide +kernel)
set_option maxRecDepth 20000 in
theorem gX5_trainOf_X5_trainIn : GoodIn wsX5_trainOf (wsV RX5 120 RX5 yX5_trainIn wsX5_trainIn) := goodIn_app (goodIn_of _ (by decide +kernel)) ggX5_trainOf_X5_trainIn
theorem dX5_trainOf_0 : decode cX5_trainOf 0 = .ok (.aload_n 0, 1) := by decide +kernel
theorem dX5_trainOf_1 : decode cX5_trainOf 1 = .ok (.iload_n 1, 1) := by decide +kernel
theorem dX5_trainOf_2 : decode cX5_trainOf 2 = .ok (.invokevirtual 123, 3) := by decide +kernel
theorem dX5_trainOf_5 : decode cX5_trainOf 5 = .ok (.ifCond .ne 5, 3) := by decide +kernel
theorem dX5_trainOf_8 : decode cX5_trainOf 8 = .ok (.iconst (-1), 1) := by decide +kernel
theorem dX5_trainOf_9 : decode cX5_trainOf 9 = .ok (.ireturn, 1) := by decide +kernel
theorem dX5_trainOf_10 : decode cX5_trainOf 10 = .ok (.bipush 7, 2) := by decide +kernel
theorem dX5_trainOf_12 : decode cX5_trainOf 12 = .ok (.iload_n 1, 1) := by decide +kernel
theorem dX5_trainOf_13 : decode cX5_trainOf 13 = .ok (.imul, 1) := by decide +kernel
theorem dX5_trainOf_14 : decode cX5_trainOf 14 = .ok (.istore_n 3, 1) := by decide +kernel
theorem dX5_trainOf_15 : decode cX5_trainOf 15 = .ok (.iload_n 2, 1) := by decide +kernel
theorem dX5_trainOf_16 : decode cX5_trainOf 16 = .ok (.tableswitch 117 0 7 #[48, 55, 64, 70, 79, 88, 97, 107], 48) := by decide +kernel
theorem dX5_trainOf_64 : decode cX5_trainOf 64 = .ok (.aload_n 0, 1) := by decide +kernel
theorem dX5_trainOf_65 : decode cX5_trainOf 65 = .ok (.getfield 39, 3) := by decide +kernel
theorem dX5_trainOf_68 : decode cX5_trainOf 68 = .ok (.iload_n 3, 1) := by decide +kernel
theorem dX5_trainOf_69 : decode cX5_trainOf 69 = .ok (.iaload, 1) := by decide +kernel
theorem dX5_trainOf_70 : decode cX5_trainOf 70 = .ok (.ireturn, 1) := by decide +kernel
theorem dX5_trainOf_71 : decode cX5_trainOf 71 = .ok (.aload_n 0, 1) := by decide +kernel
theorem dX5_trainOf_72 : decode cX5_trainOf 72 = .ok (.getfield 39, 3) := by decide +kernel
theorem dX5_trainOf_75 : decode cX5_trainOf 75 = .ok (.iload_n 3, 1) := by decide +kernel
theorem dX5_trainOf_76 : decode cX5_trainOf 76 = .ok (.iconst 1, 1) := by decide +kernel
theorem dX5_trainOf_77 : decode cX5_trainOf 77 = .ok (.iadd, 1) := by decide +kernel
theorem dX5_trainOf_78 : decode cX5_trainOf 78 = .ok (.iaload, 1) := by decide +kernel
theorem dX5_trainOf_79 : decode cX5_trainOf 79 = .ok (.ireturn, 1) := by decide +kernel
theorem dX5_trainOf_80 : decode cX5_trainOf 80 = .ok (.aload_n 0, 1) := by decide +kernel
theorem dX5_trainOf_81 : decode cX5_trainOf 81 = .ok (.iload_n 1, 1) := by decide +kernel
theorem dX5_trainOf_82 : decode cX5_trainOf 82 = .ok (.invokevirtual 116, 3) := by decide +kernel
theorem dX5_trainOf_85 : decode cX5_trainOf 85 = .ok (.ireturn, 1) := by decide +kernel
theorem dX5_trainOf_86 : decode cX5_trainOf 86 = .ok (.aload_n 0, 1) := by decide +kernel
theorem dX5_trainOf_87 : decode cX5_trainOf 87 = .ok (.getfield 39, 3) := by decide +kernel
theorem dX5_trainOf_90 : decode cX5_trainOf 90 = .ok (.iload_n 3, 1) := by decide +kernel
theorem dX5_trainOf_91 : decode cX5_trainOf 91 = .ok (.iconst 3, 1) := by decide +kernel
theorem dX5_trainOf_92 : decode cX5_trainOf 92 = .ok (.iadd, 1) := by decide +kernel
theorem dX5_trainOf_93 : decode cX5_trainOf 93 = .ok (.iaload, 1) := by decide +kernel
theorem dX5_trainOf_94 : decode cX5_trainOf 94 = .ok (.ireturn, 1) := by decide +kernel
theorem dX5_trainOf_95 : decode cX5_trainOf 95 = .ok (.aload_n 0, 1) := by decide +kernel
theorem dX5_trainOf_96 : decode cX5_trainOf 96 = .ok (.getfield 39, 3) := by decide +kernel
theorem dX5_trainOf_99 : decode cX5_trainOf 99 = .ok (.iload_n 3, 1) := by decide +kernel
theorem dX5_trainOf_100 : decode cX5_trainOf 100 = .ok (.iconst 4, 1) := by decide +kernel
theorem dX5_trainOf_101 : decode cX5_trainOf 101 = .ok (.iadd, 1) := by decide +kernel
theorem dX5_trainOf_102 : decode cX5_trainOf 102 = .ok (.iaload, 1) := by decide +kernel
theorem dX5_trainOf_103 : decode cX5_trainOf 103 = .ok (.ireturn, 1) := by decide +kernel
theorem dX5_trainOf_104 : decode cX5_trainOf 104 = .ok (.aload_n 0, 1) := by decide +kernel
theorem dX5_trainOf_105 : decode cX5_trainOf 105 = .ok (.getfield 39, 3) := by decide +kernel
theorem dX5_trainOf_108 : decode cX5_trainOf 108 = .ok (.iload_n 3, 1) := by decide +kernel
theorem dX5_trainOf_109 : decode cX5_trainOf 109 = .ok (.iconst 5, 1) := by decide +kernel
theorem dX5_trainOf_110 : decode cX5_trainOf 110 = .ok (.iadd, 1) := by decide +kernel
theorem dX5_trainOf_111 : decode cX5_trainOf 111 = .ok (.iaload, 1) := by decide +kernel
theorem dX5_trainOf_112 : decode cX5_trainOf 112 = .ok (.ireturn, 1) := by decide +kernel
theorem dX5_trainOf_113 : decode cX5_trainOf 113 = .ok (.aload_n 0, 1) := by decide +kernel
theorem dX5_trainOf_114 : decode cX5_trainOf 114 = .ok (.getfield 39, 3) := by decide +kernel
theorem dX5_trainOf_117 : decode cX5_trainOf 117 = .ok (.iload_n 3, 1) := by decide +kernel
theorem dX5_trainOf_118 : decode cX5_trainOf 118 = .ok (.bipush 6, 2) := by decide +kernel
theorem dX5_trainOf_120 : decode cX5_trainOf 120 = .ok (.iadd, 1) := by decide +kernel
theorem dX5_trainOf_121 : decode cX5_trainOf 121 = .ok (.iaload, 1) := by decide +kernel
theorem dX5_trainOf_122 : decode cX5_trainOf 122 = .ok (.ireturn, 1) := by decide +kernel
theorem dX5_trainOf_123 : decode cX5_trainOf 123 = .ok (.aload_n 0, 1) := by decide +kernel
theorem dX5_trainOf_124 : decode cX5_trainOf 124 = .ok (.aload_n 0, 1) := by decide +kernel
theorem dX5_trainOf_125 : decode cX5_trainOf 125 = .ok (.iload_n 1, 1) := by decide +kernel
theorem dX5_trainOf_126 : decode cX5_trainOf 126 = .ok (.invokevirtual 126, 3) := by decide +kernel
theorem dX5_trainOf_129 : decode cX5_trainOf 129 = .ok (.invokevirtual 120, 3) := by decide +kernel
theorem dX5_trainOf_132 : decode cX5_trainOf 132 = .ok (.ireturn, 1) := by decide +kernel
theorem dX5_trainOf_133 : decode cX5_trainOf 133 = .ok (.bipush (-2), 2) := by decide +kernel
theorem dX5_trainOf_135 : decode cX5_trainOf 135 = .ok (.ireturn, 1) := by decide +kernel
set_option maxRecDepth 20000 in
theorem ggX5_stands_X5_nextOf : GoodIn wsX5_stands wsX5_nextOf := goodIn_r _ [7, 2, 8, 9, 10, 6, 11, 12, 13, 22, 23, 24, 25, 26, 27, 28, 29, 30, 31, 32, 33, 34, 35, 36, 37, 38, 39, 40, 41, 42, 43, 44, 45] (by decide +kernel) (by decide +kernel)
set_option maxRecDepth 20000 in
theorem gX5_stands_X5_nextOf : GoodIn wsX5_stands (wsV RX5 126 RX5 yX5_nextOf wsX5_nextOf) := goodIn_app (goodIn_of _ (by decide +kernel)) ggX5_stands_X5_nextOf
set_option maxRecDepth 20000 in
theorem ggX5_stands_X5_trainIn : GoodIn wsX5_stands wsX5_trainIn := goodIn_r _ [17, 1, 18, 19, 20, 6, 21, 2, 8, 9, 10, 11, 12, 13, 22, 23, 24, 25, 26, 27, 28, 29, 30, 31, 32, 33, 34, 35, 36, 37, 38, 39, 40, 41, 42, 43, 44, 45] (by decide +kernel) (by decide +kernel)
set_option maxRecDepth 20000 in
theorem gX5_stands_X5_trainIn : GoodIn wsX5_stands (wsV RX5 120 RX5 yX5_trainIn wsX5_trainIn) := goodIn_app (goodIn_of _ (by decide +kernel)) ggX5_stands_X5_trainIn
theorem dX5_stands_0 : decode cX5_stands 0 = .ok (.iconst 1, 1) := by decide +kernel
theorem dX5_stands_1 : decode cX5_stands 1 = .ok (.aload_n 0, 1) := by decide +kernel
theorem dX5_stands_2 : decode cX5_stands 2 = .ok (.getfield 110, 3) := by decide +kernel
theorem dX5_stands_5 : decode cX5_stands 5 = .ok (.ishl, 1) := by decide +kernel
theorem dX5_stands_6 : decode cX5_stands 6 = .ok (.iconst 1, 1) := by decide +kernel
theorem dX5_stands_7 : decode cX5_stands 7 = .ok (.isub, 1) := by decide +kernel
theorem dX5_stands_8 : decode cX5_stands 8 = .ok (.istore_n 1, 1) := by decide +kernel
theorem dX5_stands_9 : decode cX5_stands 9 = .ok (.iconst 1, 1) := by decide +kernel
theorem dX5_stands_10 : decode cX5_stands 10 = .ok (.istore_n 2, 1) := by decide +kernel
theorem dX5_stands_11 : decode cX5_stands 11 = .ok (.iload_n 2, 1) := by decide +kernel
theorem dX5_stands_12 : decode cX5_stands 12 = .ok (.ifCond .eq 96, 3) := by decide +kernel
theorem dX5_stands_15 : decode cX5_stands 15 = .ok (.iconst 0, 1) := by decide +kernel
theorem dX5_stands_16 : decode cX5_stands 16 = .ok (.istore_n 2, 1) := by decide +kernel
theorem dX5_stands_17 : decode cX5_stands 17 = .ok (.iconst 0, 1) := by decide +kernel
theorem dX5_stands_18 : decode cX5_stands 18 = .ok (.istore_n 3, 1) := by decide +kernel
theorem dX5_stands_19 : decode cX5_stands 19 = .ok (.iload_n 3, 1) := by decide +kernel
theorem dX5_stands_20 : decode cX5_stands 20 = .ok (.aload_n 0, 1) := by decide +kernel
theorem dX5_stands_21 : decode cX5_stands 21 = .ok (.getfield 110, 3) := by decide +kernel
theorem dX5_stands_24 : decode cX5_stands 24 = .ok (.if_icmp .ge 81, 3) := by decide +kernel
theorem dX5_stands_27 : decode cX5_stands 27 = .ok (.aload_n 0, 1) := by decide +kernel
theorem dX5_stands_28 : decode cX5_stands 28 = .ok (.aload_n 0, 1) := by decide +kernel
theorem dX5_stands_29 : decode cX5_stands 29 = .ok (.iload_n 3, 1) := by decide +kernel
theorem dX5_stands_30 : decode cX5_stands 30 = .ok (.invokevirtual 126, 3) := by decide +kernel
theorem dX5_stands_33 : decode cX5_stands 33 = .ok (.invokevirtual 120, 3) := by decide +kernel
theorem dX5_stands_36 : decode cX5_stands 36 = .ok (.istore 4, 2) := by decide +kernel
theorem dX5_stands_38 : decode cX5_stands 38 = .ok (.aload_n 0, 1) := by decide +kernel
theorem dX5_stands_39 : decode cX5_stands 39 = .ok (.getfield 39, 3) := by decide +kernel
theorem dX5_stands_42 : decode cX5_stands 42 = .ok (.bipush 7, 2) := by decide +kernel
theorem dX5_stands_44 : decode cX5_stands 44 = .ok (.iload_n 3, 1) := by decide +kernel
theorem dX5_stands_45 : decode cX5_stands 45 = .ok (.imul, 1) := by decide +kernel
theorem dX5_stands_46 : decode cX5_stands 46 = .ok (.iconst 4, 1) := by decide +kernel
theorem dX5_stands_47 : decode cX5_stands 47 = .ok (.iadd, 1) := by decide +kernel
theorem dX5_stands_48 : decode cX5_stands 48 = .ok (.iaload, 1) := by decide +kernel
theorem dX5_stands_49 : decode cX5_stands 49 = .ok (.iconst 1, 1) := by decide +kernel
theorem dX5_stands_50 : decode cX5_stands 50 = .ok (.if_icmp .eq 18, 3) := by decide +kernel
theorem dX5_stands_53 : decode cX5_stands 53 = .ok (.iload 4, 2) := by decide +kernel
theorem dX5_stands_55 : decode cX5_stands 55 = .ok (.ifCond .lt 17, 3) := by decide +kernel
theorem dX5_stands_58 : decode cX5_stands 58 = .ok (.iload_n 1, 1) := by decide +kernel
theorem dX5_stands_59 : decode cX5_stands 59 = .ok (.iload 4, 2) := by decide +kernel
theorem dX5_stands_61 : decode cX5_stands 61 = .ok (.ishr, 1) := by decide +kernel
theorem dX5_stands_62 : decode cX5_stands 62 = .ok (.iconst 1, 1) := by decide +kernel
theorem dX5_stands_63 : decode cX5_stands 63 = .ok (.iand, 1) := by decide +kernel
theorem dX5_stands_64 : decode cX5_stands 64 = .ok (.iconst 1, 1) := by decide +kernel
theorem dX5_stands_65 : decode cX5_stands 65 = .ok (.if_icmp .ne 7, 3) := by decide +kernel
theorem dX5_stands_68 : decode cX5_stands 68 = .ok (.iconst 1, 1) := by decide +kernel
theorem dX5_stands_69 : decode cX5_stands 69 = .ok (.goto 4, 3) := by decide +kernel
theorem dX5_stands_72 : decode cX5_stands 72 = .ok (.iconst 0, 1) := by decide +kernel
theorem dX5_stands_73 : decode cX5_stands 73 = .ok (.istore 5, 2) := by decide +kernel
theorem dX5_stands_75 : decode cX5_stands 75 = .ok (.iload_n 1, 1) := by decide +kernel
theorem dX5_stands_76 : decode cX5_stands 76 = .ok (.iload_n 3, 1) := by decide +kernel
theorem dX5_stands_77 : decode cX5_stands 77 = .ok (.ishr, 1) := by decide +kernel
theorem dX5_stands_78 : decode cX5_stands 78 = .ok (.iconst 1, 1) := by decide +kernel
theorem dX5_stands_79 : decode cX5_stands 79 = .ok (.iand, 1) := by decide +kernel
theorem dX5_stands_80 : decode cX5_stands 80 = .ok (.iconst 1, 1) := by decide +kernel
theorem dX5_stands_81 : decode cX5_stands 81 = .ok (.if_icmp .ne 18, 3) := by decide +kernel
theorem dX5_stands_84 : decode cX5_stands 84 = .ok (.iload 5, 2) := by decide +kernel
theorem dX5_stands_86 : decode cX5_stands 86 = .ok (.ifCond .ne 13, 3) := by decide +kernel
theorem dX5_stands_89 : decode cX5_stands 89 = .ok (.iload_n 1, 1) := by decide +kernel
theorem dX5_stands_90 : decode cX5_stands 90 = .ok (.iconst 1, 1) := by decide +kernel
theorem dX5_stands_91 : decode cX5_stands 91 = .ok (.iload_n 3, 1) := by decide +kernel
theorem dX5_stands_92 : decode cX5_stands 92 = .ok (.ishl, 1) := by decide +kernel
theorem dX5_stands_93 : decode cX5_stands 93 = .ok (.iconst (-1), 1) := by decide +kernel
theorem dX5_stands_94 : decode cX5_stands 94 = .ok (.ixor, 1) := by decide +kernel
theorem dX5_stands_95 : decode cX5_stands 95 = .ok (.iand, 1) := by decide +kernel
theorem dX5_stands_96 : decode cX5_stands 96 = .ok (.istore_n 1, 1) := by decide +kernel
theorem dX5_stands_97 : decode cX5_stands 97 = .ok (.iconst 1, 1) := by decide +kernel
theorem dX5_stands_98 : decode cX5_stands 98 = .ok (.istore_n 2, 1) := by decide +kernel
theorem dX5_stands_99 : decode cX5_stands 99 = .ok (.iinc 3 1, 3) := by decide +kernel
theorem dX5_stands_102 : decode cX5_stands 102 = .ok (.goto (-83), 3) := by decide +kernel
theorem dX5_stands_105 : decode cX5_stands 105 = .ok (.goto (-94), 3) := by decide +kernel
theorem dX5_stands_108 : decode cX5_stands 108 = .ok (.iload_n 1, 1) := by decide +kernel
theorem dX5_stands_109 : decode cX5_stands 109 = .ok (.ireturn, 1) := by decide +kernel
theorem dX5_figure_0 : decode cX5_figure 0 = .ok (.aload_n 0, 1) := by decide +kernel
theorem dX5_figure_1 : decode cX5_figure 1 = .ok (.getfield 132, 3) := by decide +kernel
theorem dX5_figure_4 : decode cX5_figure 4 = .ok (.bipush 12, 2) := by decide +kernel
theorem dX5_figure_6 : decode cX5_figure 6 = .ok (.if_icmp .ne 6, 3) := by decide +kernel
theorem dX5_figure_9 : decode cX5_figure 9 = .ok (.bipush (-4), 2) := by decide +kernel
theorem dX5_figure_11 : decode cX5_figure 11 = .ok (.ireturn, 1) := by decide +kernel
theorem dX5_figure_12 : decode cX5_figure 12 = .ok (.aload_n 0, 1) := by decide +kernel
theorem dX5_figure_13 : decode cX5_figure 13 = .ok (.dup, 1) := by decide +kernel
theorem dX5_figure_14 : decode cX5_figure 14 = .ok (.getfield 132, 3) := by decide +kernel
theorem dX5_figure_17 : decode cX5_figure 17 = .ok (.iconst 1, 1) := by decide +kernel
theorem dX5_figure_18 : decode cX5_figure 18 = .ok (.iadd, 1) := by decide +kernel
theorem dX5_figure_19 : decode cX5_figure 19 = .ok (.putfield 132, 3) := by decide +kernel
theorem dX5_figure_22 : decode cX5_figure 22 = .ok (.aload_n 0, 1) := by decide +kernel
theorem dX5_figure_23 : decode cX5_figure 23 = .ok (.getfield 132, 3) := by decide +kernel
theorem dX5_figure_26 : decode cX5_figure 26 = .ok (.iconst 1, 1) := by decide +kernel
theorem dX5_figure_27 : decode cX5_figure 27 = .ok (.isub, 1) := by decide +kernel
theorem dX5_figure_28 : decode cX5_figure 28 = .ok (.ireturn, 1) := by decide +kernel
set_option maxRecDepth 20000 in
theorem ggX5_isFigure_X5_in : GoodIn wsX5_isFigure wsX5_in := goodIn_r _ [5] (by decide +kernel) (by decide +kernel)
set_option maxRecDepth 20000 in
theorem gX5_isFigure_X5_in : GoodIn wsX5_isFigure (va_wsS RX5 54 yX5_in wsX5_in) := goodIn_app (goodIn_of _ (by decide +kernel)) ggX5_isFigure_X5_in
theorem dX5_isFigure_0 : decode cX5_isFigure 0 = .ok (.iload_n 1, 1) := by decide +kernel
theorem dX5_isFigure_1 : decode cX5_isFigure 1 = .ok (.iconst 0, 1) := by decide +kernel
theorem dX5_isFigure_2 : decode cX5_isFigure 2 = .ok (.aload_n 0, 1) := by decide +kernel
theorem dX5_isFigure_3 : decode cX5_isFigure 3 = .ok (.getfield 132, 3) := by decide +kernel
theorem dX5_isFigure_6 : decode cX5_isFigure 6 = .ok (.iconst 1, 1) := by decide +kernel
theorem dX5_isFigure_7 : decode cX5_isFigure 7 = .ok (.isub, 1) := by decide +kernel
theorem dX5_isFigure_8 : decode cX5_isFigure 8 = .ok (.invokestatic 54, 3) := by decide +kernel
theorem dX5_isFigure_11 : decode cX5_isFigure 11 = .ok (.ireturn, 1) := by decide +kernel
set_option maxRecDepth 20000 in
theorem ggX5_isPlace_X5_in : GoodIn wsX5_isPlace wsX5_in := goodIn_r _ [4] (by decide +kernel) (by decide +kernel)
set_option maxRecDepth 20000 in
theorem gX5_isPlace_X5_in : GoodIn wsX5_isPlace (va_wsS RX5 54 yX5_in wsX5_in) := goodIn_app (goodIn_of _ (by decide +kernel)) ggX5_isPlace_X5_in
theorem dX5_isPlace_0 : decode cX5_isPlace 0 = .ok (.iload_n 0, 1) := by decide +kernel
theorem dX5_isPlace_1 : decode cX5_isPlace 1 = .ok (.iconst (-1), 1) := by decide +kernel
theorem dX5_isPlace_2 : decode cX5_isPlace 2 = .ok (.bipush 99, 2) := by decide +kernel
theorem dX5_isPlace_4 : decode cX5_isPlace 4 = .ok (.invokestatic 54, 3) := by decide +kernel
theorem dX5_isPlace_7 : decode cX5_isPlace 7 = .ok (.ireturn, 1) := by decide +kernel
set_option maxRecDepth 20000 in
theorem ggX5_note_X5_isFigure : GoodIn wsX5_note wsX5_isFigure := goodIn_r _ [7, 8, 9, 10, 6, 11, 18, 19, 20, 21, 22, 23, 24, 25, 26, 27, 28, 29, 30, 31, 32, 33, 34, 35, 36, 37, 38, 39, 40, 41] (by decide +kernel) (by decide +kernel)
set_option maxRecDepth 20000 in
theorem gX5_note_X5_isFigure : GoodIn wsX5_note (wsV RX5 135 RX5 yX5_isFigure wsX5_isFigure) := goodIn_app (goodIn_of _ (by decide +kernel)) ggX5_note_X5_isFigure
set_option maxRecDepth 20000 in
theorem ggX5_note_X5_isDay : GoodIn wsX5_note wsX5_isDay := goodIn_r _ [14, 9, 10, 6, 11] (by decide +kernel) (by decide +kernel)
set_option maxRecDepth 20000 in
theorem gX5_note_X5_isDay : GoodIn wsX5_note (va_wsS RX5 58 yX5_isDay wsX5_isDay) := goodIn_app (goodIn_of _ (by decide +kernel)) ggX5_note_X5_isDay
set_option maxRecDepth 20000 in
theorem ggX5_note_X5_isPlace : GoodIn wsX5_note wsX5_isPlace := goodIn_r _ [17, 9, 10, 6, 11] (by decide +kernel) (by decide +kernel)
set_option maxRecDepth 20000 in
theorem gX5_note_X5_isPlace : GoodIn wsX5_note (va_wsS RX5 138 yX5_isPlace wsX5_isPlace) := goodIn_app (goodIn_of _ (by decide +kernel)) ggX5_note_X5_isPlace
theorem dX5_note_0 : decode cX5_note 0 = .ok (.aload_n 0, 1) := by decide +kernel
theorem dX5_note_1 : decode cX5_note 1 = .ok (.iload_n 1, 1) := by decide +kernel
theorem dX5_note_2 : decode cX5_note 2 = .ok (.invokevirtual 135, 3) := by decide +kernel
theorem dX5_note_5 : decode cX5_note 5 = .ok (.ifCond .ne 5, 3) := by decide +kernel
theorem dX5_note_8 : decode cX5_note 8 = .ok (.iconst (-1), 1) := by decide +kernel
theorem dX5_note_9 : decode cX5_note 9 = .ok (.ireturn, 1) := by decide +kernel
theorem dX5_note_10 : decode cX5_note 10 = .ok (.iload_n 2, 1) := by decide +kernel
theorem dX5_note_11 : decode cX5_note 11 = .ok (.invokestatic 58, 3) := by decide +kernel
theorem dX5_note_14 : decode cX5_note 14 = .ok (.ifCond .eq 18, 3) := by decide +kernel
theorem dX5_note_17 : decode cX5_note 17 = .ok (.iload_n 3, 1) := by decide +kernel
theorem dX5_note_18 : decode cX5_note 18 = .ok (.invokestatic 58, 3) := by decide +kernel
theorem dX5_note_21 : decode cX5_note 21 = .ok (.ifCond .eq 11, 3) := by decide +kernel
theorem dX5_note_24 : decode cX5_note 24 = .ok (.iload 4, 2) := by decide +kernel
theorem dX5_note_26 : decode cX5_note 26 = .ok (.invokestatic 138, 3) := by decide +kernel
theorem dX5_note_29 : decode cX5_note 29 = .ok (.ifCond .ne 6, 3) := by decide +kernel
theorem dX5_note_32 : decode cX5_note 32 = .ok (.bipush (-2), 2) := by decide +kernel
theorem dX5_note_34 : decode cX5_note 34 = .ok (.ireturn, 1) := by decide +kernel
theorem dX5_note_35 : decode cX5_note 35 = .ok (.aload_n 0, 1) := by decide +kernel
theorem dX5_note_36 : decode cX5_note 36 = .ok (.getfield 141, 3) := by decide +kernel
theorem dX5_note_39 : decode cX5_note 39 = .ok (.bipush 60, 2) := by decide +kernel
theorem dX5_note_41 : decode cX5_note 41 = .ok (.if_icmp .ne 6, 3) := by decide +kernel
theorem dX5_note_44 : decode cX5_note 44 = .ok (.bipush (-4), 2) := by decide +kernel
theorem dX5_note_46 : decode cX5_note 46 = .ok (.ireturn, 1) := by decide +kernel
theorem dX5_note_47 : decode cX5_note 47 = .ok (.iload_n 2, 1) := by decide +kernel
theorem dX5_note_48 : decode cX5_note 48 = .ok (.iload_n 3, 1) := by decide +kernel
theorem dX5_note_49 : decode cX5_note 49 = .ok (.if_icmp .gt 27, 3) := by decide +kernel
theorem dX5_note_52 : decode cX5_note 52 = .ok (.aload_n 0, 1) := by decide +kernel
theorem dX5_note_53 : decode cX5_note 53 = .ok (.getfield 141, 3) := by decide +kernel
theorem dX5_note_56 : decode cX5_note 56 = .ok (.ifCond .le 23, 3) := by decide +kernel
theorem dX5_note_59 : decode cX5_note 59 = .ok (.aload_n 0, 1) := by decide +kernel
theorem dX5_note_60 : decode cX5_note 60 = .ok (.getfield 42, 3) := by decide +kernel
theorem dX5_note_63 : decode cX5_note 63 = .ok (.iconst 4, 1) := by decide +kernel
theorem dX5_note_64 : decode cX5_note 64 = .ok (.aload_n 0, 1) := by decide +kernel
theorem dX5_note_65 : decode cX5_note 65 = .ok (.getfield 141, 3) := by decide +kernel
theorem dX5_note_68 : decode cX5_note 68 = .ok (.imul, 1) := by decide +kernel
theorem dX5_note_69 : decode cX5_note 69 = .ok (.iconst 2, 1) := by decide +kernel
theorem dX5_note_70 : decode cX5_note 70 = .ok (.isub, 1) := by decide +kernel
theorem dX5_note_71 : decode cX5_note 71 = .ok (.iaload, 1) := by decide +kernel
theorem dX5_note_72 : decode cX5_note 72 = .ok (.iload_n 3, 1) := by decide +kernel
theorem dX5_note_73 : decode cX5_note 73 = .ok (.if_icmp .le 6, 3) := by decide +kernel
theorem dX5_note_76 : decode cX5_note 76 = .ok (.bipush (-5), 2) := by decide +kernel
theorem dX5_note_78 : decode cX5_note 78 = .ok (.ireturn, 1) := by decide +kernel
theorem dX5_note_79 : decode cX5_note 79 = .ok (.aload_n 0, 1) := by decide +kernel
theorem dX5_note_80 : decode cX5_note 80 = .ok (.getfield 42, 3) := by decide +kernel
theorem dX5_note_83 : decode cX5_note 83 = .ok (.iconst 4, 1) := by decide +kernel
theorem dX5_note_84 : decode cX5_note 84 = .ok (.aload_n 0, 1) := by decide +kernel
theorem dX5_note_85 : decode cX5_note 85 = .ok (.getfield 141, 3) := by decide +kernel
theorem dX5_note_88 : decode cX5_note 88 = .ok (.imul, 1) := by decide +kernel
theorem dX5_note_89 : decode cX5_note 89 = .ok (.iload_n 1, 1) := by decide +kernel
theorem dX5_note_90 : decode cX5_note 90 = .ok (.iastore, 1) := by decide +kernel
theorem dX5_note_91 : decode cX5_note 91 = .ok (.aload_n 0, 1) := by decide +kernel
theorem dX5_note_92 : decode cX5_note 92 = .ok (.getfield 42, 3) := by decide +kernel
theorem dX5_note_95 : decode cX5_note 95 = .ok (.iconst 4, 1) := by decide +kernel
theorem dX5_note_96 : decode cX5_note 96 = .ok (.aload_n 0, 1) := by decide +kernel
theorem dX5_note_97 : decode cX5_note 97 = .ok (.getfield 141, 3) := by decide +kernel
theorem dX5_note_100 : decode cX5_note 100 = .ok (.imul, 1) := by decide +kernel
theorem dX5_note_101 : decode cX5_note 101 = .ok (.iconst 1, 1) := by decide +kernel
theorem dX5_note_102 : decode cX5_note 102 = .ok (.iadd, 1) := by decide +kernel
theorem dX5_note_103 : decode cX5_note 103 = .ok (.iload_n 2, 1) := by decide +kernel
theorem dX5_note_104 : decode cX5_note 104 = .ok (.iastore, 1) := by decide +kernel
theorem dX5_note_105 : decode cX5_note 105 = .ok (.aload_n 0, 1) := by decide +kernel
theorem dX5_note_106 : decode cX5_note 106 = .ok (.getfield 42, 3) := by decide +kernel
theorem dX5_note_109 : decode cX5_note 109 = .ok (.iconst 4, 1) := by decide +kernel
theorem dX5_note_110 : decode cX5_note 110 = .ok (.aload_n 0, 1) := by decide +kernel
theorem dX5_note_111 : decode cX5_note 111 = .ok (.getfield 141, 3) := by decide +kernel
theorem dX5_note_114 : decode cX5_note 114 = .ok (.imul, 1) := by decide +kernel
theorem dX5_note_115 : decode cX5_note 115 = .ok (.iconst 2, 1) := by decide +kernel
theorem dX5_note_116 : decode cX5_note 116 = .ok (.iadd, 1) := by decide +kernel
theorem dX5_note_117 : decode cX5_note 117 = .ok (.iload_n 3, 1) := by decide +kernel
theorem dX5_note_118 : decode cX5_note 118 = .ok (.iastore, 1) := by decide +kernel
theorem dX5_note_119 : decode cX5_note 119 = .ok (.aload_n 0, 1) := by decide +kernel
theorem dX5_note_120 : decode cX5_note 120 = .ok (.getfield 42, 3) := by decide +kernel
theorem dX5_note_123 : decode cX5_note 123 = .ok (.iconst 4, 1) := by decide +kernel
theorem dX5_note_124 : decode cX5_note 124 = .ok (.aload_n 0, 1) := by decide +kernel
theorem dX5_note_125 : decode cX5_note 125 = .ok (.getfield 141, 3) := by decide +kernel
theorem dX5_note_128 : decode cX5_note 128 = .ok (.imul, 1) := by decide +kernel
theorem dX5_note_129 : decode cX5_note 129 = .ok (.iconst 3, 1) := by decide +kernel
theorem dX5_note_130 : decode cX5_note 130 = .ok (.iadd, 1) := by decide +kernel
theorem dX5_note_131 : decode cX5_note 131 = .ok (.iload 4, 2) := by decide +kernel
theorem dX5_note_133 : decode cX5_note 133 = .ok (.iastore, 1) := by decide +kernel
theorem dX5_note_134 : decode cX5_note 134 = .ok (.aload_n 0, 1) := by decide +kernel
theorem dX5_note_135 : decode cX5_note 135 = .ok (.dup, 1) := by decide +kernel
theorem dX5_note_136 : decode cX5_note 136 = .ok (.getfield 141, 3) := by decide +kernel
theorem dX5_note_139 : decode cX5_note 139 = .ok (.iconst 1, 1) := by decide +kernel
theorem dX5_note_140 : decode cX5_note 140 = .ok (.iadd, 1) := by decide +kernel
theorem dX5_note_141 : decode cX5_note 141 = .ok (.putfield 141, 3) := by decide +kernel
theorem dX5_note_144 : decode cX5_note 144 = .ok (.aload_n 0, 1) := by decide +kernel
theorem dX5_note_145 : decode cX5_note 145 = .ok (.getfield 141, 3) := by decide +kernel
theorem dX5_note_148 : decode cX5_note 148 = .ok (.ireturn, 1) := by decide +kernel
theorem dX5_placeBy_0 : decode cX5_placeBy 0 = .ok (.bipush (-6), 2) := by decide +kernel
theorem dX5_placeBy_2 : decode cX5_placeBy 2 = .ok (.istore 5, 2) := by decide +kernel
theorem dX5_placeBy_4 : decode cX5_placeBy 4 = .ok (.iconst 0, 1) := by decide +kernel
theorem dX5_placeBy_5 : decode cX5_placeBy 5 = .ok (.istore 6, 2) := by decide +kernel
theorem dX5_placeBy_7 : decode cX5_placeBy 7 = .ok (.iload 6, 2) := by decide +kernel
theorem dX5_placeBy_9 : decode cX5_placeBy 9 = .ok (.iload_n 3, 1) := by decide +kernel
theorem dX5_placeBy_10 : decode cX5_placeBy 10 = .ok (.if_icmp .ge 104, 3) := by decide +kernel
theorem dX5_placeBy_13 : decode cX5_placeBy 13 = .ok (.aload_n 0, 1) := by decide +kernel
theorem dX5_placeBy_14 : decode cX5_placeBy 14 = .ok (.getfield 42, 3) := by decide +kernel
theorem dX5_placeBy_17 : decode cX5_placeBy 17 = .ok (.iconst 4, 1) := by decide +kernel
theorem dX5_placeBy_18 : decode cX5_placeBy 18 = .ok (.iload 6, 2) := by decide +kernel
theorem dX5_placeBy_20 : decode cX5_placeBy 20 = .ok (.imul, 1) := by decide +kernel
theorem dX5_placeBy_21 : decode cX5_placeBy 21 = .ok (.iaload, 1) := by decide +kernel
theorem dX5_placeBy_22 : decode cX5_placeBy 22 = .ok (.iload_n 1, 1) := by decide +kernel
theorem dX5_placeBy_23 : decode cX5_placeBy 23 = .ok (.if_icmp .ne 38, 3) := by decide +kernel
theorem dX5_placeBy_26 : decode cX5_placeBy 26 = .ok (.aload_n 0, 1) := by decide +kernel
theorem dX5_placeBy_27 : decode cX5_placeBy 27 = .ok (.getfield 42, 3) := by decide +kernel
theorem dX5_placeBy_30 : decode cX5_placeBy 30 = .ok (.iconst 4, 1) := by decide +kernel
theorem dX5_placeBy_31 : decode cX5_placeBy 31 = .ok (.iload 6, 2) := by decide +kernel
theorem dX5_placeBy_33 : decode cX5_placeBy 33 = .ok (.imul, 1) := by decide +kernel
theorem dX5_placeBy_34 : decode cX5_placeBy 34 = .ok (.iconst 1, 1) := by decide +kernel
theorem dX5_placeBy_35 : decode cX5_placeBy 35 = .ok (.iadd, 1) := by decide +kernel
theorem dX5_placeBy_36 : decode cX5_placeBy 36 = .ok (.iaload, 1) := by decide +kernel
theorem dX5_placeBy_37 : decode cX5_placeBy 37 = .ok (.iload_n 2, 1) := by decide +kernel
theorem dX5_placeBy_38 : decode cX5_placeBy 38 = .ok (.if_icmp .gt 23, 3) := by decide +kernel
theorem dX5_placeBy_41 : decode cX5_placeBy 41 = .ok (.aload_n 0, 1) := by decide +kernel
theorem dX5_placeBy_42 : decode cX5_placeBy 42 = .ok (.getfield 42, 3) := by decide +kernel
theorem dX5_placeBy_45 : decode cX5_placeBy 45 = .ok (.iconst 4, 1) := by decide +kernel
theorem dX5_placeBy_46 : decode cX5_placeBy 46 = .ok (.iload 6, 2) := by decide +kernel
theorem dX5_placeBy_48 : decode cX5_placeBy 48 = .ok (.imul, 1) := by decide +kernel
theorem dX5_placeBy_49 : decode cX5_placeBy 49 = .ok (.iconst 2, 1) := by decide +kernel
theorem dX5_placeBy_50 : decode cX5_placeBy 50 = .ok (.iadd, 1) := by decide +kernel
theorem dX5_placeBy_51 : decode cX5_placeBy 51 = .ok (.iaload, 1) := by decide +kernel
theorem dX5_placeBy_52 : decode cX5_placeBy 52 = .ok (.iload 4, 2) := by decide +kernel
theorem dX5_placeBy_54 : decode cX5_placeBy 54 = .ok (.if_icmp .gt 7, 3) := by decide +kernel
theorem dX5_placeBy_57 : decode cX5_placeBy 57 = .ok (.iconst 1, 1) := by decide +kernel
theorem dX5_placeBy_58 : decode cX5_placeBy 58 = .ok (.goto 4, 3) := by decide +kernel
theorem dX5_placeBy_61 : decode cX5_placeBy 61 = .ok (.iconst 0, 1) := by decide +kernel
theorem dX5_placeBy_62 : decode cX5_placeBy 62 = .ok (.istore 7, 2) := by decide +kernel
theorem dX5_placeBy_64 : decode cX5_placeBy 64 = .ok (.iload 7, 2) := by decide +kernel
theorem dX5_placeBy_66 : decode cX5_placeBy 66 = .ok (.ifCond .eq 38, 3) := by decide +kernel
theorem dX5_placeBy_69 : decode cX5_placeBy 69 = .ok (.iload 5, 2) := by decide +kernel
theorem dX5_placeBy_71 : decode cX5_placeBy 71 = .ok (.ifCond .lt 28, 3) := by decide +kernel
theorem dX5_placeBy_74 : decode cX5_placeBy 74 = .ok (.aload_n 0, 1) := by decide +kernel
theorem dX5_placeBy_75 : decode cX5_placeBy 75 = .ok (.getfield 42, 3) := by decide +kernel
theorem dX5_placeBy_78 : decode cX5_placeBy 78 = .ok (.iconst 4, 1) := by decide +kernel
theorem dX5_placeBy_79 : decode cX5_placeBy 79 = .ok (.iload 6, 2) := by decide +kernel
theorem dX5_placeBy_81 : decode cX5_placeBy 81 = .ok (.imul, 1) := by decide +kernel
theorem dX5_placeBy_82 : decode cX5_placeBy 82 = .ok (.iconst 1, 1) := by decide +kernel
theorem dX5_placeBy_83 : decode cX5_placeBy 83 = .ok (.iadd, 1) := by decide +kernel
theorem dX5_placeBy_84 : decode cX5_placeBy 84 = .ok (.iaload, 1) := by decide +kernel
theorem dX5_placeBy_85 : decode cX5_placeBy 85 = .ok (.aload_n 0, 1) := by decide +kernel
theorem dX5_placeBy_86 : decode cX5_placeBy 86 = .ok (.getfield 42, 3) := by decide +kernel
theorem dX5_placeBy_89 : decode cX5_placeBy 89 = .ok (.iconst 4, 1) := by decide +kernel
theorem dX5_placeBy_90 : decode cX5_placeBy 90 = .ok (.iload 5, 2) := by decide +kernel
theorem dX5_placeBy_92 : decode cX5_placeBy 92 = .ok (.imul, 1) := by decide +kernel
theorem dX5_placeBy_93 : decode cX5_placeBy 93 = .ok (.iconst 1, 1) := by decide +kernel
theorem dX5_placeBy_94 : decode cX5_placeBy 94 = .ok (.iadd, 1) := by decide +kernel
theorem dX5_placeBy_95 : decode cX5_placeBy 95 = .ok (.iaload, 1) := by decide +kernel
theorem dX5_placeBy_96 : decode cX5_placeBy 96 = .ok (.if_icmp .lt 8, 3) := by decide +kernel
theorem dX5_placeBy_99 : decode cX5_placeBy 99 = .ok (.iload 6, 2) := by decide +kernel
theorem dX5_placeBy_101 : decode cX5_placeBy 101 = .ok (.goto 5, 3) := by decide +kernel
theorem dX5_placeBy_104 : decode cX5_placeBy 104 = .ok (.iload 5, 2) := by decide +kernel
theorem dX5_placeBy_106 : decode cX5_placeBy 106 = .ok (.istore 5, 2) := by decide +kernel
theorem dX5_placeBy_108 : decode cX5_placeBy 108 = .ok (.iinc 6 1, 3) := by decide +kernel
theorem dX5_placeBy_111 : decode cX5_placeBy 111 = .ok (.goto (-104), 3) := by decide +kernel
theorem dX5_placeBy_114 : decode cX5_placeBy 114 = .ok (.iload 5, 2) := by decide +kernel
theorem dX5_placeBy_116 : decode cX5_placeBy 116 = .ok (.ifCond .ge 8, 3) := by decide +kernel
theorem dX5_placeBy_119 : decode cX5_placeBy 119 = .ok (.bipush (-6), 2) := by decide +kernel
theorem dX5_placeBy_121 : decode cX5_placeBy 121 = .ok (.goto 14, 3) := by decide +kernel
theorem dX5_placeBy_124 : decode cX5_placeBy 124 = .ok (.aload_n 0, 1) := by decide +kernel
theorem dX5_placeBy_125 : decode cX5_placeBy 125 = .ok (.getfield 42, 3) := by decide +kernel
theorem dX5_placeBy_128 : decode cX5_placeBy 128 = .ok (.iconst 4, 1) := by decide +kernel
theorem dX5_placeBy_129 : decode cX5_placeBy 129 = .ok (.iload 5, 2) := by decide +kernel
theorem dX5_placeBy_131 : decode cX5_placeBy 131 = .ok (.imul, 1) := by decide +kernel
theorem dX5_placeBy_132 : decode cX5_placeBy 132 = .ok (.iconst 3, 1) := by decide +kernel
theorem dX5_placeBy_133 : decode cX5_placeBy 133 = .ok (.iadd, 1) := by decide +kernel
theorem dX5_placeBy_134 : decode cX5_placeBy 134 = .ok (.iaload, 1) := by decide +kernel
theorem dX5_placeBy_135 : decode cX5_placeBy 135 = .ok (.ireturn, 1) := by decide +kernel
set_option maxRecDepth 20000 in
theorem ggX5_where_X5_isFigure : GoodIn wsX5_where wsX5_isFigure := goodIn_r _ [6, 7, 8, 9, 5, 10, 19, 20, 21, 22, 23, 24, 25, 26, 27, 28, 29, 30, 31, 32, 33, 34, 35, 36, 37, 38, 39, 40, 41, 42] (by decide +kernel) (by decide +kernel)
set_option maxRecDepth 20000 in
theorem gX5_where_X5_isFigure : GoodIn wsX5_where (wsV RX5 135 RX5 yX5_isFigure wsX5_isFigure) := goodIn_app (goodIn_of _ (by decide +kernel)) ggX5_where_X5_isFigure
set_option maxRecDepth 20000 in
theorem ggX5_where_X5_isDay : GoodIn wsX5_where wsX5_isDay := goodIn_r _ [13, 8, 9, 5, 10] (by decide +kernel) (by decide +kernel)
set_option maxRecDepth 20000 in
theorem gX5_where_X5_isDay : GoodIn wsX5_where (va_wsS RX5 58 yX5_isDay wsX5_isDay) := goodIn_app (goodIn_of _ (by decide +kernel)) ggX5_where_X5_isDay
set_option maxRecDepth 20000 in
theorem ggX5_where_X5_placeBy : GoodIn wsX5_where wsX5_placeBy := goodIn_r _ [17, 18, 19, 20, 21, 22, 23, 24, 25, 26, 27, 28, 29, 30, 31, 32, 33, 34, 35, 36, 37, 38, 39, 40, 41, 42] (by decide +kernel) (by decide +kernel)
set_option maxRecDepth 20000 in
theorem gX5_where_X5_placeBy : GoodIn wsX5_where (wsV RX5 144 RX5 yX5_placeBy wsX5_placeBy) := goodIn_app (goodIn_of _ (by decide +kernel)) ggX5_where_X5_placeBy
theorem dX5_where_0 : decode cX5_where 0 = .ok (.aload_n 0, 1) := by decide +kernel
theorem dX5_where_1 : decode cX5_where 1 = .ok (.iload_n 1, 1) := by decide +kernel
theorem dX5_where_2 : decode cX5_where 2 = .ok (.invokevirtual 135, 3) := by decide +kernel
theorem dX5_where_5 : decode cX5_where 5 = .ok (.ifCond .ne 6, 3) := by decide +kernel
theorem dX5_where_8 : decode cX5_where 8 = .ok (.bipush (-101), 2) := by decide +kernel
theorem dX5_where_10 : decode cX5_where 10 = .ok (.ireturn, 1) := by decide +kernel
theorem dX5_where_11 : decode cX5_where 11 = .ok (.iload_n 2, 1) := by decide +kernel
theorem dX5_where_12 : decode cX5_where 12 = .ok (.invokestatic 58, 3) := by decide +kernel
theorem dX5_where_15 : decode cX5_where 15 = .ok (.ifCond .eq 24, 3) := by decide +kernel
theorem dX5_where_18 : decode cX5_where 18 = .ok (.iload_n 3, 1) := by decide +kernel
theorem dX5_where_19 : decode cX5_where 19 = .ok (.invokestatic 58, 3) := by decide +kernel
theorem dX5_where_22 : decode cX5_where 22 = .ok (.ifCond .eq 17, 3) := by decide +kernel
theorem dX5_where_25 : decode cX5_where 25 = .ok (.aload_n 0, 1) := by decide +kernel
theorem dX5_where_26 : decode cX5_where 26 = .ok (.iload_n 1, 1) := by decide +kernel
theorem dX5_where_27 : decode cX5_where 27 = .ok (.iload_n 2, 1) := by decide +kernel
theorem dX5_where_28 : decode cX5_where 28 = .ok (.aload_n 0, 1) := by decide +kernel
theorem dX5_where_29 : decode cX5_where 29 = .ok (.getfield 141, 3) := by decide +kernel
theorem dX5_where_32 : decode cX5_where 32 = .ok (.iload_n 3, 1) := by decide +kernel
theorem dX5_where_33 : decode cX5_where 33 = .ok (.invokevirtual 144, 3) := by decide +kernel
theorem dX5_where_36 : decode cX5_where 36 = .ok (.goto 5, 3) := by decide +kernel
theorem dX5_where_39 : decode cX5_where 39 = .ok (.bipush (-102), 2) := by decide +kernel
theorem dX5_where_41 : decode cX5_where 41 = .ok (.ireturn, 1) := by decide +kernel
set_option maxRecDepth 20000 in
theorem ggX5_at_X5_isPlace : GoodIn wsX5_at wsX5_isPlace := goodIn_r _ [6, 7, 8, 5, 9] (by decide +kernel) (by decide +kernel)
set_option maxRecDepth 20000 in
theorem gX5_at_X5_isPlace : GoodIn wsX5_at (va_wsS RX5 138 yX5_isPlace wsX5_isPlace) := goodIn_app (goodIn_of _ (by decide +kernel)) ggX5_at_X5_isPlace
set_option maxRecDepth 20000 in
theorem ggX5_at_X5_isDay : GoodIn wsX5_at wsX5_isDay := goodIn_r _ [12, 7, 8, 5, 9] (by decide +kernel) (by decide +kernel)
set_option maxRecDepth 20000 in
theorem gX5_at_X5_isDay : GoodIn wsX5_at (va_wsS RX5 58 yX5_isDay wsX5_isDay) := goodIn_app (goodIn_of _ (by decide +kernel)) ggX5_at_X5_isDay
set_option maxRecDepth 20000 in
theorem ggX5_at_X5_placeBy : GoodIn wsX5_at wsX5_placeBy := goodIn_r _ [16, 17, 18, 19, 20, 21, 22, 23, 24, 25, 26, 27, 28, 29, 30, 31, 32, 33, 34, 35, 36, 37, 38, 39, 40, 41] (by decide +kernel) (by decide +kernel)
set_option maxRecDepth 20000 in
theorem gX5_at_X5_placeBy : GoodIn wsX5_at (wsV RX5 144 RX5 yX5_placeBy wsX5_placeBy) := goodIn_app (goodIn_of _ (by decide +kernel)) ggX5_at_X5_placeBy
theorem dX5_at_0 : decode cX5_at 0 = .ok (.iload_n 1, 1) := by decide +kernel
theorem dX5_at_1 : decode cX5_at 1 = .ok (.invokestatic 138, 3) := by decide +kernel
theorem dX5_at_4 : decode cX5_at 4 = .ok (.ifCond .eq 17, 3) := by decide +kernel
theorem dX5_at_7 : decode cX5_at 7 = .ok (.iload_n 2, 1) := by decide +kernel
theorem dX5_at_8 : decode cX5_at 8 = .ok (.invokestatic 58, 3) := by decide +kernel
theorem dX5_at_11 : decode cX5_at 11 = .ok (.ifCond .eq 10, 3) := by decide +kernel
theorem dX5_at_14 : decode cX5_at 14 = .ok (.iload_n 3, 1) := by decide +kernel
theorem dX5_at_15 : decode cX5_at 15 = .ok (.invokestatic 58, 3) := by decide +kernel
theorem dX5_at_18 : decode cX5_at 18 = .ok (.ifCond .ne 6, 3) := by decide +kernel
theorem dX5_at_21 : decode cX5_at 21 = .ok (.bipush (-2), 2) := by decide +kernel
theorem dX5_at_23 : decode cX5_at 23 = .ok (.ireturn, 1) := by decide +kernel
theorem dX5_at_24 : decode cX5_at 24 = .ok (.iconst 0, 1) := by decide +kernel
theorem dX5_at_25 : decode cX5_at 25 = .ok (.istore 4, 2) := by decide +kernel
theorem dX5_at_27 : decode cX5_at 27 = .ok (.iconst 0, 1) := by decide +kernel
theorem dX5_at_28 : decode cX5_at 28 = .ok (.istore 5, 2) := by decide +kernel
theorem dX5_at_30 : decode cX5_at 30 = .ok (.iload 5, 2) := by decide +kernel
theorem dX5_at_32 : decode cX5_at 32 = .ok (.aload_n 0, 1) := by decide +kernel
theorem dX5_at_33 : decode cX5_at 33 = .ok (.getfield 132, 3) := by decide +kernel
theorem dX5_at_36 : decode cX5_at 36 = .ok (.if_icmp .ge 38, 3) := by decide +kernel
theorem dX5_at_39 : decode cX5_at 39 = .ok (.iload 4, 2) := by decide +kernel
theorem dX5_at_41 : decode cX5_at 41 = .ok (.aload_n 0, 1) := by decide +kernel
theorem dX5_at_42 : decode cX5_at 42 = .ok (.iload 5, 2) := by decide +kernel
theorem dX5_at_44 : decode cX5_at 44 = .ok (.iload_n 2, 1) := by decide +kernel
theorem dX5_at_45 : decode cX5_at 45 = .ok (.aload_n 0, 1) := by decide +kernel
theorem dX5_at_46 : decode cX5_at 46 = .ok (.getfield 141, 3) := by decide +kernel
theorem dX5_at_49 : decode cX5_at 49 = .ok (.iload_n 3, 1) := by decide +kernel
theorem dX5_at_50 : decode cX5_at 50 = .ok (.invokevirtual 144, 3) := by decide +kernel
theorem dX5_at_53 : decode cX5_at 53 = .ok (.iload_n 1, 1) := by decide +kernel
theorem dX5_at_54 : decode cX5_at 54 = .ok (.if_icmp .ne 10, 3) := by decide +kernel
theorem dX5_at_57 : decode cX5_at 57 = .ok (.iconst 1, 1) := by decide +kernel
theorem dX5_at_58 : decode cX5_at 58 = .ok (.iload 5, 2) := by decide +kernel
theorem dX5_at_60 : decode cX5_at 60 = .ok (.ishl, 1) := by decide +kernel
theorem dX5_at_61 : decode cX5_at 61 = .ok (.goto 4, 3) := by decide +kernel
theorem dX5_at_64 : decode cX5_at 64 = .ok (.iconst 0, 1) := by decide +kernel
theorem dX5_at_65 : decode cX5_at 65 = .ok (.ior, 1) := by decide +kernel
theorem dX5_at_66 : decode cX5_at 66 = .ok (.istore 4, 2) := by decide +kernel
theorem dX5_at_68 : decode cX5_at 68 = .ok (.iinc 5 1, 3) := by decide +kernel
theorem dX5_at_71 : decode cX5_at 71 = .ok (.goto (-41), 3) := by decide +kernel
theorem dX5_at_74 : decode cX5_at 74 = .ok (.iload 4, 2) := by decide +kernel
theorem dX5_at_76 : decode cX5_at 76 = .ok (.ireturn, 1) := by decide +kernel
set_option maxRecDepth 20000 in
theorem ggX5_turns_X5_isFigure : GoodIn wsX5_turns wsX5_isFigure := goodIn_r _ [6, 7, 8, 9, 5, 10, 19, 20, 21, 22, 23, 24, 25, 26, 27, 28, 29, 30, 31, 32, 33, 34, 35, 36, 37, 38, 39, 40, 41, 42] (by decide +kernel) (by decide +kernel)
set_option maxRecDepth 20000 in
theorem gX5_turns_X5_isFigure : GoodIn wsX5_turns (wsV RX5 135 RX5 yX5_isFigure wsX5_isFigure) := goodIn_app (goodIn_of _ (by decide +kernel)) ggX5_turns_X5_isFigure
set_option maxRecDepth 20000 in
theorem ggX5_turns_X5_isDay : GoodIn wsX5_turns wsX5_isDay := goodIn_r _ [13, 8, 9, 5, 10] (by decide +kernel) (by decide +kernel)
set_option maxRecDepth 20000 in
theorem gX5_turns_X5_isDay : GoodIn wsX5_turns (va_wsS RX5 58 yX5_isDay wsX5_isDay) := goodIn_app (goodIn_of _ (by decide +kernel)) ggX5_turns_X5_isDay
set_option maxRecDepth 20000 in
theorem ggX5_turns_X5_placeBy : GoodIn wsX5_turns wsX5_placeBy := goodIn_r _ [17, 18, 19, 20, 21, 22, 23, 24, 25, 26, 27, 28, 29, 30, 31, 32, 33, 34, 35, 36, 37, 38, 39, 40, 41, 42] (by decide +kernel) (by decide +kernel)
set_option maxRecDepth 20000 in
theorem gX5_turns_X5_placeBy : GoodIn wsX5_turns (wsV RX5 144 RX5 yX5_placeBy wsX5_placeBy) := goodIn_app (goodIn_of _ (by decide +kernel)) ggX5_turns_X5_placeBy
theorem dX5_turns_0 : decode cX5_turns 0 = .ok (.aload_n 0, 1) := by decide +kernel
theorem dX5_turns_1 : decode cX5_turns 1 = .ok (.iload_n 1, 1) := by decide +kernel
theorem dX5_turns_2 : decode cX5_turns 2 = .ok (.invokevirtual 135, 3) := by decide +kernel
theorem dX5_turns_5 : decode cX5_turns 5 = .ok (.ifCond .ne 5, 3) := by decide +kernel
theorem dX5_turns_8 : decode cX5_turns 8 = .ok (.iconst (-1), 1) := by decide +kernel
theorem dX5_turns_9 : decode cX5_turns 9 = .ok (.ireturn, 1) := by decide +kernel
theorem dX5_turns_10 : decode cX5_turns 10 = .ok (.iload_n 2, 1) := by decide +kernel
theorem dX5_turns_11 : decode cX5_turns 11 = .ok (.invokestatic 58, 3) := by decide +kernel
theorem dX5_turns_14 : decode cX5_turns 14 = .ok (.ifCond .ne 6, 3) := by decide +kernel
theorem dX5_turns_17 : decode cX5_turns 17 = .ok (.bipush (-2), 2) := by decide +kernel
theorem dX5_turns_19 : decode cX5_turns 19 = .ok (.ireturn, 1) := by decide +kernel
theorem dX5_turns_20 : decode cX5_turns 20 = .ok (.iconst 0, 1) := by decide +kernel
theorem dX5_turns_21 : decode cX5_turns 21 = .ok (.istore_n 3, 1) := by decide +kernel
theorem dX5_turns_22 : decode cX5_turns 22 = .ok (.iconst 0, 1) := by decide +kernel
theorem dX5_turns_23 : decode cX5_turns 23 = .ok (.istore 4, 2) := by decide +kernel
theorem dX5_turns_25 : decode cX5_turns 25 = .ok (.iload 4, 2) := by decide +kernel
theorem dX5_turns_27 : decode cX5_turns 27 = .ok (.aload_n 0, 1) := by decide +kernel
theorem dX5_turns_28 : decode cX5_turns 28 = .ok (.getfield 141, 3) := by decide +kernel
theorem dX5_turns_31 : decode cX5_turns 31 = .ok (.if_icmp .ge 44, 3) := by decide +kernel
theorem dX5_turns_34 : decode cX5_turns 34 = .ok (.iload_n 3, 1) := by decide +kernel
theorem dX5_turns_35 : decode cX5_turns 35 = .ok (.aload_n 0, 1) := by decide +kernel
theorem dX5_turns_36 : decode cX5_turns 36 = .ok (.iload_n 1, 1) := by decide +kernel
theorem dX5_turns_37 : decode cX5_turns 37 = .ok (.iload_n 2, 1) := by decide +kernel
theorem dX5_turns_38 : decode cX5_turns 38 = .ok (.iload 4, 2) := by decide +kernel
theorem dX5_turns_40 : decode cX5_turns 40 = .ok (.sipush 3000, 3) := by decide +kernel
theorem dX5_turns_43 : decode cX5_turns 43 = .ok (.invokevirtual 144, 3) := by decide +kernel
theorem dX5_turns_46 : decode cX5_turns 46 = .ok (.aload_n 0, 1) := by decide +kernel
theorem dX5_turns_47 : decode cX5_turns 47 = .ok (.iload_n 1, 1) := by decide +kernel
theorem dX5_turns_48 : decode cX5_turns 48 = .ok (.iload_n 2, 1) := by decide +kernel
theorem dX5_turns_49 : decode cX5_turns 49 = .ok (.iload 4, 2) := by decide +kernel
theorem dX5_turns_51 : decode cX5_turns 51 = .ok (.iconst 1, 1) := by decide +kernel
theorem dX5_turns_52 : decode cX5_turns 52 = .ok (.iadd, 1) := by decide +kernel
theorem dX5_turns_53 : decode cX5_turns 53 = .ok (.sipush 3000, 3) := by decide +kernel
theorem dX5_turns_56 : decode cX5_turns 56 = .ok (.invokevirtual 144, 3) := by decide +kernel
theorem dX5_turns_59 : decode cX5_turns 59 = .ok (.if_icmp .eq 7, 3) := by decide +kernel
theorem dX5_turns_62 : decode cX5_turns 62 = .ok (.iconst 1, 1) := by decide +kernel
theorem dX5_turns_63 : decode cX5_turns 63 = .ok (.goto 4, 3) := by decide +kernel
theorem dX5_turns_66 : decode cX5_turns 66 = .ok (.iconst 0, 1) := by decide +kernel
theorem dX5_turns_67 : decode cX5_turns 67 = .ok (.iadd, 1) := by decide +kernel
theorem dX5_turns_68 : decode cX5_turns 68 = .ok (.istore_n 3, 1) := by decide +kernel
theorem dX5_turns_69 : decode cX5_turns 69 = .ok (.iinc 4 1, 3) := by decide +kernel
theorem dX5_turns_72 : decode cX5_turns 72 = .ok (.goto (-47), 3) := by decide +kernel
theorem dX5_turns_75 : decode cX5_turns 75 = .ok (.iload_n 3, 1) := by decide +kernel
theorem dX5_turns_76 : decode cX5_turns 76 = .ok (.ireturn, 1) := by decide +kernel
theorem dX5_told_0 : decode cX5_told 0 = .ok (.iload_n 1, 1) := by decide +kernel
theorem dX5_told_1 : decode cX5_told 1 = .ok (.tableswitch 105 0 9 #[55, 60, 65, 70, 75, 80, 85, 90, 95, 100], 55) := by decide +kernel
theorem dX5_told_56 : decode cX5_told 56 = .ok (.aload_n 0, 1) := by decide +kernel
theorem dX5_told_57 : decode cX5_told 57 = .ok (.getfield 62, 3) := by decide +kernel
theorem dX5_told_60 : decode cX5_told 60 = .ok (.ireturn, 1) := by decide +kernel
theorem dX5_told_61 : decode cX5_told 61 = .ok (.aload_n 0, 1) := by decide +kernel
theorem dX5_told_62 : decode cX5_told 62 = .ok (.getfield 70, 3) := by decide +kernel
theorem dX5_told_65 : decode cX5_told 65 = .ok (.ireturn, 1) := by decide +kernel
theorem dX5_told_66 : decode cX5_told 66 = .ok (.aload_n 0, 1) := by decide +kernel
theorem dX5_told_67 : decode cX5_told 67 = .ok (.getfield 85, 3) := by decide +kernel
theorem dX5_told_70 : decode cX5_told 70 = .ok (.ireturn, 1) := by decide +kernel
theorem dX5_told_71 : decode cX5_told 71 = .ok (.aload_n 0, 1) := by decide +kernel
theorem dX5_told_72 : decode cX5_told 72 = .ok (.getfield 91, 3) := by decide +kernel
theorem dX5_told_75 : decode cX5_told 75 = .ok (.ireturn, 1) := by decide +kernel
theorem dX5_told_76 : decode cX5_told 76 = .ok (.aload_n 0, 1) := by decide +kernel
theorem dX5_told_77 : decode cX5_told 77 = .ok (.getfield 25, 3) := by decide +kernel
theorem dX5_told_80 : decode cX5_told 80 = .ok (.ireturn, 1) := by decide +kernel
theorem dX5_told_81 : decode cX5_told 81 = .ok (.aload_n 0, 1) := by decide +kernel
theorem dX5_told_82 : decode cX5_told 82 = .ok (.getfield 104, 3) := by decide +kernel
theorem dX5_told_85 : decode cX5_told 85 = .ok (.ireturn, 1) := by decide +kernel
theorem dX5_told_86 : decode cX5_told 86 = .ok (.aload_n 0, 1) := by decide +kernel
theorem dX5_told_87 : decode cX5_told 87 = .ok (.getfield 110, 3) := by decide +kernel
theorem dX5_told_90 : decode cX5_told 90 = .ok (.ireturn, 1) := by decide +kernel
theorem dX5_told_91 : decode cX5_told 91 = .ok (.aload_n 0, 1) := by decide +kernel
theorem dX5_told_92 : decode cX5_told 92 = .ok (.getfield 129, 3) := by decide +kernel
theorem dX5_told_95 : decode cX5_told 95 = .ok (.ireturn, 1) := by decide +kernel
theorem dX5_told_96 : decode cX5_told 96 = .ok (.aload_n 0, 1) := by decide +kernel
theorem dX5_told_97 : decode cX5_told 97 = .ok (.getfield 132, 3) := by decide +kernel
theorem dX5_told_100 : decode cX5_told 100 = .ok (.ireturn, 1) := by decide +kernel
theorem dX5_told_101 : decode cX5_told 101 = .ok (.aload_n 0, 1) := by decide +kernel
theorem dX5_told_102 : decode cX5_told 102 = .ok (.getfield 141, 3) := by decide +kernel
theorem dX5_told_105 : decode cX5_told 105 = .ok (.ireturn, 1) := by decide +kernel
theorem dX5_told_106 : decode cX5_told 106 = .ok (.bipush (-2), 2) := by decide +kernel
theorem dX5_told_108 : decode cX5_told 108 = .ok (.ireturn, 1) := by decide +kernel
theorem dJ9_min_7cf53_0 : decode cJ9_min_7cf53 0 = .ok (.iload_n 0, 1) := by decide +kernel
theorem dJ9_min_7cf53_1 : decode cJ9_min_7cf53 1 = .ok (.iload_n 1, 1) := by decide +kernel
theorem dJ9_min_7cf53_2 : decode cJ9_min_7cf53 2 = .ok (.if_icmp .gt 7, 3) := by decide +kernel
theorem dJ9_min_7cf53_5 : decode cJ9_min_7cf53 5 = .ok (.iload_n 0, 1) := by decide +kernel
theorem dJ9_min_7cf53_6 : decode cJ9_min_7cf53 6 = .ok (.goto 4, 3) := by decide +kernel
theorem dJ9_min_7cf53_9 : decode cJ9_min_7cf53 9 = .ok (.iload_n 1, 1) := by decide +kernel
theorem dJ9_min_7cf53_10 : decode cJ9_min_7cf53 10 = .ok (.ireturn, 1) := by decide +kernel
end
section
set_option maxRecDepth 20000 in
theorem ggL_law_X4_init : GoodIn wsL_law wsX4_init := goodIn_r _ [8, 9, 10, 11, 12, 13, 14, 15, 16, 17, 18, 19, 20, 21, 22, 23, 24, 25, 26, 27, 28, 29, 30, 31, 32, 33, 34, 35, 36, 37, 38, 39, 40, 41, 42, 43, 44, 45, 46, 47, 48, 49, 50, 51, 52, 53, 54, 55, 56, 57, 58, 59, 60, 61, 62, 63, 64, 65, 66, 67, 68, 69, 70, 71, 72, 73, 74, 75, 76, 676, 677, 678, 679, 680, 681, 682, 683, 684, 685, 686, 687, 688, 648, 649, 650, 651, 689, 690, 691, 692, 693, 694, 695, 696, 697, 698, 699, 700, 701, 702, 703, 704, 705, 706, 707, 708, 709, 710, 711, 712, 713, 714, 715, 716, 717, 718, 719, 720, 721, 722] (by decide +kernel) (by decide +kernel)
set_option maxRecDepth 20000 in
theorem gL_law_X4_init : GoodIn wsL_law (wsX4_init) := ggL_law_X4_init
set_option maxRecDepth 20000 in
theorem ggL_law_X5_init : GoodIn wsL_law wsX5_init := goodIn_r _ [79, 80, 10, 11, 31, 81, 82, 83, 84, 85, 86, 47, 87, 88, 89, 90, 91, 92, 93, 94, 652, 653, 654, 655, 656, 657, 658, 659, 660, 661, 662, 663, 664, 665, 666, 667, 668, 669, 670, 671, 672, 673, 674, 675] (by decide +kernel) (by decide +kernel)
set_option maxRecDepth 20000 in
theorem gL_law_X5_init : GoodIn wsL_law (wsX5_init) := ggL_law_X5_init
set_option maxRecDepth 20000 in
theorem ggL_law_X4_rule : GoodIn wsL_law wsX4_rule := goodIn_r _ [98, 15, 99, 100, 101, 14, 102, 103, 32, 33, 34, 104, 2, 105, 106, 107, 108, 648, 649, 650, 651, 676, 677, 678, 679, 680, 681, 682, 683, 684, 685, 686, 687, 688] (by decide +kernel) (by decide +kernel)
set_option maxRecDepth 20000 in
theorem gL_law_X4_rule : GoodIn wsL_law (wsV RL 13 RX4 yX4_rule wsX4_rule) := goodIn_app (goodIn_of _ (by decide +kernel)) ggL_law_X4_rule
set_option maxRecDepth 20000 in
theorem ggL_law_X5_rule : GoodIn wsL_law wsX5_rule := goodIn_r _ [112, 113, 81, 114, 115, 5, 116, 117, 118, 119, 652, 653, 654, 655, 656, 657, 658, 659, 660, 661, 662, 663, 664, 665, 666, 667, 668, 669, 670, 671, 672, 673, 674, 675] (by decide +kernel) (by decide +kernel)
set_option maxRecDepth 20000 in
theorem gL_law_X5_rule : GoodIn wsL_law (wsV RL 17 RX5 yX5_rule wsX5_rule) := goodIn_app (goodIn_of _ (by decide +kernel)) ggL_law_X5_rule
set_option maxRecDepth 20000 in
theorem ggL_law_X4_force : GoodIn wsL_law wsX4_force := goodIn_r _ [123, 15, 124, 125, 126, 14, 127, 104, 2, 105, 106, 107, 108, 128, 129, 130, 131, 33, 132, 133, 134, 135, 103, 32, 136, 137, 138, 139, 34, 648, 649, 650, 651, 676, 677, 678, 679, 680, 681, 682, 683, 684, 685, 686, 687, 688] (by decide +kernel) (by decide +kernel)
set_option maxRecDepth 20000 in
theorem gL_law_X4_force : GoodIn wsL_law (wsV RL 18 RX4 yX4_force wsX4_force) := goodIn_app (goodIn_of _ (by decide +kernel)) ggL_law_X4_force
set_option maxRecDepth 20000 in
theorem ggL_law_X5_force : GoodIn wsL_law wsX5_force := goodIn_r _ [143, 114, 115, 5, 116, 117, 118, 119, 144, 145, 146, 147, 113, 81, 652, 653, 654, 655, 656, 657, 658, 659, 660, 661, 662, 663, 664, 665, 666, 667, 668, 669, 670, 671, 672, 673, 674, 675] (by decide +kernel) (by decide +kernel)
set_option maxRecDepth 20000 in
theorem gL_law_X5_force : GoodIn wsL_law (wsV RL 22 RX5 yX5_force wsX5_force) := goodIn_app (goodIn_of _ (by decide +kernel)) ggL_law_X5_force
set_option maxRecDepth 20000 in
theorem ggL_law_X4_thing : GoodIn wsL_law wsX4_thing := goodIn_r _ [151, 15, 152, 153, 154, 14, 155, 156, 157, 35, 36, 37, 38, 107, 2, 108, 648, 649, 650, 651, 676, 677, 678, 679, 680, 681, 682, 683, 684, 685, 686, 687, 688] (by decide +kernel) (by decide +kernel)
set_option maxRecDepth 20000 in
theorem gL_law_X4_thing : GoodIn wsL_law (wsV RL 23 RX4 yX4_thing wsX4_thing) := goodIn_app (goodIn_of _ (by decide +kernel)) ggL_law_X4_thing
set_option maxRecDepth 20000 in
theorem ggL_law_X5_thing : GoodIn wsL_law wsX5_thing := goodIn_r _ [161, 162, 163, 82, 117, 118, 5, 119, 652, 653, 654, 655, 656, 657, 658, 659, 660, 661, 662, 663, 664, 665, 666, 667, 668, 669, 670, 671, 672, 673, 674, 675] (by decide +kernel) (by decide +kernel)
set_option maxRecDepth 20000 in
theorem gL_law_X5_thing : GoodIn wsL_law (wsV RL 27 RX5 yX5_thing wsX5_thing) := goodIn_app (goodIn_of _ (by decide +kernel)) ggL_law_X5_thing
set_option maxRecDepth 20000 in
theorem ggL_law_X4_clip : GoodIn wsL_law wsX4_clip := goodIn_r _ [167, 15, 168, 169, 170, 14, 171, 35, 172, 40, 39, 41, 173, 174, 175, 176, 157, 107, 2, 108, 104, 105, 106, 177, 178, 179, 180, 181, 182, 183, 184, 37, 38, 648, 649, 650, 651, 676, 677, 678, 679, 680, 681, 682, 683, 684, 685, 686, 687, 688] (by decide +kernel) (by decide +kernel)
set_option maxRecDepth 20000 in
theorem gL_law_X4_clip : GoodIn wsL_law (wsV RL 28 RX4 yX4_clip wsX4_clip) := goodIn_app (goodIn_of _ (by decide +kernel)) ggL_law_X4_clip
set_option maxRecDepth 20000 in
theorem ggL_law_X5_clip : GoodIn wsL_law wsX5_clip := goodIn_r _ [188, 82, 189, 83, 190, 191, 192, 5, 193, 163, 117, 118, 119, 114, 115, 116, 194, 195, 196, 197, 652, 653, 654, 655, 656, 657, 658, 659, 660, 661, 662, 663, 664, 665, 666, 667, 668, 669, 670, 671, 672, 673, 674, 675] (by decide +kernel) (by decide +kernel)
set_option maxRecDepth 20000 in
theorem gL_law_X5_clip : GoodIn wsL_law (wsV RL 31 RX5 yX5_clip wsX5_clip) := goodIn_app (goodIn_of _ (by decide +kernel)) ggL_law_X5_clip
set_option maxRecDepth 20000 in
theorem ggL_law_X4_look : GoodIn wsL_law wsX4_look := goodIn_r _ [201, 15, 202, 203, 204, 14, 205, 173, 174, 175, 176, 157, 107, 2, 108, 104, 105, 106, 181, 182, 183, 184, 40, 37, 41, 38, 177, 178, 179, 180, 172, 39, 206, 207, 208, 209, 36, 128, 129, 130, 131, 33, 132, 133, 134, 135, 103, 32, 210, 211, 212, 213, 35, 136, 137, 138, 139, 34, 648, 649, 650, 651, 676, 677, 678, 679, 680, 681, 682, 683, 684, 685, 686, 687, 688] (by decide +kernel) (by decide +kernel)
set_option maxRecDepth 20000 in
theorem gL_law_X4_look : GoodIn wsL_law (wsV RL 32 RX4 yX4_look wsX4_look) := goodIn_app (goodIn_of _ (by decide +kernel)) ggL_law_X4_look
set_option maxRecDepth 20000 in
theorem ggL_law_X5_look : GoodIn wsL_law wsX5_look := goodIn_r _ [217, 82, 190, 191, 192, 5, 193, 163, 117, 118, 119, 114, 115, 116, 194, 195, 196, 197, 189, 83, 144, 145, 146, 147, 113, 81, 218, 219, 220, 221, 652, 653, 654, 655, 656, 657, 658, 659, 660, 661, 662, 663, 664, 665, 666, 667, 668, 669, 670, 671, 672, 673, 674, 675] (by decide +kernel) (by decide +kernel)
set_option maxRecDepth 20000 in
theorem gL_law_X5_look : GoodIn wsL_law (wsV RL 35 RX5 yX5_look wsX5_look) := goodIn_app (goodIn_of _ (by decide +kernel)) ggL_law_X5_look
set_option maxRecDepth 20000 in
theorem ggL_law_X4_fault : GoodIn wsL_law wsX4_fault := goodIn_r _ [225, 15, 226, 227, 228, 14, 229, 157, 104, 2, 105, 106, 107, 108, 210, 211, 212, 213, 35, 206, 207, 208, 209, 36, 128, 129, 130, 131, 33, 132, 133, 134, 135, 103, 32, 136, 137, 138, 139, 34, 181, 182, 183, 184, 40, 37, 41, 38, 177, 178, 179, 180, 172, 39, 648, 649, 650, 651, 676, 677, 678, 679, 680, 681, 682, 683, 684, 685, 686, 687, 688] (by decide +kernel) (by decide +kernel)
set_option maxRecDepth 20000 in
theorem gL_law_X4_fault : GoodIn wsL_law (wsV RL 36 RX4 yX4_fault wsX4_fault) := goodIn_app (goodIn_of _ (by decide +kernel)) ggL_law_X4_fault
set_option maxRecDepth 20000 in
theorem ggL_law_X5_fault : GoodIn wsL_law wsX5_fault := goodIn_r _ [233, 163, 114, 115, 5, 116, 117, 118, 119, 218, 219, 220, 221, 82, 144, 145, 146, 147, 113, 81, 194, 195, 196, 197, 189, 83, 652, 653, 654, 655, 656, 657, 658, 659, 660, 661, 662, 663, 664, 665, 666, 667, 668, 669, 670, 671, 672, 673, 674, 675] (by decide +kernel) (by decide +kernel)
set_option maxRecDepth 20000 in
theorem gL_law_X5_fault : GoodIn wsL_law (wsV RL 40 RX5 yX5_fault wsX5_fault) := goodIn_app (goodIn_of _ (by decide +kernel)) ggL_law_X5_fault
set_option maxRecDepth 20000 in
theorem ggL_law_X4_spoils : GoodIn wsL_law wsX4_spoils := goodIn_r _ [237, 15, 238, 239, 240, 14, 241, 173, 174, 175, 176, 157, 107, 2, 108, 104, 105, 106, 210, 211, 212, 213, 35, 206, 207, 208, 209, 36, 128, 129, 130, 131, 33, 132, 133, 134, 135, 103, 32, 136, 137, 138, 139, 34, 181, 182, 183, 184, 40, 37, 41, 38, 177, 178, 179, 180, 172, 39, 648, 649, 650, 651, 676, 677, 678, 679, 680, 681, 682, 683, 684, 685, 686, 687, 688] (by decide +kernel) (by decide +kernel)
set_option maxRecDepth 20000 in
theorem gL_law_X4_spoils : GoodIn wsL_law (wsV RL 41 RX4 yX4_spoils wsX4_spoils) := goodIn_app (goodIn_of _ (by decide +kernel)) ggL_law_X4_spoils
set_option maxRecDepth 20000 in
theorem ggL_law_X5_spoils : GoodIn wsL_law wsX5_spoils := goodIn_r _ [245, 190, 191, 192, 5, 193, 163, 117, 118, 119, 114, 115, 116, 218, 219, 220, 221, 82, 144, 145, 146, 147, 113, 81, 194, 195, 196, 197, 189, 83, 652, 653, 654, 655, 656, 657, 658, 659, 660, 661, 662, 663, 664, 665, 666, 667, 668, 669, 670, 671, 672, 673, 674, 675] (by decide +kernel) (by decide +kernel)
set_option maxRecDepth 20000 in
theorem gL_law_X5_spoils : GoodIn wsL_law (wsV RL 44 RX5 yX5_spoils wsX5_spoils) := goodIn_app (goodIn_of _ (by decide +kernel)) ggL_law_X5_spoils
set_option maxRecDepth 20000 in
theorem ggL_law_X4_fade : GoodIn wsL_law wsX4_fade := goodIn_r _ [249, 19, 250, 251, 252, 18, 253, 46, 107, 2, 108, 648, 649, 650, 651, 689, 690, 691, 692, 693, 694, 695, 696, 697, 698, 699, 700, 701, 702, 703, 704] (by decide +kernel) (by decide +kernel)
set_option maxRecDepth 20000 in
theorem gL_law_X4_fade : GoodIn wsL_law (wsV RL 45 RX4 yX4_fade wsX4_fade) := goodIn_app (goodIn_of _ (by decide +kernel)) ggL_law_X4_fade
set_option maxRecDepth 20000 in
theorem ggL_law_X5_fade : GoodIn wsL_law wsX5_fade := goodIn_r _ [257, 84, 117, 118, 5, 119, 652, 653, 654, 655, 656, 657, 658, 659, 660, 661, 662, 663, 664, 665, 666, 667, 668, 669, 670, 671, 672, 673, 674, 675] (by decide +kernel) (by decide +kernel)
set_option maxRecDepth 20000 in
theorem gL_law_X5_fade : GoodIn wsL_law (wsV RL 48 RX5 yX5_fade wsX5_fade) := goodIn_app (goodIn_of _ (by decide +kernel)) ggL_law_X5_fade
set_option maxRecDepth 20000 in
theorem ggL_law_X4_wall : GoodIn wsL_law wsX4_wall := goodIn_r _ [261, 19, 262, 263, 264, 18, 265, 266, 50, 51, 52, 53, 107, 2, 108, 648, 649, 650, 651, 689, 690, 691, 692, 693, 694, 695, 696, 697, 698, 699, 700, 701, 702, 703, 704] (by decide +kernel) (by decide +kernel)
set_option maxRecDepth 20000 in
theorem gL_law_X4_wall : GoodIn wsL_law (wsV RL 49 RX4 yX4_wall wsX4_wall) := goodIn_app (goodIn_of _ (by decide +kernel)) ggL_law_X4_wall
set_option maxRecDepth 20000 in
theorem ggL_law_X5_wall : GoodIn wsL_law wsX5_wall := goodIn_r _ [270, 271, 85, 117, 118, 5, 119, 652, 653, 654, 655, 656, 657, 658, 659, 660, 661, 662, 663, 664, 665, 666, 667, 668, 669, 670, 671, 672, 673, 674, 675] (by decide +kernel) (by decide +kernel)
set_option maxRecDepth 20000 in
theorem gL_law_X5_wall : GoodIn wsL_law (wsV RL 52 RX5 yX5_wall wsX5_wall) := goodIn_app (goodIn_of _ (by decide +kernel)) ggL_law_X5_wall
set_option maxRecDepth 20000 in
theorem ggL_law_X4_wallOf : GoodIn wsL_law wsX4_wallOf := goodIn_r _ [275, 19, 276, 277, 278, 18, 279, 266, 50, 51, 52, 53, 54, 107, 2, 108, 648, 649, 650, 651, 689, 690, 691, 692, 693, 694, 695, 696, 697, 698, 699, 700, 701, 702, 703, 704] (by decide +kernel) (by decide +kernel)
set_option maxRecDepth 20000 in
theorem gL_law_X4_wallOf : GoodIn wsL_law (wsV RL 53 RX4 yX4_wallOf wsX4_wallOf) := goodIn_app (goodIn_of _ (by decide +kernel)) ggL_law_X4_wallOf
set_option maxRecDepth 20000 in
theorem ggL_law_X5_wallOf : GoodIn wsL_law wsX5_wallOf := goodIn_r _ [283, 271, 85, 117, 118, 5, 119, 652, 653, 654, 655, 656, 657, 658, 659, 660, 661, 662, 663, 664, 665, 666, 667, 668, 669, 670, 671, 672, 673, 674, 675] (by decide +kernel) (by decide +kernel)
set_option maxRecDepth 20000 in
theorem gL_law_X5_wallOf : GoodIn wsL_law (wsV RL 56 RX5 yX5_wallOf wsX5_wallOf) := goodIn_app (goodIn_of _ (by decide +kernel)) ggL_law_X5_wallOf
set_option maxRecDepth 20000 in
theorem ggL_law_X4_hands : GoodIn wsL_law wsX4_hands := goodIn_r _ [287, 19, 288, 289, 290, 18, 291, 49, 107, 2, 108, 648, 649, 650, 651, 689, 690, 691, 692, 693, 694, 695, 696, 697, 698, 699, 700, 701, 702, 703, 704] (by decide +kernel) (by decide +kernel)
set_option maxRecDepth 20000 in
theorem gL_law_X4_hands : GoodIn wsL_law (wsV RL 57 RX4 yX4_hands wsX4_hands) := goodIn_app (goodIn_of _ (by decide +kernel)) ggL_law_X4_hands
set_option maxRecDepth 20000 in
theorem ggL_law_X5_hands : GoodIn wsL_law wsX5_hands := goodIn_r _ [295, 86, 296, 297, 5, 298, 117, 118, 119, 652, 653, 654, 655, 656, 657, 658, 659, 660, 661, 662, 663, 664, 665, 666, 667, 668, 669, 670, 671, 672, 673, 674, 675] (by decide +kernel) (by decide +kernel)
set_option maxRecDepth 20000 in
theorem gL_law_X5_hands : GoodIn wsL_law (wsV RL 60 RX5 yX5_hands wsX5_hands) := goodIn_app (goodIn_of _ (by decide +kernel)) ggL_law_X5_hands
set_option maxRecDepth 20000 in
theorem ggL_law_X4_frost : GoodIn wsL_law wsX4_frost := goodIn_r _ [302, 19, 303, 304, 305, 18, 306, 307, 48, 107, 2, 108, 308, 309, 648, 649, 650, 651, 689, 690, 691, 692, 693, 694, 695, 696, 697, 698, 699, 700, 701, 702, 703, 704] (by decide +kernel) (by decide +kernel)
set_option maxRecDepth 20000 in
theorem gL_law_X4_frost : GoodIn wsL_law (wsV RL 61 RX4 yX4_frost wsX4_frost) := goodIn_app (goodIn_of _ (by decide +kernel)) ggL_law_X4_frost
set_option maxRecDepth 20000 in
theorem ggL_law_X5_frost : GoodIn wsL_law wsX5_frost := goodIn_r _ [313, 314, 87, 117, 118, 5, 119, 652, 653, 654, 655, 656, 657, 658, 659, 660, 661, 662, 663, 664, 665, 666, 667, 668, 669, 670, 671, 672, 673, 674, 675] (by decide +kernel) (by decide +kernel)
set_option maxRecDepth 20000 in
theorem gL_law_X5_frost : GoodIn wsL_law (wsV RL 65 RX5 yX5_frost wsX5_frost) := goodIn_app (goodIn_of _ (by decide +kernel)) ggL_law_X5_frost
set_option maxRecDepth 20000 in
theorem ggL_law_X4_week : GoodIn wsL_law wsX4_week := goodIn_r _ [318, 19, 319, 320, 321, 18, 322, 307, 49, 53, 54, 323, 324, 325, 326, 48, 266, 46, 51, 327, 328, 329, 330, 52, 331, 332, 333, 334, 335, 336, 337, 338, 339, 648, 649, 650, 651, 689, 690, 691, 692, 693, 694, 695, 696, 697, 698, 699, 700, 701, 702, 703, 704] (by decide +kernel) (by decide +kernel)
set_option maxRecDepth 20000 in
theorem gL_law_X4_week : GoodIn wsL_law (wsV RL 66 RX4 yX4_week wsX4_week) := goodIn_app (goodIn_of _ (by decide +kernel)) ggL_law_X4_week
set_option maxRecDepth 20000 in
theorem ggL_law_X5_week : GoodIn wsL_law wsX5_week := goodIn_r _ [343, 314, 86, 271, 85, 92, 93, 344, 345, 346, 5, 347, 348, 349, 350, 351, 87, 84, 652, 653, 654, 655, 656, 657, 658, 659, 660, 661, 662, 663, 664, 665, 666, 667, 668, 669, 670, 671, 672, 673, 674, 675] (by decide +kernel) (by decide +kernel)
set_option maxRecDepth 20000 in
theorem gL_law_X5_week : GoodIn wsL_law (wsV RL 70 RX5 yX5_week wsX5_week) := goodIn_app (goodIn_of _ (by decide +kernel)) ggL_law_X5_week
set_option maxRecDepth 20000 in
theorem ggL_law_X4_foretell : GoodIn wsL_law wsX4_foretell := goodIn_r _ [355, 19, 356, 357, 358, 18, 359, 307, 266, 49, 360, 361, 362, 107, 2, 108, 363, 364, 365, 366, 53, 55, 367, 368, 369, 370, 331, 56, 323, 324, 325, 326, 48, 46, 51, 327, 328, 329, 330, 52, 332, 333, 334, 335, 336, 337, 338, 339, 371, 372, 373, 374, 648, 649, 650, 651, 689, 690, 691, 692, 693, 694, 695, 696, 697, 698, 699, 700, 701, 702, 703, 704] (by decide +kernel) (by decide +kernel)
set_option maxRecDepth 20000 in
theorem gL_law_X4_foretell : GoodIn wsL_law (wsV RL 71 RX4 yX4_foretell wsX4_foretell) := goodIn_app (goodIn_of _ (by decide +kernel)) ggL_law_X4_foretell
set_option maxRecDepth 20000 in
theorem ggL_law_X5_foretell : GoodIn wsL_law wsX5_foretell := goodIn_r _ [378, 314, 271, 86, 94, 117, 118, 5, 119, 379, 380, 381, 382, 92, 344, 345, 346, 347, 85, 348, 349, 350, 351, 93, 87, 84, 652, 653, 654, 655, 656, 657, 658, 659, 660, 661, 662, 663, 664, 665, 666, 667, 668, 669, 670, 671, 672, 673, 674, 675] (by decide +kernel) (by decide +kernel)
set_option maxRecDepth 20000 in
theorem gL_law_X5_foretell : GoodIn wsL_law (wsV RL 74 RX5 yX5_foretell wsX5_foretell) := goodIn_app (goodIn_of _ (by decide +kernel)) ggL_law_X5_foretell
set_option maxRecDepth 20000 in
theorem ggL_law_X4_enough : GoodIn wsL_law wsX4_enough := goodIn_r _ [386, 19, 387, 388, 389, 18, 390, 307, 266, 360, 331, 107, 2, 108, 363, 364, 365, 366, 53, 55, 367, 368, 369, 370, 56, 323, 324, 325, 326, 48, 46, 51, 327, 328, 329, 330, 52, 332, 333, 334, 335, 336, 337, 338, 339, 371, 372, 373, 374, 361, 362, 648, 649, 650, 651, 689, 690, 691, 692, 693, 694, 695, 696, 697, 698, 699, 700, 701, 702, 703, 704] (by decide +kernel) (by decide +kernel)
set_option maxRecDepth 20000 in
theorem gL_law_X4_enough : GoodIn wsL_law (wsV RL 75 RX4 yX4_enough wsX4_enough) := goodIn_app (goodIn_of _ (by decide +kernel)) ggL_law_X4_enough
set_option maxRecDepth 20000 in
theorem ggL_law_X5_enough : GoodIn wsL_law wsX5_enough := goodIn_r _ [394, 314, 271, 94, 117, 118, 5, 119, 379, 380, 381, 382, 92, 344, 345, 346, 347, 85, 348, 349, 350, 351, 93, 87, 84, 652, 653, 654, 655, 656, 657, 658, 659, 660, 661, 662, 663, 664, 665, 666, 667, 668, 669, 670, 671, 672, 673, 674, 675] (by decide +kernel) (by decide +kernel)
set_option maxRecDepth 20000 in
theorem gL_law_X5_enough : GoodIn wsL_law (wsV RL 78 RX5 yX5_enough wsX5_enough) := goodIn_app (goodIn_of _ (by decide +kernel)) ggL_law_X5_enough
set_option maxRecDepth 20000 in
theorem ggL_law_X4_ring : GoodIn wsL_law wsX4_ring := goodIn_r _ [398, 23, 399, 400, 401, 22, 402, 403, 648, 649, 650, 651, 705, 706, 707, 708, 709, 710, 711, 712, 713, 714, 715, 716] (by decide +kernel) (by decide +kernel)
set_option maxRecDepth 20000 in
theorem gL_law_X4_ring : GoodIn wsL_law (wsV RL 79 RX4 yX4_ring wsX4_ring) := goodIn_app (goodIn_of _ (by decide +kernel)) ggL_law_X4_ring
set_option maxRecDepth 20000 in
theorem ggL_law_X5_ring : GoodIn wsL_law wsX5_ring := goodIn_r _ [407, 408, 88, 652, 653, 654, 655, 656, 657, 658, 659, 660, 661, 662, 663, 664, 665, 666, 667, 668, 669, 670, 671, 672, 673, 674, 675] (by decide +kernel) (by decide +kernel)
set_option maxRecDepth 20000 in
theorem gL_law_X5_ring : GoodIn wsL_law (wsV RL 82 RX5 yX5_ring wsX5_ring) := goodIn_app (goodIn_of _ (by decide +kernel)) ggL_law_X5_ring
set_option maxRecDepth 20000 in
theorem ggL_law_X4_block : GoodIn wsL_law wsX4_block := goodIn_r _ [412, 23, 413, 414, 415, 22, 416, 62, 61, 417, 418, 419, 420, 403, 107, 2, 108, 421, 422, 423, 424, 425, 63, 426, 427, 428, 429, 648, 649, 650, 651, 705, 706, 707, 708, 709, 710, 711, 712, 713, 714, 715, 716] (by decide +kernel) (by decide +kernel)
set_option maxRecDepth 20000 in
theorem gL_law_X4_block : GoodIn wsL_law (wsV RL 83 RX4 yX4_block wsX4_block) := goodIn_app (goodIn_of _ (by decide +kernel)) ggL_law_X4_block
set_option maxRecDepth 20000 in
theorem ggL_law_X5_block : GoodIn wsL_law wsX5_block := goodIn_r _ [433, 434, 90, 88, 89, 435, 436, 437, 5, 438, 408, 117, 118, 119, 652, 653, 654, 655, 656, 657, 658, 659, 660, 661, 662, 663, 664, 665, 666, 667, 668, 669, 670, 671, 672, 673, 674, 675] (by decide +kernel) (by decide +kernel)
set_option maxRecDepth 20000 in
theorem gL_law_X5_block : GoodIn wsL_law (wsV RL 86 RX5 yX5_block wsX5_block) := goodIn_app (goodIn_of _ (by decide +kernel)) ggL_law_X5_block
set_option maxRecDepth 20000 in
theorem ggL_law_X4_train : GoodIn wsL_law wsX4_train := goodIn_r _ [442, 23, 443, 444, 445, 22, 446, 62, 425, 61, 63, 64, 65, 417, 418, 419, 420, 403, 107, 2, 108, 447, 448, 449, 450, 451, 452, 453, 454, 648, 649, 650, 651, 705, 706, 707, 708, 709, 710, 711, 712, 713, 714, 715, 716] (by decide +kernel) (by decide +kernel)
set_option maxRecDepth 20000 in
theorem gL_law_X4_train : GoodIn wsL_law (wsV RL 87 RX4 yX4_train wsX4_train) := goodIn_app (goodIn_of _ (by decide +kernel)) ggL_law_X4_train
set_option maxRecDepth 20000 in
theorem ggL_law_X5_train : GoodIn wsL_law wsX5_train := goodIn_r _ [458, 88, 434, 90, 435, 436, 437, 5, 438, 408, 117, 118, 119, 459, 460, 461, 462, 89, 463, 464, 465, 466, 467, 468, 469, 470, 652, 653, 654, 655, 656, 657, 658, 659, 660, 661, 662, 663, 664, 665, 666, 667, 668, 669, 670, 671, 672, 673, 674, 675] (by decide +kernel) (by decide +kernel)
set_option maxRecDepth 20000 in
theorem gL_law_X5_train : GoodIn wsL_law (wsV RL 90 RX5 yX5_train wsX5_train) := goodIn_app (goodIn_of _ (by decide +kernel)) ggL_law_X5_train
set_option maxRecDepth 20000 in
theorem ggL_law_X4_stick : GoodIn wsL_law wsX4_stick := goodIn_r _ [474, 23, 475, 476, 477, 22, 478, 69, 479, 480, 481, 482, 425, 107, 2, 108, 308, 309, 648, 649, 650, 651, 705, 706, 707, 708, 709, 710, 711, 712, 713, 714, 715, 716] (by decide +kernel) (by decide +kernel)
set_option maxRecDepth 20000 in
theorem gL_law_X4_stick : GoodIn wsL_law (wsV RL 91 RX4 yX4_stick wsX4_stick) := goodIn_app (goodIn_of _ (by decide +kernel)) ggL_law_X4_stick
set_option maxRecDepth 20000 in
theorem ggL_law_X5_stick : GoodIn wsL_law wsX5_stick := goodIn_r _ [486, 90, 487, 488, 489, 5, 490, 434, 117, 118, 119, 652, 653, 654, 655, 656, 657, 658, 659, 660, 661, 662, 663, 664, 665, 666, 667, 668, 669, 670, 671, 672, 673, 674, 675] (by decide +kernel) (by decide +kernel)
set_option maxRecDepth 20000 in
theorem gL_law_X5_stick : GoodIn wsL_law (wsV RL 94 RX5 yX5_stick wsX5_stick) := goodIn_app (goodIn_of _ (by decide +kernel)) ggL_law_X5_stick
set_option maxRecDepth 20000 in
theorem ggL_law_X4_run : GoodIn wsL_law wsX4_run := goodIn_r _ [494, 23, 495, 496, 497, 22, 498, 425, 69, 499, 107, 2, 108, 500, 501, 502, 503, 66, 65, 67, 64, 68, 504, 505, 506, 507, 61, 63, 508, 509, 510, 511, 62, 447, 448, 449, 450, 451, 452, 453, 454, 308, 309, 648, 649, 650, 651, 705, 706, 707, 708, 709, 710, 711, 712, 713, 714, 715, 716] (by decide +kernel) (by decide +kernel)
set_option maxRecDepth 20000 in
theorem gL_law_X4_run : GoodIn wsL_law (wsV RL 95 RX4 yX4_run wsX4_run) := goodIn_app (goodIn_of _ (by decide +kernel)) ggL_law_X4_run
set_option maxRecDepth 20000 in
theorem ggL_law_X5_run : GoodIn wsL_law wsX5_run := goodIn_r _ [515, 434, 90, 88, 516, 117, 118, 5, 119, 517, 518, 519, 520, 459, 460, 461, 462, 89, 463, 464, 465, 466, 467, 468, 469, 470, 652, 653, 654, 655, 656, 657, 658, 659, 660, 661, 662, 663, 664, 665, 666, 667, 668, 669, 670, 671, 672, 673, 674, 675] (by decide +kernel) (by decide +kernel)
set_option maxRecDepth 20000 in
theorem gL_law_X5_run : GoodIn wsL_law (wsV RL 98 RX5 yX5_run wsX5_run) := goodIn_app (goodIn_of _ (by decide +kernel)) ggL_law_X5_run
set_option maxRecDepth 20000 in
theorem ggL_law_X4_trainOf : GoodIn wsL_law wsX4_trainOf := goodIn_r _ [524, 23, 525, 526, 527, 22, 528, 63, 64, 66, 69, 67, 68, 479, 480, 481, 482, 425, 107, 2, 108, 451, 452, 453, 454, 61, 308, 309, 504, 505, 506, 507, 508, 509, 510, 511, 62, 447, 448, 449, 450, 648, 649, 650, 651, 705, 706, 707, 708, 709, 710, 711, 712, 713, 714, 715, 716] (by decide +kernel) (by decide +kernel)
set_option maxRecDepth 20000 in
theorem gL_law_X4_trainOf : GoodIn wsL_law (wsV RL 99 RX4 yX4_trainOf wsX4_trainOf) := goodIn_app (goodIn_of _ (by decide +kernel)) ggL_law_X4_trainOf
set_option maxRecDepth 20000 in
theorem ggL_law_X5_trainOf : GoodIn wsL_law wsX5_trainOf := goodIn_r _ [532, 90, 487, 488, 489, 5, 490, 434, 117, 118, 119, 467, 468, 469, 470, 459, 460, 461, 462, 89, 88, 517, 518, 519, 520, 463, 464, 465, 466, 652, 653, 654, 655, 656, 657, 658, 659, 660, 661, 662, 663, 664, 665, 666, 667, 668, 669, 670, 671, 672, 673, 674, 675] (by decide +kernel) (by decide +kernel)
set_option maxRecDepth 20000 in
theorem gL_law_X5_trainOf : GoodIn wsL_law (wsV RL 102 RX5 yX5_trainOf wsX5_trainOf) := goodIn_app (goodIn_of _ (by decide +kernel)) ggL_law_X5_trainOf
set_option maxRecDepth 20000 in
theorem ggL_law_X4_stands : GoodIn wsL_law wsX4_stands := goodIn_r _ [536, 23, 537, 538, 539, 22, 540, 425, 541, 542, 543, 544, 69, 504, 505, 506, 507, 61, 63, 508, 509, 510, 511, 64, 62, 447, 448, 449, 450, 451, 452, 453, 454, 648, 649, 650, 651, 705, 706, 707, 708, 709, 710, 711, 712, 713, 714, 715, 716] (by decide +kernel) (by decide +kernel)
set_option maxRecDepth 20000 in
theorem gL_law_X4_stands : GoodIn wsL_law (wsV RL 103 RX4 yX4_stands wsX4_stands) := goodIn_app (goodIn_of _ (by decide +kernel)) ggL_law_X4_stands
set_option maxRecDepth 20000 in
theorem ggL_law_X5_stands : GoodIn wsL_law wsX5_stands := goodIn_r _ [548, 434, 90, 517, 518, 519, 5, 520, 459, 460, 461, 462, 89, 88, 463, 464, 465, 466, 467, 468, 469, 470, 652, 653, 654, 655, 656, 657, 658, 659, 660, 661, 662, 663, 664, 665, 666, 667, 668, 669, 670, 671, 672, 673, 674, 675] (by decide +kernel) (by decide +kernel)
set_option maxRecDepth 20000 in
theorem gL_law_X5_stands : GoodIn wsL_law (wsV RL 106 RX5 yX5_stands wsX5_stands) := goodIn_app (goodIn_of _ (by decide +kernel)) ggL_law_X5_stands
set_option maxRecDepth 20000 in
theorem ggL_law_X4_figure : GoodIn wsL_law wsX4_figure := goodIn_r _ [552, 27, 553, 554, 555, 26, 556, 557, 648, 649, 650, 651, 717, 718, 719, 720, 721, 722] (by decide +kernel) (by decide +kernel)
set_option maxRecDepth 20000 in
theorem gL_law_X4_figure : GoodIn wsL_law (wsV RL 107 RX4 yX4_figure wsX4_figure) := goodIn_app (goodIn_of _ (by decide +kernel)) ggL_law_X4_figure
set_option maxRecDepth 20000 in
theorem ggL_law_X5_figure : GoodIn wsL_law wsX5_figure := goodIn_r _ [561, 562, 652, 653, 654, 655, 656, 657, 658, 659, 660, 661, 662, 663, 664, 665, 666, 667, 668, 669, 670, 671, 672, 673, 674, 675] (by decide +kernel) (by decide +kernel)
set_option maxRecDepth 20000 in
theorem gL_law_X5_figure : GoodIn wsL_law (wsV RL 110 RX5 yX5_figure wsX5_figure) := goodIn_app (goodIn_of _ (by decide +kernel)) ggL_law_X5_figure
set_option maxRecDepth 20000 in
theorem ggL_law_X4_note : GoodIn wsL_law wsX4_note := goodIn_r _ [566, 27, 567, 568, 569, 26, 570, 571, 75, 73, 74, 76, 572, 573, 574, 575, 557, 107, 2, 108, 104, 105, 106, 648, 649, 650, 651, 717, 718, 719, 720, 721, 722] (by decide +kernel) (by decide +kernel)
set_option maxRecDepth 20000 in
theorem gL_law_X4_note : GoodIn wsL_law (wsV RL 111 RX4 yX4_note wsX4_note) := goodIn_app (goodIn_of _ (by decide +kernel)) ggL_law_X4_note
set_option maxRecDepth 20000 in
theorem ggL_law_X5_note : GoodIn wsL_law wsX5_note := goodIn_r _ [579, 580, 91, 581, 582, 583, 5, 584, 562, 117, 118, 119, 114, 115, 116, 585, 586, 587, 652, 653, 654, 655, 656, 657, 658, 659, 660, 661, 662, 663, 664, 665, 666, 667, 668, 669, 670, 671, 672, 673, 674, 675] (by decide +kernel) (by decide +kernel)
set_option maxRecDepth 20000 in
theorem gL_law_X5_note : GoodIn wsL_law (wsV RL 114 RX5 yX5_note wsX5_note) := goodIn_app (goodIn_of _ (by decide +kernel)) ggL_law_X5_note
set_option maxRecDepth 20000 in
theorem ggL_law_X4_where : GoodIn wsL_law wsX4_where := goodIn_r _ [591, 27, 592, 593, 594, 26, 595, 572, 573, 574, 575, 557, 107, 2, 108, 104, 105, 106, 596, 597, 598, 599, 571, 75, 76, 600, 601, 602, 603, 73, 74, 604, 605, 606, 607, 648, 649, 650, 651, 717, 718, 719, 720, 721, 722] (by decide +kernel) (by decide +kernel)
set_option maxRecDepth 20000 in
theorem gL_law_X4_where : GoodIn wsL_law (wsV RL 115 RX4 yX4_where wsX4_where) := goodIn_app (goodIn_of _ (by decide +kernel)) ggL_law_X4_where
set_option maxRecDepth 20000 in
theorem ggL_law_X5_where : GoodIn wsL_law wsX5_where := goodIn_r _ [611, 580, 581, 582, 583, 5, 584, 562, 117, 118, 119, 114, 115, 116, 612, 613, 614, 615, 91, 652, 653, 654, 655, 656, 657, 658, 659, 660, 661, 662, 663, 664, 665, 666, 667, 668, 669, 670, 671, 672, 673, 674, 675] (by decide +kernel) (by decide +kernel)
set_option maxRecDepth 20000 in
theorem gL_law_X5_where : GoodIn wsL_law (wsV RL 118 RX5 yX5_where wsX5_where) := goodIn_app (goodIn_of _ (by decide +kernel)) ggL_law_X5_where
set_option maxRecDepth 20000 in
theorem ggL_law_X4_at : GoodIn wsL_law wsX4_at := goodIn_r _ [619, 27, 620, 621, 622, 26, 623, 557, 107, 2, 108, 104, 105, 106, 596, 597, 598, 599, 571, 75, 76, 600, 601, 602, 603, 73, 74, 604, 605, 606, 607, 648, 649, 650, 651, 717, 718, 719, 720, 721, 722] (by decide +kernel) (by decide +kernel)
set_option maxRecDepth 20000 in
theorem gL_law_X4_at : GoodIn wsL_law (wsV RL 119 RX4 yX4_at wsX4_at) := goodIn_app (goodIn_of _ (by decide +kernel)) ggL_law_X4_at
set_option maxRecDepth 20000 in
theorem ggL_law_X5_at : GoodIn wsL_law wsX5_at := goodIn_r _ [627, 562, 580, 585, 586, 5, 587, 117, 118, 119, 114, 115, 116, 612, 613, 614, 615, 91, 652, 653, 654, 655, 656, 657, 658, 659, 660, 661, 662, 663, 664, 665, 666, 667, 668, 669, 670, 671, 672, 673, 674, 675] (by decide +kernel) (by decide +kernel)
set_option maxRecDepth 20000 in
theorem gL_law_X5_at : GoodIn wsL_law (wsV RL 122 RX5 yX5_at wsX5_at) := goodIn_app (goodIn_of _ (by decide +kernel)) ggL_law_X5_at
set_option maxRecDepth 20000 in
theorem ggL_law_X4_turns : GoodIn wsL_law wsX4_turns := goodIn_r _ [631, 27, 632, 633, 634, 26, 635, 571, 76, 572, 573, 574, 575, 557, 107, 2, 108, 104, 105, 106, 600, 601, 602, 603, 73, 74, 604, 605, 606, 607, 648, 649, 650, 651, 717, 718, 719, 720, 721, 722] (by decide +kernel) (by decide +kernel)
set_option maxRecDepth 20000 in
theorem gL_law_X4_turns : GoodIn wsL_law (wsV RL 123 RX4 yX4_turns wsX4_turns) := goodIn_app (goodIn_of _ (by decide +kernel)) ggL_law_X4_turns
set_option maxRecDepth 20000 in
theorem ggL_law_X5_turns : GoodIn wsL_law wsX5_turns := goodIn_r _ [639, 580, 581, 582, 583, 5, 584, 562, 117, 118, 119, 114, 115, 116, 612, 613, 614, 615, 91, 652, 653, 654, 655, 656, 657, 658, 659, 660, 661, 662, 663, 664, 665, 666, 667, 668, 669, 670, 671, 672, 673, 674, 675] (by decide +kernel) (by decide +kernel)
set_option maxRecDepth 20000 in
theorem gL_law_X5_turns : GoodIn wsL_law (wsV RL 126 RX5 yX5_turns wsX5_turns) := goodIn_app (goodIn_of _ (by decide +kernel)) ggL_law_X5_turns
set_option maxRecDepth 20000 in
theorem ggL_law_X4_told : GoodIn wsL_law wsX4_told := goodIn_r _ [643, 15, 19, 23, 27, 648, 649, 650, 651, 676, 677, 678, 679, 680, 681, 682, 683, 684, 685, 686, 687, 688, 689, 690, 691, 692, 693, 694, 695, 696, 697, 698, 699, 700, 701, 702, 703, 704, 705, 706, 707, 708, 709, 710, 711, 712, 713, 714, 715, 716, 717, 718, 719, 720, 721, 722] (by decide +kernel) (by decide +kernel)
set_option maxRecDepth 20000 in
theorem gL_law_X4_told : GoodIn wsL_law (wsV RL 127 RX4 yX4_told wsX4_told) := goodIn_app (goodIn_of _ (by decide +kernel)) ggL_law_X4_told
set_option maxRecDepth 20000 in
theorem ggL_law_X5_told : GoodIn wsL_law wsX5_told := goodIn_r _ [647, 113, 163, 271, 314, 86, 408, 434, 516, 562, 580, 652, 653, 654, 655, 656, 657, 658, 659, 660, 661, 662, 663, 664, 665, 666, 667, 668, 669, 670, 671, 672, 673, 674, 675] (by decide +kernel) (by decide +kernel)
set_option maxRecDepth 20000 in
theorem gL_law_X5_told : GoodIn wsL_law (wsV RL 130 RX5 yX5_told wsX5_told) := goodIn_app (goodIn_of _ (by decide +kernel)) ggL_law_X5_told
theorem dL_law_0 : decode cL_law 0 = .ok (.new 7, 3) := by decide +kernel
theorem dL_law_3 : decode cL_law 3 = .ok (.dup, 1) := by decide +kernel
theorem dL_law_4 : decode cL_law 4 = .ok (.invokespecial 9, 3) := by decide +kernel
theorem dL_law_7 : decode cL_law 7 = .ok (.astore_n 1, 1) := by decide +kernel
theorem dL_law_8 : decode cL_law 8 = .ok (.new 10, 3) := by decide +kernel
theorem dL_law_11 : decode cL_law 11 = .ok (.dup, 1) := by decide +kernel
theorem dL_law_12 : decode cL_law 12 = .ok (.invokespecial 12, 3) := by decide +kernel
theorem dL_law_15 : decode cL_law 15 = .ok (.astore_n 2, 1) := by decide +kernel
theorem dL_law_16 : decode cL_law 16 = .ok (.iconst 0, 1) := by decide +kernel
theorem dL_law_17 : decode cL_law 17 = .ok (.istore_n 3, 1) := by decide +kernel
theorem dL_law_18 : decode cL_law 18 = .ok (.iload_n 3, 1) := by decide +kernel
theorem dL_law_19 : decode cL_law 19 = .ok (.aload_n 0, 1) := by decide +kernel
theorem dL_law_20 : decode cL_law 20 = .ok (.arraylength, 1) := by decide +kernel
theorem dL_law_21 : decode cL_law 21 = .ok (.iconst 5, 1) := by decide +kernel
theorem dL_law_22 : decode cL_law 22 = .ok (.isub, 1) := by decide +kernel
theorem dL_law_23 : decode cL_law 23 = .ok (.if_icmp .gt 1089, 3) := by decide +kernel
theorem dL_law_26 : decode cL_law 26 = .ok (.aload_n 0, 1) := by decide +kernel
theorem dL_law_27 : decode cL_law 27 = .ok (.iload_n 3, 1) := by decide +kernel
theorem dL_law_28 : decode cL_law 28 = .ok (.iaload, 1) := by decide +kernel
theorem dL_law_29 : decode cL_law 29 = .ok (.bipush 31, 2) := by decide +kernel
theorem dL_law_31 : decode cL_law 31 = .ok (.iand, 1) := by decide +kernel
theorem dL_law_32 : decode cL_law 32 = .ok (.tableswitch 1074 0 27 #[128, 171, 204, 257, 300, 343, 366, 399, 432, 475, 508, 531, 580, 593, 626, 659, 672, 705, 748, 797, 820, 853, 866, 879, 932, 975, 1018, 1051], 128) := by decide +kernel
theorem dL_law_160 : decode cL_law 160 = .ok (.aload_n 1, 1) := by decide +kernel
theorem dL_law_161 : decode cL_law 161 = .ok (.aload_n 0, 1) := by decide +kernel
theorem dL_law_162 : decode cL_law 162 = .ok (.iload_n 3, 1) := by decide +kernel
theorem dL_law_163 : decode cL_law 163 = .ok (.iconst 1, 1) := by decide +kernel
theorem dL_law_164 : decode cL_law 164 = .ok (.iadd, 1) := by decide +kernel
theorem dL_law_165 : decode cL_law 165 = .ok (.iaload, 1) := by decide +kernel
theorem dL_law_166 : decode cL_law 166 = .ok (.aload_n 0, 1) := by decide +kernel
theorem dL_law_167 : decode cL_law 167 = .ok (.iload_n 3, 1) := by decide +kernel
theorem dL_law_168 : decode cL_law 168 = .ok (.iconst 2, 1) := by decide +kernel
theorem dL_law_169 : decode cL_law 169 = .ok (.iadd, 1) := by decide +kernel
theorem dL_law_170 : decode cL_law 170 = .ok (.iaload, 1) := by decide +kernel
theorem dL_law_171 : decode cL_law 171 = .ok (.aload_n 0, 1) := by decide +kernel
theorem dL_law_172 : decode cL_law 172 = .ok (.iload_n 3, 1) := by decide +kernel
theorem dL_law_173 : decode cL_law 173 = .ok (.iconst 3, 1) := by decide +kernel
theorem dL_law_174 : decode cL_law 174 = .ok (.iadd, 1) := by decide +kernel
theorem dL_law_175 : decode cL_law 175 = .ok (.iaload, 1) := by decide +kernel
theorem dL_law_176 : decode cL_law 176 = .ok (.invokevirtual 13, 3) := by decide +kernel
theorem dL_law_179 : decode cL_law 179 = .ok (.aload_n 2, 1) := by decide +kernel
theorem dL_law_180 : decode cL_law 180 = .ok (.aload_n 0, 1) := by decide +kernel
theorem dL_law_181 : decode cL_law 181 = .ok (.iload_n 3, 1) := by decide +kernel
theorem dL_law_182 : decode cL_law 182 = .ok (.iconst 1, 1) := by decide +kernel
theorem dL_law_183 : decode cL_law 183 = .ok (.iadd, 1) := by decide +kernel
theorem dL_law_184 : decode cL_law 184 = .ok (.iaload, 1) := by decide +kernel
theorem dL_law_185 : decode cL_law 185 = .ok (.aload_n 0, 1) := by decide +kernel
theorem dL_law_186 : decode cL_law 186 = .ok (.iload_n 3, 1) := by decide +kernel
theorem dL_law_187 : decode cL_law 187 = .ok (.iconst 2, 1) := by decide +kernel
theorem dL_law_188 : decode cL_law 188 = .ok (.iadd, 1) := by decide +kernel
theorem dL_law_189 : decode cL_law 189 = .ok (.iaload, 1) := by decide +kernel
theorem dL_law_190 : decode cL_law 190 = .ok (.aload_n 0, 1) := by decide +kernel
theorem dL_law_191 : decode cL_law 191 = .ok (.iload_n 3, 1) := by decide +kernel
theorem dL_law_192 : decode cL_law 192 = .ok (.iconst 3, 1) := by decide +kernel
theorem dL_law_193 : decode cL_law 193 = .ok (.iadd, 1) := by decide +kernel
theorem dL_law_194 : decode cL_law 194 = .ok (.iaload, 1) := by decide +kernel
theorem dL_law_195 : decode cL_law 195 = .ok (.invokevirtual 17, 3) := by decide +kernel
theorem dL_law_198 : decode cL_law 198 = .ok (.if_icmp .eq 908, 3) := by decide +kernel
theorem dL_law_201 : decode cL_law 201 = .ok (.iconst 0, 1) := by decide +kernel
theorem dL_law_202 : decode cL_law 202 = .ok (.ireturn, 1) := by decide +kernel
theorem dL_law_203 : decode cL_law 203 = .ok (.aload_n 1, 1) := by decide +kernel
theorem dL_law_204 : decode cL_law 204 = .ok (.aload_n 0, 1) := by decide +kernel
theorem dL_law_205 : decode cL_law 205 = .ok (.iload_n 3, 1) := by decide +kernel
theorem dL_law_206 : decode cL_law 206 = .ok (.iconst 1, 1) := by decide +kernel
theorem dL_law_207 : decode cL_law 207 = .ok (.iadd, 1) := by decide +kernel
theorem dL_law_208 : decode cL_law 208 = .ok (.iaload, 1) := by decide +kernel
theorem dL_law_209 : decode cL_law 209 = .ok (.aload_n 0, 1) := by decide +kernel
theorem dL_law_210 : decode cL_law 210 = .ok (.iload_n 3, 1) := by decide +kernel
theorem dL_law_211 : decode cL_law 211 = .ok (.iconst 2, 1) := by decide +kernel
theorem dL_law_212 : decode cL_law 212 = .ok (.iadd, 1) := by decide +kernel
theorem dL_law_213 : decode cL_law 213 = .ok (.iaload, 1) := by decide +kernel
theorem dL_law_214 : decode cL_law 214 = .ok (.invokevirtual 18, 3) := by decide +kernel
theorem dL_law_217 : decode cL_law 217 = .ok (.aload_n 2, 1) := by decide +kernel
theorem dL_law_218 : decode cL_law 218 = .ok (.aload_n 0, 1) := by decide +kernel
theorem dL_law_219 : decode cL_law 219 = .ok (.iload_n 3, 1) := by decide +kernel
theorem dL_law_220 : decode cL_law 220 = .ok (.iconst 1, 1) := by decide +kernel
theorem dL_law_221 : decode cL_law 221 = .ok (.iadd, 1) := by decide +kernel
theorem dL_law_222 : decode cL_law 222 = .ok (.iaload, 1) := by decide +kernel
theorem dL_law_223 : decode cL_law 223 = .ok (.aload_n 0, 1) := by decide +kernel
theorem dL_law_224 : decode cL_law 224 = .ok (.iload_n 3, 1) := by decide +kernel
theorem dL_law_225 : decode cL_law 225 = .ok (.iconst 2, 1) := by decide +kernel
theorem dL_law_226 : decode cL_law 226 = .ok (.iadd, 1) := by decide +kernel
theorem dL_law_227 : decode cL_law 227 = .ok (.iaload, 1) := by decide +kernel
theorem dL_law_228 : decode cL_law 228 = .ok (.invokevirtual 22, 3) := by decide +kernel
theorem dL_law_231 : decode cL_law 231 = .ok (.if_icmp .eq 875, 3) := by decide +kernel
theorem dL_law_234 : decode cL_law 234 = .ok (.iconst 0, 1) := by decide +kernel
theorem dL_law_235 : decode cL_law 235 = .ok (.ireturn, 1) := by decide +kernel
theorem dL_law_236 : decode cL_law 236 = .ok (.aload_n 1, 1) := by decide +kernel
theorem dL_law_237 : decode cL_law 237 = .ok (.aload_n 0, 1) := by decide +kernel
theorem dL_law_238 : decode cL_law 238 = .ok (.iload_n 3, 1) := by decide +kernel
theorem dL_law_239 : decode cL_law 239 = .ok (.iconst 1, 1) := by decide +kernel
theorem dL_law_240 : decode cL_law 240 = .ok (.iadd, 1) := by decide +kernel
theorem dL_law_241 : decode cL_law 241 = .ok (.iaload, 1) := by decide +kernel
theorem dL_law_242 : decode cL_law 242 = .ok (.aload_n 0, 1) := by decide +kernel
theorem dL_law_243 : decode cL_law 243 = .ok (.iload_n 3, 1) := by decide +kernel
theorem dL_law_244 : decode cL_law 244 = .ok (.iconst 2, 1) := by decide +kernel
theorem dL_law_245 : decode cL_law 245 = .ok (.iadd, 1) := by decide +kernel
theorem dL_law_246 : decode cL_law 246 = .ok (.iaload, 1) := by decide +kernel
theorem dL_law_247 : decode cL_law 247 = .ok (.aload_n 0, 1) := by decide +kernel
theorem dL_law_248 : decode cL_law 248 = .ok (.iload_n 3, 1) := by decide +kernel
theorem dL_law_249 : decode cL_law 249 = .ok (.iconst 3, 1) := by decide +kernel
theorem dL_law_250 : decode cL_law 250 = .ok (.iadd, 1) := by decide +kernel
theorem dL_law_251 : decode cL_law 251 = .ok (.iaload, 1) := by decide +kernel
theorem dL_law_252 : decode cL_law 252 = .ok (.aload_n 0, 1) := by decide +kernel
theorem dL_law_253 : decode cL_law 253 = .ok (.iload_n 3, 1) := by decide +kernel
theorem dL_law_254 : decode cL_law 254 = .ok (.iconst 4, 1) := by decide +kernel
theorem dL_law_255 : decode cL_law 255 = .ok (.iadd, 1) := by decide +kernel
theorem dL_law_256 : decode cL_law 256 = .ok (.iaload, 1) := by decide +kernel
theorem dL_law_257 : decode cL_law 257 = .ok (.invokevirtual 23, 3) := by decide +kernel
theorem dL_law_260 : decode cL_law 260 = .ok (.aload_n 2, 1) := by decide +kernel
theorem dL_law_261 : decode cL_law 261 = .ok (.aload_n 0, 1) := by decide +kernel
theorem dL_law_262 : decode cL_law 262 = .ok (.iload_n 3, 1) := by decide +kernel
theorem dL_law_263 : decode cL_law 263 = .ok (.iconst 1, 1) := by decide +kernel
theorem dL_law_264 : decode cL_law 264 = .ok (.iadd, 1) := by decide +kernel
theorem dL_law_265 : decode cL_law 265 = .ok (.iaload, 1) := by decide +kernel
theorem dL_law_266 : decode cL_law 266 = .ok (.aload_n 0, 1) := by decide +kernel
theorem dL_law_267 : decode cL_law 267 = .ok (.iload_n 3, 1) := by decide +kernel
theorem dL_law_268 : decode cL_law 268 = .ok (.iconst 2, 1) := by decide +kernel
theorem dL_law_269 : decode cL_law 269 = .ok (.iadd, 1) := by decide +kernel
theorem dL_law_270 : decode cL_law 270 = .ok (.iaload, 1) := by decide +kernel
theorem dL_law_271 : decode cL_law 271 = .ok (.aload_n 0, 1) := by decide +kernel
theorem dL_law_272 : decode cL_law 272 = .ok (.iload_n 3, 1) := by decide +kernel
theorem dL_law_273 : decode cL_law 273 = .ok (.iconst 3, 1) := by decide +kernel
theorem dL_law_274 : decode cL_law 274 = .ok (.iadd, 1) := by decide +kernel
theorem dL_law_275 : decode cL_law 275 = .ok (.iaload, 1) := by decide +kernel
theorem dL_law_276 : decode cL_law 276 = .ok (.aload_n 0, 1) := by decide +kernel
theorem dL_law_277 : decode cL_law 277 = .ok (.iload_n 3, 1) := by decide +kernel
theorem dL_law_278 : decode cL_law 278 = .ok (.iconst 4, 1) := by decide +kernel
theorem dL_law_279 : decode cL_law 279 = .ok (.iadd, 1) := by decide +kernel
theorem dL_law_280 : decode cL_law 280 = .ok (.iaload, 1) := by decide +kernel
theorem dL_law_281 : decode cL_law 281 = .ok (.invokevirtual 27, 3) := by decide +kernel
theorem dL_law_284 : decode cL_law 284 = .ok (.if_icmp .eq 822, 3) := by decide +kernel
theorem dL_law_287 : decode cL_law 287 = .ok (.iconst 0, 1) := by decide +kernel
theorem dL_law_288 : decode cL_law 288 = .ok (.ireturn, 1) := by decide +kernel
theorem dL_law_289 : decode cL_law 289 = .ok (.aload_n 1, 1) := by decide +kernel
theorem dL_law_290 : decode cL_law 290 = .ok (.aload_n 0, 1) := by decide +kernel
theorem dL_law_291 : decode cL_law 291 = .ok (.iload_n 3, 1) := by decide +kernel
theorem dL_law_292 : decode cL_law 292 = .ok (.iconst 1, 1) := by decide +kernel
theorem dL_law_293 : decode cL_law 293 = .ok (.iadd, 1) := by decide +kernel
theorem dL_law_294 : decode cL_law 294 = .ok (.iaload, 1) := by decide +kernel
theorem dL_law_295 : decode cL_law 295 = .ok (.aload_n 0, 1) := by decide +kernel
theorem dL_law_296 : decode cL_law 296 = .ok (.iload_n 3, 1) := by decide +kernel
theorem dL_law_297 : decode cL_law 297 = .ok (.iconst 2, 1) := by decide +kernel
theorem dL_law_298 : decode cL_law 298 = .ok (.iadd, 1) := by decide +kernel
theorem dL_law_299 : decode cL_law 299 = .ok (.iaload, 1) := by decide +kernel
theorem dL_law_300 : decode cL_law 300 = .ok (.aload_n 0, 1) := by decide +kernel
theorem dL_law_301 : decode cL_law 301 = .ok (.iload_n 3, 1) := by decide +kernel
theorem dL_law_302 : decode cL_law 302 = .ok (.iconst 3, 1) := by decide +kernel
theorem dL_law_303 : decode cL_law 303 = .ok (.iadd, 1) := by decide +kernel
theorem dL_law_304 : decode cL_law 304 = .ok (.iaload, 1) := by decide +kernel
theorem dL_law_305 : decode cL_law 305 = .ok (.invokevirtual 28, 3) := by decide +kernel
theorem dL_law_308 : decode cL_law 308 = .ok (.aload_n 2, 1) := by decide +kernel
theorem dL_law_309 : decode cL_law 309 = .ok (.aload_n 0, 1) := by decide +kernel
theorem dL_law_310 : decode cL_law 310 = .ok (.iload_n 3, 1) := by decide +kernel
theorem dL_law_311 : decode cL_law 311 = .ok (.iconst 1, 1) := by decide +kernel
theorem dL_law_312 : decode cL_law 312 = .ok (.iadd, 1) := by decide +kernel
theorem dL_law_313 : decode cL_law 313 = .ok (.iaload, 1) := by decide +kernel
theorem dL_law_314 : decode cL_law 314 = .ok (.aload_n 0, 1) := by decide +kernel
theorem dL_law_315 : decode cL_law 315 = .ok (.iload_n 3, 1) := by decide +kernel
theorem dL_law_316 : decode cL_law 316 = .ok (.iconst 2, 1) := by decide +kernel
theorem dL_law_317 : decode cL_law 317 = .ok (.iadd, 1) := by decide +kernel
theorem dL_law_318 : decode cL_law 318 = .ok (.iaload, 1) := by decide +kernel
theorem dL_law_319 : decode cL_law 319 = .ok (.aload_n 0, 1) := by decide +kernel
theorem dL_law_320 : decode cL_law 320 = .ok (.iload_n 3, 1) := by decide +kernel
theorem dL_law_321 : decode cL_law 321 = .ok (.iconst 3, 1) := by decide +kernel
theorem dL_law_322 : decode cL_law 322 = .ok (.iadd, 1) := by decide +kernel
theorem dL_law_323 : decode cL_law 323 = .ok (.iaload, 1) := by decide +kernel
theorem dL_law_324 : decode cL_law 324 = .ok (.invokevirtual 31, 3) := by decide +kernel
theorem dL_law_327 : decode cL_law 327 = .ok (.if_icmp .eq 779, 3) := by decide +kernel
theorem dL_law_330 : decode cL_law 330 = .ok (.iconst 0, 1) := by decide +kernel
theorem dL_law_331 : decode cL_law 331 = .ok (.ireturn, 1) := by decide +kernel
theorem dL_law_332 : decode cL_law 332 = .ok (.aload_n 1, 1) := by decide +kernel
theorem dL_law_333 : decode cL_law 333 = .ok (.aload_n 0, 1) := by decide +kernel
theorem dL_law_334 : decode cL_law 334 = .ok (.iload_n 3, 1) := by decide +kernel
theorem dL_law_335 : decode cL_law 335 = .ok (.iconst 1, 1) := by decide +kernel
theorem dL_law_336 : decode cL_law 336 = .ok (.iadd, 1) := by decide +kernel
theorem dL_law_337 : decode cL_law 337 = .ok (.iaload, 1) := by decide +kernel
theorem dL_law_338 : decode cL_law 338 = .ok (.aload_n 0, 1) := by decide +kernel
theorem dL_law_339 : decode cL_law 339 = .ok (.iload_n 3, 1) := by decide +kernel
theorem dL_law_340 : decode cL_law 340 = .ok (.iconst 2, 1) := by decide +kernel
theorem dL_law_341 : decode cL_law 341 = .ok (.iadd, 1) := by decide +kernel
theorem dL_law_342 : decode cL_law 342 = .ok (.iaload, 1) := by decide +kernel
theorem dL_law_343 : decode cL_law 343 = .ok (.aload_n 0, 1) := by decide +kernel
theorem dL_law_344 : decode cL_law 344 = .ok (.iload_n 3, 1) := by decide +kernel
theorem dL_law_345 : decode cL_law 345 = .ok (.iconst 3, 1) := by decide +kernel
theorem dL_law_346 : decode cL_law 346 = .ok (.iadd, 1) := by decide +kernel
theorem dL_law_347 : decode cL_law 347 = .ok (.iaload, 1) := by decide +kernel
theorem dL_law_348 : decode cL_law 348 = .ok (.invokevirtual 32, 3) := by decide +kernel
theorem dL_law_351 : decode cL_law 351 = .ok (.aload_n 2, 1) := by decide +kernel
theorem dL_law_352 : decode cL_law 352 = .ok (.aload_n 0, 1) := by decide +kernel
theorem dL_law_353 : decode cL_law 353 = .ok (.iload_n 3, 1) := by decide +kernel
theorem dL_law_354 : decode cL_law 354 = .ok (.iconst 1, 1) := by decide +kernel
theorem dL_law_355 : decode cL_law 355 = .ok (.iadd, 1) := by decide +kernel
theorem dL_law_356 : decode cL_law 356 = .ok (.iaload, 1) := by decide +kernel
theorem dL_law_357 : decode cL_law 357 = .ok (.aload_n 0, 1) := by decide +kernel
theorem dL_law_358 : decode cL_law 358 = .ok (.iload_n 3, 1) := by decide +kernel
theorem dL_law_359 : decode cL_law 359 = .ok (.iconst 2, 1) := by decide +kernel
theorem dL_law_360 : decode cL_law 360 = .ok (.iadd, 1) := by decide +kernel
theorem dL_law_361 : decode cL_law 361 = .ok (.iaload, 1) := by decide +kernel
theorem dL_law_362 : decode cL_law 362 = .ok (.aload_n 0, 1) := by decide +kernel
theorem dL_law_363 : decode cL_law 363 = .ok (.iload_n 3, 1) := by decide +kernel
theorem dL_law_364 : decode cL_law 364 = .ok (.iconst 3, 1) := by decide +kernel
theorem dL_law_365 : decode cL_law 365 = .ok (.iadd, 1) := by decide +kernel
theorem dL_law_366 : decode cL_law 366 = .ok (.iaload, 1) := by decide +kernel
theorem dL_law_367 : decode cL_law 367 = .ok (.invokevirtual 35, 3) := by decide +kernel
theorem dL_law_370 : decode cL_law 370 = .ok (.if_icmp .eq 736, 3) := by decide +kernel
theorem dL_law_373 : decode cL_law 373 = .ok (.iconst 0, 1) := by decide +kernel
theorem dL_law_374 : decode cL_law 374 = .ok (.ireturn, 1) := by decide +kernel
theorem dL_law_375 : decode cL_law 375 = .ok (.aload_n 1, 1) := by decide +kernel
theorem dL_law_376 : decode cL_law 376 = .ok (.aload_n 0, 1) := by decide +kernel
theorem dL_law_377 : decode cL_law 377 = .ok (.iload_n 3, 1) := by decide +kernel
theorem dL_law_378 : decode cL_law 378 = .ok (.iconst 1, 1) := by decide +kernel
theorem dL_law_379 : decode cL_law 379 = .ok (.iadd, 1) := by decide +kernel
theorem dL_law_380 : decode cL_law 380 = .ok (.iaload, 1) := by decide +kernel
theorem dL_law_381 : decode cL_law 381 = .ok (.invokevirtual 36, 3) := by decide +kernel
theorem dL_law_384 : decode cL_law 384 = .ok (.aload_n 2, 1) := by decide +kernel
theorem dL_law_385 : decode cL_law 385 = .ok (.aload_n 0, 1) := by decide +kernel
theorem dL_law_386 : decode cL_law 386 = .ok (.iload_n 3, 1) := by decide +kernel
theorem dL_law_387 : decode cL_law 387 = .ok (.iconst 1, 1) := by decide +kernel
theorem dL_law_388 : decode cL_law 388 = .ok (.iadd, 1) := by decide +kernel
theorem dL_law_389 : decode cL_law 389 = .ok (.iaload, 1) := by decide +kernel
theorem dL_law_390 : decode cL_law 390 = .ok (.invokevirtual 40, 3) := by decide +kernel
theorem dL_law_393 : decode cL_law 393 = .ok (.if_icmp .eq 713, 3) := by decide +kernel
theorem dL_law_396 : decode cL_law 396 = .ok (.iconst 0, 1) := by decide +kernel
theorem dL_law_397 : decode cL_law 397 = .ok (.ireturn, 1) := by decide +kernel
theorem dL_law_398 : decode cL_law 398 = .ok (.aload_n 1, 1) := by decide +kernel
theorem dL_law_399 : decode cL_law 399 = .ok (.aload_n 0, 1) := by decide +kernel
theorem dL_law_400 : decode cL_law 400 = .ok (.iload_n 3, 1) := by decide +kernel
theorem dL_law_401 : decode cL_law 401 = .ok (.iconst 1, 1) := by decide +kernel
theorem dL_law_402 : decode cL_law 402 = .ok (.iadd, 1) := by decide +kernel
theorem dL_law_403 : decode cL_law 403 = .ok (.iaload, 1) := by decide +kernel
theorem dL_law_404 : decode cL_law 404 = .ok (.aload_n 0, 1) := by decide +kernel
theorem dL_law_405 : decode cL_law 405 = .ok (.iload_n 3, 1) := by decide +kernel
theorem dL_law_406 : decode cL_law 406 = .ok (.iconst 2, 1) := by decide +kernel
theorem dL_law_407 : decode cL_law 407 = .ok (.iadd, 1) := by decide +kernel
theorem dL_law_408 : decode cL_law 408 = .ok (.iaload, 1) := by decide +kernel
theorem dL_law_409 : decode cL_law 409 = .ok (.invokevirtual 41, 3) := by decide +kernel
theorem dL_law_412 : decode cL_law 412 = .ok (.aload_n 2, 1) := by decide +kernel
theorem dL_law_413 : decode cL_law 413 = .ok (.aload_n 0, 1) := by decide +kernel
theorem dL_law_414 : decode cL_law 414 = .ok (.iload_n 3, 1) := by decide +kernel
theorem dL_law_415 : decode cL_law 415 = .ok (.iconst 1, 1) := by decide +kernel
theorem dL_law_416 : decode cL_law 416 = .ok (.iadd, 1) := by decide +kernel
theorem dL_law_417 : decode cL_law 417 = .ok (.iaload, 1) := by decide +kernel
theorem dL_law_418 : decode cL_law 418 = .ok (.aload_n 0, 1) := by decide +kernel
theorem dL_law_419 : decode cL_law 419 = .ok (.iload_n 3, 1) := by decide +kernel
theorem dL_law_420 : decode cL_law 420 = .ok (.iconst 2, 1) := by decide +kernel
theorem dL_law_421 : decode cL_law 421 = .ok (.iadd, 1) := by decide +kernel
theorem dL_law_422 : decode cL_law 422 = .ok (.iaload, 1) := by decide +kernel
theorem dL_law_423 : decode cL_law 423 = .ok (.invokevirtual 44, 3) := by decide +kernel
theorem dL_law_426 : decode cL_law 426 = .ok (.if_icmp .eq 680, 3) := by decide +kernel
theorem dL_law_429 : decode cL_law 429 = .ok (.iconst 0, 1) := by decide +kernel
theorem dL_law_430 : decode cL_law 430 = .ok (.ireturn, 1) := by decide +kernel
theorem dL_law_431 : decode cL_law 431 = .ok (.aload_n 1, 1) := by decide +kernel
theorem dL_law_432 : decode cL_law 432 = .ok (.aload_n 0, 1) := by decide +kernel
theorem dL_law_433 : decode cL_law 433 = .ok (.iload_n 3, 1) := by decide +kernel
theorem dL_law_434 : decode cL_law 434 = .ok (.iconst 1, 1) := by decide +kernel
theorem dL_law_435 : decode cL_law 435 = .ok (.iadd, 1) := by decide +kernel
theorem dL_law_436 : decode cL_law 436 = .ok (.iaload, 1) := by decide +kernel
theorem dL_law_437 : decode cL_law 437 = .ok (.aload_n 0, 1) := by decide +kernel
theorem dL_law_438 : decode cL_law 438 = .ok (.iload_n 3, 1) := by decide +kernel
theorem dL_law_439 : decode cL_law 439 = .ok (.iconst 2, 1) := by decide +kernel
theorem dL_law_440 : decode cL_law 440 = .ok (.iadd, 1) := by decide +kernel
theorem dL_law_441 : decode cL_law 441 = .ok (.iaload, 1) := by decide +kernel
theorem dL_law_442 : decode cL_law 442 = .ok (.invokevirtual 45, 3) := by decide +kernel
theorem dL_law_445 : decode cL_law 445 = .ok (.aload_n 2, 1) := by decide +kernel
theorem dL_law_446 : decode cL_law 446 = .ok (.aload_n 0, 1) := by decide +kernel
theorem dL_law_447 : decode cL_law 447 = .ok (.iload_n 3, 1) := by decide +kernel
theorem dL_law_448 : decode cL_law 448 = .ok (.iconst 1, 1) := by decide +kernel
theorem dL_law_449 : decode cL_law 449 = .ok (.iadd, 1) := by decide +kernel
theorem dL_law_450 : decode cL_law 450 = .ok (.iaload, 1) := by decide +kernel
theorem dL_law_451 : decode cL_law 451 = .ok (.aload_n 0, 1) := by decide +kernel
theorem dL_law_452 : decode cL_law 452 = .ok (.iload_n 3, 1) := by decide +kernel
theorem dL_law_453 : decode cL_law 453 = .ok (.iconst 2, 1) := by decide +kernel
theorem dL_law_454 : decode cL_law 454 = .ok (.iadd, 1) := by decide +kernel
theorem dL_law_455 : decode cL_law 455 = .ok (.iaload, 1) := by decide +kernel
theorem dL_law_456 : decode cL_law 456 = .ok (.invokevirtual 48, 3) := by decide +kernel
theorem dL_law_459 : decode cL_law 459 = .ok (.if_icmp .eq 647, 3) := by decide +kernel
theorem dL_law_462 : decode cL_law 462 = .ok (.iconst 0, 1) := by decide +kernel
theorem dL_law_463 : decode cL_law 463 = .ok (.ireturn, 1) := by decide +kernel
theorem dL_law_464 : decode cL_law 464 = .ok (.aload_n 1, 1) := by decide +kernel
theorem dL_law_465 : decode cL_law 465 = .ok (.aload_n 0, 1) := by decide +kernel
theorem dL_law_466 : decode cL_law 466 = .ok (.iload_n 3, 1) := by decide +kernel
theorem dL_law_467 : decode cL_law 467 = .ok (.iconst 1, 1) := by decide +kernel
theorem dL_law_468 : decode cL_law 468 = .ok (.iadd, 1) := by decide +kernel
theorem dL_law_469 : decode cL_law 469 = .ok (.iaload, 1) := by decide +kernel
theorem dL_law_470 : decode cL_law 470 = .ok (.aload_n 0, 1) := by decide +kernel
theorem dL_law_471 : decode cL_law 471 = .ok (.iload_n 3, 1) := by decide +kernel
theorem dL_law_472 : decode cL_law 472 = .ok (.iconst 2, 1) := by decide +kernel
theorem dL_law_473 : decode cL_law 473 = .ok (.iadd, 1) := by decide +kernel
theorem dL_law_474 : decode cL_law 474 = .ok (.iaload, 1) := by decide +kernel
theorem dL_law_475 : decode cL_law 475 = .ok (.aload_n 0, 1) := by decide +kernel
theorem dL_law_476 : decode cL_law 476 = .ok (.iload_n 3, 1) := by decide +kernel
theorem dL_law_477 : decode cL_law 477 = .ok (.iconst 3, 1) := by decide +kernel
theorem dL_law_478 : decode cL_law 478 = .ok (.iadd, 1) := by decide +kernel
theorem dL_law_479 : decode cL_law 479 = .ok (.iaload, 1) := by decide +kernel
theorem dL_law_480 : decode cL_law 480 = .ok (.invokevirtual 49, 3) := by decide +kernel
theorem dL_law_483 : decode cL_law 483 = .ok (.aload_n 2, 1) := by decide +kernel
theorem dL_law_484 : decode cL_law 484 = .ok (.aload_n 0, 1) := by decide +kernel
theorem dL_law_485 : decode cL_law 485 = .ok (.iload_n 3, 1) := by decide +kernel
theorem dL_law_486 : decode cL_law 486 = .ok (.iconst 1, 1) := by decide +kernel
theorem dL_law_487 : decode cL_law 487 = .ok (.iadd, 1) := by decide +kernel
theorem dL_law_488 : decode cL_law 488 = .ok (.iaload, 1) := by decide +kernel
theorem dL_law_489 : decode cL_law 489 = .ok (.aload_n 0, 1) := by decide +kernel
theorem dL_law_490 : decode cL_law 490 = .ok (.iload_n 3, 1) := by decide +kernel
theorem dL_law_491 : decode cL_law 491 = .ok (.iconst 2, 1) := by decide +kernel
theorem dL_law_492 : decode cL_law 492 = .ok (.iadd, 1) := by decide +kernel
theorem dL_law_493 : decode cL_law 493 = .ok (.iaload, 1) := by decide +kernel
theorem dL_law_494 : decode cL_law 494 = .ok (.aload_n 0, 1) := by decide +kernel
theorem dL_law_495 : decode cL_law 495 = .ok (.iload_n 3, 1) := by decide +kernel
theorem dL_law_496 : decode cL_law 496 = .ok (.iconst 3, 1) := by decide +kernel
theorem dL_law_497 : decode cL_law 497 = .ok (.iadd, 1) := by decide +kernel
theorem dL_law_498 : decode cL_law 498 = .ok (.iaload, 1) := by decide +kernel
theorem dL_law_499 : decode cL_law 499 = .ok (.invokevirtual 52, 3) := by decide +kernel
theorem dL_law_502 : decode cL_law 502 = .ok (.if_icmp .eq 604, 3) := by decide +kernel
theorem dL_law_505 : decode cL_law 505 = .ok (.iconst 0, 1) := by decide +kernel
theorem dL_law_506 : decode cL_law 506 = .ok (.ireturn, 1) := by decide +kernel
theorem dL_law_507 : decode cL_law 507 = .ok (.aload_n 1, 1) := by decide +kernel
theorem dL_law_508 : decode cL_law 508 = .ok (.aload_n 0, 1) := by decide +kernel
theorem dL_law_509 : decode cL_law 509 = .ok (.iload_n 3, 1) := by decide +kernel
theorem dL_law_510 : decode cL_law 510 = .ok (.iconst 1, 1) := by decide +kernel
theorem dL_law_511 : decode cL_law 511 = .ok (.iadd, 1) := by decide +kernel
theorem dL_law_512 : decode cL_law 512 = .ok (.iaload, 1) := by decide +kernel
theorem dL_law_513 : decode cL_law 513 = .ok (.aload_n 0, 1) := by decide +kernel
theorem dL_law_514 : decode cL_law 514 = .ok (.iload_n 3, 1) := by decide +kernel
theorem dL_law_515 : decode cL_law 515 = .ok (.iconst 2, 1) := by decide +kernel
theorem dL_law_516 : decode cL_law 516 = .ok (.iadd, 1) := by decide +kernel
theorem dL_law_517 : decode cL_law 517 = .ok (.iaload, 1) := by decide +kernel
theorem dL_law_518 : decode cL_law 518 = .ok (.invokevirtual 53, 3) := by decide +kernel
theorem dL_law_521 : decode cL_law 521 = .ok (.aload_n 2, 1) := by decide +kernel
theorem dL_law_522 : decode cL_law 522 = .ok (.aload_n 0, 1) := by decide +kernel
theorem dL_law_523 : decode cL_law 523 = .ok (.iload_n 3, 1) := by decide +kernel
theorem dL_law_524 : decode cL_law 524 = .ok (.iconst 1, 1) := by decide +kernel
theorem dL_law_525 : decode cL_law 525 = .ok (.iadd, 1) := by decide +kernel
theorem dL_law_526 : decode cL_law 526 = .ok (.iaload, 1) := by decide +kernel
theorem dL_law_527 : decode cL_law 527 = .ok (.aload_n 0, 1) := by decide +kernel
theorem dL_law_528 : decode cL_law 528 = .ok (.iload_n 3, 1) := by decide +kernel
theorem dL_law_529 : decode cL_law 529 = .ok (.iconst 2, 1) := by decide +kernel
theorem dL_law_530 : decode cL_law 530 = .ok (.iadd, 1) := by decide +kernel
theorem dL_law_531 : decode cL_law 531 = .ok (.iaload, 1) := by decide +kernel
theorem dL_law_532 : decode cL_law 532 = .ok (.invokevirtual 56, 3) := by decide +kernel
theorem dL_law_535 : decode cL_law 535 = .ok (.if_icmp .eq 571, 3) := by decide +kernel
theorem dL_law_538 : decode cL_law 538 = .ok (.iconst 0, 1) := by decide +kernel
theorem dL_law_539 : decode cL_law 539 = .ok (.ireturn, 1) := by decide +kernel
theorem dL_law_540 : decode cL_law 540 = .ok (.aload_n 1, 1) := by decide +kernel
theorem dL_law_541 : decode cL_law 541 = .ok (.aload_n 0, 1) := by decide +kernel
theorem dL_law_542 : decode cL_law 542 = .ok (.iload_n 3, 1) := by decide +kernel
theorem dL_law_543 : decode cL_law 543 = .ok (.iconst 1, 1) := by decide +kernel
theorem dL_law_544 : decode cL_law 544 = .ok (.iadd, 1) := by decide +kernel
theorem dL_law_545 : decode cL_law 545 = .ok (.iaload, 1) := by decide +kernel
theorem dL_law_546 : decode cL_law 546 = .ok (.invokevirtual 57, 3) := by decide +kernel
theorem dL_law_549 : decode cL_law 549 = .ok (.aload_n 2, 1) := by decide +kernel
theorem dL_law_550 : decode cL_law 550 = .ok (.aload_n 0, 1) := by decide +kernel
theorem dL_law_551 : decode cL_law 551 = .ok (.iload_n 3, 1) := by decide +kernel
theorem dL_law_552 : decode cL_law 552 = .ok (.iconst 1, 1) := by decide +kernel
theorem dL_law_553 : decode cL_law 553 = .ok (.iadd, 1) := by decide +kernel
theorem dL_law_554 : decode cL_law 554 = .ok (.iaload, 1) := by decide +kernel
theorem dL_law_555 : decode cL_law 555 = .ok (.invokevirtual 60, 3) := by decide +kernel
theorem dL_law_558 : decode cL_law 558 = .ok (.if_icmp .eq 548, 3) := by decide +kernel
theorem dL_law_561 : decode cL_law 561 = .ok (.iconst 0, 1) := by decide +kernel
theorem dL_law_562 : decode cL_law 562 = .ok (.ireturn, 1) := by decide +kernel
theorem dL_law_563 : decode cL_law 563 = .ok (.aload_n 1, 1) := by decide +kernel
theorem dL_law_564 : decode cL_law 564 = .ok (.aload_n 0, 1) := by decide +kernel
theorem dL_law_565 : decode cL_law 565 = .ok (.iload_n 3, 1) := by decide +kernel
theorem dL_law_566 : decode cL_law 566 = .ok (.iconst 1, 1) := by decide +kernel
theorem dL_law_567 : decode cL_law 567 = .ok (.iadd, 1) := by decide +kernel
theorem dL_law_568 : decode cL_law 568 = .ok (.iaload, 1) := by decide +kernel
theorem dL_law_569 : decode cL_law 569 = .ok (.aload_n 0, 1) := by decide +kernel
theorem dL_law_570 : decode cL_law 570 = .ok (.iload_n 3, 1) := by decide +kernel
theorem dL_law_571 : decode cL_law 571 = .ok (.iconst 2, 1) := by decide +kernel
theorem dL_law_572 : decode cL_law 572 = .ok (.iadd, 1) := by decide +kernel
theorem dL_law_573 : decode cL_law 573 = .ok (.iaload, 1) := by decide +kernel
theorem dL_law_574 : decode cL_law 574 = .ok (.ifCond .eq 7, 3) := by decide +kernel
theorem dL_law_577 : decode cL_law 577 = .ok (.iconst 1, 1) := by decide +kernel
theorem dL_law_578 : decode cL_law 578 = .ok (.goto 4, 3) := by decide +kernel
theorem dL_law_581 : decode cL_law 581 = .ok (.iconst 0, 1) := by decide +kernel
theorem dL_law_582 : decode cL_law 582 = .ok (.invokevirtual 61, 3) := by decide +kernel
theorem dL_law_585 : decode cL_law 585 = .ok (.aload_n 2, 1) := by decide +kernel
theorem dL_law_586 : decode cL_law 586 = .ok (.aload_n 0, 1) := by decide +kernel
theorem dL_law_587 : decode cL_law 587 = .ok (.iload_n 3, 1) := by decide +kernel
theorem dL_law_588 : decode cL_law 588 = .ok (.iconst 1, 1) := by decide +kernel
theorem dL_law_589 : decode cL_law 589 = .ok (.iadd, 1) := by decide +kernel
theorem dL_law_590 : decode cL_law 590 = .ok (.iaload, 1) := by decide +kernel
theorem dL_law_591 : decode cL_law 591 = .ok (.aload_n 0, 1) := by decide +kernel
theorem dL_law_592 : decode cL_law 592 = .ok (.iload_n 3, 1) := by decide +kernel
theorem dL_law_593 : decode cL_law 593 = .ok (.iconst 2, 1) := by decide +kernel
theorem dL_law_594 : decode cL_law 594 = .ok (.iadd, 1) := by decide +kernel
theorem dL_law_595 : decode cL_law 595 = .ok (.iaload, 1) := by decide +kernel
theorem dL_law_596 : decode cL_law 596 = .ok (.ifCond .eq 7, 3) := by decide +kernel
theorem dL_law_599 : decode cL_law 599 = .ok (.iconst 1, 1) := by decide +kernel
theorem dL_law_600 : decode cL_law 600 = .ok (.goto 4, 3) := by decide +kernel
theorem dL_law_603 : decode cL_law 603 = .ok (.iconst 0, 1) := by decide +kernel
theorem dL_law_604 : decode cL_law 604 = .ok (.invokevirtual 65, 3) := by decide +kernel
theorem dL_law_607 : decode cL_law 607 = .ok (.if_icmp .eq 499, 3) := by decide +kernel
theorem dL_law_610 : decode cL_law 610 = .ok (.iconst 0, 1) := by decide +kernel
theorem dL_law_611 : decode cL_law 611 = .ok (.ireturn, 1) := by decide +kernel
theorem dL_law_612 : decode cL_law 612 = .ok (.aload_n 1, 1) := by decide +kernel
theorem dL_law_613 : decode cL_law 613 = .ok (.invokevirtual 66, 3) := by decide +kernel
theorem dL_law_616 : decode cL_law 616 = .ok (.aload_n 2, 1) := by decide +kernel
theorem dL_law_617 : decode cL_law 617 = .ok (.invokevirtual 70, 3) := by decide +kernel
theorem dL_law_620 : decode cL_law 620 = .ok (.if_icmp .eq 486, 3) := by decide +kernel
theorem dL_law_623 : decode cL_law 623 = .ok (.iconst 0, 1) := by decide +kernel
theorem dL_law_624 : decode cL_law 624 = .ok (.ireturn, 1) := by decide +kernel
theorem dL_law_625 : decode cL_law 625 = .ok (.aload_n 1, 1) := by decide +kernel
theorem dL_law_626 : decode cL_law 626 = .ok (.aload_n 0, 1) := by decide +kernel
theorem dL_law_627 : decode cL_law 627 = .ok (.iload_n 3, 1) := by decide +kernel
theorem dL_law_628 : decode cL_law 628 = .ok (.iconst 1, 1) := by decide +kernel
theorem dL_law_629 : decode cL_law 629 = .ok (.iadd, 1) := by decide +kernel
theorem dL_law_630 : decode cL_law 630 = .ok (.iaload, 1) := by decide +kernel
theorem dL_law_631 : decode cL_law 631 = .ok (.aload_n 0, 1) := by decide +kernel
theorem dL_law_632 : decode cL_law 632 = .ok (.iload_n 3, 1) := by decide +kernel
theorem dL_law_633 : decode cL_law 633 = .ok (.iconst 2, 1) := by decide +kernel
theorem dL_law_634 : decode cL_law 634 = .ok (.iadd, 1) := by decide +kernel
theorem dL_law_635 : decode cL_law 635 = .ok (.iaload, 1) := by decide +kernel
theorem dL_law_636 : decode cL_law 636 = .ok (.invokevirtual 71, 3) := by decide +kernel
theorem dL_law_639 : decode cL_law 639 = .ok (.aload_n 2, 1) := by decide +kernel
theorem dL_law_640 : decode cL_law 640 = .ok (.aload_n 0, 1) := by decide +kernel
theorem dL_law_641 : decode cL_law 641 = .ok (.iload_n 3, 1) := by decide +kernel
theorem dL_law_642 : decode cL_law 642 = .ok (.iconst 1, 1) := by decide +kernel
theorem dL_law_643 : decode cL_law 643 = .ok (.iadd, 1) := by decide +kernel
theorem dL_law_644 : decode cL_law 644 = .ok (.iaload, 1) := by decide +kernel
theorem dL_law_645 : decode cL_law 645 = .ok (.aload_n 0, 1) := by decide +kernel
theorem dL_law_646 : decode cL_law 646 = .ok (.iload_n 3, 1) := by decide +kernel
theorem dL_law_647 : decode cL_law 647 = .ok (.iconst 2, 1) := by decide +kernel
theorem dL_law_648 : decode cL_law 648 = .ok (.iadd, 1) := by decide +kernel
theorem dL_law_649 : decode cL_law 649 = .ok (.iaload, 1) := by decide +kernel
theorem dL_law_650 : decode cL_law 650 = .ok (.invokevirtual 74, 3) := by decide +kernel
theorem dL_law_653 : decode cL_law 653 = .ok (.if_icmp .eq 453, 3) := by decide +kernel
theorem dL_law_656 : decode cL_law 656 = .ok (.iconst 0, 1) := by decide +kernel
theorem dL_law_657 : decode cL_law 657 = .ok (.ireturn, 1) := by decide +kernel
theorem dL_law_658 : decode cL_law 658 = .ok (.aload_n 1, 1) := by decide +kernel
theorem dL_law_659 : decode cL_law 659 = .ok (.aload_n 0, 1) := by decide +kernel
theorem dL_law_660 : decode cL_law 660 = .ok (.iload_n 3, 1) := by decide +kernel
theorem dL_law_661 : decode cL_law 661 = .ok (.iconst 1, 1) := by decide +kernel
theorem dL_law_662 : decode cL_law 662 = .ok (.iadd, 1) := by decide +kernel
theorem dL_law_663 : decode cL_law 663 = .ok (.iaload, 1) := by decide +kernel
theorem dL_law_664 : decode cL_law 664 = .ok (.aload_n 0, 1) := by decide +kernel
theorem dL_law_665 : decode cL_law 665 = .ok (.iload_n 3, 1) := by decide +kernel
theorem dL_law_666 : decode cL_law 666 = .ok (.iconst 2, 1) := by decide +kernel
theorem dL_law_667 : decode cL_law 667 = .ok (.iadd, 1) := by decide +kernel
theorem dL_law_668 : decode cL_law 668 = .ok (.iaload, 1) := by decide +kernel
theorem dL_law_669 : decode cL_law 669 = .ok (.invokevirtual 75, 3) := by decide +kernel
theorem dL_law_672 : decode cL_law 672 = .ok (.aload_n 2, 1) := by decide +kernel
theorem dL_law_673 : decode cL_law 673 = .ok (.aload_n 0, 1) := by decide +kernel
theorem dL_law_674 : decode cL_law 674 = .ok (.iload_n 3, 1) := by decide +kernel
theorem dL_law_675 : decode cL_law 675 = .ok (.iconst 1, 1) := by decide +kernel
theorem dL_law_676 : decode cL_law 676 = .ok (.iadd, 1) := by decide +kernel
theorem dL_law_677 : decode cL_law 677 = .ok (.iaload, 1) := by decide +kernel
theorem dL_law_678 : decode cL_law 678 = .ok (.aload_n 0, 1) := by decide +kernel
theorem dL_law_679 : decode cL_law 679 = .ok (.iload_n 3, 1) := by decide +kernel
theorem dL_law_680 : decode cL_law 680 = .ok (.iconst 2, 1) := by decide +kernel
theorem dL_law_681 : decode cL_law 681 = .ok (.iadd, 1) := by decide +kernel
theorem dL_law_682 : decode cL_law 682 = .ok (.iaload, 1) := by decide +kernel
theorem dL_law_683 : decode cL_law 683 = .ok (.invokevirtual 78, 3) := by decide +kernel
theorem dL_law_686 : decode cL_law 686 = .ok (.if_icmp .eq 420, 3) := by decide +kernel
theorem dL_law_689 : decode cL_law 689 = .ok (.iconst 0, 1) := by decide +kernel
theorem dL_law_690 : decode cL_law 690 = .ok (.ireturn, 1) := by decide +kernel
theorem dL_law_691 : decode cL_law 691 = .ok (.aload_n 1, 1) := by decide +kernel
theorem dL_law_692 : decode cL_law 692 = .ok (.invokevirtual 79, 3) := by decide +kernel
theorem dL_law_695 : decode cL_law 695 = .ok (.aload_n 2, 1) := by decide +kernel
theorem dL_law_696 : decode cL_law 696 = .ok (.invokevirtual 82, 3) := by decide +kernel
theorem dL_law_699 : decode cL_law 699 = .ok (.if_icmp .eq 407, 3) := by decide +kernel
theorem dL_law_702 : decode cL_law 702 = .ok (.iconst 0, 1) := by decide +kernel
theorem dL_law_703 : decode cL_law 703 = .ok (.ireturn, 1) := by decide +kernel
theorem dL_law_704 : decode cL_law 704 = .ok (.aload_n 1, 1) := by decide +kernel
theorem dL_law_705 : decode cL_law 705 = .ok (.aload_n 0, 1) := by decide +kernel
theorem dL_law_706 : decode cL_law 706 = .ok (.iload_n 3, 1) := by decide +kernel
theorem dL_law_707 : decode cL_law 707 = .ok (.iconst 1, 1) := by decide +kernel
theorem dL_law_708 : decode cL_law 708 = .ok (.iadd, 1) := by decide +kernel
theorem dL_law_709 : decode cL_law 709 = .ok (.iaload, 1) := by decide +kernel
theorem dL_law_710 : decode cL_law 710 = .ok (.aload_n 0, 1) := by decide +kernel
theorem dL_law_711 : decode cL_law 711 = .ok (.iload_n 3, 1) := by decide +kernel
theorem dL_law_712 : decode cL_law 712 = .ok (.iconst 2, 1) := by decide +kernel
theorem dL_law_713 : decode cL_law 713 = .ok (.iadd, 1) := by decide +kernel
theorem dL_law_714 : decode cL_law 714 = .ok (.iaload, 1) := by decide +kernel
theorem dL_law_715 : decode cL_law 715 = .ok (.invokevirtual 83, 3) := by decide +kernel
theorem dL_law_718 : decode cL_law 718 = .ok (.aload_n 2, 1) := by decide +kernel
theorem dL_law_719 : decode cL_law 719 = .ok (.aload_n 0, 1) := by decide +kernel
theorem dL_law_720 : decode cL_law 720 = .ok (.iload_n 3, 1) := by decide +kernel
theorem dL_law_721 : decode cL_law 721 = .ok (.iconst 1, 1) := by decide +kernel
theorem dL_law_722 : decode cL_law 722 = .ok (.iadd, 1) := by decide +kernel
theorem dL_law_723 : decode cL_law 723 = .ok (.iaload, 1) := by decide +kernel
theorem dL_law_724 : decode cL_law 724 = .ok (.aload_n 0, 1) := by decide +kernel
theorem dL_law_725 : decode cL_law 725 = .ok (.iload_n 3, 1) := by decide +kernel
theorem dL_law_726 : decode cL_law 726 = .ok (.iconst 2, 1) := by decide +kernel
theorem dL_law_727 : decode cL_law 727 = .ok (.iadd, 1) := by decide +kernel
theorem dL_law_728 : decode cL_law 728 = .ok (.iaload, 1) := by decide +kernel
theorem dL_law_729 : decode cL_law 729 = .ok (.invokevirtual 86, 3) := by decide +kernel
theorem dL_law_732 : decode cL_law 732 = .ok (.if_icmp .eq 374, 3) := by decide +kernel
theorem dL_law_735 : decode cL_law 735 = .ok (.iconst 0, 1) := by decide +kernel
theorem dL_law_736 : decode cL_law 736 = .ok (.ireturn, 1) := by decide +kernel
theorem dL_law_737 : decode cL_law 737 = .ok (.aload_n 1, 1) := by decide +kernel
theorem dL_law_738 : decode cL_law 738 = .ok (.aload_n 0, 1) := by decide +kernel
theorem dL_law_739 : decode cL_law 739 = .ok (.iload_n 3, 1) := by decide +kernel
theorem dL_law_740 : decode cL_law 740 = .ok (.iconst 1, 1) := by decide +kernel
theorem dL_law_741 : decode cL_law 741 = .ok (.iadd, 1) := by decide +kernel
theorem dL_law_742 : decode cL_law 742 = .ok (.iaload, 1) := by decide +kernel
theorem dL_law_743 : decode cL_law 743 = .ok (.aload_n 0, 1) := by decide +kernel
theorem dL_law_744 : decode cL_law 744 = .ok (.iload_n 3, 1) := by decide +kernel
theorem dL_law_745 : decode cL_law 745 = .ok (.iconst 2, 1) := by decide +kernel
theorem dL_law_746 : decode cL_law 746 = .ok (.iadd, 1) := by decide +kernel
theorem dL_law_747 : decode cL_law 747 = .ok (.iaload, 1) := by decide +kernel
theorem dL_law_748 : decode cL_law 748 = .ok (.aload_n 0, 1) := by decide +kernel
theorem dL_law_749 : decode cL_law 749 = .ok (.iload_n 3, 1) := by decide +kernel
theorem dL_law_750 : decode cL_law 750 = .ok (.iconst 3, 1) := by decide +kernel
theorem dL_law_751 : decode cL_law 751 = .ok (.iadd, 1) := by decide +kernel
theorem dL_law_752 : decode cL_law 752 = .ok (.iaload, 1) := by decide +kernel
theorem dL_law_753 : decode cL_law 753 = .ok (.invokevirtual 87, 3) := by decide +kernel
theorem dL_law_756 : decode cL_law 756 = .ok (.aload_n 2, 1) := by decide +kernel
theorem dL_law_757 : decode cL_law 757 = .ok (.aload_n 0, 1) := by decide +kernel
theorem dL_law_758 : decode cL_law 758 = .ok (.iload_n 3, 1) := by decide +kernel
theorem dL_law_759 : decode cL_law 759 = .ok (.iconst 1, 1) := by decide +kernel
theorem dL_law_760 : decode cL_law 760 = .ok (.iadd, 1) := by decide +kernel
theorem dL_law_761 : decode cL_law 761 = .ok (.iaload, 1) := by decide +kernel
theorem dL_law_762 : decode cL_law 762 = .ok (.aload_n 0, 1) := by decide +kernel
theorem dL_law_763 : decode cL_law 763 = .ok (.iload_n 3, 1) := by decide +kernel
theorem dL_law_764 : decode cL_law 764 = .ok (.iconst 2, 1) := by decide +kernel
theorem dL_law_765 : decode cL_law 765 = .ok (.iadd, 1) := by decide +kernel
theorem dL_law_766 : decode cL_law 766 = .ok (.iaload, 1) := by decide +kernel
theorem dL_law_767 : decode cL_law 767 = .ok (.aload_n 0, 1) := by decide +kernel
theorem dL_law_768 : decode cL_law 768 = .ok (.iload_n 3, 1) := by decide +kernel
theorem dL_law_769 : decode cL_law 769 = .ok (.iconst 3, 1) := by decide +kernel
theorem dL_law_770 : decode cL_law 770 = .ok (.iadd, 1) := by decide +kernel
theorem dL_law_771 : decode cL_law 771 = .ok (.iaload, 1) := by decide +kernel
theorem dL_law_772 : decode cL_law 772 = .ok (.invokevirtual 90, 3) := by decide +kernel
theorem dL_law_775 : decode cL_law 775 = .ok (.if_icmp .eq 331, 3) := by decide +kernel
theorem dL_law_778 : decode cL_law 778 = .ok (.iconst 0, 1) := by decide +kernel
theorem dL_law_779 : decode cL_law 779 = .ok (.ireturn, 1) := by decide +kernel
theorem dL_law_780 : decode cL_law 780 = .ok (.aload_n 1, 1) := by decide +kernel
theorem dL_law_781 : decode cL_law 781 = .ok (.aload_n 0, 1) := by decide +kernel
theorem dL_law_782 : decode cL_law 782 = .ok (.iload_n 3, 1) := by decide +kernel
theorem dL_law_783 : decode cL_law 783 = .ok (.iconst 1, 1) := by decide +kernel
theorem dL_law_784 : decode cL_law 784 = .ok (.iadd, 1) := by decide +kernel
theorem dL_law_785 : decode cL_law 785 = .ok (.iaload, 1) := by decide +kernel
theorem dL_law_786 : decode cL_law 786 = .ok (.aload_n 0, 1) := by decide +kernel
theorem dL_law_787 : decode cL_law 787 = .ok (.iload_n 3, 1) := by decide +kernel
theorem dL_law_788 : decode cL_law 788 = .ok (.iconst 2, 1) := by decide +kernel
theorem dL_law_789 : decode cL_law 789 = .ok (.iadd, 1) := by decide +kernel
theorem dL_law_790 : decode cL_law 790 = .ok (.iaload, 1) := by decide +kernel
theorem dL_law_791 : decode cL_law 791 = .ok (.ifCond .eq 7, 3) := by decide +kernel
theorem dL_law_794 : decode cL_law 794 = .ok (.iconst 1, 1) := by decide +kernel
theorem dL_law_795 : decode cL_law 795 = .ok (.goto 4, 3) := by decide +kernel
theorem dL_law_798 : decode cL_law 798 = .ok (.iconst 0, 1) := by decide +kernel
theorem dL_law_799 : decode cL_law 799 = .ok (.invokevirtual 91, 3) := by decide +kernel
theorem dL_law_802 : decode cL_law 802 = .ok (.aload_n 2, 1) := by decide +kernel
theorem dL_law_803 : decode cL_law 803 = .ok (.aload_n 0, 1) := by decide +kernel
theorem dL_law_804 : decode cL_law 804 = .ok (.iload_n 3, 1) := by decide +kernel
theorem dL_law_805 : decode cL_law 805 = .ok (.iconst 1, 1) := by decide +kernel
theorem dL_law_806 : decode cL_law 806 = .ok (.iadd, 1) := by decide +kernel
theorem dL_law_807 : decode cL_law 807 = .ok (.iaload, 1) := by decide +kernel
theorem dL_law_808 : decode cL_law 808 = .ok (.aload_n 0, 1) := by decide +kernel
theorem dL_law_809 : decode cL_law 809 = .ok (.iload_n 3, 1) := by decide +kernel
theorem dL_law_810 : decode cL_law 810 = .ok (.iconst 2, 1) := by decide +kernel
theorem dL_law_811 : decode cL_law 811 = .ok (.iadd, 1) := by decide +kernel
theorem dL_law_812 : decode cL_law 812 = .ok (.iaload, 1) := by decide +kernel
theorem dL_law_813 : decode cL_law 813 = .ok (.ifCond .eq 7, 3) := by decide +kernel
theorem dL_law_816 : decode cL_law 816 = .ok (.iconst 1, 1) := by decide +kernel
theorem dL_law_817 : decode cL_law 817 = .ok (.goto 4, 3) := by decide +kernel
theorem dL_law_820 : decode cL_law 820 = .ok (.iconst 0, 1) := by decide +kernel
theorem dL_law_821 : decode cL_law 821 = .ok (.invokevirtual 94, 3) := by decide +kernel
theorem dL_law_824 : decode cL_law 824 = .ok (.if_icmp .eq 282, 3) := by decide +kernel
theorem dL_law_827 : decode cL_law 827 = .ok (.iconst 0, 1) := by decide +kernel
theorem dL_law_828 : decode cL_law 828 = .ok (.ireturn, 1) := by decide +kernel
theorem dL_law_829 : decode cL_law 829 = .ok (.aload_n 1, 1) := by decide +kernel
theorem dL_law_830 : decode cL_law 830 = .ok (.aload_n 0, 1) := by decide +kernel
theorem dL_law_831 : decode cL_law 831 = .ok (.iload_n 3, 1) := by decide +kernel
theorem dL_law_832 : decode cL_law 832 = .ok (.iconst 1, 1) := by decide +kernel
theorem dL_law_833 : decode cL_law 833 = .ok (.iadd, 1) := by decide +kernel
theorem dL_law_834 : decode cL_law 834 = .ok (.iaload, 1) := by decide +kernel
theorem dL_law_835 : decode cL_law 835 = .ok (.invokevirtual 95, 3) := by decide +kernel
theorem dL_law_838 : decode cL_law 838 = .ok (.aload_n 2, 1) := by decide +kernel
theorem dL_law_839 : decode cL_law 839 = .ok (.aload_n 0, 1) := by decide +kernel
theorem dL_law_840 : decode cL_law 840 = .ok (.iload_n 3, 1) := by decide +kernel
theorem dL_law_841 : decode cL_law 841 = .ok (.iconst 1, 1) := by decide +kernel
theorem dL_law_842 : decode cL_law 842 = .ok (.iadd, 1) := by decide +kernel
theorem dL_law_843 : decode cL_law 843 = .ok (.iaload, 1) := by decide +kernel
theorem dL_law_844 : decode cL_law 844 = .ok (.invokevirtual 98, 3) := by decide +kernel
theorem dL_law_847 : decode cL_law 847 = .ok (.if_icmp .eq 259, 3) := by decide +kernel
theorem dL_law_850 : decode cL_law 850 = .ok (.iconst 0, 1) := by decide +kernel
theorem dL_law_851 : decode cL_law 851 = .ok (.ireturn, 1) := by decide +kernel
theorem dL_law_852 : decode cL_law 852 = .ok (.aload_n 1, 1) := by decide +kernel
theorem dL_law_853 : decode cL_law 853 = .ok (.aload_n 0, 1) := by decide +kernel
theorem dL_law_854 : decode cL_law 854 = .ok (.iload_n 3, 1) := by decide +kernel
theorem dL_law_855 : decode cL_law 855 = .ok (.iconst 1, 1) := by decide +kernel
theorem dL_law_856 : decode cL_law 856 = .ok (.iadd, 1) := by decide +kernel
theorem dL_law_857 : decode cL_law 857 = .ok (.iaload, 1) := by decide +kernel
theorem dL_law_858 : decode cL_law 858 = .ok (.aload_n 0, 1) := by decide +kernel
theorem dL_law_859 : decode cL_law 859 = .ok (.iload_n 3, 1) := by decide +kernel
theorem dL_law_860 : decode cL_law 860 = .ok (.iconst 2, 1) := by decide +kernel
theorem dL_law_861 : decode cL_law 861 = .ok (.iadd, 1) := by decide +kernel
theorem dL_law_862 : decode cL_law 862 = .ok (.iaload, 1) := by decide +kernel
theorem dL_law_863 : decode cL_law 863 = .ok (.invokevirtual 99, 3) := by decide +kernel
theorem dL_law_866 : decode cL_law 866 = .ok (.aload_n 2, 1) := by decide +kernel
theorem dL_law_867 : decode cL_law 867 = .ok (.aload_n 0, 1) := by decide +kernel
theorem dL_law_868 : decode cL_law 868 = .ok (.iload_n 3, 1) := by decide +kernel
theorem dL_law_869 : decode cL_law 869 = .ok (.iconst 1, 1) := by decide +kernel
theorem dL_law_870 : decode cL_law 870 = .ok (.iadd, 1) := by decide +kernel
theorem dL_law_871 : decode cL_law 871 = .ok (.iaload, 1) := by decide +kernel
theorem dL_law_872 : decode cL_law 872 = .ok (.aload_n 0, 1) := by decide +kernel
theorem dL_law_873 : decode cL_law 873 = .ok (.iload_n 3, 1) := by decide +kernel
theorem dL_law_874 : decode cL_law 874 = .ok (.iconst 2, 1) := by decide +kernel
theorem dL_law_875 : decode cL_law 875 = .ok (.iadd, 1) := by decide +kernel
theorem dL_law_876 : decode cL_law 876 = .ok (.iaload, 1) := by decide +kernel
theorem dL_law_877 : decode cL_law 877 = .ok (.invokevirtual 102, 3) := by decide +kernel
theorem dL_law_880 : decode cL_law 880 = .ok (.if_icmp .eq 226, 3) := by decide +kernel
theorem dL_law_883 : decode cL_law 883 = .ok (.iconst 0, 1) := by decide +kernel
theorem dL_law_884 : decode cL_law 884 = .ok (.ireturn, 1) := by decide +kernel
theorem dL_law_885 : decode cL_law 885 = .ok (.aload_n 1, 1) := by decide +kernel
theorem dL_law_886 : decode cL_law 886 = .ok (.invokevirtual 103, 3) := by decide +kernel
theorem dL_law_889 : decode cL_law 889 = .ok (.aload_n 2, 1) := by decide +kernel
theorem dL_law_890 : decode cL_law 890 = .ok (.invokevirtual 106, 3) := by decide +kernel
theorem dL_law_893 : decode cL_law 893 = .ok (.if_icmp .eq 213, 3) := by decide +kernel
theorem dL_law_896 : decode cL_law 896 = .ok (.iconst 0, 1) := by decide +kernel
theorem dL_law_897 : decode cL_law 897 = .ok (.ireturn, 1) := by decide +kernel
theorem dL_law_898 : decode cL_law 898 = .ok (.aload_n 1, 1) := by decide +kernel
theorem dL_law_899 : decode cL_law 899 = .ok (.invokevirtual 107, 3) := by decide +kernel
theorem dL_law_902 : decode cL_law 902 = .ok (.aload_n 2, 1) := by decide +kernel
theorem dL_law_903 : decode cL_law 903 = .ok (.invokevirtual 110, 3) := by decide +kernel
theorem dL_law_906 : decode cL_law 906 = .ok (.if_icmp .eq 200, 3) := by decide +kernel
theorem dL_law_909 : decode cL_law 909 = .ok (.iconst 0, 1) := by decide +kernel
theorem dL_law_910 : decode cL_law 910 = .ok (.ireturn, 1) := by decide +kernel
theorem dL_law_911 : decode cL_law 911 = .ok (.aload_n 1, 1) := by decide +kernel
theorem dL_law_912 : decode cL_law 912 = .ok (.aload_n 0, 1) := by decide +kernel
theorem dL_law_913 : decode cL_law 913 = .ok (.iload_n 3, 1) := by decide +kernel
theorem dL_law_914 : decode cL_law 914 = .ok (.iconst 1, 1) := by decide +kernel
theorem dL_law_915 : decode cL_law 915 = .ok (.iadd, 1) := by decide +kernel
theorem dL_law_916 : decode cL_law 916 = .ok (.iaload, 1) := by decide +kernel
theorem dL_law_917 : decode cL_law 917 = .ok (.aload_n 0, 1) := by decide +kernel
theorem dL_law_918 : decode cL_law 918 = .ok (.iload_n 3, 1) := by decide +kernel
theorem dL_law_919 : decode cL_law 919 = .ok (.iconst 2, 1) := by decide +kernel
theorem dL_law_920 : decode cL_law 920 = .ok (.iadd, 1) := by decide +kernel
theorem dL_law_921 : decode cL_law 921 = .ok (.iaload, 1) := by decide +kernel
theorem dL_law_922 : decode cL_law 922 = .ok (.aload_n 0, 1) := by decide +kernel
theorem dL_law_923 : decode cL_law 923 = .ok (.iload_n 3, 1) := by decide +kernel
theorem dL_law_924 : decode cL_law 924 = .ok (.iconst 3, 1) := by decide +kernel
theorem dL_law_925 : decode cL_law 925 = .ok (.iadd, 1) := by decide +kernel
theorem dL_law_926 : decode cL_law 926 = .ok (.iaload, 1) := by decide +kernel
theorem dL_law_927 : decode cL_law 927 = .ok (.aload_n 0, 1) := by decide +kernel
theorem dL_law_928 : decode cL_law 928 = .ok (.iload_n 3, 1) := by decide +kernel
theorem dL_law_929 : decode cL_law 929 = .ok (.iconst 4, 1) := by decide +kernel
theorem dL_law_930 : decode cL_law 930 = .ok (.iadd, 1) := by decide +kernel
theorem dL_law_931 : decode cL_law 931 = .ok (.iaload, 1) := by decide +kernel
theorem dL_law_932 : decode cL_law 932 = .ok (.invokevirtual 111, 3) := by decide +kernel
theorem dL_law_935 : decode cL_law 935 = .ok (.aload_n 2, 1) := by decide +kernel
theorem dL_law_936 : decode cL_law 936 = .ok (.aload_n 0, 1) := by decide +kernel
theorem dL_law_937 : decode cL_law 937 = .ok (.iload_n 3, 1) := by decide +kernel
theorem dL_law_938 : decode cL_law 938 = .ok (.iconst 1, 1) := by decide +kernel
theorem dL_law_939 : decode cL_law 939 = .ok (.iadd, 1) := by decide +kernel
theorem dL_law_940 : decode cL_law 940 = .ok (.iaload, 1) := by decide +kernel
theorem dL_law_941 : decode cL_law 941 = .ok (.aload_n 0, 1) := by decide +kernel
theorem dL_law_942 : decode cL_law 942 = .ok (.iload_n 3, 1) := by decide +kernel
theorem dL_law_943 : decode cL_law 943 = .ok (.iconst 2, 1) := by decide +kernel
theorem dL_law_944 : decode cL_law 944 = .ok (.iadd, 1) := by decide +kernel
theorem dL_law_945 : decode cL_law 945 = .ok (.iaload, 1) := by decide +kernel
theorem dL_law_946 : decode cL_law 946 = .ok (.aload_n 0, 1) := by decide +kernel
theorem dL_law_947 : decode cL_law 947 = .ok (.iload_n 3, 1) := by decide +kernel
theorem dL_law_948 : decode cL_law 948 = .ok (.iconst 3, 1) := by decide +kernel
theorem dL_law_949 : decode cL_law 949 = .ok (.iadd, 1) := by decide +kernel
theorem dL_law_950 : decode cL_law 950 = .ok (.iaload, 1) := by decide +kernel
theorem dL_law_951 : decode cL_law 951 = .ok (.aload_n 0, 1) := by decide +kernel
theorem dL_law_952 : decode cL_law 952 = .ok (.iload_n 3, 1) := by decide +kernel
theorem dL_law_953 : decode cL_law 953 = .ok (.iconst 4, 1) := by decide +kernel
theorem dL_law_954 : decode cL_law 954 = .ok (.iadd, 1) := by decide +kernel
theorem dL_law_955 : decode cL_law 955 = .ok (.iaload, 1) := by decide +kernel
theorem dL_law_956 : decode cL_law 956 = .ok (.invokevirtual 114, 3) := by decide +kernel
theorem dL_law_959 : decode cL_law 959 = .ok (.if_icmp .eq 147, 3) := by decide +kernel
theorem dL_law_962 : decode cL_law 962 = .ok (.iconst 0, 1) := by decide +kernel
theorem dL_law_963 : decode cL_law 963 = .ok (.ireturn, 1) := by decide +kernel
theorem dL_law_964 : decode cL_law 964 = .ok (.aload_n 1, 1) := by decide +kernel
theorem dL_law_965 : decode cL_law 965 = .ok (.aload_n 0, 1) := by decide +kernel
theorem dL_law_966 : decode cL_law 966 = .ok (.iload_n 3, 1) := by decide +kernel
theorem dL_law_967 : decode cL_law 967 = .ok (.iconst 1, 1) := by decide +kernel
theorem dL_law_968 : decode cL_law 968 = .ok (.iadd, 1) := by decide +kernel
theorem dL_law_969 : decode cL_law 969 = .ok (.iaload, 1) := by decide +kernel
theorem dL_law_970 : decode cL_law 970 = .ok (.aload_n 0, 1) := by decide +kernel
theorem dL_law_971 : decode cL_law 971 = .ok (.iload_n 3, 1) := by decide +kernel
theorem dL_law_972 : decode cL_law 972 = .ok (.iconst 2, 1) := by decide +kernel
theorem dL_law_973 : decode cL_law 973 = .ok (.iadd, 1) := by decide +kernel
theorem dL_law_974 : decode cL_law 974 = .ok (.iaload, 1) := by decide +kernel
theorem dL_law_975 : decode cL_law 975 = .ok (.aload_n 0, 1) := by decide +kernel
theorem dL_law_976 : decode cL_law 976 = .ok (.iload_n 3, 1) := by decide +kernel
theorem dL_law_977 : decode cL_law 977 = .ok (.iconst 3, 1) := by decide +kernel
theorem dL_law_978 : decode cL_law 978 = .ok (.iadd, 1) := by decide +kernel
theorem dL_law_979 : decode cL_law 979 = .ok (.iaload, 1) := by decide +kernel
theorem dL_law_980 : decode cL_law 980 = .ok (.invokevirtual 115, 3) := by decide +kernel
theorem dL_law_983 : decode cL_law 983 = .ok (.aload_n 2, 1) := by decide +kernel
theorem dL_law_984 : decode cL_law 984 = .ok (.aload_n 0, 1) := by decide +kernel
theorem dL_law_985 : decode cL_law 985 = .ok (.iload_n 3, 1) := by decide +kernel
theorem dL_law_986 : decode cL_law 986 = .ok (.iconst 1, 1) := by decide +kernel
theorem dL_law_987 : decode cL_law 987 = .ok (.iadd, 1) := by decide +kernel
theorem dL_law_988 : decode cL_law 988 = .ok (.iaload, 1) := by decide +kernel
theorem dL_law_989 : decode cL_law 989 = .ok (.aload_n 0, 1) := by decide +kernel
theorem dL_law_990 : decode cL_law 990 = .ok (.iload_n 3, 1) := by decide +kernel
theorem dL_law_991 : decode cL_law 991 = .ok (.iconst 2, 1) := by decide +kernel
theorem dL_law_992 : decode cL_law 992 = .ok (.iadd, 1) := by decide +kernel
theorem dL_law_993 : decode cL_law 993 = .ok (.iaload, 1) := by decide +kernel
theorem dL_law_994 : decode cL_law 994 = .ok (.aload_n 0, 1) := by decide +kernel
theorem dL_law_995 : decode cL_law 995 = .ok (.iload_n 3, 1) := by decide +kernel
theorem dL_law_996 : decode cL_law 996 = .ok (.iconst 3, 1) := by decide +kernel
theorem dL_law_997 : decode cL_law 997 = .ok (.iadd, 1) := by decide +kernel
theorem dL_law_998 : decode cL_law 998 = .ok (.iaload, 1) := by decide +kernel
theorem dL_law_999 : decode cL_law 999 = .ok (.invokevirtual 118, 3) := by decide +kernel
theorem dL_law_1002 : decode cL_law 1002 = .ok (.if_icmp .eq 104, 3) := by decide +kernel
theorem dL_law_1005 : decode cL_law 1005 = .ok (.iconst 0, 1) := by decide +kernel
theorem dL_law_1006 : decode cL_law 1006 = .ok (.ireturn, 1) := by decide +kernel
theorem dL_law_1007 : decode cL_law 1007 = .ok (.aload_n 1, 1) := by decide +kernel
theorem dL_law_1008 : decode cL_law 1008 = .ok (.aload_n 0, 1) := by decide +kernel
theorem dL_law_1009 : decode cL_law 1009 = .ok (.iload_n 3, 1) := by decide +kernel
theorem dL_law_1010 : decode cL_law 1010 = .ok (.iconst 1, 1) := by decide +kernel
theorem dL_law_1011 : decode cL_law 1011 = .ok (.iadd, 1) := by decide +kernel
theorem dL_law_1012 : decode cL_law 1012 = .ok (.iaload, 1) := by decide +kernel
theorem dL_law_1013 : decode cL_law 1013 = .ok (.aload_n 0, 1) := by decide +kernel
theorem dL_law_1014 : decode cL_law 1014 = .ok (.iload_n 3, 1) := by decide +kernel
theorem dL_law_1015 : decode cL_law 1015 = .ok (.iconst 2, 1) := by decide +kernel
theorem dL_law_1016 : decode cL_law 1016 = .ok (.iadd, 1) := by decide +kernel
theorem dL_law_1017 : decode cL_law 1017 = .ok (.iaload, 1) := by decide +kernel
theorem dL_law_1018 : decode cL_law 1018 = .ok (.aload_n 0, 1) := by decide +kernel
theorem dL_law_1019 : decode cL_law 1019 = .ok (.iload_n 3, 1) := by decide +kernel
theorem dL_law_1020 : decode cL_law 1020 = .ok (.iconst 3, 1) := by decide +kernel
theorem dL_law_1021 : decode cL_law 1021 = .ok (.iadd, 1) := by decide +kernel
theorem dL_law_1022 : decode cL_law 1022 = .ok (.iaload, 1) := by decide +kernel
theorem dL_law_1023 : decode cL_law 1023 = .ok (.invokevirtual 119, 3) := by decide +kernel
theorem dL_law_1026 : decode cL_law 1026 = .ok (.aload_n 2, 1) := by decide +kernel
theorem dL_law_1027 : decode cL_law 1027 = .ok (.aload_n 0, 1) := by decide +kernel
theorem dL_law_1028 : decode cL_law 1028 = .ok (.iload_n 3, 1) := by decide +kernel
theorem dL_law_1029 : decode cL_law 1029 = .ok (.iconst 1, 1) := by decide +kernel
theorem dL_law_1030 : decode cL_law 1030 = .ok (.iadd, 1) := by decide +kernel
theorem dL_law_1031 : decode cL_law 1031 = .ok (.iaload, 1) := by decide +kernel
theorem dL_law_1032 : decode cL_law 1032 = .ok (.aload_n 0, 1) := by decide +kernel
theorem dL_law_1033 : decode cL_law 1033 = .ok (.iload_n 3, 1) := by decide +kernel
theorem dL_law_1034 : decode cL_law 1034 = .ok (.iconst 2, 1) := by decide +kernel
theorem dL_law_1035 : decode cL_law 1035 = .ok (.iadd, 1) := by decide +kernel
theorem dL_law_1036 : decode cL_law 1036 = .ok (.iaload, 1) := by decide +kernel
theorem dL_law_1037 : decode cL_law 1037 = .ok (.aload_n 0, 1) := by decide +kernel
theorem dL_law_1038 : decode cL_law 1038 = .ok (.iload_n 3, 1) := by decide +kernel
theorem dL_law_1039 : decode cL_law 1039 = .ok (.iconst 3, 1) := by decide +kernel
theorem dL_law_1040 : decode cL_law 1040 = .ok (.iadd, 1) := by decide +kernel
theorem dL_law_1041 : decode cL_law 1041 = .ok (.iaload, 1) := by decide +kernel
theorem dL_law_1042 : decode cL_law 1042 = .ok (.invokevirtual 122, 3) := by decide +kernel
theorem dL_law_1045 : decode cL_law 1045 = .ok (.if_icmp .eq 61, 3) := by decide +kernel
theorem dL_law_1048 : decode cL_law 1048 = .ok (.iconst 0, 1) := by decide +kernel
theorem dL_law_1049 : decode cL_law 1049 = .ok (.ireturn, 1) := by decide +kernel
theorem dL_law_1050 : decode cL_law 1050 = .ok (.aload_n 1, 1) := by decide +kernel
theorem dL_law_1051 : decode cL_law 1051 = .ok (.aload_n 0, 1) := by decide +kernel
theorem dL_law_1052 : decode cL_law 1052 = .ok (.iload_n 3, 1) := by decide +kernel
theorem dL_law_1053 : decode cL_law 1053 = .ok (.iconst 1, 1) := by decide +kernel
theorem dL_law_1054 : decode cL_law 1054 = .ok (.iadd, 1) := by decide +kernel
theorem dL_law_1055 : decode cL_law 1055 = .ok (.iaload, 1) := by decide +kernel
theorem dL_law_1056 : decode cL_law 1056 = .ok (.aload_n 0, 1) := by decide +kernel
theorem dL_law_1057 : decode cL_law 1057 = .ok (.iload_n 3, 1) := by decide +kernel
theorem dL_law_1058 : decode cL_law 1058 = .ok (.iconst 2, 1) := by decide +kernel
theorem dL_law_1059 : decode cL_law 1059 = .ok (.iadd, 1) := by decide +kernel
theorem dL_law_1060 : decode cL_law 1060 = .ok (.iaload, 1) := by decide +kernel
theorem dL_law_1061 : decode cL_law 1061 = .ok (.invokevirtual 123, 3) := by decide +kernel
theorem dL_law_1064 : decode cL_law 1064 = .ok (.aload_n 2, 1) := by decide +kernel
theorem dL_law_1065 : decode cL_law 1065 = .ok (.aload_n 0, 1) := by decide +kernel
theorem dL_law_1066 : decode cL_law 1066 = .ok (.iload_n 3, 1) := by decide +kernel
theorem dL_law_1067 : decode cL_law 1067 = .ok (.iconst 1, 1) := by decide +kernel
theorem dL_law_1068 : decode cL_law 1068 = .ok (.iadd, 1) := by decide +kernel
theorem dL_law_1069 : decode cL_law 1069 = .ok (.iaload, 1) := by decide +kernel
theorem dL_law_1070 : decode cL_law 1070 = .ok (.aload_n 0, 1) := by decide +kernel
theorem dL_law_1071 : decode cL_law 1071 = .ok (.iload_n 3, 1) := by decide +kernel
theorem dL_law_1072 : decode cL_law 1072 = .ok (.iconst 2, 1) := by decide +kernel
theorem dL_law_1073 : decode cL_law 1073 = .ok (.iadd, 1) := by decide +kernel
theorem dL_law_1074 : decode cL_law 1074 = .ok (.iaload, 1) := by decide +kernel
theorem dL_law_1075 : decode cL_law 1075 = .ok (.invokevirtual 126, 3) := by decide +kernel
theorem dL_law_1078 : decode cL_law 1078 = .ok (.if_icmp .eq 28, 3) := by decide +kernel
theorem dL_law_1081 : decode cL_law 1081 = .ok (.iconst 0, 1) := by decide +kernel
theorem dL_law_1082 : decode cL_law 1082 = .ok (.ireturn, 1) := by decide +kernel
theorem dL_law_1083 : decode cL_law 1083 = .ok (.aload_n 1, 1) := by decide +kernel
theorem dL_law_1084 : decode cL_law 1084 = .ok (.aload_n 0, 1) := by decide +kernel
theorem dL_law_1085 : decode cL_law 1085 = .ok (.iload_n 3, 1) := by decide +kernel
theorem dL_law_1086 : decode cL_law 1086 = .ok (.iconst 1, 1) := by decide +kernel
theorem dL_law_1087 : decode cL_law 1087 = .ok (.iadd, 1) := by decide +kernel
theorem dL_law_1088 : decode cL_law 1088 = .ok (.iaload, 1) := by decide +kernel
theorem dL_law_1089 : decode cL_law 1089 = .ok (.invokevirtual 127, 3) := by decide +kernel
theorem dL_law_1092 : decode cL_law 1092 = .ok (.aload_n 2, 1) := by decide +kernel
theorem dL_law_1093 : decode cL_law 1093 = .ok (.aload_n 0, 1) := by decide +kernel
theorem dL_law_1094 : decode cL_law 1094 = .ok (.iload_n 3, 1) := by decide +kernel
theorem dL_law_1095 : decode cL_law 1095 = .ok (.iconst 1, 1) := by decide +kernel
theorem dL_law_1096 : decode cL_law 1096 = .ok (.iadd, 1) := by decide +kernel
theorem dL_law_1097 : decode cL_law 1097 = .ok (.iaload, 1) := by decide +kernel
theorem dL_law_1098 : decode cL_law 1098 = .ok (.invokevirtual 130, 3) := by decide +kernel
theorem dL_law_1101 : decode cL_law 1101 = .ok (.if_icmp .eq 5, 3) := by decide +kernel
theorem dL_law_1104 : decode cL_law 1104 = .ok (.iconst 0, 1) := by decide +kernel
theorem dL_law_1105 : decode cL_law 1105 = .ok (.ireturn, 1) := by decide +kernel
theorem dL_law_1106 : decode cL_law 1106 = .ok (.iinc 3 5, 3) := by decide +kernel
theorem dL_law_1109 : decode cL_law 1109 = .ok (.goto (-1091), 3) := by decide +kernel
theorem dL_law_1112 : decode cL_law 1112 = .ok (.iconst 1, 1) := by decide +kernel
theorem dL_law_1113 : decode cL_law 1113 = .ok (.ireturn, 1) := by decide +kernel
end
section
/-! my own wrappers over the kit: a method's start, its ends, calls, fields, arrays -/
abbrev tyL (cI cZ cG : ClassId) : List (ClassId × FieldType) := [(cI, .int), (cZ, .boolean), (cG, .array .int)]
/-- the nest mates' links, which no word list holds -/
def nst (U : State) : Prop := va_Nw (.methodLinkNest RX0 32 yX4_isDay "ModelTown") U ∧ va_Nw (.methodLinkNest RX0 35 yX4_isWithin "ModelTown") U ∧ va_Nw (.methodLinkNest RX1 44 yX4_isWithin "ModelTown") U ∧ va_Nw (.methodLinkNest RX1 54 yX4_oneIf "ModelTown") U ∧ va_Nw (.methodLinkNest RX2 50 yX4_isWithin "ModelTown") U ∧ va_Nw (.methodLinkNest RX2 71 yX4_oneIf "ModelTown") U ∧ va_Nw (.methodLinkNest RX3 42 yX4_isDay "ModelTown") U ∧ va_Nw (.methodLinkNest RX3 46 yX4_isWithin "ModelTown") U ∧ va_Nw (.methodLinkNest RX4 9 yX3_init "ModelTown") U ∧ va_Nw (.methodLinkNest RX4 25 yX2_init "ModelTown") U ∧ va_Nw (.methodLinkNest RX4 32 yX0_init "ModelTown") U ∧ va_Nw (.fieldLinkNest RX4 124 "ModelTown$Scale" "rules" "I" "ModelTown") U ∧ va_Nw (.fieldLinkNest RX4 128 "ModelTown$Scale" "things" "I" "ModelTown") U ∧ va_Nw (.fieldLinkNest RX4 131 "ModelTown$Paint" "walls" "I" "ModelTown") U ∧ va_Nw (.fieldLinkNest RX4 134 "ModelTown$Paint" "week" "I" "ModelTown") U ∧ va_Nw (.fieldLinkNest RX4 137 "ModelTown$Paint" "hands" "I" "ModelTown") U ∧ va_Nw (.fieldLinkNest RX4 140 "ModelTown$Rails" "rings" "I" "ModelTown") U ∧ va_Nw (.fieldLinkNest RX4 143 "ModelTown$Rails" "trains" "I" "ModelTown") U ∧ va_Nw (.fieldLinkNest RX4 146 "ModelTown$Rails" "minutesGone" "I" "ModelTown") U ∧ va_Nw (.fieldLinkNest RX4 149 "ModelTown$Book" "figures" "I" "ModelTown") U ∧ va_Nw (.fieldLinkNest RX4 152 "ModelTown$Book" "notes" "I" "ModelTown") U
theorem nst_moved {s U : State} (hW : s.WarmedH U.vm) (h : nst s) : nst U := by
  obtain ⟨h1, h2, h3, h4, h5, h6, h7, h8, h9, h10, h11, f1, f2, f3, f4, f5, f6, f7, f8, f9, f10⟩ := h
  exact ⟨h1.warmM hW, h2.warmM hW, h3.warmM hW, h4.warmM hW, h5.warmM hW, h6.warmM hW, h7.warmM hW, h8.warmM hW, h9.warmM hW, h10.warmM hW, h11.warmM hW, f1.warmF hW, f2.warmF hW, f3.warmF hW, f4.warmF hW, f5.warmF hW, f6.warmF hW, f7.warmF hW, f8.warmF hW, f9.warmF hW, f10.warmF hW⟩
theorem nst_same {s U : State} (e : s.vm = U.vm) (h : nst s) : nst U := by
  obtain ⟨h1, h2, h3, h4, h5, h6, h7, h8, h9, h10, h11, f1, f2, f3, f4, f5, f6, f7, f8, f9, f10⟩ := h
  exact ⟨h1.same rfl e, h2.same rfl e, h3.same rfl e, h4.same rfl e, h5.same rfl e, h6.same rfl e, h7.same rfl e, h8.same rfl e, h9.same rfl e, h10.same rfl e, h11.same rfl e, f1.same rfl e, f2.same rfl e, f3.same rfl e, f4.same rfl e, f5.same rfl e, f6.same rfl e, f7.same rfl e, f8.same rfl e, f9.same rfl e, f10.same rfl e⟩
def PB (D : va_G) (ty : List (ClassId × FieldType)) (ws : va_W) (sz : Nat) (U : State) : Prop := U.heap.size = sz ∧ nst U ∧ va_P D vwCl ws U.heap ∧ va_K D vwCl ty U ∧ va_D (fun _ => True) ws
theorem PB_blind {av : List Value} {D : va_G} {ty : List (ClassId × FieldType)} {ws : va_W} {sz : Nat} : FrameBlind (va_Pc av (PB D ty ws sz)) := fun a U g mk q => by
  obtain ⟨q0, q1, qN, qP, qK, qD⟩ := q
  exact ⟨q0, q1, nst_same (U := U.calling g mk a) rfl qN, qP, va_K.moved (u := U) (U := U.calling g mk a) (Vm.Alike.refl U.vm) qK, qD⟩
def QB (D : va_G) (ty : List (ClassId × FieldType)) (A : Nat → Prop) (ws : va_W) (t : State) : Prop := va_P D vwCl ws t.heap ∧ va_K D vwCl ty t ∧ va_D A ws
theorem K_start {l : Launch} {y : MethodName} {wsy ws' : List Cond} {rm : Room} {cc : ByteArray} {maxL : Nat} {ret : Option FieldType} {av : List Value} {D : va_G} {ty : List (ClassId × FieldType)} {ws : va_W} {sz mc ms : Nat} {Qc : (Nat → Prop) → Array Value → State → Outcome → State → Prop}
    (hy : plainName y.cls = true) (hw : wsy = Cond.code y cc maxL ret :: ws') (hlen : (lg_sl av).length ≤ maxL)
    (body : ∀ (p : Program) (e : Env) (s : State) (m : MethodId) (below : List Frame) (meth : Method) (c : Code) (ls : Array Slot) (A : Nat → Prop), p.tables.exec = Jvm.exec → c.code = cc → c.maxLocals = maxL → meth.sig.returnType = ret → (∀ w ∈ wsy, w.before av.toArray s = true) → s.vm.findClass y.cls = some m.cls → meth.locks = false → meth.name = y.name → nst s → va_P D vwCl ws s.heap → va_K D vwCl ty s → va_D A ws → (∀ q, s.heap.size ≤ q → A q) → va_S A s.heap s.heap [] → lv_has ls maxL (lv_args 0 av) → s.heap.size = sz →
      W p l e rm s m av.toArray below meth c s.heap [] 0 0 (MQ below (Qc A) av.toArray s mc ms A) (F0 m 0 ls [])) :
    Met l y wsy rm (va_Pc av (PB D ty ws sz)) (Qc (va_A ws sz)) mc ms (va_A ws sz) := by
  refine Met.ofW (cc := cc) (maxL := maxL) (ret := ret) hy hw ?_
  intro p e s m args below meth c s₁ B hml hv
  obtain ⟨rfl, hsz, hN, hP, hK, hD0⟩ := hv
  have hl := lv_entry av (n := maxL) hlen
  rw [lg_entry_eq]
  generalize (lg_sl av ++ List.replicate (maxL - (lg_sl av).length) Slot.unset).toArray = ls at hl ⊢
  exact body p e s m below meth c ls (va_A ws sz) B.exec B.bytes hml B.returns (atoms_spec (ws := wsy) B.pre) (findClass_of_methodNamed B.named) B.notSynchronized (name_of_methodNamed B.named B.method).1 hN hP hK (hD0.self) (fun q h => Or.inr (by rw [← hsz]; exact h)) va_S.rf hl hsz
section KIT
variable {p : Program} {l : Launch} {e : Env} {R : Room} {s : State} {m : MethodId} {args : Array Value} {below : List Frame} {meth : Method} {c : Code} {H : Heap} {locs : List Loc} {cells slots : Nat} {Q : State → Prop}
variable {cc : ByteArray} {pc : Nat} {ls : Array Slot} {rest : List Value} {D : va_G} {A : Nat → Prop} {a : Nat} {ws : va_W} {H0 : Heap} {ty : List (ClassId × FieldType)}
theorem K_iret {S : Type} {post : Int32 → S → Prop} {wf : S → va_W} (u : S) {v : Int32} (hx : p.tables.exec = Jvm.exec) (hb : c.code = cc) (hr : meth.sig.returnType = some .int) (hlocks : meth.locks = false) (hP : va_P D vwCl (wf u) H) (hK : va_K D vwCl ty s) (hD : va_D A (wf u)) (hS : va_S A s.heap H locs) (hdg : decode cc pc = .ok (.ireturn, 1)) (hpost : post v u) : W p l e R s m args below meth c H locs cells slots (MQ below (va_Qi post (fun u => QB D ty A (wf u)) A) args s cells slots A) (F0 m pc ls [.int v]) :=
  W.iret hx hb hr (fun t ht hW => ⟨⟨v, u, rfl, hpost, by rw [ht]; exact hP, va_K.moved hW.alike hK, hD⟩, hS.F ht⟩) hS.2.2 hdg hlocks
theorem K_zret {S : Type} {post : Int32 → S → Prop} {wf : S → va_W} (u : S) {v : Int32} (hx : p.tables.exec = Jvm.exec) (hb : c.code = cc) (hr : meth.sig.returnType = some .boolean) (hlocks : meth.locks = false) (hP : va_P D vwCl (wf u) H) (hK : va_K D vwCl ty s) (hD : va_D A (wf u)) (hS : va_S A s.heap H locs) (hdg : decode cc pc = .ok (.ireturn, 1)) (hn : narrow .boolean (.int v) = .int v) (hpost : post v u) : W p l e R s m args below meth c H locs cells slots (MQ below (va_Qi post (fun u => QB D ty A (wf u)) A) args s cells slots A) (F0 m pc ls [.int v]) :=
  W.zret hx hb hr hn (fun t ht hW => ⟨⟨v, u, rfl, hpost, by rw [ht]; exact hP, va_K.moved hW.alike hK, hD⟩, hS.F ht⟩) hS.2.2 hdg hlocks
theorem K_vret {S : Type} {post : S → Prop} {wf : S → va_W} (u : S) (hx : p.tables.exec = Jvm.exec) (hb : c.code = cc) (hr : meth.sig.returnType = none) (hlocks : meth.locks = false) (hP : va_P D vwCl (wf u) H) (hK : va_K D vwCl ty s) (hD : va_D A (wf u)) (hS : va_S A s.heap H locs) (hdg : decode cc pc = .ok (.return_, 1)) (hpost : post u) : W p l e R s m args below meth c H locs cells slots (MQ below (va_Qv post (fun u => QB D ty A (wf u)) A) args s cells slots A) (F0 m pc ls []) :=
  W.vret hx hb hr (fun t ht hW => ⟨⟨u, rfl, hpost, by rw [ht]; exact hP, va_K.moved hW.alike hK, hD⟩, hS.F ht⟩) hS.2.2 hdg hlocks
theorem va_sub_of {ws wc : va_W} {isC : List Nat} (hC : isC.map (fun i => ws[i]?) = wc.map some) : isC.filterMap (fun i => ws[i]?) = wc := by
  have h1 : isC.filterMap (fun i => ws[i]?) = (isC.map (fun i => ws[i]?)).filterMap id := by rw [List.filterMap_map]; rfl
  rw [h1, hC, List.filterMap_map]
  simp
/-- the callee's start, out of the caller's world -/
theorem K_pre {wc : va_W} {As : List Value} (hN : nst s) (hK : va_K D vwCl ty s) (hP : va_P D vwCl ws H) (hD : va_D A ws) (isC : List Nat) (hC : isC.map (fun i => ws[i]?) = wc.map some) (hnC : va_nd isC = true) : PreS s H (va_Pc As (PB D ty wc H.size)) As :=
  ⟨PB_blind, fun U hU hW => ⟨rfl, by rw [hU], nst_moved hW hN, by rw [hU]; exact hP.sub isC (va_sub_of hC), va_K.moved hW.alike hK, (hD.sub isC hnC hC).weaken (fun _ _ _ _ => trivial)⟩⟩
/-- the start of a callee over the same world, and over none -/
theorem K_preS {As : List Value} (hN : nst s) (hK : va_K D vwCl ty s) (hP : va_P D vwCl ws H) (hD : va_D A ws) : PreS s H (va_Pc As (PB D ty ws H.size)) As :=
  ⟨PB_blind, fun U hU hW => ⟨rfl, by rw [hU], nst_moved hW hN, by rw [hU]; exact hP, va_K.moved hW.alike hK, hD.weaken (fun _ _ _ _ => trivial)⟩⟩
theorem K_pre0 {As : List Value} (hN : nst s) (hK : va_K D vwCl ty s) : PreS s H (va_Pc As (PB D ty [] H.size)) As :=
  ⟨PB_blind, fun U hU hW => ⟨rfl, by rw [hU], nst_moved hW hN, (fun k q h => by simp at h), va_K.moved hW.alike hK, ⟨fun i j p q h => by simp at h, fun k q h => by simp at h⟩⟩⟩
/-- the goal behind a call, in general -/
theorem K_core {S : Type} {post : Int32 → S → Prop} {wf : S → va_W} {wc wr : va_W} {st : List Value} {ar : Array Value} {mc ms : Nat} (hr : va_Run p l e R s m args below meth c H locs cells slots mc ms (F0 m pc ls st) rest (va_Qi post (fun u => QB D ty (va_A wc H.size) (wf u)) (va_A wc H.size) ar) (va_A wc H.size))
    (hP : va_P D vwCl ws H) (hD : va_D A ws) (hS : va_S A H0 H locs) (hA : ∀ q, H0.size ≤ q → A q) (isC isR : List Nat) (hC : isC.map (fun i => ws[i]?) = wc.map some) (hRr : isR.map (fun i => ws[i]?) = wr.map some) (hnd : va_nd isR = true) (hdis : ∀ i ∈ isR, i ∉ isC)
    (kk : ∀ (r : Int32) (u : S) (H1 : Heap) (locs1 : List Loc), post r u → va_P D vwCl (wr ++ wf u) H1 → va_D A (wr ++ wf u) → va_S A H0 H1 locs1 → W p l e R s m args below meth c H1 locs1 (cells + mc) (slots + ms) Q (F0 m (pc + 3) ls (.int r :: rest))) :
    W p l e R s m args below meth c H locs cells slots Q (F0 m pc ls st) := by
  have hF := va_free hD hS hA isC hC
  refine va_calli hr hS (fun q _ h => hF q h) hF (fun r u t H1 locs1 ht _ hw hB _ hk1 hS1 => ?_)
  obtain ⟨hP1, _, hD1⟩ := hB
  rw [ht] at hP1
  obtain ⟨g1, g2⟩ := va_join hP hD isC isR hC hRr hnd hdis hk1 hF hP1 hD1
  exact kk r u H1 locs1 hw g1 g2 hS1
theorem K_corev {S : Type} {post : S → Prop} {wf : S → va_W} {wc wr : va_W} {st : List Value} {ar : Array Value} {mc ms : Nat} (hr : va_Run p l e R s m args below meth c H locs cells slots mc ms (F0 m pc ls st) rest (va_Qv post (fun u => QB D ty (va_A wc H.size) (wf u)) (va_A wc H.size) ar) (va_A wc H.size))
    (hP : va_P D vwCl ws H) (hD : va_D A ws) (hS : va_S A H0 H locs) (hA : ∀ q, H0.size ≤ q → A q) (isC isR : List Nat) (hC : isC.map (fun i => ws[i]?) = wc.map some) (hRr : isR.map (fun i => ws[i]?) = wr.map some) (hnd : va_nd isR = true) (hdis : ∀ i ∈ isR, i ∉ isC)
    (kk : ∀ (u : S) (H1 : Heap) (locs1 : List Loc), post u → va_P D vwCl (wr ++ wf u) H1 → va_D A (wr ++ wf u) → va_S A H0 H1 locs1 → W p l e R s m args below meth c H1 locs1 (cells + mc) (slots + ms) Q (F0 m (pc + 3) ls rest)) :
    W p l e R s m args below meth c H locs cells slots Q (F0 m pc ls st) := by
  have hF := va_free hD hS hA isC hC
  refine va_callv hr hS (fun q _ h => hF q h) hF (fun u t H1 locs1 ht _ hw hB _ hk1 hS1 => ?_)
  obtain ⟨hP1, _, hD1⟩ := hB
  rw [ht] at hP1
  obtain ⟨g1, g2⟩ := va_join hP hD isC isR hC hRr hnd hdis hk1 hF hP1 hD1
  exact kk u H1 locs1 hw g1 g2 hS1
/-- a call of a method over the very same world -/
theorem K_same {S : Type} {post : Int32 → S → Prop} {wf : S → va_W} {st : List Value} {ar : Array Value} {mc ms : Nat} (hr : va_Run p l e R s m args below meth c H locs cells slots mc ms (F0 m pc ls st) rest (va_Qi post (fun u => QB D ty (va_A ws H.size) (wf u)) (va_A ws H.size) ar) (va_A ws H.size))
    (hD : va_D A ws) (hS : va_S A H0 H locs) (hA : ∀ q, H0.size ≤ q → A q)
    (kk : ∀ (r : Int32) (u : S) (H1 : Heap) (locs1 : List Loc), post r u → va_P D vwCl (wf u) H1 → va_D A (wf u) → va_S A H0 H1 locs1 → W p l e R s m args below meth c H1 locs1 (cells + mc) (slots + ms) Q (F0 m (pc + 3) ls (.int r :: rest))) :
    W p l e R s m args below meth c H locs cells slots Q (F0 m pc ls st) := by
  have hF : ∀ q, va_A ws H.size q → A q := fun q h => by
    rcases h with ⟨k, x, h⟩ | h
    · exact hD.2 k _ h
    · exact hA q (Nat.le_trans hS.1 h)
  refine va_calli hr hS (fun q _ h => hF q h) hF (fun r u t H1 locs1 ht _ hw hB _ hk1 hS1 => ?_)
  obtain ⟨hP1, _, hD1⟩ := hB
  rw [ht] at hP1
  exact kk r u H1 locs1 hw hP1 (hD1.weaken (fun _ q _ h => hF q.1 h)) hS1
theorem K_samev {S : Type} {post : S → Prop} {wf : S → va_W} {st : List Value} {ar : Array Value} {mc ms : Nat} (hr : va_Run p l e R s m args below meth c H locs cells slots mc ms (F0 m pc ls st) rest (va_Qv post (fun u => QB D ty (va_A ws H.size) (wf u)) (va_A ws H.size) ar) (va_A ws H.size))
    (hD : va_D A ws) (hS : va_S A H0 H locs) (hA : ∀ q, H0.size ≤ q → A q)
    (kk : ∀ (u : S) (H1 : Heap) (locs1 : List Loc), post u → va_P D vwCl (wf u) H1 → va_D A (wf u) → va_S A H0 H1 locs1 → W p l e R s m args below meth c H1 locs1 (cells + mc) (slots + ms) Q (F0 m (pc + 3) ls rest)) :
    W p l e R s m args below meth c H locs cells slots Q (F0 m pc ls st) := by
  have hF : ∀ q, va_A ws H.size q → A q := fun q h => by
    rcases h with ⟨k, x, h⟩ | h
    · exact hD.2 k _ h
    · exact hA q (Nat.le_trans hS.1 h)
  refine va_callv hr hS (fun q _ h => hF q h) hF (fun u t H1 locs1 ht _ hw hB _ hk1 hS1 => ?_)
  obtain ⟨hP1, _, hD1⟩ := hB
  rw [ht] at hP1
  exact kk u H1 locs1 hw hP1 (hD1.weaken (fun _ q _ h => hF q.1 h)) hS1
/-- a call of a method that touches no cell -/
theorem K_none {S : Type} {post : Int32 → S → Prop} {st : List Value} {ar : Array Value} {mc ms : Nat} (hr : va_Run p l e R s m args below meth c H locs cells slots mc ms (F0 m pc ls st) rest (va_Qi post (fun _ => QB D ty (va_A [] H.size) []) (va_A [] H.size) ar) (va_A [] H.size))
    (hP : va_P D vwCl ws H) (hS : va_S A H0 H locs) (hA : ∀ q, H0.size ≤ q → A q)
    (kk : ∀ (r : Int32) (u : S) (H1 : Heap) (locs1 : List Loc), post r u → va_P D vwCl ws H1 → va_S A H0 H1 locs1 → W p l e R s m args below meth c H1 locs1 (cells + mc) (slots + ms) Q (F0 m (pc + 3) ls (.int r :: rest))) :
    W p l e R s m args below meth c H locs cells slots Q (F0 m pc ls st) := by
  have hF : ∀ q, va_A [] H.size q → H.size ≤ q := fun q h => by
    rcases h with ⟨k, x, h⟩ | h
    · simp at h
    · exact h
  refine va_calli hr hS (fun q _ h => hA q (Nat.le_trans hS.1 (hF q h))) (fun q h => hA q (Nat.le_trans hS.1 (hF q h))) (fun r u t H1 locs1 ht _ hw hB _ hk1 hS1 => ?_)
  refine kk r u H1 locs1 hw (hP.kept fun k q hq => ?_) hS1
  have hl := (hP k q hq).lt
  exact hk1 q.1 hl (fun h => absurd (hF _ h) (by omega))
theorem K_iald (hx : p.tables.exec = Jvm.exec) (hb : c.code = cc) (hK : va_K D vwCl ty s) (hP : va_P D vwCl ws H) (q0 : Nat) (t0 : Nat) {cA : ClassId} {n : Nat} {f : Nat → Int32} (ha : ws[q0]? = some (a, .inl (cA, n, .inl f))) (ht : ty[t0]? = some (cA, .int)) (k : Nat) (hk : k < n) (hn : n < 2 ^ 31) (hdg : decode cc pc = .ok (.iaload, 1))
    (kk : W p l e R s m args below meth c H locs cells slots Q (F0 m (pc + 1) ls (.int (f k) :: rest))) : W p l e R s m args below meth c H locs cells slots Q (F0 m pc ls (.int (nI k) :: .ref a :: rest)) := by
  refine va_iald hx hb hK hP q0 t0 ha ht (vp_in_nI hk hn) hdg ?_
  rw [nI_clamp (Nat.lt_trans hk hn)]
  exact kk
theorem K_zald (hx : p.tables.exec = Jvm.exec) (hb : c.code = cc) (hK : va_K D vwCl ty s) (hP : va_P D vwCl ws H) (q0 : Nat) (t0 : Nat) {cA : ClassId} {n : Nat} {f : Nat → Int32} (ha : ws[q0]? = some (a, .inl (cA, n, .inl f))) (ht : ty[t0]? = some (cA, .boolean)) (k : Nat) (hk : k < n) (hn : n < 2 ^ 31) (hdg : decode cc pc = .ok (.baload, 1))
    (kk : W p l e R s m args below meth c H locs cells slots Q (F0 m (pc + 1) ls (.int (f k) :: rest))) : W p l e R s m args below meth c H locs cells slots Q (F0 m pc ls (.int (nI k) :: .ref a :: rest)) := by
  refine va_zald hx hb hK hP q0 t0 ha ht (vp_in_nI hk hn) hdg ?_
  rw [nI_clamp (Nat.lt_trans hk hn)]
  exact kk
theorem K_iast (hx : p.tables.exec = Jvm.exec) (hb : c.code = cc) (hK : va_K D vwCl ty s) (hP : va_P D vwCl ws H) (hD : va_D A ws) (hS : va_S A H0 H locs) (q0 : Nat) (t0 : Nat) {cA : ClassId} {n : Nat} {f : Nat → Int32} (ha : ws[q0]? = some (a, .inl (cA, n, .inl f))) (ht : ty[t0]? = some (cA, .int)) (k : Nat) (hk : k < n) (hn : n < 2 ^ 31) {x : Int32} (hdg : decode cc pc = .ok (.iastore, 1))
    (kk : ∀ (H1 : Heap) (locs1 : List Loc), va_P D vwCl (ws.set q0 (a, .inl (cA, n, .inl (upd f k x)))) H1 → va_D A (ws.set q0 (a, .inl (cA, n, .inl (upd f k x)))) → va_S A H0 H1 locs1 → W p l e R s m args below meth c H1 locs1 cells slots Q (F0 m (pc + 1) ls rest)) : W p l e R s m args below meth c H locs cells slots Q (F0 m pc ls (.int x :: .int (nI k) :: .ref a :: rest)) := by
  refine va_iast hx hb hK hP hD hS q0 t0 ha ht (vp_in_nI hk hn) hdg ?_
  rw [nI_clamp (Nat.lt_trans hk hn)]
  exact kk
theorem K_zast (hx : p.tables.exec = Jvm.exec) (hb : c.code = cc) (hK : va_K D vwCl ty s) (hP : va_P D vwCl ws H) (hD : va_D A ws) (hS : va_S A H0 H locs) (q0 : Nat) (t0 : Nat) {cA : ClassId} {n : Nat} {f : Nat → Int32} (ha : ws[q0]? = some (a, .inl (cA, n, .inl f))) (ht : ty[t0]? = some (cA, .boolean)) (k : Nat) (hk : k < n) (hn : n < 2 ^ 31) {x : Int32} (hz : vp_nar .boolean x = x) (hdg : decode cc pc = .ok (.bastore, 1))
    (kk : ∀ (H1 : Heap) (locs1 : List Loc), va_P D vwCl (ws.set q0 (a, .inl (cA, n, .inl (upd f k x)))) H1 → va_D A (ws.set q0 (a, .inl (cA, n, .inl (upd f k x)))) → va_S A H0 H1 locs1 → W p l e R s m args below meth c H1 locs1 cells slots Q (F0 m (pc + 1) ls rest)) : W p l e R s m args below meth c H locs cells slots Q (F0 m pc ls (.int x :: .int (nI k) :: .ref a :: rest)) := by
  refine va_zast hx hb hK hP hD hS q0 t0 ha ht (vp_in_nI hk hn) hdg ?_
  rw [nI_clamp (Nat.lt_trans hk hn), hz]
  exact kk
/-- a row of an array of int arrays -/
theorem K_aald (hx : p.tables.exec = Jvm.exec) (hb : c.code = cc) (hK : va_K D vwCl ty s) (hP : va_P D vwCl ws H) (q0 : Nat) (t0 : Nat) {cA : ClassId} {n : Nat} {f : Nat → Option Nat} (ha : ws[q0]? = some (a, .inl (cA, n, .inr (.inr (.inr (.inr f)))))) (ht : ty[t0]? = some (cA, .array .int)) (k : Nat) (hk : k < n) (hn : n < 2 ^ 31) {r : Nat} (hr : f k = some r) (hdg : decode cc pc = .ok (.aaload, 1))
    (kk : W p l e R s m args below meth c H locs cells slots Q (F0 m (pc + 1) ls (.ref r :: rest))) : W p l e R s m args below meth c H locs cells slots Q (F0 m pc ls (.int (nI k) :: .ref a :: rest)) := by
  have hc : (nI k).toNatClampNeg = k := nI_clamp (Nat.lt_trans hk hn)
  refine W.aald (v := .ref r) (ty := .array .int) hx hb (hP q0 _ ha) ((hK.2 t0 _ ht).1 n (fun j => va_rf (f j))) rfl (fun q => by cases q) ?_ ?_ rfl rfl hdg kk
  · show ¬ (nI k < 0 ∨ (arrV _ _ _).slots.size ≤ _)
    rw [arrV_size]
    exact vp_in_nI hk hn
  · show (arrV _ _ _).slots[_]? = _
    rw [hc, arrV_read _ _ hk, hr]
    rfl
theorem loopW1 {A1 : Type} (I : A1 → Heap → List Loc → Array Slot → Prop) (μ : A1 → Nat) (hs : ∀ (a1 : A1) (H : Heap) (locs : List Loc) (ls : Array Slot), I a1 H locs ls → (∀ (b1 : A1) (H1 : Heap) (locs1 : List Loc) (ls1 : Array Slot), I b1 H1 locs1 ls1 → μ b1 < μ a1 → W p l e R s m args below meth c H1 locs1 cells slots Q (F0 m pc ls1 [])) → W p l e R s m args below meth c H locs cells slots Q (F0 m pc ls [])) : ∀ (a1 : A1) (H : Heap) (locs : List Loc) (ls : Array Slot), I a1 H locs ls → W p l e R s m args below meth c H locs cells slots Q (F0 m pc ls []) := by
  have key : ∀ (n : Nat) (a1 : A1) (H : Heap) (locs : List Loc) (ls : Array Slot), μ a1 < n → I a1 H locs ls → W p l e R s m args below meth c H locs cells slots Q (F0 m pc ls []) := by
    intro n
    induction n with
    | zero => intro a1 H locs ls h; exact absurd h (Nat.not_lt_zero _)
    | succ n ih =>
      intro a1 H locs ls h hI
      exact hs a1 H locs ls hI (fun b1 H1 locs1 ls1 h1 h2 => ih b1 H1 locs1 ls1 (by omega) h1)
  intro a1 H locs ls hI
  exact key (μ a1 + 1) a1 H locs ls (Nat.lt_succ_self _) hI
theorem loopW2 {A1 A2 : Type} (I : A1 → A2 → Heap → List Loc → Array Slot → Prop) (μ : A1 → A2 → Nat) (hs : ∀ (a1 : A1) (a2 : A2) (H : Heap) (locs : List Loc) (ls : Array Slot), I a1 a2 H locs ls → (∀ (b1 : A1) (b2 : A2) (H1 : Heap) (locs1 : List Loc) (ls1 : Array Slot), I b1 b2 H1 locs1 ls1 → μ b1 b2 < μ a1 a2 → W p l e R s m args below meth c H1 locs1 cells slots Q (F0 m pc ls1 [])) → W p l e R s m args below meth c H locs cells slots Q (F0 m pc ls [])) : ∀ (a1 : A1) (a2 : A2) (H : Heap) (locs : List Loc) (ls : Array Slot), I a1 a2 H locs ls → W p l e R s m args below meth c H locs cells slots Q (F0 m pc ls []) := by
  have key : ∀ (n : Nat) (a1 : A1) (a2 : A2) (H : Heap) (locs : List Loc) (ls : Array Slot), μ a1 a2 < n → I a1 a2 H locs ls → W p l e R s m args below meth c H locs cells slots Q (F0 m pc ls []) := by
    intro n
    induction n with
    | zero => intro a1 a2 H locs ls h; exact absurd h (Nat.not_lt_zero _)
    | succ n ih =>
      intro a1 a2 H locs ls h hI
      exact hs a1 a2 H locs ls hI (fun b1 b2 H1 locs1 ls1 h1 h2 => ih b1 b2 H1 locs1 ls1 (by omega) h1)
  intro a1 a2 H locs ls hI
  exact key (μ a1 a2 + 1) a1 a2 H locs ls (Nat.lt_succ_self _) hI
theorem loopW3 {A1 A2 A3 : Type} (I : A1 → A2 → A3 → Heap → List Loc → Array Slot → Prop) (μ : A1 → A2 → A3 → Nat) (hs : ∀ (a1 : A1) (a2 : A2) (a3 : A3) (H : Heap) (locs : List Loc) (ls : Array Slot), I a1 a2 a3 H locs ls → (∀ (b1 : A1) (b2 : A2) (b3 : A3) (H1 : Heap) (locs1 : List Loc) (ls1 : Array Slot), I b1 b2 b3 H1 locs1 ls1 → μ b1 b2 b3 < μ a1 a2 a3 → W p l e R s m args below meth c H1 locs1 cells slots Q (F0 m pc ls1 [])) → W p l e R s m args below meth c H locs cells slots Q (F0 m pc ls [])) : ∀ (a1 : A1) (a2 : A2) (a3 : A3) (H : Heap) (locs : List Loc) (ls : Array Slot), I a1 a2 a3 H locs ls → W p l e R s m args below meth c H locs cells slots Q (F0 m pc ls []) := by
  have key : ∀ (n : Nat) (a1 : A1) (a2 : A2) (a3 : A3) (H : Heap) (locs : List Loc) (ls : Array Slot), μ a1 a2 a3 < n → I a1 a2 a3 H locs ls → W p l e R s m args below meth c H locs cells slots Q (F0 m pc ls []) := by
    intro n
    induction n with
    | zero => intro a1 a2 a3 H locs ls h; exact absurd h (Nat.not_lt_zero _)
    | succ n ih =>
      intro a1 a2 a3 H locs ls h hI
      exact hs a1 a2 a3 H locs ls hI (fun b1 b2 b3 H1 locs1 ls1 h1 h2 => ih b1 b2 b3 H1 locs1 ls1 (by omega) h1)
  intro a1 a2 a3 H locs ls hI
  exact key (μ a1 a2 a3 + 1) a1 a2 a3 H locs ls (Nat.lt_succ_self _) hI
theorem loopW4 {A1 A2 A3 A4 : Type} (I : A1 → A2 → A3 → A4 → Heap → List Loc → Array Slot → Prop) (μ : A1 → A2 → A3 → A4 → Nat) (hs : ∀ (a1 : A1) (a2 : A2) (a3 : A3) (a4 : A4) (H : Heap) (locs : List Loc) (ls : Array Slot), I a1 a2 a3 a4 H locs ls → (∀ (b1 : A1) (b2 : A2) (b3 : A3) (b4 : A4) (H1 : Heap) (locs1 : List Loc) (ls1 : Array Slot), I b1 b2 b3 b4 H1 locs1 ls1 → μ b1 b2 b3 b4 < μ a1 a2 a3 a4 → W p l e R s m args below meth c H1 locs1 cells slots Q (F0 m pc ls1 [])) → W p l e R s m args below meth c H locs cells slots Q (F0 m pc ls [])) : ∀ (a1 : A1) (a2 : A2) (a3 : A3) (a4 : A4) (H : Heap) (locs : List Loc) (ls : Array Slot), I a1 a2 a3 a4 H locs ls → W p l e R s m args below meth c H locs cells slots Q (F0 m pc ls []) := by
  have key : ∀ (n : Nat) (a1 : A1) (a2 : A2) (a3 : A3) (a4 : A4) (H : Heap) (locs : List Loc) (ls : Array Slot), μ a1 a2 a3 a4 < n → I a1 a2 a3 a4 H locs ls → W p l e R s m args below meth c H locs cells slots Q (F0 m pc ls []) := by
    intro n
    induction n with
    | zero => intro a1 a2 a3 a4 H locs ls h; exact absurd h (Nat.not_lt_zero _)
    | succ n ih =>
      intro a1 a2 a3 a4 H locs ls h hI
      exact hs a1 a2 a3 a4 H locs ls hI (fun b1 b2 b3 b4 H1 locs1 ls1 h1 h2 => ih b1 b2 b3 b4 H1 locs1 ls1 (by omega) h1)
  intro a1 a2 a3 a4 H locs ls hI
  exact key (μ a1 a2 a3 a4 + 1) a1 a2 a3 a4 H locs ls (Nat.lt_succ_self _) hI
theorem loopW5 {A1 A2 A3 A4 A5 : Type} (I : A1 → A2 → A3 → A4 → A5 → Heap → List Loc → Array Slot → Prop) (μ : A1 → A2 → A3 → A4 → A5 → Nat) (hs : ∀ (a1 : A1) (a2 : A2) (a3 : A3) (a4 : A4) (a5 : A5) (H : Heap) (locs : List Loc) (ls : Array Slot), I a1 a2 a3 a4 a5 H locs ls → (∀ (b1 : A1) (b2 : A2) (b3 : A3) (b4 : A4) (b5 : A5) (H1 : Heap) (locs1 : List Loc) (ls1 : Array Slot), I b1 b2 b3 b4 b5 H1 locs1 ls1 → μ b1 b2 b3 b4 b5 < μ a1 a2 a3 a4 a5 → W p l e R s m args below meth c H1 locs1 cells slots Q (F0 m pc ls1 [])) → W p l e R s m args below meth c H locs cells slots Q (F0 m pc ls [])) : ∀ (a1 : A1) (a2 : A2) (a3 : A3) (a4 : A4) (a5 : A5) (H : Heap) (locs : List Loc) (ls : Array Slot), I a1 a2 a3 a4 a5 H locs ls → W p l e R s m args below meth c H locs cells slots Q (F0 m pc ls []) := by
  have key : ∀ (n : Nat) (a1 : A1) (a2 : A2) (a3 : A3) (a4 : A4) (a5 : A5) (H : Heap) (locs : List Loc) (ls : Array Slot), μ a1 a2 a3 a4 a5 < n → I a1 a2 a3 a4 a5 H locs ls → W p l e R s m args below meth c H locs cells slots Q (F0 m pc ls []) := by
    intro n
    induction n with
    | zero => intro a1 a2 a3 a4 a5 H locs ls h; exact absurd h (Nat.not_lt_zero _)
    | succ n ih =>
      intro a1 a2 a3 a4 a5 H locs ls h hI
      exact hs a1 a2 a3 a4 a5 H locs ls hI (fun b1 b2 b3 b4 b5 H1 locs1 ls1 h1 h2 => ih b1 b2 b3 b4 b5 H1 locs1 ls1 (by omega) h1)
  intro a1 a2 a3 a4 a5 H locs ls hI
  exact key (μ a1 a2 a3 a4 a5 + 1) a1 a2 a3 a4 a5 H locs ls (Nat.lt_succ_self _) hI
theorem loopW6 {A1 A2 A3 A4 A5 A6 : Type} (I : A1 → A2 → A3 → A4 → A5 → A6 → Heap → List Loc → Array Slot → Prop) (μ : A1 → A2 → A3 → A4 → A5 → A6 → Nat) (hs : ∀ (a1 : A1) (a2 : A2) (a3 : A3) (a4 : A4) (a5 : A5) (a6 : A6) (H : Heap) (locs : List Loc) (ls : Array Slot), I a1 a2 a3 a4 a5 a6 H locs ls → (∀ (b1 : A1) (b2 : A2) (b3 : A3) (b4 : A4) (b5 : A5) (b6 : A6) (H1 : Heap) (locs1 : List Loc) (ls1 : Array Slot), I b1 b2 b3 b4 b5 b6 H1 locs1 ls1 → μ b1 b2 b3 b4 b5 b6 < μ a1 a2 a3 a4 a5 a6 → W p l e R s m args below meth c H1 locs1 cells slots Q (F0 m pc ls1 [])) → W p l e R s m args below meth c H locs cells slots Q (F0 m pc ls [])) : ∀ (a1 : A1) (a2 : A2) (a3 : A3) (a4 : A4) (a5 : A5) (a6 : A6) (H : Heap) (locs : List Loc) (ls : Array Slot), I a1 a2 a3 a4 a5 a6 H locs ls → W p l e R s m args below meth c H locs cells slots Q (F0 m pc ls []) := by
  have key : ∀ (n : Nat) (a1 : A1) (a2 : A2) (a3 : A3) (a4 : A4) (a5 : A5) (a6 : A6) (H : Heap) (locs : List Loc) (ls : Array Slot), μ a1 a2 a3 a4 a5 a6 < n → I a1 a2 a3 a4 a5 a6 H locs ls → W p l e R s m args below meth c H locs cells slots Q (F0 m pc ls []) := by
    intro n
    induction n with
    | zero => intro a1 a2 a3 a4 a5 a6 H locs ls h; exact absurd h (Nat.not_lt_zero _)
    | succ n ih =>
      intro a1 a2 a3 a4 a5 a6 H locs ls h hI
      exact hs a1 a2 a3 a4 a5 a6 H locs ls hI (fun b1 b2 b3 b4 b5 b6 H1 locs1 ls1 h1 h2 => ih b1 b2 b3 b4 b5 b6 H1 locs1 ls1 (by omega) h1)
  intro a1 a2 a3 a4 a5 a6 H locs ls hI
  exact key (μ a1 a2 a3 a4 a5 a6 + 1) a1 a2 a3 a4 a5 a6 H locs ls (Nat.lt_succ_self _) hI
theorem loopW7 {A1 A2 A3 A4 A5 A6 A7 : Type} (I : A1 → A2 → A3 → A4 → A5 → A6 → A7 → Heap → List Loc → Array Slot → Prop) (μ : A1 → A2 → A3 → A4 → A5 → A6 → A7 → Nat) (hs : ∀ (a1 : A1) (a2 : A2) (a3 : A3) (a4 : A4) (a5 : A5) (a6 : A6) (a7 : A7) (H : Heap) (locs : List Loc) (ls : Array Slot), I a1 a2 a3 a4 a5 a6 a7 H locs ls → (∀ (b1 : A1) (b2 : A2) (b3 : A3) (b4 : A4) (b5 : A5) (b6 : A6) (b7 : A7) (H1 : Heap) (locs1 : List Loc) (ls1 : Array Slot), I b1 b2 b3 b4 b5 b6 b7 H1 locs1 ls1 → μ b1 b2 b3 b4 b5 b6 b7 < μ a1 a2 a3 a4 a5 a6 a7 → W p l e R s m args below meth c H1 locs1 cells slots Q (F0 m pc ls1 [])) → W p l e R s m args below meth c H locs cells slots Q (F0 m pc ls [])) : ∀ (a1 : A1) (a2 : A2) (a3 : A3) (a4 : A4) (a5 : A5) (a6 : A6) (a7 : A7) (H : Heap) (locs : List Loc) (ls : Array Slot), I a1 a2 a3 a4 a5 a6 a7 H locs ls → W p l e R s m args below meth c H locs cells slots Q (F0 m pc ls []) := by
  have key : ∀ (n : Nat) (a1 : A1) (a2 : A2) (a3 : A3) (a4 : A4) (a5 : A5) (a6 : A6) (a7 : A7) (H : Heap) (locs : List Loc) (ls : Array Slot), μ a1 a2 a3 a4 a5 a6 a7 < n → I a1 a2 a3 a4 a5 a6 a7 H locs ls → W p l e R s m args below meth c H locs cells slots Q (F0 m pc ls []) := by
    intro n
    induction n with
    | zero => intro a1 a2 a3 a4 a5 a6 a7 H locs ls h; exact absurd h (Nat.not_lt_zero _)
    | succ n ih =>
      intro a1 a2 a3 a4 a5 a6 a7 H locs ls h hI
      exact hs a1 a2 a3 a4 a5 a6 a7 H locs ls hI (fun b1 b2 b3 b4 b5 b6 b7 H1 locs1 ls1 h1 h2 => ih b1 b2 b3 b4 b5 b6 b7 H1 locs1 ls1 (by omega) h1)
  intro a1 a2 a3 a4 a5 a6 a7 H locs ls hI
  exact key (μ a1 a2 a3 a4 a5 a6 a7 + 1) a1 a2 a3 a4 a5 a6 a7 H locs ls (Nat.lt_succ_self _) hI
theorem loopW8 {A1 A2 A3 A4 A5 A6 A7 A8 : Type} (I : A1 → A2 → A3 → A4 → A5 → A6 → A7 → A8 → Heap → List Loc → Array Slot → Prop) (μ : A1 → A2 → A3 → A4 → A5 → A6 → A7 → A8 → Nat) (hs : ∀ (a1 : A1) (a2 : A2) (a3 : A3) (a4 : A4) (a5 : A5) (a6 : A6) (a7 : A7) (a8 : A8) (H : Heap) (locs : List Loc) (ls : Array Slot), I a1 a2 a3 a4 a5 a6 a7 a8 H locs ls → (∀ (b1 : A1) (b2 : A2) (b3 : A3) (b4 : A4) (b5 : A5) (b6 : A6) (b7 : A7) (b8 : A8) (H1 : Heap) (locs1 : List Loc) (ls1 : Array Slot), I b1 b2 b3 b4 b5 b6 b7 b8 H1 locs1 ls1 → μ b1 b2 b3 b4 b5 b6 b7 b8 < μ a1 a2 a3 a4 a5 a6 a7 a8 → W p l e R s m args below meth c H1 locs1 cells slots Q (F0 m pc ls1 [])) → W p l e R s m args below meth c H locs cells slots Q (F0 m pc ls [])) : ∀ (a1 : A1) (a2 : A2) (a3 : A3) (a4 : A4) (a5 : A5) (a6 : A6) (a7 : A7) (a8 : A8) (H : Heap) (locs : List Loc) (ls : Array Slot), I a1 a2 a3 a4 a5 a6 a7 a8 H locs ls → W p l e R s m args below meth c H locs cells slots Q (F0 m pc ls []) := by
  have key : ∀ (n : Nat) (a1 : A1) (a2 : A2) (a3 : A3) (a4 : A4) (a5 : A5) (a6 : A6) (a7 : A7) (a8 : A8) (H : Heap) (locs : List Loc) (ls : Array Slot), μ a1 a2 a3 a4 a5 a6 a7 a8 < n → I a1 a2 a3 a4 a5 a6 a7 a8 H locs ls → W p l e R s m args below meth c H locs cells slots Q (F0 m pc ls []) := by
    intro n
    induction n with
    | zero => intro a1 a2 a3 a4 a5 a6 a7 a8 H locs ls h; exact absurd h (Nat.not_lt_zero _)
    | succ n ih =>
      intro a1 a2 a3 a4 a5 a6 a7 a8 H locs ls h hI
      exact hs a1 a2 a3 a4 a5 a6 a7 a8 H locs ls hI (fun b1 b2 b3 b4 b5 b6 b7 b8 H1 locs1 ls1 h1 h2 => ih b1 b2 b3 b4 b5 b6 b7 b8 H1 locs1 ls1 (by omega) h1)
  intro a1 a2 a3 a4 a5 a6 a7 a8 H locs ls hI
  exact key (μ a1 a2 a3 a4 a5 a6 a7 a8 + 1) a1 a2 a3 a4 a5 a6 a7 a8 H locs ls (Nat.lt_succ_self _) hI
end KIT
theorem inc1 (i : Nat) : nI i + Int32.ofInt 1 = nI (i + 1) := nI_1 i
theorem nI_addL (a b : Nat) (x : Int32) (h : x = nI b) : nI a + x = nI (a + b) := by rw [h]; exact nI_add a b
theorem nI_neN {b : Nat} {y : Int32} (hb : b < 2 ^ 31) (hy : y < 0) : ¬ nI b = y := fun e => nI_pos hb (e ▸ hy)
/-- the number ahead of a natural one -/
def dI : Nat → Int32
  | 0 => -1
  | j + 1 => nI j
theorem dI_sub (n : Nat) : nI n - 1 = dI n := by
  cases n with
  | zero => decide
  | succ n => exact nI_pred n
theorem dec1 (j : Nat) : nI j + Int32.ofInt (-1) = dI j := by
  have e : Int32.ofInt (-1) = -1 := by decide
  rw [e, ← dI_sub, Int32.sub_eq_add_neg]
theorem sw_2 (x : Int32) : x = 0 ∨ x = 1 ∨ (x.toInt < 0 ∨ 1 < x.toInt) := by
  by_cases h : x.toInt < 0 ∨ 1 < x.toInt
  · exact Or.inr (Or.inr (h))
  · rcases (by omega : x.toInt = 0 ∨ x.toInt = 1) with q | q
    · exact Or.inl (Int32.toInt_inj.mp (q.trans (by decide : (0 : Int) = (0 : Int32).toInt)))
    · exact Or.inr (Or.inl (Int32.toInt_inj.mp (q.trans (by decide : (1 : Int) = (1 : Int32).toInt))))
theorem sw_3 (x : Int32) : x = 0 ∨ x = 1 ∨ x = 2 ∨ (x.toInt < 0 ∨ 2 < x.toInt) := by
  by_cases h : x.toInt < 0 ∨ 2 < x.toInt
  · exact Or.inr (Or.inr (Or.inr (h)))
  · rcases (by omega : x.toInt = 0 ∨ x.toInt = 1 ∨ x.toInt = 2) with q | q | q
    · exact Or.inl (Int32.toInt_inj.mp (q.trans (by decide : (0 : Int) = (0 : Int32).toInt)))
    · exact Or.inr (Or.inl (Int32.toInt_inj.mp (q.trans (by decide : (1 : Int) = (1 : Int32).toInt))))
    · exact Or.inr (Or.inr (Or.inl (Int32.toInt_inj.mp (q.trans (by decide : (2 : Int) = (2 : Int32).toInt)))))
theorem sw_5 (x : Int32) : x = 0 ∨ x = 1 ∨ x = 2 ∨ x = 3 ∨ x = 4 ∨ (x.toInt < 0 ∨ 4 < x.toInt) := by
  by_cases h : x.toInt < 0 ∨ 4 < x.toInt
  · exact Or.inr (Or.inr (Or.inr (Or.inr (Or.inr (h)))))
  · rcases (by omega : x.toInt = 0 ∨ x.toInt = 1 ∨ x.toInt = 2 ∨ x.toInt = 3 ∨ x.toInt = 4) with q | q | q | q | q
    · exact Or.inl (Int32.toInt_inj.mp (q.trans (by decide : (0 : Int) = (0 : Int32).toInt)))
    · exact Or.inr (Or.inl (Int32.toInt_inj.mp (q.trans (by decide : (1 : Int) = (1 : Int32).toInt))))
    · exact Or.inr (Or.inr (Or.inl (Int32.toInt_inj.mp (q.trans (by decide : (2 : Int) = (2 : Int32).toInt)))))
    · exact Or.inr (Or.inr (Or.inr (Or.inl (Int32.toInt_inj.mp (q.trans (by decide : (3 : Int) = (3 : Int32).toInt))))))
    · exact Or.inr (Or.inr (Or.inr (Or.inr (Or.inl (Int32.toInt_inj.mp (q.trans (by decide : (4 : Int) = (4 : Int32).toInt)))))))
theorem sw_8 (x : Int32) : x = 0 ∨ x = 1 ∨ x = 2 ∨ x = 3 ∨ x = 4 ∨ x = 5 ∨ x = 6 ∨ x = 7 ∨ (x.toInt < 0 ∨ 7 < x.toInt) := by
  by_cases h : x.toInt < 0 ∨ 7 < x.toInt
  · exact Or.inr (Or.inr (Or.inr (Or.inr (Or.inr (Or.inr (Or.inr (Or.inr (h))))))))
  · rcases (by omega : x.toInt = 0 ∨ x.toInt = 1 ∨ x.toInt = 2 ∨ x.toInt = 3 ∨ x.toInt = 4 ∨ x.toInt = 5 ∨ x.toInt = 6 ∨ x.toInt = 7) with q | q | q | q | q | q | q | q
    · exact Or.inl (Int32.toInt_inj.mp (q.trans (by decide : (0 : Int) = (0 : Int32).toInt)))
    · exact Or.inr (Or.inl (Int32.toInt_inj.mp (q.trans (by decide : (1 : Int) = (1 : Int32).toInt))))
    · exact Or.inr (Or.inr (Or.inl (Int32.toInt_inj.mp (q.trans (by decide : (2 : Int) = (2 : Int32).toInt)))))
    · exact Or.inr (Or.inr (Or.inr (Or.inl (Int32.toInt_inj.mp (q.trans (by decide : (3 : Int) = (3 : Int32).toInt))))))
    · exact Or.inr (Or.inr (Or.inr (Or.inr (Or.inl (Int32.toInt_inj.mp (q.trans (by decide : (4 : Int) = (4 : Int32).toInt)))))))
    · exact Or.inr (Or.inr (Or.inr (Or.inr (Or.inr (Or.inl (Int32.toInt_inj.mp (q.trans (by decide : (5 : Int) = (5 : Int32).toInt))))))))
    · exact Or.inr (Or.inr (Or.inr (Or.inr (Or.inr (Or.inr (Or.inl (Int32.toInt_inj.mp (q.trans (by decide : (6 : Int) = (6 : Int32).toInt)))))))))
    · exact Or.inr (Or.inr (Or.inr (Or.inr (Or.inr (Or.inr (Or.inr (Or.inl (Int32.toInt_inj.mp (q.trans (by decide : (7 : Int) = (7 : Int32).toInt))))))))))
theorem sw_10 (x : Int32) : x = 0 ∨ x = 1 ∨ x = 2 ∨ x = 3 ∨ x = 4 ∨ x = 5 ∨ x = 6 ∨ x = 7 ∨ x = 8 ∨ x = 9 ∨ (x.toInt < 0 ∨ 9 < x.toInt) := by
  by_cases h : x.toInt < 0 ∨ 9 < x.toInt
  · exact Or.inr (Or.inr (Or.inr (Or.inr (Or.inr (Or.inr (Or.inr (Or.inr (Or.inr (Or.inr (h))))))))))
  · rcases (by omega : x.toInt = 0 ∨ x.toInt = 1 ∨ x.toInt = 2 ∨ x.toInt = 3 ∨ x.toInt = 4 ∨ x.toInt = 5 ∨ x.toInt = 6 ∨ x.toInt = 7 ∨ x.toInt = 8 ∨ x.toInt = 9) with q | q | q | q | q | q | q | q | q | q
    · exact Or.inl (Int32.toInt_inj.mp (q.trans (by decide : (0 : Int) = (0 : Int32).toInt)))
    · exact Or.inr (Or.inl (Int32.toInt_inj.mp (q.trans (by decide : (1 : Int) = (1 : Int32).toInt))))
    · exact Or.inr (Or.inr (Or.inl (Int32.toInt_inj.mp (q.trans (by decide : (2 : Int) = (2 : Int32).toInt)))))
    · exact Or.inr (Or.inr (Or.inr (Or.inl (Int32.toInt_inj.mp (q.trans (by decide : (3 : Int) = (3 : Int32).toInt))))))
    · exact Or.inr (Or.inr (Or.inr (Or.inr (Or.inl (Int32.toInt_inj.mp (q.trans (by decide : (4 : Int) = (4 : Int32).toInt)))))))
    · exact Or.inr (Or.inr (Or.inr (Or.inr (Or.inr (Or.inl (Int32.toInt_inj.mp (q.trans (by decide : (5 : Int) = (5 : Int32).toInt))))))))
    · exact Or.inr (Or.inr (Or.inr (Or.inr (Or.inr (Or.inr (Or.inl (Int32.toInt_inj.mp (q.trans (by decide : (6 : Int) = (6 : Int32).toInt)))))))))
    · exact Or.inr (Or.inr (Or.inr (Or.inr (Or.inr (Or.inr (Or.inr (Or.inl (Int32.toInt_inj.mp (q.trans (by decide : (7 : Int) = (7 : Int32).toInt))))))))))
    · exact Or.inr (Or.inr (Or.inr (Or.inr (Or.inr (Or.inr (Or.inr (Or.inr (Or.inl (Int32.toInt_inj.mp (q.trans (by decide : (8 : Int) = (8 : Int32).toInt)))))))))))
    · exact Or.inr (Or.inr (Or.inr (Or.inr (Or.inr (Or.inr (Or.inr (Or.inr (Or.inr (Or.inl (Int32.toInt_inj.mp (q.trans (by decide : (9 : Int) = (9 : Int32).toInt))))))))))))
end
section
/-! the worlds: an object of each class with its arrays -/
abbrev wX0 (cI cZ cG : ClassId) (h : Nat) (a : Nat → Nat) (n0 n5 : Int32) (g0 g1 g2 g3 : Nat → Int32) : va_W := [(h, .inr (0, [.int n0, .ref (a 0), .ref (a 1), .ref (a 2), .ref (a 3), .int n5])), (a 0, .inl (cI, 60, .inl g0)), (a 1, .inl (cI, 60, .inl g1)), (a 2, .inl (cI, 60, .inl g2)), (a 3, .inl (cI, 60, .inl g3))]
abbrev wX1 (cI cZ cG : ClassId) (h : Nat) (a : Nat → Nat) (n2 n3 n9 n12 n13 n14 n15 : Int32) (g0 g1 g2 g3 g4 g5 g6 g7 g8 : Nat → Int32) : va_W := [(h, .inr (1, [.ref (a 0), .ref (a 1), .int n2, .int n3, .ref (a 2), .ref (a 3), .ref (a 4), .ref (a 5), .ref (a 6), .int n9, .ref (a 7), .ref (a 8), .int n12, .int n13, .int n14, .int n15])), (a 0, .inl (cI, 4, .inl g0)), (a 1, .inl (cZ, 200, .inl g1)), (a 2, .inl (cI, 24, .inl g2)), (a 3, .inl (cI, 24, .inl g3)), (a 4, .inl (cI, 24, .inl g4)), (a 5, .inl (cI, 24, .inl g5)), (a 6, .inl (cI, 24, .inl g6)), (a 7, .inl (cI, 24, .inl g7)), (a 8, .inl (cI, 24, .inl g8))]
abbrev wX2 (cI cZ cG : ClassId) (h : Nat) (a : Nat → Nat) (n2 n10 n11 : Int32) (g1 g2 g3 g4 g5 g6 g7 g8 : Nat → Int32) (B : Nat → Nat → Int32) : va_W := [(h, .inr (2, [.ref (a 0), .ref (a 1), .int n2, .ref (a 2), .ref (a 3), .ref (a 4), .ref (a 5), .ref (a 6), .ref (a 7), .ref (a 8), .int n10, .int n11])), (a 0, .inl (cG, 3, .inr (.inr (.inr (.inr (fun i => if i < 3 then some (a (9 + i)) else none)))))), (a 1, .inl (cI, 3, .inl g1)), (a 2, .inl (cI, 4, .inl g2)), (a 3, .inl (cI, 4, .inl g3)), (a 4, .inl (cI, 4, .inl g4)), (a 5, .inl (cI, 4, .inl g5)), (a 6, .inl (cI, 4, .inl g6)), (a 7, .inl (cI, 4, .inl g7)), (a 8, .inl (cZ, 4, .inl g8)), (a (9 + 0), .inl (cI, 12, .inl (B 0))), (a (9 + 1), .inl (cI, 12, .inl (B 1))), (a (9 + 2), .inl (cI, 12, .inl (B 2)))]
abbrev wX3 (cI cZ cG : ClassId) (h : Nat) (a : Nat → Nat) (n3 n8 n12 : Int32) (g0 g1 g2 g3 g4 g5 g6 g7 g8 g9 : Nat → Int32) : va_W := [(h, .inr (3, [.ref (a 0), .ref (a 1), .ref (a 2), .int n3, .ref (a 3), .ref (a 4), .ref (a 5), .ref (a 6), .int n8, .ref (a 7), .ref (a 8), .ref (a 9), .int n12])), (a 0, .inl (cI, 6, .inl g0)), (a 1, .inl (cI, 6, .inl g1)), (a 2, .inl (cI, 6, .inl g2)), (a 3, .inl (cI, 20, .inl g3)), (a 4, .inl (cI, 20, .inl g4)), (a 5, .inl (cI, 20, .inl g5)), (a 6, .inl (cI, 20, .inl g6)), (a 7, .inl (cI, 60, .inl g7)), (a 8, .inl (cI, 60, .inl g8)), (a 9, .inl (cI, 60, .inl g9))]
abbrev wX5 (cI cZ cG : ClassId) (h : Nat) (a : Nat → Nat) (n0 n2 n4 n7 n9 n11 n12 n15 n17 n18 n19 : Int32) (g0 g1 g2 g3 g4 g5 g6 g7 g8 g9 g10 g11 g12 : Nat → Int32) : va_W := [(h, .inr (5, [.int n0, .ref (a 0), .int n2, .ref (a 1), .int n4, .ref (a 2), .ref (a 3), .int n7, .ref (a 4), .int n9, .ref (a 5), .int n11, .int n12, .ref (a 6), .ref (a 7), .int n15, .ref (a 8), .int n17, .int n18, .int n19, .ref (a 9), .ref (a 10), .ref (a 11), .ref (a 12)])), (a 0, .inl (cI, 18, .inl g0)), (a 1, .inl (cI, 80, .inl g1)), (a 2, .inl (cI, 180, .inl g2)), (a 3, .inl (cI, 4, .inl g3)), (a 4, .inl (cI, 120, .inl g4)), (a 5, .inl (cZ, 200, .inl g5)), (a 6, .inl (cI, 3, .inl g6)), (a 7, .inl (cI, 36, .inl g7)), (a 8, .inl (cI, 28, .inl g8)), (a 9, .inl (cI, 240, .inl g9)), (a 10, .inl (cI, 24, .inl g10)), (a 11, .inl (cZ, 24, .inl g11)), (a 12, .inl (cI, 3, .inl g12))]
def vB (B : Nat → Nat → Int32) (j : Nat) (x : Nat → Int32) : Nat → Nat → Int32 := fun i => if i = j then x else B i
theorem wX2_row {cI cZ cG : ClassId} {h : Nat} {a : Nat → Nat} {n2 n10 n11 : Int32} {g1 g2 g3 g4 g5 g6 g7 g8 : Nat → Int32} {B : Nat → Nat → Int32} {j : Nat} (hj : j < 3) : (wX2 cI cZ cG h a n2 n10 n11 g1 g2 g3 g4 g5 g6 g7 g8 B)[10 + j]? = some (a (9 + j), .inl (cI, 12, .inl (B j))) := by
  rcases (by omega : j = 0 ∨ j = 1 ∨ j = 2) with rfl | rfl | rfl <;> rfl
theorem wX2_rset {cI cZ cG : ClassId} {h : Nat} {a : Nat → Nat} {n2 n10 n11 : Int32} {g1 g2 g3 g4 g5 g6 g7 g8 : Nat → Int32} {B : Nat → Nat → Int32} {j : Nat} {x : Nat → Int32} (hj : j < 3) : (wX2 cI cZ cG h a n2 n10 n11 g1 g2 g3 g4 g5 g6 g7 g8 B).set (10 + j) (a (9 + j), .inl (cI, 12, .inl x)) = wX2 cI cZ cG h a n2 n10 n11 g1 g2 g3 g4 g5 g6 g7 g8 (vB B j x) := by
  rcases (by omega : j = 0 ∨ j = 1 ∨ j = 2) with rfl | rfl | rfl <;> rfl
end
section
/-! what a state is, and what its methods answer: section 1 (scale) -/
def oI : Option Nat → Int32
  | none => -6
  | some k => nI k
def inR (x lo hi : Int32) : Bool := decide (lo ≤ x) && decide (x ≤ hi)
def bo (r : Int32) (P : Prop) : Prop := (r = 1 ∧ P) ∨ (r = 0 ∧ ¬ P)
theorem inR_t {x lo hi : Int32} (h1 : lo ≤ x) (h2 : x ≤ hi) : inR x lo hi = true := by simp [inR, h1, h2]
theorem inR_f1 {x lo hi : Int32} (h1 : ¬ lo ≤ x) : ¬ inR x lo hi = true := by simp [inR, h1]
theorem inR_f2 {x lo hi : Int32} (h2 : ¬ x ≤ hi) : ¬ inR x lo hi = true := by simp [inR, h2]
theorem inR_iff {x lo hi : Int32} : inR x lo hi = true ↔ lo ≤ x ∧ x ≤ hi := by simp [inR]
/-- a number between two is a natural one -/
theorem inR_nat {x hi : Int32} {n : Nat} (h : inR x 0 hi = true) (hh : hi.toInt = n) : ∃ j : Nat, j ≤ n ∧ x = nI j := by
  obtain ⟨h1, h2⟩ := inR_iff.mp h
  exact nI_of2 hh (Int32.not_lt.mpr h1) h2
/-- a number from 0 on, below a length -/
theorem inR_lt {x : Int32} {n : Nat} (hn : n < 2 ^ 31) (h : inR x 0 (nI n - 1) = true) : ∃ j : Nat, j < n ∧ x = nI j := by
  obtain ⟨h1, h2⟩ := inR_iff.mp h
  obtain ⟨j, hj, rfl⟩ := nI_of (Int32.not_lt.mpr h1)
  refine ⟨j, ?_, rfl⟩
  cases n with
  | zero =>
    exfalso
    have e : nI 0 - 1 = -1 := by decide
    rw [e, Int32.le_iff_toInt_le, nI_toInt hj] at h2
    have : (-1 : Int32).toInt = -1 := by decide
    omega
  | succ n =>
    rw [nI_pred] at h2
    have := (nI_leI hj (by omega)).mp h2
    omega
theorem inR_ltI {j n : Nat} (hj : j < n) (hn : n < 2 ^ 31) : inR (nI j) 0 (nI n - 1) = true := by
  cases n with
  | zero => omega
  | succ n =>
    rw [nI_pred]
    exact inR_t (nI_pos' (by omega)) ((nI_leI (by omega) (by omega)).mpr (by omega))
/-- the place of the greatest day not above d, of several the last -/
def bR (x : Nat → Int32) (d : Int32) : Nat → Option Nat
  | 0 => none
  | k + 1 => match bR x d k with
    | none => if x k ≤ d then some k else none
    | some b => if x k ≤ d ∧ x b ≤ x k then some k else some b
theorem bR_lt {x : Nat → Int32} {d : Int32} : ∀ {n b : Nat}, bR x d n = some b → b < n
  | 0, b, h => by simp [bR] at h
  | n + 1, b, h => by
    unfold bR at h
    cases e : bR x d n with
    | none =>
      rw [e] at h
      by_cases c : x n ≤ d
      · simp [c] at h; omega
      · simp [c] at h
    | some b' =>
      rw [e] at h
      have := bR_lt e
      by_cases c : x n ≤ d ∧ x b' ≤ x n
      · simp [c] at h; omega
      · simp [c] at h; omega
/-- the last clipping of a thing up to a day -/
def lC (ct cd : Nat → Int32) (t d : Int32) : Nat → Option Nat
  | 0 => none
  | k + 1 => if ct k = t ∧ cd k ≤ d then some k else lC ct cd t d k
theorem lC_lt {ct cd : Nat → Int32} {t d : Int32} : ∀ {n b : Nat}, lC ct cd t d n = some b → b < n
  | 0, b, h => by simp [lC] at h
  | n + 1, b, h => by
    unfold lC at h
    by_cases c : ct n = t ∧ cd n ≤ d
    · simp [c] at h; omega
    · rw [if_neg c] at h
      have := lC_lt h
      omega
def foO (v : Nat → Int32) (z : Int32) : Option Nat → Int32
  | none => z
  | some b => v b
def szO (cd cs : Nat → Int32) (s0 g d : Int32) : Option Nat → Int32
  | none => s0 + (d - 0) / 7 * g
  | some c => cs c + (d - cd c) / 7 * g
def flt (due sl size so : Int32) : Int32 := if ¬ (size - due ≤ due * sl / 100) ∧ ¬ so = 2 then 1 else if ¬ (-(size - due) ≤ due * sl / 100) ∧ ¬ so = 1 then 2 else 0
def raA (nr : Nat) (rd rr : Nat → Int32) (d : Int32) : Int32 := foO rr 12 (bR rd d nr)
def slA (nr : Nat) (rd rs : Nat → Int32) (d : Int32) : Int32 := foO rs 10 (bR rd d nr)
def szA (nc : Nat) (ct cd cs si gr : Nat → Int32) (t : Nat) (d : Int32) : Int32 := szO cd cs (si t) (gr t) d (lC ct cd (nI t) d nc)
def duA (nr : Nat) (rd rr tr : Nat → Int32) (t : Nat) (d : Int32) : Int32 := tr t / raA nr rd rr d
def fA (nr nc : Nat) (rd rr rs so tr si gr ct cd cs : Nat → Int32) (t : Nat) (d : Int32) : Int32 := flt (duA nr rd rr tr t d) (slA nr rd rs d) (szA nc ct cd cs si gr t d) (so t)
/-- the first place from lo on, below hi, of which P holds -/
def fst (P : Nat → Prop) (lo hi : Nat) (r : Int32) : Prop := (∃ t, lo ≤ t ∧ t < hi ∧ r = nI t ∧ P t ∧ ∀ j, lo ≤ j → j < t → ¬ P j) ∨ (r = -6 ∧ ∀ j, lo ≤ j → j < hi → ¬ P j)
theorem fst_eq {P P' : Nat → Prop} {lo hi : Nat} {r r' : Int32} (e : ∀ j, lo ≤ j → j < hi → (P j ↔ P' j)) (h : fst P lo hi r) (h' : fst P' lo hi r') : r = r' := by
  rcases h with ⟨t, a1, a2, a3, a4, a5⟩ | ⟨a1, a2⟩ <;> rcases h' with ⟨t', b1, b2, b3, b4, b5⟩ | ⟨b1, b2⟩
  · have : t = t' := by
      rcases Nat.lt_trichotomy t t' with q | q | q
      · exact absurd ((e t a1 a2).mp a4) (b5 t a1 q)
      · exact q
      · exact absurd ((e t' b1 b2).mpr b4) (a5 t' b1 q)
    rw [a3, b3, this]
  · exact absurd ((e t a1 a2).mp a4) (b2 t a1 a2)
  · exact absurd ((e t' b1 b2).mpr b4) (a2 t' b1 b2)
  · rw [a1, b1]
theorem raA_ne {nr : Nat} {rd rr : Nat → Int32} (d : Int32) (h : ∀ k, k < nr → ¬ rr k = 0) : ¬ raA nr rd rr d = 0 := by
  unfold raA
  cases e : bR rd d nr with
  | none => show ¬ (12 : Int32) = 0; decide
  | some b => exact h b (bR_lt e)
def okRule (d ra sl : Int32) : Bool := inR d 0 3000 && inR ra 2 30 && inR sl 0 50
def rRule (nr : Nat) (d ra sl : Int32) : Int32 := if okRule d ra sl = true then (if nr = 6 then -4 else nI (nr + 1)) else -2
def rForce (nr : Nat) (rd rr rs : Nat → Int32) (d w : Int32) : Int32 := if inR d 0 3000 = true ∧ inR w 0 1 = true then (if w = 0 then raA nr rd rr d else slA nr rd rs d) else -2
def okThing (so tr si gr : Int32) : Bool := inR so 0 2 && inR tr 100 60000 && inR si 1 9000 && inR gr 0 50
def rThing (nt : Nat) (so tr si gr : Int32) : Int32 := if okThing so tr si gr = true then (if nt = 20 then -4 else nI nt) else -2
def rLook (nr nt nc : Nat) (rd rr rs so tr si gr ct cd cs : Nat → Int32) (x d w : Int32) : Int32 :=
  if inR x 0 (nI nt - 1) = true then (if inR d 0 3000 = true then (if w = 0 then szA nc ct cd cs si gr x.toNatClampNeg d else if w = 1 then duA nr rd rr tr x.toNatClampNeg d else if w = 2 then fA nr nc rd rr rs so tr si gr ct cd cs x.toNatClampNeg d else -2) else -2) else -1
def lateC (cd : Nat → Int32) (d : Int32) : Option Nat → Bool
  | none => false
  | some c => !decide (cd c ≤ d)
def okClip (nt nc : Nat) (so ct cd : Nat → Int32) (x d v : Int32) : Bool := inR x 0 (nI nt - 1) && inR d 0 3000 && inR v 1 9000 && decide (so x.toNatClampNeg = 1) && decide (¬ nc = 60) && !lateC cd d (lC ct cd x 3000 nc)
def rClip (nt nc : Nat) (so ct cd cs si gr : Nat → Int32) (x d v : Int32) : Int32 :=
  if inR x 0 (nI nt - 1) = true then (if inR d 0 3000 = true ∧ inR v 1 9000 = true then (if so x.toNatClampNeg = 1 then (if nc = 60 then -4 else if lateC cd d (lC ct cd x 3000 nc) = true then -5 else szA nc ct cd cs si gr x.toNatClampNeg d) else -3) else -2) else -1
theorem flt_1 {due sl size so : Int32} (c : ¬ size - due ≤ due * sl / 100) (c2 : ¬ so = 2) : flt due sl size so = 1 := if_pos ⟨c, c2⟩
theorem flt_2 {due sl size so : Int32} (c : size - due ≤ due * sl / 100 ∨ so = 2) (c2 : ¬ -(size - due) ≤ due * sl / 100) (c3 : ¬ so = 1) : flt due sl size so = 2 := by
  unfold flt
  rw [if_neg (fun h => c.elim h.1 h.2), if_pos ⟨c2, c3⟩]
theorem flt_0 {due sl size so : Int32} (c : size - due ≤ due * sl / 100 ∨ so = 2) (c2 : -(size - due) ≤ due * sl / 100 ∨ so = 1) : flt due sl size so = 0 := by
  unfold flt
  rw [if_neg (fun h => c.elim h.1 h.2), if_neg (fun h => c2.elim h.1 h.2)]
end
section
/-! section 4: the book -/
def pvO (x : Nat → Int32) (k : Nat) : Option Nat → Bool
  | none => true
  | some b => decide (x b ≤ x k)
def pO (fg dy tl : Nat → Int32) (f d as : Int32) : Nat → Option Nat
  | 0 => none
  | k + 1 => if (tl k ≤ as ∧ fg k = f ∧ dy k ≤ d) ∧ pvO dy k (pO fg dy tl f d as k) = true then some k else pO fg dy tl f d as k
theorem pO_lt {fg dy tl : Nat → Int32} {f d as : Int32} : ∀ {n b : Nat}, pO fg dy tl f d as n = some b → b < n
  | 0, b, h => by simp [pO] at h
  | n + 1, b, h => by
    unfold pO at h
    by_cases c : (tl n ≤ as ∧ fg n = f ∧ dy n ≤ d) ∧ pvO dy n (pO fg dy tl f d as n) = true
    · rw [if_pos c] at h
      cases h
      omega
    · rw [if_neg c] at h
      have := pO_lt h
      omega
def tB (fg dy : Nat → Int32) (f d : Int32) : Nat → Option Nat
  | 0 => none
  | k + 1 => if (fg k = f ∧ dy k ≤ d) ∧ pvO dy k (tB fg dy f d k) = true then some k else tB fg dy f d k
theorem tB_lt {fg dy : Nat → Int32} {f d : Int32} : ∀ {n b : Nat}, tB fg dy f d n = some b → b < n
  | 0, b, h => by simp [tB] at h
  | n + 1, b, h => by
    unfold tB at h
    by_cases c : (fg n = f ∧ dy n ≤ d) ∧ pvO dy n (tB fg dy f d n) = true
    · rw [if_pos c] at h
      cases h
      omega
    · rw [if_neg c] at h
      have := tB_lt h
      omega
def neO (pl : Nat → Int32) (k : Nat) : Option Nat → Bool
  | none => true
  | some b => decide (¬ pl k = pl b)
def tC (fg dy pl : Nat → Int32) (f d : Int32) : Nat → Int32
  | 0 => 0
  | k + 1 => if ((fg k = f ∧ dy k ≤ d) ∧ pvO dy k (tB fg dy f d k) = true) ∧ neO pl k (tB fg dy f d k) = true then tC fg dy pl f d k + 1 else tC fg dy pl f d k
def bA (nn : Nat) (fg dy tl pl : Nat → Int32) (q d as : Int32) : Nat → Int32
  | 0 => 0
  | k + 1 => if foO pl (-6) (pO fg dy tl (nI k) d as nn) = q then bA nn fg dy tl pl q d as k ||| (1 : Int32) <<< (nI k &&& 31) else bA nn fg dy tl pl q d as k
def rWhere (nf nn : Nat) (fg dy tl pl : Nat → Int32) (x d as : Int32) : Int32 := if inR x 0 (nI nf - 1) = true then (if inR d 0 3000 = true ∧ inR as 0 3000 = true then foO pl (-6) (pO fg dy tl x d as nn) else -102) else -101
def rAt (nf nn : Nat) (fg dy tl pl : Nat → Int32) (q d as : Int32) : Int32 := if inR q (-1) 99 = true ∧ inR d 0 3000 = true ∧ inR as 0 3000 = true then bA nn fg dy tl pl q d as nf else -2
def rTurns (nf nn : Nat) (fg dy pl : Nat → Int32) (x d : Int32) : Int32 := if inR x 0 (nI nf - 1) = true then (if inR d 0 3000 = true then tC fg dy pl x d nn else -2) else -1
def rFigure (nf : Nat) : Int32 := if nf = 12 then -4 else nI nf
def okNote (nf nn : Nat) (tl : Nat → Int32) (x d t q : Int32) : Bool := inR x 0 (nI nf - 1) && inR d 0 3000 && inR t 0 3000 && inR q (-1) 99 && decide (¬ nn = 60) && decide (d ≤ t) && decide (nn = 0 ∨ tl (nn - 1) ≤ t)
def rNote (nf nn : Nat) (tl : Nat → Int32) (x d t q : Int32) : Int32 :=
  if inR x 0 (nI nf - 1) = true then (if inR d 0 3000 = true ∧ inR t 0 3000 = true ∧ inR q (-1) 99 = true then (if nn = 60 then -4 else if d ≤ t ∧ (nn = 0 ∨ tl (nn - 1) ≤ t) then nI (nn + 1) else -5) else -2) else -1
end
section
/-! section 2: the walls -/
/-- the wall with the least look below 100, the first of several -/
def mF (L : Nat → Int32) : Nat → Option Nat
  | 0 => none
  | k + 1 => if foO L 100 (mF L k) ≤ L k then mF L k else some k
theorem mF_lt {L : Nat → Int32} : ∀ {n b : Nat}, mF L n = some b → b < n
  | 0, b, h => by simp [mF] at h
  | n + 1, b, h => by
    unfold mF at h
    by_cases c : foO L 100 (mF L n) ≤ L n
    · rw [if_pos c] at h
      have := mF_lt h
      omega
    · rw [if_neg c] at h
      cases h
      omega
/-- the hands paint: how many, the looks, the times, what was lacking at the end -/
def pG (hw : Nat → Int32) (nw : Nat) : Nat → Int32 → (Nat → Int32) → (Nat → Int32) → Nat → Nat × (Nat → Int32) × (Nat → Int32) × Option Int32
  | 0, _, L, T, p => (p, L, T, none)
  | f + 1, v, L, T, p => match mF L nw with
    | none => (p, L, T, none)
    | some b => if hw b ≤ v then pG hw nw f (v - hw b) (upd L b 100) (upd T b (T b + 1)) (p + 1) else (p, L, T, some (hw b - v))
theorem pG_none {hw : Nat → Int32} {nw f : Nat} {v : Int32} {L T : Nat → Int32} {p : Nat} (h : mF L nw = none) : pG hw nw f v L T p = (p, L, T, none) := by
  cases f with
  | zero => rfl
  | succ f => rw [pG, h]
theorem pG_go {hw : Nat → Int32} {nw f b : Nat} {v : Int32} {L T : Nat → Int32} {p : Nat} (h : mF L nw = some b) (c : hw b ≤ v) : pG hw nw (f + 1) v L T p = pG hw nw f (v - hw b) (upd L b 100) (upd T b (T b + 1)) (p + 1) := by
  rw [pG, h]
  exact if_pos c
theorem pG_stop {hw : Nat → Int32} {nw f b : Nat} {v : Int32} {L T : Nat → Int32} {p : Nat} (h : mF L nw = some b) (c : ¬ hw b ≤ v) : pG hw nw (f + 1) v L T p = (p, L, T, some (hw b - v)) := by
  rw [pG, h]
  exact if_neg c
def mnO (x : Int32) : Option Int32 → Int32
  | none => x
  | some y => if y < x then y else x
def fdv (x : Int32) : Int32 := if x ≤ 0 then 0 else x
/-- the looks fade -/
def fF (fa sd L : Nat → Int32) : Nat → Nat → Int32
  | 0 => L
  | k + 1 => upd (fF fa sd L k) k (fdv (fF fa sd L k k - fa (sd k).toNatClampNeg))
/-- what the hands do in a week -/
def wkQ (fz hw : Nat → Int32) (nw w : Nat) (h : Int32) (L T : Nat → Int32) : Nat × (Nat → Int32) × (Nat → Int32) × Option Int32 := if fz w = 0 then pG hw nw nw h L T 0 else (0, L, T, none)
/-- the least look so far, its week, its wall -/
def kL (L : Nat → Int32) (w : Int32) (q : Int32 × Int32 × Int32) : Nat → Int32 × Int32 × Int32
  | 0 => q
  | k + 1 => if (kL L w q k).1 ≤ L k then kL L w q k else (L k, w, nI k)
/-- a week in thought: looks, times, the least so far, what was lacking -/
def stT (fa fz sd hw : Nat → Int32) (nw w : Nat) (h : Int32) (q : (Nat → Int32) × (Nat → Int32) × (Int32 × Int32 × Int32) × Int32) : (Nat → Int32) × (Nat → Int32) × (Int32 × Int32 × Int32) × Int32 :=
  (fF fa sd (wkQ fz hw nw w h q.1 q.2.1).2.1 nw, (wkQ fz hw nw w h q.1 q.2.1).2.2.1, kL (fF fa sd (wkQ fz hw nw w h q.1 q.2.1).2.1 nw) (nI w) q.2.2.1 nw, mnO q.2.2.2 (wkQ fz hw nw w h q.1 q.2.1).2.2.2)
/-- so many weeks in thought, but for those behind one below a look -/
def fS (fa fz sd hw : Nat → Int32) (nw wk : Nat) (h look : Int32) (q : (Nat → Int32) × (Nat → Int32) × (Int32 × Int32 × Int32) × Int32) : Nat → (Nat → Int32) × (Nat → Int32) × (Int32 × Int32 × Int32) × Int32
  | 0 => q
  | i + 1 => if look ≤ (fS fa fz sd hw nw wk h look q i).2.2.1.1 then stT fa fz sd hw nw (wk + i) h (fS fa fz sd hw nw wk h look q i) else fS fa fz sd hw nw wk h look q i
theorem fS_stop {fa fz sd hw : Nat → Int32} {nw wk : Nat} {h look : Int32} {q : (Nat → Int32) × (Nat → Int32) × (Int32 × Int32 × Int32) × Int32} {i : Nat} (hq : ¬ look ≤ (fS fa fz sd hw nw wk h look q i).2.2.1.1) : ∀ j : Nat, fS fa fz sd hw nw wk h look q (i + j) = fS fa fz sd hw nw wk h look q i
  | 0 => rfl
  | j + 1 => by
    have ih := fS_stop hq j
    have e : fS fa fz sd hw nw wk h look q (i + (j + 1)) = if look ≤ (fS fa fz sd hw nw wk h look q (i + j)).2.2.1.1 then stT fa fz sd hw nw (wk + (i + j)) h (fS fa fz sd hw nw wk h look q (i + j)) else fS fa fz sd hw nw wk h look q (i + j) := rfl
    rw [e, if_neg (by rw [ih]; exact hq)]
    exact ih
/-- the beginning of the thought -/
def f0 (nw : Nat) (lo tl tt : Nat → Int32) (lw lx : Int32) : (Nat → Int32) × (Nat → Int32) × (Int32 × Int32 × Int32) × Int32 := (va_cpy lo tl 0 0 nw, tt, (101, lw, lx), 501)
theorem inR_nat1 {x lo hi : Int32} {a b : Nat} (h : inR x lo hi = true) (hl : lo.toInt = a) (hh : hi.toInt = b) : ∃ j : Nat, a ≤ j ∧ j ≤ b ∧ x = nI j := by
  obtain ⟨h1, h2⟩ := inR_iff.mp h
  rw [Int32.le_iff_toInt_le] at h1 h2
  have hx : ¬ x < 0 := by
    rw [Int32.lt_iff_toInt_lt, Int32.toInt_zero]
    omega
  obtain ⟨j, hj, rfl⟩ := nI_of hx
  rw [nI_toInt hj] at h1 h2
  exact ⟨j, by omega, by omega, rfl⟩
def rFore (wk nw : Nat) (hd : Int32) (fa fz sd hw lo tl tt : Nat → Int32) (lw lx x q : Int32) : Int32 :=
  if inR x 1 52 = true ∧ inR q 0 2 = true then (if wk + x.toNatClampNeg ≤ 200 then (if nw = 0 then -6 else
    if q = 0 then (fS fa fz sd hw nw wk hd 0 (f0 nw lo tl tt lw lx) x.toNatClampNeg).2.2.1.1 else if q = 1 then (fS fa fz sd hw nw wk hd 0 (f0 nw lo tl tt lw lx) x.toNatClampNeg).2.2.1.2.1 else (fS fa fz sd hw nw wk hd 0 (f0 nw lo tl tt lw lx) x.toNatClampNeg).2.2.1.2.2) else -3) else -2
end
section
/-! section 3: the trains -/
theorem nar01 {x : Int32} (h : x = 0 ∨ x = 1) : vp_nar .boolean x = x := by
  rcases h with rfl | rfl <;> rfl
def okT (ng nT : Nat) (rl tR pc : Nat → Int32) : Prop := ∀ t, t < nT → ∃ r n q : Nat, r < ng ∧ tR t = nI r ∧ 2 ≤ n ∧ n ≤ 12 ∧ rl r = nI n ∧ q < n ∧ pc t = nI q
def okL (rl : Nat → Int32) : Prop := ∀ r, r < 3 → ∃ n : Nat, n ≤ 12 ∧ rl r = nI n
def bkO (B : Nat → Nat → Int32) (tR pc : Nat → Int32) (t : Nat) : Int32 := B (tR t).toNatClampNeg (pc t).toNatClampNeg
def nxP (rl tR pc : Nat → Int32) (t : Nat) : Int32 := if rl (tR t).toNatClampNeg ≤ pc t + 1 then 0 else pc t + 1
def bkN (B : Nat → Nat → Int32) (rl tR pc : Nat → Int32) (t : Nat) : Int32 := B (tR t).toNatClampNeg (nxP rl tR pc t).toNatClampNeg
/-- the first of the trains with a block -/
def tI (f : Nat → Int32) (b : Int32) : Nat → Option Nat
  | 0 => none
  | n + 1 => match tI f b n with
    | some t => some t
    | none => if f n = b then some n else none
theorem tI_lt {f : Nat → Int32} {b : Int32} : ∀ {n t : Nat}, tI f b n = some t → t < n
  | 0, t, h => by simp [tI] at h
  | n + 1, t, h => by
    unfold tI at h
    cases e : tI f b n with
    | some t' =>
      rw [e] at h
      cases h
      have := tI_lt e
      omega
    | none =>
      rw [e] at h
      by_cases c : f n = b
      · simp [c] at h; omega
      · simp [c] at h
theorem tI_some {f : Nat → Int32} {b : Int32} {k t : Nat} (h : tI f b k = some t) : ∀ j : Nat, tI f b (k + j) = some t
  | 0 => h
  | j + 1 => by
    show tI f b (k + j + 1) = _
    rw [tI, tI_some h j]
theorem tI_hit {f : Nat → Int32} {b : Int32} {k n : Nat} (h : tI f b k = none) (c : f k = b) (hk : k < n) : tI f b n = some k := by
  have h1 : tI f b (k + 1) = some k := by rw [tI, h]; exact if_pos c
  have := tI_some h1 (n - (k + 1))
  rw [show k + 1 + (n - (k + 1)) = n by omega] at this
  exact this
def aH (nT : Nat) (B : Nat → Nat → Int32) (rl tR pc : Nat → Int32) (t : Nat) : Option Nat := tI (bkO B tR pc) (bkN B rl tR pc t) nT
/-- a minute of a train that isn't stuck: whether it goes on; places, minutes, waited, gone -/
def gO (nT : Nat) (B : Nat → Nat → Int32) (rl tR mn : Nat → Int32) (t : Nat) (s : (Nat → Int32) × (Nat → Int32) × (Nat → Int32) × (Nat → Int32)) : Int32 × (Nat → Int32) × (Nat → Int32) × (Nat → Int32) × (Nat → Int32) :=
  if mn t ≤ s.2.1 t + 1 then
    (if aH nT B rl tR s.1 t = none then (1, upd s.1 t (nxP rl tR s.1 t), upd (upd s.2.1 t (s.2.1 t + 1)) t 0, s.2.2.1, upd s.2.2.2 t (s.2.2.2 t + 1))
    else (0, s.1, upd s.2.1 t (s.2.1 t + 1), upd s.2.2.1 t (s.2.2.1 t + 1), s.2.2.2))
  else (0, s.1, upd s.2.1 t (s.2.1 t + 1), s.2.2.1, s.2.2.2)
theorem nxP_in {rl tR pc : Nat → Int32} {t r n q : Nat} (hr3 : r < 3) (hr : tR t = nI r) (hn12 : n ≤ 12) (hn : rl r = nI n) (hqn : q < n) (hq : pc t = nI q) : ∃ j : Nat, j < n ∧ nxP rl tR pc t = nI j := by
  have e : nxP rl tR pc t = if nI n ≤ nI (q + 1) then 0 else nI (q + 1) := by
    unfold nxP
    rw [hr, hq, nI_1, nI_clamp (by omega), hn]
  by_cases c : n ≤ q + 1
  · exact ⟨0, by omega, by rw [e, if_pos ((nI_leI (by omega) (by omega)).mpr c)]; rfl⟩
  · exact ⟨q + 1, by omega, by rw [e, if_neg (fun h => c ((nI_leI (by omega) (by omega)).mp h))]⟩
theorem gO_ok {ng nT : Nat} {B : Nat → Nat → Int32} {rl tR mn : Nat → Int32} {t : Nat} {s : (Nat → Int32) × (Nat → Int32) × (Nat → Int32) × (Nat → Int32)} (hg : ng ≤ 3) (h : okT ng nT rl tR s.1) (ht : t < nT) : okT ng nT rl tR (gO nT B rl tR mn t s).2.1 := by
  unfold gO
  by_cases c : mn t ≤ s.2.1 t + 1
  · rw [if_pos c]
    by_cases c2 : aH nT B rl tR s.1 t = none
    · rw [if_pos c2]
      intro j hj
      by_cases e : j = t
      · subst e
        obtain ⟨r, n, q, h1, h2, h3, h4, h5, h6, h7⟩ := h j hj
        obtain ⟨q2, h8, h9⟩ := nxP_in (by omega) h2 h4 h5 h6 h7
        exact ⟨r, n, q2, h1, h2, h3, h4, h5, h8, by show upd s.1 j _ j = _; rw [pk_us]; exact h9⟩
      · obtain ⟨r, n, q, h1, h2, h3, h4, h5, h6, h7⟩ := h j hj
        exact ⟨r, n, q, h1, h2, h3, h4, h5, h6, by show upd s.1 t _ j = _; rw [pk_un e]; exact h7⟩
    · rw [if_neg c2]
      exact h
  · rw [if_neg c]
    exact h
/-- trains by numbers: how often one went on so far -/
def gT (nT : Nat) (B : Nat → Nat → Int32) (rl tR mn su : Nat → Int32) (q : Int32 × (Nat → Int32) × (Nat → Int32) × (Nat → Int32) × (Nat → Int32)) : Nat → Int32 × (Nat → Int32) × (Nat → Int32) × (Nat → Int32) × (Nat → Int32)
  | 0 => q
  | k + 1 => if su k = 0 then ((gT nT B rl tR mn su q k).1 + (gO nT B rl tR mn k (gT nT B rl tR mn su q k).2).1, (gO nT B rl tR mn k (gT nT B rl tR mn su q k).2).2) else ((gT nT B rl tR mn su q k).1 + 0, (gT nT B rl tR mn su q k).2)
/-- so many minutes -/
def gM (nT : Nat) (B : Nat → Nat → Int32) (rl tR mn su : Nat → Int32) (q : Int32 × (Nat → Int32) × (Nat → Int32) × (Nat → Int32) × (Nat → Int32)) : Nat → Int32 × (Nat → Int32) × (Nat → Int32) × (Nat → Int32) × (Nat → Int32)
  | 0 => q
  | i + 1 => gT nT B rl tR mn su (gM nT B rl tR mn su q i) nT
def rAbout (nT : Nat) (B : Nat → Nat → Int32) (rl tR pc mb mw mg su : Nat → Int32) (x w : Int32) : Int32 :=
  if inR x 0 (nI nT - 1) = true then (if w = 0 then tR x.toNatClampNeg else if w = 1 then pc x.toNatClampNeg else if w = 2 then bkO B tR pc x.toNatClampNeg else if w = 3 then mb x.toNatClampNeg else if w = 4 then su x.toNatClampNeg else if w = 5 then mw x.toNatClampNeg else if w = 6 then mg x.toNatClampNeg else if w = 7 then oI (aH nT B rl tR pc x.toNatClampNeg) else -2) else -1
/-- neither stuck nor behind one that is told as standing -/
def mgo (su : Int32) (ah : Option Nat) (s : Int32) : Bool := decide (su = 0) && (match ah with | none => true | some a => decide (s >>> (nI a &&& 31) &&& 1 = 0))
def sI (f : Nat → Int32 → Bool) (s : Int32) : Nat → Int32
  | 0 => s
  | k + 1 => if f k (sI f s k) = true then sI f s k &&& ((1 : Int32) <<< (nI k &&& 31) ^^^ (-1)) else sI f s k
def sO (f : Nat → Int32 → Bool) (nT : Nat) : Nat → Int32
  | 0 => (1 : Int32) <<< (nI nT &&& 31) - 1
  | r + 1 => sI f (sO f nT r) nT
def rRing (ng : Nat) : Int32 := if ng = 3 then -4 else nI ng
def anyL (n : Nat) (f : Nat → Int32) (x : Int32) : Bool := (List.range n).any (fun t => decide (f t = x))
theorem anyL_t {n : Nat} {f : Nat → Int32} {x : Int32} {k : Nat} (hk : k < n) (c : f k = x) : anyL n f x = true := List.any_eq_true.mpr ⟨k, List.mem_range.mpr hk, by simp [c]⟩
theorem anyL_f {n : Nat} {f : Nat → Int32} {x : Int32} (h : ∀ j, j < n → ¬ f j = x) : ¬ anyL n f x = true := fun q => by
  obtain ⟨k, hk, c⟩ := List.any_eq_true.mp q
  exact h k (List.mem_range.mp hk) (of_decide_eq_true c)
def okBlock (ng nT : Nat) (rl tR : Nat → Int32) (B : Nat → Nat → Int32) (x b : Int32) : Bool := inR x 0 (nI ng - 1) && inR b 0 29 && !anyL nT tR x && decide (¬ rl x.toNatClampNeg = 12) && !anyL (rl x.toNatClampNeg).toNatClampNeg (B x.toNatClampNeg) b
def rBlock (ng nT : Nat) (rl tR : Nat → Int32) (B : Nat → Nat → Int32) (x b : Int32) : Int32 :=
  if inR x 0 (nI ng - 1) = true then (if inR b 0 29 = true then (if anyL nT tR x = true then -3 else if rl x.toNatClampNeg = 12 then -4 else if anyL (rl x.toNatClampNeg).toNatClampNeg (B x.toNatClampNeg) b = true then -5 else rl x.toNatClampNeg + 1) else -2) else -1
/-- the place is one of the ring's, or the ring is too short to say -/
def okPl (n : Nat) (p m : Int32) : Bool := (if 2 ≤ n then inR p 0 (nI n - 1) else inR p 0 11) && inR m 1 9
def okTrain (ng nT : Nat) (rl tR pc : Nat → Int32) (B : Nat → Nat → Int32) (x p m : Int32) : Bool := inR x 0 (nI ng - 1) && okPl (rl x.toNatClampNeg).toNatClampNeg p m && decide (2 ≤ (rl x.toNatClampNeg).toNatClampNeg) && decide (¬ nT = 4) && (tI (bkO B tR pc) (B x.toNatClampNeg p.toNatClampNeg) nT).isNone
def rTrain (ng nT : Nat) (rl tR pc : Nat → Int32) (B : Nat → Nat → Int32) (x p m : Int32) : Int32 :=
  if inR x 0 (nI ng - 1) = true then (if okPl (rl x.toNatClampNeg).toNatClampNeg p m = true then (if 2 ≤ (rl x.toNatClampNeg).toNatClampNeg then (if nT = 4 then -4 else if (tI (bkO B tR pc) (B x.toNatClampNeg p.toNatClampNeg) nT).isNone = true then nI nT else -5) else -3) else -2) else -1
theorem aH_lt {nT : Nat} {B : Nat → Nat → Int32} {rl tR pc : Nat → Int32} {t b : Nat} (h : aH nT B rl tR pc t = some b) : b < nT := tI_lt h
theorem gO_01 {nT : Nat} {B : Nat → Nat → Int32} {rl tR mn : Nat → Int32} {t : Nat} {s : (Nat → Int32) × (Nat → Int32) × (Nat → Int32) × (Nat → Int32)} : (gO nT B rl tR mn t s).1 = 0 ∨ (gO nT B rl tR mn t s).1 = 1 := by
  unfold gO
  by_cases c : mn t ≤ s.2.1 t + 1
  · rw [if_pos c]
    by_cases c2 : aH nT B rl tR s.1 t = none
    · rw [if_pos c2]; exact Or.inr rfl
    · rw [if_neg c2]; exact Or.inl rfl
  · rw [if_neg c]; exact Or.inl rfl
end
section
/-! the reference's columns -/
def col (m i : Nat) (f : Nat → Int32) : Nat → Int32 := fun k => f (m * k + i)
theorem col_upd {m i j n : Nat} {f : Nat → Int32} {x : Int32} (hi : i < m) (hj : j < m) : col m i (upd f (m * n + j) x) = if i = j then upd (col m i f) n x else col m i f := by
  funext k
  by_cases e : i = j
  · subst e
    rw [if_pos rfl]
    show upd f (m * n + i) x (m * k + i) = upd (col m i f) n x k
    by_cases h : k = n
    · subst h
      rw [pk_us, pk_us]
    · rw [pk_un h, pk_un (by
        intro q
        have h1 : m * k = m * n := by omega
        exact h (Nat.eq_of_mul_eq_mul_left (by omega) h1))]
      rfl
  · rw [if_neg e]
    show upd f (m * n + j) x (m * k + i) = f (m * k + i)
    rw [pk_un]
    intro q
    have h1 : (m * k + i) % m = i := by rw [Nat.mul_add_mod]; exact Nat.mod_eq_of_lt hi
    have h2 : (m * n + j) % m = j := by rw [Nat.mul_add_mod]; exact Nat.mod_eq_of_lt hj
    rw [q] at h1
    omega
/-- the reference's growth counts for trees alone -/
def grM (so gr : Nat → Int32) : Nat → Int32 := fun t => if so t = 1 then gr t else 0
def rForceM (nr : Nat) (mru : Nat → Int32) (d : Int32) (w : Nat) : Int32 := if w = 0 then raA nr (col 3 0 mru) (col 3 1 mru) d else slA nr (col 3 0 mru) (col 3 2 mru) d
def szM (nc : Nat) (mth mcl : Nat → Int32) (t : Nat) (d : Int32) : Int32 := szA nc (col 3 0 mcl) (col 3 1 mcl) (col 3 2 mcl) (col 4 2 mth) (grM (col 4 0 mth) (col 4 3 mth)) t d
def fM (nr nc : Nat) (mru mth mcl : Nat → Int32) (t : Nat) (d : Int32) : Int32 := fA nr nc (col 3 0 mru) (col 3 1 mru) (col 3 2 mru) (col 4 0 mth) (col 4 1 mth) (col 4 2 mth) (grM (col 4 0 mth) (col 4 3 mth)) (col 3 0 mcl) (col 3 1 mcl) (col 3 2 mcl) t d
def siO (cs : Nat → Int32) (s0 : Int32) : Option Nat → Int32
  | none => s0
  | some c => cs c
def lateM (nc : Nat) (mcl : Nat → Int32) (x d : Int32) : Bool := (List.range nc).any (fun k => decide (mcl (3 * k) = x ∧ ¬ mcl (3 * k + 1) ≤ d))
theorem lateM_t {nc : Nat} {mcl : Nat → Int32} {x d : Int32} {k : Nat} (hk : k < nc) (c1 : mcl (3 * k) = x) (c2 : ¬ mcl (3 * k + 1) ≤ d) : lateM nc mcl x d = true := List.any_eq_true.mpr ⟨k, List.mem_range.mpr hk, by simp [c1, c2]⟩
theorem lateM_f {nc : Nat} {mcl : Nat → Int32} {x d : Int32} (h : ∀ j, j < nc → ¬ (mcl (3 * j) = x ∧ ¬ mcl (3 * j + 1) ≤ d)) : lateM nc mcl x d = false := by
  cases e : lateM nc mcl x d with
  | false => rfl
  | true =>
    obtain ⟨k, hk, c⟩ := List.any_eq_true.mp e
    exact absurd (of_decide_eq_true c) (h k (List.mem_range.mp hk))
def okClipM (nt nc : Nat) (mth mcl : Nat → Int32) (x d v : Int32) : Bool := inR x 0 (nI nt - 1) && inR d 0 3000 && inR v 1 9000 && decide (mth (4 * x.toNatClampNeg) = 1) && decide (¬ nc = 60) && !lateM nc mcl x d
def rClipM (nt nc : Nat) (mth mcl : Nat → Int32) (x d v : Int32) : Int32 :=
  if inR x 0 (nI nt - 1) = true then (if inR d 0 3000 = true ∧ inR v 1 9000 = true then (if mth (4 * x.toNatClampNeg) = 1 then (if nc = 60 then -4 else if lateM nc mcl x d = true then -5 else szM nc mth mcl x.toNatClampNeg d) else -3) else -2) else -1
def rLookM (nr nt nc : Nat) (mru mth mcl : Nat → Int32) (x d w : Int32) : Int32 :=
  if inR x 0 (nI nt - 1) = true then (if inR d 0 3000 = true ∧ inR w 0 2 = true then (if w = 0 then szM nc mth mcl x.toNatClampNeg d else if w = 1 then duA nr (col 3 0 mru) (col 3 1 mru) (col 4 1 mth) x.toNatClampNeg d else fM nr nc mru mth mcl x.toNatClampNeg d) else -2) else -1
theorem szM_eq {nc : Nat} {mth mcl : Nat → Int32} {t : Nat} {d : Int32} {o : Option Nat} (ho : lC (col 3 0 mcl) (col 3 1 mcl) (nI t) d nc = o) : szM nc mth mcl t d = szO (col 3 1 mcl) (col 3 2 mcl) (mth (4 * t + 2)) (if mth (4 * t) = 1 then mth (4 * t + 3) else 0) d o := by
  unfold szM szA
  rw [ho]
  rfl
theorem szO_t (cd cs : Nat → Int32) (s0 g d : Int32) (o : Option Nat) : szO cd cs s0 g d o = siO cs s0 o + g * ((d - foO cd 0 o) / 7) := by
  cases o with
  | none => show s0 + (d - 0) / 7 * g = s0 + g * ((d - 0) / 7); rw [Int32.mul_comm]
  | some c => show cs c + (d - cd c) / 7 * g = cs c + g * ((d - cd c) / 7); rw [Int32.mul_comm]
theorem szO_0 (cd cs : Nat → Int32) (s0 d : Int32) (o : Option Nat) : szO cd cs s0 0 d o = siO cs s0 o := by
  rw [szO_t, Int32.zero_mul, Int32.add_zero]
theorem flt_pos (due sl size so : Int32) : flt due sl size so = 0 ∨ (¬ flt due sl size so = 0 ∧ ¬ flt due sl size so ≤ 0) := by
  unfold flt
  by_cases c : ¬ (size - due ≤ due * sl / 100) ∧ ¬ so = 2
  · rw [if_pos c]; exact Or.inr ⟨by decide, by decide⟩
  · rw [if_neg c]
    by_cases c2 : ¬ (-(size - due) ≤ due * sl / 100) ∧ ¬ so = 1
    · rw [if_pos c2]; exact Or.inr ⟨by decide, by decide⟩
    · rw [if_neg c2]; exact Or.inl rfl
theorem fM_ne {nr nc : Nat} {mru mth mcl : Nat → Int32} {t : Nat} {d : Int32} (h : ¬ fM nr nc mru mth mcl t d ≤ 0) : ¬ fM nr nc mru mth mcl t d = 0 := fun q => h (by rw [q]; decide)
theorem fM_0 {nr nc : Nat} {mru mth mcl : Nat → Int32} {t : Nat} {d : Int32} (h : fM nr nc mru mth mcl t d ≤ 0) : fM nr nc mru mth mcl t d = 0 := by
  rcases flt_pos (duA nr (col 3 0 mru) (col 3 1 mru) (col 4 1 mth) t d) (slA nr (col 3 0 mru) (col 3 2 mru) d) (szA nc (col 3 0 mcl) (col 3 1 mcl) (col 3 2 mcl) (col 4 2 mth) (grM (col 4 0 mth) (col 4 3 mth)) t d) (col 4 0 mth t) with q | q
  · exact q
  · exact absurd h q.2
end
section
set_option maxHeartbeats 8000000 in
set_option maxRecDepth 100000 in
/-- isWithin -/
theorem c_X4_isWithin (l : Launch) (D : va_G) (cI cZ cG : ClassId)  (sz : Nat) (x : Int32) (lo : Int32) (hi : Int32)  : Met l yX4_isWithin wsX4_isWithin ({ frames := 0, cells := 0, slots := 0, locals := 0 } : Room) (va_Pc [.int x, .int lo, .int hi] (PB D (tyL cI cZ cG) (([] : va_W)) sz)) (va_Qi (fun (r : Int32) (_ : Unit) => bo r (inR x lo hi = true)) (fun u => QB D (tyL cI cZ cG) (va_A (([] : va_W)) sz) ((fun (_ : Unit) => ([] : va_W)) u)) (va_A (([] : va_W)) sz)) 0 0 (va_A (([] : va_W)) sz) := by
  refine K_start (cc := cX4_isWithin) (maxL := 3) (ret := some .boolean) (Qc := fun A => va_Qi (fun (r : Int32) (_ : Unit) => bo r (inR x lo hi = true)) (fun u => QB D (tyL cI cZ cG) A ((fun (_ : Unit) => ([] : va_W)) u)) A) (by decide) rfl (Nat.le_of_ble_eq_true rfl) ?_
  intro p e s m below meth c ls A hx hb hml hr hts hown hlocks hin hN hP hK hD hA hS hl hsz
  have hl : lv_has ls 3 [(0, .int x), (1, .int lo), (2, .int hi)] := hl
  refine lv_iload_n hx hb dX4_isWithin_0 rfl (lv_at hl 0 rfl) ?_
  refine lv_iload_n hx hb dX4_isWithin_1 rfl (lv_at hl 1 rfl) ?_
  refine lv_icmp_lt (tgt := 14) hx hb dX4_isWithin_2 (by decide) (fun c1 => ?_) (fun c1 => ?_)
  · replace c1 := Int32.not_le.mpr c1
    refine lv_iconst (v := 0) hx hb dX4_isWithin_14 (by decide) ?_
    exact K_zret (wf := (fun (_ : Unit) => ([] : va_W))) () hx hb hr hlocks hP hK hD hS dX4_isWithin_15 rfl (Or.inr ⟨rfl, inR_f1 c1⟩)
  · replace c1 := Int32.not_lt.mp c1
    refine lv_iload_n hx hb dX4_isWithin_5 rfl (lv_at hl 0 rfl) ?_
    refine lv_iload_n hx hb dX4_isWithin_6 rfl (lv_at hl 2 rfl) ?_
    refine lv_icmp_gt (tgt := 14) hx hb dX4_isWithin_7 (by decide) (fun c2 => ?_) (fun c2 => ?_)
    · replace c2 := Int32.not_le.mpr c2
      refine lv_iconst (v := 0) hx hb dX4_isWithin_14 (by decide) ?_
      exact K_zret (wf := (fun (_ : Unit) => ([] : va_W))) () hx hb hr hlocks hP hK hD hS dX4_isWithin_15 rfl (Or.inr ⟨rfl, inR_f2 c2⟩)
    · replace c2 := Int32.not_lt.mp c2
      refine lv_iconst (v := 1) hx hb dX4_isWithin_10 (by decide) ?_
      refine lv_goto (tgt := 15) hx hb dX4_isWithin_11 (by decide) ?_
      exact K_zret (wf := (fun (_ : Unit) => ([] : va_W))) () hx hb hr hlocks hP hK hD hS dX4_isWithin_15 rfl (Or.inl ⟨rfl, inR_t c1 c2⟩)
set_option maxHeartbeats 8000000 in
set_option maxRecDepth 100000 in
/-- isDay -/
theorem c_X4_isDay (l : Launch) (D : va_G) (cI cZ cG : ClassId)  (sz : Nat) (x : Int32)  : Met l yX4_isDay wsX4_isDay ({ frames := 1, cells := 0, slots := 0, locals := 22 } : Room) (va_Pc [.int x] (PB D (tyL cI cZ cG) (([] : va_W)) sz)) (va_Qi (fun (r : Int32) (_ : Unit) => bo r (inR x 0 3000 = true)) (fun u => QB D (tyL cI cZ cG) (va_A (([] : va_W)) sz) ((fun (_ : Unit) => ([] : va_W)) u)) (va_A (([] : va_W)) sz)) 0 0 (va_A (([] : va_W)) sz) := by
  refine K_start (cc := cX4_isDay) (maxL := 1) (ret := some .boolean) (Qc := fun A => va_Qi (fun (r : Int32) (_ : Unit) => bo r (inR x 0 3000 = true)) (fun u => QB D (tyL cI cZ cG) A ((fun (_ : Unit) => ([] : va_W)) u)) A) (by decide) rfl (Nat.le_of_ble_eq_true rfl) ?_
  intro p e s m below meth c ls A hx hb hml hr hts hown hlocks hin hN hP hK hD hA hS hl hsz
  have hl : lv_has ls 1 [(0, .int x)] := hl
  refine lv_iload_n hx hb dX4_isDay_0 rfl (lv_at hl 0 rfl) ?_
  refine lv_iconst (v := 0) hx hb dX4_isDay_1 (by decide) ?_
  refine lv_sipush (v := 3000) hx hb dX4_isDay_2 (by decide) ?_
  refine K_none (va_runS (As := [.int x, .int 0, .int 3000]) (rest := []) ⟨hx, hb, hml, hown, hts⟩ (c_X4_isWithin l D cI cZ cG _ x 0 3000) (va_cwS 3 hts gX4_isDay_X4_isWithin rfl rfl rfl (by decide +kernel) ⟨(Nat.le_of_ble_eq_true rfl), (Nat.le_of_ble_eq_true rfl)⟩) (K_pre0 hN hK) rfl rfl hl.1 rfl (lv_room (Nat.le_of_ble_eq_true rfl)) dX4_isDay_5 ⟨Nat.zero_le _, Nat.zero_le _⟩) hP hS hA (fun r1 _ H locs hw1 hP hS => ?_)
  rcases hw1 with ⟨rfl, hw1⟩ | ⟨rfl, hw1⟩
  · skip
    exact K_zret (wf := (fun (_ : Unit) => ([] : va_W))) () hx hb hr hlocks hP hK hD hS dX4_isDay_8 rfl (Or.inl ⟨rfl, by assumption⟩)
  · skip
    exact K_zret (wf := (fun (_ : Unit) => ([] : va_W))) () hx hb hr hlocks hP hK hD hS dX4_isDay_8 rfl (Or.inr ⟨rfl, by assumption⟩)
set_option maxHeartbeats 8000000 in
set_option maxRecDepth 100000 in
/-- oneIf -/
theorem c_X4_oneIf (l : Launch) (D : va_G) (cI cZ cG : ClassId)  (sz : Nat) (x : Int32) (hx01 : x = 0 ∨ x = 1) : Met l yX4_oneIf wsX4_oneIf ({ frames := 0, cells := 0, slots := 0, locals := 0 } : Room) (va_Pc [.int x] (PB D (tyL cI cZ cG) (([] : va_W)) sz)) (va_Qi (fun (r : Int32) (_ : Unit) => r = x) (fun u => QB D (tyL cI cZ cG) (va_A (([] : va_W)) sz) ((fun (_ : Unit) => ([] : va_W)) u)) (va_A (([] : va_W)) sz)) 0 0 (va_A (([] : va_W)) sz) := by
  refine K_start (cc := cX4_oneIf) (maxL := 1) (ret := some .int) (Qc := fun A => va_Qi (fun (r : Int32) (_ : Unit) => r = x) (fun u => QB D (tyL cI cZ cG) A ((fun (_ : Unit) => ([] : va_W)) u)) A) (by decide) rfl (Nat.le_of_ble_eq_true rfl) ?_
  intro p e s m below meth c ls A hx hb hml hr hts hown hlocks hin hN hP hK hD hA hS hl hsz
  have hl : lv_has ls 1 [(0, .int x)] := hl
  refine lv_iload_n hx hb dX4_oneIf_0 rfl (lv_at hl 0 rfl) ?_
  refine lv_if_eq (tgt := 8) hx hb dX4_oneIf_1 (by decide) (fun c1 => ?_) (fun c1 => ?_)
  · have c1 : x = 0 := c1
    refine lv_iconst (v := 0) hx hb dX4_oneIf_8 (by decide) ?_
    exact K_iret (wf := (fun (_ : Unit) => ([] : va_W))) () hx hb hr hlocks hP hK hD hS dX4_oneIf_9 (by rw [c1])
  · have c1 : x = 1 := hx01.resolve_left c1
    refine lv_iconst (v := 1) hx hb dX4_oneIf_4 (by decide) ?_
    refine lv_goto (tgt := 9) hx hb dX4_oneIf_5 (by decide) ?_
    exact K_iret (wf := (fun (_ : Unit) => ([] : va_W))) () hx hb hr hlocks hP hK hD hS dX4_oneIf_9 (by rw [c1])
theorem inX3_isThing : ∀ w ∈ wsX30, w ∈ wsX3_isThing := by decide +kernel
set_option maxHeartbeats 8000000 in
set_option maxRecDepth 100000 in
/-- isThing -/
theorem c_X3_isThing (l : Launch) (D : va_G) (cI cZ cG : ClassId) (h3 : Nat) (a3 : Nat → Nat) (sz : Nat) (nr : Nat) (nt : Nat) (nc : Nat) (rd : Nat → Int32) (rr : Nat → Int32) (rs : Nat → Int32) (so : Nat → Int32) (tr : Nat → Int32) (si : Nat → Int32) (gr : Nat → Int32) (ct : Nat → Int32) (cd : Nat → Int32) (cs : Nat → Int32) (x : Int32) (hnr : nr ≤ 6) (hnt : nt ≤ 20) (hnc : nc ≤ 60) : Met l yX3_isThing wsX3_isThing ({ frames := 1, cells := 0, slots := 0, locals := 22 } : Room) (va_Pc [.ref h3, .int x] (PB D (tyL cI cZ cG) (wX3 cI cZ cG h3 a3 (nI nr) (nI nt) (nI nc) rd rr rs so tr si gr ct cd cs) sz)) (va_Qi (fun (r : Int32) (_ : Unit) => bo r (inR x 0 (nI nt - 1) = true)) (fun u => QB D (tyL cI cZ cG) (va_A (wX3 cI cZ cG h3 a3 (nI nr) (nI nt) (nI nc) rd rr rs so tr si gr ct cd cs) sz) ((fun (_ : Unit) => wX3 cI cZ cG h3 a3 (nI nr) (nI nt) (nI nc) rd rr rs so tr si gr ct cd cs) u)) (va_A (wX3 cI cZ cG h3 a3 (nI nr) (nI nt) (nI nc) rd rr rs so tr si gr ct cd cs) sz)) 0 0 (va_A (wX3 cI cZ cG h3 a3 (nI nr) (nI nt) (nI nc) rd rr rs so tr si gr ct cd cs) sz) := by
  refine K_start (cc := cX3_isThing) (maxL := 2) (ret := some .boolean) (Qc := fun A => va_Qi (fun (r : Int32) (_ : Unit) => bo r (inR x 0 (nI nt - 1) = true)) (fun u => QB D (tyL cI cZ cG) A ((fun (_ : Unit) => wX3 cI cZ cG h3 a3 (nI nr) (nI nt) (nI nc) rd rr rs so tr si gr ct cd cs) u)) A) (by decide) rfl (Nat.le_of_ble_eq_true rfl) ?_
  intro p e s m below meth c ls A hx hb hml hr hts hown hlocks hin hN hP hK hD hA hS hl hsz
  have hl : lv_has ls 2 [(0, .ref h3), (1, .int x)] := hl
  have fl62 := hts (.fieldLink RX3 62 "ModelTown$Scale" "things" "I") (by decide +kernel)
  refine lv_iload_n hx hb dX3_isThing_0 rfl (lv_at hl 1 rfl) ?_
  refine lv_iconst (v := 0) hx hb dX3_isThing_1 (by decide) ?_
  refine lv_aload_n hx hb dX3_isThing_2 rfl (lv_at hl 0 rfl) ?_
  refine va_get (D := D) (ci := 3) (v := .int (nI nt)) (C := RX3) (T := TX3) (N := 13) hx hb hts inX3_isThing hown hK hP 0 rfl rfl 8 (by decide) fl62 (fun _ h9 => h9) rfl dX3_isThing_3 ?_
  refine lv_iconst (v := 1) hx hb dX3_isThing_6 (by decide) ?_
  refine lv_isub hx hb dX3_isThing_7 ?_
  refine K_none (va_runSN (As := [.int x, .int 0, .int ((nI nt) - 1)]) (rest := []) ⟨hx, hb, hml, hown, hts⟩ (c_X4_isWithin l D cI cZ cG _ x 0 ((nI nt) - 1)) ⟨va_cnB (host := "ModelTown") 3 hts gX3_isThing_X4_isWithin_n46 rfl rfl rfl hN.2.2.2.2.2.2.2.1 (hts (.initialized RX4) (by decide +kernel)) (by decide +kernel) ⟨(Nat.le_of_ble_eq_true rfl), (Nat.le_of_ble_eq_true rfl)⟩, hts (.static yX4_isWithin) (by decide +kernel), trivial⟩ (K_pre0 hN hK) rfl rfl hl.1 rfl (lv_room (Nat.le_of_ble_eq_true rfl)) dX3_isThing_8 ⟨Nat.zero_le _, Nat.zero_le _⟩) hP hS hA (fun r1 _ H locs hw1 hP hS => ?_)
  rcases hw1 with ⟨rfl, hw1⟩ | ⟨rfl, hw1⟩
  · skip
    exact K_zret (wf := (fun (_ : Unit) => wX3 cI cZ cG h3 a3 (nI nr) (nI nt) (nI nc) rd rr rs so tr si gr ct cd cs)) () hx hb hr hlocks hP hK hD hS dX3_isThing_11 rfl (Or.inl ⟨rfl, by assumption⟩)
  · skip
    exact K_zret (wf := (fun (_ : Unit) => wX3 cI cZ cG h3 a3 (nI nr) (nI nt) (nI nc) rd rr rs so tr si gr ct cd cs)) () hx hb hr hlocks hP hK hD hS dX3_isThing_11 rfl (Or.inr ⟨rfl, by assumption⟩)
theorem inX3_ruleOn : ∀ w ∈ wsX30, w ∈ wsX3_ruleOn := by decide +kernel
set_option maxHeartbeats 8000000 in
set_option maxRecDepth 100000 in
/-- ruleOn: the rule in force -/
theorem c_X3_ruleOn (l : Launch) (D : va_G) (cI cZ cG : ClassId) (h3 : Nat) (a3 : Nat → Nat) (sz : Nat) (nr : Nat) (nt : Nat) (nc : Nat) (rd : Nat → Int32) (rr : Nat → Int32) (rs : Nat → Int32) (so : Nat → Int32) (tr : Nat → Int32) (si : Nat → Int32) (gr : Nat → Int32) (ct : Nat → Int32) (cd : Nat → Int32) (cs : Nat → Int32) (d : Int32) (hnr : nr ≤ 6) (hnt : nt ≤ 20) (hnc : nc ≤ 60) : Met l yX3_ruleOn wsX3_ruleOn ({ frames := 0, cells := 0, slots := 0, locals := 0 } : Room) (va_Pc [.ref h3, .int d] (PB D (tyL cI cZ cG) (wX3 cI cZ cG h3 a3 (nI nr) (nI nt) (nI nc) rd rr rs so tr si gr ct cd cs) sz)) (va_Qi (fun (r : Int32) (_ : Unit) => r = oI (bR rd d nr)) (fun u => QB D (tyL cI cZ cG) (va_A (wX3 cI cZ cG h3 a3 (nI nr) (nI nt) (nI nc) rd rr rs so tr si gr ct cd cs) sz) ((fun (_ : Unit) => wX3 cI cZ cG h3 a3 (nI nr) (nI nt) (nI nc) rd rr rs so tr si gr ct cd cs) u)) (va_A (wX3 cI cZ cG h3 a3 (nI nr) (nI nt) (nI nc) rd rr rs so tr si gr ct cd cs) sz)) 0 0 (va_A (wX3 cI cZ cG h3 a3 (nI nr) (nI nt) (nI nc) rd rr rs so tr si gr ct cd cs) sz) := by
  refine K_start (cc := cX3_ruleOn) (maxL := 4) (ret := some .int) (Qc := fun A => va_Qi (fun (r : Int32) (_ : Unit) => r = oI (bR rd d nr)) (fun u => QB D (tyL cI cZ cG) A ((fun (_ : Unit) => wX3 cI cZ cG h3 a3 (nI nr) (nI nt) (nI nc) rd rr rs so tr si gr ct cd cs) u)) A) (by decide) rfl (Nat.le_of_ble_eq_true rfl) ?_
  intro p e s m below meth c ls A hx hb hml hr hts hown hlocks hin hN hP hK hD hA hS hl hsz
  have hl : lv_has ls 4 [(0, .ref h3), (1, .int d)] := hl
  have fl50 := hts (.fieldLink RX3 50 "ModelTown$Scale" "rules" "I") (by decide +kernel)
  have fl11 := hts (.fieldLink RX3 11 "ModelTown$Scale" "ruleDay" "[I") (by decide +kernel)
  refine lv_bipush (v := (-6)) hx hb dX3_ruleOn_0 (by decide) ?_
  refine lv_istore_n (lv' := [(2, .int (-6)), (0, .ref h3), (1, .int d)]) hx hb dX3_ruleOn_2 rfl hl (by decide) rfl (fun ls hl => ?_)
  refine lv_iconst (v := 0) hx hb dX3_ruleOn_3 (by decide) ?_
  refine lv_istore_n (lv' := [(3, .int 0), (2, .int (-6)), (0, .ref h3), (1, .int d)]) hx hb dX3_ruleOn_4 rfl hl (by decide) rfl (fun ls hl => ?_)
  refine loopW2 (fun (k : Nat) (o : Option Nat) H locs ls => (k ≤ nr) ∧ (o = bR rd d k) ∧ va_P D vwCl (wX3 cI cZ cG h3 a3 (nI nr) (nI nt) (nI nc) rd rr rs so tr si gr ct cd cs) H ∧ va_D A (wX3 cI cZ cG h3 a3 (nI nr) (nI nt) (nI nc) rd rr rs so tr si gr ct cd cs) ∧ va_S A s.heap H locs ∧ lv_has ls 4 [(3, .int (nI k)), (2, .int (oI o)), (0, .ref h3), (1, .int d)]) (fun (k : Nat) (o : Option Nat) => nr - k) (fun k o H locs ls hI ih5 => ?_) 0 none _ _ _ ⟨(by omega), rfl, hP, hD, hS, lv_sub hl [0, 1, 2, 3] rfl⟩
  obtain ⟨hk, ho, hP, hD, hS, hl⟩ := hI
  refine lv_iload_n hx hb dX3_ruleOn_5 rfl (lv_at hl 0 rfl) ?_
  refine lv_aload_n hx hb dX3_ruleOn_6 rfl (lv_at hl 2 rfl) ?_
  refine va_get (D := D) (ci := 3) (v := .int (nI nr)) (C := RX3) (T := TX3) (N := 13) hx hb hts inX3_ruleOn hown hK hP 0 rfl rfl 3 (by decide) fl50 (fun _ h9 => h9) rfl dX3_ruleOn_7 ?_
  refine lv_icmp_ge (tgt := 52) hx hb dX3_ruleOn_10 (by decide) (fun c1 => ?_) (fun c1 => ?_)
  · have c1 : nr ≤ k := (nI_leI (a := nr) (b := k) (by omega) (by omega)).mp c1
    have ek : k = nr := by omega
    rw [ek] at ho
    refine lv_iload_n hx hb dX3_ruleOn_52 rfl (lv_at hl 1 rfl) ?_
    exact K_iret (wf := (fun (_ : Unit) => wX3 cI cZ cG h3 a3 (nI nr) (nI nt) (nI nc) rd rr rs so tr si gr ct cd cs)) () hx hb hr hlocks hP hK hD hS dX3_ruleOn_53 (congrArg oI ho)
  · have c1 : ¬ nr ≤ k := fun hq => c1 ((nI_leI (a := nr) (b := k) (by omega) (by omega)).mpr hq)
    rcases o with _ | b
    · have hl : lv_has ls 4 [(3, .int (nI k)), (2, .int (-6)), (0, .ref h3), (1, .int d)] := hl
      refine lv_aload_n hx hb dX3_ruleOn_13 rfl (lv_at hl 2 rfl) ?_
      refine va_get (D := D) (ci := 3) (v := .ref (a3 0)) (C := RX3) (T := TX3) (N := 13) hx hb hts inX3_ruleOn hown hK hP 0 rfl rfl 0 (by decide) fl11 (fun _ h9 => h9) rfl dX3_ruleOn_14 ?_
      refine lv_iload_n hx hb dX3_ruleOn_17 rfl (lv_at hl 0 rfl) ?_
      refine K_iald hx hb hK hP 1 0 rfl rfl k (by omega) (Nat.le_of_ble_eq_true rfl) dX3_ruleOn_18 ?_
      refine lv_iload_n hx hb dX3_ruleOn_19 rfl (lv_at hl 3 rfl) ?_
      refine lv_icmp_gt (tgt := 46) hx hb dX3_ruleOn_20 (by decide) (fun c2 => ?_) (fun c2 => ?_)
      · replace c2 := Int32.not_le.mpr c2
        refine lv_iinc (v := nI (k + 1)) (lv' := [(3, .int (nI (k + 1))), (2, .int (-6)), (0, .ref h3), (1, .int d)]) hx hb dX3_ruleOn_46 hl (k := 0) rfl (inc1 _) (by decide) rfl (fun ls hl => ?_)
        refine lv_goto (tgt := 5) hx hb dX3_ruleOn_49 (by decide) ?_
        exact ih5 (k + 1) none _ _ _ ⟨(by omega), (by simp [bR, ← ho, c1, c2]), hP, hD, hS, lv_sub hl [0, 1, 2, 3] rfl⟩ (by omega)
      · replace c2 := Int32.not_lt.mp c2
        refine lv_iload_n hx hb dX3_ruleOn_23 rfl (lv_at hl 1 rfl) ?_
        refine lv_bipush (v := (-6)) hx hb dX3_ruleOn_24 (by decide) ?_
        refine lv_icmp_eq (tgt := 44) hx hb dX3_ruleOn_26 (by decide) (fun _ => ?_) (fun c3 => absurd c3 (by decide))
        refine lv_iload_n hx hb dX3_ruleOn_44 rfl (lv_at hl 0 rfl) ?_
        refine lv_istore_n (lv' := [(2, .int (nI k)), (3, .int (nI k)), (0, .ref h3), (1, .int d)]) hx hb dX3_ruleOn_45 rfl hl (by decide) rfl (fun ls hl => ?_)
        refine lv_iinc (v := nI (k + 1)) (lv' := [(3, .int (nI (k + 1))), (2, .int (nI k)), (0, .ref h3), (1, .int d)]) hx hb dX3_ruleOn_46 hl (k := 1) rfl (inc1 _) (by decide) rfl (fun ls hl => ?_)
        refine lv_goto (tgt := 5) hx hb dX3_ruleOn_49 (by decide) ?_
        exact ih5 (k + 1) (some k) _ _ _ ⟨(by omega), (by simp [bR, ← ho, c1, c2]), hP, hD, hS, lv_sub hl [0, 1, 2, 3] rfl⟩ (by omega)
    · have hl : lv_has ls 4 [(3, .int (nI k)), (2, .int (nI b)), (0, .ref h3), (1, .int d)] := hl
      have hbb := bR_lt ho.symm
      refine lv_aload_n hx hb dX3_ruleOn_13 rfl (lv_at hl 2 rfl) ?_
      refine va_get (D := D) (ci := 3) (v := .ref (a3 0)) (C := RX3) (T := TX3) (N := 13) hx hb hts inX3_ruleOn hown hK hP 0 rfl rfl 0 (by decide) fl11 (fun _ h9 => h9) rfl dX3_ruleOn_14 ?_
      refine lv_iload_n hx hb dX3_ruleOn_17 rfl (lv_at hl 0 rfl) ?_
      refine K_iald hx hb hK hP 1 0 rfl rfl k (by omega) (Nat.le_of_ble_eq_true rfl) dX3_ruleOn_18 ?_
      refine lv_iload_n hx hb dX3_ruleOn_19 rfl (lv_at hl 3 rfl) ?_
      refine lv_icmp_gt (tgt := 46) hx hb dX3_ruleOn_20 (by decide) (fun c4 => ?_) (fun c4 => ?_)
      · replace c4 := Int32.not_le.mpr c4
        refine lv_iinc (v := nI (k + 1)) (lv' := [(3, .int (nI (k + 1))), (2, .int (nI b)), (0, .ref h3), (1, .int d)]) hx hb dX3_ruleOn_46 hl (k := 0) rfl (inc1 _) (by decide) rfl (fun ls hl => ?_)
        refine lv_goto (tgt := 5) hx hb dX3_ruleOn_49 (by decide) ?_
        exact ih5 (k + 1) (some b) _ _ _ ⟨(by omega), (by simp [bR, ← ho, c1, c4]), hP, hD, hS, lv_sub hl [0, 1, 2, 3] rfl⟩ (by omega)
      · replace c4 := Int32.not_lt.mp c4
        refine lv_iload_n hx hb dX3_ruleOn_23 rfl (lv_at hl 1 rfl) ?_
        refine lv_bipush (v := (-6)) hx hb dX3_ruleOn_24 (by decide) ?_
        refine lv_icmp_eq (tgt := 44) hx hb dX3_ruleOn_26 (by decide) (fun c5 => absurd c5 (nI_neN (by omega) (by decide))) (fun c5 => ?_)
        refine lv_aload_n hx hb dX3_ruleOn_29 rfl (lv_at hl 2 rfl) ?_
        refine va_get (D := D) (ci := 3) (v := .ref (a3 0)) (C := RX3) (T := TX3) (N := 13) hx hb hts inX3_ruleOn hown hK hP 0 rfl rfl 0 (by decide) fl11 (fun _ h9 => h9) rfl dX3_ruleOn_30 ?_
        refine lv_iload_n hx hb dX3_ruleOn_33 rfl (lv_at hl 0 rfl) ?_
        refine K_iald hx hb hK hP 1 0 rfl rfl k (by omega) (Nat.le_of_ble_eq_true rfl) dX3_ruleOn_34 ?_
        refine lv_aload_n hx hb dX3_ruleOn_35 rfl (lv_at hl 2 rfl) ?_
        refine va_get (D := D) (ci := 3) (v := .ref (a3 0)) (C := RX3) (T := TX3) (N := 13) hx hb hts inX3_ruleOn hown hK hP 0 rfl rfl 0 (by decide) fl11 (fun _ h9 => h9) rfl dX3_ruleOn_36 ?_
        refine lv_iload_n hx hb dX3_ruleOn_39 rfl (lv_at hl 1 rfl) ?_
        refine K_iald hx hb hK hP 1 0 rfl rfl b (by omega) (Nat.le_of_ble_eq_true rfl) dX3_ruleOn_40 ?_
        refine lv_icmp_lt (tgt := 46) hx hb dX3_ruleOn_41 (by decide) (fun c6 => ?_) (fun c6 => ?_)
        · replace c6 := Int32.not_le.mpr c6
          refine lv_iinc (v := nI (k + 1)) (lv' := [(3, .int (nI (k + 1))), (2, .int (nI b)), (0, .ref h3), (1, .int d)]) hx hb dX3_ruleOn_46 hl (k := 0) rfl (inc1 _) (by decide) rfl (fun ls hl => ?_)
          refine lv_goto (tgt := 5) hx hb dX3_ruleOn_49 (by decide) ?_
          exact ih5 (k + 1) (some b) _ _ _ ⟨(by omega), (by simp [bR, ← ho, c1, c4, c6]), hP, hD, hS, lv_sub hl [0, 1, 2, 3] rfl⟩ (by omega)
        · replace c6 := Int32.not_lt.mp c6
          refine lv_iload_n hx hb dX3_ruleOn_44 rfl (lv_at hl 0 rfl) ?_
          refine lv_istore_n (lv' := [(2, .int (nI k)), (3, .int (nI k)), (0, .ref h3), (1, .int d)]) hx hb dX3_ruleOn_45 rfl hl (by decide) rfl (fun ls hl => ?_)
          refine lv_iinc (v := nI (k + 1)) (lv' := [(3, .int (nI (k + 1))), (2, .int (nI k)), (0, .ref h3), (1, .int d)]) hx hb dX3_ruleOn_46 hl (k := 1) rfl (inc1 _) (by decide) rfl (fun ls hl => ?_)
          refine lv_goto (tgt := 5) hx hb dX3_ruleOn_49 (by decide) ?_
          exact ih5 (k + 1) (some k) _ _ _ ⟨(by omega), (by simp [bR, ← ho, c1, c4, c6]), hP, hD, hS, lv_sub hl [0, 1, 2, 3] rfl⟩ (by omega)
theorem inX3_ratioOn : ∀ w ∈ wsX30, w ∈ wsX3_ratioOn := by decide +kernel
set_option maxHeartbeats 8000000 in
set_option maxRecDepth 100000 in
/-- ratioOn -/
theorem c_X3_ratioOn (l : Launch) (D : va_G) (cI cZ cG : ClassId) (h3 : Nat) (a3 : Nat → Nat) (sz : Nat) (nr : Nat) (nt : Nat) (nc : Nat) (rd : Nat → Int32) (rr : Nat → Int32) (rs : Nat → Int32) (so : Nat → Int32) (tr : Nat → Int32) (si : Nat → Int32) (gr : Nat → Int32) (ct : Nat → Int32) (cd : Nat → Int32) (cs : Nat → Int32) (d : Int32) (hnr : nr ≤ 6) (hnt : nt ≤ 20) (hnc : nc ≤ 60) : Met l yX3_ratioOn wsX3_ratioOn ({ frames := 1, cells := 0, slots := 0, locals := 23 } : Room) (va_Pc [.ref h3, .int d] (PB D (tyL cI cZ cG) (wX3 cI cZ cG h3 a3 (nI nr) (nI nt) (nI nc) rd rr rs so tr si gr ct cd cs) sz)) (va_Qi (fun (r : Int32) (_ : Unit) => r = raA nr rd rr d) (fun u => QB D (tyL cI cZ cG) (va_A (wX3 cI cZ cG h3 a3 (nI nr) (nI nt) (nI nc) rd rr rs so tr si gr ct cd cs) sz) ((fun (_ : Unit) => wX3 cI cZ cG h3 a3 (nI nr) (nI nt) (nI nc) rd rr rs so tr si gr ct cd cs) u)) (va_A (wX3 cI cZ cG h3 a3 (nI nr) (nI nt) (nI nc) rd rr rs so tr si gr ct cd cs) sz)) 0 0 (va_A (wX3 cI cZ cG h3 a3 (nI nr) (nI nt) (nI nc) rd rr rs so tr si gr ct cd cs) sz) := by
  refine K_start (cc := cX3_ratioOn) (maxL := 3) (ret := some .int) (Qc := fun A => va_Qi (fun (r : Int32) (_ : Unit) => r = raA nr rd rr d) (fun u => QB D (tyL cI cZ cG) A ((fun (_ : Unit) => wX3 cI cZ cG h3 a3 (nI nr) (nI nt) (nI nc) rd rr rs so tr si gr ct cd cs) u)) A) (by decide) rfl (Nat.le_of_ble_eq_true rfl) ?_
  intro p e s m below meth c ls A hx hb hml hr hts hown hlocks hin hN hP hK hD hA hS hl hsz
  have hl : lv_has ls 3 [(0, .ref h3), (1, .int d)] := hl
  have fl15 := hts (.fieldLink RX3 15 "ModelTown$Scale" "ruleRatio" "[I") (by decide +kernel)
  refine lv_aload_n hx hb dX3_ratioOn_0 rfl (lv_at hl 0 rfl) ?_
  refine lv_iload_n hx hb dX3_ratioOn_1 rfl (lv_at hl 1 rfl) ?_
  refine K_same (va_runV (As := [.int d]) (rest := []) ⟨hx, hb, hml, hown, hts⟩ (c_X3_ruleOn l D cI cZ cG h3 a3 _ nr nt nc rd rr rs so tr si gr ct cd cs d hnr hnt hnc) (cwV 1 hts gX3_ratioOn_X3_ruleOn rfl rfl rfl (by decide +kernel) ⟨(Nat.le_of_ble_eq_true rfl), (Nat.le_of_ble_eq_true rfl)⟩) ⟨PB_blind, va_recv hK hP (ci := 3) (q0 := 0) rfl rfl, (K_preS hN hK hP hD).2⟩ rfl rfl hl.1 rfl (lv_room (Nat.le_of_ble_eq_true rfl)) dX3_ratioOn_2 ⟨Nat.zero_le _, Nat.zero_le _⟩) hD hS hA (fun r1 u H locs hw1 hP hD hS => ?_)
  have hP : va_P D vwCl (wX3 cI cZ cG h3 a3 (nI nr) (nI nt) (nI nc) rd rr rs so tr si gr ct cd cs) H := hP
  have hD : va_D A (wX3 cI cZ cG h3 a3 (nI nr) (nI nt) (nI nc) rd rr rs so tr si gr ct cd cs) := hD
  rcases ho1 : bR rd d nr with _ | b1
  · rw [ho1] at hw1
    obtain rfl : r1 = -6 := hw1
    refine lv_istore_n (lv' := [(2, .int (-6)), (0, .ref h3), (1, .int d)]) hx hb dX3_ratioOn_5 rfl hl (by decide) rfl (fun ls hl => ?_)
    refine lv_iload_n hx hb dX3_ratioOn_6 rfl (lv_at hl 0 rfl) ?_
    refine lv_bipush (v := (-6)) hx hb dX3_ratioOn_7 (by decide) ?_
    refine lv_icmp_ne (tgt := 17) hx hb dX3_ratioOn_9 (by decide) (fun c2 => absurd c2 (by decide)) (fun _ => ?_)
    refine lv_bipush (v := 12) hx hb dX3_ratioOn_12 (by decide) ?_
    refine lv_goto (tgt := 23) hx hb dX3_ratioOn_14 (by decide) ?_
    exact K_iret (wf := (fun (_ : Unit) => wX3 cI cZ cG h3 a3 (nI nr) (nI nt) (nI nc) rd rr rs so tr si gr ct cd cs)) () hx hb hr hlocks hP hK hD hS dX3_ratioOn_23 (by rw [raA, ho1]; rfl)
  · rw [ho1] at hw1
    obtain rfl : r1 = nI b1 := hw1
    have hbb := bR_lt ho1
    refine lv_istore_n (lv' := [(2, .int (nI b1)), (0, .ref h3), (1, .int d)]) hx hb dX3_ratioOn_5 rfl hl (by decide) rfl (fun ls hl => ?_)
    refine lv_iload_n hx hb dX3_ratioOn_6 rfl (lv_at hl 0 rfl) ?_
    refine lv_bipush (v := (-6)) hx hb dX3_ratioOn_7 (by decide) ?_
    refine lv_icmp_ne (tgt := 17) hx hb dX3_ratioOn_9 (by decide) (fun c3 => ?_) (fun c3 => absurd c3 (nI_neN (by omega) (by decide)))
    refine lv_aload_n hx hb dX3_ratioOn_17 rfl (lv_at hl 1 rfl) ?_
    refine va_get (D := D) (ci := 3) (v := .ref (a3 1)) (C := RX3) (T := TX3) (N := 13) hx hb hts inX3_ratioOn hown hK hP 0 rfl rfl 1 (by decide) fl15 (fun _ h9 => h9) rfl dX3_ratioOn_18 ?_
    refine lv_iload_n hx hb dX3_ratioOn_21 rfl (lv_at hl 0 rfl) ?_
    refine K_iald hx hb hK hP 2 0 rfl rfl b1 (by omega) (Nat.le_of_ble_eq_true rfl) dX3_ratioOn_22 ?_
    exact K_iret (wf := (fun (_ : Unit) => wX3 cI cZ cG h3 a3 (nI nr) (nI nt) (nI nc) rd rr rs so tr si gr ct cd cs)) () hx hb hr hlocks hP hK hD hS dX3_ratioOn_23 (by rw [raA, ho1]; rfl)
theorem inX3_slackOn : ∀ w ∈ wsX30, w ∈ wsX3_slackOn := by decide +kernel
set_option maxHeartbeats 8000000 in
set_option maxRecDepth 100000 in
/-- slackOn -/
theorem c_X3_slackOn (l : Launch) (D : va_G) (cI cZ cG : ClassId) (h3 : Nat) (a3 : Nat → Nat) (sz : Nat) (nr : Nat) (nt : Nat) (nc : Nat) (rd : Nat → Int32) (rr : Nat → Int32) (rs : Nat → Int32) (so : Nat → Int32) (tr : Nat → Int32) (si : Nat → Int32) (gr : Nat → Int32) (ct : Nat → Int32) (cd : Nat → Int32) (cs : Nat → Int32) (d : Int32) (hnr : nr ≤ 6) (hnt : nt ≤ 20) (hnc : nc ≤ 60) : Met l yX3_slackOn wsX3_slackOn ({ frames := 1, cells := 0, slots := 0, locals := 23 } : Room) (va_Pc [.ref h3, .int d] (PB D (tyL cI cZ cG) (wX3 cI cZ cG h3 a3 (nI nr) (nI nt) (nI nc) rd rr rs so tr si gr ct cd cs) sz)) (va_Qi (fun (r : Int32) (_ : Unit) => r = slA nr rd rs d) (fun u => QB D (tyL cI cZ cG) (va_A (wX3 cI cZ cG h3 a3 (nI nr) (nI nt) (nI nc) rd rr rs so tr si gr ct cd cs) sz) ((fun (_ : Unit) => wX3 cI cZ cG h3 a3 (nI nr) (nI nt) (nI nc) rd rr rs so tr si gr ct cd cs) u)) (va_A (wX3 cI cZ cG h3 a3 (nI nr) (nI nt) (nI nc) rd rr rs so tr si gr ct cd cs) sz)) 0 0 (va_A (wX3 cI cZ cG h3 a3 (nI nr) (nI nt) (nI nc) rd rr rs so tr si gr ct cd cs) sz) := by
  refine K_start (cc := cX3_slackOn) (maxL := 3) (ret := some .int) (Qc := fun A => va_Qi (fun (r : Int32) (_ : Unit) => r = slA nr rd rs d) (fun u => QB D (tyL cI cZ cG) A ((fun (_ : Unit) => wX3 cI cZ cG h3 a3 (nI nr) (nI nt) (nI nc) rd rr rs so tr si gr ct cd cs) u)) A) (by decide) rfl (Nat.le_of_ble_eq_true rfl) ?_
  intro p e s m below meth c ls A hx hb hml hr hts hown hlocks hin hN hP hK hD hA hS hl hsz
  have hl : lv_has ls 3 [(0, .ref h3), (1, .int d)] := hl
  have fl18 := hts (.fieldLink RX3 18 "ModelTown$Scale" "ruleSlack" "[I") (by decide +kernel)
  refine lv_aload_n hx hb dX3_slackOn_0 rfl (lv_at hl 0 rfl) ?_
  refine lv_iload_n hx hb dX3_slackOn_1 rfl (lv_at hl 1 rfl) ?_
  refine K_same (va_runV (As := [.int d]) (rest := []) ⟨hx, hb, hml, hown, hts⟩ (c_X3_ruleOn l D cI cZ cG h3 a3 _ nr nt nc rd rr rs so tr si gr ct cd cs d hnr hnt hnc) (cwV 1 hts gX3_slackOn_X3_ruleOn rfl rfl rfl (by decide +kernel) ⟨(Nat.le_of_ble_eq_true rfl), (Nat.le_of_ble_eq_true rfl)⟩) ⟨PB_blind, va_recv hK hP (ci := 3) (q0 := 0) rfl rfl, (K_preS hN hK hP hD).2⟩ rfl rfl hl.1 rfl (lv_room (Nat.le_of_ble_eq_true rfl)) dX3_slackOn_2 ⟨Nat.zero_le _, Nat.zero_le _⟩) hD hS hA (fun r1 u H locs hw1 hP hD hS => ?_)
  have hP : va_P D vwCl (wX3 cI cZ cG h3 a3 (nI nr) (nI nt) (nI nc) rd rr rs so tr si gr ct cd cs) H := hP
  have hD : va_D A (wX3 cI cZ cG h3 a3 (nI nr) (nI nt) (nI nc) rd rr rs so tr si gr ct cd cs) := hD
  rcases ho1 : bR rd d nr with _ | b1
  · rw [ho1] at hw1
    obtain rfl : r1 = -6 := hw1
    refine lv_istore_n (lv' := [(2, .int (-6)), (0, .ref h3), (1, .int d)]) hx hb dX3_slackOn_5 rfl hl (by decide) rfl (fun ls hl => ?_)
    refine lv_iload_n hx hb dX3_slackOn_6 rfl (lv_at hl 0 rfl) ?_
    refine lv_bipush (v := (-6)) hx hb dX3_slackOn_7 (by decide) ?_
    refine lv_icmp_ne (tgt := 17) hx hb dX3_slackOn_9 (by decide) (fun c2 => absurd c2 (by decide)) (fun _ => ?_)
    refine lv_bipush (v := 10) hx hb dX3_slackOn_12 (by decide) ?_
    refine lv_goto (tgt := 23) hx hb dX3_slackOn_14 (by decide) ?_
    exact K_iret (wf := (fun (_ : Unit) => wX3 cI cZ cG h3 a3 (nI nr) (nI nt) (nI nc) rd rr rs so tr si gr ct cd cs)) () hx hb hr hlocks hP hK hD hS dX3_slackOn_23 (by rw [slA, ho1]; rfl)
  · rw [ho1] at hw1
    obtain rfl : r1 = nI b1 := hw1
    have hbb := bR_lt ho1
    refine lv_istore_n (lv' := [(2, .int (nI b1)), (0, .ref h3), (1, .int d)]) hx hb dX3_slackOn_5 rfl hl (by decide) rfl (fun ls hl => ?_)
    refine lv_iload_n hx hb dX3_slackOn_6 rfl (lv_at hl 0 rfl) ?_
    refine lv_bipush (v := (-6)) hx hb dX3_slackOn_7 (by decide) ?_
    refine lv_icmp_ne (tgt := 17) hx hb dX3_slackOn_9 (by decide) (fun c3 => ?_) (fun c3 => absurd c3 (nI_neN (by omega) (by decide)))
    refine lv_aload_n hx hb dX3_slackOn_17 rfl (lv_at hl 1 rfl) ?_
    refine va_get (D := D) (ci := 3) (v := .ref (a3 2)) (C := RX3) (T := TX3) (N := 13) hx hb hts inX3_slackOn hown hK hP 0 rfl rfl 2 (by decide) fl18 (fun _ h9 => h9) rfl dX3_slackOn_18 ?_
    refine lv_iload_n hx hb dX3_slackOn_21 rfl (lv_at hl 0 rfl) ?_
    refine K_iald hx hb hK hP 3 0 rfl rfl b1 (by omega) (Nat.le_of_ble_eq_true rfl) dX3_slackOn_22 ?_
    exact K_iret (wf := (fun (_ : Unit) => wX3 cI cZ cG h3 a3 (nI nr) (nI nt) (nI nc) rd rr rs so tr si gr ct cd cs)) () hx hb hr hlocks hP hK hD hS dX3_slackOn_23 (by rw [slA, ho1]; rfl)
set_option maxHeartbeats 8000000 in
set_option maxRecDepth 100000 in
/-- inForce -/
theorem c_X3_inForce (l : Launch) (D : va_G) (cI cZ cG : ClassId) (h3 : Nat) (a3 : Nat → Nat) (sz : Nat) (nr : Nat) (nt : Nat) (nc : Nat) (rd : Nat → Int32) (rr : Nat → Int32) (rs : Nat → Int32) (so : Nat → Int32) (tr : Nat → Int32) (si : Nat → Int32) (gr : Nat → Int32) (ct : Nat → Int32) (cd : Nat → Int32) (cs : Nat → Int32) (d : Int32) (w : Int32) (hnr : nr ≤ 6) (hnt : nt ≤ 20) (hnc : nc ≤ 60) : Met l yX3_inForce wsX3_inForce ({ frames := 2, cells := 0, slots := 0, locals := 45 } : Room) (va_Pc [.ref h3, .int d, .int w] (PB D (tyL cI cZ cG) (wX3 cI cZ cG h3 a3 (nI nr) (nI nt) (nI nc) rd rr rs so tr si gr ct cd cs) sz)) (va_Qi (fun (r : Int32) (_ : Unit) => r = rForce nr rd rr rs d w) (fun u => QB D (tyL cI cZ cG) (va_A (wX3 cI cZ cG h3 a3 (nI nr) (nI nt) (nI nc) rd rr rs so tr si gr ct cd cs) sz) ((fun (_ : Unit) => wX3 cI cZ cG h3 a3 (nI nr) (nI nt) (nI nc) rd rr rs so tr si gr ct cd cs) u)) (va_A (wX3 cI cZ cG h3 a3 (nI nr) (nI nt) (nI nc) rd rr rs so tr si gr ct cd cs) sz)) 0 0 (va_A (wX3 cI cZ cG h3 a3 (nI nr) (nI nt) (nI nc) rd rr rs so tr si gr ct cd cs) sz) := by
  refine K_start (cc := cX3_inForce) (maxL := 3) (ret := some .int) (Qc := fun A => va_Qi (fun (r : Int32) (_ : Unit) => r = rForce nr rd rr rs d w) (fun u => QB D (tyL cI cZ cG) A ((fun (_ : Unit) => wX3 cI cZ cG h3 a3 (nI nr) (nI nt) (nI nc) rd rr rs so tr si gr ct cd cs) u)) A) (by decide) rfl (Nat.le_of_ble_eq_true rfl) ?_
  intro p e s m below meth c ls A hx hb hml hr hts hown hlocks hin hN hP hK hD hA hS hl hsz
  have hl : lv_has ls 3 [(0, .ref h3), (1, .int d), (2, .int w)] := hl
  refine lv_iload_n hx hb dX3_inForce_0 rfl (lv_at hl 1 rfl) ?_
  refine K_none (va_runSN (As := [.int d]) (rest := []) ⟨hx, hb, hml, hown, hts⟩ (c_X4_isDay l D cI cZ cG _ d) ⟨va_cnB (host := "ModelTown") 1 hts gX3_inForce_X4_isDay_n42 rfl rfl rfl hN.2.2.2.2.2.2.1 (hts (.initialized RX4) (by decide +kernel)) (by decide +kernel) ⟨(Nat.le_of_ble_eq_true rfl), (Nat.le_of_ble_eq_true rfl)⟩, hts (.static yX4_isDay) (by decide +kernel), trivial⟩ (K_pre0 hN hK) rfl rfl hl.1 rfl (lv_room (Nat.le_of_ble_eq_true rfl)) dX3_inForce_1 ⟨Nat.zero_le _, Nat.zero_le _⟩) hP hS hA (fun r1 _ H locs hw1 hP hS => ?_)
  rcases hw1 with ⟨rfl, hw1⟩ | ⟨rfl, hw1⟩
  · skip
    refine lv_if_eq (tgt := 16) hx hb dX3_inForce_4 (by decide) (fun c2 => absurd c2 (by decide)) (fun _ => ?_)
    refine lv_iload_n hx hb dX3_inForce_7 rfl (lv_at hl 2 rfl) ?_
    refine lv_iconst (v := 0) hx hb dX3_inForce_8 (by decide) ?_
    refine lv_iconst (v := 1) hx hb dX3_inForce_9 (by decide) ?_
    refine K_none (va_runSN (As := [.int w, .int 0, .int 1]) (rest := []) ⟨hx, hb, hml, hown, hts⟩ (c_X4_isWithin l D cI cZ cG _ w 0 1) ⟨va_cnB (host := "ModelTown") 3 hts gX3_inForce_X4_isWithin_n46 rfl rfl rfl hN.2.2.2.2.2.2.2.1 (hts (.initialized RX4) (by decide +kernel)) (by decide +kernel) ⟨(Nat.le_of_ble_eq_true rfl), (Nat.le_of_ble_eq_true rfl)⟩, hts (.static yX4_isWithin) (by decide +kernel), trivial⟩ (K_pre0 hN hK) rfl rfl hl.1 rfl (lv_room (Nat.le_of_ble_eq_true rfl)) dX3_inForce_10 ⟨Nat.zero_le _, Nat.zero_le _⟩) hP hS hA (fun r3 _ H locs hw3 hP hS => ?_)
    rcases hw3 with ⟨rfl, hw3⟩ | ⟨rfl, hw3⟩
    · skip
      refine lv_if_ne (tgt := 19) hx hb dX3_inForce_13 (by decide) (fun _ => ?_) (fun c4 => absurd c4 (by decide))
      refine lv_iload_n hx hb dX3_inForce_19 rfl (lv_at hl 2 rfl) ?_
      refine lv_if_ne (tgt := 31) hx hb dX3_inForce_20 (by decide) (fun c5 => ?_) (fun c5 => ?_)
      · refine lv_aload_n hx hb dX3_inForce_31 rfl (lv_at hl 0 rfl) ?_
        refine lv_iload_n hx hb dX3_inForce_32 rfl (lv_at hl 1 rfl) ?_
        refine K_same (va_runV (As := [.int d]) (rest := []) ⟨hx, hb, hml, hown, hts⟩ (c_X3_slackOn l D cI cZ cG h3 a3 _ nr nt nc rd rr rs so tr si gr ct cd cs d hnr hnt hnc) (cwV 1 hts gX3_inForce_X3_slackOn rfl rfl rfl (by decide +kernel) ⟨(Nat.le_of_ble_eq_true rfl), (Nat.le_of_ble_eq_true rfl)⟩) ⟨PB_blind, va_recv hK hP (ci := 3) (q0 := 0) rfl rfl, (K_preS hN hK hP hD).2⟩ rfl rfl hl.1 rfl (lv_room (Nat.le_of_ble_eq_true rfl)) dX3_inForce_33 ⟨Nat.zero_le _, Nat.zero_le _⟩) hD hS hA (fun r6 u H locs hw6 hP hD hS => ?_)
        have hP : va_P D vwCl (wX3 cI cZ cG h3 a3 (nI nr) (nI nt) (nI nc) rd rr rs so tr si gr ct cd cs) H := hP
        have hD : va_D A (wX3 cI cZ cG h3 a3 (nI nr) (nI nt) (nI nc) rd rr rs so tr si gr ct cd cs) := hD
        obtain rfl := hw6
        exact K_iret (wf := (fun (_ : Unit) => wX3 cI cZ cG h3 a3 (nI nr) (nI nt) (nI nc) rd rr rs so tr si gr ct cd cs)) () hx hb hr hlocks hP hK hD hS dX3_inForce_36 (by rw [rForce, if_pos ⟨hw1, hw3⟩, if_neg c5])
      · refine lv_aload_n hx hb dX3_inForce_23 rfl (lv_at hl 0 rfl) ?_
        refine lv_iload_n hx hb dX3_inForce_24 rfl (lv_at hl 1 rfl) ?_
        refine K_same (va_runV (As := [.int d]) (rest := []) ⟨hx, hb, hml, hown, hts⟩ (c_X3_ratioOn l D cI cZ cG h3 a3 _ nr nt nc rd rr rs so tr si gr ct cd cs d hnr hnt hnc) (cwV 1 hts gX3_inForce_X3_ratioOn rfl rfl rfl (by decide +kernel) ⟨(Nat.le_of_ble_eq_true rfl), (Nat.le_of_ble_eq_true rfl)⟩) ⟨PB_blind, va_recv hK hP (ci := 3) (q0 := 0) rfl rfl, (K_preS hN hK hP hD).2⟩ rfl rfl hl.1 rfl (lv_room (Nat.le_of_ble_eq_true rfl)) dX3_inForce_25 ⟨Nat.zero_le _, Nat.zero_le _⟩) hD hS hA (fun r7 u H locs hw7 hP hD hS => ?_)
        have hP : va_P D vwCl (wX3 cI cZ cG h3 a3 (nI nr) (nI nt) (nI nc) rd rr rs so tr si gr ct cd cs) H := hP
        have hD : va_D A (wX3 cI cZ cG h3 a3 (nI nr) (nI nt) (nI nc) rd rr rs so tr si gr ct cd cs) := hD
        obtain rfl := hw7
        refine lv_goto (tgt := 36) hx hb dX3_inForce_28 (by decide) ?_
        exact K_iret (wf := (fun (_ : Unit) => wX3 cI cZ cG h3 a3 (nI nr) (nI nt) (nI nc) rd rr rs so tr si gr ct cd cs)) () hx hb hr hlocks hP hK hD hS dX3_inForce_36 (by rw [rForce, if_pos ⟨hw1, hw3⟩, if_pos c5])
    · skip
      refine lv_if_ne (tgt := 19) hx hb dX3_inForce_13 (by decide) (fun c8 => absurd c8 (by decide)) (fun _ => ?_)
      refine lv_bipush (v := (-2)) hx hb dX3_inForce_16 (by decide) ?_
      exact K_iret (wf := (fun (_ : Unit) => wX3 cI cZ cG h3 a3 (nI nr) (nI nt) (nI nc) rd rr rs so tr si gr ct cd cs)) () hx hb hr hlocks hP hK hD hS dX3_inForce_18 (by simp [rForce, hw1, hw3])
  · skip
    refine lv_if_eq (tgt := 16) hx hb dX3_inForce_4 (by decide) (fun _ => ?_) (fun c9 => absurd c9 (by decide))
    refine lv_bipush (v := (-2)) hx hb dX3_inForce_16 (by decide) ?_
    exact K_iret (wf := (fun (_ : Unit) => wX3 cI cZ cG h3 a3 (nI nr) (nI nt) (nI nc) rd rr rs so tr si gr ct cd cs)) () hx hb hr hlocks hP hK hD hS dX3_inForce_18 (by simp [rForce, hw1])
theorem inX3_clippingOn : ∀ w ∈ wsX30, w ∈ wsX3_clippingOn := by decide +kernel
set_option maxHeartbeats 8000000 in
set_option maxRecDepth 100000 in
/-- clippingOn: from behind -/
theorem c_X3_clippingOn (l : Launch) (D : va_G) (cI cZ cG : ClassId) (h3 : Nat) (a3 : Nat → Nat) (sz : Nat) (nr : Nat) (nt : Nat) (nc : Nat) (rd : Nat → Int32) (rr : Nat → Int32) (rs : Nat → Int32) (so : Nat → Int32) (tr : Nat → Int32) (si : Nat → Int32) (gr : Nat → Int32) (ct : Nat → Int32) (cd : Nat → Int32) (cs : Nat → Int32) (t : Int32) (d : Int32) (hnr : nr ≤ 6) (hnt : nt ≤ 20) (hnc : nc ≤ 60) : Met l yX3_clippingOn wsX3_clippingOn ({ frames := 0, cells := 0, slots := 0, locals := 0 } : Room) (va_Pc [.ref h3, .int t, .int d] (PB D (tyL cI cZ cG) (wX3 cI cZ cG h3 a3 (nI nr) (nI nt) (nI nc) rd rr rs so tr si gr ct cd cs) sz)) (va_Qi (fun (r : Int32) (_ : Unit) => r = oI (lC ct cd t d nc)) (fun u => QB D (tyL cI cZ cG) (va_A (wX3 cI cZ cG h3 a3 (nI nr) (nI nt) (nI nc) rd rr rs so tr si gr ct cd cs) sz) ((fun (_ : Unit) => wX3 cI cZ cG h3 a3 (nI nr) (nI nt) (nI nc) rd rr rs so tr si gr ct cd cs) u)) (va_A (wX3 cI cZ cG h3 a3 (nI nr) (nI nt) (nI nc) rd rr rs so tr si gr ct cd cs) sz)) 0 0 (va_A (wX3 cI cZ cG h3 a3 (nI nr) (nI nt) (nI nc) rd rr rs so tr si gr ct cd cs) sz) := by
  refine K_start (cc := cX3_clippingOn) (maxL := 4) (ret := some .int) (Qc := fun A => va_Qi (fun (r : Int32) (_ : Unit) => r = oI (lC ct cd t d nc)) (fun u => QB D (tyL cI cZ cG) A ((fun (_ : Unit) => wX3 cI cZ cG h3 a3 (nI nr) (nI nt) (nI nc) rd rr rs so tr si gr ct cd cs) u)) A) (by decide) rfl (Nat.le_of_ble_eq_true rfl) ?_
  intro p e s m below meth c ls A hx hb hml hr hts hown hlocks hin hN hP hK hD hA hS hl hsz
  have hl : lv_has ls 4 [(0, .ref h3), (1, .int t), (2, .int d)] := hl
  have fl68 := hts (.fieldLink RX3 68 "ModelTown$Scale" "clippings" "I") (by decide +kernel)
  have fl33 := hts (.fieldLink RX3 33 "ModelTown$Scale" "clipThing" "[I") (by decide +kernel)
  have fl36 := hts (.fieldLink RX3 36 "ModelTown$Scale" "clipDay" "[I") (by decide +kernel)
  refine lv_aload_n hx hb dX3_clippingOn_0 rfl (lv_at hl 0 rfl) ?_
  refine va_get (D := D) (ci := 3) (v := .int (nI nc)) (C := RX3) (T := TX3) (N := 13) hx hb hts inX3_clippingOn hown hK hP 0 rfl rfl 12 (by decide) fl68 (fun _ h9 => h9) rfl dX3_clippingOn_1 ?_
  refine lv_iconst (v := 1) hx hb dX3_clippingOn_4 (by decide) ?_
  refine lv_isub hx hb dX3_clippingOn_5 ?_
  refine lv_topi (fun z1 ez1 => ?_)
  obtain rfl : z1 = dI nc := ez1.trans (dI_sub nc)
  refine lv_istore_n (lv' := [(3, .int (dI nc)), (0, .ref h3), (1, .int t), (2, .int d)]) hx hb dX3_clippingOn_6 rfl hl (by decide) rfl (fun ls hl => ?_)
  refine loopW1 (fun (j : Nat) H locs ls => (j ≤ nc) ∧ (lC ct cd t d nc = lC ct cd t d j) ∧ va_P D vwCl (wX3 cI cZ cG h3 a3 (nI nr) (nI nt) (nI nc) rd rr rs so tr si gr ct cd cs) H ∧ va_D A (wX3 cI cZ cG h3 a3 (nI nr) (nI nt) (nI nc) rd rr rs so tr si gr ct cd cs) ∧ va_S A s.heap H locs ∧ lv_has ls 4 [(3, .int (dI j)), (0, .ref h3), (1, .int t), (2, .int d)]) (fun (j : Nat) => j) (fun j H locs ls hI ih7 => ?_) nc _ _ _ ⟨(by omega), rfl, hP, hD, hS, lv_sub hl [0, 1, 2, 3] rfl⟩
  obtain ⟨hj, ho, hP, hD, hS, hl⟩ := hI
  rcases j with _ | j
  · have hl : lv_has ls 4 [(3, .int (-1)), (0, .ref h3), (1, .int t), (2, .int d)] := hl
    refine lv_iload_n hx hb dX3_clippingOn_7 rfl (lv_at hl 0 rfl) ?_
    refine lv_if_lt (tgt := 39) hx hb dX3_clippingOn_8 (by decide) (fun _ => ?_) (fun c2 => absurd c2 (by decide))
    refine lv_bipush (v := (-6)) hx hb dX3_clippingOn_39 (by decide) ?_
    exact K_iret (wf := (fun (_ : Unit) => wX3 cI cZ cG h3 a3 (nI nr) (nI nt) (nI nc) rd rr rs so tr si gr ct cd cs)) () hx hb hr hlocks hP hK hD hS dX3_clippingOn_41 (by rw [ho]; rfl)
  · have hl : lv_has ls 4 [(3, .int (nI j)), (0, .ref h3), (1, .int t), (2, .int d)] := hl
    refine lv_iload_n hx hb dX3_clippingOn_7 rfl (lv_at hl 0 rfl) ?_
    refine lv_if_lt (tgt := 39) hx hb dX3_clippingOn_8 (by decide) (fun c3 => absurd c3 (nI_pos (by omega))) (fun c3 => ?_)
    refine lv_aload_n hx hb dX3_clippingOn_11 rfl (lv_at hl 1 rfl) ?_
    refine va_get (D := D) (ci := 3) (v := .ref (a3 7)) (C := RX3) (T := TX3) (N := 13) hx hb hts inX3_clippingOn hown hK hP 0 rfl rfl 9 (by decide) fl33 (fun _ h9 => h9) rfl dX3_clippingOn_12 ?_
    refine lv_iload_n hx hb dX3_clippingOn_15 rfl (lv_at hl 0 rfl) ?_
    refine K_iald hx hb hK hP 8 0 rfl rfl j (by omega) (Nat.le_of_ble_eq_true rfl) dX3_clippingOn_16 ?_
    refine lv_iload_n hx hb dX3_clippingOn_17 rfl (lv_at hl 2 rfl) ?_
    refine lv_icmp_ne (tgt := 33) hx hb dX3_clippingOn_18 (by decide) (fun c4 => ?_) (fun c4 => ?_)
    · refine lv_iinc (v := dI j) (lv' := [(3, .int (dI j)), (0, .ref h3), (1, .int t), (2, .int d)]) hx hb dX3_clippingOn_33 hl (k := 0) rfl (dec1 j) (by decide) rfl (fun ls hl => ?_)
      refine lv_goto (tgt := 7) hx hb dX3_clippingOn_36 (by decide) ?_
      exact ih7 j _ _ _ ⟨(by omega), (ho.trans (by simp [lC, c4])), hP, hD, hS, lv_sub hl [0, 1, 2, 3] rfl⟩ (by omega)
    · refine lv_aload_n hx hb dX3_clippingOn_21 rfl (lv_at hl 1 rfl) ?_
      refine va_get (D := D) (ci := 3) (v := .ref (a3 8)) (C := RX3) (T := TX3) (N := 13) hx hb hts inX3_clippingOn hown hK hP 0 rfl rfl 10 (by decide) fl36 (fun _ h9 => h9) rfl dX3_clippingOn_22 ?_
      refine lv_iload_n hx hb dX3_clippingOn_25 rfl (lv_at hl 0 rfl) ?_
      refine K_iald hx hb hK hP 9 0 rfl rfl j (by omega) (Nat.le_of_ble_eq_true rfl) dX3_clippingOn_26 ?_
      refine lv_iload_n hx hb dX3_clippingOn_27 rfl (lv_at hl 3 rfl) ?_
      refine lv_icmp_gt (tgt := 33) hx hb dX3_clippingOn_28 (by decide) (fun c5 => ?_) (fun c5 => ?_)
      · replace c5 := Int32.not_le.mpr c5
        refine lv_iinc (v := dI j) (lv' := [(3, .int (dI j)), (0, .ref h3), (1, .int t), (2, .int d)]) hx hb dX3_clippingOn_33 hl (k := 0) rfl (dec1 j) (by decide) rfl (fun ls hl => ?_)
        refine lv_goto (tgt := 7) hx hb dX3_clippingOn_36 (by decide) ?_
        exact ih7 j _ _ _ ⟨(by omega), (ho.trans (by simp [lC, eq_true c4, c5])), hP, hD, hS, lv_sub hl [0, 1, 2, 3] rfl⟩ (by omega)
      · replace c5 := Int32.not_lt.mp c5
        refine lv_iload_n hx hb dX3_clippingOn_31 rfl (lv_at hl 0 rfl) ?_
        exact K_iret (wf := (fun (_ : Unit) => wX3 cI cZ cG h3 a3 (nI nr) (nI nt) (nI nc) rd rr rs so tr si gr ct cd cs)) () hx hb hr hlocks hP hK hD hS dX3_clippingOn_32 (by rw [ho, lC, if_pos ⟨c4, c5⟩]; rfl)
theorem inX3_sizeOn : ∀ w ∈ wsX30, w ∈ wsX3_sizeOn := by decide +kernel
set_option maxHeartbeats 8000000 in
set_option maxRecDepth 100000 in
/-- sizeOn -/
theorem c_X3_sizeOn (l : Launch) (D : va_G) (cI cZ cG : ClassId) (h3 : Nat) (a3 : Nat → Nat) (sz : Nat) (nr : Nat) (nt : Nat) (nc : Nat) (rd : Nat → Int32) (rr : Nat → Int32) (rs : Nat → Int32) (so : Nat → Int32) (tr : Nat → Int32) (si : Nat → Int32) (gr : Nat → Int32) (ct : Nat → Int32) (cd : Nat → Int32) (cs : Nat → Int32) (t : Nat) (d : Int32) (hnr : nr ≤ 6) (hnt : nt ≤ 20) (hnc : nc ≤ 60) (ht : t < nt) : Met l yX3_sizeOn wsX3_sizeOn ({ frames := 1, cells := 0, slots := 0, locals := 23 } : Room) (va_Pc [.ref h3, .int (nI t), .int d] (PB D (tyL cI cZ cG) (wX3 cI cZ cG h3 a3 (nI nr) (nI nt) (nI nc) rd rr rs so tr si gr ct cd cs) sz)) (va_Qi (fun (r : Int32) (_ : Unit) => r = szA nc ct cd cs si gr t d) (fun u => QB D (tyL cI cZ cG) (va_A (wX3 cI cZ cG h3 a3 (nI nr) (nI nt) (nI nc) rd rr rs so tr si gr ct cd cs) sz) ((fun (_ : Unit) => wX3 cI cZ cG h3 a3 (nI nr) (nI nt) (nI nc) rd rr rs so tr si gr ct cd cs) u)) (va_A (wX3 cI cZ cG h3 a3 (nI nr) (nI nt) (nI nc) rd rr rs so tr si gr ct cd cs) sz)) 0 0 (va_A (wX3 cI cZ cG h3 a3 (nI nr) (nI nt) (nI nc) rd rr rs so tr si gr ct cd cs) sz) := by
  refine K_start (cc := cX3_sizeOn) (maxL := 6) (ret := some .int) (Qc := fun A => va_Qi (fun (r : Int32) (_ : Unit) => r = szA nc ct cd cs si gr t d) (fun u => QB D (tyL cI cZ cG) A ((fun (_ : Unit) => wX3 cI cZ cG h3 a3 (nI nr) (nI nt) (nI nc) rd rr rs so tr si gr ct cd cs) u)) A) (by decide) rfl (Nat.le_of_ble_eq_true rfl) ?_
  intro p e s m below meth c ls A hx hb hml hr hts hown hlocks hin hN hP hK hD hA hS hl hsz
  have hl : lv_has ls 6 [(0, .ref h3), (1, .int (nI t)), (2, .int d)] := hl
  have fl27 := hts (.fieldLink RX3 27 "ModelTown$Scale" "firstSizes" "[I") (by decide +kernel)
  have fl30 := hts (.fieldLink RX3 30 "ModelTown$Scale" "grows" "[I") (by decide +kernel)
  have fl36 := hts (.fieldLink RX3 36 "ModelTown$Scale" "clipDay" "[I") (by decide +kernel)
  have fl39 := hts (.fieldLink RX3 39 "ModelTown$Scale" "clipSize" "[I") (by decide +kernel)
  refine lv_aload_n hx hb dX3_sizeOn_0 rfl (lv_at hl 0 rfl) ?_
  refine lv_iload_n hx hb dX3_sizeOn_1 rfl (lv_at hl 1 rfl) ?_
  refine lv_iload_n hx hb dX3_sizeOn_2 rfl (lv_at hl 2 rfl) ?_
  refine K_same (va_runV (As := [.int (nI t), .int d]) (rest := []) ⟨hx, hb, hml, hown, hts⟩ (c_X3_clippingOn l D cI cZ cG h3 a3 _ nr nt nc rd rr rs so tr si gr ct cd cs (nI t) d hnr hnt hnc) (cwV 2 hts gX3_sizeOn_X3_clippingOn rfl rfl rfl (by decide +kernel) ⟨(Nat.le_of_ble_eq_true rfl), (Nat.le_of_ble_eq_true rfl)⟩) ⟨PB_blind, va_recv hK hP (ci := 3) (q0 := 0) rfl rfl, (K_preS hN hK hP hD).2⟩ rfl rfl hl.1 rfl (lv_room (Nat.le_of_ble_eq_true rfl)) dX3_sizeOn_3 ⟨Nat.zero_le _, Nat.zero_le _⟩) hD hS hA (fun r1 u H locs hw1 hP hD hS => ?_)
  have hP : va_P D vwCl (wX3 cI cZ cG h3 a3 (nI nr) (nI nt) (nI nc) rd rr rs so tr si gr ct cd cs) H := hP
  have hD : va_D A (wX3 cI cZ cG h3 a3 (nI nr) (nI nt) (nI nc) rd rr rs so tr si gr ct cd cs) := hD
  rcases ho1 : lC ct cd (nI t) d nc with _ | b1
  · rw [ho1] at hw1
    obtain rfl : r1 = -6 := hw1
    refine lv_istore_n (lv' := [(3, .int (-6)), (0, .ref h3), (1, .int (nI t)), (2, .int d)]) hx hb dX3_sizeOn_6 rfl hl (by decide) rfl (fun ls hl => ?_)
    refine lv_iload_n hx hb dX3_sizeOn_7 rfl (lv_at hl 0 rfl) ?_
    refine lv_bipush (v := (-6)) hx hb dX3_sizeOn_8 (by decide) ?_
    refine lv_icmp_ne (tgt := 17) hx hb dX3_sizeOn_10 (by decide) (fun c2 => absurd c2 (by decide)) (fun _ => ?_)
    refine lv_iconst (v := 0) hx hb dX3_sizeOn_13 (by decide) ?_
    refine lv_goto (tgt := 23) hx hb dX3_sizeOn_14 (by decide) ?_
    refine lv_istore (lv' := [(4, .int 0), (3, .int (-6)), (0, .ref h3), (1, .int (nI t)), (2, .int d)]) hx hb dX3_sizeOn_23 hl (by decide) rfl (fun ls hl => ?_)
    refine lv_iload_n hx hb dX3_sizeOn_25 rfl (lv_at hl 1 rfl) ?_
    refine lv_bipush (v := (-6)) hx hb dX3_sizeOn_26 (by decide) ?_
    refine lv_icmp_ne (tgt := 40) hx hb dX3_sizeOn_28 (by decide) (fun c3 => absurd c3 (by decide)) (fun _ => ?_)
    refine lv_aload_n hx hb dX3_sizeOn_31 rfl (lv_at hl 2 rfl) ?_
    refine va_get (D := D) (ci := 3) (v := .ref (a3 5)) (C := RX3) (T := TX3) (N := 13) hx hb hts inX3_sizeOn hown hK hP 0 rfl rfl 6 (by decide) fl27 (fun _ h9 => h9) rfl dX3_sizeOn_32 ?_
    refine lv_iload_n hx hb dX3_sizeOn_35 rfl (lv_at hl 3 rfl) ?_
    refine K_iald hx hb hK hP 6 0 rfl rfl t (by omega) (Nat.le_of_ble_eq_true rfl) dX3_sizeOn_36 ?_
    refine lv_goto (tgt := 46) hx hb dX3_sizeOn_37 (by decide) ?_
    refine lv_istore (lv' := [(5, .int (si t)), (4, .int 0), (3, .int (-6)), (0, .ref h3), (1, .int (nI t)), (2, .int d)]) hx hb dX3_sizeOn_46 hl (by decide) rfl (fun ls hl => ?_)
    refine lv_iload hx hb dX3_sizeOn_48 (lv_at hl 0 rfl) ?_
    refine lv_iload_n hx hb dX3_sizeOn_50 rfl (lv_at hl 5 rfl) ?_
    refine lv_iload hx hb dX3_sizeOn_51 (lv_at hl 1 rfl) ?_
    refine lv_isub hx hb dX3_sizeOn_53 ?_
    refine lv_bipush (v := 7) hx hb dX3_sizeOn_54 (by decide) ?_
    refine lv_idiv hx hb dX3_sizeOn_56 (by decide) ?_
    refine lv_aload_n hx hb dX3_sizeOn_57 rfl (lv_at hl 3 rfl) ?_
    refine va_get (D := D) (ci := 3) (v := .ref (a3 6)) (C := RX3) (T := TX3) (N := 13) hx hb hts inX3_sizeOn hown hK hP 0 rfl rfl 7 (by decide) fl30 (fun _ h9 => h9) rfl dX3_sizeOn_58 ?_
    refine lv_iload_n hx hb dX3_sizeOn_61 rfl (lv_at hl 4 rfl) ?_
    refine K_iald hx hb hK hP 7 0 rfl rfl t (by omega) (Nat.le_of_ble_eq_true rfl) dX3_sizeOn_62 ?_
    refine lv_imul hx hb dX3_sizeOn_63 ?_
    refine lv_iadd hx hb dX3_sizeOn_64 ?_
    exact K_iret (wf := (fun (_ : Unit) => wX3 cI cZ cG h3 a3 (nI nr) (nI nt) (nI nc) rd rr rs so tr si gr ct cd cs)) () hx hb hr hlocks hP hK hD hS dX3_sizeOn_65 (by rw [szA, ho1]; rfl)
  · rw [ho1] at hw1
    obtain rfl : r1 = nI b1 := hw1
    have hbb := lC_lt ho1
    refine lv_istore_n (lv' := [(3, .int (nI b1)), (0, .ref h3), (1, .int (nI t)), (2, .int d)]) hx hb dX3_sizeOn_6 rfl hl (by decide) rfl (fun ls hl => ?_)
    refine lv_iload_n hx hb dX3_sizeOn_7 rfl (lv_at hl 0 rfl) ?_
    refine lv_bipush (v := (-6)) hx hb dX3_sizeOn_8 (by decide) ?_
    refine lv_icmp_ne (tgt := 17) hx hb dX3_sizeOn_10 (by decide) (fun c4 => ?_) (fun c4 => absurd c4 (nI_neN (by omega) (by decide)))
    refine lv_aload_n hx hb dX3_sizeOn_17 rfl (lv_at hl 1 rfl) ?_
    refine va_get (D := D) (ci := 3) (v := .ref (a3 8)) (C := RX3) (T := TX3) (N := 13) hx hb hts inX3_sizeOn hown hK hP 0 rfl rfl 10 (by decide) fl36 (fun _ h9 => h9) rfl dX3_sizeOn_18 ?_
    refine lv_iload_n hx hb dX3_sizeOn_21 rfl (lv_at hl 0 rfl) ?_
    refine K_iald hx hb hK hP 9 0 rfl rfl b1 (by omega) (Nat.le_of_ble_eq_true rfl) dX3_sizeOn_22 ?_
    refine lv_istore (lv' := [(4, .int (cd b1)), (3, .int (nI b1)), (0, .ref h3), (1, .int (nI t)), (2, .int d)]) hx hb dX3_sizeOn_23 hl (by decide) rfl (fun ls hl => ?_)
    refine lv_iload_n hx hb dX3_sizeOn_25 rfl (lv_at hl 1 rfl) ?_
    refine lv_bipush (v := (-6)) hx hb dX3_sizeOn_26 (by decide) ?_
    refine lv_icmp_ne (tgt := 40) hx hb dX3_sizeOn_28 (by decide) (fun c5 => ?_) (fun c5 => absurd c5 (nI_neN (by omega) (by decide)))
    refine lv_aload_n hx hb dX3_sizeOn_40 rfl (lv_at hl 2 rfl) ?_
    refine va_get (D := D) (ci := 3) (v := .ref (a3 9)) (C := RX3) (T := TX3) (N := 13) hx hb hts inX3_sizeOn hown hK hP 0 rfl rfl 11 (by decide) fl39 (fun _ h9 => h9) rfl dX3_sizeOn_41 ?_
    refine lv_iload_n hx hb dX3_sizeOn_44 rfl (lv_at hl 1 rfl) ?_
    refine K_iald hx hb hK hP 10 0 rfl rfl b1 (by omega) (Nat.le_of_ble_eq_true rfl) dX3_sizeOn_45 ?_
    refine lv_istore (lv' := [(5, .int (cs b1)), (4, .int (cd b1)), (3, .int (nI b1)), (0, .ref h3), (1, .int (nI t)), (2, .int d)]) hx hb dX3_sizeOn_46 hl (by decide) rfl (fun ls hl => ?_)
    refine lv_iload hx hb dX3_sizeOn_48 (lv_at hl 0 rfl) ?_
    refine lv_iload_n hx hb dX3_sizeOn_50 rfl (lv_at hl 5 rfl) ?_
    refine lv_iload hx hb dX3_sizeOn_51 (lv_at hl 1 rfl) ?_
    refine lv_isub hx hb dX3_sizeOn_53 ?_
    refine lv_bipush (v := 7) hx hb dX3_sizeOn_54 (by decide) ?_
    refine lv_idiv hx hb dX3_sizeOn_56 (by decide) ?_
    refine lv_aload_n hx hb dX3_sizeOn_57 rfl (lv_at hl 3 rfl) ?_
    refine va_get (D := D) (ci := 3) (v := .ref (a3 6)) (C := RX3) (T := TX3) (N := 13) hx hb hts inX3_sizeOn hown hK hP 0 rfl rfl 7 (by decide) fl30 (fun _ h9 => h9) rfl dX3_sizeOn_58 ?_
    refine lv_iload_n hx hb dX3_sizeOn_61 rfl (lv_at hl 4 rfl) ?_
    refine K_iald hx hb hK hP 7 0 rfl rfl t (by omega) (Nat.le_of_ble_eq_true rfl) dX3_sizeOn_62 ?_
    refine lv_imul hx hb dX3_sizeOn_63 ?_
    refine lv_iadd hx hb dX3_sizeOn_64 ?_
    exact K_iret (wf := (fun (_ : Unit) => wX3 cI cZ cG h3 a3 (nI nr) (nI nt) (nI nc) rd rr rs so tr si gr ct cd cs)) () hx hb hr hlocks hP hK hD hS dX3_sizeOn_65 (by rw [szA, ho1]; rfl)
theorem inX3_dueOn : ∀ w ∈ wsX30, w ∈ wsX3_dueOn := by decide +kernel
set_option maxHeartbeats 8000000 in
set_option maxRecDepth 100000 in
/-- dueOn -/
theorem c_X3_dueOn (l : Launch) (D : va_G) (cI cZ cG : ClassId) (h3 : Nat) (a3 : Nat → Nat) (sz : Nat) (nr : Nat) (nt : Nat) (nc : Nat) (rd : Nat → Int32) (rr : Nat → Int32) (rs : Nat → Int32) (so : Nat → Int32) (tr : Nat → Int32) (si : Nat → Int32) (gr : Nat → Int32) (ct : Nat → Int32) (cd : Nat → Int32) (cs : Nat → Int32) (t : Nat) (d : Int32) (hnr : nr ≤ 6) (hnt : nt ≤ 20) (hnc : nc ≤ 60) (ht : t < nt) (hrr : ∀ k, k < nr → ¬ rr k = 0) : Met l yX3_dueOn wsX3_dueOn ({ frames := 2, cells := 0, slots := 0, locals := 45 } : Room) (va_Pc [.ref h3, .int (nI t), .int d] (PB D (tyL cI cZ cG) (wX3 cI cZ cG h3 a3 (nI nr) (nI nt) (nI nc) rd rr rs so tr si gr ct cd cs) sz)) (va_Qi (fun (r : Int32) (_ : Unit) => r = duA nr rd rr tr t d) (fun u => QB D (tyL cI cZ cG) (va_A (wX3 cI cZ cG h3 a3 (nI nr) (nI nt) (nI nc) rd rr rs so tr si gr ct cd cs) sz) ((fun (_ : Unit) => wX3 cI cZ cG h3 a3 (nI nr) (nI nt) (nI nc) rd rr rs so tr si gr ct cd cs) u)) (va_A (wX3 cI cZ cG h3 a3 (nI nr) (nI nt) (nI nc) rd rr rs so tr si gr ct cd cs) sz)) 0 0 (va_A (wX3 cI cZ cG h3 a3 (nI nr) (nI nt) (nI nc) rd rr rs so tr si gr ct cd cs) sz) := by
  refine K_start (cc := cX3_dueOn) (maxL := 3) (ret := some .int) (Qc := fun A => va_Qi (fun (r : Int32) (_ : Unit) => r = duA nr rd rr tr t d) (fun u => QB D (tyL cI cZ cG) A ((fun (_ : Unit) => wX3 cI cZ cG h3 a3 (nI nr) (nI nt) (nI nc) rd rr rs so tr si gr ct cd cs) u)) A) (by decide) rfl (Nat.le_of_ble_eq_true rfl) ?_
  intro p e s m below meth c ls A hx hb hml hr hts hown hlocks hin hN hP hK hD hA hS hl hsz
  have hl : lv_has ls 3 [(0, .ref h3), (1, .int (nI t)), (2, .int d)] := hl
  have fl24 := hts (.fieldLink RX3 24 "ModelTown$Scale" "trueSizes" "[I") (by decide +kernel)
  refine lv_aload_n hx hb dX3_dueOn_0 rfl (lv_at hl 0 rfl) ?_
  refine va_get (D := D) (ci := 3) (v := .ref (a3 4)) (C := RX3) (T := TX3) (N := 13) hx hb hts inX3_dueOn hown hK hP 0 rfl rfl 5 (by decide) fl24 (fun _ h9 => h9) rfl dX3_dueOn_1 ?_
  refine lv_iload_n hx hb dX3_dueOn_4 rfl (lv_at hl 1 rfl) ?_
  refine K_iald hx hb hK hP 5 0 rfl rfl t (by omega) (Nat.le_of_ble_eq_true rfl) dX3_dueOn_5 ?_
  refine lv_aload_n hx hb dX3_dueOn_6 rfl (lv_at hl 0 rfl) ?_
  refine lv_iload_n hx hb dX3_dueOn_7 rfl (lv_at hl 2 rfl) ?_
  refine K_same (va_runV (As := [.int d]) (rest := [.int (tr t)]) ⟨hx, hb, hml, hown, hts⟩ (c_X3_ratioOn l D cI cZ cG h3 a3 _ nr nt nc rd rr rs so tr si gr ct cd cs d hnr hnt hnc) (cwV 1 hts gX3_dueOn_X3_ratioOn rfl rfl rfl (by decide +kernel) ⟨(Nat.le_of_ble_eq_true rfl), (Nat.le_of_ble_eq_true rfl)⟩) ⟨PB_blind, va_recv hK hP (ci := 3) (q0 := 0) rfl rfl, (K_preS hN hK hP hD).2⟩ rfl rfl hl.1 rfl (lv_room (Nat.le_of_ble_eq_true rfl)) dX3_dueOn_8 ⟨Nat.zero_le _, Nat.zero_le _⟩) hD hS hA (fun r1 u H locs hw1 hP hD hS => ?_)
  have hP : va_P D vwCl (wX3 cI cZ cG h3 a3 (nI nr) (nI nt) (nI nc) rd rr rs so tr si gr ct cd cs) H := hP
  have hD : va_D A (wX3 cI cZ cG h3 a3 (nI nr) (nI nt) (nI nc) rd rr rs so tr si gr ct cd cs) := hD
  obtain rfl := hw1
  refine lv_idiv hx hb dX3_dueOn_11 (raA_ne d hrr) ?_
  exact K_iret (wf := (fun (_ : Unit) => wX3 cI cZ cG h3 a3 (nI nr) (nI nt) (nI nc) rd rr rs so tr si gr ct cd cs)) () hx hb hr hlocks hP hK hD hS dX3_dueOn_12 rfl
theorem inX3_faultOn : ∀ w ∈ wsX30, w ∈ wsX3_faultOn := by decide +kernel
set_option maxHeartbeats 8000000 in
set_option maxRecDepth 100000 in
/-- faultOn -/
theorem c_X3_faultOn (l : Launch) (D : va_G) (cI cZ cG : ClassId) (h3 : Nat) (a3 : Nat → Nat) (sz : Nat) (nr : Nat) (nt : Nat) (nc : Nat) (rd : Nat → Int32) (rr : Nat → Int32) (rs : Nat → Int32) (so : Nat → Int32) (tr : Nat → Int32) (si : Nat → Int32) (gr : Nat → Int32) (ct : Nat → Int32) (cd : Nat → Int32) (cs : Nat → Int32) (t : Nat) (d : Int32) (hnr : nr ≤ 6) (hnt : nt ≤ 20) (hnc : nc ≤ 60) (ht : t < nt) (hrr : ∀ k, k < nr → ¬ rr k = 0) : Met l yX3_faultOn wsX3_faultOn ({ frames := 3, cells := 0, slots := 0, locals := 67 } : Room) (va_Pc [.ref h3, .int (nI t), .int d] (PB D (tyL cI cZ cG) (wX3 cI cZ cG h3 a3 (nI nr) (nI nt) (nI nc) rd rr rs so tr si gr ct cd cs) sz)) (va_Qi (fun (r : Int32) (_ : Unit) => r = fA nr nc rd rr rs so tr si gr ct cd cs t d) (fun u => QB D (tyL cI cZ cG) (va_A (wX3 cI cZ cG h3 a3 (nI nr) (nI nt) (nI nc) rd rr rs so tr si gr ct cd cs) sz) ((fun (_ : Unit) => wX3 cI cZ cG h3 a3 (nI nr) (nI nt) (nI nc) rd rr rs so tr si gr ct cd cs) u)) (va_A (wX3 cI cZ cG h3 a3 (nI nr) (nI nt) (nI nc) rd rr rs so tr si gr ct cd cs) sz)) 0 0 (va_A (wX3 cI cZ cG h3 a3 (nI nr) (nI nt) (nI nc) rd rr rs so tr si gr ct cd cs) sz) := by
  refine K_start (cc := cX3_faultOn) (maxL := 6) (ret := some .int) (Qc := fun A => va_Qi (fun (r : Int32) (_ : Unit) => r = fA nr nc rd rr rs so tr si gr ct cd cs t d) (fun u => QB D (tyL cI cZ cG) A ((fun (_ : Unit) => wX3 cI cZ cG h3 a3 (nI nr) (nI nt) (nI nc) rd rr rs so tr si gr ct cd cs) u)) A) (by decide) rfl (Nat.le_of_ble_eq_true rfl) ?_
  intro p e s m below meth c ls A hx hb hml hr hts hown hlocks hin hN hP hK hD hA hS hl hsz
  have hl : lv_has ls 6 [(0, .ref h3), (1, .int (nI t)), (2, .int d)] := hl
  have fl21 := hts (.fieldLink RX3 21 "ModelTown$Scale" "sorts" "[I") (by decide +kernel)
  refine lv_aload_n hx hb dX3_faultOn_0 rfl (lv_at hl 0 rfl) ?_
  refine lv_iload_n hx hb dX3_faultOn_1 rfl (lv_at hl 1 rfl) ?_
  refine lv_iload_n hx hb dX3_faultOn_2 rfl (lv_at hl 2 rfl) ?_
  refine K_same (va_runV (As := [.int (nI t), .int d]) (rest := []) ⟨hx, hb, hml, hown, hts⟩ (c_X3_dueOn l D cI cZ cG h3 a3 _ nr nt nc rd rr rs so tr si gr ct cd cs t d hnr hnt hnc ht hrr) (cwV 2 hts gX3_faultOn_X3_dueOn rfl rfl rfl (by decide +kernel) ⟨(Nat.le_of_ble_eq_true rfl), (Nat.le_of_ble_eq_true rfl)⟩) ⟨PB_blind, va_recv hK hP (ci := 3) (q0 := 0) rfl rfl, (K_preS hN hK hP hD).2⟩ rfl rfl hl.1 rfl (lv_room (Nat.le_of_ble_eq_true rfl)) dX3_faultOn_3 ⟨Nat.zero_le _, Nat.zero_le _⟩) hD hS hA (fun r1 u H locs hw1 hP hD hS => ?_)
  have hP : va_P D vwCl (wX3 cI cZ cG h3 a3 (nI nr) (nI nt) (nI nc) rd rr rs so tr si gr ct cd cs) H := hP
  have hD : va_D A (wX3 cI cZ cG h3 a3 (nI nr) (nI nt) (nI nc) rd rr rs so tr si gr ct cd cs) := hD
  obtain rfl := hw1
  refine lv_istore_n (lv' := [(3, .int (duA nr rd rr tr t d)), (0, .ref h3), (1, .int (nI t)), (2, .int d)]) hx hb dX3_faultOn_6 rfl hl (by decide) rfl (fun ls hl => ?_)
  refine lv_iload_n hx hb dX3_faultOn_7 rfl (lv_at hl 0 rfl) ?_
  refine lv_aload_n hx hb dX3_faultOn_8 rfl (lv_at hl 1 rfl) ?_
  refine lv_iload_n hx hb dX3_faultOn_9 rfl (lv_at hl 3 rfl) ?_
  refine K_same (va_runV (As := [.int d]) (rest := [.int (duA nr rd rr tr t d)]) ⟨hx, hb, hml, hown, hts⟩ (c_X3_slackOn l D cI cZ cG h3 a3 _ nr nt nc rd rr rs so tr si gr ct cd cs d hnr hnt hnc) (cwV 1 hts gX3_faultOn_X3_slackOn rfl rfl rfl (by decide +kernel) ⟨(Nat.le_of_ble_eq_true rfl), (Nat.le_of_ble_eq_true rfl)⟩) ⟨PB_blind, va_recv hK hP (ci := 3) (q0 := 0) rfl rfl, (K_preS hN hK hP hD).2⟩ rfl rfl hl.1 rfl (lv_room (Nat.le_of_ble_eq_true rfl)) dX3_faultOn_10 ⟨Nat.zero_le _, Nat.zero_le _⟩) hD hS hA (fun r2 u H locs hw2 hP hD hS => ?_)
  have hP : va_P D vwCl (wX3 cI cZ cG h3 a3 (nI nr) (nI nt) (nI nc) rd rr rs so tr si gr ct cd cs) H := hP
  have hD : va_D A (wX3 cI cZ cG h3 a3 (nI nr) (nI nt) (nI nc) rd rr rs so tr si gr ct cd cs) := hD
  obtain rfl := hw2
  refine lv_imul hx hb dX3_faultOn_13 ?_
  refine lv_bipush (v := 100) hx hb dX3_faultOn_14 (by decide) ?_
  refine lv_idiv hx hb dX3_faultOn_16 (by decide) ?_
  refine lv_istore (lv' := [(4, .int (((duA nr rd rr tr t d) * (slA nr rd rs d)) / 100)), (3, .int (duA nr rd rr tr t d)), (0, .ref h3), (1, .int (nI t)), (2, .int d)]) hx hb dX3_faultOn_17 hl (by decide) rfl (fun ls hl => ?_)
  refine lv_aload_n hx hb dX3_faultOn_19 rfl (lv_at hl 2 rfl) ?_
  refine lv_iload_n hx hb dX3_faultOn_20 rfl (lv_at hl 3 rfl) ?_
  refine lv_iload_n hx hb dX3_faultOn_21 rfl (lv_at hl 4 rfl) ?_
  refine K_same (va_runV (As := [.int (nI t), .int d]) (rest := []) ⟨hx, hb, hml, hown, hts⟩ (c_X3_sizeOn l D cI cZ cG h3 a3 _ nr nt nc rd rr rs so tr si gr ct cd cs t d hnr hnt hnc ht) (cwV 2 hts gX3_faultOn_X3_sizeOn rfl rfl rfl (by decide +kernel) ⟨(Nat.le_of_ble_eq_true rfl), (Nat.le_of_ble_eq_true rfl)⟩) ⟨PB_blind, va_recv hK hP (ci := 3) (q0 := 0) rfl rfl, (K_preS hN hK hP hD).2⟩ rfl rfl hl.1 rfl (lv_room (Nat.le_of_ble_eq_true rfl)) dX3_faultOn_22 ⟨Nat.zero_le _, Nat.zero_le _⟩) hD hS hA (fun r3 u H locs hw3 hP hD hS => ?_)
  have hP : va_P D vwCl (wX3 cI cZ cG h3 a3 (nI nr) (nI nt) (nI nc) rd rr rs so tr si gr ct cd cs) H := hP
  have hD : va_D A (wX3 cI cZ cG h3 a3 (nI nr) (nI nt) (nI nc) rd rr rs so tr si gr ct cd cs) := hD
  obtain rfl := hw3
  refine lv_iload_n hx hb dX3_faultOn_25 rfl (lv_at hl 1 rfl) ?_
  refine lv_isub hx hb dX3_faultOn_26 ?_
  refine lv_istore (lv' := [(5, .int ((szA nc ct cd cs si gr t d) - (duA nr rd rr tr t d))), (4, .int (((duA nr rd rr tr t d) * (slA nr rd rs d)) / 100)), (3, .int (duA nr rd rr tr t d)), (0, .ref h3), (1, .int (nI t)), (2, .int d)]) hx hb dX3_faultOn_27 hl (by decide) rfl (fun ls hl => ?_)
  refine lv_iload hx hb dX3_faultOn_29 (lv_at hl 0 rfl) ?_
  refine lv_iload hx hb dX3_faultOn_31 (lv_at hl 1 rfl) ?_
  refine lv_icmp_le (tgt := 48) hx hb dX3_faultOn_33 (by decide) (fun c4 => ?_) (fun c4 => ?_)
  · refine lv_iload hx hb dX3_faultOn_48 (lv_at hl 0 rfl) ?_
    refine lv_ineg hx hb dX3_faultOn_50 ?_
    refine lv_iload hx hb dX3_faultOn_51 (lv_at hl 1 rfl) ?_
    refine lv_icmp_le (tgt := 68) hx hb dX3_faultOn_53 (by decide) (fun c5 => ?_) (fun c5 => ?_)
    · refine lv_iconst (v := 0) hx hb dX3_faultOn_68 (by decide) ?_
      exact K_iret (wf := (fun (_ : Unit) => wX3 cI cZ cG h3 a3 (nI nr) (nI nt) (nI nc) rd rr rs so tr si gr ct cd cs)) () hx hb hr hlocks hP hK hD hS dX3_faultOn_69 ((flt_0 (by first | exact Or.inl (by assumption) | exact Or.inr (by assumption)) (by first | exact Or.inl (by assumption) | exact Or.inr (by assumption))).symm)
    · refine lv_aload_n hx hb dX3_faultOn_56 rfl (lv_at hl 3 rfl) ?_
      refine va_get (D := D) (ci := 3) (v := .ref (a3 3)) (C := RX3) (T := TX3) (N := 13) hx hb hts inX3_faultOn hown hK hP 0 rfl rfl 4 (by decide) fl21 (fun _ h9 => h9) rfl dX3_faultOn_57 ?_
      refine lv_iload_n hx hb dX3_faultOn_60 rfl (lv_at hl 4 rfl) ?_
      refine K_iald hx hb hK hP 4 0 rfl rfl t (by omega) (Nat.le_of_ble_eq_true rfl) dX3_faultOn_61 ?_
      refine lv_iconst (v := 1) hx hb dX3_faultOn_62 (by decide) ?_
      refine lv_icmp_eq (tgt := 68) hx hb dX3_faultOn_63 (by decide) (fun c6 => ?_) (fun c6 => ?_)
      · refine lv_iconst (v := 0) hx hb dX3_faultOn_68 (by decide) ?_
        exact K_iret (wf := (fun (_ : Unit) => wX3 cI cZ cG h3 a3 (nI nr) (nI nt) (nI nc) rd rr rs so tr si gr ct cd cs)) () hx hb hr hlocks hP hK hD hS dX3_faultOn_69 ((flt_0 (by first | exact Or.inl (by assumption) | exact Or.inr (by assumption)) (by first | exact Or.inl (by assumption) | exact Or.inr (by assumption))).symm)
      · refine lv_iconst (v := 2) hx hb dX3_faultOn_66 (by decide) ?_
        exact K_iret (wf := (fun (_ : Unit) => wX3 cI cZ cG h3 a3 (nI nr) (nI nt) (nI nc) rd rr rs so tr si gr ct cd cs)) () hx hb hr hlocks hP hK hD hS dX3_faultOn_67 ((flt_2 (by first | exact Or.inl (by assumption) | exact Or.inr (by assumption)) (by assumption) (by assumption)).symm)
  · refine lv_aload_n hx hb dX3_faultOn_36 rfl (lv_at hl 3 rfl) ?_
    refine va_get (D := D) (ci := 3) (v := .ref (a3 3)) (C := RX3) (T := TX3) (N := 13) hx hb hts inX3_faultOn hown hK hP 0 rfl rfl 4 (by decide) fl21 (fun _ h9 => h9) rfl dX3_faultOn_37 ?_
    refine lv_iload_n hx hb dX3_faultOn_40 rfl (lv_at hl 4 rfl) ?_
    refine K_iald hx hb hK hP 4 0 rfl rfl t (by omega) (Nat.le_of_ble_eq_true rfl) dX3_faultOn_41 ?_
    refine lv_iconst (v := 2) hx hb dX3_faultOn_42 (by decide) ?_
    refine lv_icmp_eq (tgt := 48) hx hb dX3_faultOn_43 (by decide) (fun c7 => ?_) (fun c7 => ?_)
    · refine lv_iload hx hb dX3_faultOn_48 (lv_at hl 0 rfl) ?_
      refine lv_ineg hx hb dX3_faultOn_50 ?_
      refine lv_iload hx hb dX3_faultOn_51 (lv_at hl 1 rfl) ?_
      refine lv_icmp_le (tgt := 68) hx hb dX3_faultOn_53 (by decide) (fun c8 => ?_) (fun c8 => ?_)
      · refine lv_iconst (v := 0) hx hb dX3_faultOn_68 (by decide) ?_
        exact K_iret (wf := (fun (_ : Unit) => wX3 cI cZ cG h3 a3 (nI nr) (nI nt) (nI nc) rd rr rs so tr si gr ct cd cs)) () hx hb hr hlocks hP hK hD hS dX3_faultOn_69 ((flt_0 (by first | exact Or.inl (by assumption) | exact Or.inr (by assumption)) (by first | exact Or.inl (by assumption) | exact Or.inr (by assumption))).symm)
      · refine lv_aload_n hx hb dX3_faultOn_56 rfl (lv_at hl 3 rfl) ?_
        refine va_get (D := D) (ci := 3) (v := .ref (a3 3)) (C := RX3) (T := TX3) (N := 13) hx hb hts inX3_faultOn hown hK hP 0 rfl rfl 4 (by decide) fl21 (fun _ h9 => h9) rfl dX3_faultOn_57 ?_
        refine lv_iload_n hx hb dX3_faultOn_60 rfl (lv_at hl 4 rfl) ?_
        refine K_iald hx hb hK hP 4 0 rfl rfl t (by omega) (Nat.le_of_ble_eq_true rfl) dX3_faultOn_61 ?_
        refine lv_iconst (v := 1) hx hb dX3_faultOn_62 (by decide) ?_
        refine lv_icmp_eq (tgt := 68) hx hb dX3_faultOn_63 (by decide) (fun c9 => ?_) (fun c9 => ?_)
        · refine lv_iconst (v := 0) hx hb dX3_faultOn_68 (by decide) ?_
          exact K_iret (wf := (fun (_ : Unit) => wX3 cI cZ cG h3 a3 (nI nr) (nI nt) (nI nc) rd rr rs so tr si gr ct cd cs)) () hx hb hr hlocks hP hK hD hS dX3_faultOn_69 ((flt_0 (by first | exact Or.inl (by assumption) | exact Or.inr (by assumption)) (by first | exact Or.inl (by assumption) | exact Or.inr (by assumption))).symm)
        · refine lv_iconst (v := 2) hx hb dX3_faultOn_66 (by decide) ?_
          exact K_iret (wf := (fun (_ : Unit) => wX3 cI cZ cG h3 a3 (nI nr) (nI nt) (nI nc) rd rr rs so tr si gr ct cd cs)) () hx hb hr hlocks hP hK hD hS dX3_faultOn_67 ((flt_2 (by first | exact Or.inl (by assumption) | exact Or.inr (by assumption)) (by assumption) (by assumption)).symm)
    · refine lv_iconst (v := 1) hx hb dX3_faultOn_46 (by decide) ?_
      exact K_iret (wf := (fun (_ : Unit) => wX3 cI cZ cG h3 a3 (nI nr) (nI nt) (nI nc) rd rr rs so tr si gr ct cd cs)) () hx hb hr hlocks hP hK hD hS dX3_faultOn_47 ((flt_1 (by assumption) (by assumption)).symm)
set_option maxHeartbeats 8000000 in
set_option maxRecDepth 100000 in
/-- lookAt -/
theorem c_X3_lookAt (l : Launch) (D : va_G) (cI cZ cG : ClassId) (h3 : Nat) (a3 : Nat → Nat) (sz : Nat) (nr : Nat) (nt : Nat) (nc : Nat) (rd : Nat → Int32) (rr : Nat → Int32) (rs : Nat → Int32) (so : Nat → Int32) (tr : Nat → Int32) (si : Nat → Int32) (gr : Nat → Int32) (ct : Nat → Int32) (cd : Nat → Int32) (cs : Nat → Int32) (x : Int32) (d : Int32) (w : Int32) (hnr : nr ≤ 6) (hnt : nt ≤ 20) (hnc : nc ≤ 60) (hrr : ∀ k, k < nr → ¬ rr k = 0) : Met l yX3_lookAt wsX3_lookAt ({ frames := 4, cells := 0, slots := 0, locals := 92 } : Room) (va_Pc [.ref h3, .int x, .int d, .int w] (PB D (tyL cI cZ cG) (wX3 cI cZ cG h3 a3 (nI nr) (nI nt) (nI nc) rd rr rs so tr si gr ct cd cs) sz)) (va_Qi (fun (r : Int32) (_ : Unit) => r = rLook nr nt nc rd rr rs so tr si gr ct cd cs x d w) (fun u => QB D (tyL cI cZ cG) (va_A (wX3 cI cZ cG h3 a3 (nI nr) (nI nt) (nI nc) rd rr rs so tr si gr ct cd cs) sz) ((fun (_ : Unit) => wX3 cI cZ cG h3 a3 (nI nr) (nI nt) (nI nc) rd rr rs so tr si gr ct cd cs) u)) (va_A (wX3 cI cZ cG h3 a3 (nI nr) (nI nt) (nI nc) rd rr rs so tr si gr ct cd cs) sz)) 0 0 (va_A (wX3 cI cZ cG h3 a3 (nI nr) (nI nt) (nI nc) rd rr rs so tr si gr ct cd cs) sz) := by
  refine K_start (cc := cX3_lookAt) (maxL := 4) (ret := some .int) (Qc := fun A => va_Qi (fun (r : Int32) (_ : Unit) => r = rLook nr nt nc rd rr rs so tr si gr ct cd cs x d w) (fun u => QB D (tyL cI cZ cG) A ((fun (_ : Unit) => wX3 cI cZ cG h3 a3 (nI nr) (nI nt) (nI nc) rd rr rs so tr si gr ct cd cs) u)) A) (by decide) rfl (Nat.le_of_ble_eq_true rfl) ?_
  intro p e s m below meth c ls A hx hb hml hr hts hown hlocks hin hN hP hK hD hA hS hl hsz
  have hl : lv_has ls 4 [(0, .ref h3), (1, .int x), (2, .int d), (3, .int w)] := hl
  refine lv_aload_n hx hb dX3_lookAt_0 rfl (lv_at hl 0 rfl) ?_
  refine lv_iload_n hx hb dX3_lookAt_1 rfl (lv_at hl 1 rfl) ?_
  refine K_same (va_runV (As := [.int x]) (rest := []) ⟨hx, hb, hml, hown, hts⟩ (c_X3_isThing l D cI cZ cG h3 a3 _ nr nt nc rd rr rs so tr si gr ct cd cs x hnr hnt hnc) (cwV 1 hts gX3_lookAt_X3_isThing rfl rfl rfl (by decide +kernel) ⟨(Nat.le_of_ble_eq_true rfl), (Nat.le_of_ble_eq_true rfl)⟩) ⟨PB_blind, va_recv hK hP (ci := 3) (q0 := 0) rfl rfl, (K_preS hN hK hP hD).2⟩ rfl rfl hl.1 rfl (lv_room (Nat.le_of_ble_eq_true rfl)) dX3_lookAt_2 ⟨Nat.zero_le _, Nat.zero_le _⟩) hD hS hA (fun r1 u H locs hw1 hP hD hS => ?_)
  have hP : va_P D vwCl (wX3 cI cZ cG h3 a3 (nI nr) (nI nt) (nI nc) rd rr rs so tr si gr ct cd cs) H := hP
  have hD : va_D A (wX3 cI cZ cG h3 a3 (nI nr) (nI nt) (nI nc) rd rr rs so tr si gr ct cd cs) := hD
  rcases hw1 with ⟨rfl, hw1⟩ | ⟨rfl, hw1⟩
  · obtain ⟨t, ht, rfl⟩ := inR_lt (by omega) hw1
    have hct : (nI t).toNatClampNeg = t := nI_clamp (by omega)
    refine lv_if_ne (tgt := 10) hx hb dX3_lookAt_5 (by decide) (fun _ => ?_) (fun c2 => absurd c2 (by decide))
    refine lv_iload_n hx hb dX3_lookAt_10 rfl (lv_at hl 2 rfl) ?_
    refine K_none (va_runSN (As := [.int d]) (rest := []) ⟨hx, hb, hml, hown, hts⟩ (c_X4_isDay l D cI cZ cG _ d) ⟨va_cnB (host := "ModelTown") 1 hts gX3_lookAt_X4_isDay_n42 rfl rfl rfl hN.2.2.2.2.2.2.1 (hts (.initialized RX4) (by decide +kernel)) (by decide +kernel) ⟨(Nat.le_of_ble_eq_true rfl), (Nat.le_of_ble_eq_true rfl)⟩, hts (.static yX4_isDay) (by decide +kernel), trivial⟩ (K_pre0 hN hK) rfl rfl hl.1 rfl (lv_room (Nat.le_of_ble_eq_true rfl)) dX3_lookAt_11 ⟨Nat.zero_le _, Nat.zero_le _⟩) hP hS hA (fun r3 _ H locs hw3 hP hS => ?_)
    rcases hw3 with ⟨rfl, hw3⟩ | ⟨rfl, hw3⟩
    · skip
      refine lv_if_ne (tgt := 20) hx hb dX3_lookAt_14 (by decide) (fun _ => ?_) (fun c4 => absurd c4 (by decide))
      refine lv_iload_n hx hb dX3_lookAt_20 rfl (lv_at hl 3 rfl) ?_
      rcases (sw_3 w : w = 0 ∨ w = 1 ∨ w = 2 ∨ (w.toInt < 0 ∨ 2 < w.toInt)) with hsw5 | hsw5 | hsw5 | hsw5
      · subst hsw5
        refine lv_tableIn (off := 27) (tgt := 48) hx hb dX3_lookAt_21 (by decide) (by decide) (by rfl) (by decide) ?_
        refine lv_aload_n hx hb dX3_lookAt_48 rfl (lv_at hl 0 rfl) ?_
        refine lv_iload_n hx hb dX3_lookAt_49 rfl (lv_at hl 1 rfl) ?_
        refine lv_iload_n hx hb dX3_lookAt_50 rfl (lv_at hl 2 rfl) ?_
        refine K_same (va_runV (As := [.int (nI t), .int d]) (rest := []) ⟨hx, hb, hml, hown, hts⟩ (c_X3_sizeOn l D cI cZ cG h3 a3 _ nr nt nc rd rr rs so tr si gr ct cd cs t d hnr hnt hnc (by omega)) (cwV 2 hts gX3_lookAt_X3_sizeOn rfl rfl rfl (by decide +kernel) ⟨(Nat.le_of_ble_eq_true rfl), (Nat.le_of_ble_eq_true rfl)⟩) ⟨PB_blind, va_recv hK hP (ci := 3) (q0 := 0) rfl rfl, (K_preS hN hK hP hD).2⟩ rfl rfl hl.1 rfl (lv_room (Nat.le_of_ble_eq_true rfl)) dX3_lookAt_51 ⟨Nat.zero_le _, Nat.zero_le _⟩) hD hS hA (fun r6 u H locs hw6 hP hD hS => ?_)
        have hP : va_P D vwCl (wX3 cI cZ cG h3 a3 (nI nr) (nI nt) (nI nc) rd rr rs so tr si gr ct cd cs) H := hP
        have hD : va_D A (wX3 cI cZ cG h3 a3 (nI nr) (nI nt) (nI nc) rd rr rs so tr si gr ct cd cs) := hD
        obtain rfl := hw6
        exact K_iret (wf := (fun (_ : Unit) => wX3 cI cZ cG h3 a3 (nI nr) (nI nt) (nI nc) rd rr rs so tr si gr ct cd cs)) () hx hb hr hlocks hP hK hD hS dX3_lookAt_54 (by simp [rLook, hw1, hct, hw3])
      · subst hsw5
        refine lv_tableIn (off := 34) (tgt := 55) hx hb dX3_lookAt_21 (by decide) (by decide) (by rfl) (by decide) ?_
        refine lv_aload_n hx hb dX3_lookAt_55 rfl (lv_at hl 0 rfl) ?_
        refine lv_iload_n hx hb dX3_lookAt_56 rfl (lv_at hl 1 rfl) ?_
        refine lv_iload_n hx hb dX3_lookAt_57 rfl (lv_at hl 2 rfl) ?_
        refine K_same (va_runV (As := [.int (nI t), .int d]) (rest := []) ⟨hx, hb, hml, hown, hts⟩ (c_X3_dueOn l D cI cZ cG h3 a3 _ nr nt nc rd rr rs so tr si gr ct cd cs t d hnr hnt hnc (by omega) hrr) (cwV 2 hts gX3_lookAt_X3_dueOn rfl rfl rfl (by decide +kernel) ⟨(Nat.le_of_ble_eq_true rfl), (Nat.le_of_ble_eq_true rfl)⟩) ⟨PB_blind, va_recv hK hP (ci := 3) (q0 := 0) rfl rfl, (K_preS hN hK hP hD).2⟩ rfl rfl hl.1 rfl (lv_room (Nat.le_of_ble_eq_true rfl)) dX3_lookAt_58 ⟨Nat.zero_le _, Nat.zero_le _⟩) hD hS hA (fun r7 u H locs hw7 hP hD hS => ?_)
        have hP : va_P D vwCl (wX3 cI cZ cG h3 a3 (nI nr) (nI nt) (nI nc) rd rr rs so tr si gr ct cd cs) H := hP
        have hD : va_D A (wX3 cI cZ cG h3 a3 (nI nr) (nI nt) (nI nc) rd rr rs so tr si gr ct cd cs) := hD
        obtain rfl := hw7
        exact K_iret (wf := (fun (_ : Unit) => wX3 cI cZ cG h3 a3 (nI nr) (nI nt) (nI nc) rd rr rs so tr si gr ct cd cs)) () hx hb hr hlocks hP hK hD hS dX3_lookAt_61 (by simp [rLook, hw1, hct, hw3])
      · subst hsw5
        refine lv_tableIn (off := 41) (tgt := 62) hx hb dX3_lookAt_21 (by decide) (by decide) (by rfl) (by decide) ?_
        refine lv_aload_n hx hb dX3_lookAt_62 rfl (lv_at hl 0 rfl) ?_
        refine lv_iload_n hx hb dX3_lookAt_63 rfl (lv_at hl 1 rfl) ?_
        refine lv_iload_n hx hb dX3_lookAt_64 rfl (lv_at hl 2 rfl) ?_
        refine K_same (va_runV (As := [.int (nI t), .int d]) (rest := []) ⟨hx, hb, hml, hown, hts⟩ (c_X3_faultOn l D cI cZ cG h3 a3 _ nr nt nc rd rr rs so tr si gr ct cd cs t d hnr hnt hnc (by omega) hrr) (cwV 2 hts gX3_lookAt_X3_faultOn rfl rfl rfl (by decide +kernel) ⟨(Nat.le_of_ble_eq_true rfl), (Nat.le_of_ble_eq_true rfl)⟩) ⟨PB_blind, va_recv hK hP (ci := 3) (q0 := 0) rfl rfl, (K_preS hN hK hP hD).2⟩ rfl rfl hl.1 rfl (lv_room (Nat.le_of_ble_eq_true rfl)) dX3_lookAt_65 ⟨Nat.zero_le _, Nat.zero_le _⟩) hD hS hA (fun r8 u H locs hw8 hP hD hS => ?_)
        have hP : va_P D vwCl (wX3 cI cZ cG h3 a3 (nI nr) (nI nt) (nI nc) rd rr rs so tr si gr ct cd cs) H := hP
        have hD : va_D A (wX3 cI cZ cG h3 a3 (nI nr) (nI nt) (nI nc) rd rr rs so tr si gr ct cd cs) := hD
        obtain rfl := hw8
        exact K_iret (wf := (fun (_ : Unit) => wX3 cI cZ cG h3 a3 (nI nr) (nI nt) (nI nc) rd rr rs so tr si gr ct cd cs)) () hx hb hr hlocks hP hK hD hS dX3_lookAt_68 (by simp [rLook, hw1, hct, hw3])
      · have n9 : ¬ w = 0 := fun hq => by rw [hq] at hsw5; revert hsw5; decide
        have n10 : ¬ w = 1 := fun hq => by rw [hq] at hsw5; revert hsw5; decide
        have n11 : ¬ w = 2 := fun hq => by rw [hq] at hsw5; revert hsw5; decide
        refine lv_tableOut (tgt := 69) hx hb dX3_lookAt_21 hsw5 (by decide) ?_
        refine lv_bipush (v := (-2)) hx hb dX3_lookAt_69 (by decide) ?_
        exact K_iret (wf := (fun (_ : Unit) => wX3 cI cZ cG h3 a3 (nI nr) (nI nt) (nI nc) rd rr rs so tr si gr ct cd cs)) () hx hb hr hlocks hP hK hD hS dX3_lookAt_71 (by simp [rLook, hw1, hct, hw3, n9, n10, n11])
    · skip
      refine lv_if_ne (tgt := 20) hx hb dX3_lookAt_14 (by decide) (fun c12 => absurd c12 (by decide)) (fun _ => ?_)
      refine lv_bipush (v := (-2)) hx hb dX3_lookAt_17 (by decide) ?_
      exact K_iret (wf := (fun (_ : Unit) => wX3 cI cZ cG h3 a3 (nI nr) (nI nt) (nI nc) rd rr rs so tr si gr ct cd cs)) () hx hb hr hlocks hP hK hD hS dX3_lookAt_19 (by simp [rLook, hw1, hct, hw3])
  · skip
    refine lv_if_ne (tgt := 10) hx hb dX3_lookAt_5 (by decide) (fun c13 => absurd c13 (by decide)) (fun _ => ?_)
    refine lv_iconst (v := (-1)) hx hb dX3_lookAt_8 (by decide) ?_
    exact K_iret (wf := (fun (_ : Unit) => wX3 cI cZ cG h3 a3 (nI nr) (nI nt) (nI nc) rd rr rs so tr si gr ct cd cs)) () hx hb hr hlocks hP hK hD hS dX3_lookAt_9 (by simp [rLook, hw1])
theorem inX3_firstFaulty : ∀ w ∈ wsX30, w ∈ wsX3_firstFaulty := by decide +kernel
set_option maxHeartbeats 8000000 in
set_option maxRecDepth 100000 in
/-- firstFaulty -/
theorem c_X3_firstFaulty (l : Launch) (D : va_G) (cI cZ cG : ClassId) (h3 : Nat) (a3 : Nat → Nat) (sz : Nat) (nr : Nat) (nt : Nat) (nc : Nat) (rd : Nat → Int32) (rr : Nat → Int32) (rs : Nat → Int32) (so : Nat → Int32) (tr : Nat → Int32) (si : Nat → Int32) (gr : Nat → Int32) (ct : Nat → Int32) (cd : Nat → Int32) (cs : Nat → Int32) (d : Int32) (hnr : nr ≤ 6) (hnt : nt ≤ 20) (hnc : nc ≤ 60) (hrr : ∀ k, k < nr → ¬ rr k = 0) : Met l yX3_firstFaulty wsX3_firstFaulty ({ frames := 4, cells := 0, slots := 0, locals := 92 } : Room) (va_Pc [.ref h3, .int d] (PB D (tyL cI cZ cG) (wX3 cI cZ cG h3 a3 (nI nr) (nI nt) (nI nc) rd rr rs so tr si gr ct cd cs) sz)) (va_Qi (fun (r : Int32) (_ : Unit) => if inR d 0 3000 = true then fst (fun t => ¬ fA nr nc rd rr rs so tr si gr ct cd cs t d = 0) 0 nt r else r = -2) (fun u => QB D (tyL cI cZ cG) (va_A (wX3 cI cZ cG h3 a3 (nI nr) (nI nt) (nI nc) rd rr rs so tr si gr ct cd cs) sz) ((fun (_ : Unit) => wX3 cI cZ cG h3 a3 (nI nr) (nI nt) (nI nc) rd rr rs so tr si gr ct cd cs) u)) (va_A (wX3 cI cZ cG h3 a3 (nI nr) (nI nt) (nI nc) rd rr rs so tr si gr ct cd cs) sz)) 0 0 (va_A (wX3 cI cZ cG h3 a3 (nI nr) (nI nt) (nI nc) rd rr rs so tr si gr ct cd cs) sz) := by
  refine K_start (cc := cX3_firstFaulty) (maxL := 3) (ret := some .int) (Qc := fun A => va_Qi (fun (r : Int32) (_ : Unit) => if inR d 0 3000 = true then fst (fun t => ¬ fA nr nc rd rr rs so tr si gr ct cd cs t d = 0) 0 nt r else r = -2) (fun u => QB D (tyL cI cZ cG) A ((fun (_ : Unit) => wX3 cI cZ cG h3 a3 (nI nr) (nI nt) (nI nc) rd rr rs so tr si gr ct cd cs) u)) A) (by decide) rfl (Nat.le_of_ble_eq_true rfl) ?_
  intro p e s m below meth c ls A hx hb hml hr hts hown hlocks hin hN hP hK hD hA hS hl hsz
  have hl : lv_has ls 3 [(0, .ref h3), (1, .int d)] := hl
  have fl62 := hts (.fieldLink RX3 62 "ModelTown$Scale" "things" "I") (by decide +kernel)
  refine lv_iload_n hx hb dX3_firstFaulty_0 rfl (lv_at hl 1 rfl) ?_
  refine K_none (va_runSN (As := [.int d]) (rest := []) ⟨hx, hb, hml, hown, hts⟩ (c_X4_isDay l D cI cZ cG _ d) ⟨va_cnB (host := "ModelTown") 1 hts gX3_firstFaulty_X4_isDay_n42 rfl rfl rfl hN.2.2.2.2.2.2.1 (hts (.initialized RX4) (by decide +kernel)) (by decide +kernel) ⟨(Nat.le_of_ble_eq_true rfl), (Nat.le_of_ble_eq_true rfl)⟩, hts (.static yX4_isDay) (by decide +kernel), trivial⟩ (K_pre0 hN hK) rfl rfl hl.1 rfl (lv_room (Nat.le_of_ble_eq_true rfl)) dX3_firstFaulty_1 ⟨Nat.zero_le _, Nat.zero_le _⟩) hP hS hA (fun r1 _ H locs hw1 hP hS => ?_)
  rcases hw1 with ⟨rfl, hw1⟩ | ⟨rfl, hw1⟩
  · skip
    refine lv_if_ne (tgt := 10) hx hb dX3_firstFaulty_4 (by decide) (fun _ => ?_) (fun c2 => absurd c2 (by decide))
    refine lv_iconst (v := 0) hx hb dX3_firstFaulty_10 (by decide) ?_
    refine lv_istore_n (lv' := [(2, .int 0), (0, .ref h3), (1, .int d)]) hx hb dX3_firstFaulty_11 rfl hl (by decide) rfl (fun ls hl => ?_)
    refine loopW1 (fun (t : Nat) H locs ls => (t ≤ nt) ∧ (∀ j, 0 ≤ j → j < t → ¬ ¬ fA nr nc rd rr rs so tr si gr ct cd cs j d = 0) ∧ va_P D vwCl (wX3 cI cZ cG h3 a3 (nI nr) (nI nt) (nI nc) rd rr rs so tr si gr ct cd cs) H ∧ va_D A (wX3 cI cZ cG h3 a3 (nI nr) (nI nt) (nI nc) rd rr rs so tr si gr ct cd cs) ∧ va_S A s.heap H locs ∧ lv_has ls 3 [(2, .int (nI t)), (0, .ref h3), (1, .int d)]) (fun (t : Nat) => nt - t) (fun t H locs ls hI ih12 => ?_) 0 _ _ _ ⟨(by omega), (fun j _ hj => absurd hj (by omega)), hP, hD, hS, lv_sub hl [0, 1, 2] rfl⟩
    obtain ⟨htt, hz, hP, hD, hS, hl⟩ := hI
    refine lv_iload_n hx hb dX3_firstFaulty_12 rfl (lv_at hl 0 rfl) ?_
    refine lv_aload_n hx hb dX3_firstFaulty_13 rfl (lv_at hl 1 rfl) ?_
    refine va_get (D := D) (ci := 3) (v := .int (nI nt)) (C := RX3) (T := TX3) (N := 13) hx hb hts inX3_firstFaulty hown hK hP 0 rfl rfl 8 (by decide) fl62 (fun _ h9 => h9) rfl dX3_firstFaulty_14 ?_
    refine lv_icmp_ge (tgt := 37) hx hb dX3_firstFaulty_17 (by decide) (fun c3 => ?_) (fun c3 => ?_)
    · have c3 : nt ≤ t := (nI_leI (a := nt) (b := t) (by omega) (by omega)).mp c3
      have ek : t = nt := by omega
      rw [ek] at hz
      refine lv_bipush (v := (-6)) hx hb dX3_firstFaulty_37 (by decide) ?_
      exact K_iret (wf := (fun (_ : Unit) => wX3 cI cZ cG h3 a3 (nI nr) (nI nt) (nI nc) rd rr rs so tr si gr ct cd cs)) () hx hb hr hlocks hP hK hD hS dX3_firstFaulty_39 (by rw [if_pos hw1]; exact Or.inr ⟨rfl, hz⟩)
    · have c3 : ¬ nt ≤ t := fun hq => c3 ((nI_leI (a := nt) (b := t) (by omega) (by omega)).mpr hq)
      have ht : t < nt := by omega
      refine lv_aload_n hx hb dX3_firstFaulty_20 rfl (lv_at hl 1 rfl) ?_
      refine lv_iload_n hx hb dX3_firstFaulty_21 rfl (lv_at hl 0 rfl) ?_
      refine lv_iload_n hx hb dX3_firstFaulty_22 rfl (lv_at hl 2 rfl) ?_
      refine K_same (va_runV (As := [.int (nI t), .int d]) (rest := []) ⟨hx, hb, hml, hown, hts⟩ (c_X3_faultOn l D cI cZ cG h3 a3 _ nr nt nc rd rr rs so tr si gr ct cd cs t d hnr hnt hnc ht hrr) (cwV 2 hts gX3_firstFaulty_X3_faultOn rfl rfl rfl (by decide +kernel) ⟨(Nat.le_of_ble_eq_true rfl), (Nat.le_of_ble_eq_true rfl)⟩) ⟨PB_blind, va_recv hK hP (ci := 3) (q0 := 0) rfl rfl, (K_preS hN hK hP hD).2⟩ rfl rfl hl.1 rfl (lv_room (Nat.le_of_ble_eq_true rfl)) dX3_firstFaulty_23 ⟨Nat.zero_le _, Nat.zero_le _⟩) hD hS hA (fun r4 u H locs hw4 hP hD hS => ?_)
      have hP : va_P D vwCl (wX3 cI cZ cG h3 a3 (nI nr) (nI nt) (nI nc) rd rr rs so tr si gr ct cd cs) H := hP
      have hD : va_D A (wX3 cI cZ cG h3 a3 (nI nr) (nI nt) (nI nc) rd rr rs so tr si gr ct cd cs) := hD
      obtain rfl := hw4
      refine lv_if_eq (tgt := 31) hx hb dX3_firstFaulty_26 (by decide) (fun c5 => ?_) (fun c5 => ?_)
      · refine lv_iinc (v := nI (t + 1)) (lv' := [(2, .int (nI (t + 1))), (0, .ref h3), (1, .int d)]) hx hb dX3_firstFaulty_31 hl (k := 0) rfl (inc1 _) (by decide) rfl (fun ls hl => ?_)
        refine lv_goto (tgt := 12) hx hb dX3_firstFaulty_34 (by decide) ?_
        exact ih12 (t + 1) _ _ _ ⟨(by omega), (fun j hj0 hj => by
          rcases Nat.lt_or_ge j t with q | q
          · exact hz j hj0 q
          · obtain rfl : j = t := by omega
            exact fun hq => hq c5), hP, hD, hS, lv_sub hl [0, 1, 2] rfl⟩ (by omega)
      · refine lv_iload_n hx hb dX3_firstFaulty_29 rfl (lv_at hl 0 rfl) ?_
        exact K_iret (wf := (fun (_ : Unit) => wX3 cI cZ cG h3 a3 (nI nr) (nI nt) (nI nc) rd rr rs so tr si gr ct cd cs)) () hx hb hr hlocks hP hK hD hS dX3_firstFaulty_30 (by rw [if_pos hw1]; exact Or.inl ⟨t, by omega, by omega, rfl, c5, hz⟩)
  · skip
    refine lv_if_ne (tgt := 10) hx hb dX3_firstFaulty_4 (by decide) (fun c6 => absurd c6 (by decide)) (fun _ => ?_)
    refine lv_bipush (v := (-2)) hx hb dX3_firstFaulty_7 (by decide) ?_
    exact K_iret (wf := (fun (_ : Unit) => wX3 cI cZ cG h3 a3 (nI nr) (nI nt) (nI nc) rd rr rs so tr si gr ct cd cs)) () hx hb hr hlocks hP hK hD hS dX3_firstFaulty_9 (by rw [if_neg hw1])
set_option maxHeartbeats 8000000 in
set_option maxRecDepth 100000 in
/-- firstFaultyDay -/
theorem c_X3_firstFaultyDay (l : Launch) (D : va_G) (cI cZ cG : ClassId) (h3 : Nat) (a3 : Nat → Nat) (sz : Nat) (nr : Nat) (nt : Nat) (nc : Nat) (rd : Nat → Int32) (rr : Nat → Int32) (rs : Nat → Int32) (so : Nat → Int32) (tr : Nat → Int32) (si : Nat → Int32) (gr : Nat → Int32) (ct : Nat → Int32) (cd : Nat → Int32) (cs : Nat → Int32) (x : Int32) (f : Int32) (hnr : nr ≤ 6) (hnt : nt ≤ 20) (hnc : nc ≤ 60) (hrr : ∀ k, k < nr → ¬ rr k = 0) : Met l yX3_firstFaultyDay wsX3_firstFaultyDay ({ frames := 4, cells := 0, slots := 0, locals := 92 } : Room) (va_Pc [.ref h3, .int x, .int f] (PB D (tyL cI cZ cG) (wX3 cI cZ cG h3 a3 (nI nr) (nI nt) (nI nc) rd rr rs so tr si gr ct cd cs) sz)) (va_Qi (fun (r : Int32) (_ : Unit) => if inR x 0 (nI nt - 1) = true then (if inR f 0 3000 = true then fst (fun k => ¬ fA nr nc rd rr rs so tr si gr ct cd cs x.toNatClampNeg (nI k) = 0) f.toNatClampNeg 3001 r else r = -2) else r = -1) (fun u => QB D (tyL cI cZ cG) (va_A (wX3 cI cZ cG h3 a3 (nI nr) (nI nt) (nI nc) rd rr rs so tr si gr ct cd cs) sz) ((fun (_ : Unit) => wX3 cI cZ cG h3 a3 (nI nr) (nI nt) (nI nc) rd rr rs so tr si gr ct cd cs) u)) (va_A (wX3 cI cZ cG h3 a3 (nI nr) (nI nt) (nI nc) rd rr rs so tr si gr ct cd cs) sz)) 0 0 (va_A (wX3 cI cZ cG h3 a3 (nI nr) (nI nt) (nI nc) rd rr rs so tr si gr ct cd cs) sz) := by
  refine K_start (cc := cX3_firstFaultyDay) (maxL := 4) (ret := some .int) (Qc := fun A => va_Qi (fun (r : Int32) (_ : Unit) => if inR x 0 (nI nt - 1) = true then (if inR f 0 3000 = true then fst (fun k => ¬ fA nr nc rd rr rs so tr si gr ct cd cs x.toNatClampNeg (nI k) = 0) f.toNatClampNeg 3001 r else r = -2) else r = -1) (fun u => QB D (tyL cI cZ cG) A ((fun (_ : Unit) => wX3 cI cZ cG h3 a3 (nI nr) (nI nt) (nI nc) rd rr rs so tr si gr ct cd cs) u)) A) (by decide) rfl (Nat.le_of_ble_eq_true rfl) ?_
  intro p e s m below meth c ls A hx hb hml hr hts hown hlocks hin hN hP hK hD hA hS hl hsz
  have hl : lv_has ls 4 [(0, .ref h3), (1, .int x), (2, .int f)] := hl
  refine lv_aload_n hx hb dX3_firstFaultyDay_0 rfl (lv_at hl 0 rfl) ?_
  refine lv_iload_n hx hb dX3_firstFaultyDay_1 rfl (lv_at hl 1 rfl) ?_
  refine K_same (va_runV (As := [.int x]) (rest := []) ⟨hx, hb, hml, hown, hts⟩ (c_X3_isThing l D cI cZ cG h3 a3 _ nr nt nc rd rr rs so tr si gr ct cd cs x hnr hnt hnc) (cwV 1 hts gX3_firstFaultyDay_X3_isThing rfl rfl rfl (by decide +kernel) ⟨(Nat.le_of_ble_eq_true rfl), (Nat.le_of_ble_eq_true rfl)⟩) ⟨PB_blind, va_recv hK hP (ci := 3) (q0 := 0) rfl rfl, (K_preS hN hK hP hD).2⟩ rfl rfl hl.1 rfl (lv_room (Nat.le_of_ble_eq_true rfl)) dX3_firstFaultyDay_2 ⟨Nat.zero_le _, Nat.zero_le _⟩) hD hS hA (fun r1 u H locs hw1 hP hD hS => ?_)
  have hP : va_P D vwCl (wX3 cI cZ cG h3 a3 (nI nr) (nI nt) (nI nc) rd rr rs so tr si gr ct cd cs) H := hP
  have hD : va_D A (wX3 cI cZ cG h3 a3 (nI nr) (nI nt) (nI nc) rd rr rs so tr si gr ct cd cs) := hD
  rcases hw1 with ⟨rfl, hw1⟩ | ⟨rfl, hw1⟩
  · obtain ⟨t, ht, rfl⟩ := inR_lt (by omega) hw1
    have hct : (nI t).toNatClampNeg = t := nI_clamp (by omega)
    refine lv_if_ne (tgt := 10) hx hb dX3_firstFaultyDay_5 (by decide) (fun _ => ?_) (fun c2 => absurd c2 (by decide))
    refine lv_iload_n hx hb dX3_firstFaultyDay_10 rfl (lv_at hl 2 rfl) ?_
    refine K_none (va_runSN (As := [.int f]) (rest := []) ⟨hx, hb, hml, hown, hts⟩ (c_X4_isDay l D cI cZ cG _ f) ⟨va_cnB (host := "ModelTown") 1 hts gX3_firstFaultyDay_X4_isDay_n42 rfl rfl rfl hN.2.2.2.2.2.2.1 (hts (.initialized RX4) (by decide +kernel)) (by decide +kernel) ⟨(Nat.le_of_ble_eq_true rfl), (Nat.le_of_ble_eq_true rfl)⟩, hts (.static yX4_isDay) (by decide +kernel), trivial⟩ (K_pre0 hN hK) rfl rfl hl.1 rfl (lv_room (Nat.le_of_ble_eq_true rfl)) dX3_firstFaultyDay_11 ⟨Nat.zero_le _, Nat.zero_le _⟩) hP hS hA (fun r3 _ H locs hw3 hP hS => ?_)
    rcases hw3 with ⟨rfl, hw3⟩ | ⟨rfl, hw3⟩
    · obtain ⟨f0, hf0, rfl⟩ := inR_nat (n := 3000) hw3 (by decide)
      have hcf0 : (nI f0).toNatClampNeg = f0 := nI_clamp (by omega)
      refine lv_if_ne (tgt := 20) hx hb dX3_firstFaultyDay_14 (by decide) (fun _ => ?_) (fun c4 => absurd c4 (by decide))
      refine lv_iload_n hx hb dX3_firstFaultyDay_20 rfl (lv_at hl 2 rfl) ?_
      refine lv_istore_n (lv' := [(3, .int (nI f0)), (0, .ref h3), (1, .int (nI t)), (2, .int (nI f0))]) hx hb dX3_firstFaultyDay_21 rfl hl (by decide) rfl (fun ls hl => ?_)
      refine loopW1 (fun (k : Nat) H locs ls => (f0 ≤ k) ∧ (k ≤ 3001) ∧ (∀ j, f0 ≤ j → j < k → ¬ ¬ fA nr nc rd rr rs so tr si gr ct cd cs t (nI j) = 0) ∧ va_P D vwCl (wX3 cI cZ cG h3 a3 (nI nr) (nI nt) (nI nc) rd rr rs so tr si gr ct cd cs) H ∧ va_D A (wX3 cI cZ cG h3 a3 (nI nr) (nI nt) (nI nc) rd rr rs so tr si gr ct cd cs) ∧ va_S A s.heap H locs ∧ lv_has ls 4 [(3, .int (nI k)), (0, .ref h3), (1, .int (nI t)), (2, .int (nI f0))]) (fun (k : Nat) => 3001 - k) (fun k H locs ls hI ih22 => ?_) f0 _ _ _ ⟨(by omega), (by omega), (fun j _ hj => absurd hj (by omega)), hP, hD, hS, lv_sub hl [0, 1, 2, 3] rfl⟩
      obtain ⟨hk1, hk2, hz, hP, hD, hS, hl⟩ := hI
      refine lv_iload_n hx hb dX3_firstFaultyDay_22 rfl (lv_at hl 0 rfl) ?_
      refine lv_sipush (v := 3000) hx hb dX3_firstFaultyDay_23 (by decide) ?_
      refine lv_icmp_gt (tgt := 46) hx hb dX3_firstFaultyDay_26 (by decide) (fun c5 => ?_) (fun c5 => ?_)
      · have c5 : 3000 < k := (nI_ltI (a := 3000) (b := k) (by omega) (by omega)).mp c5
        refine lv_bipush (v := (-6)) hx hb dX3_firstFaultyDay_46 (by decide) ?_
        exact K_iret (wf := (fun (_ : Unit) => wX3 cI cZ cG h3 a3 (nI nr) (nI nt) (nI nc) rd rr rs so tr si gr ct cd cs)) () hx hb hr hlocks hP hK hD hS dX3_firstFaultyDay_48 (by rw [if_pos hw1, if_pos hw3, hct, hcf0]; exact Or.inr ⟨rfl, fun j a b => hz j a (by omega)⟩)
      · have c5 : ¬ 3000 < k := fun hq => c5 ((nI_ltI (a := 3000) (b := k) (by omega) (by omega)).mpr hq)
        refine lv_aload_n hx hb dX3_firstFaultyDay_29 rfl (lv_at hl 1 rfl) ?_
        refine lv_iload_n hx hb dX3_firstFaultyDay_30 rfl (lv_at hl 2 rfl) ?_
        refine lv_iload_n hx hb dX3_firstFaultyDay_31 rfl (lv_at hl 0 rfl) ?_
        refine K_same (va_runV (As := [.int (nI t), .int (nI k)]) (rest := []) ⟨hx, hb, hml, hown, hts⟩ (c_X3_faultOn l D cI cZ cG h3 a3 _ nr nt nc rd rr rs so tr si gr ct cd cs t (nI k) hnr hnt hnc (by omega) hrr) (cwV 2 hts gX3_firstFaultyDay_X3_faultOn rfl rfl rfl (by decide +kernel) ⟨(Nat.le_of_ble_eq_true rfl), (Nat.le_of_ble_eq_true rfl)⟩) ⟨PB_blind, va_recv hK hP (ci := 3) (q0 := 0) rfl rfl, (K_preS hN hK hP hD).2⟩ rfl rfl hl.1 rfl (lv_room (Nat.le_of_ble_eq_true rfl)) dX3_firstFaultyDay_32 ⟨Nat.zero_le _, Nat.zero_le _⟩) hD hS hA (fun r6 u H locs hw6 hP hD hS => ?_)
        have hP : va_P D vwCl (wX3 cI cZ cG h3 a3 (nI nr) (nI nt) (nI nc) rd rr rs so tr si gr ct cd cs) H := hP
        have hD : va_D A (wX3 cI cZ cG h3 a3 (nI nr) (nI nt) (nI nc) rd rr rs so tr si gr ct cd cs) := hD
        obtain rfl := hw6
        refine lv_if_eq (tgt := 40) hx hb dX3_firstFaultyDay_35 (by decide) (fun c7 => ?_) (fun c7 => ?_)
        · refine lv_iinc (v := nI (k + 1)) (lv' := [(3, .int (nI (k + 1))), (0, .ref h3), (1, .int (nI t)), (2, .int (nI f0))]) hx hb dX3_firstFaultyDay_40 hl (k := 0) rfl (inc1 _) (by decide) rfl (fun ls hl => ?_)
          refine lv_goto (tgt := 22) hx hb dX3_firstFaultyDay_43 (by decide) ?_
          exact ih22 (k + 1) _ _ _ ⟨(by omega), (by omega), (fun j hj0 hj => by
            rcases Nat.lt_or_ge j k with q | q
            · exact hz j hj0 q
            · obtain rfl : j = k := by omega
              exact fun hq => hq c7), hP, hD, hS, lv_sub hl [0, 1, 2, 3] rfl⟩ (by omega)
        · refine lv_iload_n hx hb dX3_firstFaultyDay_38 rfl (lv_at hl 0 rfl) ?_
          exact K_iret (wf := (fun (_ : Unit) => wX3 cI cZ cG h3 a3 (nI nr) (nI nt) (nI nc) rd rr rs so tr si gr ct cd cs)) () hx hb hr hlocks hP hK hD hS dX3_firstFaultyDay_39 (by rw [if_pos hw1, if_pos hw3, hct, hcf0]; exact Or.inl ⟨k, by omega, by omega, rfl, c7, hz⟩)
    · skip
      refine lv_if_ne (tgt := 20) hx hb dX3_firstFaultyDay_14 (by decide) (fun c8 => absurd c8 (by decide)) (fun _ => ?_)
      refine lv_bipush (v := (-2)) hx hb dX3_firstFaultyDay_17 (by decide) ?_
      exact K_iret (wf := (fun (_ : Unit) => wX3 cI cZ cG h3 a3 (nI nr) (nI nt) (nI nc) rd rr rs so tr si gr ct cd cs)) () hx hb hr hlocks hP hK hD hS dX3_firstFaultyDay_19 (by rw [if_pos hw1, if_neg hw3])
  · skip
    refine lv_if_ne (tgt := 10) hx hb dX3_firstFaultyDay_5 (by decide) (fun c9 => absurd c9 (by decide)) (fun _ => ?_)
    refine lv_iconst (v := (-1)) hx hb dX3_firstFaultyDay_8 (by decide) ?_
    exact K_iret (wf := (fun (_ : Unit) => wX3 cI cZ cG h3 a3 (nI nr) (nI nt) (nI nc) rd rr rs so tr si gr ct cd cs)) () hx hb hr hlocks hP hK hD hS dX3_firstFaultyDay_9 (by rw [if_neg hw1])
theorem inX3_addRule : ∀ w ∈ wsX30, w ∈ wsX3_addRule := by decide +kernel
set_option maxHeartbeats 8000000 in
set_option maxRecDepth 100000 in
/-- addRule -/
theorem c_X3_addRule (l : Launch) (D : va_G) (cI cZ cG : ClassId) (h3 : Nat) (a3 : Nat → Nat) (sz : Nat) (nr : Nat) (nt : Nat) (nc : Nat) (rd : Nat → Int32) (rr : Nat → Int32) (rs : Nat → Int32) (so : Nat → Int32) (tr : Nat → Int32) (si : Nat → Int32) (gr : Nat → Int32) (ct : Nat → Int32) (cd : Nat → Int32) (cs : Nat → Int32) (d : Int32) (q : Int32) (v : Int32) (hnr : nr ≤ 6) (hnt : nt ≤ 20) (hnc : nc ≤ 60) : Met l yX3_addRule wsX3_addRule ({ frames := 2, cells := 0, slots := 0, locals := 42 } : Room) (va_Pc [.ref h3, .int d, .int q, .int v] (PB D (tyL cI cZ cG) (wX3 cI cZ cG h3 a3 (nI nr) (nI nt) (nI nc) rd rr rs so tr si gr ct cd cs) sz)) (va_Qi (fun (r : Int32) (u : Nat × (Nat → Int32) × (Nat → Int32) × (Nat → Int32)) => r = rRule nr d q v ∧ u = if okRule d q v = true ∧ ¬ nr = 6 then (nr + 1, upd rd nr d, upd rr nr q, upd rs nr v) else (nr, rd, rr, rs)) (fun u => QB D (tyL cI cZ cG) (va_A (wX3 cI cZ cG h3 a3 (nI nr) (nI nt) (nI nc) rd rr rs so tr si gr ct cd cs) sz) ((fun (u : Nat × (Nat → Int32) × (Nat → Int32) × (Nat → Int32)) => wX3 cI cZ cG h3 a3 (nI u.1) (nI nt) (nI nc) u.2.1 u.2.2.1 u.2.2.2 so tr si gr ct cd cs) u)) (va_A (wX3 cI cZ cG h3 a3 (nI nr) (nI nt) (nI nc) rd rr rs so tr si gr ct cd cs) sz)) 0 0 (va_A (wX3 cI cZ cG h3 a3 (nI nr) (nI nt) (nI nc) rd rr rs so tr si gr ct cd cs) sz) := by
  refine K_start (cc := cX3_addRule) (maxL := 4) (ret := some .int) (Qc := fun A => va_Qi (fun (r : Int32) (u : Nat × (Nat → Int32) × (Nat → Int32) × (Nat → Int32)) => r = rRule nr d q v ∧ u = if okRule d q v = true ∧ ¬ nr = 6 then (nr + 1, upd rd nr d, upd rr nr q, upd rs nr v) else (nr, rd, rr, rs)) (fun u => QB D (tyL cI cZ cG) A ((fun (u : Nat × (Nat → Int32) × (Nat → Int32) × (Nat → Int32)) => wX3 cI cZ cG h3 a3 (nI u.1) (nI nt) (nI nc) u.2.1 u.2.2.1 u.2.2.2 so tr si gr ct cd cs) u)) A) (by decide) rfl (Nat.le_of_ble_eq_true rfl) ?_
  intro p e s m below meth c ls A hx hb hml hr hts hown hlocks hin hN hP hK hD hA hS hl hsz
  have hl : lv_has ls 4 [(0, .ref h3), (1, .int d), (2, .int q), (3, .int v)] := hl
  have fl50 := hts (.fieldLink RX3 50 "ModelTown$Scale" "rules" "I") (by decide +kernel)
  have fl11 := hts (.fieldLink RX3 11 "ModelTown$Scale" "ruleDay" "[I") (by decide +kernel)
  have fl15 := hts (.fieldLink RX3 15 "ModelTown$Scale" "ruleRatio" "[I") (by decide +kernel)
  have fl18 := hts (.fieldLink RX3 18 "ModelTown$Scale" "ruleSlack" "[I") (by decide +kernel)
  refine lv_iload_n hx hb dX3_addRule_0 rfl (lv_at hl 1 rfl) ?_
  refine K_none (va_runSN (As := [.int d]) (rest := []) ⟨hx, hb, hml, hown, hts⟩ (c_X4_isDay l D cI cZ cG _ d) ⟨va_cnB (host := "ModelTown") 1 hts gX3_addRule_X4_isDay_n42 rfl rfl rfl hN.2.2.2.2.2.2.1 (hts (.initialized RX4) (by decide +kernel)) (by decide +kernel) ⟨(Nat.le_of_ble_eq_true rfl), (Nat.le_of_ble_eq_true rfl)⟩, hts (.static yX4_isDay) (by decide +kernel), trivial⟩ (K_pre0 hN hK) rfl rfl hl.1 rfl (lv_room (Nat.le_of_ble_eq_true rfl)) dX3_addRule_1 ⟨Nat.zero_le _, Nat.zero_le _⟩) hP hS hA (fun r1 _ H locs hw1 hP hS => ?_)
  rcases hw1 with ⟨rfl, hw1⟩ | ⟨rfl, hw1⟩
  · skip
    refine lv_if_eq (tgt := 27) hx hb dX3_addRule_4 (by decide) (fun c2 => absurd c2 (by decide)) (fun _ => ?_)
    refine lv_iload_n hx hb dX3_addRule_7 rfl (lv_at hl 2 rfl) ?_
    refine lv_iconst (v := 2) hx hb dX3_addRule_8 (by decide) ?_
    refine lv_bipush (v := 30) hx hb dX3_addRule_9 (by decide) ?_
    refine K_none (va_runSN (As := [.int q, .int 2, .int 30]) (rest := []) ⟨hx, hb, hml, hown, hts⟩ (c_X4_isWithin l D cI cZ cG _ q 2 30) ⟨va_cnB (host := "ModelTown") 3 hts gX3_addRule_X4_isWithin_n46 rfl rfl rfl hN.2.2.2.2.2.2.2.1 (hts (.initialized RX4) (by decide +kernel)) (by decide +kernel) ⟨(Nat.le_of_ble_eq_true rfl), (Nat.le_of_ble_eq_true rfl)⟩, hts (.static yX4_isWithin) (by decide +kernel), trivial⟩ (K_pre0 hN hK) rfl rfl hl.1 rfl (lv_room (Nat.le_of_ble_eq_true rfl)) dX3_addRule_11 ⟨Nat.zero_le _, Nat.zero_le _⟩) hP hS hA (fun r3 _ H locs hw3 hP hS => ?_)
    rcases hw3 with ⟨rfl, hw3⟩ | ⟨rfl, hw3⟩
    · skip
      refine lv_if_eq (tgt := 27) hx hb dX3_addRule_14 (by decide) (fun c4 => absurd c4 (by decide)) (fun _ => ?_)
      refine lv_iload_n hx hb dX3_addRule_17 rfl (lv_at hl 3 rfl) ?_
      refine lv_iconst (v := 0) hx hb dX3_addRule_18 (by decide) ?_
      refine lv_bipush (v := 50) hx hb dX3_addRule_19 (by decide) ?_
      refine K_none (va_runSN (As := [.int v, .int 0, .int 50]) (rest := []) ⟨hx, hb, hml, hown, hts⟩ (c_X4_isWithin l D cI cZ cG _ v 0 50) ⟨va_cnB (host := "ModelTown") 3 hts gX3_addRule_X4_isWithin_n46 rfl rfl rfl hN.2.2.2.2.2.2.2.1 (hts (.initialized RX4) (by decide +kernel)) (by decide +kernel) ⟨(Nat.le_of_ble_eq_true rfl), (Nat.le_of_ble_eq_true rfl)⟩, hts (.static yX4_isWithin) (by decide +kernel), trivial⟩ (K_pre0 hN hK) rfl rfl hl.1 rfl (lv_room (Nat.le_of_ble_eq_true rfl)) dX3_addRule_21 ⟨Nat.zero_le _, Nat.zero_le _⟩) hP hS hA (fun r5 _ H locs hw5 hP hS => ?_)
      rcases hw5 with ⟨rfl, hw5⟩ | ⟨rfl, hw5⟩
      · skip
        refine lv_if_ne (tgt := 30) hx hb dX3_addRule_24 (by decide) (fun _ => ?_) (fun c6 => absurd c6 (by decide))
        refine lv_aload_n hx hb dX3_addRule_30 rfl (lv_at hl 0 rfl) ?_
        refine va_get (D := D) (ci := 3) (v := .int (nI nr)) (C := RX3) (T := TX3) (N := 13) hx hb hts inX3_addRule hown hK hP 0 rfl rfl 3 (by decide) fl50 (fun _ h9 => h9) rfl dX3_addRule_31 ?_
        refine lv_bipush (v := 6) hx hb dX3_addRule_34 (by decide) ?_
        refine lv_icmp_lt (tgt := 42) hx hb dX3_addRule_36 (by decide) (fun c7 => ?_) (fun c7 => ?_)
        · have c7 : nr < 6 := (nI_ltI (a := nr) (b := 6) (by omega) (by omega)).mp c7
          have c7 : ¬ nr = 6 := by omega
          refine lv_aload_n hx hb dX3_addRule_42 rfl (lv_at hl 0 rfl) ?_
          refine va_get (D := D) (ci := 3) (v := .ref (a3 0)) (C := RX3) (T := TX3) (N := 13) hx hb hts inX3_addRule hown hK hP 0 rfl rfl 0 (by decide) fl11 (fun _ h9 => h9) rfl dX3_addRule_43 ?_
          refine lv_aload_n hx hb dX3_addRule_46 rfl (lv_at hl 0 rfl) ?_
          refine va_get (D := D) (ci := 3) (v := .int (nI nr)) (C := RX3) (T := TX3) (N := 13) hx hb hts inX3_addRule hown hK hP 0 rfl rfl 3 (by decide) fl50 (fun _ h9 => h9) rfl dX3_addRule_47 ?_
          refine lv_iload_n hx hb dX3_addRule_50 rfl (lv_at hl 1 rfl) ?_
          refine K_iast hx hb hK hP hD hS 1 0 rfl rfl nr (by omega) (Nat.le_of_ble_eq_true rfl) dX3_addRule_51 (fun H locs hP hD hS => ?_)
          have hP : va_P D vwCl (wX3 cI cZ cG h3 a3 (nI nr) (nI nt) (nI nc) (upd rd nr d) rr rs so tr si gr ct cd cs) H := hP
          have hD : va_D A (wX3 cI cZ cG h3 a3 (nI nr) (nI nt) (nI nc) (upd rd nr d) rr rs so tr si gr ct cd cs) := hD
          refine lv_aload_n hx hb dX3_addRule_52 rfl (lv_at hl 0 rfl) ?_
          refine va_get (D := D) (ci := 3) (v := .ref (a3 1)) (C := RX3) (T := TX3) (N := 13) hx hb hts inX3_addRule hown hK hP 0 rfl rfl 1 (by decide) fl15 (fun _ h9 => h9) rfl dX3_addRule_53 ?_
          refine lv_aload_n hx hb dX3_addRule_56 rfl (lv_at hl 0 rfl) ?_
          refine va_get (D := D) (ci := 3) (v := .int (nI nr)) (C := RX3) (T := TX3) (N := 13) hx hb hts inX3_addRule hown hK hP 0 rfl rfl 3 (by decide) fl50 (fun _ h9 => h9) rfl dX3_addRule_57 ?_
          refine lv_iload_n hx hb dX3_addRule_60 rfl (lv_at hl 2 rfl) ?_
          refine K_iast hx hb hK hP hD hS 2 0 rfl rfl nr (by omega) (Nat.le_of_ble_eq_true rfl) dX3_addRule_61 (fun H locs hP hD hS => ?_)
          have hP : va_P D vwCl (wX3 cI cZ cG h3 a3 (nI nr) (nI nt) (nI nc) (upd rd nr d) (upd rr nr q) rs so tr si gr ct cd cs) H := hP
          have hD : va_D A (wX3 cI cZ cG h3 a3 (nI nr) (nI nt) (nI nc) (upd rd nr d) (upd rr nr q) rs so tr si gr ct cd cs) := hD
          refine lv_aload_n hx hb dX3_addRule_62 rfl (lv_at hl 0 rfl) ?_
          refine va_get (D := D) (ci := 3) (v := .ref (a3 2)) (C := RX3) (T := TX3) (N := 13) hx hb hts inX3_addRule hown hK hP 0 rfl rfl 2 (by decide) fl18 (fun _ h9 => h9) rfl dX3_addRule_63 ?_
          refine lv_aload_n hx hb dX3_addRule_66 rfl (lv_at hl 0 rfl) ?_
          refine va_get (D := D) (ci := 3) (v := .int (nI nr)) (C := RX3) (T := TX3) (N := 13) hx hb hts inX3_addRule hown hK hP 0 rfl rfl 3 (by decide) fl50 (fun _ h9 => h9) rfl dX3_addRule_67 ?_
          refine lv_iload_n hx hb dX3_addRule_70 rfl (lv_at hl 3 rfl) ?_
          refine K_iast hx hb hK hP hD hS 3 0 rfl rfl nr (by omega) (Nat.le_of_ble_eq_true rfl) dX3_addRule_71 (fun H locs hP hD hS => ?_)
          have hP : va_P D vwCl (wX3 cI cZ cG h3 a3 (nI nr) (nI nt) (nI nc) (upd rd nr d) (upd rr nr q) (upd rs nr v) so tr si gr ct cd cs) H := hP
          have hD : va_D A (wX3 cI cZ cG h3 a3 (nI nr) (nI nt) (nI nc) (upd rd nr d) (upd rr nr q) (upd rs nr v) so tr si gr ct cd cs) := hD
          refine lv_aload_n hx hb dX3_addRule_72 rfl (lv_at hl 0 rfl) ?_
          refine lv_dup hx hb dX3_addRule_73 rfl ?_
          refine va_get (D := D) (ci := 3) (v := .int (nI nr)) (C := RX3) (T := TX3) (N := 13) hx hb hts inX3_addRule hown hK hP 0 rfl rfl 3 (by decide) fl50 (fun _ h9 => h9) rfl dX3_addRule_74 ?_
          refine lv_iconst (v := 1) hx hb dX3_addRule_77 (by decide) ?_
          refine lv_iadd hx hb dX3_addRule_78 ?_
          refine lv_topi (fun z8 ez8 => ?_)
          obtain rfl : z8 = nI (nr + 1) := ez8.trans (nI_add nr 1)
          refine va_put (D := D) (ci := 3) (v := .int (nI (nr + 1))) (ty := .int) (C := RX3) (T := TX3) (N := 13) hx hb hts inX3_addRule tyX3 tyX3_ok nmX3 hown hK hP hD hS 0 rfl rfl 3 (by decide) fl50 (fun _ h9 => h9) rfl (by decide +kernel) rfl rfl (Nat.le_of_ble_eq_true rfl) dX3_addRule_79 (fun H locs hP hD hS => ?_)
          have hP : va_P D vwCl (wX3 cI cZ cG h3 a3 (nI (nr + 1)) (nI nt) (nI nc) (upd rd nr d) (upd rr nr q) (upd rs nr v) so tr si gr ct cd cs) H := hP
          have hD : va_D A (wX3 cI cZ cG h3 a3 (nI (nr + 1)) (nI nt) (nI nc) (upd rd nr d) (upd rr nr q) (upd rs nr v) so tr si gr ct cd cs) := hD
          refine lv_aload_n hx hb dX3_addRule_82 rfl (lv_at hl 0 rfl) ?_
          refine va_get (D := D) (ci := 3) (v := .int (nI (nr + 1))) (C := RX3) (T := TX3) (N := 13) hx hb hts inX3_addRule hown hK hP 0 rfl rfl 3 (by decide) fl50 (fun _ h9 => h9) rfl dX3_addRule_83 ?_
          exact K_iret (wf := (fun (u : Nat × (Nat → Int32) × (Nat → Int32) × (Nat → Int32)) => wX3 cI cZ cG h3 a3 (nI u.1) (nI nt) (nI nc) u.2.1 u.2.2.1 u.2.2.2 so tr si gr ct cd cs)) (nr + 1, upd rd nr d, upd rr nr q, upd rs nr v) hx hb hr hlocks hP hK hD hS dX3_addRule_86 (by simp [rRule, okRule, hw1, hw3, hw5, c7])
        · have c7 : ¬ nr < 6 := fun hq => c7 ((nI_ltI (a := nr) (b := 6) (by omega) (by omega)).mpr hq)
          have c7 : nr = 6 := by omega
          refine lv_bipush (v := (-4)) hx hb dX3_addRule_39 (by decide) ?_
          exact K_iret (wf := (fun (u : Nat × (Nat → Int32) × (Nat → Int32) × (Nat → Int32)) => wX3 cI cZ cG h3 a3 (nI u.1) (nI nt) (nI nc) u.2.1 u.2.2.1 u.2.2.2 so tr si gr ct cd cs)) (nr, rd, rr, rs) hx hb hr hlocks hP hK hD hS dX3_addRule_41 (by simp [rRule, okRule, hw1, hw3, hw5, eq_true c7])
      · skip
        refine lv_if_ne (tgt := 30) hx hb dX3_addRule_24 (by decide) (fun c9 => absurd c9 (by decide)) (fun _ => ?_)
        refine lv_bipush (v := (-2)) hx hb dX3_addRule_27 (by decide) ?_
        exact K_iret (wf := (fun (u : Nat × (Nat → Int32) × (Nat → Int32) × (Nat → Int32)) => wX3 cI cZ cG h3 a3 (nI u.1) (nI nt) (nI nc) u.2.1 u.2.2.1 u.2.2.2 so tr si gr ct cd cs)) (nr, rd, rr, rs) hx hb hr hlocks hP hK hD hS dX3_addRule_29 (by simp [rRule, okRule, hw1, hw3, hw5])
    · skip
      refine lv_if_eq (tgt := 27) hx hb dX3_addRule_14 (by decide) (fun _ => ?_) (fun c10 => absurd c10 (by decide))
      refine lv_bipush (v := (-2)) hx hb dX3_addRule_27 (by decide) ?_
      exact K_iret (wf := (fun (u : Nat × (Nat → Int32) × (Nat → Int32) × (Nat → Int32)) => wX3 cI cZ cG h3 a3 (nI u.1) (nI nt) (nI nc) u.2.1 u.2.2.1 u.2.2.2 so tr si gr ct cd cs)) (nr, rd, rr, rs) hx hb hr hlocks hP hK hD hS dX3_addRule_29 (by simp [rRule, okRule, hw1, hw3])
  · skip
    refine lv_if_eq (tgt := 27) hx hb dX3_addRule_4 (by decide) (fun _ => ?_) (fun c11 => absurd c11 (by decide))
    refine lv_bipush (v := (-2)) hx hb dX3_addRule_27 (by decide) ?_
    exact K_iret (wf := (fun (u : Nat × (Nat → Int32) × (Nat → Int32) × (Nat → Int32)) => wX3 cI cZ cG h3 a3 (nI u.1) (nI nt) (nI nc) u.2.1 u.2.2.1 u.2.2.2 so tr si gr ct cd cs)) (nr, rd, rr, rs) hx hb hr hlocks hP hK hD hS dX3_addRule_29 (by simp [rRule, okRule, hw1])
theorem inX3_addThing : ∀ w ∈ wsX30, w ∈ wsX3_addThing := by decide +kernel
set_option maxHeartbeats 8000000 in
set_option maxRecDepth 100000 in
/-- addThing -/
theorem c_X3_addThing (l : Launch) (D : va_G) (cI cZ cG : ClassId) (h3 : Nat) (a3 : Nat → Nat) (sz : Nat) (nr : Nat) (nt : Nat) (nc : Nat) (rd : Nat → Int32) (rr : Nat → Int32) (rs : Nat → Int32) (so : Nat → Int32) (tr : Nat → Int32) (si : Nat → Int32) (gr : Nat → Int32) (ct : Nat → Int32) (cd : Nat → Int32) (cs : Nat → Int32) (p0 : Int32) (q : Int32) (v : Int32) (g : Int32) (hnr : nr ≤ 6) (hnt : nt ≤ 20) (hnc : nc ≤ 60) : Met l yX3_addThing wsX3_addThing ({ frames := 1, cells := 0, slots := 0, locals := 22 } : Room) (va_Pc [.ref h3, .int p0, .int q, .int v, .int g] (PB D (tyL cI cZ cG) (wX3 cI cZ cG h3 a3 (nI nr) (nI nt) (nI nc) rd rr rs so tr si gr ct cd cs) sz)) (va_Qi (fun (r : Int32) (u : Nat × (Nat → Int32) × (Nat → Int32) × (Nat → Int32) × (Nat → Int32)) => r = rThing nt p0 q v g ∧ u = if okThing p0 q v g = true ∧ ¬ nt = 20 then (nt + 1, upd so nt p0, upd tr nt q, upd si nt v, upd gr nt (if p0 = 1 then g else 0)) else (nt, so, tr, si, gr)) (fun u => QB D (tyL cI cZ cG) (va_A (wX3 cI cZ cG h3 a3 (nI nr) (nI nt) (nI nc) rd rr rs so tr si gr ct cd cs) sz) ((fun (u : Nat × (Nat → Int32) × (Nat → Int32) × (Nat → Int32) × (Nat → Int32)) => wX3 cI cZ cG h3 a3 (nI nr) (nI u.1) (nI nc) rd rr rs u.2.1 u.2.2.1 u.2.2.2.1 u.2.2.2.2 ct cd cs) u)) (va_A (wX3 cI cZ cG h3 a3 (nI nr) (nI nt) (nI nc) rd rr rs so tr si gr ct cd cs) sz)) 0 0 (va_A (wX3 cI cZ cG h3 a3 (nI nr) (nI nt) (nI nc) rd rr rs so tr si gr ct cd cs) sz) := by
  refine K_start (cc := cX3_addThing) (maxL := 5) (ret := some .int) (Qc := fun A => va_Qi (fun (r : Int32) (u : Nat × (Nat → Int32) × (Nat → Int32) × (Nat → Int32) × (Nat → Int32)) => r = rThing nt p0 q v g ∧ u = if okThing p0 q v g = true ∧ ¬ nt = 20 then (nt + 1, upd so nt p0, upd tr nt q, upd si nt v, upd gr nt (if p0 = 1 then g else 0)) else (nt, so, tr, si, gr)) (fun u => QB D (tyL cI cZ cG) A ((fun (u : Nat × (Nat → Int32) × (Nat → Int32) × (Nat → Int32) × (Nat → Int32)) => wX3 cI cZ cG h3 a3 (nI nr) (nI u.1) (nI nc) rd rr rs u.2.1 u.2.2.1 u.2.2.2.1 u.2.2.2.2 ct cd cs) u)) A) (by decide) rfl (Nat.le_of_ble_eq_true rfl) ?_
  intro p e s m below meth c ls A hx hb hml hr hts hown hlocks hin hN hP hK hD hA hS hl hsz
  have hl : lv_has ls 5 [(0, .ref h3), (1, .int p0), (2, .int q), (3, .int v), (4, .int g)] := hl
  have fl62 := hts (.fieldLink RX3 62 "ModelTown$Scale" "things" "I") (by decide +kernel)
  have fl21 := hts (.fieldLink RX3 21 "ModelTown$Scale" "sorts" "[I") (by decide +kernel)
  have fl24 := hts (.fieldLink RX3 24 "ModelTown$Scale" "trueSizes" "[I") (by decide +kernel)
  have fl27 := hts (.fieldLink RX3 27 "ModelTown$Scale" "firstSizes" "[I") (by decide +kernel)
  have fl30 := hts (.fieldLink RX3 30 "ModelTown$Scale" "grows" "[I") (by decide +kernel)
  refine lv_iload_n hx hb dX3_addThing_0 rfl (lv_at hl 1 rfl) ?_
  refine lv_iconst (v := 0) hx hb dX3_addThing_1 (by decide) ?_
  refine lv_iconst (v := 2) hx hb dX3_addThing_2 (by decide) ?_
  refine K_none (va_runSN (As := [.int p0, .int 0, .int 2]) (rest := []) ⟨hx, hb, hml, hown, hts⟩ (c_X4_isWithin l D cI cZ cG _ p0 0 2) ⟨va_cnB (host := "ModelTown") 3 hts gX3_addThing_X4_isWithin_n46 rfl rfl rfl hN.2.2.2.2.2.2.2.1 (hts (.initialized RX4) (by decide +kernel)) (by decide +kernel) ⟨(Nat.le_of_ble_eq_true rfl), (Nat.le_of_ble_eq_true rfl)⟩, hts (.static yX4_isWithin) (by decide +kernel), trivial⟩ (K_pre0 hN hK) rfl rfl hl.1 rfl (lv_room (Nat.le_of_ble_eq_true rfl)) dX3_addThing_3 ⟨Nat.zero_le _, Nat.zero_le _⟩) hP hS hA (fun r1 _ H locs hw1 hP hS => ?_)
  rcases hw1 with ⟨rfl, hw1⟩ | ⟨rfl, hw1⟩
  · skip
    refine lv_if_eq (tgt := 42) hx hb dX3_addThing_6 (by decide) (fun c2 => absurd c2 (by decide)) (fun _ => ?_)
    refine lv_iload_n hx hb dX3_addThing_9 rfl (lv_at hl 2 rfl) ?_
    refine lv_bipush (v := 100) hx hb dX3_addThing_10 (by decide) ?_
    refine lv_ldc (v := 60000) hx hb hown (hts (.constant RX3 61 60000) (by decide +kernel)) dX3_addThing_12 ?_
    refine K_none (va_runSN (As := [.int q, .int 100, .int 60000]) (rest := []) ⟨hx, hb, hml, hown, hts⟩ (c_X4_isWithin l D cI cZ cG _ q 100 60000) ⟨va_cnB (host := "ModelTown") 3 hts gX3_addThing_X4_isWithin_n46 rfl rfl rfl hN.2.2.2.2.2.2.2.1 (hts (.initialized RX4) (by decide +kernel)) (by decide +kernel) ⟨(Nat.le_of_ble_eq_true rfl), (Nat.le_of_ble_eq_true rfl)⟩, hts (.static yX4_isWithin) (by decide +kernel), trivial⟩ (K_pre0 hN hK) rfl rfl hl.1 rfl (lv_room (Nat.le_of_ble_eq_true rfl)) dX3_addThing_14 ⟨Nat.zero_le _, Nat.zero_le _⟩) hP hS hA (fun r3 _ H locs hw3 hP hS => ?_)
    rcases hw3 with ⟨rfl, hw3⟩ | ⟨rfl, hw3⟩
    · skip
      refine lv_if_eq (tgt := 42) hx hb dX3_addThing_17 (by decide) (fun c4 => absurd c4 (by decide)) (fun _ => ?_)
      refine lv_iload_n hx hb dX3_addThing_20 rfl (lv_at hl 3 rfl) ?_
      refine lv_iconst (v := 1) hx hb dX3_addThing_21 (by decide) ?_
      refine lv_sipush (v := 9000) hx hb dX3_addThing_22 (by decide) ?_
      refine K_none (va_runSN (As := [.int v, .int 1, .int 9000]) (rest := []) ⟨hx, hb, hml, hown, hts⟩ (c_X4_isWithin l D cI cZ cG _ v 1 9000) ⟨va_cnB (host := "ModelTown") 3 hts gX3_addThing_X4_isWithin_n46 rfl rfl rfl hN.2.2.2.2.2.2.2.1 (hts (.initialized RX4) (by decide +kernel)) (by decide +kernel) ⟨(Nat.le_of_ble_eq_true rfl), (Nat.le_of_ble_eq_true rfl)⟩, hts (.static yX4_isWithin) (by decide +kernel), trivial⟩ (K_pre0 hN hK) rfl rfl hl.1 rfl (lv_room (Nat.le_of_ble_eq_true rfl)) dX3_addThing_25 ⟨Nat.zero_le _, Nat.zero_le _⟩) hP hS hA (fun r5 _ H locs hw5 hP hS => ?_)
      rcases hw5 with ⟨rfl, hw5⟩ | ⟨rfl, hw5⟩
      · skip
        refine lv_if_eq (tgt := 42) hx hb dX3_addThing_28 (by decide) (fun c6 => absurd c6 (by decide)) (fun _ => ?_)
        refine lv_iload hx hb dX3_addThing_31 (lv_at hl 4 rfl) ?_
        refine lv_iconst (v := 0) hx hb dX3_addThing_33 (by decide) ?_
        refine lv_bipush (v := 50) hx hb dX3_addThing_34 (by decide) ?_
        refine K_none (va_runSN (As := [.int g, .int 0, .int 50]) (rest := []) ⟨hx, hb, hml, hown, hts⟩ (c_X4_isWithin l D cI cZ cG _ g 0 50) ⟨va_cnB (host := "ModelTown") 3 hts gX3_addThing_X4_isWithin_n46 rfl rfl rfl hN.2.2.2.2.2.2.2.1 (hts (.initialized RX4) (by decide +kernel)) (by decide +kernel) ⟨(Nat.le_of_ble_eq_true rfl), (Nat.le_of_ble_eq_true rfl)⟩, hts (.static yX4_isWithin) (by decide +kernel), trivial⟩ (K_pre0 hN hK) rfl rfl hl.1 rfl (lv_room (Nat.le_of_ble_eq_true rfl)) dX3_addThing_36 ⟨Nat.zero_le _, Nat.zero_le _⟩) hP hS hA (fun r7 _ H locs hw7 hP hS => ?_)
        rcases hw7 with ⟨rfl, hw7⟩ | ⟨rfl, hw7⟩
        · skip
          refine lv_if_ne (tgt := 45) hx hb dX3_addThing_39 (by decide) (fun _ => ?_) (fun c8 => absurd c8 (by decide))
          refine lv_aload_n hx hb dX3_addThing_45 rfl (lv_at hl 0 rfl) ?_
          refine va_get (D := D) (ci := 3) (v := .int (nI nt)) (C := RX3) (T := TX3) (N := 13) hx hb hts inX3_addThing hown hK hP 0 rfl rfl 8 (by decide) fl62 (fun _ h9 => h9) rfl dX3_addThing_46 ?_
          refine lv_bipush (v := 20) hx hb dX3_addThing_49 (by decide) ?_
          refine lv_icmp_lt (tgt := 57) hx hb dX3_addThing_51 (by decide) (fun c9 => ?_) (fun c9 => ?_)
          · have c9 : nt < 20 := (nI_ltI (a := nt) (b := 20) (by omega) (by omega)).mp c9
            have c9 : ¬ nt = 20 := by omega
            refine lv_aload_n hx hb dX3_addThing_57 rfl (lv_at hl 0 rfl) ?_
            refine va_get (D := D) (ci := 3) (v := .ref (a3 3)) (C := RX3) (T := TX3) (N := 13) hx hb hts inX3_addThing hown hK hP 0 rfl rfl 4 (by decide) fl21 (fun _ h9 => h9) rfl dX3_addThing_58 ?_
            refine lv_aload_n hx hb dX3_addThing_61 rfl (lv_at hl 0 rfl) ?_
            refine va_get (D := D) (ci := 3) (v := .int (nI nt)) (C := RX3) (T := TX3) (N := 13) hx hb hts inX3_addThing hown hK hP 0 rfl rfl 8 (by decide) fl62 (fun _ h9 => h9) rfl dX3_addThing_62 ?_
            refine lv_iload_n hx hb dX3_addThing_65 rfl (lv_at hl 1 rfl) ?_
            refine K_iast hx hb hK hP hD hS 4 0 rfl rfl nt (by omega) (Nat.le_of_ble_eq_true rfl) dX3_addThing_66 (fun H locs hP hD hS => ?_)
            have hP : va_P D vwCl (wX3 cI cZ cG h3 a3 (nI nr) (nI nt) (nI nc) rd rr rs (upd so nt p0) tr si gr ct cd cs) H := hP
            have hD : va_D A (wX3 cI cZ cG h3 a3 (nI nr) (nI nt) (nI nc) rd rr rs (upd so nt p0) tr si gr ct cd cs) := hD
            refine lv_aload_n hx hb dX3_addThing_67 rfl (lv_at hl 0 rfl) ?_
            refine va_get (D := D) (ci := 3) (v := .ref (a3 4)) (C := RX3) (T := TX3) (N := 13) hx hb hts inX3_addThing hown hK hP 0 rfl rfl 5 (by decide) fl24 (fun _ h9 => h9) rfl dX3_addThing_68 ?_
            refine lv_aload_n hx hb dX3_addThing_71 rfl (lv_at hl 0 rfl) ?_
            refine va_get (D := D) (ci := 3) (v := .int (nI nt)) (C := RX3) (T := TX3) (N := 13) hx hb hts inX3_addThing hown hK hP 0 rfl rfl 8 (by decide) fl62 (fun _ h9 => h9) rfl dX3_addThing_72 ?_
            refine lv_iload_n hx hb dX3_addThing_75 rfl (lv_at hl 2 rfl) ?_
            refine K_iast hx hb hK hP hD hS 5 0 rfl rfl nt (by omega) (Nat.le_of_ble_eq_true rfl) dX3_addThing_76 (fun H locs hP hD hS => ?_)
            have hP : va_P D vwCl (wX3 cI cZ cG h3 a3 (nI nr) (nI nt) (nI nc) rd rr rs (upd so nt p0) (upd tr nt q) si gr ct cd cs) H := hP
            have hD : va_D A (wX3 cI cZ cG h3 a3 (nI nr) (nI nt) (nI nc) rd rr rs (upd so nt p0) (upd tr nt q) si gr ct cd cs) := hD
            refine lv_aload_n hx hb dX3_addThing_77 rfl (lv_at hl 0 rfl) ?_
            refine va_get (D := D) (ci := 3) (v := .ref (a3 5)) (C := RX3) (T := TX3) (N := 13) hx hb hts inX3_addThing hown hK hP 0 rfl rfl 6 (by decide) fl27 (fun _ h9 => h9) rfl dX3_addThing_78 ?_
            refine lv_aload_n hx hb dX3_addThing_81 rfl (lv_at hl 0 rfl) ?_
            refine va_get (D := D) (ci := 3) (v := .int (nI nt)) (C := RX3) (T := TX3) (N := 13) hx hb hts inX3_addThing hown hK hP 0 rfl rfl 8 (by decide) fl62 (fun _ h9 => h9) rfl dX3_addThing_82 ?_
            refine lv_iload_n hx hb dX3_addThing_85 rfl (lv_at hl 3 rfl) ?_
            refine K_iast hx hb hK hP hD hS 6 0 rfl rfl nt (by omega) (Nat.le_of_ble_eq_true rfl) dX3_addThing_86 (fun H locs hP hD hS => ?_)
            have hP : va_P D vwCl (wX3 cI cZ cG h3 a3 (nI nr) (nI nt) (nI nc) rd rr rs (upd so nt p0) (upd tr nt q) (upd si nt v) gr ct cd cs) H := hP
            have hD : va_D A (wX3 cI cZ cG h3 a3 (nI nr) (nI nt) (nI nc) rd rr rs (upd so nt p0) (upd tr nt q) (upd si nt v) gr ct cd cs) := hD
            refine lv_aload_n hx hb dX3_addThing_87 rfl (lv_at hl 0 rfl) ?_
            refine va_get (D := D) (ci := 3) (v := .ref (a3 6)) (C := RX3) (T := TX3) (N := 13) hx hb hts inX3_addThing hown hK hP 0 rfl rfl 7 (by decide) fl30 (fun _ h9 => h9) rfl dX3_addThing_88 ?_
            refine lv_aload_n hx hb dX3_addThing_91 rfl (lv_at hl 0 rfl) ?_
            refine va_get (D := D) (ci := 3) (v := .int (nI nt)) (C := RX3) (T := TX3) (N := 13) hx hb hts inX3_addThing hown hK hP 0 rfl rfl 8 (by decide) fl62 (fun _ h9 => h9) rfl dX3_addThing_92 ?_
            refine lv_iload_n hx hb dX3_addThing_95 rfl (lv_at hl 1 rfl) ?_
            refine lv_iconst (v := 1) hx hb dX3_addThing_96 (by decide) ?_
            refine lv_icmp_ne (tgt := 105) hx hb dX3_addThing_97 (by decide) (fun c10 => ?_) (fun c10 => ?_)
            · refine lv_iconst (v := 0) hx hb dX3_addThing_105 (by decide) ?_
              refine K_iast hx hb hK hP hD hS 7 0 rfl rfl nt (by omega) (Nat.le_of_ble_eq_true rfl) dX3_addThing_106 (fun H locs hP hD hS => ?_)
              have hP : va_P D vwCl (wX3 cI cZ cG h3 a3 (nI nr) (nI nt) (nI nc) rd rr rs (upd so nt p0) (upd tr nt q) (upd si nt v) (upd gr nt 0) ct cd cs) H := hP
              have hD : va_D A (wX3 cI cZ cG h3 a3 (nI nr) (nI nt) (nI nc) rd rr rs (upd so nt p0) (upd tr nt q) (upd si nt v) (upd gr nt 0) ct cd cs) := hD
              refine lv_aload_n hx hb dX3_addThing_107 rfl (lv_at hl 0 rfl) ?_
              refine lv_dup hx hb dX3_addThing_108 rfl ?_
              refine va_get (D := D) (ci := 3) (v := .int (nI nt)) (C := RX3) (T := TX3) (N := 13) hx hb hts inX3_addThing hown hK hP 0 rfl rfl 8 (by decide) fl62 (fun _ h9 => h9) rfl dX3_addThing_109 ?_
              refine lv_iconst (v := 1) hx hb dX3_addThing_112 (by decide) ?_
              refine lv_iadd hx hb dX3_addThing_113 ?_
              refine lv_topi (fun z11 ez11 => ?_)
              obtain rfl : z11 = nI (nt + 1) := ez11.trans (nI_add nt 1)
              refine va_put (D := D) (ci := 3) (v := .int (nI (nt + 1))) (ty := .int) (C := RX3) (T := TX3) (N := 13) hx hb hts inX3_addThing tyX3 tyX3_ok nmX3 hown hK hP hD hS 0 rfl rfl 8 (by decide) fl62 (fun _ h9 => h9) rfl (by decide +kernel) rfl rfl (Nat.le_of_ble_eq_true rfl) dX3_addThing_114 (fun H locs hP hD hS => ?_)
              have hP : va_P D vwCl (wX3 cI cZ cG h3 a3 (nI nr) (nI (nt + 1)) (nI nc) rd rr rs (upd so nt p0) (upd tr nt q) (upd si nt v) (upd gr nt 0) ct cd cs) H := hP
              have hD : va_D A (wX3 cI cZ cG h3 a3 (nI nr) (nI (nt + 1)) (nI nc) rd rr rs (upd so nt p0) (upd tr nt q) (upd si nt v) (upd gr nt 0) ct cd cs) := hD
              refine lv_aload_n hx hb dX3_addThing_117 rfl (lv_at hl 0 rfl) ?_
              refine va_get (D := D) (ci := 3) (v := .int (nI (nt + 1))) (C := RX3) (T := TX3) (N := 13) hx hb hts inX3_addThing hown hK hP 0 rfl rfl 8 (by decide) fl62 (fun _ h9 => h9) rfl dX3_addThing_118 ?_
              refine lv_iconst (v := 1) hx hb dX3_addThing_121 (by decide) ?_
              refine lv_isub hx hb dX3_addThing_122 ?_
              refine lv_topi (fun z12 ez12 => ?_)
              obtain rfl : z12 = nI nt := ez12.trans (nI_pred nt)
              exact K_iret (wf := (fun (u : Nat × (Nat → Int32) × (Nat → Int32) × (Nat → Int32) × (Nat → Int32)) => wX3 cI cZ cG h3 a3 (nI nr) (nI u.1) (nI nc) rd rr rs u.2.1 u.2.2.1 u.2.2.2.1 u.2.2.2.2 ct cd cs)) (nt + 1, upd so nt p0, upd tr nt q, upd si nt v, upd gr nt 0) hx hb hr hlocks hP hK hD hS dX3_addThing_123 (by simp [rThing, okThing, hw1, hw3, hw5, hw7, c9, c10])
            · refine lv_iload hx hb dX3_addThing_100 (lv_at hl 4 rfl) ?_
              refine lv_goto (tgt := 106) hx hb dX3_addThing_102 (by decide) ?_
              refine K_iast hx hb hK hP hD hS 7 0 rfl rfl nt (by omega) (Nat.le_of_ble_eq_true rfl) dX3_addThing_106 (fun H locs hP hD hS => ?_)
              have hP : va_P D vwCl (wX3 cI cZ cG h3 a3 (nI nr) (nI nt) (nI nc) rd rr rs (upd so nt p0) (upd tr nt q) (upd si nt v) (upd gr nt g) ct cd cs) H := hP
              have hD : va_D A (wX3 cI cZ cG h3 a3 (nI nr) (nI nt) (nI nc) rd rr rs (upd so nt p0) (upd tr nt q) (upd si nt v) (upd gr nt g) ct cd cs) := hD
              refine lv_aload_n hx hb dX3_addThing_107 rfl (lv_at hl 0 rfl) ?_
              refine lv_dup hx hb dX3_addThing_108 rfl ?_
              refine va_get (D := D) (ci := 3) (v := .int (nI nt)) (C := RX3) (T := TX3) (N := 13) hx hb hts inX3_addThing hown hK hP 0 rfl rfl 8 (by decide) fl62 (fun _ h9 => h9) rfl dX3_addThing_109 ?_
              refine lv_iconst (v := 1) hx hb dX3_addThing_112 (by decide) ?_
              refine lv_iadd hx hb dX3_addThing_113 ?_
              refine lv_topi (fun z13 ez13 => ?_)
              obtain rfl : z13 = nI (nt + 1) := ez13.trans (nI_add nt 1)
              refine va_put (D := D) (ci := 3) (v := .int (nI (nt + 1))) (ty := .int) (C := RX3) (T := TX3) (N := 13) hx hb hts inX3_addThing tyX3 tyX3_ok nmX3 hown hK hP hD hS 0 rfl rfl 8 (by decide) fl62 (fun _ h9 => h9) rfl (by decide +kernel) rfl rfl (Nat.le_of_ble_eq_true rfl) dX3_addThing_114 (fun H locs hP hD hS => ?_)
              have hP : va_P D vwCl (wX3 cI cZ cG h3 a3 (nI nr) (nI (nt + 1)) (nI nc) rd rr rs (upd so nt p0) (upd tr nt q) (upd si nt v) (upd gr nt g) ct cd cs) H := hP
              have hD : va_D A (wX3 cI cZ cG h3 a3 (nI nr) (nI (nt + 1)) (nI nc) rd rr rs (upd so nt p0) (upd tr nt q) (upd si nt v) (upd gr nt g) ct cd cs) := hD
              refine lv_aload_n hx hb dX3_addThing_117 rfl (lv_at hl 0 rfl) ?_
              refine va_get (D := D) (ci := 3) (v := .int (nI (nt + 1))) (C := RX3) (T := TX3) (N := 13) hx hb hts inX3_addThing hown hK hP 0 rfl rfl 8 (by decide) fl62 (fun _ h9 => h9) rfl dX3_addThing_118 ?_
              refine lv_iconst (v := 1) hx hb dX3_addThing_121 (by decide) ?_
              refine lv_isub hx hb dX3_addThing_122 ?_
              refine lv_topi (fun z14 ez14 => ?_)
              obtain rfl : z14 = nI nt := ez14.trans (nI_pred nt)
              exact K_iret (wf := (fun (u : Nat × (Nat → Int32) × (Nat → Int32) × (Nat → Int32) × (Nat → Int32)) => wX3 cI cZ cG h3 a3 (nI nr) (nI u.1) (nI nc) rd rr rs u.2.1 u.2.2.1 u.2.2.2.1 u.2.2.2.2 ct cd cs)) (nt + 1, upd so nt p0, upd tr nt q, upd si nt v, upd gr nt g) hx hb hr hlocks hP hK hD hS dX3_addThing_123 (by simp [rThing, okThing, hw1, hw3, hw5, hw7, c9, eq_true c10])
          · have c9 : ¬ nt < 20 := fun hq => c9 ((nI_ltI (a := nt) (b := 20) (by omega) (by omega)).mpr hq)
            have c9 : nt = 20 := by omega
            refine lv_bipush (v := (-4)) hx hb dX3_addThing_54 (by decide) ?_
            exact K_iret (wf := (fun (u : Nat × (Nat → Int32) × (Nat → Int32) × (Nat → Int32) × (Nat → Int32)) => wX3 cI cZ cG h3 a3 (nI nr) (nI u.1) (nI nc) rd rr rs u.2.1 u.2.2.1 u.2.2.2.1 u.2.2.2.2 ct cd cs)) (nt, so, tr, si, gr) hx hb hr hlocks hP hK hD hS dX3_addThing_56 (by simp [rThing, okThing, hw1, hw3, hw5, hw7, eq_true c9])
        · skip
          refine lv_if_ne (tgt := 45) hx hb dX3_addThing_39 (by decide) (fun c15 => absurd c15 (by decide)) (fun _ => ?_)
          refine lv_bipush (v := (-2)) hx hb dX3_addThing_42 (by decide) ?_
          exact K_iret (wf := (fun (u : Nat × (Nat → Int32) × (Nat → Int32) × (Nat → Int32) × (Nat → Int32)) => wX3 cI cZ cG h3 a3 (nI nr) (nI u.1) (nI nc) rd rr rs u.2.1 u.2.2.1 u.2.2.2.1 u.2.2.2.2 ct cd cs)) (nt, so, tr, si, gr) hx hb hr hlocks hP hK hD hS dX3_addThing_44 (by simp [rThing, okThing, hw1, hw3, hw5, hw7])
      · skip
        refine lv_if_eq (tgt := 42) hx hb dX3_addThing_28 (by decide) (fun _ => ?_) (fun c16 => absurd c16 (by decide))
        refine lv_bipush (v := (-2)) hx hb dX3_addThing_42 (by decide) ?_
        exact K_iret (wf := (fun (u : Nat × (Nat → Int32) × (Nat → Int32) × (Nat → Int32) × (Nat → Int32)) => wX3 cI cZ cG h3 a3 (nI nr) (nI u.1) (nI nc) rd rr rs u.2.1 u.2.2.1 u.2.2.2.1 u.2.2.2.2 ct cd cs)) (nt, so, tr, si, gr) hx hb hr hlocks hP hK hD hS dX3_addThing_44 (by simp [rThing, okThing, hw1, hw3, hw5])
    · skip
      refine lv_if_eq (tgt := 42) hx hb dX3_addThing_17 (by decide) (fun _ => ?_) (fun c17 => absurd c17 (by decide))
      refine lv_bipush (v := (-2)) hx hb dX3_addThing_42 (by decide) ?_
      exact K_iret (wf := (fun (u : Nat × (Nat → Int32) × (Nat → Int32) × (Nat → Int32) × (Nat → Int32)) => wX3 cI cZ cG h3 a3 (nI nr) (nI u.1) (nI nc) rd rr rs u.2.1 u.2.2.1 u.2.2.2.1 u.2.2.2.2 ct cd cs)) (nt, so, tr, si, gr) hx hb hr hlocks hP hK hD hS dX3_addThing_44 (by simp [rThing, okThing, hw1, hw3])
  · skip
    refine lv_if_eq (tgt := 42) hx hb dX3_addThing_6 (by decide) (fun _ => ?_) (fun c18 => absurd c18 (by decide))
    refine lv_bipush (v := (-2)) hx hb dX3_addThing_42 (by decide) ?_
    exact K_iret (wf := (fun (u : Nat × (Nat → Int32) × (Nat → Int32) × (Nat → Int32) × (Nat → Int32)) => wX3 cI cZ cG h3 a3 (nI nr) (nI u.1) (nI nc) rd rr rs u.2.1 u.2.2.1 u.2.2.2.1 u.2.2.2.2 ct cd cs)) (nt, so, tr, si, gr) hx hb hr hlocks hP hK hD hS dX3_addThing_44 (by simp [rThing, okThing, hw1])
theorem inX3_clipTree : ∀ w ∈ wsX30, w ∈ wsX3_clipTree := by decide +kernel
set_option maxHeartbeats 8000000 in
set_option maxRecDepth 100000 in
/-- clipTree -/
theorem c_X3_clipTree (l : Launch) (D : va_G) (cI cZ cG : ClassId) (h3 : Nat) (a3 : Nat → Nat) (sz : Nat) (nr : Nat) (nt : Nat) (nc : Nat) (rd : Nat → Int32) (rr : Nat → Int32) (rs : Nat → Int32) (so : Nat → Int32) (tr : Nat → Int32) (si : Nat → Int32) (gr : Nat → Int32) (ct : Nat → Int32) (cd : Nat → Int32) (cs : Nat → Int32) (x : Int32) (d : Int32) (v : Int32) (hnr : nr ≤ 6) (hnt : nt ≤ 20) (hnc : nc ≤ 60) : Met l yX3_clipTree wsX3_clipTree ({ frames := 2, cells := 0, slots := 0, locals := 48 } : Room) (va_Pc [.ref h3, .int x, .int d, .int v] (PB D (tyL cI cZ cG) (wX3 cI cZ cG h3 a3 (nI nr) (nI nt) (nI nc) rd rr rs so tr si gr ct cd cs) sz)) (va_Qi (fun (r : Int32) (u : Nat × (Nat → Int32) × (Nat → Int32) × (Nat → Int32)) => r = rClip nt nc so ct cd cs si gr x d v ∧ u = if okClip nt nc so ct cd x d v = true then (nc + 1, upd ct nc x, upd cd nc d, upd cs nc v) else (nc, ct, cd, cs)) (fun u => QB D (tyL cI cZ cG) (va_A (wX3 cI cZ cG h3 a3 (nI nr) (nI nt) (nI nc) rd rr rs so tr si gr ct cd cs) sz) ((fun (u : Nat × (Nat → Int32) × (Nat → Int32) × (Nat → Int32)) => wX3 cI cZ cG h3 a3 (nI nr) (nI nt) (nI u.1) rd rr rs so tr si gr u.2.1 u.2.2.1 u.2.2.2) u)) (va_A (wX3 cI cZ cG h3 a3 (nI nr) (nI nt) (nI nc) rd rr rs so tr si gr ct cd cs) sz)) 0 0 (va_A (wX3 cI cZ cG h3 a3 (nI nr) (nI nt) (nI nc) rd rr rs so tr si gr ct cd cs) sz) := by
  refine K_start (cc := cX3_clipTree) (maxL := 6) (ret := some .int) (Qc := fun A => va_Qi (fun (r : Int32) (u : Nat × (Nat → Int32) × (Nat → Int32) × (Nat → Int32)) => r = rClip nt nc so ct cd cs si gr x d v ∧ u = if okClip nt nc so ct cd x d v = true then (nc + 1, upd ct nc x, upd cd nc d, upd cs nc v) else (nc, ct, cd, cs)) (fun u => QB D (tyL cI cZ cG) A ((fun (u : Nat × (Nat → Int32) × (Nat → Int32) × (Nat → Int32)) => wX3 cI cZ cG h3 a3 (nI nr) (nI nt) (nI u.1) rd rr rs so tr si gr u.2.1 u.2.2.1 u.2.2.2) u)) A) (by decide) rfl (Nat.le_of_ble_eq_true rfl) ?_
  intro p e s m below meth c ls A hx hb hml hr hts hown hlocks hin hN hP hK hD hA hS hl hsz
  have hl : lv_has ls 6 [(0, .ref h3), (1, .int x), (2, .int d), (3, .int v)] := hl
  have fl21 := hts (.fieldLink RX3 21 "ModelTown$Scale" "sorts" "[I") (by decide +kernel)
  have fl68 := hts (.fieldLink RX3 68 "ModelTown$Scale" "clippings" "I") (by decide +kernel)
  have fl33 := hts (.fieldLink RX3 33 "ModelTown$Scale" "clipThing" "[I") (by decide +kernel)
  have fl36 := hts (.fieldLink RX3 36 "ModelTown$Scale" "clipDay" "[I") (by decide +kernel)
  have fl39 := hts (.fieldLink RX3 39 "ModelTown$Scale" "clipSize" "[I") (by decide +kernel)
  refine lv_aload_n hx hb dX3_clipTree_0 rfl (lv_at hl 0 rfl) ?_
  refine lv_iload_n hx hb dX3_clipTree_1 rfl (lv_at hl 1 rfl) ?_
  refine K_same (va_runV (As := [.int x]) (rest := []) ⟨hx, hb, hml, hown, hts⟩ (c_X3_isThing l D cI cZ cG h3 a3 _ nr nt nc rd rr rs so tr si gr ct cd cs x hnr hnt hnc) (cwV 1 hts gX3_clipTree_X3_isThing rfl rfl rfl (by decide +kernel) ⟨(Nat.le_of_ble_eq_true rfl), (Nat.le_of_ble_eq_true rfl)⟩) ⟨PB_blind, va_recv hK hP (ci := 3) (q0 := 0) rfl rfl, (K_preS hN hK hP hD).2⟩ rfl rfl hl.1 rfl (lv_room (Nat.le_of_ble_eq_true rfl)) dX3_clipTree_2 ⟨Nat.zero_le _, Nat.zero_le _⟩) hD hS hA (fun r1 u H locs hw1 hP hD hS => ?_)
  have hP : va_P D vwCl (wX3 cI cZ cG h3 a3 (nI nr) (nI nt) (nI nc) rd rr rs so tr si gr ct cd cs) H := hP
  have hD : va_D A (wX3 cI cZ cG h3 a3 (nI nr) (nI nt) (nI nc) rd rr rs so tr si gr ct cd cs) := hD
  rcases hw1 with ⟨rfl, hw1⟩ | ⟨rfl, hw1⟩
  · obtain ⟨t, ht, rfl⟩ := inR_lt (by omega) hw1
    have hct : (nI t).toNatClampNeg = t := nI_clamp (by omega)
    refine lv_if_ne (tgt := 10) hx hb dX3_clipTree_5 (by decide) (fun _ => ?_) (fun c2 => absurd c2 (by decide))
    refine lv_iload_n hx hb dX3_clipTree_10 rfl (lv_at hl 2 rfl) ?_
    refine K_none (va_runSN (As := [.int d]) (rest := []) ⟨hx, hb, hml, hown, hts⟩ (c_X4_isDay l D cI cZ cG _ d) ⟨va_cnB (host := "ModelTown") 1 hts gX3_clipTree_X4_isDay_n42 rfl rfl rfl hN.2.2.2.2.2.2.1 (hts (.initialized RX4) (by decide +kernel)) (by decide +kernel) ⟨(Nat.le_of_ble_eq_true rfl), (Nat.le_of_ble_eq_true rfl)⟩, hts (.static yX4_isDay) (by decide +kernel), trivial⟩ (K_pre0 hN hK) rfl rfl hl.1 rfl (lv_room (Nat.le_of_ble_eq_true rfl)) dX3_clipTree_11 ⟨Nat.zero_le _, Nat.zero_le _⟩) hP hS hA (fun r3 _ H locs hw3 hP hS => ?_)
    rcases hw3 with ⟨rfl, hw3⟩ | ⟨rfl, hw3⟩
    · skip
      refine lv_if_eq (tgt := 28) hx hb dX3_clipTree_14 (by decide) (fun c4 => absurd c4 (by decide)) (fun _ => ?_)
      refine lv_iload_n hx hb dX3_clipTree_17 rfl (lv_at hl 3 rfl) ?_
      refine lv_iconst (v := 1) hx hb dX3_clipTree_18 (by decide) ?_
      refine lv_sipush (v := 9000) hx hb dX3_clipTree_19 (by decide) ?_
      refine K_none (va_runSN (As := [.int v, .int 1, .int 9000]) (rest := []) ⟨hx, hb, hml, hown, hts⟩ (c_X4_isWithin l D cI cZ cG _ v 1 9000) ⟨va_cnB (host := "ModelTown") 3 hts gX3_clipTree_X4_isWithin_n46 rfl rfl rfl hN.2.2.2.2.2.2.2.1 (hts (.initialized RX4) (by decide +kernel)) (by decide +kernel) ⟨(Nat.le_of_ble_eq_true rfl), (Nat.le_of_ble_eq_true rfl)⟩, hts (.static yX4_isWithin) (by decide +kernel), trivial⟩ (K_pre0 hN hK) rfl rfl hl.1 rfl (lv_room (Nat.le_of_ble_eq_true rfl)) dX3_clipTree_22 ⟨Nat.zero_le _, Nat.zero_le _⟩) hP hS hA (fun r5 _ H locs hw5 hP hS => ?_)
      rcases hw5 with ⟨rfl, hw5⟩ | ⟨rfl, hw5⟩
      · skip
        refine lv_if_ne (tgt := 31) hx hb dX3_clipTree_25 (by decide) (fun _ => ?_) (fun c6 => absurd c6 (by decide))
        refine lv_aload_n hx hb dX3_clipTree_31 rfl (lv_at hl 0 rfl) ?_
        refine va_get (D := D) (ci := 3) (v := .ref (a3 3)) (C := RX3) (T := TX3) (N := 13) hx hb hts inX3_clipTree hown hK hP 0 rfl rfl 4 (by decide) fl21 (fun _ h9 => h9) rfl dX3_clipTree_32 ?_
        refine lv_iload_n hx hb dX3_clipTree_35 rfl (lv_at hl 1 rfl) ?_
        refine K_iald hx hb hK hP 4 0 rfl rfl t (by omega) (Nat.le_of_ble_eq_true rfl) dX3_clipTree_36 ?_
        refine lv_iconst (v := 1) hx hb dX3_clipTree_37 (by decide) ?_
        refine lv_icmp_eq (tgt := 44) hx hb dX3_clipTree_38 (by decide) (fun c7 => ?_) (fun c7 => ?_)
        · refine lv_aload_n hx hb dX3_clipTree_44 rfl (lv_at hl 0 rfl) ?_
          refine va_get (D := D) (ci := 3) (v := .int (nI nc)) (C := RX3) (T := TX3) (N := 13) hx hb hts inX3_clipTree hown hK hP 0 rfl rfl 12 (by decide) fl68 (fun _ h9 => h9) rfl dX3_clipTree_45 ?_
          refine lv_bipush (v := 60) hx hb dX3_clipTree_48 (by decide) ?_
          refine lv_icmp_lt (tgt := 56) hx hb dX3_clipTree_50 (by decide) (fun c8 => ?_) (fun c8 => ?_)
          · have c8 : nc < 60 := (nI_ltI (a := nc) (b := 60) (by omega) (by omega)).mp c8
            have c8 : ¬ nc = 60 := by omega
            refine lv_aload_n hx hb dX3_clipTree_56 rfl (lv_at hl 0 rfl) ?_
            refine lv_iload_n hx hb dX3_clipTree_57 rfl (lv_at hl 1 rfl) ?_
            refine lv_sipush (v := 3000) hx hb dX3_clipTree_58 (by decide) ?_
            refine K_same (va_runV (As := [.int (nI t), .int 3000]) (rest := []) ⟨hx, hb, hml, hown, hts⟩ (c_X3_clippingOn l D cI cZ cG h3 a3 _ nr nt nc rd rr rs so tr si gr ct cd cs (nI t) 3000 hnr hnt hnc) (cwV 2 hts gX3_clipTree_X3_clippingOn rfl rfl rfl (by decide +kernel) ⟨(Nat.le_of_ble_eq_true rfl), (Nat.le_of_ble_eq_true rfl)⟩) ⟨PB_blind, va_recv hK hP (ci := 3) (q0 := 0) rfl rfl, (K_preS hN hK hP hD).2⟩ rfl rfl hl.1 rfl (lv_room (Nat.le_of_ble_eq_true rfl)) dX3_clipTree_61 ⟨Nat.zero_le _, Nat.zero_le _⟩) hD hS hA (fun r9 u H locs hw9 hP hD hS => ?_)
            have hP : va_P D vwCl (wX3 cI cZ cG h3 a3 (nI nr) (nI nt) (nI nc) rd rr rs so tr si gr ct cd cs) H := hP
            have hD : va_D A (wX3 cI cZ cG h3 a3 (nI nr) (nI nt) (nI nc) rd rr rs so tr si gr ct cd cs) := hD
            rcases ho9 : lC ct cd (nI t) 3000 nc with _ | b9
            · rw [ho9] at hw9
              obtain rfl : r9 = -6 := hw9
              refine lv_istore (lv' := [(4, .int (-6)), (0, .ref h3), (1, .int (nI t)), (2, .int d), (3, .int v)]) hx hb dX3_clipTree_64 hl (by decide) rfl (fun ls hl => ?_)
              refine lv_iload hx hb dX3_clipTree_66 (lv_at hl 0 rfl) ?_
              refine lv_bipush (v := (-6)) hx hb dX3_clipTree_68 (by decide) ?_
              refine lv_icmp_eq (tgt := 87) hx hb dX3_clipTree_70 (by decide) (fun _ => ?_) (fun c10 => absurd c10 (by decide))
              refine lv_aload_n hx hb dX3_clipTree_87 rfl (lv_at hl 1 rfl) ?_
              refine lv_iload_n hx hb dX3_clipTree_88 rfl (lv_at hl 2 rfl) ?_
              refine lv_iload_n hx hb dX3_clipTree_89 rfl (lv_at hl 3 rfl) ?_
              refine K_same (va_runV (As := [.int (nI t), .int d]) (rest := []) ⟨hx, hb, hml, hown, hts⟩ (c_X3_sizeOn l D cI cZ cG h3 a3 _ nr nt nc rd rr rs so tr si gr ct cd cs t d hnr hnt hnc (by omega)) (cwV 2 hts gX3_clipTree_X3_sizeOn rfl rfl rfl (by decide +kernel) ⟨(Nat.le_of_ble_eq_true rfl), (Nat.le_of_ble_eq_true rfl)⟩) ⟨PB_blind, va_recv hK hP (ci := 3) (q0 := 0) rfl rfl, (K_preS hN hK hP hD).2⟩ rfl rfl hl.1 rfl (lv_room (Nat.le_of_ble_eq_true rfl)) dX3_clipTree_90 ⟨Nat.zero_le _, Nat.zero_le _⟩) hD hS hA (fun r11 u H locs hw11 hP hD hS => ?_)
              have hP : va_P D vwCl (wX3 cI cZ cG h3 a3 (nI nr) (nI nt) (nI nc) rd rr rs so tr si gr ct cd cs) H := hP
              have hD : va_D A (wX3 cI cZ cG h3 a3 (nI nr) (nI nt) (nI nc) rd rr rs so tr si gr ct cd cs) := hD
              obtain rfl := hw11
              refine lv_istore (lv' := [(5, .int (szA nc ct cd cs si gr t d)), (4, .int (-6)), (0, .ref h3), (1, .int (nI t)), (2, .int d), (3, .int v)]) hx hb dX3_clipTree_93 hl (by decide) rfl (fun ls hl => ?_)
              refine lv_aload_n hx hb dX3_clipTree_95 rfl (lv_at hl 2 rfl) ?_
              refine va_get (D := D) (ci := 3) (v := .ref (a3 7)) (C := RX3) (T := TX3) (N := 13) hx hb hts inX3_clipTree hown hK hP 0 rfl rfl 9 (by decide) fl33 (fun _ h9 => h9) rfl dX3_clipTree_96 ?_
              refine lv_aload_n hx hb dX3_clipTree_99 rfl (lv_at hl 2 rfl) ?_
              refine va_get (D := D) (ci := 3) (v := .int (nI nc)) (C := RX3) (T := TX3) (N := 13) hx hb hts inX3_clipTree hown hK hP 0 rfl rfl 12 (by decide) fl68 (fun _ h9 => h9) rfl dX3_clipTree_100 ?_
              refine lv_iload_n hx hb dX3_clipTree_103 rfl (lv_at hl 3 rfl) ?_
              refine K_iast hx hb hK hP hD hS 8 0 rfl rfl nc (by omega) (Nat.le_of_ble_eq_true rfl) dX3_clipTree_104 (fun H locs hP hD hS => ?_)
              have hP : va_P D vwCl (wX3 cI cZ cG h3 a3 (nI nr) (nI nt) (nI nc) rd rr rs so tr si gr (upd ct nc (nI t)) cd cs) H := hP
              have hD : va_D A (wX3 cI cZ cG h3 a3 (nI nr) (nI nt) (nI nc) rd rr rs so tr si gr (upd ct nc (nI t)) cd cs) := hD
              refine lv_aload_n hx hb dX3_clipTree_105 rfl (lv_at hl 2 rfl) ?_
              refine va_get (D := D) (ci := 3) (v := .ref (a3 8)) (C := RX3) (T := TX3) (N := 13) hx hb hts inX3_clipTree hown hK hP 0 rfl rfl 10 (by decide) fl36 (fun _ h9 => h9) rfl dX3_clipTree_106 ?_
              refine lv_aload_n hx hb dX3_clipTree_109 rfl (lv_at hl 2 rfl) ?_
              refine va_get (D := D) (ci := 3) (v := .int (nI nc)) (C := RX3) (T := TX3) (N := 13) hx hb hts inX3_clipTree hown hK hP 0 rfl rfl 12 (by decide) fl68 (fun _ h9 => h9) rfl dX3_clipTree_110 ?_
              refine lv_iload_n hx hb dX3_clipTree_113 rfl (lv_at hl 4 rfl) ?_
              refine K_iast hx hb hK hP hD hS 9 0 rfl rfl nc (by omega) (Nat.le_of_ble_eq_true rfl) dX3_clipTree_114 (fun H locs hP hD hS => ?_)
              have hP : va_P D vwCl (wX3 cI cZ cG h3 a3 (nI nr) (nI nt) (nI nc) rd rr rs so tr si gr (upd ct nc (nI t)) (upd cd nc d) cs) H := hP
              have hD : va_D A (wX3 cI cZ cG h3 a3 (nI nr) (nI nt) (nI nc) rd rr rs so tr si gr (upd ct nc (nI t)) (upd cd nc d) cs) := hD
              refine lv_aload_n hx hb dX3_clipTree_115 rfl (lv_at hl 2 rfl) ?_
              refine va_get (D := D) (ci := 3) (v := .ref (a3 9)) (C := RX3) (T := TX3) (N := 13) hx hb hts inX3_clipTree hown hK hP 0 rfl rfl 11 (by decide) fl39 (fun _ h9 => h9) rfl dX3_clipTree_116 ?_
              refine lv_aload_n hx hb dX3_clipTree_119 rfl (lv_at hl 2 rfl) ?_
              refine va_get (D := D) (ci := 3) (v := .int (nI nc)) (C := RX3) (T := TX3) (N := 13) hx hb hts inX3_clipTree hown hK hP 0 rfl rfl 12 (by decide) fl68 (fun _ h9 => h9) rfl dX3_clipTree_120 ?_
              refine lv_iload_n hx hb dX3_clipTree_123 rfl (lv_at hl 5 rfl) ?_
              refine K_iast hx hb hK hP hD hS 10 0 rfl rfl nc (by omega) (Nat.le_of_ble_eq_true rfl) dX3_clipTree_124 (fun H locs hP hD hS => ?_)
              have hP : va_P D vwCl (wX3 cI cZ cG h3 a3 (nI nr) (nI nt) (nI nc) rd rr rs so tr si gr (upd ct nc (nI t)) (upd cd nc d) (upd cs nc v)) H := hP
              have hD : va_D A (wX3 cI cZ cG h3 a3 (nI nr) (nI nt) (nI nc) rd rr rs so tr si gr (upd ct nc (nI t)) (upd cd nc d) (upd cs nc v)) := hD
              refine lv_aload_n hx hb dX3_clipTree_125 rfl (lv_at hl 2 rfl) ?_
              refine lv_dup hx hb dX3_clipTree_126 rfl ?_
              refine va_get (D := D) (ci := 3) (v := .int (nI nc)) (C := RX3) (T := TX3) (N := 13) hx hb hts inX3_clipTree hown hK hP 0 rfl rfl 12 (by decide) fl68 (fun _ h9 => h9) rfl dX3_clipTree_127 ?_
              refine lv_iconst (v := 1) hx hb dX3_clipTree_130 (by decide) ?_
              refine lv_iadd hx hb dX3_clipTree_131 ?_
              refine lv_topi (fun z12 ez12 => ?_)
              obtain rfl : z12 = nI (nc + 1) := ez12.trans (nI_add nc 1)
              refine va_put (D := D) (ci := 3) (v := .int (nI (nc + 1))) (ty := .int) (C := RX3) (T := TX3) (N := 13) hx hb hts inX3_clipTree tyX3 tyX3_ok nmX3 hown hK hP hD hS 0 rfl rfl 12 (by decide) fl68 (fun _ h9 => h9) rfl (by decide +kernel) rfl rfl (Nat.le_of_ble_eq_true rfl) dX3_clipTree_132 (fun H locs hP hD hS => ?_)
              have hP : va_P D vwCl (wX3 cI cZ cG h3 a3 (nI nr) (nI nt) (nI (nc + 1)) rd rr rs so tr si gr (upd ct nc (nI t)) (upd cd nc d) (upd cs nc v)) H := hP
              have hD : va_D A (wX3 cI cZ cG h3 a3 (nI nr) (nI nt) (nI (nc + 1)) rd rr rs so tr si gr (upd ct nc (nI t)) (upd cd nc d) (upd cs nc v)) := hD
              refine lv_iload hx hb dX3_clipTree_135 (lv_at hl 0 rfl) ?_
              exact K_iret (wf := (fun (u : Nat × (Nat → Int32) × (Nat → Int32) × (Nat → Int32)) => wX3 cI cZ cG h3 a3 (nI nr) (nI nt) (nI u.1) rd rr rs so tr si gr u.2.1 u.2.2.1 u.2.2.2)) (nc + 1, upd ct nc (nI t), upd cd nc d, upd cs nc v) hx hb hr hlocks hP hK hD hS dX3_clipTree_137 (by simp [rClip, okClip, lateC, hw1, hct, hw3, hw5, eq_true c7, c8, ho9])
            · rw [ho9] at hw9
              obtain rfl : r9 = nI b9 := hw9
              have hbb := lC_lt ho9
              refine lv_istore (lv' := [(4, .int (nI b9)), (0, .ref h3), (1, .int (nI t)), (2, .int d), (3, .int v)]) hx hb dX3_clipTree_64 hl (by decide) rfl (fun ls hl => ?_)
              refine lv_iload hx hb dX3_clipTree_66 (lv_at hl 0 rfl) ?_
              refine lv_bipush (v := (-6)) hx hb dX3_clipTree_68 (by decide) ?_
              refine lv_icmp_eq (tgt := 87) hx hb dX3_clipTree_70 (by decide) (fun c13 => absurd c13 (nI_neN (by omega) (by decide))) (fun c13 => ?_)
              refine lv_iload_n hx hb dX3_clipTree_73 rfl (lv_at hl 3 rfl) ?_
              refine lv_aload_n hx hb dX3_clipTree_74 rfl (lv_at hl 1 rfl) ?_
              refine va_get (D := D) (ci := 3) (v := .ref (a3 8)) (C := RX3) (T := TX3) (N := 13) hx hb hts inX3_clipTree hown hK hP 0 rfl rfl 10 (by decide) fl36 (fun _ h9 => h9) rfl dX3_clipTree_75 ?_
              refine lv_iload hx hb dX3_clipTree_78 (lv_at hl 0 rfl) ?_
              refine K_iald hx hb hK hP 9 0 rfl rfl b9 (by omega) (Nat.le_of_ble_eq_true rfl) dX3_clipTree_80 ?_
              refine lv_icmp_ge (tgt := 87) hx hb dX3_clipTree_81 (by decide) (fun c14 => ?_) (fun c14 => ?_)
              · refine lv_aload_n hx hb dX3_clipTree_87 rfl (lv_at hl 1 rfl) ?_
                refine lv_iload_n hx hb dX3_clipTree_88 rfl (lv_at hl 2 rfl) ?_
                refine lv_iload_n hx hb dX3_clipTree_89 rfl (lv_at hl 3 rfl) ?_
                refine K_same (va_runV (As := [.int (nI t), .int d]) (rest := []) ⟨hx, hb, hml, hown, hts⟩ (c_X3_sizeOn l D cI cZ cG h3 a3 _ nr nt nc rd rr rs so tr si gr ct cd cs t d hnr hnt hnc (by omega)) (cwV 2 hts gX3_clipTree_X3_sizeOn rfl rfl rfl (by decide +kernel) ⟨(Nat.le_of_ble_eq_true rfl), (Nat.le_of_ble_eq_true rfl)⟩) ⟨PB_blind, va_recv hK hP (ci := 3) (q0 := 0) rfl rfl, (K_preS hN hK hP hD).2⟩ rfl rfl hl.1 rfl (lv_room (Nat.le_of_ble_eq_true rfl)) dX3_clipTree_90 ⟨Nat.zero_le _, Nat.zero_le _⟩) hD hS hA (fun r15 u H locs hw15 hP hD hS => ?_)
                have hP : va_P D vwCl (wX3 cI cZ cG h3 a3 (nI nr) (nI nt) (nI nc) rd rr rs so tr si gr ct cd cs) H := hP
                have hD : va_D A (wX3 cI cZ cG h3 a3 (nI nr) (nI nt) (nI nc) rd rr rs so tr si gr ct cd cs) := hD
                obtain rfl := hw15
                refine lv_istore (lv' := [(5, .int (szA nc ct cd cs si gr t d)), (4, .int (nI b9)), (0, .ref h3), (1, .int (nI t)), (2, .int d), (3, .int v)]) hx hb dX3_clipTree_93 hl (by decide) rfl (fun ls hl => ?_)
                refine lv_aload_n hx hb dX3_clipTree_95 rfl (lv_at hl 2 rfl) ?_
                refine va_get (D := D) (ci := 3) (v := .ref (a3 7)) (C := RX3) (T := TX3) (N := 13) hx hb hts inX3_clipTree hown hK hP 0 rfl rfl 9 (by decide) fl33 (fun _ h9 => h9) rfl dX3_clipTree_96 ?_
                refine lv_aload_n hx hb dX3_clipTree_99 rfl (lv_at hl 2 rfl) ?_
                refine va_get (D := D) (ci := 3) (v := .int (nI nc)) (C := RX3) (T := TX3) (N := 13) hx hb hts inX3_clipTree hown hK hP 0 rfl rfl 12 (by decide) fl68 (fun _ h9 => h9) rfl dX3_clipTree_100 ?_
                refine lv_iload_n hx hb dX3_clipTree_103 rfl (lv_at hl 3 rfl) ?_
                refine K_iast hx hb hK hP hD hS 8 0 rfl rfl nc (by omega) (Nat.le_of_ble_eq_true rfl) dX3_clipTree_104 (fun H locs hP hD hS => ?_)
                have hP : va_P D vwCl (wX3 cI cZ cG h3 a3 (nI nr) (nI nt) (nI nc) rd rr rs so tr si gr (upd ct nc (nI t)) cd cs) H := hP
                have hD : va_D A (wX3 cI cZ cG h3 a3 (nI nr) (nI nt) (nI nc) rd rr rs so tr si gr (upd ct nc (nI t)) cd cs) := hD
                refine lv_aload_n hx hb dX3_clipTree_105 rfl (lv_at hl 2 rfl) ?_
                refine va_get (D := D) (ci := 3) (v := .ref (a3 8)) (C := RX3) (T := TX3) (N := 13) hx hb hts inX3_clipTree hown hK hP 0 rfl rfl 10 (by decide) fl36 (fun _ h9 => h9) rfl dX3_clipTree_106 ?_
                refine lv_aload_n hx hb dX3_clipTree_109 rfl (lv_at hl 2 rfl) ?_
                refine va_get (D := D) (ci := 3) (v := .int (nI nc)) (C := RX3) (T := TX3) (N := 13) hx hb hts inX3_clipTree hown hK hP 0 rfl rfl 12 (by decide) fl68 (fun _ h9 => h9) rfl dX3_clipTree_110 ?_
                refine lv_iload_n hx hb dX3_clipTree_113 rfl (lv_at hl 4 rfl) ?_
                refine K_iast hx hb hK hP hD hS 9 0 rfl rfl nc (by omega) (Nat.le_of_ble_eq_true rfl) dX3_clipTree_114 (fun H locs hP hD hS => ?_)
                have hP : va_P D vwCl (wX3 cI cZ cG h3 a3 (nI nr) (nI nt) (nI nc) rd rr rs so tr si gr (upd ct nc (nI t)) (upd cd nc d) cs) H := hP
                have hD : va_D A (wX3 cI cZ cG h3 a3 (nI nr) (nI nt) (nI nc) rd rr rs so tr si gr (upd ct nc (nI t)) (upd cd nc d) cs) := hD
                refine lv_aload_n hx hb dX3_clipTree_115 rfl (lv_at hl 2 rfl) ?_
                refine va_get (D := D) (ci := 3) (v := .ref (a3 9)) (C := RX3) (T := TX3) (N := 13) hx hb hts inX3_clipTree hown hK hP 0 rfl rfl 11 (by decide) fl39 (fun _ h9 => h9) rfl dX3_clipTree_116 ?_
                refine lv_aload_n hx hb dX3_clipTree_119 rfl (lv_at hl 2 rfl) ?_
                refine va_get (D := D) (ci := 3) (v := .int (nI nc)) (C := RX3) (T := TX3) (N := 13) hx hb hts inX3_clipTree hown hK hP 0 rfl rfl 12 (by decide) fl68 (fun _ h9 => h9) rfl dX3_clipTree_120 ?_
                refine lv_iload_n hx hb dX3_clipTree_123 rfl (lv_at hl 5 rfl) ?_
                refine K_iast hx hb hK hP hD hS 10 0 rfl rfl nc (by omega) (Nat.le_of_ble_eq_true rfl) dX3_clipTree_124 (fun H locs hP hD hS => ?_)
                have hP : va_P D vwCl (wX3 cI cZ cG h3 a3 (nI nr) (nI nt) (nI nc) rd rr rs so tr si gr (upd ct nc (nI t)) (upd cd nc d) (upd cs nc v)) H := hP
                have hD : va_D A (wX3 cI cZ cG h3 a3 (nI nr) (nI nt) (nI nc) rd rr rs so tr si gr (upd ct nc (nI t)) (upd cd nc d) (upd cs nc v)) := hD
                refine lv_aload_n hx hb dX3_clipTree_125 rfl (lv_at hl 2 rfl) ?_
                refine lv_dup hx hb dX3_clipTree_126 rfl ?_
                refine va_get (D := D) (ci := 3) (v := .int (nI nc)) (C := RX3) (T := TX3) (N := 13) hx hb hts inX3_clipTree hown hK hP 0 rfl rfl 12 (by decide) fl68 (fun _ h9 => h9) rfl dX3_clipTree_127 ?_
                refine lv_iconst (v := 1) hx hb dX3_clipTree_130 (by decide) ?_
                refine lv_iadd hx hb dX3_clipTree_131 ?_
                refine lv_topi (fun z16 ez16 => ?_)
                obtain rfl : z16 = nI (nc + 1) := ez16.trans (nI_add nc 1)
                refine va_put (D := D) (ci := 3) (v := .int (nI (nc + 1))) (ty := .int) (C := RX3) (T := TX3) (N := 13) hx hb hts inX3_clipTree tyX3 tyX3_ok nmX3 hown hK hP hD hS 0 rfl rfl 12 (by decide) fl68 (fun _ h9 => h9) rfl (by decide +kernel) rfl rfl (Nat.le_of_ble_eq_true rfl) dX3_clipTree_132 (fun H locs hP hD hS => ?_)
                have hP : va_P D vwCl (wX3 cI cZ cG h3 a3 (nI nr) (nI nt) (nI (nc + 1)) rd rr rs so tr si gr (upd ct nc (nI t)) (upd cd nc d) (upd cs nc v)) H := hP
                have hD : va_D A (wX3 cI cZ cG h3 a3 (nI nr) (nI nt) (nI (nc + 1)) rd rr rs so tr si gr (upd ct nc (nI t)) (upd cd nc d) (upd cs nc v)) := hD
                refine lv_iload hx hb dX3_clipTree_135 (lv_at hl 0 rfl) ?_
                exact K_iret (wf := (fun (u : Nat × (Nat → Int32) × (Nat → Int32) × (Nat → Int32)) => wX3 cI cZ cG h3 a3 (nI nr) (nI nt) (nI u.1) rd rr rs so tr si gr u.2.1 u.2.2.1 u.2.2.2)) (nc + 1, upd ct nc (nI t), upd cd nc d, upd cs nc v) hx hb hr hlocks hP hK hD hS dX3_clipTree_137 (by simp [rClip, okClip, lateC, hw1, hct, hw3, hw5, eq_true c7, c8, ho9, c14])
              · refine lv_bipush (v := (-5)) hx hb dX3_clipTree_84 (by decide) ?_
                exact K_iret (wf := (fun (u : Nat × (Nat → Int32) × (Nat → Int32) × (Nat → Int32)) => wX3 cI cZ cG h3 a3 (nI nr) (nI nt) (nI u.1) rd rr rs so tr si gr u.2.1 u.2.2.1 u.2.2.2)) (nc, ct, cd, cs) hx hb hr hlocks hP hK hD hS dX3_clipTree_86 (by simp [rClip, okClip, lateC, hw1, hct, hw3, hw5, eq_true c7, c8, ho9, c14])
          · have c8 : ¬ nc < 60 := fun hq => c8 ((nI_ltI (a := nc) (b := 60) (by omega) (by omega)).mpr hq)
            have c8 : nc = 60 := by omega
            refine lv_bipush (v := (-4)) hx hb dX3_clipTree_53 (by decide) ?_
            exact K_iret (wf := (fun (u : Nat × (Nat → Int32) × (Nat → Int32) × (Nat → Int32)) => wX3 cI cZ cG h3 a3 (nI nr) (nI nt) (nI u.1) rd rr rs so tr si gr u.2.1 u.2.2.1 u.2.2.2)) (nc, ct, cd, cs) hx hb hr hlocks hP hK hD hS dX3_clipTree_55 (by simp [rClip, okClip, lateC, hw1, hct, hw3, hw5, eq_true c7, eq_true c8])
        · refine lv_bipush (v := (-3)) hx hb dX3_clipTree_41 (by decide) ?_
          exact K_iret (wf := (fun (u : Nat × (Nat → Int32) × (Nat → Int32) × (Nat → Int32)) => wX3 cI cZ cG h3 a3 (nI nr) (nI nt) (nI u.1) rd rr rs so tr si gr u.2.1 u.2.2.1 u.2.2.2)) (nc, ct, cd, cs) hx hb hr hlocks hP hK hD hS dX3_clipTree_43 (by simp [rClip, okClip, lateC, hw1, hct, hw3, hw5, c7])
      · skip
        refine lv_if_ne (tgt := 31) hx hb dX3_clipTree_25 (by decide) (fun c17 => absurd c17 (by decide)) (fun _ => ?_)
        refine lv_bipush (v := (-2)) hx hb dX3_clipTree_28 (by decide) ?_
        exact K_iret (wf := (fun (u : Nat × (Nat → Int32) × (Nat → Int32) × (Nat → Int32)) => wX3 cI cZ cG h3 a3 (nI nr) (nI nt) (nI u.1) rd rr rs so tr si gr u.2.1 u.2.2.1 u.2.2.2)) (nc, ct, cd, cs) hx hb hr hlocks hP hK hD hS dX3_clipTree_30 (by simp [rClip, okClip, lateC, hw1, hct, hw3, hw5])
    · skip
      refine lv_if_eq (tgt := 28) hx hb dX3_clipTree_14 (by decide) (fun _ => ?_) (fun c18 => absurd c18 (by decide))
      refine lv_bipush (v := (-2)) hx hb dX3_clipTree_28 (by decide) ?_
      exact K_iret (wf := (fun (u : Nat × (Nat → Int32) × (Nat → Int32) × (Nat → Int32)) => wX3 cI cZ cG h3 a3 (nI nr) (nI nt) (nI u.1) rd rr rs so tr si gr u.2.1 u.2.2.1 u.2.2.2)) (nc, ct, cd, cs) hx hb hr hlocks hP hK hD hS dX3_clipTree_30 (by simp [rClip, okClip, lateC, hw1, hct, hw3])
  · skip
    refine lv_if_ne (tgt := 10) hx hb dX3_clipTree_5 (by decide) (fun c19 => absurd c19 (by decide)) (fun _ => ?_)
    refine lv_iconst (v := (-1)) hx hb dX3_clipTree_8 (by decide) ?_
    exact K_iret (wf := (fun (u : Nat × (Nat → Int32) × (Nat → Int32) × (Nat → Int32)) => wX3 cI cZ cG h3 a3 (nI nr) (nI nt) (nI u.1) rd rr rs so tr si gr u.2.1 u.2.2.1 u.2.2.2)) (nc, ct, cd, cs) hx hb hr hlocks hP hK hD hS dX3_clipTree_9 (by simp [rClip, okClip, lateC, hw1])
end
section
theorem zz_last : True := trivial
end

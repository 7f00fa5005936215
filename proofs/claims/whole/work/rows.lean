section
-- ===== PART A: goes FIRST, ahead of the names: the tables' words, and 'selects' of the private methods out of them =====
/-- a private method of a class that the tables say can be made, by its rows of tables_1 -/
def lw_okq (q : MethodName × Nat) : Prop := (q.1.cls ≠ "java/lang/invoke/MethodHandle" ∧ q.1.cls ≠ "java/lang/invoke/VarHandle") ∧ Cond.instantiable q.1.cls q.2 ∈ tables_1 ∧ Cond.privateMethod q.1 ∈ tables_1 ∧ Cond.instanceMethod q.1 ∈ tables_1
theorem lw_p0 : lw_okq (⟨"NetForms", "formAt", "(I)LNetForms$Form;"⟩, 7) := ⟨⟨by decide +kernel, by decide +kernel⟩, List.mem_of_getElem? (i := 12) (by decide +kernel), List.mem_of_getElem? (i := 258) (by decide +kernel), List.mem_of_getElem? (i := 259) (by decide +kernel)⟩
theorem lw_p1 : lw_okq (⟨"NetForms", "makeSlope", "(LNetForms$Form;)V"⟩, 7) := ⟨⟨by decide +kernel, by decide +kernel⟩, List.mem_of_getElem? (i := 12) (by decide +kernel), List.mem_of_getElem? (i := 279) (by decide +kernel), List.mem_of_getElem? (i := 280) (by decide +kernel)⟩
theorem lw_p2 : lw_okq (⟨"NetForms", "giveMade", "(LNetForms$Form;I)I"⟩, 7) := ⟨⟨by decide +kernel, by decide +kernel⟩, List.mem_of_getElem? (i := 12) (by decide +kernel), List.mem_of_getElem? (i := 288) (by decide +kernel), List.mem_of_getElem? (i := 289) (by decide +kernel)⟩
theorem lw_p3 : lw_okq (⟨"NetForms", "makeRim", "(LNetForms$Form;)V"⟩, 7) := ⟨⟨by decide +kernel, by decide +kernel⟩, List.mem_of_getElem? (i := 12) (by decide +kernel), List.mem_of_getElem? (i := 296) (by decide +kernel), List.mem_of_getElem? (i := 297) (by decide +kernel)⟩
theorem lw_p4 : lw_okq (⟨"NetForms", "hasNoSlope", "(LNetForms$Form;)Z"⟩, 7) := ⟨⟨by decide +kernel, by decide +kernel⟩, List.mem_of_getElem? (i := 12) (by decide +kernel), List.mem_of_getElem? (i := 326) (by decide +kernel), List.mem_of_getElem? (i := 327) (by decide +kernel)⟩
theorem lw_p5 : lw_okq (⟨"NetForms", "isMadeZero", "(I)Z"⟩, 7) := ⟨⟨by decide +kernel, by decide +kernel⟩, List.mem_of_getElem? (i := 12) (by decide +kernel), List.mem_of_getElem? (i := 330) (by decide +kernel), List.mem_of_getElem? (i := 331) (by decide +kernel)⟩
theorem lw_p6 : lw_okq (⟨"NetForms", "hasNoRim", "(LNetForms$Form;)Z"⟩, 7) := ⟨⟨by decide +kernel, by decide +kernel⟩, List.mem_of_getElem? (i := 12) (by decide +kernel), List.mem_of_getElem? (i := 334) (by decide +kernel), List.mem_of_getElem? (i := 335) (by decide +kernel)⟩
theorem lw_p7 : lw_okq (⟨"NetForms", "countTurns", "()I"⟩, 7) := ⟨⟨by decide +kernel, by decide +kernel⟩, List.mem_of_getElem? (i := 12) (by decide +kernel), List.mem_of_getElem? (i := 346) (by decide +kernel), List.mem_of_getElem? (i := 347) (by decide +kernel)⟩
theorem lw_p8 : lw_okq (⟨"NetForms", "addPlateProducts", "()V"⟩, 7) := ⟨⟨by decide +kernel, by decide +kernel⟩, List.mem_of_getElem? (i := 12) (by decide +kernel), List.mem_of_getElem? (i := 356) (by decide +kernel), List.mem_of_getElem? (i := 357) (by decide +kernel)⟩
theorem lw_p9 : lw_okq (⟨"NetForms$Balance", "clear", "(IIJ)V"⟩, 5) := ⟨⟨by decide +kernel, by decide +kernel⟩, List.mem_of_getElem? (i := 106) (by decide +kernel), List.mem_of_getElem? (i := 368) (by decide +kernel), List.mem_of_getElem? (i := 369) (by decide +kernel)⟩
theorem lw_p10 : lw_okq (⟨"NetForms$Climb", "join", "(IIJ)V"⟩, 2) := ⟨⟨by decide +kernel, by decide +kernel⟩, List.mem_of_getElem? (i := 132) (by decide +kernel), List.mem_of_getElem? (i := 383) (by decide +kernel), List.mem_of_getElem? (i := 384) (by decide +kernel)⟩
theorem lw_p11 : lw_okq (⟨"NetForms", "slopePart", "(LNetForms$Form;I)J"⟩, 7) := ⟨⟨by decide +kernel, by decide +kernel⟩, List.mem_of_getElem? (i := 12) (by decide +kernel), List.mem_of_getElem? (i := 397) (by decide +kernel), List.mem_of_getElem? (i := 398) (by decide +kernel)⟩
theorem lw_p12 : lw_okq (⟨"NetForms", "turnPart", "(LNetForms$Form;I)J"⟩, 7) := ⟨⟨by decide +kernel, by decide +kernel⟩, List.mem_of_getElem? (i := 12) (by decide +kernel), List.mem_of_getElem? (i := 420) (by decide +kernel), List.mem_of_getElem? (i := 421) (by decide +kernel)⟩
theorem lw_p13 : lw_okq (⟨"NetForms", "stillPart", "(LNetForms$Form;II)J"⟩, 7) := ⟨⟨by decide +kernel, by decide +kernel⟩, List.mem_of_getElem? (i := 12) (by decide +kernel), List.mem_of_getElem? (i := 424) (by decide +kernel), List.mem_of_getElem? (i := 425) (by decide +kernel)⟩
theorem lw_p14 : lw_okq (⟨"NetForms$Walls", "isWalled", "(LNetForms$Net;I)Z"⟩, 2) := ⟨⟨by decide +kernel, by decide +kernel⟩, List.mem_of_getElem? (i := 70) (by decide +kernel), List.mem_of_getElem? (i := 445) (by decide +kernel), List.mem_of_getElem? (i := 446) (by decide +kernel)⟩
theorem lw_p15 : lw_okq (⟨"NetForms", "balanceField", "()V"⟩, 7) := ⟨⟨by decide +kernel, by decide +kernel⟩, List.mem_of_getElem? (i := 12) (by decide +kernel), List.mem_of_getElem? (i := 453) (by decide +kernel), List.mem_of_getElem? (i := 454) (by decide +kernel)⟩
def lw_privs_1 : List (MethodName × Nat) := [(⟨"NetForms", "formAt", "(I)LNetForms$Form;"⟩, 7), (⟨"NetForms", "makeSlope", "(LNetForms$Form;)V"⟩, 7), (⟨"NetForms", "giveMade", "(LNetForms$Form;I)I"⟩, 7), (⟨"NetForms", "makeRim", "(LNetForms$Form;)V"⟩, 7), (⟨"NetForms", "hasNoSlope", "(LNetForms$Form;)Z"⟩, 7), (⟨"NetForms", "isMadeZero", "(I)Z"⟩, 7), (⟨"NetForms", "hasNoRim", "(LNetForms$Form;)Z"⟩, 7), (⟨"NetForms", "countTurns", "()I"⟩, 7), (⟨"NetForms", "addPlateProducts", "()V"⟩, 7), (⟨"NetForms$Balance", "clear", "(IIJ)V"⟩, 5), (⟨"NetForms$Climb", "join", "(IIJ)V"⟩, 2), (⟨"NetForms", "slopePart", "(LNetForms$Form;I)J"⟩, 7), (⟨"NetForms", "turnPart", "(LNetForms$Form;I)J"⟩, 7), (⟨"NetForms", "stillPart", "(LNetForms$Form;II)J"⟩, 7), (⟨"NetForms$Walls", "isWalled", "(LNetForms$Net;I)Z"⟩, 2), (⟨"NetForms", "balanceField", "()V"⟩, 7)]
theorem lw_r1 : ∀ q ∈ lw_privs_1, lw_okq q := List.forall_mem_cons.mpr ⟨lw_p0, List.forall_mem_cons.mpr ⟨lw_p1, List.forall_mem_cons.mpr ⟨lw_p2, List.forall_mem_cons.mpr ⟨lw_p3, List.forall_mem_cons.mpr ⟨lw_p4, List.forall_mem_cons.mpr ⟨lw_p5, List.forall_mem_cons.mpr ⟨lw_p6, List.forall_mem_cons.mpr ⟨lw_p7, List.forall_mem_cons.mpr ⟨lw_p8, List.forall_mem_cons.mpr ⟨lw_p9, List.forall_mem_cons.mpr ⟨lw_p10, List.forall_mem_cons.mpr ⟨lw_p11, List.forall_mem_cons.mpr ⟨lw_p12, List.forall_mem_cons.mpr ⟨lw_p13, List.forall_mem_cons.mpr ⟨lw_p14, List.forall_mem_cons.mpr ⟨lw_p15, fun _ h => absurd h List.not_mem_nil⟩⟩⟩⟩⟩⟩⟩⟩⟩⟩⟩⟩⟩⟩⟩⟩
theorem lw_p16 : lw_okq (⟨"NetForms", "balanceAt", "(II)V"⟩, 7) := ⟨⟨by decide +kernel, by decide +kernel⟩, List.mem_of_getElem? (i := 12) (by decide +kernel), List.mem_of_getElem? (i := 457) (by decide +kernel), List.mem_of_getElem? (i := 458) (by decide +kernel)⟩
theorem lw_p17 : lw_okq (⟨"NetForms", "foldCorners", "(JI)J"⟩, 7) := ⟨⟨by decide +kernel, by decide +kernel⟩, List.mem_of_getElem? (i := 12) (by decide +kernel), List.mem_of_getElem? (i := 504) (by decide +kernel), List.mem_of_getElem? (i := 505) (by decide +kernel)⟩
theorem lw_p18 : lw_okq (⟨"NetForms", "foldForms", "(J)J"⟩, 7) := ⟨⟨by decide +kernel, by decide +kernel⟩, List.mem_of_getElem? (i := 12) (by decide +kernel), List.mem_of_getElem? (i := 508) (by decide +kernel), List.mem_of_getElem? (i := 509) (by decide +kernel)⟩
theorem lw_p19 : lw_okq (⟨"NetForms", "foldWalls", "(J)J"⟩, 7) := ⟨⟨by decide +kernel, by decide +kernel⟩, List.mem_of_getElem? (i := 12) (by decide +kernel), List.mem_of_getElem? (i := 512) (by decide +kernel), List.mem_of_getElem? (i := 513) (by decide +kernel)⟩
theorem lw_p20 : lw_okq (⟨"NetFormsModel", "clears", "(II)V"⟩, 26) := ⟨⟨by decide +kernel, by decide +kernel⟩, List.mem_of_getElem? (i := 516) (by decide +kernel), List.mem_of_getElem? (i := 609) (by decide +kernel), List.mem_of_getElem? (i := 610) (by decide +kernel)⟩
theorem lw_p21 : lw_okq (⟨"NetFormsModel", "isPoint", "(I)Z"⟩, 26) := ⟨⟨by decide +kernel, by decide +kernel⟩, List.mem_of_getElem? (i := 516) (by decide +kernel), List.mem_of_getElem? (i := 617) (by decide +kernel), List.mem_of_getElem? (i := 618) (by decide +kernel)⟩
theorem lw_p22 : lw_okq (⟨"NetFormsModel", "edgeOf", "(II)I"⟩, 26) := ⟨⟨by decide +kernel, by decide +kernel⟩, List.mem_of_getElem? (i := 516) (by decide +kernel), List.mem_of_getElem? (i := 621) (by decide +kernel), List.mem_of_getElem? (i := 622) (by decide +kernel)⟩
theorem lw_p23 : lw_okq (⟨"NetFormsModel", "isThere", "(II)Z"⟩, 26) := ⟨⟨by decide +kernel, by decide +kernel⟩, List.mem_of_getElem? (i := 516) (by decide +kernel), List.mem_of_getElem? (i := 646) (by decide +kernel), List.mem_of_getElem? (i := 647) (by decide +kernel)⟩
theorem lw_p24 : lw_okq (⟨"NetFormsModel", "size", "(I)I"⟩, 26) := ⟨⟨by decide +kernel, by decide +kernel⟩, List.mem_of_getElem? (i := 516) (by decide +kernel), List.mem_of_getElem? (i := 650) (by decide +kernel), List.mem_of_getElem? (i := 651) (by decide +kernel)⟩
theorem lw_p25 : lw_okq (⟨"NetFormsModel", "makeSlope", "(I)V"⟩, 26) := ⟨⟨by decide +kernel, by decide +kernel⟩, List.mem_of_getElem? (i := 516) (by decide +kernel), List.mem_of_getElem? (i := 665) (by decide +kernel), List.mem_of_getElem? (i := 666) (by decide +kernel)⟩
theorem lw_p26 : lw_okq (⟨"NetFormsModel", "at", "(II)J"⟩, 26) := ⟨⟨by decide +kernel, by decide +kernel⟩, List.mem_of_getElem? (i := 516) (by decide +kernel), List.mem_of_getElem? (i := 669) (by decide +kernel), List.mem_of_getElem? (i := 670) (by decide +kernel)⟩
theorem lw_p27 : lw_okq (⟨"NetFormsModel", "onEdge", "(III)J"⟩, 26) := ⟨⟨by decide +kernel, by decide +kernel⟩, List.mem_of_getElem? (i := 516) (by decide +kernel), List.mem_of_getElem? (i := 673) (by decide +kernel), List.mem_of_getElem? (i := 674) (by decide +kernel)⟩
theorem lw_p28 : lw_okq (⟨"NetFormsModel", "becomes", "(II)I"⟩, 26) := ⟨⟨by decide +kernel, by decide +kernel⟩, List.mem_of_getElem? (i := 516) (by decide +kernel), List.mem_of_getElem? (i := 677) (by decide +kernel), List.mem_of_getElem? (i := 678) (by decide +kernel)⟩
theorem lw_p29 : lw_okq (⟨"NetFormsModel", "makeRim", "(I)V"⟩, 26) := ⟨⟨by decide +kernel, by decide +kernel⟩, List.mem_of_getElem? (i := 516) (by decide +kernel), List.mem_of_getElem? (i := 685) (by decide +kernel), List.mem_of_getElem? (i := 686) (by decide +kernel)⟩
theorem lw_p30 : lw_okq (⟨"NetFormsModel", "cupAt", "(III)J"⟩, 26) := ⟨⟨by decide +kernel, by decide +kernel⟩, List.mem_of_getElem? (i := 516) (by decide +kernel), List.mem_of_getElem? (i := 693) (by decide +kernel), List.mem_of_getElem? (i := 694) (by decide +kernel)⟩
theorem lw_p31 : lw_okq (⟨"NetFormsModel", "isNought", "(I)Z"⟩, 26) := ⟨⟨by decide +kernel, by decide +kernel⟩, List.mem_of_getElem? (i := 516) (by decide +kernel), List.mem_of_getElem? (i := 708) (by decide +kernel), List.mem_of_getElem? (i := 709) (by decide +kernel)⟩
def lw_privs_2 : List (MethodName × Nat) := [(⟨"NetForms", "balanceAt", "(II)V"⟩, 7), (⟨"NetForms", "foldCorners", "(JI)J"⟩, 7), (⟨"NetForms", "foldForms", "(J)J"⟩, 7), (⟨"NetForms", "foldWalls", "(J)J"⟩, 7), (⟨"NetFormsModel", "clears", "(II)V"⟩, 26), (⟨"NetFormsModel", "isPoint", "(I)Z"⟩, 26), (⟨"NetFormsModel", "edgeOf", "(II)I"⟩, 26), (⟨"NetFormsModel", "isThere", "(II)Z"⟩, 26), (⟨"NetFormsModel", "size", "(I)I"⟩, 26), (⟨"NetFormsModel", "makeSlope", "(I)V"⟩, 26), (⟨"NetFormsModel", "at", "(II)J"⟩, 26), (⟨"NetFormsModel", "onEdge", "(III)J"⟩, 26), (⟨"NetFormsModel", "becomes", "(II)I"⟩, 26), (⟨"NetFormsModel", "makeRim", "(I)V"⟩, 26), (⟨"NetFormsModel", "cupAt", "(III)J"⟩, 26), (⟨"NetFormsModel", "isNought", "(I)Z"⟩, 26)]
theorem lw_r2 : ∀ q ∈ lw_privs_2, lw_okq q := List.forall_mem_cons.mpr ⟨lw_p16, List.forall_mem_cons.mpr ⟨lw_p17, List.forall_mem_cons.mpr ⟨lw_p18, List.forall_mem_cons.mpr ⟨lw_p19, List.forall_mem_cons.mpr ⟨lw_p20, List.forall_mem_cons.mpr ⟨lw_p21, List.forall_mem_cons.mpr ⟨lw_p22, List.forall_mem_cons.mpr ⟨lw_p23, List.forall_mem_cons.mpr ⟨lw_p24, List.forall_mem_cons.mpr ⟨lw_p25, List.forall_mem_cons.mpr ⟨lw_p26, List.forall_mem_cons.mpr ⟨lw_p27, List.forall_mem_cons.mpr ⟨lw_p28, List.forall_mem_cons.mpr ⟨lw_p29, List.forall_mem_cons.mpr ⟨lw_p30, List.forall_mem_cons.mpr ⟨lw_p31, fun _ h => absurd h List.not_mem_nil⟩⟩⟩⟩⟩⟩⟩⟩⟩⟩⟩⟩⟩⟩⟩⟩
theorem lw_p32 : lw_okq (⟨"NetFormsModel", "parts", "()I"⟩, 26) := ⟨⟨by decide +kernel, by decide +kernel⟩, List.mem_of_getElem? (i := 516) (by decide +kernel), List.mem_of_getElem? (i := 716) (by decide +kernel), List.mem_of_getElem? (i := 717) (by decide +kernel)⟩
theorem lw_p33 : lw_okq (⟨"NetFormsModel", "joins", "(II)V"⟩, 26) := ⟨⟨by decide +kernel, by decide +kernel⟩, List.mem_of_getElem? (i := 516) (by decide +kernel), List.mem_of_getElem? (i := 720) (by decide +kernel), List.mem_of_getElem? (i := 721) (by decide +kernel)⟩
theorem lw_p34 : lw_okq (⟨"NetFormsModel", "slopeRank", "()I"⟩, 26) := ⟨⟨by decide +kernel, by decide +kernel⟩, List.mem_of_getElem? (i := 516) (by decide +kernel), List.mem_of_getElem? (i := 724) (by decide +kernel), List.mem_of_getElem? (i := 725) (by decide +kernel)⟩
theorem lw_p35 : lw_okq (⟨"NetFormsModel", "turnRank", "()I"⟩, 26) := ⟨⟨by decide +kernel, by decide +kernel⟩, List.mem_of_getElem? (i := 516) (by decide +kernel), List.mem_of_getElem? (i := 728) (by decide +kernel), List.mem_of_getElem? (i := 729) (by decide +kernel)⟩
theorem lw_p36 : lw_okq (⟨"NetFormsModel", "empties", "()V"⟩, 26) := ⟨⟨by decide +kernel, by decide +kernel⟩, List.mem_of_getElem? (i := 516) (by decide +kernel), List.mem_of_getElem? (i := 732) (by decide +kernel), List.mem_of_getElem? (i := 733) (by decide +kernel)⟩
theorem lw_p37 : lw_okq (⟨"NetFormsModel", "turns", "(III)I"⟩, 26) := ⟨⟨by decide +kernel, by decide +kernel⟩, List.mem_of_getElem? (i := 516) (by decide +kernel), List.mem_of_getElem? (i := 737) (by decide +kernel), List.mem_of_getElem? (i := 738) (by decide +kernel)⟩
theorem lw_p38 : lw_okq (⟨"NetFormsModel", "turn", "(IIII)V"⟩, 26) := ⟨⟨by decide +kernel, by decide +kernel⟩, List.mem_of_getElem? (i := 516) (by decide +kernel), List.mem_of_getElem? (i := 741) (by decide +kernel), List.mem_of_getElem? (i := 742) (by decide +kernel)⟩
theorem lw_p39 : lw_okq (⟨"NetFormsModel", "splits", "(I)V"⟩, 26) := ⟨⟨by decide +kernel, by decide +kernel⟩, List.mem_of_getElem? (i := 516) (by decide +kernel), List.mem_of_getElem? (i := 754) (by decide +kernel), List.mem_of_getElem? (i := 755) (by decide +kernel)⟩
theorem lw_p40 : lw_okq (⟨"NetFormsModel", "solves", "(I)V"⟩, 26) := ⟨⟨by decide +kernel, by decide +kernel⟩, List.mem_of_getElem? (i := 516) (by decide +kernel), List.mem_of_getElem? (i := 758) (by decide +kernel), List.mem_of_getElem? (i := 759) (by decide +kernel)⟩
theorem lw_p41 : lw_okq (⟨"NetFormsModel", "sideOf", "(II)J"⟩, 26) := ⟨⟨by decide +kernel, by decide +kernel⟩, List.mem_of_getElem? (i := 516) (by decide +kernel), List.mem_of_getElem? (i := 762) (by decide +kernel), List.mem_of_getElem? (i := 763) (by decide +kernel)⟩
theorem lw_p42 : lw_okq (⟨"NetFormsModel", "forbids", "()I"⟩, 26) := ⟨⟨by decide +kernel, by decide +kernel⟩, List.mem_of_getElem? (i := 516) (by decide +kernel), List.mem_of_getElem? (i := 785) (by decide +kernel), List.mem_of_getElem? (i := 786) (by decide +kernel)⟩
theorem lw_p43 : lw_okq (⟨"NetFormsModel", "flows", "(J)V"⟩, 26) := ⟨⟨by decide +kernel, by decide +kernel⟩, List.mem_of_getElem? (i := 516) (by decide +kernel), List.mem_of_getElem? (i := 799) (by decide +kernel), List.mem_of_getElem? (i := 800) (by decide +kernel)⟩
theorem lw_p44 : lw_okq (⟨"NetFormsModel", "rises", "(J)V"⟩, 26) := ⟨⟨by decide +kernel, by decide +kernel⟩, List.mem_of_getElem? (i := 516) (by decide +kernel), List.mem_of_getElem? (i := 803) (by decide +kernel), List.mem_of_getElem? (i := 804) (by decide +kernel)⟩
def lw_privs_3 : List (MethodName × Nat) := [(⟨"NetFormsModel", "parts", "()I"⟩, 26), (⟨"NetFormsModel", "joins", "(II)V"⟩, 26), (⟨"NetFormsModel", "slopeRank", "()I"⟩, 26), (⟨"NetFormsModel", "turnRank", "()I"⟩, 26), (⟨"NetFormsModel", "empties", "()V"⟩, 26), (⟨"NetFormsModel", "turns", "(III)I"⟩, 26), (⟨"NetFormsModel", "turn", "(IIII)V"⟩, 26), (⟨"NetFormsModel", "splits", "(I)V"⟩, 26), (⟨"NetFormsModel", "solves", "(I)V"⟩, 26), (⟨"NetFormsModel", "sideOf", "(II)J"⟩, 26), (⟨"NetFormsModel", "forbids", "()I"⟩, 26), (⟨"NetFormsModel", "flows", "(J)V"⟩, 26), (⟨"NetFormsModel", "rises", "(J)V"⟩, 26)]
theorem lw_r3 : ∀ q ∈ lw_privs_3, lw_okq q := List.forall_mem_cons.mpr ⟨lw_p32, List.forall_mem_cons.mpr ⟨lw_p33, List.forall_mem_cons.mpr ⟨lw_p34, List.forall_mem_cons.mpr ⟨lw_p35, List.forall_mem_cons.mpr ⟨lw_p36, List.forall_mem_cons.mpr ⟨lw_p37, List.forall_mem_cons.mpr ⟨lw_p38, List.forall_mem_cons.mpr ⟨lw_p39, List.forall_mem_cons.mpr ⟨lw_p40, List.forall_mem_cons.mpr ⟨lw_p41, List.forall_mem_cons.mpr ⟨lw_p42, List.forall_mem_cons.mpr ⟨lw_p43, List.forall_mem_cons.mpr ⟨lw_p44, fun _ h => absurd h List.not_mem_nil⟩⟩⟩⟩⟩⟩⟩⟩⟩⟩⟩⟩⟩
def lw_privs : List (MethodName × Nat) := lw_privs_1 ++ (lw_privs_2 ++ (lw_privs_3))
def lw_tbl : List Cond := k2_sels lw_privs ++ tables_1
theorem lw_privs_ok : ∀ q ∈ lw_privs, lw_okq q := by
  show ∀ q ∈ lw_privs_1 ++ (lw_privs_2 ++ (lw_privs_3)), lw_okq q
  exact List.forall_mem_append.mpr ⟨lw_r1, List.forall_mem_append.mpr ⟨lw_r2, lw_r3⟩⟩
end
section
/-! names: classes, fields, methods; the good words, by their places (printed by program) -/
def R_Bal : String := "NetForms$Balance"
def T_Bal : u_T := fun k => match k with
  | 0 => ("NetForms$Balance", "size", "I", false)
  | 1 => ("NetForms$Balance", "table", "[[J", true)
  | 2 => ("NetForms$Balance", "dues", "[J", true)
  | 3 => ("NetForms$Balance", "rank", "I", false)
  | _ => ("NetForms$Balance", "below", "J", false)
def ty_Bal : Nat → FieldType := fun k => match k with
  | 0 => .int
  | 1 => (.array (.array .long))
  | 2 => (.array .long)
  | 3 => .int
  | _ => .long
theorem nm_Bal : ∀ a, a < 5 → ∀ b, b < 5 → a ≠ b → (T_Bal a).2.1 ≠ (T_Bal b).2.1 := by decide +kernel
theorem tk_Bal : ∀ k, k < 5 → parseFieldDescriptor (T_Bal k).2.2.1 = some (ty_Bal k) := by decide +kernel
def R_Cli : String := "NetForms$Climb"
def T_Cli : u_T := fun k => match k with
  | 0 => ("NetForms$Climb", "climbed", "[J", true)
  | _ => ("NetForms$Climb", "leasts", "[I", true)
def ty_Cli : Nat → FieldType := fun k => match k with
  | 0 => (.array .long)
  | _ => (.array .int)
theorem nm_Cli : ∀ a, a < 2 → ∀ b, b < 2 → a ≠ b → (T_Cli a).2.1 ≠ (T_Cli b).2.1 := by decide +kernel
theorem tk_Cli : ∀ k, k < 2 → parseFieldDescriptor (T_Cli k).2.2.1 = some (ty_Cli k) := by decide +kernel
def R_Frm : String := "NetForms$Form"
def T_Frm : u_T := fun k => match k with
  | 0 => ("NetForms$Form", "degree", "I", false)
  | _ => ("NetForms$Form", "numbers", "[I", true)
def ty_Frm : Nat → FieldType := fun k => match k with
  | 0 => .int
  | _ => (.array .int)
theorem nm_Frm : ∀ a, a < 2 → ∀ b, b < 2 → a ≠ b → (T_Frm a).2.1 ≠ (T_Frm b).2.1 := by decide +kernel
theorem tk_Frm : ∀ k, k < 2 → parseFieldDescriptor (T_Frm k).2.2.1 = some (ty_Frm k) := by decide +kernel
def R_Net : String := "NetForms$Net"
def T_Net : u_T := fun k => match k with
  | 0 => ("NetForms$Net", "points", "I", false)
  | 1 => ("NetForms$Net", "edges", "I", false)
  | 2 => ("NetForms$Net", "plates", "I", false)
  | 3 => ("NetForms$Net", "begins", "[I", true)
  | 4 => ("NetForms$Net", "ends", "[I", true)
  | 5 => ("NetForms$Net", "firsts", "[I", true)
  | 6 => ("NetForms$Net", "seconds", "[I", true)
  | 7 => ("NetForms$Net", "acrosses", "[I", true)
  | _ => ("NetForms$Net", "leasts", "[I", true)
def ty_Net : Nat → FieldType := fun k => match k with
  | 0 => .int
  | 1 => .int
  | 2 => .int
  | 3 => (.array .int)
  | 4 => (.array .int)
  | 5 => (.array .int)
  | 6 => (.array .int)
  | 7 => (.array .int)
  | _ => (.array .int)
theorem nm_Net : ∀ a, a < 9 → ∀ b, b < 9 → a ≠ b → (T_Net a).2.1 ≠ (T_Net b).2.1 := by decide +kernel
theorem tk_Net : ∀ k, k < 9 → parseFieldDescriptor (T_Net k).2.2.1 = some (ty_Net k) := by decide +kernel
def R_Wal : String := "NetForms$Walls"
def T_Wal : u_T := fun k => match k with
  | 0 => ("NetForms$Walls", "there", "[Z", true)
  | _ => ("NetForms$Walls", "numbers", "[I", true)
def ty_Wal : Nat → FieldType := fun k => match k with
  | 0 => (.array .boolean)
  | _ => (.array .int)
theorem nm_Wal : ∀ a, a < 2 → ∀ b, b < 2 → a ≠ b → (T_Wal a).2.1 ≠ (T_Wal b).2.1 := by decide +kernel
theorem tk_Wal : ∀ k, k < 2 → parseFieldDescriptor (T_Wal k).2.2.1 = some (ty_Wal k) := by decide +kernel
def R_Wav : String := "NetForms$Wave"
def T_Wav : u_T := fun k => match k with
  | 0 => ("NetForms$Wave", "steps", "I", false)
  | 1 => ("NetForms$Wave", "levels", "[J", true)
  | _ => ("NetForms$Wave", "flows", "[J", true)
def ty_Wav : Nat → FieldType := fun k => match k with
  | 0 => .int
  | 1 => (.array .long)
  | _ => (.array .long)
theorem nm_Wav : ∀ a, a < 3 → ∀ b, b < 3 → a ≠ b → (T_Wav a).2.1 ≠ (T_Wav b).2.1 := by decide +kernel
theorem tk_Wav : ∀ k, k < 3 → parseFieldDescriptor (T_Wav k).2.2.1 = some (ty_Wav k) := by decide +kernel
def R_Nf : String := "NetForms"
def T_Nf : u_T := fun k => match k with
  | 0 => ("NetForms", "shape", "LNetForms$Net;", true)
  | 1 => ("NetForms", "forms", "[LNetForms$Form;", true)
  | 2 => ("NetForms", "walls", "LNetForms$Walls;", true)
  | 3 => ("NetForms", "motion", "LNetForms$Wave;", true)
  | 4 => ("NetForms", "balance", "LNetForms$Balance;", true)
  | 5 => ("NetForms", "climb", "LNetForms$Climb;", true)
  | _ => ("NetForms", "made", "[J", true)
def ty_Nf : Nat → FieldType := fun k => match k with
  | 0 => (.object "NetForms$Net")
  | 1 => (.array (.object "NetForms$Form"))
  | 2 => (.object "NetForms$Walls")
  | 3 => (.object "NetForms$Wave")
  | 4 => (.object "NetForms$Balance")
  | 5 => (.object "NetForms$Climb")
  | _ => (.array .long)
theorem nm_Nf : ∀ a, a < 7 → ∀ b, b < 7 → a ≠ b → (T_Nf a).2.1 ≠ (T_Nf b).2.1 := by decide +kernel
theorem tk_Nf : ∀ k, k < 7 → parseFieldDescriptor (T_Nf k).2.2.1 = some (ty_Nf k) := by decide +kernel
def R_Mo : String := "NetFormsModel"
def T_Mo : u_T := fun k => match k with
  | 0 => ("NetFormsModel", "points", "I", false)
  | 1 => ("NetFormsModel", "edges", "I", false)
  | 2 => ("NetFormsModel", "faces", "I", false)
  | 3 => ("NetFormsModel", "begin", "[I", true)
  | 4 => ("NetFormsModel", "end", "[I", true)
  | 5 => ("NetFormsModel", "first", "[I", true)
  | 6 => ("NetFormsModel", "second", "[I", true)
  | 7 => ("NetFormsModel", "third", "[I", true)
  | 8 => ("NetFormsModel", "degree", "[I", true)
  | 9 => ("NetFormsModel", "number", "[I", true)
  | 10 => ("NetFormsModel", "isWall", "[Z", true)
  | 11 => ("NetFormsModel", "wall", "[I", true)
  | 12 => ("NetFormsModel", "height", "[J", true)
  | 13 => ("NetFormsModel", "flow", "[J", true)
  | 14 => ("NetFormsModel", "steps", "I", false)
  | 15 => ("NetFormsModel", "made", "[J", true)
  | 16 => ("NetFormsModel", "table", "[J", true)
  | 17 => ("NetFormsModel", "placeOf", "[I", true)
  | 18 => ("NetFormsModel", "shared", "J", false)
  | 19 => ("NetFormsModel", "solved", "[J", true)
  | 20 => ("NetFormsModel", "partOf", "[I", true)
  | 21 => ("NetFormsModel", "raised", "[J", true)
  | 22 => ("NetFormsModel", "slopePart", "[J", true)
  | 23 => ("NetFormsModel", "rimPart", "[J", true)
  | 24 => ("NetFormsModel", "slopeShared", "J", false)
  | _ => ("NetFormsModel", "rimShared", "J", false)
def ty_Mo : Nat → FieldType := fun k => match k with
  | 0 => .int
  | 1 => .int
  | 2 => .int
  | 3 => (.array .int)
  | 4 => (.array .int)
  | 5 => (.array .int)
  | 6 => (.array .int)
  | 7 => (.array .int)
  | 8 => (.array .int)
  | 9 => (.array .int)
  | 10 => (.array .boolean)
  | 11 => (.array .int)
  | 12 => (.array .long)
  | 13 => (.array .long)
  | 14 => .int
  | 15 => (.array .long)
  | 16 => (.array .long)
  | 17 => (.array .int)
  | 18 => .long
  | 19 => (.array .long)
  | 20 => (.array .int)
  | 21 => (.array .long)
  | 22 => (.array .long)
  | 23 => (.array .long)
  | 24 => .long
  | _ => .long
theorem nm_Mo : ∀ a, a < 26 → ∀ b, b < 26 → a ≠ b → (T_Mo a).2.1 ≠ (T_Mo b).2.1 := by decide +kernel
theorem tk_Mo : ∀ k, k < 26 → parseFieldDescriptor (T_Mo k).2.2.1 = some (ty_Mo k) := by decide +kernel
abbrev cls8 : List vw_C := [(R_Bal, T_Bal, 5), (R_Cli, T_Cli, 2), (R_Frm, T_Frm, 2), (R_Net, T_Net, 9), (R_Wal, T_Wal, 2), (R_Wav, T_Wav, 3), (R_Nf, T_Nf, 7), (R_Mo, T_Mo, 26)]
abbrev b_Nf_init : ByteArray := prog_1_method_1_code
def y_Nf_init : MethodName := ⟨"NetForms", "<init>", "()V"⟩
abbrev b_Net_init : ByteArray := prog_5_method_1_code
def y_Net_init : MethodName := ⟨"NetForms$Net", "<init>", "()V"⟩
abbrev b_Wal_init : ByteArray := prog_6_method_1_code
def y_Wal_init : MethodName := ⟨"NetForms$Walls", "<init>", "()V"⟩
abbrev b_Wav_init : ByteArray := prog_7_method_1_code
def y_Wav_init : MethodName := ⟨"NetForms$Wave", "<init>", "()V"⟩
abbrev b_Bal_init : ByteArray := prog_2_method_1_code
def y_Bal_init : MethodName := ⟨"NetForms$Balance", "<init>", "()V"⟩
abbrev b_Cli_init : ByteArray := prog_3_method_1_code
def y_Cli_init : MethodName := ⟨"NetForms$Climb", "<init>", "()V"⟩
abbrev b_Frm_init : ByteArray := prog_4_method_1_code
def y_Frm_init : MethodName := ⟨"NetForms$Form", "<init>", "()V"⟩
abbrev b_Net_begin : ByteArray := prog_5_method_2_code
def y_Net_begin : MethodName := ⟨"NetForms$Net", "begin", "(I)V"⟩
abbrev b_Nf_net : ByteArray := prog_1_method_2_code
def y_Nf_net : MethodName := ⟨"NetForms", "net", "(I)I"⟩
abbrev b_Frm_begin : ByteArray := prog_4_method_2_code
def y_Frm_begin : MethodName := ⟨"NetForms$Form", "begin", "(I)V"⟩
abbrev b_Arr_fill_IIV : ByteArray := prog_11_method_103_code
def y_Arr_fill_IIV : MethodName := ⟨"java/util/Arrays", "fill", "([II)V"⟩
abbrev b_Wal_begin : ByteArray := prog_6_method_2_code
def y_Wal_begin : MethodName := ⟨"NetForms$Walls", "begin", "()V"⟩
abbrev b_Wav_begin : ByteArray := prog_7_method_2_code
def y_Wav_begin : MethodName := ⟨"NetForms$Wave", "begin", "()V"⟩
abbrev b_Arr_fill_JJV : ByteArray := prog_11_method_101_code
def y_Arr_fill_JJV : MethodName := ⟨"java/util/Arrays", "fill", "([JJ)V"⟩
abbrev b_Nf_edge : ByteArray := prog_1_method_3_code
def y_Nf_edge : MethodName := ⟨"NetForms", "edge", "(II)I"⟩
abbrev b_Net_has : ByteArray := prog_5_method_4_code
def y_Net_has : MethodName := ⟨"NetForms$Net", "has", "(II)Z"⟩
abbrev b_Net_size : ByteArray := prog_5_method_3_code
def y_Net_size : MethodName := ⟨"NetForms$Net", "size", "(I)I"⟩
abbrev b_Net_edgeBetween : ByteArray := prog_5_method_5_code
def y_Net_edgeBetween : MethodName := ⟨"NetForms$Net", "edgeBetween", "(II)I"⟩
abbrev b_Net_addEdge : ByteArray := prog_5_method_7_code
def y_Net_addEdge : MethodName := ⟨"NetForms$Net", "addEdge", "(II)I"⟩
abbrev b_Mat_min : ByteArray := prog_10_method_69_code
def y_Mat_min : MethodName := ⟨"java/lang/Math", "min", "(II)I"⟩
abbrev b_Mat_max : ByteArray := prog_10_method_65_code
def y_Mat_max : MethodName := ⟨"java/lang/Math", "max", "(II)I"⟩
abbrev b_Nf_face : ByteArray := prog_1_method_4_code
def y_Nf_face : MethodName := ⟨"NetForms", "face", "(III)I"⟩
abbrev b_Net_hasPlateOf : ByteArray := prog_5_method_6_code
def y_Net_hasPlateOf : MethodName := ⟨"NetForms$Net", "hasPlateOf", "(II)Z"⟩
abbrev b_Net_addPlate : ByteArray := prog_5_method_8_code
def y_Net_addPlate : MethodName := ⟨"NetForms$Net", "addPlate", "(III)I"⟩
abbrev b_Nf_corner : ByteArray := prog_1_method_5_code
def y_Nf_corner : MethodName := ⟨"NetForms", "corner", "(III)I"⟩
abbrev b_Net_pointOf : ByteArray := prog_5_method_10_code
def y_Net_pointOf : MethodName := ⟨"NetForms$Net", "pointOf", "(III)I"⟩
abbrev b_Nf_form : ByteArray := prog_1_method_6_code
def y_Nf_form : MethodName := ⟨"NetForms", "form", "(II)I"⟩
abbrev b_Nf_formAt : ByteArray := prog_1_method_28_code
def y_Nf_formAt : MethodName := ⟨"NetForms", "formAt", "(I)LNetForms$Form;"⟩
abbrev b_Nf_set : ByteArray := prog_1_method_7_code
def y_Nf_set : MethodName := ⟨"NetForms", "set", "(III)I"⟩
abbrev b_Nf_isWithin : ByteArray := prog_1_method_29_code
def y_Nf_isWithin : MethodName := ⟨"NetForms", "isWithin", "(JI)Z"⟩
abbrev b_Nf_get : ByteArray := prog_1_method_8_code
def y_Nf_get : MethodName := ⟨"NetForms", "get", "(II)I"⟩
abbrev b_Nf_slope : ByteArray := prog_1_method_9_code
def y_Nf_slope : MethodName := ⟨"NetForms", "slope", "(II)I"⟩
abbrev b_Nf_makeSlope : ByteArray := prog_1_method_30_code
def y_Nf_makeSlope : MethodName := ⟨"NetForms", "makeSlope", "(LNetForms$Form;)V"⟩
abbrev b_Net_signOf : ByteArray := prog_5_method_11_code
def y_Net_signOf : MethodName := ⟨"NetForms$Net", "signOf", "(III)I"⟩
abbrev b_Nf_giveMade : ByteArray := prog_1_method_32_code
def y_Nf_giveMade : MethodName := ⟨"NetForms", "giveMade", "(LNetForms$Form;I)I"⟩
abbrev b_Nf_rim : ByteArray := prog_1_method_10_code
def y_Nf_rim : MethodName := ⟨"NetForms", "rim", "(II)I"⟩
abbrev b_Nf_makeRim : ByteArray := prog_1_method_31_code
def y_Nf_makeRim : MethodName := ⟨"NetForms", "makeRim", "(LNetForms$Form;)V"⟩
abbrev b_Nf_cup : ByteArray := prog_1_method_11_code
def y_Nf_cup : MethodName := ⟨"NetForms", "cup", "(III)I"⟩
abbrev b_Net_frontOf : ByteArray := prog_5_method_12_code
def y_Net_frontOf : MethodName := ⟨"NetForms$Net", "frontOf", "(III)I"⟩
abbrev b_Net_backOf : ByteArray := prog_5_method_13_code
def y_Net_backOf : MethodName := ⟨"NetForms$Net", "backOf", "(III)I"⟩
abbrev b_Nf_mix : ByteArray := prog_1_method_12_code
def y_Nf_mix : MethodName := ⟨"NetForms", "mix", "(IIIII)I"⟩
abbrev b_Nf_about : ByteArray := prog_1_method_13_code
def y_Nf_about : MethodName := ⟨"NetForms", "about", "(II)I"⟩
abbrev b_Frm_fitsIn : ByteArray := prog_4_method_3_code
def y_Frm_fitsIn : MethodName := ⟨"NetForms$Form", "fitsIn", "(I)Z"⟩
abbrev b_Nf_hasNoSlope : ByteArray := prog_1_method_34_code
def y_Nf_hasNoSlope : MethodName := ⟨"NetForms", "hasNoSlope", "(LNetForms$Form;)Z"⟩
abbrev b_Nf_isMadeZero : ByteArray := prog_1_method_33_code
def y_Nf_isMadeZero : MethodName := ⟨"NetForms", "isMadeZero", "(I)Z"⟩
abbrev b_Nf_hasNoRim : ByteArray := prog_1_method_35_code
def y_Nf_hasNoRim : MethodName := ⟨"NetForms", "hasNoRim", "(LNetForms$Form;)Z"⟩
abbrev b_Nf_holes : ByteArray := prog_1_method_14_code
def y_Nf_holes : MethodName := ⟨"NetForms", "holes", "(I)I"⟩
abbrev b_Net_countParts : ByteArray := prog_5_method_9_code
def y_Net_countParts : MethodName := ⟨"NetForms$Net", "countParts", "()I"⟩
abbrev b_Nf_countTurns : ByteArray := prog_1_method_36_code
def y_Nf_countTurns : MethodName := ⟨"NetForms", "countTurns", "()I"⟩
abbrev b_Bal_begin : ByteArray := prog_2_method_2_code
def y_Bal_begin : MethodName := ⟨"NetForms$Balance", "begin", "(I)V"⟩
abbrev b_Nf_addPlateProducts : ByteArray := prog_1_method_37_code
def y_Nf_addPlateProducts : MethodName := ⟨"NetForms", "addPlateProducts", "()V"⟩
abbrev b_Bal_add : ByteArray := prog_2_method_3_code
def y_Bal_add : MethodName := ⟨"NetForms$Balance", "add", "(IIJ)V"⟩
abbrev b_Bal_solve : ByteArray := prog_2_method_5_code
def y_Bal_solve : MethodName := ⟨"NetForms$Balance", "solve", "()V"⟩
abbrev b_Bal_clear : ByteArray := prog_2_method_6_code
def y_Bal_clear : MethodName := ⟨"NetForms$Balance", "clear", "(IIJ)V"⟩
abbrev b_Nf_quotient : ByteArray := prog_1_method_45_code
def y_Nf_quotient : MethodName := ⟨"NetForms", "quotient", "(JJ)J"⟩
abbrev b_Nf_potential : ByteArray := prog_1_method_15_code
def y_Nf_potential : MethodName := ⟨"NetForms", "potential", "(II)I"⟩
abbrev b_Cli_along : ByteArray := prog_3_method_2_code
def y_Cli_along : MethodName := ⟨"NetForms$Climb", "along", "(LNetForms$Net;LNetForms$Form;)I"⟩
abbrev b_Cli_join : ByteArray := prog_3_method_3_code
def y_Cli_join : MethodName := ⟨"NetForms$Climb", "join", "(IIJ)V"⟩
abbrev b_Cli_aboveLeast : ByteArray := prog_3_method_4_code
def y_Cli_aboveLeast : MethodName := ⟨"NetForms$Climb", "aboveLeast", "(I)J"⟩
abbrev b_Nf_split : ByteArray := prog_1_method_16_code
def y_Nf_split : MethodName := ⟨"NetForms", "split", "(IIII)J"⟩
abbrev b_Nf_slopePart : ByteArray := prog_1_method_38_code
def y_Nf_slopePart : MethodName := ⟨"NetForms", "slopePart", "(LNetForms$Form;I)J"⟩
abbrev b_Bal_addDue : ByteArray := prog_2_method_4_code
def y_Bal_addDue : MethodName := ⟨"NetForms$Balance", "addDue", "(IJ)V"⟩
abbrev b_Bal_above : ByteArray := prog_2_method_7_code
def y_Bal_above : MethodName := ⟨"NetForms$Balance", "above", "(I)J"⟩
abbrev b_Nf_lowestTerms : ByteArray := prog_1_method_43_code
def y_Nf_lowestTerms : MethodName := ⟨"NetForms", "lowestTerms", "(JJI)J"⟩
abbrev b_Nf_sharedDivisor : ByteArray := prog_1_method_44_code
def y_Nf_sharedDivisor : MethodName := ⟨"NetForms", "sharedDivisor", "(JJ)J"⟩
abbrev b_Mat_abs : ByteArray := prog_10_method_61_code
def y_Mat_abs : MethodName := ⟨"java/lang/Math", "abs", "(J)J"⟩
abbrev b_Nf_turnPart : ByteArray := prog_1_method_39_code
def y_Nf_turnPart : MethodName := ⟨"NetForms", "turnPart", "(LNetForms$Form;I)J"⟩
abbrev b_Nf_stillPart : ByteArray := prog_1_method_40_code
def y_Nf_stillPart : MethodName := ⟨"NetForms", "stillPart", "(LNetForms$Form;II)J"⟩
abbrev b_Nf_wall : ByteArray := prog_1_method_17_code
def y_Nf_wall : MethodName := ⟨"NetForms", "wall", "(II)I"⟩
abbrev b_Nf_open : ByteArray := prog_1_method_18_code
def y_Nf_open : MethodName := ⟨"NetForms", "open", "(I)I"⟩
abbrev b_Nf_field : ByteArray := prog_1_method_19_code
def y_Nf_field : MethodName := ⟨"NetForms", "field", "()I"⟩
abbrev b_Wal_leastWithout : ByteArray := prog_6_method_4_code
def y_Wal_leastWithout : MethodName := ⟨"NetForms$Walls", "leastWithout", "(LNetForms$Net;)I"⟩
abbrev b_Wal_isWalled : ByteArray := prog_6_method_5_code
def y_Wal_isWalled : MethodName := ⟨"NetForms$Walls", "isWalled", "(LNetForms$Net;I)Z"⟩
abbrev b_Nf_fieldAt : ByteArray := prog_1_method_20_code
def y_Nf_fieldAt : MethodName := ⟨"NetForms", "fieldAt", "(II)J"⟩
abbrev b_Nf_balanceField : ByteArray := prog_1_method_41_code
def y_Nf_balanceField : MethodName := ⟨"NetForms", "balanceField", "()V"⟩
abbrev b_Nf_balanceAt : ByteArray := prog_1_method_42_code
def y_Nf_balanceAt : MethodName := ⟨"NetForms", "balanceAt", "(II)V"⟩
abbrev b_Nf_wave : ByteArray := prog_1_method_21_code
def y_Nf_wave : MethodName := ⟨"NetForms", "wave", "(I)I"⟩
abbrev b_Wav_stepOn : ByteArray := prog_7_method_3_code
def y_Wav_stepOn : MethodName := ⟨"NetForms$Wave", "stepOn", "(LNetForms$Net;)V"⟩
abbrev b_Wav_stepBack : ByteArray := prog_7_method_4_code
def y_Wav_stepBack : MethodName := ⟨"NetForms$Wave", "stepBack", "(LNetForms$Net;)V"⟩
abbrev b_Nf_raise : ByteArray := prog_1_method_22_code
def y_Nf_raise : MethodName := ⟨"NetForms", "raise", "(I)I"⟩
abbrev b_Nf_height : ByteArray := prog_1_method_23_code
def y_Nf_height : MethodName := ⟨"NetForms", "height", "(I)J"⟩
abbrev b_Nf_flow : ByteArray := prog_1_method_24_code
def y_Nf_flow : MethodName := ⟨"NetForms", "flow", "(I)J"⟩
abbrev b_Nf_sum : ByteArray := prog_1_method_25_code
def y_Nf_sum : MethodName := ⟨"NetForms", "sum", "()J"⟩
abbrev b_Nf_count : ByteArray := prog_1_method_26_code
def y_Nf_count : MethodName := ⟨"NetForms", "count", "(I)I"⟩
abbrev b_Wal_countThere : ByteArray := prog_6_method_3_code
def y_Wal_countThere : MethodName := ⟨"NetForms$Walls", "countThere", "(LNetForms$Net;)I"⟩
abbrev b_Nf_digest : ByteArray := prog_1_method_27_code
def y_Nf_digest : MethodName := ⟨"NetForms", "digest", "()J"⟩
abbrev b_Nf_foldCorners : ByteArray := prog_1_method_46_code
def y_Nf_foldCorners : MethodName := ⟨"NetForms", "foldCorners", "(JI)J"⟩
abbrev b_Nf_foldForms : ByteArray := prog_1_method_47_code
def y_Nf_foldForms : MethodName := ⟨"NetForms", "foldForms", "(J)J"⟩
abbrev b_Nf_foldWalls : ByteArray := prog_1_method_48_code
def y_Nf_foldWalls : MethodName := ⟨"NetForms", "foldWalls", "(J)J"⟩
abbrev b_Mo_init : ByteArray := prog_9_method_1_code
def y_Mo_init : MethodName := ⟨"NetFormsModel", "<init>", "()V"⟩
abbrev b_Mo_net : ByteArray := prog_9_method_4_code
def y_Mo_net : MethodName := ⟨"NetFormsModel", "net", "(I)I"⟩
abbrev b_Mo_in : ByteArray := prog_9_method_3_code
def y_Mo_in : MethodName := ⟨"NetFormsModel", "in", "(JJJ)Z"⟩
abbrev b_Mo_clears : ByteArray := prog_9_method_5_code
def y_Mo_clears : MethodName := ⟨"NetFormsModel", "clears", "(II)V"⟩
abbrev b_Mo_edge : ByteArray := prog_9_method_8_code
def y_Mo_edge : MethodName := ⟨"NetFormsModel", "edge", "(II)I"⟩
abbrev b_Mo_isPoint : ByteArray := prog_9_method_6_code
def y_Mo_isPoint : MethodName := ⟨"NetFormsModel", "isPoint", "(I)Z"⟩
abbrev b_Mo_edgeOf : ByteArray := prog_9_method_7_code
def y_Mo_edgeOf : MethodName := ⟨"NetFormsModel", "edgeOf", "(II)I"⟩
abbrev b_Mo_face : ByteArray := prog_9_method_9_code
def y_Mo_face : MethodName := ⟨"NetFormsModel", "face", "(III)I"⟩
abbrev b_Mo_corner : ByteArray := prog_9_method_10_code
def y_Mo_corner : MethodName := ⟨"NetFormsModel", "corner", "(III)I"⟩
abbrev b_Mo_form : ByteArray := prog_9_method_13_code
def y_Mo_form : MethodName := ⟨"NetFormsModel", "form", "(II)I"⟩
abbrev b_Mo_isForm : ByteArray := prog_9_method_11_code
def y_Mo_isForm : MethodName := ⟨"NetFormsModel", "isForm", "(I)Z"⟩
abbrev b_Mo_set : ByteArray := prog_9_method_15_code
def y_Mo_set : MethodName := ⟨"NetFormsModel", "set", "(III)I"⟩
abbrev b_Mo_isThere : ByteArray := prog_9_method_14_code
def y_Mo_isThere : MethodName := ⟨"NetFormsModel", "isThere", "(II)Z"⟩
abbrev b_Mo_size : ByteArray := prog_9_method_12_code
def y_Mo_size : MethodName := ⟨"NetFormsModel", "size", "(I)I"⟩
abbrev b_Mo_get : ByteArray := prog_9_method_16_code
def y_Mo_get : MethodName := ⟨"NetFormsModel", "get", "(II)I"⟩
abbrev b_Mo_slope : ByteArray := prog_9_method_22_code
def y_Mo_slope : MethodName := ⟨"NetFormsModel", "slope", "(II)I"⟩
abbrev b_Mo_makeSlope : ByteArray := prog_9_method_20_code
def y_Mo_makeSlope : MethodName := ⟨"NetFormsModel", "makeSlope", "(I)V"⟩
abbrev b_Mo_at : ByteArray := prog_9_method_17_code
def y_Mo_at : MethodName := ⟨"NetFormsModel", "at", "(II)J"⟩
abbrev b_Mo_onEdge : ByteArray := prog_9_method_18_code
def y_Mo_onEdge : MethodName := ⟨"NetFormsModel", "onEdge", "(III)J"⟩
abbrev b_Mo_becomes : ByteArray := prog_9_method_19_code
def y_Mo_becomes : MethodName := ⟨"NetFormsModel", "becomes", "(II)I"⟩
abbrev b_Mo_rim : ByteArray := prog_9_method_23_code
def y_Mo_rim : MethodName := ⟨"NetFormsModel", "rim", "(II)I"⟩
abbrev b_Mo_makeRim : ByteArray := prog_9_method_21_code
def y_Mo_makeRim : MethodName := ⟨"NetFormsModel", "makeRim", "(I)V"⟩
abbrev b_Mo_cup : ByteArray := prog_9_method_25_code
def y_Mo_cup : MethodName := ⟨"NetFormsModel", "cup", "(III)I"⟩
abbrev b_Mo_cupAt : ByteArray := prog_9_method_24_code
def y_Mo_cupAt : MethodName := ⟨"NetFormsModel", "cupAt", "(III)J"⟩
abbrev b_Mo_mix : ByteArray := prog_9_method_26_code
def y_Mo_mix : MethodName := ⟨"NetFormsModel", "mix", "(IIIII)I"⟩
abbrev b_Mo_about : ByteArray := prog_9_method_28_code
def y_Mo_about : MethodName := ⟨"NetFormsModel", "about", "(II)I"⟩
abbrev b_Mo_isNought : ByteArray := prog_9_method_27_code
def y_Mo_isNought : MethodName := ⟨"NetFormsModel", "isNought", "(I)Z"⟩
abbrev b_Mo_holes : ByteArray := prog_9_method_35_code
def y_Mo_holes : MethodName := ⟨"NetFormsModel", "holes", "(I)I"⟩
abbrev b_Mo_parts : ByteArray := prog_9_method_37_code
def y_Mo_parts : MethodName := ⟨"NetFormsModel", "parts", "()I"⟩
abbrev b_Mo_joins : ByteArray := prog_9_method_36_code
def y_Mo_joins : MethodName := ⟨"NetFormsModel", "joins", "(II)V"⟩
abbrev b_Mo_slopeRank : ByteArray := prog_9_method_33_code
def y_Mo_slopeRank : MethodName := ⟨"NetFormsModel", "slopeRank", "()I"⟩
abbrev b_Mo_turnRank : ByteArray := prog_9_method_34_code
def y_Mo_turnRank : MethodName := ⟨"NetFormsModel", "turnRank", "()I"⟩
abbrev b_Mo_empties : ByteArray := prog_9_method_29_code
def y_Mo_empties : MethodName := ⟨"NetFormsModel", "empties", "()V"⟩
abbrev b_Mo_turns : ByteArray := prog_9_method_30_code
def y_Mo_turns : MethodName := ⟨"NetFormsModel", "turns", "(III)I"⟩
abbrev b_Mo_turn : ByteArray := prog_9_method_31_code
def y_Mo_turn : MethodName := ⟨"NetFormsModel", "turn", "(IIII)V"⟩
abbrev b_Mo_potential : ByteArray := prog_9_method_38_code
def y_Mo_potential : MethodName := ⟨"NetFormsModel", "potential", "(II)I"⟩
abbrev b_Mo_split : ByteArray := prog_9_method_43_code
def y_Mo_split : MethodName := ⟨"NetFormsModel", "split", "(IIII)J"⟩
abbrev b_Mo_splits : ByteArray := prog_9_method_39_code
def y_Mo_splits : MethodName := ⟨"NetFormsModel", "splits", "(I)V"⟩
abbrev b_Mo_solves : ByteArray := prog_9_method_32_code
def y_Mo_solves : MethodName := ⟨"NetFormsModel", "solves", "(I)V"⟩
abbrev b_Mo_sideOf : ByteArray := prog_9_method_40_code
def y_Mo_sideOf : MethodName := ⟨"NetFormsModel", "sideOf", "(II)J"⟩
abbrev b_Mo_lowest : ByteArray := prog_9_method_42_code
def y_Mo_lowest : MethodName := ⟨"NetFormsModel", "lowest", "(JJI)J"⟩
abbrev b_Mo_divisor : ByteArray := prog_9_method_41_code
def y_Mo_divisor : MethodName := ⟨"NetFormsModel", "divisor", "(JJ)J"⟩
abbrev b_Mo_wall : ByteArray := prog_9_method_44_code
def y_Mo_wall : MethodName := ⟨"NetFormsModel", "wall", "(II)I"⟩
abbrev b_Mo_open : ByteArray := prog_9_method_45_code
def y_Mo_open : MethodName := ⟨"NetFormsModel", "open", "(I)I"⟩
abbrev b_Mo_field : ByteArray := prog_9_method_47_code
def y_Mo_field : MethodName := ⟨"NetFormsModel", "field", "()I"⟩
abbrev b_Mo_forbids : ByteArray := prog_9_method_46_code
def y_Mo_forbids : MethodName := ⟨"NetFormsModel", "forbids", "()I"⟩
abbrev b_Mo_fieldAt : ByteArray := prog_9_method_48_code
def y_Mo_fieldAt : MethodName := ⟨"NetFormsModel", "fieldAt", "(II)J"⟩
abbrev b_Mo_wave : ByteArray := prog_9_method_51_code
def y_Mo_wave : MethodName := ⟨"NetFormsModel", "wave", "(I)I"⟩
abbrev b_Mo_flows : ByteArray := prog_9_method_49_code
def y_Mo_flows : MethodName := ⟨"NetFormsModel", "flows", "(J)V"⟩
abbrev b_Mo_rises : ByteArray := prog_9_method_50_code
def y_Mo_rises : MethodName := ⟨"NetFormsModel", "rises", "(J)V"⟩
abbrev b_Mo_raise : ByteArray := prog_9_method_52_code
def y_Mo_raise : MethodName := ⟨"NetFormsModel", "raise", "(I)I"⟩
abbrev b_Mo_height : ByteArray := prog_9_method_53_code
def y_Mo_height : MethodName := ⟨"NetFormsModel", "height", "(I)J"⟩
abbrev b_Mo_flow : ByteArray := prog_9_method_54_code
def y_Mo_flow : MethodName := ⟨"NetFormsModel", "flow", "(I)J"⟩
abbrev b_Mo_sum : ByteArray := prog_9_method_55_code
def y_Mo_sum : MethodName := ⟨"NetFormsModel", "sum", "()J"⟩
abbrev b_Mo_count : ByteArray := prog_9_method_56_code
def y_Mo_count : MethodName := ⟨"NetFormsModel", "count", "(I)I"⟩
abbrev b_Mo_digest : ByteArray := prog_9_method_57_code
def y_Mo_digest : MethodName := ⟨"NetFormsModel", "digest", "()J"⟩
/-- the words that a call may hand on -/
def gw : List Cond := lw_tbl.filter goodWord
theorem gw_t {w : Cond} (i : Nat) (h : tables_1[i]? = some w) (g : goodWord w = true) : w ∈ gw := List.mem_filter.mpr ⟨List.mem_append_right _ (List.mem_of_getElem? h), g⟩
theorem gw_s {w : Cond} (i : Nat) (h : (k2_sels lw_privs)[i]? = some w) (g : goodWord w = true) : w ∈ gw := List.mem_filter.mpr ⟨List.mem_append_left _ (List.mem_of_getElem? h), g⟩
theorem gw_lw : ∀ w ∈ gw, w ∈ lw_tbl := fun w h => (List.mem_filter.mp h).1
theorem gw_good : ∀ w ∈ gw, goodWord w = true := fun w h => (List.mem_filter.mp h).2
set_option maxRecDepth 20000 in
theorem in_Bal : ∀ w ∈ u_ws R_Bal T_Bal 5, w ∈ gw := by
  intro w hw
  obtain ⟨k, hk, rfl⟩ := List.mem_map.mp hw
  have hk := List.mem_range.mp hk
  match k, hk with
  | 0, _ => exact gw_t 120 (by decide +kernel) (by decide +kernel)
  | 1, _ => exact gw_t 122 (by decide +kernel) (by decide +kernel)
  | 2, _ => exact gw_t 124 (by decide +kernel) (by decide +kernel)
  | 3, _ => exact gw_t 126 (by decide +kernel) (by decide +kernel)
  | 4, _ => exact gw_t 128 (by decide +kernel) (by decide +kernel)
set_option maxRecDepth 20000 in
theorem in_Cli : ∀ w ∈ u_ws R_Cli T_Cli 2, w ∈ gw := by
  intro w hw
  obtain ⟨k, hk, rfl⟩ := List.mem_map.mp hw
  have hk := List.mem_range.mp hk
  match k, hk with
  | 0, _ => exact gw_t 139 (by decide +kernel) (by decide +kernel)
  | 1, _ => exact gw_t 141 (by decide +kernel) (by decide +kernel)
set_option maxRecDepth 20000 in
theorem in_Frm : ∀ w ∈ u_ws R_Frm T_Frm 2, w ∈ gw := by
  intro w hw
  obtain ⟨k, hk, rfl⟩ := List.mem_map.mp hw
  have hk := List.mem_range.mp hk
  match k, hk with
  | 0, _ => exact gw_t 154 (by decide +kernel) (by decide +kernel)
  | 1, _ => exact gw_t 156 (by decide +kernel) (by decide +kernel)
set_option maxRecDepth 20000 in
theorem in_Net : ∀ w ∈ u_ws R_Net T_Net 9, w ∈ gw := by
  intro w hw
  obtain ⟨k, hk, rfl⟩ := List.mem_map.mp hw
  have hk := List.mem_range.mp hk
  match k, hk with
  | 0, _ => exact gw_t 47 (by decide +kernel) (by decide +kernel)
  | 1, _ => exact gw_t 49 (by decide +kernel) (by decide +kernel)
  | 2, _ => exact gw_t 51 (by decide +kernel) (by decide +kernel)
  | 3, _ => exact gw_t 53 (by decide +kernel) (by decide +kernel)
  | 4, _ => exact gw_t 55 (by decide +kernel) (by decide +kernel)
  | 5, _ => exact gw_t 57 (by decide +kernel) (by decide +kernel)
  | 6, _ => exact gw_t 59 (by decide +kernel) (by decide +kernel)
  | 7, _ => exact gw_t 61 (by decide +kernel) (by decide +kernel)
  | 8, _ => exact gw_t 63 (by decide +kernel) (by decide +kernel)
set_option maxRecDepth 20000 in
theorem in_Wal : ∀ w ∈ u_ws R_Wal T_Wal 2, w ∈ gw := by
  intro w hw
  obtain ⟨k, hk, rfl⟩ := List.mem_map.mp hw
  have hk := List.mem_range.mp hk
  match k, hk with
  | 0, _ => exact gw_t 79 (by decide +kernel) (by decide +kernel)
  | 1, _ => exact gw_t 81 (by decide +kernel) (by decide +kernel)
set_option maxRecDepth 20000 in
theorem in_Wav : ∀ w ∈ u_ws R_Wav T_Wav 3, w ∈ gw := by
  intro w hw
  obtain ⟨k, hk, rfl⟩ := List.mem_map.mp hw
  have hk := List.mem_range.mp hk
  match k, hk with
  | 0, _ => exact gw_t 97 (by decide +kernel) (by decide +kernel)
  | 1, _ => exact gw_t 99 (by decide +kernel) (by decide +kernel)
  | 2, _ => exact gw_t 101 (by decide +kernel) (by decide +kernel)
set_option maxRecDepth 20000 in
theorem in_Nf : ∀ w ∈ u_ws R_Nf T_Nf 7, w ∈ gw := by
  intro w hw
  obtain ⟨k, hk, rfl⟩ := List.mem_map.mp hw
  have hk := List.mem_range.mp hk
  match k, hk with
  | 0, _ => exact gw_t 170 (by decide +kernel) (by decide +kernel)
  | 1, _ => exact gw_t 172 (by decide +kernel) (by decide +kernel)
  | 2, _ => exact gw_t 174 (by decide +kernel) (by decide +kernel)
  | 3, _ => exact gw_t 176 (by decide +kernel) (by decide +kernel)
  | 4, _ => exact gw_t 178 (by decide +kernel) (by decide +kernel)
  | 5, _ => exact gw_t 180 (by decide +kernel) (by decide +kernel)
  | 6, _ => exact gw_t 182 (by decide +kernel) (by decide +kernel)
set_option maxRecDepth 20000 in
theorem in_Mo : ∀ w ∈ u_ws R_Mo T_Mo 26, w ∈ gw := by
  intro w hw
  obtain ⟨k, hk, rfl⟩ := List.mem_map.mp hw
  have hk := List.mem_range.mp hk
  match k, hk with
  | 0, _ => exact gw_t 547 (by decide +kernel) (by decide +kernel)
  | 1, _ => exact gw_t 549 (by decide +kernel) (by decide +kernel)
  | 2, _ => exact gw_t 551 (by decide +kernel) (by decide +kernel)
  | 3, _ => exact gw_t 553 (by decide +kernel) (by decide +kernel)
  | 4, _ => exact gw_t 555 (by decide +kernel) (by decide +kernel)
  | 5, _ => exact gw_t 557 (by decide +kernel) (by decide +kernel)
  | 6, _ => exact gw_t 559 (by decide +kernel) (by decide +kernel)
  | 7, _ => exact gw_t 561 (by decide +kernel) (by decide +kernel)
  | 8, _ => exact gw_t 563 (by decide +kernel) (by decide +kernel)
  | 9, _ => exact gw_t 565 (by decide +kernel) (by decide +kernel)
  | 10, _ => exact gw_t 567 (by decide +kernel) (by decide +kernel)
  | 11, _ => exact gw_t 569 (by decide +kernel) (by decide +kernel)
  | 12, _ => exact gw_t 571 (by decide +kernel) (by decide +kernel)
  | 13, _ => exact gw_t 573 (by decide +kernel) (by decide +kernel)
  | 14, _ => exact gw_t 575 (by decide +kernel) (by decide +kernel)
  | 15, _ => exact gw_t 577 (by decide +kernel) (by decide +kernel)
  | 16, _ => exact gw_t 579 (by decide +kernel) (by decide +kernel)
  | 17, _ => exact gw_t 581 (by decide +kernel) (by decide +kernel)
  | 18, _ => exact gw_t 583 (by decide +kernel) (by decide +kernel)
  | 19, _ => exact gw_t 585 (by decide +kernel) (by decide +kernel)
  | 20, _ => exact gw_t 587 (by decide +kernel) (by decide +kernel)
  | 21, _ => exact gw_t 589 (by decide +kernel) (by decide +kernel)
  | 22, _ => exact gw_t 591 (by decide +kernel) (by decide +kernel)
  | 23, _ => exact gw_t 593 (by decide +kernel) (by decide +kernel)
  | 24, _ => exact gw_t 595 (by decide +kernel) (by decide +kernel)
  | 25, _ => exact gw_t 597 (by decide +kernel) (by decide +kernel)
  | k + 26, h => exact absurd h (by omega)
end
section
/-! the memory: every cell that the law makes lies at b + k, k below 76, and its shape never changes; what changes are ints (M.1 k j) and longs (M.2 k j) -/
abbrev Mem : Type := (Nat → Nat → Int32) × (Nat → Nat → Int64)
/-- b; the classes of int[], long[], boolean[], Form[], long[][]; the classes and slots of the objects -/
abbrev Kp : Type := Nat × (ClassId × ClassId × ClassId × ClassId × ClassId) × va_G
abbrev kI (κ : Kp) : ClassId := κ.2.1.1
abbrev kJ (κ : Kp) : ClassId := κ.2.1.2.1
abbrev kZ (κ : Kp) : ClassId := κ.2.1.2.2.1
abbrev kF (κ : Kp) : ClassId := κ.2.1.2.2.2.1
abbrev kT (κ : Kp) : ClassId := κ.2.1.2.2.2.2
abbrev eI (κ : Kp) (n : Nat) (f : Nat → Int32) : va_E := .inl (kI κ, n, .inl f)
abbrev eZ (κ : Kp) (n : Nat) (f : Nat → Int32) : va_E := .inl (kZ κ, n, .inl f)
abbrev eJ (κ : Kp) (n : Nat) (g : Nat → Int64) : va_E := .inl (kJ κ, n, .inr (.inl g))
abbrev eF (κ : Kp) : va_E := .inl (kF κ, 12, .inr (.inr (.inr (.inr (fun j => some (κ.1 + (32 + 2 * j)))))))
abbrev eT (κ : Kp) : va_E := .inl (kT κ, 10, .inr (.inr (.inr (.inr (fun j => some (κ.1 + (17 + j)))))))
def sh_x (κ : Kp) (f : Nat → Int32) (g : Nat → Int64) : List va_E := [
  .inr (6, [.ref (κ.1 + 1), .ref (κ.1 + 8), .ref (κ.1 + 9), .ref (κ.1 + 12), .ref (κ.1 + 15), .ref (κ.1 + 28), .ref (κ.1 + 31)]),
  .inr (3, [.int (f 0), .int (f 1), .int (f 2), .ref (κ.1 + 2), .ref (κ.1 + 3), .ref (κ.1 + 4), .ref (κ.1 + 5), .ref (κ.1 + 6), .ref (κ.1 + 7)]),
  eI κ 12 f, eI κ 12 f, eI κ 10 f, eI κ 10 f, eI κ 10 f, eI κ 6 f,
  eF κ,
  .inr (4, [.ref (κ.1 + 10), .ref (κ.1 + 11)]), eZ κ 6 f, eI κ 6 f,
  .inr (5, [.int (f 0), .ref (κ.1 + 13), .ref (κ.1 + 14)]), eJ κ 6 g, eJ κ 12 g,
  .inr (0, [.int (f 0), .ref (κ.1 + 16), .ref (κ.1 + 27), .int (f 3), .long (g 4)]),
  eT κ, eJ κ 10 g, eJ κ 10 g, eJ κ 10 g, eJ κ 10 g, eJ κ 10 g, eJ κ 10 g, eJ κ 10 g, eJ κ 10 g, eJ κ 10 g, eJ κ 10 g, eJ κ 10 g,
  .inr (1, [.ref (κ.1 + 29), .ref (κ.1 + 30)]), eJ κ 6 g, eI κ 6 f,
  eJ κ 12 g]
def sh_f (κ : Kp) (i : Nat) (f : Nat → Int32) : List va_E := [.inr (2, [.int (f 0), .ref (κ.1 + (33 + 2 * i))]), eI κ 12 f]
def sh_m (κ : Kp) (f : Nat → Int32) (g : Nat → Int64) : List va_E := [
  .inr (7, [.int (f 0), .int (f 1), .int (f 2), .ref (κ.1 + 57), .ref (κ.1 + 58), .ref (κ.1 + 59), .ref (κ.1 + 60), .ref (κ.1 + 61), .ref (κ.1 + 62), .ref (κ.1 + 63), .ref (κ.1 + 64), .ref (κ.1 + 65), .ref (κ.1 + 66), .ref (κ.1 + 67), .int (f 14), .ref (κ.1 + 68), .ref (κ.1 + 69), .ref (κ.1 + 70), .long (g 18), .ref (κ.1 + 71), .ref (κ.1 + 72), .ref (κ.1 + 73), .ref (κ.1 + 74), .ref (κ.1 + 75), .long (g 24), .long (g 25)]),
  eI κ 12 f, eI κ 12 f, eI κ 10 f, eI κ 10 f, eI κ 10 f, eI κ 12 f, eI κ 144 f, eZ κ 6 f, eI κ 6 f, eJ κ 6 g, eJ κ 12 g,
  eJ κ 12 g, eJ κ 156 g, eI κ 12 f, eJ κ 12 g, eI κ 6 f, eJ κ 6 g, eJ κ 12 g, eJ κ 12 g]
/-- the cell at b + k, with its ints and longs -/
def shp (κ : Kp) (k : Nat) (f : Nat → Int32) (g : Nat → Int64) : va_E :=
  (sh_x κ f g ++ (sh_f κ 0 f ++ (sh_f κ 1 f ++ (sh_f κ 2 f ++ (sh_f κ 3 f ++ (sh_f κ 4 f ++ (sh_f κ 5 f ++ (sh_f κ 6 f ++ (sh_f κ 7 f ++ (sh_f κ 8 f ++ (sh_f κ 9 f ++ (sh_f κ 10 f ++ (sh_f κ 11 f ++ sh_m κ f g))))))))))))).getD k (.inr (0, []))
theorem sh_formO (κ : Kp) {i : Nat} (h : i < 12) (f : Nat → Int32) (g : Nat → Int64) : shp κ (32 + 2 * i) f g = .inr (2, [.int (f 0), .ref (κ.1 + (33 + 2 * i))]) := by
  match i, h with
  | 0, _ => rfl
  | 1, _ => rfl
  | 2, _ => rfl
  | 3, _ => rfl
  | 4, _ => rfl
  | 5, _ => rfl
  | 6, _ => rfl
  | 7, _ => rfl
  | 8, _ => rfl
  | 9, _ => rfl
  | 10, _ => rfl
  | 11, _ => rfl
theorem sh_formA (κ : Kp) {i : Nat} (h : i < 12) (f : Nat → Int32) (g : Nat → Int64) : shp κ (33 + 2 * i) f g = eI κ 12 f := by
  match i, h with
  | 0, _ => rfl
  | 1, _ => rfl
  | 2, _ => rfl
  | 3, _ => rfl
  | 4, _ => rfl
  | 5, _ => rfl
  | 6, _ => rfl
  | 7, _ => rfl
  | 8, _ => rfl
  | 9, _ => rfl
  | 10, _ => rfl
  | 11, _ => rfl
theorem sh_tabA (κ : Kp) {i : Nat} (h : i < 10) (f : Nat → Int32) (g : Nat → Int64) : shp κ (17 + i) f g = eJ κ 10 g := by
  match i, h with
  | 0, _ => rfl
  | 1, _ => rfl
  | 2, _ => rfl
  | 3, _ => rfl
  | 4, _ => rfl
  | 5, _ => rfl
  | 6, _ => rfl
  | 7, _ => rfl
  | 8, _ => rfl
  | 9, _ => rfl
def wI (M : Mem) (k i : Nat) (x : Int32) : Mem := (va_up M.1 k (upd (M.1 k) i x), M.2)
def wJ (M : Mem) (k i : Nat) (x : Int64) : Mem := (M.1, va_up M.2 k (vp_updL (M.2 k) i x))
def ents (κ : Kp) (M : Mem) : Nat → va_E := fun k => shp κ k (M.1 k) (M.2 k)
def wl (b : Nat) (E : Nat → va_E) : va_W := (List.range 76).map (fun k => (b + k, E k))
theorem wl_get {b : Nat} {E : Nat → va_E} {k : Nat} (h : k < 76) : (wl b E)[k]? = some (b + k, E k) := by
  simp [wl, h]
theorem wl_get2 {b : Nat} {E : Nat → va_E} {k : Nat} {q : Nat × va_E} (h : (wl b E)[k]? = some q) : k < 76 ∧ q = (b + k, E k) := by
  have hk : k < 76 := by
    have := (List.getElem?_eq_some_iff.mp h).1
    simpa [wl] using this
  exact ⟨hk, Option.some.inj (h.symm.trans (wl_get hk))⟩
theorem wl_set {b : Nat} {E : Nat → va_E} {k : Nat} {e : va_E} (h : k < 76) : (wl b E).set k (b + k, e) = wl b (va_up E k e) := by
  apply List.ext_getElem?
  intro j
  rw [List.getElem?_set]
  by_cases hj : j < 76
  · rw [wl_get hj, wl_get hj]
    by_cases e1 : k = j
    · subst e1
      simp [va_up, wl, h]
    · simp [va_up, e1, Ne.symm e1]
  · have e1 : ¬ k = j := by omega
    rw [if_neg e1, List.getElem?_eq_none (by simp [wl]; omega), List.getElem?_eq_none (by simp [wl]; omega)]
theorem wl_D {b : Nat} {E : Nat → va_E} : va_D (fun q => b ≤ q) (wl b E) := by
  refine ⟨fun i j p q hp hq e => ?_, fun k q hq => ?_⟩
  · obtain ⟨-, rfl⟩ := wl_get2 hp
    obtain ⟨-, rfl⟩ := wl_get2 hq
    exact Nat.add_left_cancel e
  · obtain ⟨-, rfl⟩ := wl_get2 hq
    exact Nat.le_add_right _ _
theorem ents_I {κ : Kp} {M : Mem} {k i : Nat} {x : Int32} : ents κ (wI M k i x) = va_up (ents κ M) k (shp κ k (upd (M.1 k) i x) (M.2 k)) := by
  funext j
  by_cases h : j = k
  · subst h; simp [ents, wI, va_up]
  · simp [ents, wI, va_up, h]
theorem ents_J {κ : Kp} {M : Mem} {k i : Nat} {x : Int64} : ents κ (wJ M k i x) = va_up (ents κ M) k (shp κ k (M.1 k) (vp_updL (M.2 k) i x)) := by
  funext j
  by_cases h : j = k
  · subst h; simp [ents, wJ, va_up]
  · simp [ents, wJ, va_up, h]
def Hp (κ : Kp) (M : Mem) (H : Heap) : Prop := va_P κ.2.2 cls8 (wl κ.1 (ents κ M)) H
def Ab (κ : Kp) : Nat → Prop := fun q => κ.1 ≤ q
abbrev tysK (κ : Kp) : List (ClassId × FieldType) := [(kI κ, .int), (kJ κ, .long), (kZ κ, .boolean), (kF κ, .object "NetForms$Form"), (kT κ, .array .long)]
/-- private members of the nest: their links stand beside the words -/
def nestW : List (String × Nat × MethodName × String) := (tables_1.filterMap fun w => match w with
  | .methodLinkNest o i y h => some (o, i, y, h)
  | _ => none)
def KK (κ : Kp) (U : State) : Prop := va_K κ.2.2 cls8 (tysK κ) U ∧ ∀ q ∈ nestW, va_Nw (.methodLinkNest q.1 q.2.1 q.2.2.1 q.2.2.2) U
theorem KK.warm {κ : Kp} {s U : State} (hW : s.WarmedH U.vm) (h : KK κ s) : KK κ U := ⟨va_K.moved hW.alike h.1, fun q hq => va_Nw.warmM hW (h.2 q hq)⟩
theorem KK.same {κ : Kp} {s U : State} (e : s.vm = U.vm) (h : KK κ s) : KK κ U := ⟨va_K.moved (e ▸ Vm.Alike.refl s.vm) h.1, fun q hq => va_Nw.same rfl e (h.2 q hq)⟩
abbrev Gm : Type := Program × Launch × Env × Room × State × MethodId × Array Value × List Frame × Method × Code
def rmd (d : Nat) : Room := { frames := d, cells := 0, slots := 0, locals := 45 * d }
def qcc (κ : Kp) (post : Option Value → Mem → Prop) : Array Value → State → Outcome → State → Prop := fun _ st oc t => (∃ (v : Option Value) (M' : Mem), oc = .returned v ∧ post v M' ∧ Hp κ M' t.heap) ∧ va_F (Ab κ) st t
/-- a method's contract: from the memory M with the arguments As it comes to an answer and a memory of post -/
def Ct (l : Launch) (κ : Kp) (y : MethodName) (cc : ByteArray) (nL : Nat) (ret : Option FieldType) (d : Nat) (As : List Value) (M : Mem) (post : Option Value → Mem → Prop) : Prop :=
  Met l y (Cond.code y cc nL ret :: gw) (rmd d) (va_Pc As (fun U => Hp κ M U.heap ∧ KK κ U)) (qcc κ post) 0 0 (Ab κ)
abbrev gS (γ : Gm) : State := γ.2.2.2.2.1
/-- what holds of a frame at work -/
def Cx (γ : Gm) (κ : Kp) (own : String) (cc : ByteArray) (nL d : Nat) (z : Nat × Nat) : Prop :=
  γ.1.tables.exec = Jvm.exec ∧ γ.2.2.2.2.2.2.2.2.2.code = cc ∧ γ.2.2.2.2.2.2.2.2.2.maxLocals = nL ∧ γ.2.2.2.2.1.vm.findClass own = some γ.2.2.2.2.2.1.cls ∧ (∀ w ∈ gw, w.before γ.2.2.2.2.2.2.1 γ.2.2.2.2.1 = true) ∧ KK κ γ.2.2.2.2.1 ∧ (d ≤ γ.2.2.2.1.frames ∧ 45 * d ≤ γ.2.2.2.1.locals) ∧ z.1 ≤ γ.2.2.2.1.cells ∧ z.2 ≤ γ.2.2.2.1.slots
def Rt (γ : Gm) (ret : Option FieldType) : Prop := γ.2.2.2.2.2.2.2.2.1.sig.returnType = ret ∧ γ.2.2.2.2.2.2.2.2.1.locks = false
/-- the machine at pc, with these locals, this stack and this memory, comes to Q -/
def G (γ : Gm) (κ : Kp) (nL : Nat) (z : Nat × Nat) (Q : State → Prop) (pc : Nat) (lv : List (Nat × Value)) (st : List Value) (M : Mem) : Prop :=
  ∀ (H : Heap) (locs : List Loc) (ls : Array Slot), Hp κ M H → va_S (Ab κ) γ.2.2.2.2.1.heap H locs → lv_has ls nL lv →
    W γ.1 γ.2.1 γ.2.2.1 γ.2.2.2.1 γ.2.2.2.2.1 γ.2.2.2.2.2.1 γ.2.2.2.2.2.2.1 γ.2.2.2.2.2.2.2.1 γ.2.2.2.2.2.2.2.2.1 γ.2.2.2.2.2.2.2.2.2 H locs z.1 z.2 Q (F0 γ.2.2.2.2.2.1 pc ls st)
def Gq (γ : Gm) (κ : Kp) (post : Option Value → Mem → Prop) : State → Prop := MQ γ.2.2.2.2.2.2.2.1 (qcc κ post) γ.2.2.2.2.2.2.1 γ.2.2.2.2.1 0 0 (Ab κ)
theorem Ct_of {l : Launch} {κ : Kp} {y : MethodName} {cc : ByteArray} {nL : Nat} {ret : Option FieldType} {d : Nat} {As : List Value} {M : Mem} {post : Option Value → Mem → Prop} (hy : plainName y.cls = true) (hn : (lg_sl As).length ≤ nL)
    (h : ∀ γ : Gm, γ.2.1 = l → Cx γ κ y.cls cc nL d (0, 0) → Rt γ ret → G γ κ nL (0, 0) (Gq γ κ post) 0 (lv_args 0 As) [] M) : Ct l κ y cc nL ret d As M post := by
  refine Met.ofW (cc := cc) (maxL := nL) (ret := ret) hy rfl ?_
  intro p e s m args below meth c s₁ B hml hv
  obtain ⟨rfl, hP, hK⟩ := hv
  have hts := atoms_spec (ws := Cond.code y cc nL ret :: gw) B.pre
  have hown : s.vm.findClass y.cls = some m.cls := findClass_of_methodNamed B.named
  have hl := lv_entry As hn
  rw [lg_entry_eq]
  generalize (lg_sl As ++ List.replicate (nL - (lg_sl As).length) Slot.unset).toArray = ls at hl ⊢
  exact h (p, l, e, rmd d, s, m, As.toArray, below, meth, c) rfl ⟨B.exec, B.bytes, hml, hown, fun w hw => hts w (List.mem_cons_of_mem _ hw), hK, ⟨Nat.le_refl _, Nat.le_refl _⟩, Nat.le_refl _, Nat.le_refl _⟩ ⟨B.returns, B.notSynchronized⟩ s.heap [] ls hP va_S.rf hl
end
section
/-! rows: an instruction each, over G -/
section GR
variable {γ : Gm} {κ : Kp} {own : String} {cc : ByteArray} {nL d : Nat} {z : Nat × Nat} {Q : State → Prop} {pc : Nat} {lv : List (Nat × Value)} {st : List Value} {M : Mem}
theorem G_iconst (C : Cx γ κ own cc nL d z) {n : Int} {v : Int32} (hd : decode cc pc = .ok (.iconst n, 1)) (hv : Int32.ofInt n = v) (k : G γ κ nL z Q (pc + 1) lv (.int v :: st) M) : G γ κ nL z Q pc lv (st) M := fun H locs ls hP hS hl => lv_iconst C.1 C.2.1 hd hv (k H locs ls hP hS hl)
theorem G_bipush (C : Cx γ κ own cc nL d z) {n : Int} {v : Int32} (hd : decode cc pc = .ok (.bipush n, 2)) (hv : (Int8.ofInt n).toInt32 = v) (k : G γ κ nL z Q (pc + 2) lv (.int v :: st) M) : G γ κ nL z Q pc lv (st) M := fun H locs ls hP hS hl => lv_bipush C.1 C.2.1 hd hv (k H locs ls hP hS hl)
theorem G_sipush (C : Cx γ κ own cc nL d z) {n : Int} {v : Int32} (hd : decode cc pc = .ok (.sipush n, 3)) (hv : (Int16.ofInt n).toInt32 = v) (k : G γ κ nL z Q (pc + 3) lv (.int v :: st) M) : G γ κ nL z Q pc lv (st) M := fun H locs ls hP hS hl => lv_sipush C.1 C.2.1 hd hv (k H locs ls hP hS hl)
theorem G_lconst (C : Cx γ κ own cc nL d z) {n : Fin 2} {v : Int64} (hd : decode cc pc = .ok (.lconst n, 1)) (hv : Int64.ofNat (n : Nat) = v) (k : G γ κ nL z Q (pc + 1) lv (.long v :: st) M) : G γ κ nL z Q pc lv (st) M := fun H locs ls hP hS hl => lv_lconst C.1 C.2.1 hd hv (k H locs ls hP hS hl)
theorem G_ldc (C : Cx γ κ own cc nL d z) {index : Nat} {v : Int32} (hw : Cond.constant own index v ∈ gw) (hd : decode cc pc = .ok (.ldc index, 2)) (k : G γ κ nL z Q (pc + 2) lv (.int v :: st) M) : G γ κ nL z Q pc lv (st) M := fun H locs ls hP hS hl => lv_ldc C.1 C.2.1 C.2.2.2.1 (C.2.2.2.2.1 _ hw) hd (k H locs ls hP hS hl)
theorem G_ldc2 (C : Cx γ κ own cc nL d z) {index : Nat} {v : Int64} (hw : Cond.constantLong own index v ∈ gw) (hd : decode cc pc = .ok (.ldc2_w index, 3)) (k : G γ κ nL z Q (pc + 3) lv (.long v :: st) M) : G γ κ nL z Q pc lv (st) M := fun H locs ls hP hS hl => lv_ldc2 C.1 C.2.1 C.2.2.2.1 (C.2.2.2.2.1 _ hw) hd (k H locs ls hP hS hl)
theorem G_iload_n (C : Cx γ κ own cc nL d z) {q : Fin 4} {i : Nat} {x : Int32} (n : Nat) (hd : decode cc pc = .ok (.iload_n q, 1)) (hi : (q : Nat) = i) (hx : lv[n]? = some (i, .int x)) (k : G γ κ nL z Q (pc + 1) lv (.int x :: st) M) : G γ κ nL z Q pc lv (st) M := fun H locs ls hP hS hl => lv_iload_n C.1 C.2.1 hd hi (lv_at hl n hx) (k H locs ls hP hS hl)
theorem G_iload (C : Cx γ κ own cc nL d z) {i : Nat} {x : Int32} (n : Nat) (hd : decode cc pc = .ok (.iload i, 2)) (hx : lv[n]? = some (i, .int x)) (k : G γ κ nL z Q (pc + 2) lv (.int x :: st) M) : G γ κ nL z Q pc lv (st) M := fun H locs ls hP hS hl => lv_iload C.1 C.2.1 hd (lv_at hl n hx) (k H locs ls hP hS hl)
theorem G_istore_n (C : Cx γ κ own cc nL d z) {q : Fin 4} {i : Nat} {x : Int32} {lv' : List (Nat × Value)} (hd : decode cc pc = .ok (.istore_n q, 1)) (hi : (q : Nat) = i) (hn : i < nL) (hv : (i, Value.int x) :: lv.filter (fun q => !(q.1 == i) && !(q.1 + 1 == i && q.2.category == 2)) = lv') (k : G γ κ nL z Q (pc + 1) lv' (st) M) : G γ κ nL z Q pc lv (.int x :: st) M := fun H locs ls hP hS hl => lv_istore_n C.1 C.2.1 hd hi hl hn hv (fun ls hl => k H locs ls hP hS hl)
theorem G_istore (C : Cx γ κ own cc nL d z) {i : Nat} {x : Int32} {lv' : List (Nat × Value)} (hd : decode cc pc = .ok (.istore i, 2)) (hn : i < nL) (hv : (i, Value.int x) :: lv.filter (fun q => !(q.1 == i) && !(q.1 + 1 == i && q.2.category == 2)) = lv') (k : G γ κ nL z Q (pc + 2) lv' (st) M) : G γ κ nL z Q pc lv (.int x :: st) M := fun H locs ls hP hS hl => lv_istore C.1 C.2.1 hd hl hn hv (fun ls hl => k H locs ls hP hS hl)
theorem G_lload_n (C : Cx γ κ own cc nL d z) {q : Fin 4} {i : Nat} {x : Int64} (n : Nat) (hd : decode cc pc = .ok (.lload_n q, 1)) (hi : (q : Nat) = i) (hx : lv[n]? = some (i, .long x)) (k : G γ κ nL z Q (pc + 1) lv (.long x :: st) M) : G γ κ nL z Q pc lv (st) M := fun H locs ls hP hS hl => lv_lload_n C.1 C.2.1 hd hi (lv_at hl n hx) (k H locs ls hP hS hl)
theorem G_lload (C : Cx γ κ own cc nL d z) {i : Nat} {x : Int64} (n : Nat) (hd : decode cc pc = .ok (.lload i, 2)) (hx : lv[n]? = some (i, .long x)) (k : G γ κ nL z Q (pc + 2) lv (.long x :: st) M) : G γ κ nL z Q pc lv (st) M := fun H locs ls hP hS hl => lv_lload C.1 C.2.1 hd (lv_at hl n hx) (k H locs ls hP hS hl)
theorem G_lstore_n (C : Cx γ κ own cc nL d z) {q : Fin 4} {i : Nat} {x : Int64} {lv' : List (Nat × Value)} (hd : decode cc pc = .ok (.lstore_n q, 1)) (hi : (q : Nat) = i) (hn : i + 1 < nL) (hv : (i, Value.long x) :: lv.filter (fun q => !(q.1 == i) && (!(q.1 == i + 1) && !(q.1 + 1 == i && q.2.category == 2))) = lv') (k : G γ κ nL z Q (pc + 1) lv' (st) M) : G γ κ nL z Q pc lv (.long x :: st) M := fun H locs ls hP hS hl => lv_lstore_n C.1 C.2.1 hd hi hl hn hv (fun ls hl => k H locs ls hP hS hl)
theorem G_lstore (C : Cx γ κ own cc nL d z) {i : Nat} {x : Int64} {lv' : List (Nat × Value)} (hd : decode cc pc = .ok (.lstore i, 2)) (hn : i + 1 < nL) (hv : (i, Value.long x) :: lv.filter (fun q => !(q.1 == i) && (!(q.1 == i + 1) && !(q.1 + 1 == i && q.2.category == 2))) = lv') (k : G γ κ nL z Q (pc + 2) lv' (st) M) : G γ κ nL z Q pc lv (.long x :: st) M := fun H locs ls hP hS hl => lv_lstore C.1 C.2.1 hd hl hn hv (fun ls hl => k H locs ls hP hS hl)
theorem G_aload_n (C : Cx γ κ own cc nL d z) {q : Fin 4} {i : Nat} {x : Nat} (n : Nat) (hd : decode cc pc = .ok (.aload_n q, 1)) (hi : (q : Nat) = i) (hx : lv[n]? = some (i, .ref x)) (k : G γ κ nL z Q (pc + 1) lv (.ref x :: st) M) : G γ κ nL z Q pc lv (st) M := fun H locs ls hP hS hl => lv_aload_n C.1 C.2.1 hd hi (lv_at hl n hx) (k H locs ls hP hS hl)
theorem G_aload (C : Cx γ κ own cc nL d z) {i : Nat} {x : Nat} (n : Nat) (hd : decode cc pc = .ok (.aload i, 2)) (hx : lv[n]? = some (i, .ref x)) (k : G γ κ nL z Q (pc + 2) lv (.ref x :: st) M) : G γ κ nL z Q pc lv (st) M := fun H locs ls hP hS hl => lv_aload C.1 C.2.1 hd (lv_at hl n hx) (k H locs ls hP hS hl)
theorem G_astore_n (C : Cx γ κ own cc nL d z) {q : Fin 4} {i : Nat} {x : Nat} {lv' : List (Nat × Value)} (hd : decode cc pc = .ok (.astore_n q, 1)) (hi : (q : Nat) = i) (hn : i < nL) (hv : (i, Value.ref x) :: lv.filter (fun q => !(q.1 == i) && !(q.1 + 1 == i && q.2.category == 2)) = lv') (k : G γ κ nL z Q (pc + 1) lv' (st) M) : G γ κ nL z Q pc lv (.ref x :: st) M := fun H locs ls hP hS hl => lv_astore_n C.1 C.2.1 hd hi hl hn hv (fun ls hl => k H locs ls hP hS hl)
theorem G_astore (C : Cx γ κ own cc nL d z) {i : Nat} {x : Nat} {lv' : List (Nat × Value)} (hd : decode cc pc = .ok (.astore i, 2)) (hn : i < nL) (hv : (i, Value.ref x) :: lv.filter (fun q => !(q.1 == i) && !(q.1 + 1 == i && q.2.category == 2)) = lv') (k : G γ κ nL z Q (pc + 2) lv' (st) M) : G γ κ nL z Q pc lv (.ref x :: st) M := fun H locs ls hP hS hl => lv_astore C.1 C.2.1 hd hl hn hv (fun ls hl => k H locs ls hP hS hl)
theorem G_iinc (C : Cx γ κ own cc nL d z) {i : Nat} {n : Int} {x v : Int32} {lv' : List (Nat × Value)} (j : Nat) (hd : decode cc pc = .ok (.iinc i n, 3)) (hx : lv[j]? = some (i, .int x)) (hv : x + Int32.ofInt n = v) (hn : i < nL) (hw : (i, Value.int v) :: lv.filter (fun q => !(q.1 == i) && !(q.1 + 1 == i && q.2.category == 2)) = lv') (k : G γ κ nL z Q (pc + 3) lv' (st) M) : G γ κ nL z Q pc lv (st) M := fun H locs ls hP hS hl => lv_iinc C.1 C.2.1 hd hl hx hv hn hw (fun ls hl => k H locs ls hP hS hl)
theorem G_iadd (C : Cx γ κ own cc nL d z) {x y : Int32} (hd : decode cc pc = .ok (.iadd, 1)) (k : G γ κ nL z Q (pc + 1) lv (.int (x + y) :: st) M) : G γ κ nL z Q pc lv (.int y :: .int x :: st) M := fun H locs ls hP hS hl => lv_iadd C.1 C.2.1 hd (k H locs ls hP hS hl)
theorem G_isub (C : Cx γ κ own cc nL d z) {x y : Int32} (hd : decode cc pc = .ok (.isub, 1)) (k : G γ κ nL z Q (pc + 1) lv (.int (x - y) :: st) M) : G γ κ nL z Q pc lv (.int y :: .int x :: st) M := fun H locs ls hP hS hl => lv_isub C.1 C.2.1 hd (k H locs ls hP hS hl)
theorem G_imul (C : Cx γ κ own cc nL d z) {x y : Int32} (hd : decode cc pc = .ok (.imul, 1)) (k : G γ κ nL z Q (pc + 1) lv (.int (x * y) :: st) M) : G γ κ nL z Q pc lv (.int y :: .int x :: st) M := fun H locs ls hP hS hl => lv_imul C.1 C.2.1 hd (k H locs ls hP hS hl)
theorem G_iand (C : Cx γ κ own cc nL d z) {x y : Int32} (hd : decode cc pc = .ok (.iand, 1)) (k : G γ κ nL z Q (pc + 1) lv (.int (x &&& y) :: st) M) : G γ κ nL z Q pc lv (.int y :: .int x :: st) M := fun H locs ls hP hS hl => lv_iand C.1 C.2.1 hd (k H locs ls hP hS hl)
theorem G_ladd (C : Cx γ κ own cc nL d z) {x y : Int64} (hd : decode cc pc = .ok (.ladd, 1)) (k : G γ κ nL z Q (pc + 1) lv (.long (x + y) :: st) M) : G γ κ nL z Q pc lv (.long y :: .long x :: st) M := fun H locs ls hP hS hl => lv_ladd C.1 C.2.1 hd (k H locs ls hP hS hl)
theorem G_lsub (C : Cx γ κ own cc nL d z) {x y : Int64} (hd : decode cc pc = .ok (.lsub, 1)) (k : G γ κ nL z Q (pc + 1) lv (.long (x - y) :: st) M) : G γ κ nL z Q pc lv (.long y :: .long x :: st) M := fun H locs ls hP hS hl => lv_lsub C.1 C.2.1 hd (k H locs ls hP hS hl)
theorem G_lmul (C : Cx γ κ own cc nL d z) {x y : Int64} (hd : decode cc pc = .ok (.lmul, 1)) (k : G γ κ nL z Q (pc + 1) lv (.long (x * y) :: st) M) : G γ κ nL z Q pc lv (.long y :: .long x :: st) M := fun H locs ls hP hS hl => lv_lmul C.1 C.2.1 hd (k H locs ls hP hS hl)
theorem G_ldiv (C : Cx γ κ own cc nL d z) {x y : Int64} (hd : decode cc pc = .ok (.ldiv, 1)) (hne : ¬ y = 0) (k : G γ κ nL z Q (pc + 1) lv (.long (x / y) :: st) M) : G γ κ nL z Q pc lv (.long y :: .long x :: st) M := fun H locs ls hP hS hl => lv_ldiv C.1 C.2.1 hd hne (k H locs ls hP hS hl)
theorem G_lrem (C : Cx γ κ own cc nL d z) {x y : Int64} (hd : decode cc pc = .ok (.lrem, 1)) (hne : ¬ y = 0) (k : G γ κ nL z Q (pc + 1) lv (.long (x - x / y * y) :: st) M) : G γ κ nL z Q pc lv (.long y :: .long x :: st) M := fun H locs ls hP hS hl => lv_lrem C.1 C.2.1 hd hne (k H locs ls hP hS hl)
theorem G_ineg (C : Cx γ κ own cc nL d z) {x : Int32} (hd : decode cc pc = .ok (.ineg, 1)) (k : G γ κ nL z Q (pc + 1) lv (.int (-x) :: st) M) : G γ κ nL z Q pc lv (.int x :: st) M := fun H locs ls hP hS hl => lv_ineg C.1 C.2.1 hd (k H locs ls hP hS hl)
theorem G_lneg (C : Cx γ κ own cc nL d z) {x : Int64} (hd : decode cc pc = .ok (.lneg, 1)) (k : G γ κ nL z Q (pc + 1) lv (.long (-x) :: st) M) : G γ κ nL z Q pc lv (.long x :: st) M := fun H locs ls hP hS hl => lv_lneg C.1 C.2.1 hd (k H locs ls hP hS hl)
theorem G_i2l (C : Cx γ κ own cc nL d z) {x : Int32} (hd : decode cc pc = .ok (.i2l, 1)) (k : G γ κ nL z Q (pc + 1) lv (.long x.toInt64 :: st) M) : G γ κ nL z Q pc lv (.int x :: st) M := fun H locs ls hP hS hl => lv_i2l C.1 C.2.1 hd rfl (k H locs ls hP hS hl)
theorem G_l2i (C : Cx γ κ own cc nL d z) {x : Int64} (hd : decode cc pc = .ok (.l2i, 1)) (k : G γ κ nL z Q (pc + 1) lv (.int x.toInt32 :: st) M) : G γ κ nL z Q pc lv (.long x :: st) M := fun H locs ls hP hS hl => lv_l2i C.1 C.2.1 hd rfl (k H locs ls hP hS hl)
theorem G_dup (C : Cx γ κ own cc nL d z) {a : Value} (hd : decode cc pc = .ok (.dup, 1)) (h1 : a.category = 1) (k : G γ κ nL z Q (pc + 1) lv (a :: a :: st) M) : G γ κ nL z Q pc lv (a :: st) M := fun H locs ls hP hS hl => lv_dup C.1 C.2.1 hd h1 (k H locs ls hP hS hl)
theorem G_pop (C : Cx γ κ own cc nL d z) {a : Value} (hd : decode cc pc = .ok (.pop, 1)) (h1 : a.category = 1) (k : G γ κ nL z Q (pc + 1) lv (st) M) : G γ κ nL z Q pc lv (a :: st) M := fun H locs ls hP hS hl => lv_pop C.1 C.2.1 hd h1 (k H locs ls hP hS hl)
theorem G_dup_x1 (C : Cx γ κ own cc nL d z) {a b : Value} (hd : decode cc pc = .ok (.dup_x1, 1)) (h1 : a.category = 1) (h2 : b.category = 1) (k : G γ κ nL z Q (pc + 1) lv (a :: b :: a :: st) M) : G γ κ nL z Q pc lv (a :: b :: st) M := fun H locs ls hP hS hl => lv_dup_x1 C.1 C.2.1 hd h1 h2 (k H locs ls hP hS hl)
theorem G_dup2 (C : Cx γ κ own cc nL d z) {a b : Value} (hd : decode cc pc = .ok (.dup2, 1)) (h1 : a.category = 1) (h2 : b.category = 1) (k : G γ κ nL z Q (pc + 1) lv (a :: b :: a :: b :: st) M) : G γ κ nL z Q pc lv (a :: b :: st) M := fun H locs ls hP hS hl => lv_dup2_11 C.1 C.2.1 hd h1 h2 (k H locs ls hP hS hl)
theorem G_goto (C : Cx γ κ own cc nL d z) {off : Int} {tgt : Nat} (hd : decode cc pc = .ok (.goto off, 3)) (ht : (pc : Int) + off = (tgt : Int)) (k : G γ κ nL z Q tgt lv (st) M) : G γ κ nL z Q pc lv (st) M := fun H locs ls hP hS hl => lv_goto C.1 C.2.1 hd ht (k H locs ls hP hS hl)
theorem G_null (C : Cx γ κ own cc nL d z)  (hd : decode cc pc = .ok (.aconst_null, 1)) (k : G γ κ nL z Q (pc + 1) lv (.null :: st) M) : G γ κ nL z Q pc lv (st) M := fun H locs ls hP hS hl => lv_null C.1 C.2.1 hd (k H locs ls hP hS hl)
theorem G_if_eq (C : Cx γ κ own cc nL d z) {x : Int32} {off : Int} {tgt : Nat} (hd : decode cc pc = .ok (.ifCond .eq off, 3)) (ht : (pc : Int) + off = (tgt : Int)) (kt : x = 0 → G γ κ nL z Q tgt lv st M) (kf : ¬ x = 0 → G γ κ nL z Q (pc + 3) lv st M) : G γ κ nL z Q pc lv (.int x :: st) M := fun H locs ls hP hS hl => lv_if_eq C.1 C.2.1 hd ht (fun q => kt q H locs ls hP hS hl) (fun q => kf q H locs ls hP hS hl)
theorem G_if_ne (C : Cx γ κ own cc nL d z) {x : Int32} {off : Int} {tgt : Nat} (hd : decode cc pc = .ok (.ifCond .ne off, 3)) (ht : (pc : Int) + off = (tgt : Int)) (kt : ¬ x = 0 → G γ κ nL z Q tgt lv st M) (kf : x = 0 → G γ κ nL z Q (pc + 3) lv st M) : G γ κ nL z Q pc lv (.int x :: st) M := fun H locs ls hP hS hl => lv_if_ne C.1 C.2.1 hd ht (fun q => kt q H locs ls hP hS hl) (fun q => kf q H locs ls hP hS hl)
theorem G_if_lt (C : Cx γ κ own cc nL d z) {x : Int32} {off : Int} {tgt : Nat} (hd : decode cc pc = .ok (.ifCond .lt off, 3)) (ht : (pc : Int) + off = (tgt : Int)) (kt : x < 0 → G γ κ nL z Q tgt lv st M) (kf : ¬ x < 0 → G γ κ nL z Q (pc + 3) lv st M) : G γ κ nL z Q pc lv (.int x :: st) M := fun H locs ls hP hS hl => lv_if_lt C.1 C.2.1 hd ht (fun q => kt q H locs ls hP hS hl) (fun q => kf q H locs ls hP hS hl)
theorem G_if_ge (C : Cx γ κ own cc nL d z) {x : Int32} {off : Int} {tgt : Nat} (hd : decode cc pc = .ok (.ifCond .ge off, 3)) (ht : (pc : Int) + off = (tgt : Int)) (kt : 0 ≤ x → G γ κ nL z Q tgt lv st M) (kf : ¬ 0 ≤ x → G γ κ nL z Q (pc + 3) lv st M) : G γ κ nL z Q pc lv (.int x :: st) M := fun H locs ls hP hS hl => lv_if_ge C.1 C.2.1 hd ht (fun q => kt q H locs ls hP hS hl) (fun q => kf q H locs ls hP hS hl)
theorem G_if_gt (C : Cx γ κ own cc nL d z) {x : Int32} {off : Int} {tgt : Nat} (hd : decode cc pc = .ok (.ifCond .gt off, 3)) (ht : (pc : Int) + off = (tgt : Int)) (kt : 0 < x → G γ κ nL z Q tgt lv st M) (kf : ¬ 0 < x → G γ κ nL z Q (pc + 3) lv st M) : G γ κ nL z Q pc lv (.int x :: st) M := fun H locs ls hP hS hl => lv_if_gt C.1 C.2.1 hd ht (fun q => kt q H locs ls hP hS hl) (fun q => kf q H locs ls hP hS hl)
theorem G_if_le (C : Cx γ κ own cc nL d z) {x : Int32} {off : Int} {tgt : Nat} (hd : decode cc pc = .ok (.ifCond .le off, 3)) (ht : (pc : Int) + off = (tgt : Int)) (kt : x ≤ 0 → G γ κ nL z Q tgt lv st M) (kf : ¬ x ≤ 0 → G γ κ nL z Q (pc + 3) lv st M) : G γ κ nL z Q pc lv (.int x :: st) M := fun H locs ls hP hS hl => lv_if_le C.1 C.2.1 hd ht (fun q => kt q H locs ls hP hS hl) (fun q => kf q H locs ls hP hS hl)
theorem G_icmp_eq (C : Cx γ κ own cc nL d z) {x y : Int32} {off : Int} {tgt : Nat} (hd : decode cc pc = .ok (.if_icmp .eq off, 3)) (ht : (pc : Int) + off = (tgt : Int)) (kt : x = y → G γ κ nL z Q tgt lv st M) (kf : ¬ x = y → G γ κ nL z Q (pc + 3) lv st M) : G γ κ nL z Q pc lv (.int y :: .int x :: st) M := fun H locs ls hP hS hl => lv_icmp_eq C.1 C.2.1 hd ht (fun q => kt q H locs ls hP hS hl) (fun q => kf q H locs ls hP hS hl)
theorem G_icmp_ne (C : Cx γ κ own cc nL d z) {x y : Int32} {off : Int} {tgt : Nat} (hd : decode cc pc = .ok (.if_icmp .ne off, 3)) (ht : (pc : Int) + off = (tgt : Int)) (kt : ¬ x = y → G γ κ nL z Q tgt lv st M) (kf : x = y → G γ κ nL z Q (pc + 3) lv st M) : G γ κ nL z Q pc lv (.int y :: .int x :: st) M := fun H locs ls hP hS hl => lv_icmp_ne C.1 C.2.1 hd ht (fun q => kt q H locs ls hP hS hl) (fun q => kf q H locs ls hP hS hl)
theorem G_icmp_lt (C : Cx γ κ own cc nL d z) {x y : Int32} {off : Int} {tgt : Nat} (hd : decode cc pc = .ok (.if_icmp .lt off, 3)) (ht : (pc : Int) + off = (tgt : Int)) (kt : x < y → G γ κ nL z Q tgt lv st M) (kf : ¬ x < y → G γ κ nL z Q (pc + 3) lv st M) : G γ κ nL z Q pc lv (.int y :: .int x :: st) M := fun H locs ls hP hS hl => lv_icmp_lt C.1 C.2.1 hd ht (fun q => kt q H locs ls hP hS hl) (fun q => kf q H locs ls hP hS hl)
theorem G_icmp_ge (C : Cx γ κ own cc nL d z) {x y : Int32} {off : Int} {tgt : Nat} (hd : decode cc pc = .ok (.if_icmp .ge off, 3)) (ht : (pc : Int) + off = (tgt : Int)) (kt : y ≤ x → G γ κ nL z Q tgt lv st M) (kf : ¬ y ≤ x → G γ κ nL z Q (pc + 3) lv st M) : G γ κ nL z Q pc lv (.int y :: .int x :: st) M := fun H locs ls hP hS hl => lv_icmp_ge C.1 C.2.1 hd ht (fun q => kt q H locs ls hP hS hl) (fun q => kf q H locs ls hP hS hl)
theorem G_icmp_gt (C : Cx γ κ own cc nL d z) {x y : Int32} {off : Int} {tgt : Nat} (hd : decode cc pc = .ok (.if_icmp .gt off, 3)) (ht : (pc : Int) + off = (tgt : Int)) (kt : y < x → G γ κ nL z Q tgt lv st M) (kf : ¬ y < x → G γ κ nL z Q (pc + 3) lv st M) : G γ κ nL z Q pc lv (.int y :: .int x :: st) M := fun H locs ls hP hS hl => lv_icmp_gt C.1 C.2.1 hd ht (fun q => kt q H locs ls hP hS hl) (fun q => kf q H locs ls hP hS hl)
theorem G_icmp_le (C : Cx γ κ own cc nL d z) {x y : Int32} {off : Int} {tgt : Nat} (hd : decode cc pc = .ok (.if_icmp .le off, 3)) (ht : (pc : Int) + off = (tgt : Int)) (kt : x ≤ y → G γ κ nL z Q tgt lv st M) (kf : ¬ x ≤ y → G γ κ nL z Q (pc + 3) lv st M) : G γ κ nL z Q pc lv (.int y :: .int x :: st) M := fun H locs ls hP hS hl => lv_icmp_le C.1 C.2.1 hd ht (fun q => kt q H locs ls hP hS hl) (fun q => kf q H locs ls hP hS hl)
theorem G_lcmp_eq (C : Cx γ κ own cc nL d z) {x y : Int64} {off : Int} {tgt pc1 : Nat} (hd0 : decode cc pc = .ok (.lcmp, 1)) (h1 : pc + 1 = pc1) (hd : decode cc pc1 = .ok (.ifCond .eq off, 3)) (ht : (pc1 : Int) + off = (tgt : Int)) (kt : x = y → G γ κ nL z Q tgt lv st M) (kf : ¬ x = y → G γ κ nL z Q (pc1 + 3) lv st M) : G γ κ nL z Q pc lv (.long y :: .long x :: st) M := fun H locs ls hP hS hl => by
  subst h1
  exact W.lcmp C.1 C.2.1 hd0 (lv_if_eq C.1 C.2.1 hd ht (fun q => kt ((lg_cmp_eq x y).mp q) H locs ls hP hS hl) (fun q => kf (fun w => q ((lg_cmp_eq x y).mpr w)) H locs ls hP hS hl))
theorem G_lcmp_ne (C : Cx γ κ own cc nL d z) {x y : Int64} {off : Int} {tgt pc1 : Nat} (hd0 : decode cc pc = .ok (.lcmp, 1)) (h1 : pc + 1 = pc1) (hd : decode cc pc1 = .ok (.ifCond .ne off, 3)) (ht : (pc1 : Int) + off = (tgt : Int)) (kt : ¬ x = y → G γ κ nL z Q tgt lv st M) (kf : x = y → G γ κ nL z Q (pc1 + 3) lv st M) : G γ κ nL z Q pc lv (.long y :: .long x :: st) M := fun H locs ls hP hS hl => by
  subst h1
  exact W.lcmp C.1 C.2.1 hd0 (lv_if_ne C.1 C.2.1 hd ht (fun q => kt (fun w => q ((lg_cmp_eq x y).mpr w)) H locs ls hP hS hl) (fun q => kf ((lg_cmp_eq x y).mp q) H locs ls hP hS hl))
theorem G_lcmp_lt (C : Cx γ κ own cc nL d z) {x y : Int64} {off : Int} {tgt pc1 : Nat} (hd0 : decode cc pc = .ok (.lcmp, 1)) (h1 : pc + 1 = pc1) (hd : decode cc pc1 = .ok (.ifCond .lt off, 3)) (ht : (pc1 : Int) + off = (tgt : Int)) (kt : x < y → G γ κ nL z Q tgt lv st M) (kf : ¬ x < y → G γ κ nL z Q (pc1 + 3) lv st M) : G γ κ nL z Q pc lv (.long y :: .long x :: st) M := fun H locs ls hP hS hl => by
  subst h1
  exact W.lcmp C.1 C.2.1 hd0 (lv_if_lt C.1 C.2.1 hd ht (fun q => kt ((lg_cmp_lt x y).mp q) H locs ls hP hS hl) (fun q => kf (fun w => q ((lg_cmp_lt x y).mpr w)) H locs ls hP hS hl))
theorem G_lcmp_ge (C : Cx γ κ own cc nL d z) {x y : Int64} {off : Int} {tgt pc1 : Nat} (hd0 : decode cc pc = .ok (.lcmp, 1)) (h1 : pc + 1 = pc1) (hd : decode cc pc1 = .ok (.ifCond .ge off, 3)) (ht : (pc1 : Int) + off = (tgt : Int)) (kt : y ≤ x → G γ κ nL z Q tgt lv st M) (kf : ¬ y ≤ x → G γ κ nL z Q (pc1 + 3) lv st M) : G γ κ nL z Q pc lv (.long y :: .long x :: st) M := fun H locs ls hP hS hl => by
  subst h1
  exact W.lcmp C.1 C.2.1 hd0 (lv_if_ge C.1 C.2.1 hd ht (fun q => kt ((lg_cmp_ge x y).mp q) H locs ls hP hS hl) (fun q => kf (fun w => q ((lg_cmp_ge x y).mpr w)) H locs ls hP hS hl))
theorem G_lcmp_gt (C : Cx γ κ own cc nL d z) {x y : Int64} {off : Int} {tgt pc1 : Nat} (hd0 : decode cc pc = .ok (.lcmp, 1)) (h1 : pc + 1 = pc1) (hd : decode cc pc1 = .ok (.ifCond .gt off, 3)) (ht : (pc1 : Int) + off = (tgt : Int)) (kt : y < x → G γ κ nL z Q tgt lv st M) (kf : ¬ y < x → G γ κ nL z Q (pc1 + 3) lv st M) : G γ κ nL z Q pc lv (.long y :: .long x :: st) M := fun H locs ls hP hS hl => by
  subst h1
  exact W.lcmp C.1 C.2.1 hd0 (lv_if_gt C.1 C.2.1 hd ht (fun q => kt ((lg_cmp_gt x y).mp q) H locs ls hP hS hl) (fun q => kf (fun w => q ((lg_cmp_gt x y).mpr w)) H locs ls hP hS hl))
theorem G_lcmp_le (C : Cx γ κ own cc nL d z) {x y : Int64} {off : Int} {tgt pc1 : Nat} (hd0 : decode cc pc = .ok (.lcmp, 1)) (h1 : pc + 1 = pc1) (hd : decode cc pc1 = .ok (.ifCond .le off, 3)) (ht : (pc1 : Int) + off = (tgt : Int)) (kt : x ≤ y → G γ κ nL z Q tgt lv st M) (kf : ¬ x ≤ y → G γ κ nL z Q (pc1 + 3) lv st M) : G γ κ nL z Q pc lv (.long y :: .long x :: st) M := fun H locs ls hP hS hl => by
  subst h1
  exact W.lcmp C.1 C.2.1 hd0 (lv_if_le C.1 C.2.1 hd ht (fun q => kt ((lg_cmp_le x y).mp q) H locs ls hP hS hl) (fun q => kf (fun w => q ((lg_cmp_le x y).mpr w)) H locs ls hP hS hl))
theorem G_sub (ks : List Nat) {lv' : List (Nat × Value)} (h : lv_pick lv ks = lv') (k : G γ κ nL z Q pc lv' st M) : G γ κ nL z Q pc lv st M := fun H locs ls hP hS hl => k H locs ls hP hS (lv_sub hl ks h)
theorem G_mem {M' : Mem} (h : M = M') (k : G γ κ nL z Q pc lv st M') : G γ κ nL z Q pc lv st M := h ▸ k
theorem wl_at {b : Nat} {E : Nat → va_E} {k : Nat} {e : va_E} (hk : k < 76) (he : E k = e) : (wl b E)[k]? = some (b + k, e) := (wl_get hk).trans (congrArg (fun e => some (b + k, e)) he)
theorem G_get (C : Cx γ κ own cc nL d z) {ci k j N idx : Nat} {CN : String} {T : u_T} {fs : List Value} {v : Value} (hk : k < 76) (he : shp κ k (M.1 k) (M.2 k) = .inr (ci, fs)) (hc : cls8[ci]? = some (CN, T, N)) (hj : j < N) (hin : ∀ w ∈ u_ws CN T N, w ∈ gw) (hlink : Cond.fieldLink own idx CN (T j).2.1 (T j).2.2.1 ∈ gw) (hsame : (T j).1 = CN) (hv : fs[j]? = some v) (hd : decode cc pc = .ok (.getfield idx, 3))
    (kk : G γ κ nL z Q (pc + 3) lv (v :: st) M) : G γ κ nL z Q pc lv (.ref (κ.1 + k) :: st) M := fun H locs ls hP hS hl =>
  va_get (D := κ.2.2) (cl := cls8) (tys := tysK κ) (ws := wl κ.1 (ents κ M)) (Ts := gw) C.1 C.2.1 C.2.2.2.2.1 hin C.2.2.2.1 C.2.2.2.2.2.1.1 hP k (wl_at hk he) hc j hj (C.2.2.2.2.1 _ hlink) (fun x h => by rw [hsame] at h; exact h) hv hd (kk H locs ls hP hS hl)
theorem G_putI (C : Cx γ κ own cc nL d z) {ci k j N idx : Nat} {CN : String} {T : u_T} {fs : List Value} {v : Int32} (hk : k < 76) (he : shp κ k (M.1 k) (M.2 k) = .inr (ci, fs)) (he2 : shp κ k (upd (M.1 k) j v) (M.2 k) = .inr (ci, fs.set j (.int v))) (hc : cls8[ci]? = some (CN, T, N)) (hj : j < N) (hin : ∀ w ∈ u_ws CN T N, w ∈ gw) (ty0 : Nat → FieldType) (hty : ∀ k, k < N → parseFieldDescriptor (T k).2.2.1 = some (ty0 k)) (hnm : ∀ a, a < N → ∀ b, b < N → a ≠ b → (T a).2.1 ≠ (T b).2.1) (hlink : Cond.fieldLink own idx CN (T j).2.1 (T j).2.2.1 ∈ gw) (hsame : (T j).1 = CN) (hfin : (T j).2.2.2 = false) (hde : parseFieldDescriptor (T j).2.2.1 = some .int) (hl : j < fs.length) (hd : decode cc pc = .ok (.putfield idx, 3))
    (kk : G γ κ nL z Q (pc + 3) lv st (wI M k j v)) : G γ κ nL z Q pc lv (.int v :: .ref (κ.1 + k) :: st) M := fun H locs ls hP hS hll =>
  va_put (D := κ.2.2) (cl := cls8) (tys := tysK κ) (ws := wl κ.1 (ents κ M)) (A := Ab κ) (Ts := gw) C.1 C.2.1 C.2.2.2.2.1 hin ty0 hty hnm C.2.2.2.1 C.2.2.2.2.2.1.1 hP wl_D hS k (wl_at hk he) hc j hj (C.2.2.2.2.1 _ hlink) (fun x h => by rw [hsame] at h; exact h) hfin hde rfl rfl hl hd
    (fun H1 locs1 hP1 _ hS1 => kk H1 locs1 ls (by rw [wl_set hk, ← he2, ← ents_I] at hP1; exact hP1) hS1 hll)
theorem G_putJ (C : Cx γ κ own cc nL d z) {ci k j N idx : Nat} {CN : String} {T : u_T} {fs : List Value} {v : Int64} (hk : k < 76) (he : shp κ k (M.1 k) (M.2 k) = .inr (ci, fs)) (he2 : shp κ k (M.1 k) (vp_updL (M.2 k) j v) = .inr (ci, fs.set j (.long v))) (hc : cls8[ci]? = some (CN, T, N)) (hj : j < N) (hin : ∀ w ∈ u_ws CN T N, w ∈ gw) (ty0 : Nat → FieldType) (hty : ∀ k, k < N → parseFieldDescriptor (T k).2.2.1 = some (ty0 k)) (hnm : ∀ a, a < N → ∀ b, b < N → a ≠ b → (T a).2.1 ≠ (T b).2.1) (hlink : Cond.fieldLink own idx CN (T j).2.1 (T j).2.2.1 ∈ gw) (hsame : (T j).1 = CN) (hfin : (T j).2.2.2 = false) (hde : parseFieldDescriptor (T j).2.2.1 = some .long) (hl : j < fs.length) (hd : decode cc pc = .ok (.putfield idx, 3))
    (kk : G γ κ nL z Q (pc + 3) lv st (wJ M k j v)) : G γ κ nL z Q pc lv (.long v :: .ref (κ.1 + k) :: st) M := fun H locs ls hP hS hll =>
  va_put (D := κ.2.2) (cl := cls8) (tys := tysK κ) (ws := wl κ.1 (ents κ M)) (A := Ab κ) (Ts := gw) C.1 C.2.1 C.2.2.2.2.1 hin ty0 hty hnm C.2.2.2.1 C.2.2.2.2.2.1.1 hP wl_D hS k (wl_at hk he) hc j hj (C.2.2.2.2.1 _ hlink) (fun x h => by rw [hsame] at h; exact h) hfin hde rfl rfl hl hd
    (fun H1 locs1 hP1 _ hS1 => kk H1 locs1 ls (by rw [wl_set hk, ← he2, ← ents_J] at hP1; exact hP1) hS1 hll)
theorem G_iaload (C : Cx γ κ own cc nL d z) {k n : Nat} (hk : k < 76) (hs : ∀ f g, shp κ k f g = eI κ n f) {i : Int32} (hin : vp_in i n) (hd : decode cc pc = .ok (.iaload, 1))
    (kk : G γ κ nL z Q (pc + 1) lv (.int (M.1 k i.toNatClampNeg) :: st) M) : G γ κ nL z Q pc lv (.int i :: .ref (κ.1 + k) :: st) M := fun H locs ls hP hS hl =>
  va_iald (D := κ.2.2) (cl := cls8) (tys := tysK κ) (ws := wl κ.1 (ents κ M)) C.1 C.2.1 C.2.2.2.2.2.1.1 hP k 0 (wl_at hk (hs _ _)) rfl hin hd (kk H locs ls hP hS hl)
theorem G_baload (C : Cx γ κ own cc nL d z) {k n : Nat} (hk : k < 76) (hs : ∀ f g, shp κ k f g = eZ κ n f) {i : Int32} (hin : vp_in i n) (hd : decode cc pc = .ok (.baload, 1))
    (kk : G γ κ nL z Q (pc + 1) lv (.int (M.1 k i.toNatClampNeg) :: st) M) : G γ κ nL z Q pc lv (.int i :: .ref (κ.1 + k) :: st) M := fun H locs ls hP hS hl =>
  va_zald (D := κ.2.2) (cl := cls8) (tys := tysK κ) (ws := wl κ.1 (ents κ M)) C.1 C.2.1 C.2.2.2.2.2.1.1 hP k 2 (wl_at hk (hs _ _)) rfl hin hd (kk H locs ls hP hS hl)
theorem G_laload (C : Cx γ κ own cc nL d z) {k n : Nat} (hk : k < 76) (hs : ∀ f g, shp κ k f g = eJ κ n g) {i : Int32} (hin : vp_in i n) (hd : decode cc pc = .ok (.laload, 1))
    (kk : G γ κ nL z Q (pc + 1) lv (.long (M.2 k i.toNatClampNeg) :: st) M) : G γ κ nL z Q pc lv (.int i :: .ref (κ.1 + k) :: st) M := fun H locs ls hP hS hl =>
  va_lald (D := κ.2.2) (cl := cls8) (tys := tysK κ) (ws := wl κ.1 (ents κ M)) C.1 C.2.1 C.2.2.2.2.2.1.1 hP k 1 (wl_at hk (hs _ _)) rfl hin hd (kk H locs ls hP hS hl)
theorem G_iastore (C : Cx γ κ own cc nL d z) {k n : Nat} (hk : k < 76) (hs : ∀ f g, shp κ k f g = eI κ n f) {i x : Int32} (hin : vp_in i n) (hd : decode cc pc = .ok (.iastore, 1))
    (kk : G γ κ nL z Q (pc + 1) lv st (wI M k i.toNatClampNeg x)) : G γ κ nL z Q pc lv (.int x :: .int i :: .ref (κ.1 + k) :: st) M := fun H locs ls hP hS hl =>
  va_iast (D := κ.2.2) (cl := cls8) (tys := tysK κ) (ws := wl κ.1 (ents κ M)) (A := Ab κ) C.1 C.2.1 C.2.2.2.2.2.1.1 hP wl_D hS k 0 (wl_at hk (hs _ _)) rfl hin hd
    (fun H1 locs1 hP1 _ hS1 => kk H1 locs1 ls (by rw [wl_set hk] at hP1; unfold Hp; rw [ents_I, hs]; exact hP1) hS1 hl)
theorem G_bastore (C : Cx γ κ own cc nL d z) {k n : Nat} (hk : k < 76) (hs : ∀ f g, shp κ k f g = eZ κ n f) {i x x2 : Int32} (hin : vp_in i n) (hx : vp_nar .boolean x = x2) (hd : decode cc pc = .ok (.bastore, 1))
    (kk : G γ κ nL z Q (pc + 1) lv st (wI M k i.toNatClampNeg x2)) : G γ κ nL z Q pc lv (.int x :: .int i :: .ref (κ.1 + k) :: st) M := fun H locs ls hP hS hl =>
  va_zast (D := κ.2.2) (cl := cls8) (tys := tysK κ) (ws := wl κ.1 (ents κ M)) (A := Ab κ) C.1 C.2.1 C.2.2.2.2.2.1.1 hP wl_D hS k 2 (wl_at hk (hs _ _)) rfl hin hd
    (fun H1 locs1 hP1 _ hS1 => kk H1 locs1 ls (by rw [wl_set hk, hx] at hP1; unfold Hp; rw [ents_I, hs]; exact hP1) hS1 hl)
theorem G_lastore (C : Cx γ κ own cc nL d z) {k n : Nat} (hk : k < 76) (hs : ∀ f g, shp κ k f g = eJ κ n g) {i : Int32} {x : Int64} (hin : vp_in i n) (hd : decode cc pc = .ok (.lastore, 1))
    (kk : G γ κ nL z Q (pc + 1) lv st (wJ M k i.toNatClampNeg x)) : G γ κ nL z Q pc lv (.long x :: .int i :: .ref (κ.1 + k) :: st) M := fun H locs ls hP hS hl =>
  va_last (D := κ.2.2) (cl := cls8) (tys := tysK κ) (ws := wl κ.1 (ents κ M)) (A := Ab κ) C.1 C.2.1 C.2.2.2.2.2.1.1 hP wl_D hS k 1 (wl_at hk (hs _ _)) rfl hin hd
    (fun H1 locs1 hP1 _ hS1 => kk H1 locs1 ls (by rw [wl_set hk] at hP1; unfold Hp; rw [ents_J, hs]; exact hP1) hS1 hl)
theorem G_alenI (C : Cx γ κ own cc nL d z) {k n : Nat} (hk : k < 76) (hs : ∀ f g, shp κ k f g = eI κ n f) (hd : decode cc pc = .ok (.arraylength, 1))
    (kk : G γ κ nL z Q (pc + 1) lv (.int (nI n) :: st) M) : G γ κ nL z Q pc lv (.ref (κ.1 + k) :: st) M := fun H locs ls hP hS hl =>
  va_alen (D := κ.2.2) (cl := cls8) (tys := tysK κ) (ws := wl κ.1 (ents κ M)) C.1 C.2.1 C.2.2.2.2.2.1.1 hP k 0 (wl_at hk (hs _ _)) rfl rfl hd (kk H locs ls hP hS hl)
theorem G_alenJ (C : Cx γ κ own cc nL d z) {k n : Nat} (hk : k < 76) (hs : ∀ f g, shp κ k f g = eJ κ n g) (hd : decode cc pc = .ok (.arraylength, 1))
    (kk : G γ κ nL z Q (pc + 1) lv (.int (nI n) :: st) M) : G γ κ nL z Q pc lv (.ref (κ.1 + k) :: st) M := fun H locs ls hP hS hl =>
  va_alen (D := κ.2.2) (cl := cls8) (tys := tysK κ) (ws := wl κ.1 (ents κ M)) C.1 C.2.1 C.2.2.2.2.2.1.1 hP k 1 (wl_at hk (hs _ _)) rfl rfl hd (kk H locs ls hP hS hl)
theorem G_aaF (C : Cx γ κ own cc nL d z) {i : Int32} (hin : vp_in i 12) (hd : decode cc pc = .ok (.aaload, 1))
    (kk : G γ κ nL z Q (pc + 1) lv (.ref (κ.1 + (32 + 2 * i.toNatClampNeg)) :: st) M) : G γ κ nL z Q pc lv (.int i :: .ref (κ.1 + 8) :: st) M := fun H locs ls hP hS hl =>
  va_aldq (D := κ.2.2) (cl := cls8) (tys := tysK κ) (ws := wl κ.1 (ents κ M)) C.1 C.2.1 C.2.2.2.2.2.1.1 hP 8 3 (wl_at (e := eF κ) (by decide) rfl) rfl hin hd (kk H locs ls hP hS hl)
theorem G_aaT (C : Cx γ κ own cc nL d z) {i : Int32} (hin : vp_in i 10) (hd : decode cc pc = .ok (.aaload, 1))
    (kk : G γ κ nL z Q (pc + 1) lv (.ref (κ.1 + (17 + i.toNatClampNeg)) :: st) M) : G γ κ nL z Q pc lv (.int i :: .ref (κ.1 + 16) :: st) M := fun H locs ls hP hS hl => by
  have hlt : i.toNatClampNeg < 10 := Nat.not_le.mp fun q => hin (Or.inr q)
  have hc : va_at κ.2.2 cls8 (κ.1 + 16, eT κ) H := hP 16 _ (wl_at (e := eT κ) (by decide) rfl)
  exact W.aald (v := .ref (κ.1 + (17 + i.toNatClampNeg))) C.1 C.2.1 hc ((C.2.2.2.2.2.1.1.2 4 _ rfl).1 10 (fun j => va_rf (some (κ.1 + (17 + j))))) rfl (fun q => by cases q) (by show ¬ (i < 0 ∨ (arrV _ _ _).slots.size ≤ _); rw [arrV_size]; exact hin) (by show (arrV _ _ _).slots[_]? = _; rw [arrV_read _ _ hlt]; rfl) rfl rfl hd (kk H locs ls hP hS hl)
/-- a form, or null -/
def fv (κ : Kp) (r : Option Nat) : Value := match r with
  | none => .null
  | some i => .ref (κ.1 + (32 + 2 * i))
theorem G_aload_nq (C : Cx γ κ own cc nL d z) {q : Fin 4} {i : Nat} {r : Option Nat} (n : Nat) (hd : decode cc pc = .ok (.aload_n q, 1)) (hi : (q : Nat) = i) (hx : lv[n]? = some (i, fv κ r)) (k : G γ κ nL z Q (pc + 1) lv (fv κ r :: st) M) : G γ κ nL z Q pc lv st M := fun H locs ls hP hS hl => by
  cases r with
  | none => exact lv_aload_nN C.1 C.2.1 hd hi (lv_at hl n hx) (k H locs ls hP hS hl)
  | some j => exact lv_aload_n C.1 C.2.1 hd hi (lv_at hl n hx) (k H locs ls hP hS hl)
theorem G_aloadq (C : Cx γ κ own cc nL d z) {i : Nat} {r : Option Nat} (n : Nat) (hd : decode cc pc = .ok (.aload i, 2)) (hx : lv[n]? = some (i, fv κ r)) (k : G γ κ nL z Q (pc + 2) lv (fv κ r :: st) M) : G γ κ nL z Q pc lv st M := fun H locs ls hP hS hl => by
  cases r with
  | none => exact lv_aloadN C.1 C.2.1 hd (lv_at hl n hx) (k H locs ls hP hS hl)
  | some j => exact lv_aload C.1 C.2.1 hd (lv_at hl n hx) (k H locs ls hP hS hl)
theorem G_astore_nq (C : Cx γ κ own cc nL d z) {q : Fin 4} {i : Nat} {r : Option Nat} {lv' : List (Nat × Value)} (hd : decode cc pc = .ok (.astore_n q, 1)) (hi : (q : Nat) = i) (hn : i < nL) (hv : (i, fv κ r) :: lv.filter (fun q => !(q.1 == i) && !(q.1 + 1 == i && q.2.category == 2)) = lv') (k : G γ κ nL z Q (pc + 1) lv' st M) : G γ κ nL z Q pc lv (fv κ r :: st) M := fun H locs ls hP hS hl => by
  cases r with
  | none => exact lv_astore_nN C.1 C.2.1 hd hi hl hn hv (fun ls hl => k H locs ls hP hS hl)
  | some j => exact lv_astore_n C.1 C.2.1 hd hi hl hn hv (fun ls hl => k H locs ls hP hS hl)
theorem G_astoreq (C : Cx γ κ own cc nL d z) {i : Nat} {r : Option Nat} {lv' : List (Nat × Value)} (hd : decode cc pc = .ok (.astore i, 2)) (hn : i < nL) (hv : (i, fv κ r) :: lv.filter (fun q => !(q.1 == i) && !(q.1 + 1 == i && q.2.category == 2)) = lv') (k : G γ κ nL z Q (pc + 2) lv' st M) : G γ κ nL z Q pc lv (fv κ r :: st) M := fun H locs ls hP hS hl => by
  cases r with
  | none => exact lv_astoreN C.1 C.2.1 hd hl hn hv (fun ls hl => k H locs ls hP hS hl)
  | some j => exact lv_astore C.1 C.2.1 hd hl hn hv (fun ls hl => k H locs ls hP hS hl)
theorem G_ifnullq (C : Cx γ κ own cc nL d z) {r : Option Nat} {off : Int} {tgt : Nat} (hd : decode cc pc = .ok (.ifnull off, 3)) (ht : (pc : Int) + off = (tgt : Int)) (kt : r = none → G γ κ nL z Q tgt lv st M) (kf : ∀ i, r = some i → G γ κ nL z Q (pc + 3) lv st M) : G γ κ nL z Q pc lv (fv κ r :: st) M := fun H locs ls hP hS hl => by
  cases r with
  | none => exact lv_ifnullN C.1 C.2.1 hd ht (kt rfl H locs ls hP hS hl)
  | some j => exact lv_ifnull C.1 C.2.1 hd (kf j rfl H locs ls hP hS hl)
theorem G_ifnonnullq (C : Cx γ κ own cc nL d z) {r : Option Nat} {off : Int} {tgt : Nat} (hd : decode cc pc = .ok (.ifnonnull off, 3)) (ht : (pc : Int) + off = (tgt : Int)) (kt : ∀ i, r = some i → G γ κ nL z Q tgt lv st M) (kf : r = none → G γ κ nL z Q (pc + 3) lv st M) : G γ κ nL z Q pc lv (fv κ r :: st) M := fun H locs ls hP hS hl => by
  cases r with
  | none => exact lv_ifnonnullN C.1 C.2.1 hd (kf rfl H locs ls hP hS hl)
  | some j => exact lv_ifnonnull C.1 C.2.1 hd ht (kt j rfl H locs ls hP hS hl)
/-! calls -/
/-- a method's own words; n: how many parameters -/
def Yw (y : MethodName) (bytes : ByteArray) (mL : Nat) (ret : Option FieldType) (n : Nat) : Prop :=
  Cond.code y bytes mL ret ∈ gw ∧ Cond.initialized y.cls ∈ gw ∧ (y.cls ≠ "java/lang/invoke/MethodHandle" ∧ y.cls ≠ "java/lang/invoke/VarHandle" ∧ (parseMethodDescriptor y.desc).map (fun d => d.parameters.length) = some n) ∧ mL ≤ 26
theorem Yw_good {y : MethodName} {bytes : ByteArray} {mL : Nat} {ret : Option FieldType} (h : Cond.code y bytes mL ret ∈ gw) : GoodIn gw (Cond.code y bytes mL ret :: gw) := fun w hw => by
  rcases List.mem_cons.mp hw with e | e
  · rw [e]; exact ⟨h, good_of_word (gw_good _ h)⟩
  · exact ⟨e, good_of_word (gw_good _ e)⟩
theorem pc_blind {κ : Kp} {As : List Value} {M : Mem} : FrameBlind (va_Pc As (fun U => Hp κ M U.heap ∧ KK κ U)) := fun a U g mk q => by
  obtain ⟨q0, q1, q2⟩ := q
  exact ⟨q0, q1, q2.same (U := U.calling g mk a) rfl⟩
theorem G_run {H : Heap} {locs : List Loc} {ls : Array Slot} {st0 rest : List Value} {a : Array Value} {post : Option Value → Mem → Prop} (hS : va_S (Ab κ) γ.2.2.2.2.1.heap H locs) (hl : lv_has ls nL lv)
    (hr : va_Run γ.1 γ.2.1 γ.2.2.1 γ.2.2.2.1 γ.2.2.2.2.1 γ.2.2.2.2.2.1 γ.2.2.2.2.2.2.1 γ.2.2.2.2.2.2.2.1 γ.2.2.2.2.2.2.2.2.1 γ.2.2.2.2.2.2.2.2.2 H locs z.1 z.2 0 0 (F0 γ.2.2.2.2.2.1 pc ls st0) rest (qcc κ post a) (Ab κ))
    (kk : ∀ v M', post v M' → G γ κ nL z Q (pc + 3) lv (v.toList ++ rest) M') :
    W γ.1 γ.2.1 γ.2.2.1 γ.2.2.2.1 γ.2.2.2.2.1 γ.2.2.2.2.2.1 γ.2.2.2.2.2.2.1 γ.2.2.2.2.2.2.2.1 γ.2.2.2.2.2.2.2.2.1 γ.2.2.2.2.2.2.2.2.2 H locs z.1 z.2 Q (F0 γ.2.2.2.2.2.1 pc ls st0) := by
  intro T hT X
  obtain ⟨v, st₀, t, T', L, h0, X', hL, e1, e2, ⟨⟨v', M', hv, hp, hh⟩, hz, hk⟩, stp⟩ := hr T hT X
  cases hv
  rw [h0] at hz hk
  obtain ⟨t2, a1, b1⟩ := kk v M' hp T'.heap (locs ++ L) ls (by rw [e1]; exact hh)
    ⟨Nat.le_trans hS.1 (by rw [e1]; exact hz), fun q h1 h2 => by rw [e1, hk q (Nat.lt_of_lt_of_le h1 hS.1) h2]; exact hS.2.1 q h1 h2, fun q hq => by
      rcases List.mem_append.mp hq with h | h
      · exact hS.2.2 q h
      · exact hL q h⟩ hl T' rfl X'
  exact ⟨t2, stp t2 a1, b1⟩
theorem rm_fit {R : Room} {d dc mL : Nat} (h : d ≤ R.frames ∧ 45 * d ≤ R.locals) (h1 : dc + 1 ≤ d) (h2 : mL ≤ 26) : (rmd dc).frames + 1 ≤ R.frames ∧ 8 + (mL + 11) + (rmd dc).locals ≤ R.locals := by
  simp only [rmd]; omega
theorem rm_sum {m : MethodId} {ls : Array Slot} {st rest : List Value} (h : (rest.map fun v => v.category).sum ≤ 8) : 2 * (F0 m pc ls st).monitorRoom + (rest.map fun v => v.category).sum ≤ 8 := lv_room h
theorem G_callV (C : Cx γ κ own cc nL d z) {y : MethodName} {bytes : ByteArray} {mL dc k ci idx n : Nat} {ret : Option FieldType} {As rest st0 : List Value} {fs : List Value} {q : vw_C} {post : Option Value → Mem → Prop}
    (hM : Ct γ.2.1 κ y bytes mL ret dc (.ref (κ.1 + k) :: As) M post) (hY : Yw y bytes mL ret n) (hi : Cond.instanceMethod y ∈ gw) (hs : Cond.selects y.cls y y ∈ gw) (hlk : Cond.methodLink own idx y ∈ gw) (hdc : dc + 1 ≤ d) (hn : As.length = n)
    (hk : k < 76) (he : shp κ k (M.1 k) (M.2 k) = .inr (ci, fs)) (hc : cls8[ci]? = some q) (hq : q.1 = y.cls) (hst : st0 = As.reverse ++ .ref (κ.1 + k) :: rest) (hrm : (rest.map fun v => v.category).sum ≤ 8) (hd : decode cc pc = .ok (.invokevirtual idx, 3))
    (kk : ∀ v M', post v M' → G γ κ nL z Q (pc + 3) lv (v.toList ++ rest) M') : G γ κ nL z Q pc lv st0 M := fun H locs ls hP hS hl => by
  have hrec := va_recv (q0 := k) C.2.2.2.2.2.1.1 hP hc (wl_at hk he)
  rw [hq] at hrec
  exact G_run hS hl (va_runV (As := As) (rest := rest) (n := n) (Ts := gw) (own := own) (C := y.cls) ⟨C.1, C.2.1, C.2.2.1, C.2.2.2.1, C.2.2.2.2.1⟩ hM
    ⟨callB_of n C.2.2.2.2.1 (Yw_good hY.1) rfl rfl rfl (C.2.2.2.2.1 _ hY.2.1) (C.2.2.2.2.1 _ hlk) hY.2.2.1 (rm_fit C.2.2.2.2.2.2.1 hdc hY.2.2.2), C.2.2.2.2.1 _ hi, C.2.2.2.2.1 _ hs⟩
    ⟨pc_blind, hrec, fun U hU hW => ⟨rfl, by rw [hU]; exact hP, C.2.2.2.2.2.1.warm hW⟩⟩ rfl hn hl.1 hst (rm_sum hrm) hd ⟨C.2.2.2.2.2.2.2.1, C.2.2.2.2.2.2.2.2⟩) kk
theorem G_callS (C : Cx γ κ own cc nL d z) {y : MethodName} {bytes : ByteArray} {mL dc idx n : Nat} {ret : Option FieldType} {As rest st0 : List Value} {post : Option Value → Mem → Prop}
    (hM : Ct γ.2.1 κ y bytes mL ret dc As M post) (hY : Yw y bytes mL ret n) (hs : Cond.static y ∈ gw) (hlk : Cond.methodLink own idx y ∈ gw) (hdc : dc + 1 ≤ d) (hn : As.length = n)
    (hst : st0 = As.reverse ++ rest) (hrm : (rest.map fun v => v.category).sum ≤ 8) (hd : decode cc pc = .ok (.invokestatic idx, 3))
    (kk : ∀ v M', post v M' → G γ κ nL z Q (pc + 3) lv (v.toList ++ rest) M') : G γ κ nL z Q pc lv st0 M := fun H locs ls hP hS hl => by
  exact G_run hS hl (va_runS (As := As) (rest := rest) (n := n) (Ts := gw) (own := own) ⟨C.1, C.2.1, C.2.2.1, C.2.2.2.1, C.2.2.2.2.1⟩ hM
    ⟨callB_of n C.2.2.2.2.1 (Yw_good hY.1) rfl rfl rfl (C.2.2.2.2.1 _ hY.2.1) (C.2.2.2.2.1 _ hlk) hY.2.2.1 (rm_fit C.2.2.2.2.2.2.1 hdc hY.2.2.2), C.2.2.2.2.1 _ hs⟩
    ⟨pc_blind, fun U hU hW => ⟨rfl, by rw [hU]; exact hP, C.2.2.2.2.2.1.warm hW⟩⟩ rfl hn hl.1 hst (rm_sum hrm) hd ⟨C.2.2.2.2.2.2.2.1, C.2.2.2.2.2.2.2.2⟩) kk
theorem G_callSN (C : Cx γ κ own cc nL d z) {y : MethodName} {host : String} {bytes : ByteArray} {mL dc idx n : Nat} {ret : Option FieldType} {As rest st0 : List Value} {post : Option Value → Mem → Prop}
    (hM : Ct γ.2.1 κ y bytes mL ret dc As M post) (hY : Yw y bytes mL ret n) (hs : Cond.static y ∈ gw) (hlk : (own, idx, y, host) ∈ nestW) (hdc : dc + 1 ≤ d) (hn : As.length = n)
    (hst : st0 = As.reverse ++ rest) (hrm : (rest.map fun v => v.category).sum ≤ 8) (hd : decode cc pc = .ok (.invokestatic idx, 3))
    (kk : ∀ v M', post v M' → G γ κ nL z Q (pc + 3) lv (v.toList ++ rest) M') : G γ κ nL z Q pc lv st0 M := fun H locs ls hP hS hl => by
  exact G_run hS hl (va_runSN (As := As) (rest := rest) (n := n) (Ts := gw) (own := own) ⟨C.1, C.2.1, C.2.2.1, C.2.2.2.1, C.2.2.2.2.1⟩ hM
    ⟨va_cnB n C.2.2.2.2.1 (Yw_good hY.1) rfl rfl rfl (C.2.2.2.2.2.1.2 _ hlk) (C.2.2.2.2.1 _ hY.2.1) hY.2.2.1 (rm_fit C.2.2.2.2.2.2.1 hdc hY.2.2.2), C.2.2.2.2.1 _ hs, trivial⟩
    ⟨pc_blind, fun U hU hW => ⟨rfl, by rw [hU]; exact hP, C.2.2.2.2.2.1.warm hW⟩⟩ rfl hn hl.1 hst (rm_sum hrm) hd ⟨C.2.2.2.2.2.2.2.1, C.2.2.2.2.2.2.2.2⟩) kk
/-! returns -/
theorem G_iret (C : Cx γ κ own cc nL d (0, 0)) (R : Rt γ (some .int)) {v : Int32} {post : Option Value → Mem → Prop} (hd : decode cc pc = .ok (.ireturn, 1)) (hp : post (some (.int v)) M) : G γ κ nL (0, 0) (Gq γ κ post) pc lv [.int v] M := fun H locs ls hP hS hl =>
  W.iret (hlocks := R.2) C.1 C.2.1 R.1 (fun t ht hW => ⟨⟨_, M, rfl, hp, by rw [ht]; exact hP⟩, hS.F ht⟩) hS.2.2 hd
theorem G_zret (C : Cx γ κ own cc nL d (0, 0)) (R : Rt γ (some .boolean)) {v : Int32} {post : Option Value → Mem → Prop} (hn : narrow .boolean (.int v) = .int v) (hd : decode cc pc = .ok (.ireturn, 1)) (hp : post (some (.int v)) M) : G γ κ nL (0, 0) (Gq γ κ post) pc lv [.int v] M := fun H locs ls hP hS hl =>
  W.zret (hlocks := R.2) C.1 C.2.1 R.1 hn (fun t ht hW => ⟨⟨_, M, rfl, hp, by rw [ht]; exact hP⟩, hS.F ht⟩) hS.2.2 hd
theorem G_lret (C : Cx γ κ own cc nL d (0, 0)) (R : Rt γ (some .long)) {v : Int64} {post : Option Value → Mem → Prop} (hd : decode cc pc = .ok (.lreturn, 1)) (hp : post (some (.long v)) M) : G γ κ nL (0, 0) (Gq γ κ post) pc lv [.long v] M := fun H locs ls hP hS hl =>
  W.lret (hlocks := R.2) C.1 C.2.1 R.1 (fun t ht hW => ⟨⟨_, M, rfl, hp, by rw [ht]; exact hP⟩, hS.F ht⟩) hS.2.2 hd
theorem G_vret (C : Cx γ κ own cc nL d (0, 0)) (R : Rt γ none) {post : Option Value → Mem → Prop} (hd : decode cc pc = .ok (.return_, 1)) (hp : post none M) : G γ κ nL (0, 0) (Gq γ κ post) pc lv [] M := fun H locs ls hP hS hl =>
  W.vret (hlocks := R.2) C.1 C.2.1 R.1 (fun t ht hW => ⟨⟨_, M, rfl, hp, by rw [ht]; exact hP⟩, hS.F ht⟩) hS.2.2 hd
theorem G_aret (C : Cx γ κ own cc nL d (0, 0)) {cn : String} (R : Rt γ (some (.object cn))) {r : Option Nat} {post : Option Value → Mem → Prop} (hd : decode cc pc = .ok (.areturn, 1)) (hp : post (some (fv κ r)) M) : G γ κ nL (0, 0) (Gq γ κ post) pc lv [fv κ r] M := fun H locs ls hP hS hl =>
  W.aret (hlocks := R.2) C.1 C.2.1 R.1 (Or.inl ⟨_, rfl⟩) (by cases r; exact Or.inl rfl; exact Or.inr ⟨_, rfl⟩) (fun t ht hW => ⟨⟨_, M, rfl, hp, by rw [ht]; exact hP⟩, hS.F ht⟩) hS.2.2 hd
/-! what the answers are -/
def pI (p : Int32 → Mem → Prop) : Option Value → Mem → Prop := fun v M => ∃ r, v = some (.int r) ∧ p r M
def pJ (p : Int64 → Mem → Prop) : Option Value → Mem → Prop := fun v M => ∃ r, v = some (.long r) ∧ p r M
def pV (p : Mem → Prop) : Option Value → Mem → Prop := fun v M => v = none ∧ p M
def pF (κ : Kp) (p : Option Nat → Mem → Prop) : Option Value → Mem → Prop := fun v M => ∃ r, v = some (fv κ r) ∧ p r M

end GR
end

section
-- ===== PART A: goes FIRST, ahead of the names: the tables' words, and 'selects' of the private methods out of them =====
/-- a private method of a class that the tables say can be made, by its rows of tables_1 -/
def lw_okq (q : MethodName × Nat) : Prop := (q.1.cls ≠ "java/lang/invoke/MethodHandle" ∧ q.1.cls ≠ "java/lang/invoke/VarHandle") ∧ Cond.instantiable q.1.cls q.2 ∈ tables_1 ∧ Cond.privateMethod q.1 ∈ tables_1 ∧ Cond.instanceMethod q.1 ∈ tables_1
theorem lw_p0 : lw_okq (⟨"NetForms", "formAt", "(I)LNetForms$Form;"⟩, 7) := ⟨⟨by decide +kernel, by decide +kernel⟩, List.mem_of_getElem? (i := 12) (by decide +kernel), List.mem_of_getElem? (i := 258) (by decide +kernel), List.mem_of_getElem? (i := 259) (by decide +kernel)⟩
theorem lw_p1 : lw_okq (⟨"NetForms", "makeSlope", "(LNetForms$Form;)V"⟩, 7) := ⟨⟨by decide +kernel, by decide +kernel⟩, List.mem_of_getElem? (i := 12) (by decide +kernel), List.mem_of_getElem? (i := 279) (by decide +kernel), List.mem_of_getElem? (i := 280) (by decide +kernel)⟩
theorem lw_p2 : lw_okq (⟨"NetForms", "giveMade", "(LNetForms$Form;I)I"⟩, 7) := ⟨⟨by decide +kernel, by decide +kernel⟩, List.mem_of_getElem? (i := 12) (by decide +kernel), List.mem_of_getElem? (i := 288) (by decide +kernel), List.mem_of_getElem? (i := 289) (by decide +kernel)⟩
theorem lw_p3 : lw_okq (⟨"NetForms", "makeRim", "(LNetForms$Form;)V"⟩, 7) := ⟨⟨by decide +kernel, by decide +kernel⟩, List.mem_of_getElem? (i := 12) (by decide +kernel), List.mem_of_getElem? (i := 296) (by decide +kernel), List.mem_of_getElem? (i := 297) (by decide +kernel)⟩
theorem lw_p4 : lw_okq (⟨"NetForms", "hasNoSlope", "(LNetForms$Form;)Z"⟩, 7) := ⟨⟨by decide +kernel, by decide +kernel⟩, List.mem_of_getElem? (i := 12) (by decide +kernel), List.mem_of_getElem? (i := 326) (by decide +kernel), List.mem_of_getElem? (i := 327) (by decide +kernel)⟩
theorem lw_p5 : lw_okq (⟨"NetForms", "isMadeZero", "(I)Z"⟩, 7) := ⟨⟨by decide +kernel, by decide +kernel⟩, List.mem_of_getElem? (i := 12) (by decide +kernel), List.mem_of_getElem? (i := 330) (by decide +kernel), List.mem_of_getElem? (i := 331) (by decide +kernel)⟩
theorem lw_p6 : lw_okq (⟨"NetForms", "hasNoRim", "(LNetForms$Form;)Z"⟩, 7) := ⟨⟨by decide +kernel, by decide +kernel⟩, List.mem_of_getElem? (i := 12) (by decide +kernel), List.mem_of_getElem? (i := 334) (by decide +kernel), List.mem_of_getElem? (i := 335) (by decide +kernel)⟩
theorem lw_p7 : lw_okq (⟨"NetForms", "countTurns", "()I"⟩, 7) := ⟨⟨by decide +kernel, by decide +kernel⟩, List.mem_of_getElem? (i := 12) (by decide +kernel), List.mem_of_getElem? (i := 346) (by decide +kernel), List.mem_of_getElem? (i := 347) (by decide +kernel)⟩
theorem lw_p8 : lw_okq (⟨"NetForms", "addPlateProducts", "()V"⟩, 7) := ⟨⟨by decide +kernel, by decide +kernel⟩, List.mem_of_getElem? (i := 12) (by decide +kernel), List.mem_of_getElem? (i := 356) (by decide +kernel), List.mem_of_getElem? (i := 357) (by decide +kernel)⟩
theorem lw_p9 : lw_okq (⟨"NetForms$Balance", "clear", "(IIJ)V"⟩, 5) := ⟨⟨by decide +kernel, by decide +kernel⟩, List.mem_of_getElem? (i := 106) (by decide +kernel), List.mem_of_getElem? (i := 368) (by decide +kernel), List.mem_of_getElem? (i := 369) (by decide +kernel)⟩
theorem lw_p10 : lw_okq (⟨"NetForms$Climb", "join", "(IIJ)V"⟩, 2) := ⟨⟨by decide +kernel, by decide +kernel⟩, List.mem_of_getElem? (i := 132) (by decide +kernel), List.mem_of_getElem? (i := 383) (by decide +kernel), List.mem_of_getElem? (i := 384) (by decide +kernel)⟩
theorem lw_p11 : lw_okq (⟨"NetForms", "slopePart", "(LNetForms$Form;I)J"⟩, 7) := ⟨⟨by decide +kernel, by decide +kernel⟩, List.mem_of_getElem? (i := 12) (by decide +kernel), List.mem_of_getElem? (i := 397) (by decide +kernel), List.mem_of_getElem? (i := 398) (by decide +kernel)⟩
theorem lw_p12 : lw_okq (⟨"NetForms", "turnPart", "(LNetForms$Form;I)J"⟩, 7) := ⟨⟨by decide +kernel, by decide +kernel⟩, List.mem_of_getElem? (i := 12) (by decide +kernel), List.mem_of_getElem? (i := 420) (by decide +kernel), List.mem_of_getElem? (i := 421) (by decide +kernel)⟩
theorem lw_p13 : lw_okq (⟨"NetForms", "stillPart", "(LNetForms$Form;II)J"⟩, 7) := ⟨⟨by decide +kernel, by decide +kernel⟩, List.mem_of_getElem? (i := 12) (by decide +kernel), List.mem_of_getElem? (i := 424) (by decide +kernel), List.mem_of_getElem? (i := 425) (by decide +kernel)⟩
theorem lw_p14 : lw_okq (⟨"NetForms$Walls", "isWalled", "(LNetForms$Net;I)Z"⟩, 2) := ⟨⟨by decide +kernel, by decide +kernel⟩, List.mem_of_getElem? (i := 70) (by decide +kernel), List.mem_of_getElem? (i := 445) (by decide +kernel), List.mem_of_getElem? (i := 446) (by decide +kernel)⟩
theorem lw_p15 : lw_okq (⟨"NetForms", "balanceField", "()V"⟩, 7) := ⟨⟨by decide +kernel, by decide +kernel⟩, List.mem_of_getElem? (i := 12) (by decide +kernel), List.mem_of_getElem? (i := 453) (by decide +kernel), List.mem_of_getElem? (i := 454) (by decide +kernel)⟩
def lw_privs_1 : List (MethodName × Nat) := [(⟨"NetForms", "formAt", "(I)LNetForms$Form;"⟩, 7), (⟨"NetForms", "makeSlope", "(LNetForms$Form;)V"⟩, 7), (⟨"NetForms", "giveMade", "(LNetForms$Form;I)I"⟩, 7), (⟨"NetForms", "makeRim", "(LNetForms$Form;)V"⟩, 7), (⟨"NetForms", "hasNoSlope", "(LNetForms$Form;)Z"⟩, 7), (⟨"NetForms", "isMadeZero", "(I)Z"⟩, 7), (⟨"NetForms", "hasNoRim", "(LNetForms$Form;)Z"⟩, 7), (⟨"NetForms", "countTurns", "()I"⟩, 7), (⟨"NetForms", "addPlateProducts", "()V"⟩, 7), (⟨"NetForms$Balance", "clear", "(IIJ)V"⟩, 5), (⟨"NetForms$Climb", "join", "(IIJ)V"⟩, 2), (⟨"NetForms", "slopePart", "(LNetForms$Form;I)J"⟩, 7), (⟨"NetForms", "turnPart", "(LNetForms$Form;I)J"⟩, 7), (⟨"NetForms", "stillPart", "(LNetForms$Form;II)J"⟩, 7), (⟨"NetForms$Walls", "isWalled", "(LNetForms$Net;I)Z"⟩, 2), (⟨"NetForms", "balanceField", "()V"⟩, 7)]
theorem lw_r1 : ∀ q ∈ lw_privs_1, lw_okq q := List.forall_mem_cons.mpr ⟨lw_p0, List.forall_mem_cons.mpr ⟨lw_p1, List.forall_mem_cons.mpr ⟨lw_p2, List.forall_mem_cons.mpr ⟨lw_p3, List.forall_mem_cons.mpr ⟨lw_p4, List.forall_mem_cons.mpr ⟨lw_p5, List.forall_mem_cons.mpr ⟨lw_p6, List.forall_mem_cons.mpr ⟨lw_p7, List.forall_mem_cons.mpr ⟨lw_p8, List.forall_mem_cons.mpr ⟨lw_p9, List.forall_mem_cons.mpr ⟨lw_p10, List.forall_mem_cons.mpr ⟨lw_p11, List.forall_mem_cons.mpr ⟨lw_p12, List.forall_mem_cons.mpr ⟨lw_p13, List.forall_mem_cons.mpr ⟨lw_p14, List.forall_mem_cons.mpr ⟨lw_p15, fun _ h => absurd h List.not_mem_nil⟩⟩⟩⟩⟩⟩⟩⟩⟩⟩⟩⟩⟩⟩⟩⟩
theorem lw_p16 : lw_okq (⟨"NetForms", "balanceAt", "(II)V"⟩, 7) := ⟨⟨by decide +kernel, by decide +kernel⟩, List.mem_of_getElem? (i := 12) (by decide +kernel), List.mem_of_getElem? (i := 457) (by decide +kernel), List.mem_of_getElem? (i := 458) (by decide +kernel)⟩
theorem lw_p17 : lw_okq (⟨"NetForms", "foldCorners", "(JI)J"⟩, 7) := ⟨⟨by decide +kernel, by decide +kernel⟩, List.mem_of_getElem? (i := 12) (by decide +kernel), List.mem_of_getElem? (i := 504) (by decide +kernel), List.mem_of_getElem? (i := 505) (by decide +kernel)⟩
theorem lw_p18 : lw_okq (⟨"NetForms", "foldForms", "(J)J"⟩, 7) := ⟨⟨by decide +kernel, by decide +kernel⟩, List.mem_of_getElem? (i := 12) (by decide +kernel), List.mem_of_getElem? (i := 508) (by decide +kernel), List.mem_of_getElem? (i := 509) (by decide +kernel)⟩
theorem lw_p19 : lw_okq (⟨"NetForms", "foldWalls", "(J)J"⟩, 7) := ⟨⟨by decide +kernel, by decide +kernel⟩, List.mem_of_getElem? (i := 12) (by decide +kernel), List.mem_of_getElem? (i := 512) (by decide +kernel), List.mem_of_getElem? (i := 513) (by decide +kernel)⟩
theorem lw_p20 : lw_okq (⟨"NetFormsModel", "clears", "(II)V"⟩, 26) := ⟨⟨by decide +kernel, by decide +kernel⟩, List.mem_of_getElem? (i := 516) (by decide +kernel), List.mem_of_getElem? (i := 609) (by decide +kernel), List.mem_of_getElem? (i := 610) (by decide +kernel)⟩
theorem lw_p21 : lw_okq (⟨"NetFormsModel", "isPoint", "(I)Z"⟩, 26) := ⟨⟨by decide +kernel, by decide +kernel⟩, List.mem_of_getElem? (i := 516) (by decide +kernel), List.mem_of_getElem? (i := 617) (by decide +kernel), List.mem_of_getElem? (i := 618) (by decide +kernel)⟩
theorem lw_p22 : lw_okq (⟨"NetFormsModel", "edgeOf", "(II)I"⟩, 26) := ⟨⟨by decide +kernel, by decide +kernel⟩, List.mem_of_getElem? (i := 516) (by decide +kernel), List.mem_of_getElem? (i := 621) (by decide +kernel), List.mem_of_getElem? (i := 622) (by decide +kernel)⟩
theorem lw_p23 : lw_okq (⟨"NetFormsModel", "isThere", "(II)Z"⟩, 26) := ⟨⟨by decide +kernel, by decide +kernel⟩, List.mem_of_getElem? (i := 516) (by decide +kernel), List.mem_of_getElem? (i := 646) (by decide +kernel), List.mem_of_getElem? (i := 647) (by decide +kernel)⟩
theorem lw_p24 : lw_okq (⟨"NetFormsModel", "size", "(I)I"⟩, 26) := ⟨⟨by decide +kernel, by decide +kernel⟩, List.mem_of_getElem? (i := 516) (by decide +kernel), List.mem_of_getElem? (i := 650) (by decide +kernel), List.mem_of_getElem? (i := 651) (by decide +kernel)⟩
theorem lw_p25 : lw_okq (⟨"NetFormsModel", "makeSlope", "(I)V"⟩, 26) := ⟨⟨by decide +kernel, by decide +kernel⟩, List.mem_of_getElem? (i := 516) (by decide +kernel), List.mem_of_getElem? (i := 665) (by decide +kernel), List.mem_of_getElem? (i := 666) (by decide +kernel)⟩
theorem lw_p26 : lw_okq (⟨"NetFormsModel", "at", "(II)J"⟩, 26) := ⟨⟨by decide +kernel, by decide +kernel⟩, List.mem_of_getElem? (i := 516) (by decide +kernel), List.mem_of_getElem? (i := 669) (by decide +kernel), List.mem_of_getElem? (i := 670) (by decide +kernel)⟩
theorem lw_p27 : lw_okq (⟨"NetFormsModel", "onEdge", "(III)J"⟩, 26) := ⟨⟨by decide +kernel, by decide +kernel⟩, List.mem_of_getElem? (i := 516) (by decide +kernel), List.mem_of_getElem? (i := 673) (by decide +kernel), List.mem_of_getElem? (i := 674) (by decide +kernel)⟩
theorem lw_p28 : lw_okq (⟨"NetFormsModel", "becomes", "(II)I"⟩, 26) := ⟨⟨by decide +kernel, by decide +kernel⟩, List.mem_of_getElem? (i := 516) (by decide +kernel), List.mem_of_getElem? (i := 677) (by decide +kernel), List.mem_of_getElem? (i := 678) (by decide +kernel)⟩
theorem lw_p29 : lw_okq (⟨"NetFormsModel", "makeRim", "(I)V"⟩, 26) := ⟨⟨by decide +kernel, by decide +kernel⟩, List.mem_of_getElem? (i := 516) (by decide +kernel), List.mem_of_getElem? (i := 685) (by decide +kernel), List.mem_of_getElem? (i := 686) (by decide +kernel)⟩
theorem lw_p30 : lw_okq (⟨"NetFormsModel", "cupAt", "(III)J"⟩, 26) := ⟨⟨by decide +kernel, by decide +kernel⟩, List.mem_of_getElem? (i := 516) (by decide +kernel), List.mem_of_getElem? (i := 693) (by decide +kernel), List.mem_of_getElem? (i := 694) (by decide +kernel)⟩
theorem lw_p31 : lw_okq (⟨"NetFormsModel", "isNought", "(I)Z"⟩, 26) := ⟨⟨by decide +kernel, by decide +kernel⟩, List.mem_of_getElem? (i := 516) (by decide +kernel), List.mem_of_getElem? (i := 708) (by decide +kernel), List.mem_of_getElem? (i := 709) (by decide +kernel)⟩
def lw_privs_2 : List (MethodName × Nat) := [(⟨"NetForms", "balanceAt", "(II)V"⟩, 7), (⟨"NetForms", "foldCorners", "(JI)J"⟩, 7), (⟨"NetForms", "foldForms", "(J)J"⟩, 7), (⟨"NetForms", "foldWalls", "(J)J"⟩, 7), (⟨"NetFormsModel", "clears", "(II)V"⟩, 26), (⟨"NetFormsModel", "isPoint", "(I)Z"⟩, 26), (⟨"NetFormsModel", "edgeOf", "(II)I"⟩, 26), (⟨"NetFormsModel", "isThere", "(II)Z"⟩, 26), (⟨"NetFormsModel", "size", "(I)I"⟩, 26), (⟨"NetFormsModel", "makeSlope", "(I)V"⟩, 26), (⟨"NetFormsModel", "at", "(II)J"⟩, 26), (⟨"NetFormsModel", "onEdge", "(III)J"⟩, 26), (⟨"NetFormsModel", "becomes", "(II)I"⟩, 26), (⟨"NetFormsModel", "makeRim", "(I)V"⟩, 26), (⟨"NetFormsModel", "cupAt", "(III)J"⟩, 26), (⟨"NetFormsModel", "isNought", "(I)Z"⟩, 26)]
theorem lw_r2 : ∀ q ∈ lw_privs_2, lw_okq q := List.forall_mem_cons.mpr ⟨lw_p16, List.forall_mem_cons.mpr ⟨lw_p17, List.forall_mem_cons.mpr ⟨lw_p18, List.forall_mem_cons.mpr ⟨lw_p19, List.forall_mem_cons.mpr ⟨lw_p20, List.forall_mem_cons.mpr ⟨lw_p21, List.forall_mem_cons.mpr ⟨lw_p22, List.forall_mem_cons.mpr ⟨lw_p23, List.forall_mem_cons.mpr ⟨lw_p24, List.forall_mem_cons.mpr ⟨lw_p25, List.forall_mem_cons.mpr ⟨lw_p26, List.forall_mem_cons.mpr ⟨lw_p27, List.forall_mem_cons.mpr ⟨lw_p28, List.forall_mem_cons.mpr ⟨lw_p29, List.forall_mem_cons.mpr ⟨lw_p30, List.forall_mem_cons.mpr ⟨lw_p31, fun _ h => absurd h List.not_mem_nil⟩⟩⟩⟩⟩⟩⟩⟩⟩⟩⟩⟩⟩⟩⟩⟩
theorem lw_p32 : lw_okq (⟨"NetFormsModel", "parts", "()I"⟩, 26) := ⟨⟨by decide +kernel, by decide +kernel⟩, List.mem_of_getElem? (i := 516) (by decide +kernel), List.mem_of_getElem? (i := 716) (by decide +kernel), List.mem_of_getElem? (i := 717) (by decide +kernel)⟩
theorem lw_p33 : lw_okq (⟨"NetFormsModel", "joins", "(II)V"⟩, 26) := ⟨⟨by decide +kernel, by decide +kernel⟩, List.mem_of_getElem? (i := 516) (by decide +kernel), List.mem_of_getElem? (i := 720) (by decide +kernel), List.mem_of_getElem? (i := 721) (by decide +kernel)⟩
theorem lw_p34 : lw_okq (⟨"NetFormsModel", "slopeRank", "()I"⟩, 26) := ⟨⟨by decide +kernel, by decide +kernel⟩, List.mem_of_getElem? (i := 516) (by decide +kernel), List.mem_of_getElem? (i := 724) (by decide +kernel), List.mem_of_getElem? (i := 725) (by decide +kernel)⟩
theorem lw_p35 : lw_okq (⟨"NetFormsModel", "turnRank", "()I"⟩, 26) := ⟨⟨by decide +kernel, by decide +kernel⟩, List.mem_of_getElem? (i := 516) (by decide +kernel), List.mem_of_getElem? (i := 728) (by decide +kernel), List.mem_of_getElem? (i := 729) (by decide +kernel)⟩
theorem lw_p36 : lw_okq (⟨"NetFormsModel", "empties", "()V"⟩, 26) := ⟨⟨by decide +kernel, by decide +kernel⟩, List.mem_of_getElem? (i := 516) (by decide +kernel), List.mem_of_getElem? (i := 732) (by decide +kernel), List.mem_of_getElem? (i := 733) (by decide +kernel)⟩
theorem lw_p37 : lw_okq (⟨"NetFormsModel", "turns", "(III)I"⟩, 26) := ⟨⟨by decide +kernel, by decide +kernel⟩, List.mem_of_getElem? (i := 516) (by decide +kernel), List.mem_of_getElem? (i := 737) (by decide +kernel), List.mem_of_getElem? (i := 738) (by decide +kernel)⟩
theorem lw_p38 : lw_okq (⟨"NetFormsModel", "turn", "(IIII)V"⟩, 26) := ⟨⟨by decide +kernel, by decide +kernel⟩, List.mem_of_getElem? (i := 516) (by decide +kernel), List.mem_of_getElem? (i := 741) (by decide +kernel), List.mem_of_getElem? (i := 742) (by decide +kernel)⟩
theorem lw_p39 : lw_okq (⟨"NetFormsModel", "splits", "(I)V"⟩, 26) := ⟨⟨by decide +kernel, by decide +kernel⟩, List.mem_of_getElem? (i := 516) (by decide +kernel), List.mem_of_getElem? (i := 754) (by decide +kernel), List.mem_of_getElem? (i := 755) (by decide +kernel)⟩
theorem lw_p40 : lw_okq (⟨"NetFormsModel", "solves", "(I)V"⟩, 26) := ⟨⟨by decide +kernel, by decide +kernel⟩, List.mem_of_getElem? (i := 516) (by decide +kernel), List.mem_of_getElem? (i := 758) (by decide +kernel), List.mem_of_getElem? (i := 759) (by decide +kernel)⟩
theorem lw_p41 : lw_okq (⟨"NetFormsModel", "sideOf", "(II)J"⟩, 26) := ⟨⟨by decide +kernel, by decide +kernel⟩, List.mem_of_getElem? (i := 516) (by decide +kernel), List.mem_of_getElem? (i := 762) (by decide +kernel), List.mem_of_getElem? (i := 763) (by decide +kernel)⟩
theorem lw_p42 : lw_okq (⟨"NetFormsModel", "forbids", "()I"⟩, 26) := ⟨⟨by decide +kernel, by decide +kernel⟩, List.mem_of_getElem? (i := 516) (by decide +kernel), List.mem_of_getElem? (i := 785) (by decide +kernel), List.mem_of_getElem? (i := 786) (by decide +kernel)⟩
theorem lw_p43 : lw_okq (⟨"NetFormsModel", "flows", "(J)V"⟩, 26) := ⟨⟨by decide +kernel, by decide +kernel⟩, List.mem_of_getElem? (i := 516) (by decide +kernel), List.mem_of_getElem? (i := 799) (by decide +kernel), List.mem_of_getElem? (i := 800) (by decide +kernel)⟩
theorem lw_p44 : lw_okq (⟨"NetFormsModel", "rises", "(J)V"⟩, 26) := ⟨⟨by decide +kernel, by decide +kernel⟩, List.mem_of_getElem? (i := 516) (by decide +kernel), List.mem_of_getElem? (i := 803) (by decide +kernel), List.mem_of_getElem? (i := 804) (by decide +kernel)⟩
def lw_privs_3 : List (MethodName × Nat) := [(⟨"NetFormsModel", "parts", "()I"⟩, 26), (⟨"NetFormsModel", "joins", "(II)V"⟩, 26), (⟨"NetFormsModel", "slopeRank", "()I"⟩, 26), (⟨"NetFormsModel", "turnRank", "()I"⟩, 26), (⟨"NetFormsModel", "empties", "()V"⟩, 26), (⟨"NetFormsModel", "turns", "(III)I"⟩, 26), (⟨"NetFormsModel", "turn", "(IIII)V"⟩, 26), (⟨"NetFormsModel", "splits", "(I)V"⟩, 26), (⟨"NetFormsModel", "solves", "(I)V"⟩, 26), (⟨"NetFormsModel", "sideOf", "(II)J"⟩, 26), (⟨"NetFormsModel", "forbids", "()I"⟩, 26), (⟨"NetFormsModel", "flows", "(J)V"⟩, 26), (⟨"NetFormsModel", "rises", "(J)V"⟩, 26)]
theorem lw_r3 : ∀ q ∈ lw_privs_3, lw_okq q := List.forall_mem_cons.mpr ⟨lw_p32, List.forall_mem_cons.mpr ⟨lw_p33, List.forall_mem_cons.mpr ⟨lw_p34, List.forall_mem_cons.mpr ⟨lw_p35, List.forall_mem_cons.mpr ⟨lw_p36, List.forall_mem_cons.mpr ⟨lw_p37, List.forall_mem_cons.mpr ⟨lw_p38, List.forall_mem_cons.mpr ⟨lw_p39, List.forall_mem_cons.mpr ⟨lw_p40, List.forall_mem_cons.mpr ⟨lw_p41, List.forall_mem_cons.mpr ⟨lw_p42, List.forall_mem_cons.mpr ⟨lw_p43, List.forall_mem_cons.mpr ⟨lw_p44, fun _ h => absurd h List.not_mem_nil⟩⟩⟩⟩⟩⟩⟩⟩⟩⟩⟩⟩⟩
def lw_privs : List (MethodName × Nat) := lw_privs_1 ++ (lw_privs_2 ++ (lw_privs_3))
def lw_tbl : List Cond := k2_sels lw_privs ++ tables_1
theorem lw_privs_ok : ∀ q ∈ lw_privs, lw_okq q := by
  show ∀ q ∈ lw_privs_1 ++ (lw_privs_2 ++ (lw_privs_3)), lw_okq q
  exact List.forall_mem_append.mpr ⟨lw_r1, List.forall_mem_append.mpr ⟨lw_r2, lw_r3⟩⟩
end
section
/-! names: classes, fields, methods; the good words, by their places (printed by program) -/
def R_Bal : String := "NetForms$Balance"
def T_Bal : u_T := fun k => match k with
  | 0 => ("NetForms$Balance", "size", "I", false)
  | 1 => ("NetForms$Balance", "table", "[[J", true)
  | 2 => ("NetForms$Balance", "dues", "[J", true)
  | 3 => ("NetForms$Balance", "rank", "I", false)
  | _ => ("NetForms$Balance", "below", "J", false)
def ty_Bal : Nat → FieldType := fun k => match k with
  | 0 => .int
  | 1 => (.array (.array .long))
  | 2 => (.array .long)
  | 3 => .int
  | _ => .long
theorem nm_Bal : ∀ a, a < 5 → ∀ b, b < 5 → a ≠ b → (T_Bal a).2.1 ≠ (T_Bal b).2.1 := by decide +kernel
theorem tk_Bal : ∀ k, k < 5 → parseFieldDescriptor (T_Bal k).2.2.1 = some (ty_Bal k) := by decide +kernel
def R_Cli : String := "NetForms$Climb"
def T_Cli : u_T := fun k => match k with
  | 0 => ("NetForms$Climb", "climbed", "[J", true)
  | _ => ("NetForms$Climb", "leasts", "[I", true)
def ty_Cli : Nat → FieldType := fun k => match k with
  | 0 => (.array .long)
  | _ => (.array .int)
theorem nm_Cli : ∀ a, a < 2 → ∀ b, b < 2 → a ≠ b → (T_Cli a).2.1 ≠ (T_Cli b).2.1 := by decide +kernel
theorem tk_Cli : ∀ k, k < 2 → parseFieldDescriptor (T_Cli k).2.2.1 = some (ty_Cli k) := by decide +kernel
def R_Frm : String := "NetForms$Form"
def T_Frm : u_T := fun k => match k with
  | 0 => ("NetForms$Form", "degree", "I", false)
  | _ => ("NetForms$Form", "numbers", "[I", true)
def ty_Frm : Nat → FieldType := fun k => match k with
  | 0 => .int
  | _ => (.array .int)
theorem nm_Frm : ∀ a, a < 2 → ∀ b, b < 2 → a ≠ b → (T_Frm a).2.1 ≠ (T_Frm b).2.1 := by decide +kernel
theorem tk_Frm : ∀ k, k < 2 → parseFieldDescriptor (T_Frm k).2.2.1 = some (ty_Frm k) := by decide +kernel
def R_Net : String := "NetForms$Net"
def T_Net : u_T := fun k => match k with
  | 0 => ("NetForms$Net", "points", "I", false)
  | 1 => ("NetForms$Net", "edges", "I", false)
  | 2 => ("NetForms$Net", "plates", "I", false)
  | 3 => ("NetForms$Net", "begins", "[I", true)
  | 4 => ("NetForms$Net", "ends", "[I", true)
  | 5 => ("NetForms$Net", "firsts", "[I", true)
  | 6 => ("NetForms$Net", "seconds", "[I", true)
  | 7 => ("NetForms$Net", "acrosses", "[I", true)
  | _ => ("NetForms$Net", "leasts", "[I", true)
def ty_Net : Nat → FieldType := fun k => match k with
  | 0 => .int
  | 1 => .int
  | 2 => .int
  | 3 => (.array .int)
  | 4 => (.array .int)
  | 5 => (.array .int)
  | 6 => (.array .int)
  | 7 => (.array .int)
  | _ => (.array .int)
theorem nm_Net : ∀ a, a < 9 → ∀ b, b < 9 → a ≠ b → (T_Net a).2.1 ≠ (T_Net b).2.1 := by decide +kernel
theorem tk_Net : ∀ k, k < 9 → parseFieldDescriptor (T_Net k).2.2.1 = some (ty_Net k) := by decide +kernel
def R_Wal : String := "NetForms$Walls"
def T_Wal : u_T := fun k => match k with
  | 0 => ("NetForms$Walls", "there", "[Z", true)
  | _ => ("NetForms$Walls", "numbers", "[I", true)
def ty_Wal : Nat → FieldType := fun k => match k with
  | 0 => (.array .boolean)
  | _ => (.array .int)
theorem nm_Wal : ∀ a, a < 2 → ∀ b, b < 2 → a ≠ b → (T_Wal a).2.1 ≠ (T_Wal b).2.1 := by decide +kernel
theorem tk_Wal : ∀ k, k < 2 → parseFieldDescriptor (T_Wal k).2.2.1 = some (ty_Wal k) := by decide +kernel
def R_Wav : String := "NetForms$Wave"
def T_Wav : u_T := fun k => match k with
  | 0 => ("NetForms$Wave", "steps", "I", false)
  | 1 => ("NetForms$Wave", "levels", "[J", true)
  | _ => ("NetForms$Wave", "flows", "[J", true)
def ty_Wav : Nat → FieldType := fun k => match k with
  | 0 => .int
  | 1 => (.array .long)
  | _ => (.array .long)
theorem nm_Wav : ∀ a, a < 3 → ∀ b, b < 3 → a ≠ b → (T_Wav a).2.1 ≠ (T_Wav b).2.1 := by decide +kernel
theorem tk_Wav : ∀ k, k < 3 → parseFieldDescriptor (T_Wav k).2.2.1 = some (ty_Wav k) := by decide +kernel
def R_Nf : String := "NetForms"
def T_Nf : u_T := fun k => match k with
  | 0 => ("NetForms", "shape", "LNetForms$Net;", true)
  | 1 => ("NetForms", "forms", "[LNetForms$Form;", true)
  | 2 => ("NetForms", "walls", "LNetForms$Walls;", true)
  | 3 => ("NetForms", "motion", "LNetForms$Wave;", true)
  | 4 => ("NetForms", "balance", "LNetForms$Balance;", true)
  | 5 => ("NetForms", "climb", "LNetForms$Climb;", true)
  | _ => ("NetForms", "made", "[J", true)
def ty_Nf : Nat → FieldType := fun k => match k with
  | 0 => (.object "NetForms$Net")
  | 1 => (.array (.object "NetForms$Form"))
  | 2 => (.object "NetForms$Walls")
  | 3 => (.object "NetForms$Wave")
  | 4 => (.object "NetForms$Balance")
  | 5 => (.object "NetForms$Climb")
  | _ => (.array .long)
theorem nm_Nf : ∀ a, a < 7 → ∀ b, b < 7 → a ≠ b → (T_Nf a).2.1 ≠ (T_Nf b).2.1 := by decide +kernel
theorem tk_Nf : ∀ k, k < 7 → parseFieldDescriptor (T_Nf k).2.2.1 = some (ty_Nf k) := by decide +kernel
def R_Mo : String := "NetFormsModel"
def T_Mo : u_T := fun k => match k with
  | 0 => ("NetFormsModel", "points", "I", false)
  | 1 => ("NetFormsModel", "edges", "I", false)
  | 2 => ("NetFormsModel", "faces", "I", false)
  | 3 => ("NetFormsModel", "begin", "[I", true)
  | 4 => ("NetFormsModel", "end", "[I", true)
  | 5 => ("NetFormsModel", "first", "[I", true)
  | 6 => ("NetFormsModel", "second", "[I", true)
  | 7 => ("NetFormsModel", "third", "[I", true)
  | 8 => ("NetFormsModel", "degree", "[I", true)
  | 9 => ("NetFormsModel", "number", "[I", true)
  | 10 => ("NetFormsModel", "isWall", "[Z", true)
  | 11 => ("NetFormsModel", "wall", "[I", true)
  | 12 => ("NetFormsModel", "height", "[J", true)
  | 13 => ("NetFormsModel", "flow", "[J", true)
  | 14 => ("NetFormsModel", "steps", "I", false)
  | 15 => ("NetFormsModel", "made", "[J", true)
  | 16 => ("NetFormsModel", "table", "[J", true)
  | 17 => ("NetFormsModel", "placeOf", "[I", true)
  | 18 => ("NetFormsModel", "shared", "J", false)
  | 19 => ("NetFormsModel", "solved", "[J", true)
  | 20 => ("NetFormsModel", "partOf", "[I", true)
  | 21 => ("NetFormsModel", "raised", "[J", true)
  | 22 => ("NetFormsModel", "slopePart", "[J", true)
  | 23 => ("NetFormsModel", "rimPart", "[J", true)
  | 24 => ("NetFormsModel", "slopeShared", "J", false)
  | _ => ("NetFormsModel", "rimShared", "J", false)
def ty_Mo : Nat → FieldType := fun k => match k with
  | 0 => .int
  | 1 => .int
  | 2 => .int
  | 3 => (.array .int)
  | 4 => (.array .int)
  | 5 => (.array .int)
  | 6 => (.array .int)
  | 7 => (.array .int)
  | 8 => (.array .int)
  | 9 => (.array .int)
  | 10 => (.array .boolean)
  | 11 => (.array .int)
  | 12 => (.array .long)
  | 13 => (.array .long)
  | 14 => .int
  | 15 => (.array .long)
  | 16 => (.array .long)
  | 17 => (.array .int)
  | 18 => .long
  | 19 => (.array .long)
  | 20 => (.array .int)
  | 21 => (.array .long)
  | 22 => (.array .long)
  | 23 => (.array .long)
  | 24 => .long
  | _ => .long
theorem nm_Mo : ∀ a, a < 26 → ∀ b, b < 26 → a ≠ b → (T_Mo a).2.1 ≠ (T_Mo b).2.1 := by decide +kernel
theorem tk_Mo : ∀ k, k < 26 → parseFieldDescriptor (T_Mo k).2.2.1 = some (ty_Mo k) := by decide +kernel
abbrev cls8 : List vw_C := [(R_Bal, T_Bal, 5), (R_Cli, T_Cli, 2), (R_Frm, T_Frm, 2), (R_Net, T_Net, 9), (R_Wal, T_Wal, 2), (R_Wav, T_Wav, 3), (R_Nf, T_Nf, 7), (R_Mo, T_Mo, 26)]
abbrev b_Nf_init : ByteArray := prog_1_method_1_code
def y_Nf_init : MethodName := ⟨"NetForms", "<init>", "()V"⟩
abbrev b_Net_init : ByteArray := prog_5_method_1_code
def y_Net_init : MethodName := ⟨"NetForms$Net", "<init>", "()V"⟩
abbrev b_Wal_init : ByteArray := prog_6_method_1_code
def y_Wal_init : MethodName := ⟨"NetForms$Walls", "<init>", "()V"⟩
abbrev b_Wav_init : ByteArray := prog_7_method_1_code
def y_Wav_init : MethodName := ⟨"NetForms$Wave", "<init>", "()V"⟩
abbrev b_Bal_init : ByteArray := prog_2_method_1_code
def y_Bal_init : MethodName := ⟨"NetForms$Balance", "<init>", "()V"⟩
abbrev b_Cli_init : ByteArray := prog_3_method_1_code
def y_Cli_init : MethodName := ⟨"NetForms$Climb", "<init>", "()V"⟩
abbrev b_Frm_init : ByteArray := prog_4_method_1_code
def y_Frm_init : MethodName := ⟨"NetForms$Form", "<init>", "()V"⟩
abbrev b_Net_begin : ByteArray := prog_5_method_2_code
def y_Net_begin : MethodName := ⟨"NetForms$Net", "begin", "(I)V"⟩
abbrev b_Nf_net : ByteArray := prog_1_method_2_code
def y_Nf_net : MethodName := ⟨"NetForms", "net", "(I)I"⟩
abbrev b_Frm_begin : ByteArray := prog_4_method_2_code
def y_Frm_begin : MethodName := ⟨"NetForms$Form", "begin", "(I)V"⟩
abbrev b_Arr_fill_IIV : ByteArray := prog_11_method_103_code
def y_Arr_fill_IIV : MethodName := ⟨"java/util/Arrays", "fill", "([II)V"⟩
abbrev b_Wal_begin : ByteArray := prog_6_method_2_code
def y_Wal_begin : MethodName := ⟨"NetForms$Walls", "begin", "()V"⟩
abbrev b_Wav_begin : ByteArray := prog_7_method_2_code
def y_Wav_begin : MethodName := ⟨"NetForms$Wave", "begin", "()V"⟩
abbrev b_Arr_fill_JJV : ByteArray := prog_11_method_101_code
def y_Arr_fill_JJV : MethodName := ⟨"java/util/Arrays", "fill", "([JJ)V"⟩
abbrev b_Nf_edge : ByteArray := prog_1_method_3_code
def y_Nf_edge : MethodName := ⟨"NetForms", "edge", "(II)I"⟩
abbrev b_Net_has : ByteArray := prog_5_method_4_code
def y_Net_has : MethodName := ⟨"NetForms$Net", "has", "(II)Z"⟩
abbrev b_Net_size : ByteArray := prog_5_method_3_code
def y_Net_size : MethodName := ⟨"NetForms$Net", "size", "(I)I"⟩
abbrev b_Net_edgeBetween : ByteArray := prog_5_method_5_code
def y_Net_edgeBetween : MethodName := ⟨"NetForms$Net", "edgeBetween", "(II)I"⟩
abbrev b_Net_addEdge : ByteArray := prog_5_method_7_code
def y_Net_addEdge : MethodName := ⟨"NetForms$Net", "addEdge", "(II)I"⟩
abbrev b_Mat_min : ByteArray := prog_10_method_69_code
def y_Mat_min : MethodName := ⟨"java/lang/Math", "min", "(II)I"⟩
abbrev b_Mat_max : ByteArray := prog_10_method_65_code
def y_Mat_max : MethodName := ⟨"java/lang/Math", "max", "(II)I"⟩
abbrev b_Nf_face : ByteArray := prog_1_method_4_code
def y_Nf_face : MethodName := ⟨"NetForms", "face", "(III)I"⟩
abbrev b_Net_hasPlateOf : ByteArray := prog_5_method_6_code
def y_Net_hasPlateOf : MethodName := ⟨"NetForms$Net", "hasPlateOf", "(II)Z"⟩
abbrev b_Net_addPlate : ByteArray := prog_5_method_8_code
def y_Net_addPlate : MethodName := ⟨"NetForms$Net", "addPlate", "(III)I"⟩
abbrev b_Nf_corner : ByteArray := prog_1_method_5_code
def y_Nf_corner : MethodName := ⟨"NetForms", "corner", "(III)I"⟩
abbrev b_Net_pointOf : ByteArray := prog_5_method_10_code
def y_Net_pointOf : MethodName := ⟨"NetForms$Net", "pointOf", "(III)I"⟩
abbrev b_Nf_form : ByteArray := prog_1_method_6_code
def y_Nf_form : MethodName := ⟨"NetForms", "form", "(II)I"⟩
abbrev b_Nf_formAt : ByteArray := prog_1_method_28_code
def y_Nf_formAt : MethodName := ⟨"NetForms", "formAt", "(I)LNetForms$Form;"⟩
abbrev b_Nf_set : ByteArray := prog_1_method_7_code
def y_Nf_set : MethodName := ⟨"NetForms", "set", "(III)I"⟩
abbrev b_Nf_isWithin : ByteArray := prog_1_method_29_code
def y_Nf_isWithin : MethodName := ⟨"NetForms", "isWithin", "(JI)Z"⟩
abbrev b_Nf_get : ByteArray := prog_1_method_8_code
def y_Nf_get : MethodName := ⟨"NetForms", "get", "(II)I"⟩
abbrev b_Nf_slope : ByteArray := prog_1_method_9_code
def y_Nf_slope : MethodName := ⟨"NetForms", "slope", "(II)I"⟩
abbrev b_Nf_makeSlope : ByteArray := prog_1_method_30_code
def y_Nf_makeSlope : MethodName := ⟨"NetForms", "makeSlope", "(LNetForms$Form;)V"⟩
abbrev b_Net_signOf : ByteArray := prog_5_method_11_code
def y_Net_signOf : MethodName := ⟨"NetForms$Net", "signOf", "(III)I"⟩
abbrev b_Nf_giveMade : ByteArray := prog_1_method_32_code
def y_Nf_giveMade : MethodName := ⟨"NetForms", "giveMade", "(LNetForms$Form;I)I"⟩
abbrev b_Nf_rim : ByteArray := prog_1_method_10_code
def y_Nf_rim : MethodName := ⟨"NetForms", "rim", "(II)I"⟩
abbrev b_Nf_makeRim : ByteArray := prog_1_method_31_code
def y_Nf_makeRim : MethodName := ⟨"NetForms", "makeRim", "(LNetForms$Form;)V"⟩
abbrev b_Nf_cup : ByteArray := prog_1_method_11_code
def y_Nf_cup : MethodName := ⟨"NetForms", "cup", "(III)I"⟩
abbrev b_Net_frontOf : ByteArray := prog_5_method_12_code
def y_Net_frontOf : MethodName := ⟨"NetForms$Net", "frontOf", "(III)I"⟩
abbrev b_Net_backOf : ByteArray := prog_5_method_13_code
def y_Net_backOf : MethodName := ⟨"NetForms$Net", "backOf", "(III)I"⟩
abbrev b_Nf_mix : ByteArray := prog_1_method_12_code
def y_Nf_mix : MethodName := ⟨"NetForms", "mix", "(IIIII)I"⟩
abbrev b_Nf_about : ByteArray := prog_1_method_13_code
def y_Nf_about : MethodName := ⟨"NetForms", "about", "(II)I"⟩
abbrev b_Frm_fitsIn : ByteArray := prog_4_method_3_code
def y_Frm_fitsIn : MethodName := ⟨"NetForms$Form", "fitsIn", "(I)Z"⟩
abbrev b_Nf_hasNoSlope : ByteArray := prog_1_method_34_code
def y_Nf_hasNoSlope : MethodName := ⟨"NetForms", "hasNoSlope", "(LNetForms$Form;)Z"⟩
abbrev b_Nf_isMadeZero : ByteArray := prog_1_method_33_code
def y_Nf_isMadeZero : MethodName := ⟨"NetForms", "isMadeZero", "(I)Z"⟩
abbrev b_Nf_hasNoRim : ByteArray := prog_1_method_35_code
def y_Nf_hasNoRim : MethodName := ⟨"NetForms", "hasNoRim", "(LNetForms$Form;)Z"⟩
abbrev b_Nf_holes : ByteArray := prog_1_method_14_code
def y_Nf_holes : MethodName := ⟨"NetForms", "holes", "(I)I"⟩
abbrev b_Net_countParts : ByteArray := prog_5_method_9_code
def y_Net_countParts : MethodName := ⟨"NetForms$Net", "countParts", "()I"⟩
abbrev b_Nf_countTurns : ByteArray := prog_1_method_36_code
def y_Nf_countTurns : MethodName := ⟨"NetForms", "countTurns", "()I"⟩
abbrev b_Bal_begin : ByteArray := prog_2_method_2_code
def y_Bal_begin : MethodName := ⟨"NetForms$Balance", "begin", "(I)V"⟩
abbrev b_Nf_addPlateProducts : ByteArray := prog_1_method_37_code
def y_Nf_addPlateProducts : MethodName := ⟨"NetForms", "addPlateProducts", "()V"⟩
abbrev b_Bal_add : ByteArray := prog_2_method_3_code
def y_Bal_add : MethodName := ⟨"NetForms$Balance", "add", "(IIJ)V"⟩
abbrev b_Bal_solve : ByteArray := prog_2_method_5_code
def y_Bal_solve : MethodName := ⟨"NetForms$Balance", "solve", "()V"⟩
abbrev b_Bal_clear : ByteArray := prog_2_method_6_code
def y_Bal_clear : MethodName := ⟨"NetForms$Balance", "clear", "(IIJ)V"⟩
abbrev b_Nf_quotient : ByteArray := prog_1_method_45_code
def y_Nf_quotient : MethodName := ⟨"NetForms", "quotient", "(JJ)J"⟩
abbrev b_Nf_potential : ByteArray := prog_1_method_15_code
def y_Nf_potential : MethodName := ⟨"NetForms", "potential", "(II)I"⟩
abbrev b_Cli_along : ByteArray := prog_3_method_2_code
def y_Cli_along : MethodName := ⟨"NetForms$Climb", "along", "(LNetForms$Net;LNetForms$Form;)I"⟩
abbrev b_Cli_join : ByteArray := prog_3_method_3_code
def y_Cli_join : MethodName := ⟨"NetForms$Climb", "join", "(IIJ)V"⟩
abbrev b_Cli_aboveLeast : ByteArray := prog_3_method_4_code
def y_Cli_aboveLeast : MethodName := ⟨"NetForms$Climb", "aboveLeast", "(I)J"⟩
abbrev b_Nf_split : ByteArray := prog_1_method_16_code
def y_Nf_split : MethodName := ⟨"NetForms", "split", "(IIII)J"⟩
abbrev b_Nf_slopePart : ByteArray := prog_1_method_38_code
def y_Nf_slopePart : MethodName := ⟨"NetForms", "slopePart", "(LNetForms$Form;I)J"⟩
abbrev b_Bal_addDue : ByteArray := prog_2_method_4_code
def y_Bal_addDue : MethodName := ⟨"NetForms$Balance", "addDue", "(IJ)V"⟩
abbrev b_Bal_above : ByteArray := prog_2_method_7_code
def y_Bal_above : MethodName := ⟨"NetForms$Balance", "above", "(I)J"⟩
abbrev b_Nf_lowestTerms : ByteArray := prog_1_method_43_code
def y_Nf_lowestTerms : MethodName := ⟨"NetForms", "lowestTerms", "(JJI)J"⟩
abbrev b_Nf_sharedDivisor : ByteArray := prog_1_method_44_code
def y_Nf_sharedDivisor : MethodName := ⟨"NetForms", "sharedDivisor", "(JJ)J"⟩
abbrev b_Mat_abs : ByteArray := prog_10_method_61_code
def y_Mat_abs : MethodName := ⟨"java/lang/Math", "abs", "(J)J"⟩
abbrev b_Nf_turnPart : ByteArray := prog_1_method_39_code
def y_Nf_turnPart : MethodName := ⟨"NetForms", "turnPart", "(LNetForms$Form;I)J"⟩
abbrev b_Nf_stillPart : ByteArray := prog_1_method_40_code
def y_Nf_stillPart : MethodName := ⟨"NetForms", "stillPart", "(LNetForms$Form;II)J"⟩
abbrev b_Nf_wall : ByteArray := prog_1_method_17_code
def y_Nf_wall : MethodName := ⟨"NetForms", "wall", "(II)I"⟩
abbrev b_Nf_open : ByteArray := prog_1_method_18_code
def y_Nf_open : MethodName := ⟨"NetForms", "open", "(I)I"⟩
abbrev b_Nf_field : ByteArray := prog_1_method_19_code
def y_Nf_field : MethodName := ⟨"NetForms", "field", "()I"⟩
abbrev b_Wal_leastWithout : ByteArray := prog_6_method_4_code
def y_Wal_leastWithout : MethodName := ⟨"NetForms$Walls", "leastWithout", "(LNetForms$Net;)I"⟩
abbrev b_Wal_isWalled : ByteArray := prog_6_method_5_code
def y_Wal_isWalled : MethodName := ⟨"NetForms$Walls", "isWalled", "(LNetForms$Net;I)Z"⟩
abbrev b_Nf_fieldAt : ByteArray := prog_1_method_20_code
def y_Nf_fieldAt : MethodName := ⟨"NetForms", "fieldAt", "(II)J"⟩
abbrev b_Nf_balanceField : ByteArray := prog_1_method_41_code
def y_Nf_balanceField : MethodName := ⟨"NetForms", "balanceField", "()V"⟩
abbrev b_Nf_balanceAt : ByteArray := prog_1_method_42_code
def y_Nf_balanceAt : MethodName := ⟨"NetForms", "balanceAt", "(II)V"⟩
abbrev b_Nf_wave : ByteArray := prog_1_method_21_code
def y_Nf_wave : MethodName := ⟨"NetForms", "wave", "(I)I"⟩
abbrev b_Wav_stepOn : ByteArray := prog_7_method_3_code
def y_Wav_stepOn : MethodName := ⟨"NetForms$Wave", "stepOn", "(LNetForms$Net;)V"⟩
abbrev b_Wav_stepBack : ByteArray := prog_7_method_4_code
def y_Wav_stepBack : MethodName := ⟨"NetForms$Wave", "stepBack", "(LNetForms$Net;)V"⟩
abbrev b_Nf_raise : ByteArray := prog_1_method_22_code
def y_Nf_raise : MethodName := ⟨"NetForms", "raise", "(I)I"⟩
abbrev b_Nf_height : ByteArray := prog_1_method_23_code
def y_Nf_height : MethodName := ⟨"NetForms", "height", "(I)J"⟩
abbrev b_Nf_flow : ByteArray := prog_1_method_24_code
def y_Nf_flow : MethodName := ⟨"NetForms", "flow", "(I)J"⟩
abbrev b_Nf_sum : ByteArray := prog_1_method_25_code
def y_Nf_sum : MethodName := ⟨"NetForms", "sum", "()J"⟩
abbrev b_Nf_count : ByteArray := prog_1_method_26_code
def y_Nf_count : MethodName := ⟨"NetForms", "count", "(I)I"⟩
abbrev b_Wal_countThere : ByteArray := prog_6_method_3_code
def y_Wal_countThere : MethodName := ⟨"NetForms$Walls", "countThere", "(LNetForms$Net;)I"⟩
abbrev b_Nf_digest : ByteArray := prog_1_method_27_code
def y_Nf_digest : MethodName := ⟨"NetForms", "digest", "()J"⟩
abbrev b_Nf_foldCorners : ByteArray := prog_1_method_46_code
def y_Nf_foldCorners : MethodName := ⟨"NetForms", "foldCorners", "(JI)J"⟩
abbrev b_Nf_foldForms : ByteArray := prog_1_method_47_code
def y_Nf_foldForms : MethodName := ⟨"NetForms", "foldForms", "(J)J"⟩
abbrev b_Nf_foldWalls : ByteArray := prog_1_method_48_code
def y_Nf_foldWalls : MethodName := ⟨"NetForms", "foldWalls", "(J)J"⟩
abbrev b_Mo_init : ByteArray := prog_9_method_1_code
def y_Mo_init : MethodName := ⟨"NetFormsModel", "<init>", "()V"⟩
abbrev b_Mo_net : ByteArray := prog_9_method_4_code
def y_Mo_net : MethodName := ⟨"NetFormsModel", "net", "(I)I"⟩
abbrev b_Mo_in : ByteArray := prog_9_method_3_code
def y_Mo_in : MethodName := ⟨"NetFormsModel", "in", "(JJJ)Z"⟩
abbrev b_Mo_clears : ByteArray := prog_9_method_5_code
def y_Mo_clears : MethodName := ⟨"NetFormsModel", "clears", "(II)V"⟩
abbrev b_Mo_edge : ByteArray := prog_9_method_8_code
def y_Mo_edge : MethodName := ⟨"NetFormsModel", "edge", "(II)I"⟩
abbrev b_Mo_isPoint : ByteArray := prog_9_method_6_code
def y_Mo_isPoint : MethodName := ⟨"NetFormsModel", "isPoint", "(I)Z"⟩
abbrev b_Mo_edgeOf : ByteArray := prog_9_method_7_code
def y_Mo_edgeOf : MethodName := ⟨"NetFormsModel", "edgeOf", "(II)I"⟩
abbrev b_Mo_face : ByteArray := prog_9_method_9_code
def y_Mo_face : MethodName := ⟨"NetFormsModel", "face", "(III)I"⟩
abbrev b_Mo_corner : ByteArray := prog_9_method_10_code
def y_Mo_corner : MethodName := ⟨"NetFormsModel", "corner", "(III)I"⟩
abbrev b_Mo_form : ByteArray := prog_9_method_13_code
def y_Mo_form : MethodName := ⟨"NetFormsModel", "form", "(II)I"⟩
abbrev b_Mo_isForm : ByteArray := prog_9_method_11_code
def y_Mo_isForm : MethodName := ⟨"NetFormsModel", "isForm", "(I)Z"⟩
abbrev b_Mo_set : ByteArray := prog_9_method_15_code
def y_Mo_set : MethodName := ⟨"NetFormsModel", "set", "(III)I"⟩
abbrev b_Mo_isThere : ByteArray := prog_9_method_14_code
def y_Mo_isThere : MethodName := ⟨"NetFormsModel", "isThere", "(II)Z"⟩
abbrev b_Mo_size : ByteArray := prog_9_method_12_code
def y_Mo_size : MethodName := ⟨"NetFormsModel", "size", "(I)I"⟩
abbrev b_Mo_get : ByteArray := prog_9_method_16_code
def y_Mo_get : MethodName := ⟨"NetFormsModel", "get", "(II)I"⟩
abbrev b_Mo_slope : ByteArray := prog_9_method_22_code
def y_Mo_slope : MethodName := ⟨"NetFormsModel", "slope", "(II)I"⟩
abbrev b_Mo_makeSlope : ByteArray := prog_9_method_20_code
def y_Mo_makeSlope : MethodName := ⟨"NetFormsModel", "makeSlope", "(I)V"⟩
abbrev b_Mo_at : ByteArray := prog_9_method_17_code
def y_Mo_at : MethodName := ⟨"NetFormsModel", "at", "(II)J"⟩
abbrev b_Mo_onEdge : ByteArray := prog_9_method_18_code
def y_Mo_onEdge : MethodName := ⟨"NetFormsModel", "onEdge", "(III)J"⟩
abbrev b_Mo_becomes : ByteArray := prog_9_method_19_code
def y_Mo_becomes : MethodName := ⟨"NetFormsModel", "becomes", "(II)I"⟩
abbrev b_Mo_rim : ByteArray := prog_9_method_23_code
def y_Mo_rim : MethodName := ⟨"NetFormsModel", "rim", "(II)I"⟩
abbrev b_Mo_makeRim : ByteArray := prog_9_method_21_code
def y_Mo_makeRim : MethodName := ⟨"NetFormsModel", "makeRim", "(I)V"⟩
abbrev b_Mo_cup : ByteArray := prog_9_method_25_code
def y_Mo_cup : MethodName := ⟨"NetFormsModel", "cup", "(III)I"⟩
abbrev b_Mo_cupAt : ByteArray := prog_9_method_24_code
def y_Mo_cupAt : MethodName := ⟨"NetFormsModel", "cupAt", "(III)J"⟩
abbrev b_Mo_mix : ByteArray := prog_9_method_26_code
def y_Mo_mix : MethodName := ⟨"NetFormsModel", "mix", "(IIIII)I"⟩
abbrev b_Mo_about : ByteArray := prog_9_method_28_code
def y_Mo_about : MethodName := ⟨"NetFormsModel", "about", "(II)I"⟩
abbrev b_Mo_isNought : ByteArray := prog_9_method_27_code
def y_Mo_isNought : MethodName := ⟨"NetFormsModel", "isNought", "(I)Z"⟩
abbrev b_Mo_holes : ByteArray := prog_9_method_35_code
def y_Mo_holes : MethodName := ⟨"NetFormsModel", "holes", "(I)I"⟩
abbrev b_Mo_parts : ByteArray := prog_9_method_37_code
def y_Mo_parts : MethodName := ⟨"NetFormsModel", "parts", "()I"⟩
abbrev b_Mo_joins : ByteArray := prog_9_method_36_code
def y_Mo_joins : MethodName := ⟨"NetFormsModel", "joins", "(II)V"⟩
abbrev b_Mo_slopeRank : ByteArray := prog_9_method_33_code
def y_Mo_slopeRank : MethodName := ⟨"NetFormsModel", "slopeRank", "()I"⟩
abbrev b_Mo_turnRank : ByteArray := prog_9_method_34_code
def y_Mo_turnRank : MethodName := ⟨"NetFormsModel", "turnRank", "()I"⟩
abbrev b_Mo_empties : ByteArray := prog_9_method_29_code
def y_Mo_empties : MethodName := ⟨"NetFormsModel", "empties", "()V"⟩
abbrev b_Mo_turns : ByteArray := prog_9_method_30_code
def y_Mo_turns : MethodName := ⟨"NetFormsModel", "turns", "(III)I"⟩
abbrev b_Mo_turn : ByteArray := prog_9_method_31_code
def y_Mo_turn : MethodName := ⟨"NetFormsModel", "turn", "(IIII)V"⟩
abbrev b_Mo_potential : ByteArray := prog_9_method_38_code
def y_Mo_potential : MethodName := ⟨"NetFormsModel", "potential", "(II)I"⟩
abbrev b_Mo_split : ByteArray := prog_9_method_43_code
def y_Mo_split : MethodName := ⟨"NetFormsModel", "split", "(IIII)J"⟩
abbrev b_Mo_splits : ByteArray := prog_9_method_39_code
def y_Mo_splits : MethodName := ⟨"NetFormsModel", "splits", "(I)V"⟩
abbrev b_Mo_solves : ByteArray := prog_9_method_32_code
def y_Mo_solves : MethodName := ⟨"NetFormsModel", "solves", "(I)V"⟩
abbrev b_Mo_sideOf : ByteArray := prog_9_method_40_code
def y_Mo_sideOf : MethodName := ⟨"NetFormsModel", "sideOf", "(II)J"⟩
abbrev b_Mo_lowest : ByteArray := prog_9_method_42_code
def y_Mo_lowest : MethodName := ⟨"NetFormsModel", "lowest", "(JJI)J"⟩
abbrev b_Mo_divisor : ByteArray := prog_9_method_41_code
def y_Mo_divisor : MethodName := ⟨"NetFormsModel", "divisor", "(JJ)J"⟩
abbrev b_Mo_wall : ByteArray := prog_9_method_44_code
def y_Mo_wall : MethodName := ⟨"NetFormsModel", "wall", "(II)I"⟩
abbrev b_Mo_open : ByteArray := prog_9_method_45_code
def y_Mo_open : MethodName := ⟨"NetFormsModel", "open", "(I)I"⟩
abbrev b_Mo_field : ByteArray := prog_9_method_47_code
def y_Mo_field : MethodName := ⟨"NetFormsModel", "field", "()I"⟩
abbrev b_Mo_forbids : ByteArray := prog_9_method_46_code
def y_Mo_forbids : MethodName := ⟨"NetFormsModel", "forbids", "()I"⟩
abbrev b_Mo_fieldAt : ByteArray := prog_9_method_48_code
def y_Mo_fieldAt : MethodName := ⟨"NetFormsModel", "fieldAt", "(II)J"⟩
abbrev b_Mo_wave : ByteArray := prog_9_method_51_code
def y_Mo_wave : MethodName := ⟨"NetFormsModel", "wave", "(I)I"⟩
abbrev b_Mo_flows : ByteArray := prog_9_method_49_code
def y_Mo_flows : MethodName := ⟨"NetFormsModel", "flows", "(J)V"⟩
abbrev b_Mo_rises : ByteArray := prog_9_method_50_code
def y_Mo_rises : MethodName := ⟨"NetFormsModel", "rises", "(J)V"⟩
abbrev b_Mo_raise : ByteArray := prog_9_method_52_code
def y_Mo_raise : MethodName := ⟨"NetFormsModel", "raise", "(I)I"⟩
abbrev b_Mo_height : ByteArray := prog_9_method_53_code
def y_Mo_height : MethodName := ⟨"NetFormsModel", "height", "(I)J"⟩
abbrev b_Mo_flow : ByteArray := prog_9_method_54_code
def y_Mo_flow : MethodName := ⟨"NetFormsModel", "flow", "(I)J"⟩
abbrev b_Mo_sum : ByteArray := prog_9_method_55_code
def y_Mo_sum : MethodName := ⟨"NetFormsModel", "sum", "()J"⟩
abbrev b_Mo_count : ByteArray := prog_9_method_56_code
def y_Mo_count : MethodName := ⟨"NetFormsModel", "count", "(I)I"⟩
abbrev b_Mo_digest : ByteArray := prog_9_method_57_code
def y_Mo_digest : MethodName := ⟨"NetFormsModel", "digest", "()J"⟩
/-- the words that a call may hand on -/
def gw : List Cond := lw_tbl.filter goodWord
theorem gw_t {w : Cond} (i : Nat) (h : tables_1[i]? = some w) (g : goodWord w = true) : w ∈ gw := List.mem_filter.mpr ⟨List.mem_append_right _ (List.mem_of_getElem? h), g⟩
theorem gw_s {w : Cond} (i : Nat) (h : (k2_sels lw_privs)[i]? = some w) (g : goodWord w = true) : w ∈ gw := List.mem_filter.mpr ⟨List.mem_append_left _ (List.mem_of_getElem? h), g⟩
theorem gw_lw : ∀ w ∈ gw, w ∈ lw_tbl := fun w h => (List.mem_filter.mp h).1
theorem gw_good : ∀ w ∈ gw, goodWord w = true := fun w h => (List.mem_filter.mp h).2
set_option maxRecDepth 20000 in
theorem in_Bal : ∀ w ∈ u_ws R_Bal T_Bal 5, w ∈ gw := by
  intro w hw
  obtain ⟨k, hk, rfl⟩ := List.mem_map.mp hw
  have hk := List.mem_range.mp hk
  match k, hk with
  | 0, _ => exact gw_t 120 (by decide +kernel) (by decide +kernel)
  | 1, _ => exact gw_t 122 (by decide +kernel) (by decide +kernel)
  | 2, _ => exact gw_t 124 (by decide +kernel) (by decide +kernel)
  | 3, _ => exact gw_t 126 (by decide +kernel) (by decide +kernel)
  | 4, _ => exact gw_t 128 (by decide +kernel) (by decide +kernel)
set_option maxRecDepth 20000 in
theorem in_Cli : ∀ w ∈ u_ws R_Cli T_Cli 2, w ∈ gw := by
  intro w hw
  obtain ⟨k, hk, rfl⟩ := List.mem_map.mp hw
  have hk := List.mem_range.mp hk
  match k, hk with
  | 0, _ => exact gw_t 139 (by decide +kernel) (by decide +kernel)
  | 1, _ => exact gw_t 141 (by decide +kernel) (by decide +kernel)
set_option maxRecDepth 20000 in
theorem in_Frm : ∀ w ∈ u_ws R_Frm T_Frm 2, w ∈ gw := by
  intro w hw
  obtain ⟨k, hk, rfl⟩ := List.mem_map.mp hw
  have hk := List.mem_range.mp hk
  match k, hk with
  | 0, _ => exact gw_t 154 (by decide +kernel) (by decide +kernel)
  | 1, _ => exact gw_t 156 (by decide +kernel) (by decide +kernel)
set_option maxRecDepth 20000 in
theorem in_Net : ∀ w ∈ u_ws R_Net T_Net 9, w ∈ gw := by
  intro w hw
  obtain ⟨k, hk, rfl⟩ := List.mem_map.mp hw
  have hk := List.mem_range.mp hk
  match k, hk with
  | 0, _ => exact gw_t 47 (by decide +kernel) (by decide +kernel)
  | 1, _ => exact gw_t 49 (by decide +kernel) (by decide +kernel)
  | 2, _ => exact gw_t 51 (by decide +kernel) (by decide +kernel)
  | 3, _ => exact gw_t 53 (by decide +kernel) (by decide +kernel)
  | 4, _ => exact gw_t 55 (by decide +kernel) (by decide +kernel)
  | 5, _ => exact gw_t 57 (by decide +kernel) (by decide +kernel)
  | 6, _ => exact gw_t 59 (by decide +kernel) (by decide +kernel)
  | 7, _ => exact gw_t 61 (by decide +kernel) (by decide +kernel)
  | 8, _ => exact gw_t 63 (by decide +kernel) (by decide +kernel)
set_option maxRecDepth 20000 in
theorem in_Wal : ∀ w ∈ u_ws R_Wal T_Wal 2, w ∈ gw := by
  intro w hw
  obtain ⟨k, hk, rfl⟩ := List.mem_map.mp hw
  have hk := List.mem_range.mp hk
  match k, hk with
  | 0, _ => exact gw_t 79 (by decide +kernel) (by decide +kernel)
  | 1, _ => exact gw_t 81 (by decide +kernel) (by decide +kernel)
set_option maxRecDepth 20000 in
theorem in_Wav : ∀ w ∈ u_ws R_Wav T_Wav 3, w ∈ gw := by
  intro w hw
  obtain ⟨k, hk, rfl⟩ := List.mem_map.mp hw
  have hk := List.mem_range.mp hk
  match k, hk with
  | 0, _ => exact gw_t 97 (by decide +kernel) (by decide +kernel)
  | 1, _ => exact gw_t 99 (by decide +kernel) (by decide +kernel)
  | 2, _ => exact gw_t 101 (by decide +kernel) (by decide +kernel)
set_option maxRecDepth 20000 in
theorem in_Nf : ∀ w ∈ u_ws R_Nf T_Nf 7, w ∈ gw := by
  intro w hw
  obtain ⟨k, hk, rfl⟩ := List.mem_map.mp hw
  have hk := List.mem_range.mp hk
  match k, hk with
  | 0, _ => exact gw_t 170 (by decide +kernel) (by decide +kernel)
  | 1, _ => exact gw_t 172 (by decide +kernel) (by decide +kernel)
  | 2, _ => exact gw_t 174 (by decide +kernel) (by decide +kernel)
  | 3, _ => exact gw_t 176 (by decide +kernel) (by decide +kernel)
  | 4, _ => exact gw_t 178 (by decide +kernel) (by decide +kernel)
  | 5, _ => exact gw_t 180 (by decide +kernel) (by decide +kernel)
  | 6, _ => exact gw_t 182 (by decide +kernel) (by decide +kernel)
set_option maxRecDepth 20000 in
theorem in_Mo : ∀ w ∈ u_ws R_Mo T_Mo 26, w ∈ gw := by
  intro w hw
  obtain ⟨k, hk, rfl⟩ := List.mem_map.mp hw
  have hk := List.mem_range.mp hk
  match k, hk with
  | 0, _ => exact gw_t 547 (by decide +kernel) (by decide +kernel)
  | 1, _ => exact gw_t 549 (by decide +kernel) (by decide +kernel)
  | 2, _ => exact gw_t 551 (by decide +kernel) (by decide +kernel)
  | 3, _ => exact gw_t 553 (by decide +kernel) (by decide +kernel)
  | 4, _ => exact gw_t 555 (by decide +kernel) (by decide +kernel)
  | 5, _ => exact gw_t 557 (by decide +kernel) (by decide +kernel)
  | 6, _ => exact gw_t 559 (by decide +kernel) (by decide +kernel)
  | 7, _ => exact gw_t 561 (by decide +kernel) (by decide +kernel)
  | 8, _ => exact gw_t 563 (by decide +kernel) (by decide +kernel)
  | 9, _ => exact gw_t 565 (by decide +kernel) (by decide +kernel)
  | 10, _ => exact gw_t 567 (by decide +kernel) (by decide +kernel)
  | 11, _ => exact gw_t 569 (by decide +kernel) (by decide +kernel)
  | 12, _ => exact gw_t 571 (by decide +kernel) (by decide +kernel)
  | 13, _ => exact gw_t 573 (by decide +kernel) (by decide +kernel)
  | 14, _ => exact gw_t 575 (by decide +kernel) (by decide +kernel)
  | 15, _ => exact gw_t 577 (by decide +kernel) (by decide +kernel)
  | 16, _ => exact gw_t 579 (by decide +kernel) (by decide +kernel)
  | 17, _ => exact gw_t 581 (by decide +kernel) (by decide +kernel)
  | 18, _ => exact gw_t 583 (by decide +kernel) (by decide +kernel)
  | 19, _ => exact gw_t 585 (by decide +kernel) (by decide +kernel)
  | 20, _ => exact gw_t 587 (by decide +kernel) (by decide +kernel)
  | 21, _ => exact gw_t 589 (by decide +kernel) (by decide +kernel)
  | 22, _ => exact gw_t 591 (by decide +kernel) (by decide +kernel)
  | 23, _ => exact gw_t 593 (by decide +kernel) (by decide +kernel)
  | 24, _ => exact gw_t 595 (by decide +kernel) (by decide +kernel)
  | 25, _ => exact gw_t 597 (by decide +kernel) (by decide +kernel)
  | k + 26, h => exact absurd h (by omega)
end
section
/-! the memory: every cell that the law makes lies at b + k, k below 76, and its shape never changes; what changes are ints (M.1 k j) and longs (M.2 k j) -/
abbrev Mem : Type := (Nat → Nat → Int32) × (Nat → Nat → Int64)
/-- b; the classes of int[], long[], boolean[], Form[], long[][]; the classes and slots of the objects -/
abbrev Kp : Type := Nat × (ClassId × ClassId × ClassId × ClassId × ClassId) × va_G
abbrev kI (κ : Kp) : ClassId := κ.2.1.1
abbrev kJ (κ : Kp) : ClassId := κ.2.1.2.1
abbrev kZ (κ : Kp) : ClassId := κ.2.1.2.2.1
abbrev kF (κ : Kp) : ClassId := κ.2.1.2.2.2.1
abbrev kT (κ : Kp) : ClassId := κ.2.1.2.2.2.2
abbrev eI (κ : Kp) (n : Nat) (f : Nat → Int32) : va_E := .inl (kI κ, n, .inl f)
abbrev eZ (κ : Kp) (n : Nat) (f : Nat → Int32) : va_E := .inl (kZ κ, n, .inl f)
abbrev eJ (κ : Kp) (n : Nat) (g : Nat → Int64) : va_E := .inl (kJ κ, n, .inr (.inl g))
abbrev eF (κ : Kp) : va_E := .inl (kF κ, 12, .inr (.inr (.inr (.inr (fun j => some (κ.1 + (32 + 2 * j)))))))
abbrev eT (κ : Kp) : va_E := .inl (kT κ, 10, .inr (.inr (.inr (.inr (fun j => some (κ.1 + (17 + j)))))))
def sh_x (κ : Kp) (f : Nat → Int32) (g : Nat → Int64) : List va_E := [
  .inr (6, [.ref (κ.1 + 1), .ref (κ.1 + 8), .ref (κ.1 + 9), .ref (κ.1 + 12), .ref (κ.1 + 15), .ref (κ.1 + 28), .ref (κ.1 + 31)]),
  .inr (3, [.int (f 0), .int (f 1), .int (f 2), .ref (κ.1 + 2), .ref (κ.1 + 3), .ref (κ.1 + 4), .ref (κ.1 + 5), .ref (κ.1 + 6), .ref (κ.1 + 7)]),
  eI κ 12 f, eI κ 12 f, eI κ 10 f, eI κ 10 f, eI κ 10 f, eI κ 6 f,
  eF κ,
  .inr (4, [.ref (κ.1 + 10), .ref (κ.1 + 11)]), eZ κ 6 f, eI κ 6 f,
  .inr (5, [.int (f 0), .ref (κ.1 + 13), .ref (κ.1 + 14)]), eJ κ 6 g, eJ κ 12 g,
  .inr (0, [.int (f 0), .ref (κ.1 + 16), .ref (κ.1 + 27), .int (f 3), .long (g 4)]),
  eT κ, eJ κ 10 g, eJ κ 10 g, eJ κ 10 g, eJ κ 10 g, eJ κ 10 g, eJ κ 10 g, eJ κ 10 g, eJ κ 10 g, eJ κ 10 g, eJ κ 10 g, eJ κ 10 g,
  .inr (1, [.ref (κ.1 + 29), .ref (κ.1 + 30)]), eJ κ 6 g, eI κ 6 f,
  eJ κ 12 g]
def sh_f (κ : Kp) (i : Nat) (f : Nat → Int32) : List va_E := [.inr (2, [.int (f 0), .ref (κ.1 + (33 + 2 * i))]), eI κ 12 f]
def sh_m (κ : Kp) (f : Nat → Int32) (g : Nat → Int64) : List va_E := [
  .inr (7, [.int (f 0), .int (f 1), .int (f 2), .ref (κ.1 + 57), .ref (κ.1 + 58), .ref (κ.1 + 59), .ref (κ.1 + 60), .ref (κ.1 + 61), .ref (κ.1 + 62), .ref (κ.1 + 63), .ref (κ.1 + 64), .ref (κ.1 + 65), .ref (κ.1 + 66), .ref (κ.1 + 67), .int (f 14), .ref (κ.1 + 68), .ref (κ.1 + 69), .ref (κ.1 + 70), .long (g 18), .ref (κ.1 + 71), .ref (κ.1 + 72), .ref (κ.1 + 73), .ref (κ.1 + 74), .ref (κ.1 + 75), .long (g 24), .long (g 25)]),
  eI κ 12 f, eI κ 12 f, eI κ 10 f, eI κ 10 f, eI κ 10 f, eI κ 12 f, eI κ 144 f, eZ κ 6 f, eI κ 6 f, eJ κ 6 g, eJ κ 12 g,
  eJ κ 12 g, eJ κ 156 g, eI κ 12 f, eJ κ 12 g, eI κ 6 f, eJ κ 6 g, eJ κ 12 g, eJ κ 12 g]
/-- the cell at b + k, with its ints and longs -/
def shp (κ : Kp) (k : Nat) (f : Nat → Int32) (g : Nat → Int64) : va_E :=
  (sh_x κ f g ++ (sh_f κ 0 f ++ (sh_f κ 1 f ++ (sh_f κ 2 f ++ (sh_f κ 3 f ++ (sh_f κ 4 f ++ (sh_f κ 5 f ++ (sh_f κ 6 f ++ (sh_f κ 7 f ++ (sh_f κ 8 f ++ (sh_f κ 9 f ++ (sh_f κ 10 f ++ (sh_f κ 11 f ++ sh_m κ f g))))))))))))).getD k (.inr (0, []))
theorem sh_formO (κ : Kp) {i : Nat} (h : i < 12) (f : Nat → Int32) (g : Nat → Int64) : shp κ (32 + 2 * i) f g = .inr (2, [.int (f 0), .ref (κ.1 + (33 + 2 * i))]) := by
  match i, h with
  | 0, _ => rfl
  | 1, _ => rfl
  | 2, _ => rfl
  | 3, _ => rfl
  | 4, _ => rfl
  | 5, _ => rfl
  | 6, _ => rfl
  | 7, _ => rfl
  | 8, _ => rfl
  | 9, _ => rfl
  | 10, _ => rfl
  | 11, _ => rfl
theorem sh_formA (κ : Kp) {i : Nat} (h : i < 12) (f : Nat → Int32) (g : Nat → Int64) : shp κ (33 + 2 * i) f g = eI κ 12 f := by
  match i, h with
  | 0, _ => rfl
  | 1, _ => rfl
  | 2, _ => rfl
  | 3, _ => rfl
  | 4, _ => rfl
  | 5, _ => rfl
  | 6, _ => rfl
  | 7, _ => rfl
  | 8, _ => rfl
  | 9, _ => rfl
  | 10, _ => rfl
  | 11, _ => rfl
theorem sh_tabA (κ : Kp) {i : Nat} (h : i < 10) (f : Nat → Int32) (g : Nat → Int64) : shp κ (17 + i) f g = eJ κ 10 g := by
  match i, h with
  | 0, _ => rfl
  | 1, _ => rfl
  | 2, _ => rfl
  | 3, _ => rfl
  | 4, _ => rfl
  | 5, _ => rfl
  | 6, _ => rfl
  | 7, _ => rfl
  | 8, _ => rfl
  | 9, _ => rfl
def wI (M : Mem) (k i : Nat) (x : Int32) : Mem := (va_up M.1 k (upd (M.1 k) i x), M.2)
def wJ (M : Mem) (k i : Nat) (x : Int64) : Mem := (M.1, va_up M.2 k (vp_updL (M.2 k) i x))
def ents (κ : Kp) (M : Mem) : Nat → va_E := fun k => shp κ k (M.1 k) (M.2 k)
def wl (b : Nat) (E : Nat → va_E) : va_W := (List.range 76).map (fun k => (b + k, E k))
theorem wl_get {b : Nat} {E : Nat → va_E} {k : Nat} (h : k < 76) : (wl b E)[k]? = some (b + k, E k) := by
  simp [wl, h]
theorem wl_get2 {b : Nat} {E : Nat → va_E} {k : Nat} {q : Nat × va_E} (h : (wl b E)[k]? = some q) : k < 76 ∧ q = (b + k, E k) := by
  have hk : k < 76 := by
    have := (List.getElem?_eq_some_iff.mp h).1
    simpa [wl] using this
  exact ⟨hk, Option.some.inj (h.symm.trans (wl_get hk))⟩
theorem wl_set {b : Nat} {E : Nat → va_E} {k : Nat} {e : va_E} (h : k < 76) : (wl b E).set k (b + k, e) = wl b (va_up E k e) := by
  apply List.ext_getElem?
  intro j
  rw [List.getElem?_set]
  by_cases hj : j < 76
  · rw [wl_get hj, wl_get hj]
    by_cases e1 : k = j
    · subst e1
      simp [va_up, wl, h]
    · simp [va_up, e1, Ne.symm e1]
  · have e1 : ¬ k = j := by omega
    rw [if_neg e1, List.getElem?_eq_none (by simp [wl]; omega), List.getElem?_eq_none (by simp [wl]; omega)]
theorem wl_D {b : Nat} {E : Nat → va_E} : va_D (fun q => b ≤ q) (wl b E) := by
  refine ⟨fun i j p q hp hq e => ?_, fun k q hq => ?_⟩
  · obtain ⟨-, rfl⟩ := wl_get2 hp
    obtain ⟨-, rfl⟩ := wl_get2 hq
    exact Nat.add_left_cancel e
  · obtain ⟨-, rfl⟩ := wl_get2 hq
    exact Nat.le_add_right _ _
theorem ents_I {κ : Kp} {M : Mem} {k i : Nat} {x : Int32} : ents κ (wI M k i x) = va_up (ents κ M) k (shp κ k (upd (M.1 k) i x) (M.2 k)) := by
  funext j
  by_cases h : j = k
  · subst h; simp [ents, wI, va_up]
  · simp [ents, wI, va_up, h]
theorem ents_J {κ : Kp} {M : Mem} {k i : Nat} {x : Int64} : ents κ (wJ M k i x) = va_up (ents κ M) k (shp κ k (M.1 k) (vp_updL (M.2 k) i x)) := by
  funext j
  by_cases h : j = k
  · subst h; simp [ents, wJ, va_up]
  · simp [ents, wJ, va_up, h]
def Hp (κ : Kp) (M : Mem) (H : Heap) : Prop := va_P κ.2.2 cls8 (wl κ.1 (ents κ M)) H
def Ab (κ : Kp) : Nat → Prop := fun q => κ.1 ≤ q
abbrev tysK (κ : Kp) : List (ClassId × FieldType) := [(kI κ, .int), (kJ κ, .long), (kZ κ, .boolean), (kF κ, .object "NetForms$Form"), (kT κ, .array .long)]
/-- private members of the nest: their links stand beside the words -/
def nestW : List (String × Nat × MethodName × String) := (tables_1.filterMap fun w => match w with
  | .methodLinkNest o i y h => some (o, i, y, h)
  | _ => none)
def KK (κ : Kp) (U : State) : Prop := va_K κ.2.2 cls8 (tysK κ) U ∧ ∀ q ∈ nestW, va_Nw (.methodLinkNest q.1 q.2.1 q.2.2.1 q.2.2.2) U
theorem KK.warm {κ : Kp} {s U : State} (hW : s.WarmedH U.vm) (h : KK κ s) : KK κ U := ⟨va_K.moved hW.alike h.1, fun q hq => va_Nw.warmM hW (h.2 q hq)⟩
theorem KK.same {κ : Kp} {s U : State} (e : s.vm = U.vm) (h : KK κ s) : KK κ U := ⟨va_K.moved (e ▸ Vm.Alike.refl s.vm) h.1, fun q hq => va_Nw.same rfl e (h.2 q hq)⟩
abbrev Gm : Type := Program × Launch × Env × Room × State × MethodId × Array Value × List Frame × Method × Code
def rmd (d : Nat) : Room := { frames := d, cells := 0, slots := 0, locals := 45 * d }
def qcc (κ : Kp) (post : Option Value → Mem → Prop) : Array Value → State → Outcome → State → Prop := fun _ st oc t => (∃ (v : Option Value) (M' : Mem), oc = .returned v ∧ post v M' ∧ Hp κ M' t.heap) ∧ va_F (Ab κ) st t
/-- a method's contract: from the memory M with the arguments As it comes to an answer and a memory of post -/
def Ct (l : Launch) (κ : Kp) (y : MethodName) (cc : ByteArray) (nL : Nat) (ret : Option FieldType) (d : Nat) (As : List Value) (M : Mem) (post : Option Value → Mem → Prop) : Prop :=
  Met l y (Cond.code y cc nL ret :: gw) (rmd d) (va_Pc As (fun U => Hp κ M U.heap ∧ KK κ U)) (qcc κ post) 0 0 (Ab κ)
abbrev gS (γ : Gm) : State := γ.2.2.2.2.1
/-- what holds of a frame at work -/
def Cx (γ : Gm) (κ : Kp) (own : String) (cc : ByteArray) (nL d : Nat) (z : Nat × Nat) : Prop :=
  γ.1.tables.exec = Jvm.exec ∧ γ.2.2.2.2.2.2.2.2.2.code = cc ∧ γ.2.2.2.2.2.2.2.2.2.maxLocals = nL ∧ γ.2.2.2.2.1.vm.findClass own = some γ.2.2.2.2.2.1.cls ∧ (∀ w ∈ gw, w.before γ.2.2.2.2.2.2.1 γ.2.2.2.2.1 = true) ∧ KK κ γ.2.2.2.2.1 ∧ (d ≤ γ.2.2.2.1.frames ∧ 45 * d ≤ γ.2.2.2.1.locals) ∧ z.1 ≤ γ.2.2.2.1.cells ∧ z.2 ≤ γ.2.2.2.1.slots
def Rt (γ : Gm) (ret : Option FieldType) : Prop := γ.2.2.2.2.2.2.2.2.1.sig.returnType = ret ∧ γ.2.2.2.2.2.2.2.2.1.locks = false
/-- the machine at pc, with these locals, this stack and this memory, comes to Q -/
def G (γ : Gm) (κ : Kp) (nL : Nat) (z : Nat × Nat) (Q : State → Prop) (pc : Nat) (lv : List (Nat × Value)) (st : List Value) (M : Mem) : Prop :=
  ∀ (H : Heap) (locs : List Loc) (ls : Array Slot), Hp κ M H → va_S (Ab κ) γ.2.2.2.2.1.heap H locs → lv_has ls nL lv →
    W γ.1 γ.2.1 γ.2.2.1 γ.2.2.2.1 γ.2.2.2.2.1 γ.2.2.2.2.2.1 γ.2.2.2.2.2.2.1 γ.2.2.2.2.2.2.2.1 γ.2.2.2.2.2.2.2.2.1 γ.2.2.2.2.2.2.2.2.2 H locs z.1 z.2 Q (F0 γ.2.2.2.2.2.1 pc ls st)
def Gq (γ : Gm) (κ : Kp) (post : Option Value → Mem → Prop) : State → Prop := MQ γ.2.2.2.2.2.2.2.1 (qcc κ post) γ.2.2.2.2.2.2.1 γ.2.2.2.2.1 0 0 (Ab κ)
theorem Ct_of {l : Launch} {κ : Kp} {y : MethodName} {cc : ByteArray} {nL : Nat} {ret : Option FieldType} {d : Nat} {As : List Value} {M : Mem} {post : Option Value → Mem → Prop} (hy : plainName y.cls = true) (hn : (lg_sl As).length ≤ nL)
    (h : ∀ γ : Gm, γ.2.1 = l → Cx γ κ y.cls cc nL d (0, 0) → Rt γ ret → G γ κ nL (0, 0) (Gq γ κ post) 0 (lv_args 0 As) [] M) : Ct l κ y cc nL ret d As M post := by
  refine Met.ofW (cc := cc) (maxL := nL) (ret := ret) hy rfl ?_
  intro p e s m args below meth c s₁ B hml hv
  obtain ⟨rfl, hP, hK⟩ := hv
  have hts := atoms_spec (ws := Cond.code y cc nL ret :: gw) B.pre
  have hown : s.vm.findClass y.cls = some m.cls := findClass_of_methodNamed B.named
  have hl := lv_entry As hn
  rw [lg_entry_eq]
  generalize (lg_sl As ++ List.replicate (nL - (lg_sl As).length) Slot.unset).toArray = ls at hl ⊢
  exact h (p, l, e, rmd d, s, m, As.toArray, below, meth, c) rfl ⟨B.exec, B.bytes, hml, hown, fun w hw => hts w (List.mem_cons_of_mem _ hw), hK, ⟨Nat.le_refl _, Nat.le_refl _⟩, Nat.le_refl _, Nat.le_refl _⟩ ⟨B.returns, B.notSynchronized⟩ s.heap [] ls hP va_S.rf hl
end
section
/-! rows: an instruction each, over G -/
section GR
variable {γ : Gm} {κ : Kp} {own : String} {cc : ByteArray} {nL d : Nat} {z : Nat × Nat} {Q : State → Prop} {pc : Nat} {lv : List (Nat × Value)} {st : List Value} {M : Mem}
theorem G_iconst (C : Cx γ κ own cc nL d z) {n : Int} {v : Int32} (hd : decode cc pc = .ok (.iconst n, 1)) (hv : Int32.ofInt n = v) (k : G γ κ nL z Q (pc + 1) lv (.int v :: st) M) : G γ κ nL z Q pc lv (st) M := fun H locs ls hP hS hl => lv_iconst C.1 C.2.1 hd hv (k H locs ls hP hS hl)
theorem G_bipush (C : Cx γ κ own cc nL d z) {n : Int} {v : Int32} (hd : decode cc pc = .ok (.bipush n, 2)) (hv : (Int8.ofInt n).toInt32 = v) (k : G γ κ nL z Q (pc + 2) lv (.int v :: st) M) : G γ κ nL z Q pc lv (st) M := fun H locs ls hP hS hl => lv_bipush C.1 C.2.1 hd hv (k H locs ls hP hS hl)
theorem G_sipush (C : Cx γ κ own cc nL d z) {n : Int} {v : Int32} (hd : decode cc pc = .ok (.sipush n, 3)) (hv : (Int16.ofInt n).toInt32 = v) (k : G γ κ nL z Q (pc + 3) lv (.int v :: st) M) : G γ κ nL z Q pc lv (st) M := fun H locs ls hP hS hl => lv_sipush C.1 C.2.1 hd hv (k H locs ls hP hS hl)
theorem G_lconst (C : Cx γ κ own cc nL d z) {n : Fin 2} {v : Int64} (hd : decode cc pc = .ok (.lconst n, 1)) (hv : Int64.ofNat (n : Nat) = v) (k : G γ κ nL z Q (pc + 1) lv (.long v :: st) M) : G γ κ nL z Q pc lv (st) M := fun H locs ls hP hS hl => lv_lconst C.1 C.2.1 hd hv (k H locs ls hP hS hl)
theorem G_ldc (C : Cx γ κ own cc nL d z) {index : Nat} {v : Int32} (hw : Cond.constant own index v ∈ gw) (hd : decode cc pc = .ok (.ldc index, 2)) (k : G γ κ nL z Q (pc + 2) lv (.int v :: st) M) : G γ κ nL z Q pc lv (st) M := fun H locs ls hP hS hl => lv_ldc C.1 C.2.1 C.2.2.2.1 (C.2.2.2.2.1 _ hw) hd (k H locs ls hP hS hl)
theorem G_ldc2 (C : Cx γ κ own cc nL d z) {index : Nat} {v : Int64} (hw : Cond.constantLong own index v ∈ gw) (hd : decode cc pc = .ok (.ldc2_w index, 3)) (k : G γ κ nL z Q (pc + 3) lv (.long v :: st) M) : G γ κ nL z Q pc lv (st) M := fun H locs ls hP hS hl => lv_ldc2 C.1 C.2.1 C.2.2.2.1 (C.2.2.2.2.1 _ hw) hd (k H locs ls hP hS hl)
theorem G_iload_n (C : Cx γ κ own cc nL d z) {q : Fin 4} {i : Nat} {x : Int32} (n : Nat) (hd : decode cc pc = .ok (.iload_n q, 1)) (hi : (q : Nat) = i) (hx : lv[n]? = some (i, .int x)) (k : G γ κ nL z Q (pc + 1) lv (.int x :: st) M) : G γ κ nL z Q pc lv (st) M := fun H locs ls hP hS hl => lv_iload_n C.1 C.2.1 hd hi (lv_at hl n hx) (k H locs ls hP hS hl)
theorem G_iload (C : Cx γ κ own cc nL d z) {i : Nat} {x : Int32} (n : Nat) (hd : decode cc pc = .ok (.iload i, 2)) (hx : lv[n]? = some (i, .int x)) (k : G γ κ nL z Q (pc + 2) lv (.int x :: st) M) : G γ κ nL z Q pc lv (st) M := fun H locs ls hP hS hl => lv_iload C.1 C.2.1 hd (lv_at hl n hx) (k H locs ls hP hS hl)
theorem G_istore_n (C : Cx γ κ own cc nL d z) {q : Fin 4} {i : Nat} {x : Int32} {lv' : List (Nat × Value)} (hd : decode cc pc = .ok (.istore_n q, 1)) (hi : (q : Nat) = i) (hn : i < nL) (hv : (i, Value.int x) :: lv.filter (fun q => !(q.1 == i) && !(q.1 + 1 == i && q.2.category == 2)) = lv') (k : G γ κ nL z Q (pc + 1) lv' (st) M) : G γ κ nL z Q pc lv (.int x :: st) M := fun H locs ls hP hS hl => lv_istore_n C.1 C.2.1 hd hi hl hn hv (fun ls hl => k H locs ls hP hS hl)
theorem G_istore (C : Cx γ κ own cc nL d z) {i : Nat} {x : Int32} {lv' : List (Nat × Value)} (hd : decode cc pc = .ok (.istore i, 2)) (hn : i < nL) (hv : (i, Value.int x) :: lv.filter (fun q => !(q.1 == i) && !(q.1 + 1 == i && q.2.category == 2)) = lv') (k : G γ κ nL z Q (pc + 2) lv' (st) M) : G γ κ nL z Q pc lv (.int x :: st) M := fun H locs ls hP hS hl => lv_istore C.1 C.2.1 hd hl hn hv (fun ls hl => k H locs ls hP hS hl)
theorem G_lload_n (C : Cx γ κ own cc nL d z) {q : Fin 4} {i : Nat} {x : Int64} (n : Nat) (hd : decode cc pc = .ok (.lload_n q, 1)) (hi : (q : Nat) = i) (hx : lv[n]? = some (i, .long x)) (k : G γ κ nL z Q (pc + 1) lv (.long x :: st) M) : G γ κ nL z Q pc lv (st) M := fun H locs ls hP hS hl => lv_lload_n C.1 C.2.1 hd hi (lv_at hl n hx) (k H locs ls hP hS hl)
theorem G_lload (C : Cx γ κ own cc nL d z) {i : Nat} {x : Int64} (n : Nat) (hd : decode cc pc = .ok (.lload i, 2)) (hx : lv[n]? = some (i, .long x)) (k : G γ κ nL z Q (pc + 2) lv (.long x :: st) M) : G γ κ nL z Q pc lv (st) M := fun H locs ls hP hS hl => lv_lload C.1 C.2.1 hd (lv_at hl n hx) (k H locs ls hP hS hl)
theorem G_lstore_n (C : Cx γ κ own cc nL d z) {q : Fin 4} {i : Nat} {x : Int64} {lv' : List (Nat × Value)} (hd : decode cc pc = .ok (.lstore_n q, 1)) (hi : (q : Nat) = i) (hn : i + 1 < nL) (hv : (i, Value.long x) :: lv.filter (fun q => !(q.1 == i) && (!(q.1 == i + 1) && !(q.1 + 1 == i && q.2.category == 2))) = lv') (k : G γ κ nL z Q (pc + 1) lv' (st) M) : G γ κ nL z Q pc lv (.long x :: st) M := fun H locs ls hP hS hl => lv_lstore_n C.1 C.2.1 hd hi hl hn hv (fun ls hl => k H locs ls hP hS hl)
theorem G_lstore (C : Cx γ κ own cc nL d z) {i : Nat} {x : Int64} {lv' : List (Nat × Value)} (hd : decode cc pc = .ok (.lstore i, 2)) (hn : i + 1 < nL) (hv : (i, Value.long x) :: lv.filter (fun q => !(q.1 == i) && (!(q.1 == i + 1) && !(q.1 + 1 == i && q.2.category == 2))) = lv') (k : G γ κ nL z Q (pc + 2) lv' (st) M) : G γ κ nL z Q pc lv (.long x :: st) M := fun H locs ls hP hS hl => lv_lstore C.1 C.2.1 hd hl hn hv (fun ls hl => k H locs ls hP hS hl)
theorem G_aload_n (C : Cx γ κ own cc nL d z) {q : Fin 4} {i : Nat} {x : Nat} (n : Nat) (hd : decode cc pc = .ok (.aload_n q, 1)) (hi : (q : Nat) = i) (hx : lv[n]? = some (i, .ref x)) (k : G γ κ nL z Q (pc + 1) lv (.ref x :: st) M) : G γ κ nL z Q pc lv (st) M := fun H locs ls hP hS hl => lv_aload_n C.1 C.2.1 hd hi (lv_at hl n hx) (k H locs ls hP hS hl)
theorem G_aload (C : Cx γ κ own cc nL d z) {i : Nat} {x : Nat} (n : Nat) (hd : decode cc pc = .ok (.aload i, 2)) (hx : lv[n]? = some (i, .ref x)) (k : G γ κ nL z Q (pc + 2) lv (.ref x :: st) M) : G γ κ nL z Q pc lv (st) M := fun H locs ls hP hS hl => lv_aload C.1 C.2.1 hd (lv_at hl n hx) (k H locs ls hP hS hl)
theorem G_astore_n (C : Cx γ κ own cc nL d z) {q : Fin 4} {i : Nat} {x : Nat} {lv' : List (Nat × Value)} (hd : decode cc pc = .ok (.astore_n q, 1)) (hi : (q : Nat) = i) (hn : i < nL) (hv : (i, Value.ref x) :: lv.filter (fun q => !(q.1 == i) && !(q.1 + 1 == i && q.2.category == 2)) = lv') (k : G γ κ nL z Q (pc + 1) lv' (st) M) : G γ κ nL z Q pc lv (.ref x :: st) M := fun H locs ls hP hS hl => lv_astore_n C.1 C.2.1 hd hi hl hn hv (fun ls hl => k H locs ls hP hS hl)
theorem G_astore (C : Cx γ κ own cc nL d z) {i : Nat} {x : Nat} {lv' : List (Nat × Value)} (hd : decode cc pc = .ok (.astore i, 2)) (hn : i < nL) (hv : (i, Value.ref x) :: lv.filter (fun q => !(q.1 == i) && !(q.1 + 1 == i && q.2.category == 2)) = lv') (k : G γ κ nL z Q (pc + 2) lv' (st) M) : G γ κ nL z Q pc lv (.ref x :: st) M := fun H locs ls hP hS hl => lv_astore C.1 C.2.1 hd hl hn hv (fun ls hl => k H locs ls hP hS hl)
theorem G_iinc (C : Cx γ κ own cc nL d z) {i : Nat} {n : Int} {x v : Int32} {lv' : List (Nat × Value)} (j : Nat) (hd : decode cc pc = .ok (.iinc i n, 3)) (hx : lv[j]? = some (i, .int x)) (hv : x + Int32.ofInt n = v) (hn : i < nL) (hw : (i, Value.int v) :: lv.filter (fun q => !(q.1 == i) && !(q.1 + 1 == i && q.2.category == 2)) = lv') (k : G γ κ nL z Q (pc + 3) lv' (st) M) : G γ κ nL z Q pc lv (st) M := fun H locs ls hP hS hl => lv_iinc C.1 C.2.1 hd hl hx hv hn hw (fun ls hl => k H locs ls hP hS hl)
theorem G_iadd (C : Cx γ κ own cc nL d z) {x y : Int32} (hd : decode cc pc = .ok (.iadd, 1)) (k : G γ κ nL z Q (pc + 1) lv (.int (x + y) :: st) M) : G γ κ nL z Q pc lv (.int y :: .int x :: st) M := fun H locs ls hP hS hl => lv_iadd C.1 C.2.1 hd (k H locs ls hP hS hl)
theorem G_isub (C : Cx γ κ own cc nL d z) {x y : Int32} (hd : decode cc pc = .ok (.isub, 1)) (k : G γ κ nL z Q (pc + 1) lv (.int (x - y) :: st) M) : G γ κ nL z Q pc lv (.int y :: .int x :: st) M := fun H locs ls hP hS hl => lv_isub C.1 C.2.1 hd (k H locs ls hP hS hl)
theorem G_imul (C : Cx γ κ own cc nL d z) {x y : Int32} (hd : decode cc pc = .ok (.imul, 1)) (k : G γ κ nL z Q (pc + 1) lv (.int (x * y) :: st) M) : G γ κ nL z Q pc lv (.int y :: .int x :: st) M := fun H locs ls hP hS hl => lv_imul C.1 C.2.1 hd (k H locs ls hP hS hl)
theorem G_iand (C : Cx γ κ own cc nL d z) {x y : Int32} (hd : decode cc pc = .ok (.iand, 1)) (k : G γ κ nL z Q (pc + 1) lv (.int (x &&& y) :: st) M) : G γ κ nL z Q pc lv (.int y :: .int x :: st) M := fun H locs ls hP hS hl => lv_iand C.1 C.2.1 hd (k H locs ls hP hS hl)
theorem G_ladd (C : Cx γ κ own cc nL d z) {x y : Int64} (hd : decode cc pc = .ok (.ladd, 1)) (k : G γ κ nL z Q (pc + 1) lv (.long (x + y) :: st) M) : G γ κ nL z Q pc lv (.long y :: .long x :: st) M := fun H locs ls hP hS hl => lv_ladd C.1 C.2.1 hd (k H locs ls hP hS hl)
theorem G_lsub (C : Cx γ κ own cc nL d z) {x y : Int64} (hd : decode cc pc = .ok (.lsub, 1)) (k : G γ κ nL z Q (pc + 1) lv (.long (x - y) :: st) M) : G γ κ nL z Q pc lv (.long y :: .long x :: st) M := fun H locs ls hP hS hl => lv_lsub C.1 C.2.1 hd (k H locs ls hP hS hl)
theorem G_lmul (C : Cx γ κ own cc nL d z) {x y : Int64} (hd : decode cc pc = .ok (.lmul, 1)) (k : G γ κ nL z Q (pc + 1) lv (.long (x * y) :: st) M) : G γ κ nL z Q pc lv (.long y :: .long x :: st) M := fun H locs ls hP hS hl => lv_lmul C.1 C.2.1 hd (k H locs ls hP hS hl)
theorem G_ldiv (C : Cx γ κ own cc nL d z) {x y : Int64} (hd : decode cc pc = .ok (.ldiv, 1)) (hne : ¬ y = 0) (k : G γ κ nL z Q (pc + 1) lv (.long (x / y) :: st) M) : G γ κ nL z Q pc lv (.long y :: .long x :: st) M := fun H locs ls hP hS hl => lv_ldiv C.1 C.2.1 hd hne (k H locs ls hP hS hl)
theorem G_lrem (C : Cx γ κ own cc nL d z) {x y : Int64} (hd : decode cc pc = .ok (.lrem, 1)) (hne : ¬ y = 0) (k : G γ κ nL z Q (pc + 1) lv (.long (x - x / y * y) :: st) M) : G γ κ nL z Q pc lv (.long y :: .long x :: st) M := fun H locs ls hP hS hl => lv_lrem C.1 C.2.1 hd hne (k H locs ls hP hS hl)
theorem G_ineg (C : Cx γ κ own cc nL d z) {x : Int32} (hd : decode cc pc = .ok (.ineg, 1)) (k : G γ κ nL z Q (pc + 1) lv (.int (-x) :: st) M) : G γ κ nL z Q pc lv (.int x :: st) M := fun H locs ls hP hS hl => lv_ineg C.1 C.2.1 hd (k H locs ls hP hS hl)
theorem G_lneg (C : Cx γ κ own cc nL d z) {x : Int64} (hd : decode cc pc = .ok (.lneg, 1)) (k : G γ κ nL z Q (pc + 1) lv (.long (-x) :: st) M) : G γ κ nL z Q pc lv (.long x :: st) M := fun H locs ls hP hS hl => lv_lneg C.1 C.2.1 hd (k H locs ls hP hS hl)
theorem G_i2l (C : Cx γ κ own cc nL d z) {x : Int32} (hd : decode cc pc = .ok (.i2l, 1)) (k : G γ κ nL z Q (pc + 1) lv (.long x.toInt64 :: st) M) : G γ κ nL z Q pc lv (.int x :: st) M := fun H locs ls hP hS hl => lv_i2l C.1 C.2.1 hd rfl (k H locs ls hP hS hl)
theorem G_l2i (C : Cx γ κ own cc nL d z) {x : Int64} (hd : decode cc pc = .ok (.l2i, 1)) (k : G γ κ nL z Q (pc + 1) lv (.int x.toInt32 :: st) M) : G γ κ nL z Q pc lv (.long x :: st) M := fun H locs ls hP hS hl => lv_l2i C.1 C.2.1 hd rfl (k H locs ls hP hS hl)
theorem G_dup (C : Cx γ κ own cc nL d z) {a : Value} (hd : decode cc pc = .ok (.dup, 1)) (h1 : a.category = 1) (k : G γ κ nL z Q (pc + 1) lv (a :: a :: st) M) : G γ κ nL z Q pc lv (a :: st) M := fun H locs ls hP hS hl => lv_dup C.1 C.2.1 hd h1 (k H locs ls hP hS hl)
theorem G_pop (C : Cx γ κ own cc nL d z) {a : Value} (hd : decode cc pc = .ok (.pop, 1)) (h1 : a.category = 1) (k : G γ κ nL z Q (pc + 1) lv (st) M) : G γ κ nL z Q pc lv (a :: st) M := fun H locs ls hP hS hl => lv_pop C.1 C.2.1 hd h1 (k H locs ls hP hS hl)
theorem G_dup_x1 (C : Cx γ κ own cc nL d z) {a b : Value} (hd : decode cc pc = .ok (.dup_x1, 1)) (h1 : a.category = 1) (h2 : b.category = 1) (k : G γ κ nL z Q (pc + 1) lv (a :: b :: a :: st) M) : G γ κ nL z Q pc lv (a :: b :: st) M := fun H locs ls hP hS hl => lv_dup_x1 C.1 C.2.1 hd h1 h2 (k H locs ls hP hS hl)
theorem G_dup2 (C : Cx γ κ own cc nL d z) {a b : Value} (hd : decode cc pc = .ok (.dup2, 1)) (h1 : a.category = 1) (h2 : b.category = 1) (k : G γ κ nL z Q (pc + 1) lv (a :: b :: a :: b :: st) M) : G γ κ nL z Q pc lv (a :: b :: st) M := fun H locs ls hP hS hl => lv_dup2_11 C.1 C.2.1 hd h1 h2 (k H locs ls hP hS hl)
theorem G_goto (C : Cx γ κ own cc nL d z) {off : Int} {tgt : Nat} (hd : decode cc pc = .ok (.goto off, 3)) (ht : (pc : Int) + off = (tgt : Int)) (k : G γ κ nL z Q tgt lv (st) M) : G γ κ nL z Q pc lv (st) M := fun H locs ls hP hS hl => lv_goto C.1 C.2.1 hd ht (k H locs ls hP hS hl)
theorem G_null (C : Cx γ κ own cc nL d z)  (hd : decode cc pc = .ok (.aconst_null, 1)) (k : G γ κ nL z Q (pc + 1) lv (.null :: st) M) : G γ κ nL z Q pc lv (st) M := fun H locs ls hP hS hl => lv_null C.1 C.2.1 hd (k H locs ls hP hS hl)
theorem G_if_eq (C : Cx γ κ own cc nL d z) {x : Int32} {off : Int} {tgt : Nat} (hd : decode cc pc = .ok (.ifCond .eq off, 3)) (ht : (pc : Int) + off = (tgt : Int)) (kt : x = 0 → G γ κ nL z Q tgt lv st M) (kf : ¬ x = 0 → G γ κ nL z Q (pc + 3) lv st M) : G γ κ nL z Q pc lv (.int x :: st) M := fun H locs ls hP hS hl => lv_if_eq C.1 C.2.1 hd ht (fun q => kt q H locs ls hP hS hl) (fun q => kf q H locs ls hP hS hl)
theorem G_if_ne (C : Cx γ κ own cc nL d z) {x : Int32} {off : Int} {tgt : Nat} (hd : decode cc pc = .ok (.ifCond .ne off, 3)) (ht : (pc : Int) + off = (tgt : Int)) (kt : ¬ x = 0 → G γ κ nL z Q tgt lv st M) (kf : x = 0 → G γ κ nL z Q (pc + 3) lv st M) : G γ κ nL z Q pc lv (.int x :: st) M := fun H locs ls hP hS hl => lv_if_ne C.1 C.2.1 hd ht (fun q => kt q H locs ls hP hS hl) (fun q => kf q H locs ls hP hS hl)
theorem G_if_lt (C : Cx γ κ own cc nL d z) {x : Int32} {off : Int} {tgt : Nat} (hd : decode cc pc = .ok (.ifCond .lt off, 3)) (ht : (pc : Int) + off = (tgt : Int)) (kt : x < 0 → G γ κ nL z Q tgt lv st M) (kf : ¬ x < 0 → G γ κ nL z Q (pc + 3) lv st M) : G γ κ nL z Q pc lv (.int x :: st) M := fun H locs ls hP hS hl => lv_if_lt C.1 C.2.1 hd ht (fun q => kt q H locs ls hP hS hl) (fun q => kf q H locs ls hP hS hl)
theorem G_if_ge (C : Cx γ κ own cc nL d z) {x : Int32} {off : Int} {tgt : Nat} (hd : decode cc pc = .ok (.ifCond .ge off, 3)) (ht : (pc : Int) + off = (tgt : Int)) (kt : 0 ≤ x → G γ κ nL z Q tgt lv st M) (kf : ¬ 0 ≤ x → G γ κ nL z Q (pc + 3) lv st M) : G γ κ nL z Q pc lv (.int x :: st) M := fun H locs ls hP hS hl => lv_if_ge C.1 C.2.1 hd ht (fun q => kt q H locs ls hP hS hl) (fun q => kf q H locs ls hP hS hl)
theorem G_if_gt (C : Cx γ κ own cc nL d z) {x : Int32} {off : Int} {tgt : Nat} (hd : decode cc pc = .ok (.ifCond .gt off, 3)) (ht : (pc : Int) + off = (tgt : Int)) (kt : 0 < x → G γ κ nL z Q tgt lv st M) (kf : ¬ 0 < x → G γ κ nL z Q (pc + 3) lv st M) : G γ κ nL z Q pc lv (.int x :: st) M := fun H locs ls hP hS hl => lv_if_gt C.1 C.2.1 hd ht (fun q => kt q H locs ls hP hS hl) (fun q => kf q H locs ls hP hS hl)
theorem G_if_le (C : Cx γ κ own cc nL d z) {x : Int32} {off : Int} {tgt : Nat} (hd : decode cc pc = .ok (.ifCond .le off, 3)) (ht : (pc : Int) + off = (tgt : Int)) (kt : x ≤ 0 → G γ κ nL z Q tgt lv st M) (kf : ¬ x ≤ 0 → G γ κ nL z Q (pc + 3) lv st M) : G γ κ nL z Q pc lv (.int x :: st) M := fun H locs ls hP hS hl => lv_if_le C.1 C.2.1 hd ht (fun q => kt q H locs ls hP hS hl) (fun q => kf q H locs ls hP hS hl)
theorem G_icmp_eq (C : Cx γ κ own cc nL d z) {x y : Int32} {off : Int} {tgt : Nat} (hd : decode cc pc = .ok (.if_icmp .eq off, 3)) (ht : (pc : Int) + off = (tgt : Int)) (kt : x = y → G γ κ nL z Q tgt lv st M) (kf : ¬ x = y → G γ κ nL z Q (pc + 3) lv st M) : G γ κ nL z Q pc lv (.int y :: .int x :: st) M := fun H locs ls hP hS hl => lv_icmp_eq C.1 C.2.1 hd ht (fun q => kt q H locs ls hP hS hl) (fun q => kf q H locs ls hP hS hl)
theorem G_icmp_ne (C : Cx γ κ own cc nL d z) {x y : Int32} {off : Int} {tgt : Nat} (hd : decode cc pc = .ok (.if_icmp .ne off, 3)) (ht : (pc : Int) + off = (tgt : Int)) (kt : ¬ x = y → G γ κ nL z Q tgt lv st M) (kf : x = y → G γ κ nL z Q (pc + 3) lv st M) : G γ κ nL z Q pc lv (.int y :: .int x :: st) M := fun H locs ls hP hS hl => lv_icmp_ne C.1 C.2.1 hd ht (fun q => kt q H locs ls hP hS hl) (fun q => kf q H locs ls hP hS hl)
theorem G_icmp_lt (C : Cx γ κ own cc nL d z) {x y : Int32} {off : Int} {tgt : Nat} (hd : decode cc pc = .ok (.if_icmp .lt off, 3)) (ht : (pc : Int) + off = (tgt : Int)) (kt : x < y → G γ κ nL z Q tgt lv st M) (kf : ¬ x < y → G γ κ nL z Q (pc + 3) lv st M) : G γ κ nL z Q pc lv (.int y :: .int x :: st) M := fun H locs ls hP hS hl => lv_icmp_lt C.1 C.2.1 hd ht (fun q => kt q H locs ls hP hS hl) (fun q => kf q H locs ls hP hS hl)
theorem G_icmp_ge (C : Cx γ κ own cc nL d z) {x y : Int32} {off : Int} {tgt : Nat} (hd : decode cc pc = .ok (.if_icmp .ge off, 3)) (ht : (pc : Int) + off = (tgt : Int)) (kt : y ≤ x → G γ κ nL z Q tgt lv st M) (kf : ¬ y ≤ x → G γ κ nL z Q (pc + 3) lv st M) : G γ κ nL z Q pc lv (.int y :: .int x :: st) M := fun H locs ls hP hS hl => lv_icmp_ge C.1 C.2.1 hd ht (fun q => kt q H locs ls hP hS hl) (fun q => kf q H locs ls hP hS hl)
theorem G_icmp_gt (C : Cx γ κ own cc nL d z) {x y : Int32} {off : Int} {tgt : Nat} (hd : decode cc pc = .ok (.if_icmp .gt off, 3)) (ht : (pc : Int) + off = (tgt : Int)) (kt : y < x → G γ κ nL z Q tgt lv st M) (kf : ¬ y < x → G γ κ nL z Q (pc + 3) lv st M) : G γ κ nL z Q pc lv (.int y :: .int x :: st) M := fun H locs ls hP hS hl => lv_icmp_gt C.1 C.2.1 hd ht (fun q => kt q H locs ls hP hS hl) (fun q => kf q H locs ls hP hS hl)
theorem G_icmp_le (C : Cx γ κ own cc nL d z) {x y : Int32} {off : Int} {tgt : Nat} (hd : decode cc pc = .ok (.if_icmp .le off, 3)) (ht : (pc : Int) + off = (tgt : Int)) (kt : x ≤ y → G γ κ nL z Q tgt lv st M) (kf : ¬ x ≤ y → G γ κ nL z Q (pc + 3) lv st M) : G γ κ nL z Q pc lv (.int y :: .int x :: st) M := fun H locs ls hP hS hl => lv_icmp_le C.1 C.2.1 hd ht (fun q => kt q H locs ls hP hS hl) (fun q => kf q H locs ls hP hS hl)
theorem G_lcmp_eq (C : Cx γ κ own cc nL d z) {x y : Int64} {off : Int} {tgt pc1 : Nat} (hd0 : decode cc pc = .ok (.lcmp, 1)) (h1 : pc + 1 = pc1) (hd : decode cc pc1 = .ok (.ifCond .eq off, 3)) (ht : (pc1 : Int) + off = (tgt : Int)) (kt : x = y → G γ κ nL z Q tgt lv st M) (kf : ¬ x = y → G γ κ nL z Q (pc1 + 3) lv st M) : G γ κ nL z Q pc lv (.long y :: .long x :: st) M := fun H locs ls hP hS hl => by
  subst h1
  exact W.lcmp C.1 C.2.1 hd0 (lv_if_eq C.1 C.2.1 hd ht (fun q => kt ((lg_cmp_eq x y).mp q) H locs ls hP hS hl) (fun q => kf (fun w => q ((lg_cmp_eq x y).mpr w)) H locs ls hP hS hl))
theorem G_lcmp_ne (C : Cx γ κ own cc nL d z) {x y : Int64} {off : Int} {tgt pc1 : Nat} (hd0 : decode cc pc = .ok (.lcmp, 1)) (h1 : pc + 1 = pc1) (hd : decode cc pc1 = .ok (.ifCond .ne off, 3)) (ht : (pc1 : Int) + off = (tgt : Int)) (kt : ¬ x = y → G γ κ nL z Q tgt lv st M) (kf : x = y → G γ κ nL z Q (pc1 + 3) lv st M) : G γ κ nL z Q pc lv (.long y :: .long x :: st) M := fun H locs ls hP hS hl => by
  subst h1
  exact W.lcmp C.1 C.2.1 hd0 (lv_if_ne C.1 C.2.1 hd ht (fun q => kt (fun w => q ((lg_cmp_eq x y).mpr w)) H locs ls hP hS hl) (fun q => kf ((lg_cmp_eq x y).mp q) H locs ls hP hS hl))
theorem G_lcmp_lt (C : Cx γ κ own cc nL d z) {x y : Int64} {off : Int} {tgt pc1 : Nat} (hd0 : decode cc pc = .ok (.lcmp, 1)) (h1 : pc + 1 = pc1) (hd : decode cc pc1 = .ok (.ifCond .lt off, 3)) (ht : (pc1 : Int) + off = (tgt : Int)) (kt : x < y → G γ κ nL z Q tgt lv st M) (kf : ¬ x < y → G γ κ nL z Q (pc1 + 3) lv st M) : G γ κ nL z Q pc lv (.long y :: .long x :: st) M := fun H locs ls hP hS hl => by
  subst h1
  exact W.lcmp C.1 C.2.1 hd0 (lv_if_lt C.1 C.2.1 hd ht (fun q => kt ((lg_cmp_lt x y).mp q) H locs ls hP hS hl) (fun q => kf (fun w => q ((lg_cmp_lt x y).mpr w)) H locs ls hP hS hl))
theorem G_lcmp_ge (C : Cx γ κ own cc nL d z) {x y : Int64} {off : Int} {tgt pc1 : Nat} (hd0 : decode cc pc = .ok (.lcmp, 1)) (h1 : pc + 1 = pc1) (hd : decode cc pc1 = .ok (.ifCond .ge off, 3)) (ht : (pc1 : Int) + off = (tgt : Int)) (kt : y ≤ x → G γ κ nL z Q tgt lv st M) (kf : ¬ y ≤ x → G γ κ nL z Q (pc1 + 3) lv st M) : G γ κ nL z Q pc lv (.long y :: .long x :: st) M := fun H locs ls hP hS hl => by
  subst h1
  exact W.lcmp C.1 C.2.1 hd0 (lv_if_ge C.1 C.2.1 hd ht (fun q => kt ((lg_cmp_ge x y).mp q) H locs ls hP hS hl) (fun q => kf (fun w => q ((lg_cmp_ge x y).mpr w)) H locs ls hP hS hl))
theorem G_lcmp_gt (C : Cx γ κ own cc nL d z) {x y : Int64} {off : Int} {tgt pc1 : Nat} (hd0 : decode cc pc = .ok (.lcmp, 1)) (h1 : pc + 1 = pc1) (hd : decode cc pc1 = .ok (.ifCond .gt off, 3)) (ht : (pc1 : Int) + off = (tgt : Int)) (kt : y < x → G γ κ nL z Q tgt lv st M) (kf : ¬ y < x → G γ κ nL z Q (pc1 + 3) lv st M) : G γ κ nL z Q pc lv (.long y :: .long x :: st) M := fun H locs ls hP hS hl => by
  subst h1
  exact W.lcmp C.1 C.2.1 hd0 (lv_if_gt C.1 C.2.1 hd ht (fun q => kt ((lg_cmp_gt x y).mp q) H locs ls hP hS hl) (fun q => kf (fun w => q ((lg_cmp_gt x y).mpr w)) H locs ls hP hS hl))
theorem G_lcmp_le (C : Cx γ κ own cc nL d z) {x y : Int64} {off : Int} {tgt pc1 : Nat} (hd0 : decode cc pc = .ok (.lcmp, 1)) (h1 : pc + 1 = pc1) (hd : decode cc pc1 = .ok (.ifCond .le off, 3)) (ht : (pc1 : Int) + off = (tgt : Int)) (kt : x ≤ y → G γ κ nL z Q tgt lv st M) (kf : ¬ x ≤ y → G γ κ nL z Q (pc1 + 3) lv st M) : G γ κ nL z Q pc lv (.long y :: .long x :: st) M := fun H locs ls hP hS hl => by
  subst h1
  exact W.lcmp C.1 C.2.1 hd0 (lv_if_le C.1 C.2.1 hd ht (fun q => kt ((lg_cmp_le x y).mp q) H locs ls hP hS hl) (fun q => kf (fun w => q ((lg_cmp_le x y).mpr w)) H locs ls hP hS hl))
theorem G_sub (ks : List Nat) {lv' : List (Nat × Value)} (h : lv_pick lv ks = lv') (k : G γ κ nL z Q pc lv' st M) : G γ κ nL z Q pc lv st M := fun H locs ls hP hS hl => k H locs ls hP hS (lv_sub hl ks h)
theorem G_mem {M' : Mem} (h : M = M') (k : G γ κ nL z Q pc lv st M') : G γ κ nL z Q pc lv st M := h ▸ k
theorem wl_at {b : Nat} {E : Nat → va_E} {k : Nat} {e : va_E} (hk : k < 76) (he : E k = e) : (wl b E)[k]? = some (b + k, e) := (wl_get hk).trans (congrArg (fun e => some (b + k, e)) he)
theorem G_get (C : Cx γ κ own cc nL d z) {ci k j N idx : Nat} {CN : String} {T : u_T} {fs : List Value} {v : Value} (hk : k < 76) (he : shp κ k (M.1 k) (M.2 k) = .inr (ci, fs)) (hc : cls8[ci]? = some (CN, T, N)) (hj : j < N) (hin : ∀ w ∈ u_ws CN T N, w ∈ gw) (hlink : Cond.fieldLink own idx CN (T j).2.1 (T j).2.2.1 ∈ gw) (hsame : (T j).1 = CN) (hv : fs[j]? = some v) (hd : decode cc pc = .ok (.getfield idx, 3))
    (kk : G γ κ nL z Q (pc + 3) lv (v :: st) M) : G γ κ nL z Q pc lv (.ref (κ.1 + k) :: st) M := fun H locs ls hP hS hl =>
  va_get (D := κ.2.2) (cl := cls8) (tys := tysK κ) (ws := wl κ.1 (ents κ M)) (Ts := gw) C.1 C.2.1 C.2.2.2.2.1 hin C.2.2.2.1 C.2.2.2.2.2.1.1 hP k (wl_at hk he) hc j hj (C.2.2.2.2.1 _ hlink) (fun x h => by rw [hsame] at h; exact h) hv hd (kk H locs ls hP hS hl)
theorem G_putI (C : Cx γ κ own cc nL d z) {ci k j N idx : Nat} {CN : String} {T : u_T} {fs : List Value} {v : Int32} (hk : k < 76) (he : shp κ k (M.1 k) (M.2 k) = .inr (ci, fs)) (he2 : shp κ k (upd (M.1 k) j v) (M.2 k) = .inr (ci, fs.set j (.int v))) (hc : cls8[ci]? = some (CN, T, N)) (hj : j < N) (hin : ∀ w ∈ u_ws CN T N, w ∈ gw) (ty0 : Nat → FieldType) (hty : ∀ k, k < N → parseFieldDescriptor (T k).2.2.1 = some (ty0 k)) (hnm : ∀ a, a < N → ∀ b, b < N → a ≠ b → (T a).2.1 ≠ (T b).2.1) (hlink : Cond.fieldLink own idx CN (T j).2.1 (T j).2.2.1 ∈ gw) (hsame : (T j).1 = CN) (hfin : (T j).2.2.2 = false) (hde : parseFieldDescriptor (T j).2.2.1 = some .int) (hl : j < fs.length) (hd : decode cc pc = .ok (.putfield idx, 3))
    (kk : G γ κ nL z Q (pc + 3) lv st (wI M k j v)) : G γ κ nL z Q pc lv (.int v :: .ref (κ.1 + k) :: st) M := fun H locs ls hP hS hll =>
  va_put (D := κ.2.2) (cl := cls8) (tys := tysK κ) (ws := wl κ.1 (ents κ M)) (A := Ab κ) (Ts := gw) C.1 C.2.1 C.2.2.2.2.1 hin ty0 hty hnm C.2.2.2.1 C.2.2.2.2.2.1.1 hP wl_D hS k (wl_at hk he) hc j hj (C.2.2.2.2.1 _ hlink) (fun x h => by rw [hsame] at h; exact h) hfin hde rfl rfl hl hd
    (fun H1 locs1 hP1 _ hS1 => kk H1 locs1 ls (by rw [wl_set hk, ← he2, ← ents_I] at hP1; exact hP1) hS1 hll)
theorem G_putJ (C : Cx γ κ own cc nL d z) {ci k j N idx : Nat} {CN : String} {T : u_T} {fs : List Value} {v : Int64} (hk : k < 76) (he : shp κ k (M.1 k) (M.2 k) = .inr (ci, fs)) (he2 : shp κ k (M.1 k) (vp_updL (M.2 k) j v) = .inr (ci, fs.set j (.long v))) (hc : cls8[ci]? = some (CN, T, N)) (hj : j < N) (hin : ∀ w ∈ u_ws CN T N, w ∈ gw) (ty0 : Nat → FieldType) (hty : ∀ k, k < N → parseFieldDescriptor (T k).2.2.1 = some (ty0 k)) (hnm : ∀ a, a < N → ∀ b, b < N → a ≠ b → (T a).2.1 ≠ (T b).2.1) (hlink : Cond.fieldLink own idx CN (T j).2.1 (T j).2.2.1 ∈ gw) (hsame : (T j).1 = CN) (hfin : (T j).2.2.2 = false) (hde : parseFieldDescriptor (T j).2.2.1 = some .long) (hl : j < fs.length) (hd : decode cc pc = .ok (.putfield idx, 3))
    (kk : G γ κ nL z Q (pc + 3) lv st (wJ M k j v)) : G γ κ nL z Q pc lv (.long v :: .ref (κ.1 + k) :: st) M := fun H locs ls hP hS hll =>
  va_put (D := κ.2.2) (cl := cls8) (tys := tysK κ) (ws := wl κ.1 (ents κ M)) (A := Ab κ) (Ts := gw) C.1 C.2.1 C.2.2.2.2.1 hin ty0 hty hnm C.2.2.2.1 C.2.2.2.2.2.1.1 hP wl_D hS k (wl_at hk he) hc j hj (C.2.2.2.2.1 _ hlink) (fun x h => by rw [hsame] at h; exact h) hfin hde rfl rfl hl hd
    (fun H1 locs1 hP1 _ hS1 => kk H1 locs1 ls (by rw [wl_set hk, ← he2, ← ents_J] at hP1; exact hP1) hS1 hll)
theorem G_iaload (C : Cx γ κ own cc nL d z) {k n : Nat} (hk : k < 76) (hs : ∀ f g, shp κ k f g = eI κ n f) {i : Int32} (hin : vp_in i n) (hd : decode cc pc = .ok (.iaload, 1))
    (kk : G γ κ nL z Q (pc + 1) lv (.int (M.1 k i.toNatClampNeg) :: st) M) : G γ κ nL z Q pc lv (.int i :: .ref (κ.1 + k) :: st) M := fun H locs ls hP hS hl =>
  va_iald (D := κ.2.2) (cl := cls8) (tys := tysK κ) (ws := wl κ.1 (ents κ M)) C.1 C.2.1 C.2.2.2.2.2.1.1 hP k 0 (wl_at hk (hs _ _)) rfl hin hd (kk H locs ls hP hS hl)
theorem G_baload (C : Cx γ κ own cc nL d z) {k n : Nat} (hk : k < 76) (hs : ∀ f g, shp κ k f g = eZ κ n f) {i : Int32} (hin : vp_in i n) (hd : decode cc pc = .ok (.baload, 1))
    (kk : G γ κ nL z Q (pc + 1) lv (.int (M.1 k i.toNatClampNeg) :: st) M) : G γ κ nL z Q pc lv (.int i :: .ref (κ.1 + k) :: st) M := fun H locs ls hP hS hl =>
  va_zald (D := κ.2.2) (cl := cls8) (tys := tysK κ) (ws := wl κ.1 (ents κ M)) C.1 C.2.1 C.2.2.2.2.2.1.1 hP k 2 (wl_at hk (hs _ _)) rfl hin hd (kk H locs ls hP hS hl)
theorem G_laload (C : Cx γ κ own cc nL d z) {k n : Nat} (hk : k < 76) (hs : ∀ f g, shp κ k f g = eJ κ n g) {i : Int32} (hin : vp_in i n) (hd : decode cc pc = .ok (.laload, 1))
    (kk : G γ κ nL z Q (pc + 1) lv (.long (M.2 k i.toNatClampNeg) :: st) M) : G γ κ nL z Q pc lv (.int i :: .ref (κ.1 + k) :: st) M := fun H locs ls hP hS hl =>
  va_lald (D := κ.2.2) (cl := cls8) (tys := tysK κ) (ws := wl κ.1 (ents κ M)) C.1 C.2.1 C.2.2.2.2.2.1.1 hP k 1 (wl_at hk (hs _ _)) rfl hin hd (kk H locs ls hP hS hl)
theorem G_iastore (C : Cx γ κ own cc nL d z) {k n : Nat} (hk : k < 76) (hs : ∀ f g, shp κ k f g = eI κ n f) {i x : Int32} (hin : vp_in i n) (hd : decode cc pc = .ok (.iastore, 1))
    (kk : G γ κ nL z Q (pc + 1) lv st (wI M k i.toNatClampNeg x)) : G γ κ nL z Q pc lv (.int x :: .int i :: .ref (κ.1 + k) :: st) M := fun H locs ls hP hS hl =>
  va_iast (D := κ.2.2) (cl := cls8) (tys := tysK κ) (ws := wl κ.1 (ents κ M)) (A := Ab κ) C.1 C.2.1 C.2.2.2.2.2.1.1 hP wl_D hS k 0 (wl_at hk (hs _ _)) rfl hin hd
    (fun H1 locs1 hP1 _ hS1 => kk H1 locs1 ls (by rw [wl_set hk] at hP1; unfold Hp; rw [ents_I, hs]; exact hP1) hS1 hl)
theorem G_bastore (C : Cx γ κ own cc nL d z) {k n : Nat} (hk : k < 76) (hs : ∀ f g, shp κ k f g = eZ κ n f) {i x x2 : Int32} (hin : vp_in i n) (hx : vp_nar .boolean x = x2) (hd : decode cc pc = .ok (.bastore, 1))
    (kk : G γ κ nL z Q (pc + 1) lv st (wI M k i.toNatClampNeg x2)) : G γ κ nL z Q pc lv (.int x :: .int i :: .ref (κ.1 + k) :: st) M := fun H locs ls hP hS hl =>
  va_zast (D := κ.2.2) (cl := cls8) (tys := tysK κ) (ws := wl κ.1 (ents κ M)) (A := Ab κ) C.1 C.2.1 C.2.2.2.2.2.1.1 hP wl_D hS k 2 (wl_at hk (hs _ _)) rfl hin hd
    (fun H1 locs1 hP1 _ hS1 => kk H1 locs1 ls (by rw [wl_set hk, hx] at hP1; unfold Hp; rw [ents_I, hs]; exact hP1) hS1 hl)
theorem G_lastore (C : Cx γ κ own cc nL d z) {k n : Nat} (hk : k < 76) (hs : ∀ f g, shp κ k f g = eJ κ n g) {i : Int32} {x : Int64} (hin : vp_in i n) (hd : decode cc pc = .ok (.lastore, 1))
    (kk : G γ κ nL z Q (pc + 1) lv st (wJ M k i.toNatClampNeg x)) : G γ κ nL z Q pc lv (.long x :: .int i :: .ref (κ.1 + k) :: st) M := fun H locs ls hP hS hl =>
  va_last (D := κ.2.2) (cl := cls8) (tys := tysK κ) (ws := wl κ.1 (ents κ M)) (A := Ab κ) C.1 C.2.1 C.2.2.2.2.2.1.1 hP wl_D hS k 1 (wl_at hk (hs _ _)) rfl hin hd
    (fun H1 locs1 hP1 _ hS1 => kk H1 locs1 ls (by rw [wl_set hk] at hP1; unfold Hp; rw [ents_J, hs]; exact hP1) hS1 hl)
theorem G_alenI (C : Cx γ κ own cc nL d z) {k n : Nat} (hk : k < 76) (hs : ∀ f g, shp κ k f g = eI κ n f) (hd : decode cc pc = .ok (.arraylength, 1))
    (kk : G γ κ nL z Q (pc + 1) lv (.int (nI n) :: st) M) : G γ κ nL z Q pc lv (.ref (κ.1 + k) :: st) M := fun H locs ls hP hS hl =>
  va_alen (D := κ.2.2) (cl := cls8) (tys := tysK κ) (ws := wl κ.1 (ents κ M)) C.1 C.2.1 C.2.2.2.2.2.1.1 hP k 0 (wl_at hk (hs _ _)) rfl rfl hd (kk H locs ls hP hS hl)
theorem G_alenJ (C : Cx γ κ own cc nL d z) {k n : Nat} (hk : k < 76) (hs : ∀ f g, shp κ k f g = eJ κ n g) (hd : decode cc pc = .ok (.arraylength, 1))
    (kk : G γ κ nL z Q (pc + 1) lv (.int (nI n) :: st) M) : G γ κ nL z Q pc lv (.ref (κ.1 + k) :: st) M := fun H locs ls hP hS hl =>
  va_alen (D := κ.2.2) (cl := cls8) (tys := tysK κ) (ws := wl κ.1 (ents κ M)) C.1 C.2.1 C.2.2.2.2.2.1.1 hP k 1 (wl_at hk (hs _ _)) rfl rfl hd (kk H locs ls hP hS hl)
theorem G_aaF (C : Cx γ κ own cc nL d z) {i : Int32} (hin : vp_in i 12) (hd : decode cc pc = .ok (.aaload, 1))
    (kk : G γ κ nL z Q (pc + 1) lv (.ref (κ.1 + (32 + 2 * i.toNatClampNeg)) :: st) M) : G γ κ nL z Q pc lv (.int i :: .ref (κ.1 + 8) :: st) M := fun H locs ls hP hS hl =>
  va_aldq (D := κ.2.2) (cl := cls8) (tys := tysK κ) (ws := wl κ.1 (ents κ M)) C.1 C.2.1 C.2.2.2.2.2.1.1 hP 8 3 (wl_at (e := eF κ) (by decide) rfl) rfl hin hd (kk H locs ls hP hS hl)
theorem G_aaT (C : Cx γ κ own cc nL d z) {i : Int32} (hin : vp_in i 10) (hd : decode cc pc = .ok (.aaload, 1))
    (kk : G γ κ nL z Q (pc + 1) lv (.ref (κ.1 + (17 + i.toNatClampNeg)) :: st) M) : G γ κ nL z Q pc lv (.int i :: .ref (κ.1 + 16) :: st) M := fun H locs ls hP hS hl => by
  have hlt : i.toNatClampNeg < 10 := Nat.not_le.mp fun q => hin (Or.inr q)
  have hc : va_at κ.2.2 cls8 (κ.1 + 16, eT κ) H := hP 16 _ (wl_at (e := eT κ) (by decide) rfl)
  exact W.aald (v := .ref (κ.1 + (17 + i.toNatClampNeg))) C.1 C.2.1 hc ((C.2.2.2.2.2.1.1.2 4 _ rfl).1 10 (fun j => va_rf (some (κ.1 + (17 + j))))) rfl (fun q => by cases q) (by show ¬ (i < 0 ∨ (arrV _ _ _).slots.size ≤ _); rw [arrV_size]; exact hin) (by show (arrV _ _ _).slots[_]? = _; rw [arrV_read _ _ hlt]; rfl) rfl rfl hd (kk H locs ls hP hS hl)
/-- a form, or null -/
def fv (κ : Kp) (r : Option Nat) : Value := match r with
  | none => .null
  | some i => .ref (κ.1 + (32 + 2 * i))
theorem G_aload_nq (C : Cx γ κ own cc nL d z) {q : Fin 4} {i : Nat} {r : Option Nat} (n : Nat) (hd : decode cc pc = .ok (.aload_n q, 1)) (hi : (q : Nat) = i) (hx : lv[n]? = some (i, fv κ r)) (k : G γ κ nL z Q (pc + 1) lv (fv κ r :: st) M) : G γ κ nL z Q pc lv st M := fun H locs ls hP hS hl => by
  cases r with
  | none => exact lv_aload_nN C.1 C.2.1 hd hi (lv_at hl n hx) (k H locs ls hP hS hl)
  | some j => exact lv_aload_n C.1 C.2.1 hd hi (lv_at hl n hx) (k H locs ls hP hS hl)
theorem G_aloadq (C : Cx γ κ own cc nL d z) {i : Nat} {r : Option Nat} (n : Nat) (hd : decode cc pc = .ok (.aload i, 2)) (hx : lv[n]? = some (i, fv κ r)) (k : G γ κ nL z Q (pc + 2) lv (fv κ r :: st) M) : G γ κ nL z Q pc lv st M := fun H locs ls hP hS hl => by
  cases r with
  | none => exact lv_aloadN C.1 C.2.1 hd (lv_at hl n hx) (k H locs ls hP hS hl)
  | some j => exact lv_aload C.1 C.2.1 hd (lv_at hl n hx) (k H locs ls hP hS hl)
theorem G_astore_nq (C : Cx γ κ own cc nL d z) {q : Fin 4} {i : Nat} {r : Option Nat} {lv' : List (Nat × Value)} (hd : decode cc pc = .ok (.astore_n q, 1)) (hi : (q : Nat) = i) (hn : i < nL) (hv : (i, fv κ r) :: lv.filter (fun q => !(q.1 == i) && !(q.1 + 1 == i && q.2.category == 2)) = lv') (k : G γ κ nL z Q (pc + 1) lv' st M) : G γ κ nL z Q pc lv (fv κ r :: st) M := fun H locs ls hP hS hl => by
  cases r with
  | none => exact lv_astore_nN C.1 C.2.1 hd hi hl hn hv (fun ls hl => k H locs ls hP hS hl)
  | some j => exact lv_astore_n C.1 C.2.1 hd hi hl hn hv (fun ls hl => k H locs ls hP hS hl)
theorem G_astoreq (C : Cx γ κ own cc nL d z) {i : Nat} {r : Option Nat} {lv' : List (Nat × Value)} (hd : decode cc pc = .ok (.astore i, 2)) (hn : i < nL) (hv : (i, fv κ r) :: lv.filter (fun q => !(q.1 == i) && !(q.1 + 1 == i && q.2.category == 2)) = lv') (k : G γ κ nL z Q (pc + 2) lv' st M) : G γ κ nL z Q pc lv (fv κ r :: st) M := fun H locs ls hP hS hl => by
  cases r with
  | none => exact lv_astoreN C.1 C.2.1 hd hl hn hv (fun ls hl => k H locs ls hP hS hl)
  | some j => exact lv_astore C.1 C.2.1 hd hl hn hv (fun ls hl => k H locs ls hP hS hl)
theorem G_ifnullq (C : Cx γ κ own cc nL d z) {r : Option Nat} {off : Int} {tgt : Nat} (hd : decode cc pc = .ok (.ifnull off, 3)) (ht : (pc : Int) + off = (tgt : Int)) (kt : r = none → G γ κ nL z Q tgt lv st M) (kf : ∀ i, r = some i → G γ κ nL z Q (pc + 3) lv st M) : G γ κ nL z Q pc lv (fv κ r :: st) M := fun H locs ls hP hS hl => by
  cases r with
  | none => exact lv_ifnullN C.1 C.2.1 hd ht (kt rfl H locs ls hP hS hl)
  | some j => exact lv_ifnull C.1 C.2.1 hd (kf j rfl H locs ls hP hS hl)
theorem G_ifnonnullq (C : Cx γ κ own cc nL d z) {r : Option Nat} {off : Int} {tgt : Nat} (hd : decode cc pc = .ok (.ifnonnull off, 3)) (ht : (pc : Int) + off = (tgt : Int)) (kt : ∀ i, r = some i → G γ κ nL z Q tgt lv st M) (kf : r = none → G γ κ nL z Q (pc + 3) lv st M) : G γ κ nL z Q pc lv (fv κ r :: st) M := fun H locs ls hP hS hl => by
  cases r with
  | none => exact lv_ifnonnullN C.1 C.2.1 hd (kf rfl H locs ls hP hS hl)
  | some j => exact lv_ifnonnull C.1 C.2.1 hd ht (kt j rfl H locs ls hP hS hl)
/-! calls -/
/-- a method's own words; n: how many parameters -/
def Yw (y : MethodName) (bytes : ByteArray) (mL : Nat) (ret : Option FieldType) (n : Nat) : Prop :=
  Cond.code y bytes mL ret ∈ gw ∧ Cond.initialized y.cls ∈ gw ∧ (y.cls ≠ "java/lang/invoke/MethodHandle" ∧ y.cls ≠ "java/lang/invoke/VarHandle" ∧ (parseMethodDescriptor y.desc).map (fun d => d.parameters.length) = some n) ∧ mL ≤ 26
theorem Yw_good {y : MethodName} {bytes : ByteArray} {mL : Nat} {ret : Option FieldType} (h : Cond.code y bytes mL ret ∈ gw) : GoodIn gw (Cond.code y bytes mL ret :: gw) := fun w hw => by
  rcases List.mem_cons.mp hw with e | e
  · rw [e]; exact ⟨h, good_of_word (gw_good _ h)⟩
  · exact ⟨e, good_of_word (gw_good _ e)⟩
theorem pc_blind {κ : Kp} {As : List Value} {M : Mem} : FrameBlind (va_Pc As (fun U => Hp κ M U.heap ∧ KK κ U)) := fun a U g mk q => by
  obtain ⟨q0, q1, q2⟩ := q
  exact ⟨q0, q1, q2.same (U := U.calling g mk a) rfl⟩
theorem G_run {H : Heap} {locs : List Loc} {ls : Array Slot} {st0 rest : List Value} {a : Array Value} {post : Option Value → Mem → Prop} (hS : va_S (Ab κ) γ.2.2.2.2.1.heap H locs) (hl : lv_has ls nL lv)
    (hr : va_Run γ.1 γ.2.1 γ.2.2.1 γ.2.2.2.1 γ.2.2.2.2.1 γ.2.2.2.2.2.1 γ.2.2.2.2.2.2.1 γ.2.2.2.2.2.2.2.1 γ.2.2.2.2.2.2.2.2.1 γ.2.2.2.2.2.2.2.2.2 H locs z.1 z.2 0 0 (F0 γ.2.2.2.2.2.1 pc ls st0) rest (qcc κ post a) (Ab κ))
    (kk : ∀ v M', post v M' → G γ κ nL z Q (pc + 3) lv (v.toList ++ rest) M') :
    W γ.1 γ.2.1 γ.2.2.1 γ.2.2.2.1 γ.2.2.2.2.1 γ.2.2.2.2.2.1 γ.2.2.2.2.2.2.1 γ.2.2.2.2.2.2.2.1 γ.2.2.2.2.2.2.2.2.1 γ.2.2.2.2.2.2.2.2.2 H locs z.1 z.2 Q (F0 γ.2.2.2.2.2.1 pc ls st0) := by
  intro T hT X
  obtain ⟨v, st₀, t, T', L, h0, X', hL, e1, e2, ⟨⟨v', M', hv, hp, hh⟩, hz, hk⟩, stp⟩ := hr T hT X
  cases hv
  rw [h0] at hz hk
  obtain ⟨t2, a1, b1⟩ := kk v M' hp T'.heap (locs ++ L) ls (by rw [e1]; exact hh)
    ⟨Nat.le_trans hS.1 (by rw [e1]; exact hz), fun q h1 h2 => by rw [e1, hk q (Nat.lt_of_lt_of_le h1 hS.1) h2]; exact hS.2.1 q h1 h2, fun q hq => by
      rcases List.mem_append.mp hq with h | h
      · exact hS.2.2 q h
      · exact hL q h⟩ hl T' rfl X'
  exact ⟨t2, stp t2 a1, b1⟩
theorem rm_fit {R : Room} {d dc mL : Nat} (h : d ≤ R.frames ∧ 45 * d ≤ R.locals) (h1 : dc + 1 ≤ d) (h2 : mL ≤ 26) : (rmd dc).frames + 1 ≤ R.frames ∧ 8 + (mL + 11) + (rmd dc).locals ≤ R.locals := by
  simp only [rmd]; omega
theorem rm_sum {m : MethodId} {ls : Array Slot} {st rest : List Value} (h : (rest.map fun v => v.category).sum ≤ 8) : 2 * (F0 m pc ls st).monitorRoom + (rest.map fun v => v.category).sum ≤ 8 := lv_room h
theorem G_callV (C : Cx γ κ own cc nL d z) {y : MethodName} {bytes : ByteArray} {mL dc k ci idx n : Nat} {ret : Option FieldType} {As rest st0 : List Value} {fs : List Value} {q : vw_C} {post : Option Value → Mem → Prop}
    (hM : Ct γ.2.1 κ y bytes mL ret dc (.ref (κ.1 + k) :: As) M post) (hY : Yw y bytes mL ret n) (hi : Cond.instanceMethod y ∈ gw) (hs : Cond.selects y.cls y y ∈ gw) (hlk : Cond.methodLink own idx y ∈ gw) (hdc : dc + 1 ≤ d) (hn : As.length = n)
    (hk : k < 76) (he : shp κ k (M.1 k) (M.2 k) = .inr (ci, fs)) (hc : cls8[ci]? = some q) (hq : q.1 = y.cls) (hst : st0 = As.reverse ++ .ref (κ.1 + k) :: rest) (hrm : (rest.map fun v => v.category).sum ≤ 8) (hd : decode cc pc = .ok (.invokevirtual idx, 3))
    (kk : ∀ v M', post v M' → G γ κ nL z Q (pc + 3) lv (v.toList ++ rest) M') : G γ κ nL z Q pc lv st0 M := fun H locs ls hP hS hl => by
  have hrec := va_recv (q0 := k) C.2.2.2.2.2.1.1 hP hc (wl_at hk he)
  rw [hq] at hrec
  exact G_run hS hl (va_runV (As := As) (rest := rest) (n := n) (Ts := gw) (own := own) (C := y.cls) ⟨C.1, C.2.1, C.2.2.1, C.2.2.2.1, C.2.2.2.2.1⟩ hM
    ⟨callB_of n C.2.2.2.2.1 (Yw_good hY.1) rfl rfl rfl (C.2.2.2.2.1 _ hY.2.1) (C.2.2.2.2.1 _ hlk) hY.2.2.1 (rm_fit C.2.2.2.2.2.2.1 hdc hY.2.2.2), C.2.2.2.2.1 _ hi, C.2.2.2.2.1 _ hs⟩
    ⟨pc_blind, hrec, fun U hU hW => ⟨rfl, by rw [hU]; exact hP, C.2.2.2.2.2.1.warm hW⟩⟩ rfl hn hl.1 hst (rm_sum hrm) hd ⟨C.2.2.2.2.2.2.2.1, C.2.2.2.2.2.2.2.2⟩) kk
theorem G_callS (C : Cx γ κ own cc nL d z) {y : MethodName} {bytes : ByteArray} {mL dc idx n : Nat} {ret : Option FieldType} {As rest st0 : List Value} {post : Option Value → Mem → Prop}
    (hM : Ct γ.2.1 κ y bytes mL ret dc As M post) (hY : Yw y bytes mL ret n) (hs : Cond.static y ∈ gw) (hlk : Cond.methodLink own idx y ∈ gw) (hdc : dc + 1 ≤ d) (hn : As.length = n)
    (hst : st0 = As.reverse ++ rest) (hrm : (rest.map fun v => v.category).sum ≤ 8) (hd : decode cc pc = .ok (.invokestatic idx, 3))
    (kk : ∀ v M', post v M' → G γ κ nL z Q (pc + 3) lv (v.toList ++ rest) M') : G γ κ nL z Q pc lv st0 M := fun H locs ls hP hS hl => by
  exact G_run hS hl (va_runS (As := As) (rest := rest) (n := n) (Ts := gw) (own := own) ⟨C.1, C.2.1, C.2.2.1, C.2.2.2.1, C.2.2.2.2.1⟩ hM
    ⟨callB_of n C.2.2.2.2.1 (Yw_good hY.1) rfl rfl rfl (C.2.2.2.2.1 _ hY.2.1) (C.2.2.2.2.1 _ hlk) hY.2.2.1 (rm_fit C.2.2.2.2.2.2.1 hdc hY.2.2.2), C.2.2.2.2.1 _ hs⟩
    ⟨pc_blind, fun U hU hW => ⟨rfl, by rw [hU]; exact hP, C.2.2.2.2.2.1.warm hW⟩⟩ rfl hn hl.1 hst (rm_sum hrm) hd ⟨C.2.2.2.2.2.2.2.1, C.2.2.2.2.2.2.2.2⟩) kk
theorem G_callSN (C : Cx γ κ own cc nL d z) {y : MethodName} {host : String} {bytes : ByteArray} {mL dc idx n : Nat} {ret : Option FieldType} {As rest st0 : List Value} {post : Option Value → Mem → Prop}
    (hM : Ct γ.2.1 κ y bytes mL ret dc As M post) (hY : Yw y bytes mL ret n) (hs : Cond.static y ∈ gw) (hlk : (own, idx, y, host) ∈ nestW) (hdc : dc + 1 ≤ d) (hn : As.length = n)
    (hst : st0 = As.reverse ++ rest) (hrm : (rest.map fun v => v.category).sum ≤ 8) (hd : decode cc pc = .ok (.invokestatic idx, 3))
    (kk : ∀ v M', post v M' → G γ κ nL z Q (pc + 3) lv (v.toList ++ rest) M') : G γ κ nL z Q pc lv st0 M := fun H locs ls hP hS hl => by
  exact G_run hS hl (va_runSN (As := As) (rest := rest) (n := n) (Ts := gw) (own := own) ⟨C.1, C.2.1, C.2.2.1, C.2.2.2.1, C.2.2.2.2.1⟩ hM
    ⟨va_cnB n C.2.2.2.2.1 (Yw_good hY.1) rfl rfl rfl (C.2.2.2.2.2.1.2 _ hlk) (C.2.2.2.2.1 _ hY.2.1) hY.2.2.1 (rm_fit C.2.2.2.2.2.2.1 hdc hY.2.2.2), C.2.2.2.2.1 _ hs, trivial⟩
    ⟨pc_blind, fun U hU hW => ⟨rfl, by rw [hU]; exact hP, C.2.2.2.2.2.1.warm hW⟩⟩ rfl hn hl.1 hst (rm_sum hrm) hd ⟨C.2.2.2.2.2.2.2.1, C.2.2.2.2.2.2.2.2⟩) kk
/-! returns -/
theorem G_iret (C : Cx γ κ own cc nL d (0, 0)) (R : Rt γ (some .int)) {v : Int32} {post : Option Value → Mem → Prop} (hd : decode cc pc = .ok (.ireturn, 1)) (hp : post (some (.int v)) M) : G γ κ nL (0, 0) (Gq γ κ post) pc lv [.int v] M := fun H locs ls hP hS hl =>
  W.iret (hlocks := R.2) C.1 C.2.1 R.1 (fun t ht hW => ⟨⟨_, M, rfl, hp, by rw [ht]; exact hP⟩, hS.F ht⟩) hS.2.2 hd
theorem G_zret (C : Cx γ κ own cc nL d (0, 0)) (R : Rt γ (some .boolean)) {v : Int32} {post : Option Value → Mem → Prop} (hn : narrow .boolean (.int v) = .int v) (hd : decode cc pc = .ok (.ireturn, 1)) (hp : post (some (.int v)) M) : G γ κ nL (0, 0) (Gq γ κ post) pc lv [.int v] M := fun H locs ls hP hS hl =>
  W.zret (hlocks := R.2) C.1 C.2.1 R.1 hn (fun t ht hW => ⟨⟨_, M, rfl, hp, by rw [ht]; exact hP⟩, hS.F ht⟩) hS.2.2 hd
theorem G_lret (C : Cx γ κ own cc nL d (0, 0)) (R : Rt γ (some .long)) {v : Int64} {post : Option Value → Mem → Prop} (hd : decode cc pc = .ok (.lreturn, 1)) (hp : post (some (.long v)) M) : G γ κ nL (0, 0) (Gq γ κ post) pc lv [.long v] M := fun H locs ls hP hS hl =>
  W.lret (hlocks := R.2) C.1 C.2.1 R.1 (fun t ht hW => ⟨⟨_, M, rfl, hp, by rw [ht]; exact hP⟩, hS.F ht⟩) hS.2.2 hd
theorem G_vret (C : Cx γ κ own cc nL d (0, 0)) (R : Rt γ none) {post : Option Value → Mem → Prop} (hd : decode cc pc = .ok (.return_, 1)) (hp : post none M) : G γ κ nL (0, 0) (Gq γ κ post) pc lv [] M := fun H locs ls hP hS hl =>
  W.vret (hlocks := R.2) C.1 C.2.1 R.1 (fun t ht hW => ⟨⟨_, M, rfl, hp, by rw [ht]; exact hP⟩, hS.F ht⟩) hS.2.2 hd
theorem G_aret (C : Cx γ κ own cc nL d (0, 0)) {cn : String} (R : Rt γ (some (.object cn))) {r : Option Nat} {post : Option Value → Mem → Prop} (hd : decode cc pc = .ok (.areturn, 1)) (hp : post (some (fv κ r)) M) : G γ κ nL (0, 0) (Gq γ κ post) pc lv [fv κ r] M := fun H locs ls hP hS hl =>
  W.aret (hlocks := R.2) C.1 C.2.1 R.1 (Or.inl ⟨_, rfl⟩) (by cases r; exact Or.inl rfl; exact Or.inr ⟨_, rfl⟩) (fun t ht hW => ⟨⟨_, M, rfl, hp, by rw [ht]; exact hP⟩, hS.F ht⟩) hS.2.2 hd
/-! what the answers are -/
def pI (p : Int32 → Mem → Prop) : Option Value → Mem → Prop := fun v M => ∃ r, v = some (.int r) ∧ p r M
def pJ (p : Int64 → Mem → Prop) : Option Value → Mem → Prop := fun v M => ∃ r, v = some (.long r) ∧ p r M
def pV (p : Mem → Prop) : Option Value → Mem → Prop := fun v M => v = none ∧ p M
def pF (κ : Kp) (p : Option Nat → Mem → Prop) : Option Value → Mem → Prop := fun v M => ∃ r, v = some (fv κ r) ∧ p r M

end GR
end
section
/-! more rows: fields, words, answers (printed by program) -/
theorem vp_lt {i : Int32} {n : Nat} (h : vp_in i n) : i.toNatClampNeg < n := Nat.not_le.mp fun q => h (Or.inr q)
theorem w_max : Cond.static Lib.Math.max.name ∈ gw ∧ Cond.code Lib.Math.max.name Lib.Math.max.code 2 (some .int) ∈ gw := ⟨gw_t 231 (by decide +kernel) (by decide +kernel), gw_t 232 (by decide +kernel) (by decide +kernel)⟩
theorem w_min : Cond.static Lib.Math.min.name ∈ gw ∧ Cond.code Lib.Math.min.name Lib.Math.min.code 2 (some .int) ∈ gw := ⟨gw_t 228 (by decide +kernel) (by decide +kernel), gw_t 229 (by decide +kernel) (by decide +kernel)⟩
theorem w_abs : Cond.static Lib.MathLoose.abs_long.x ∈ gw ∧ Cond.code Lib.MathLoose.abs_long.x Lib.MathLoose.abs_long.code 2 (some .long) ∈ gw := ⟨gw_t 416 (by decide +kernel) (by decide +kernel), gw_t 417 (by decide +kernel) (by decide +kernel)⟩
theorem w_math : Cond.initialized "java/lang/Math" ∈ gw := gw_t 10 (by decide +kernel) (by decide +kernel)
section GR2
variable {γ : Gm} {κ : Kp} {own : String} {cc : ByteArray} {nL d : Nat} {z : Nat × Nat} {Q : State → Prop} {pc : Nat} {lv : List (Nat × Value)} {st rest : List Value} {M : Mem}
theorem ki_ {p : Int32 → Mem → Prop} (kk : ∀ r M', p r M' → G γ κ nL z Q pc lv (.int r :: rest) M') : ∀ v M', pI p v M' → G γ κ nL z Q pc lv (v.toList ++ rest) M' := by
  rintro v M' ⟨r, rfl, h⟩
  exact kk r M' h
theorem kj_ {p : Int64 → Mem → Prop} (kk : ∀ r M', p r M' → G γ κ nL z Q pc lv (.long r :: rest) M') : ∀ v M', pJ p v M' → G γ κ nL z Q pc lv (v.toList ++ rest) M' := by
  rintro v M' ⟨r, rfl, h⟩
  exact kk r M' h
theorem kv_ {p : Mem → Prop} (kk : ∀ M', p M' → G γ κ nL z Q pc lv rest M') : ∀ v M', pV p v M' → G γ κ nL z Q pc lv (v.toList ++ rest) M' := by
  rintro v M' ⟨rfl, h⟩
  exact kk M' h
theorem kf_ {p : Option Nat → Mem → Prop} (kk : ∀ r M', p r M' → G γ κ nL z Q pc lv (fv κ r :: rest) M') : ∀ v M', pF κ p v M' → G γ κ nL z Q pc lv (v.toList ++ rest) M' := by
  rintro v M' ⟨r, rfl, h⟩
  exact kk r M' h
theorem G_ifnullR (C : Cx γ κ own cc nL d z) {x : Nat} {off : Int} (hd : decode cc pc = .ok (.ifnull off, 3)) (k : G γ κ nL z Q (pc + 3) lv st M) : G γ κ nL z Q pc lv (.ref x :: st) M := fun H locs ls hP hS hl => lv_ifnull C.1 C.2.1 hd (k H locs ls hP hS hl)
theorem G_ifnonnullR (C : Cx γ κ own cc nL d z) {x : Nat} {off : Int} {tgt : Nat} (hd : decode cc pc = .ok (.ifnonnull off, 3)) (ht : (pc : Int) + off = (tgt : Int)) (k : G γ κ nL z Q tgt lv st M) : G γ κ nL z Q pc lv (.ref x :: st) M := fun H locs ls hP hS hl => lv_ifnonnull C.1 C.2.1 hd ht (k H locs ls hP hS hl)
theorem G_switch (C : Cx γ κ own cc nL d z) {x : Int32} {dflt h2 : Int} {offs : Array Int} {len hi dt : Nat} {tg : Nat → Nat} (hd : decode cc pc = .ok (.tableswitch dflt 0 h2 offs, len)) (h1 : h2 = (hi : Int) ∧ hi < 2 ^ 31 ∧ (pc : Int) + dflt = (dt : Int)) (ht : (List.range (hi + 1)).all (fun i => offs[i]? == some ((tg i : Int) - (pc : Int))) = true)
    (kin : ∀ i : Nat, i < hi + 1 → x = nI i → G γ κ nL z Q (tg i) lv st M) (kout : (x.toInt < 0 ∨ (hi : Int) < x.toInt) → G γ κ nL z Q dt lv st M) : G γ κ nL z Q pc lv (.int x :: st) M := fun H locs ls hP hS hl => by
  obtain ⟨rfl, h31, hdt⟩ := h1
  by_cases h : x.toInt < 0 ∨ (hi : Int) < x.toInt
  · exact lv_tableOut C.1 C.2.1 hd h hdt (kout h H locs ls hP hS hl)
  · have ha : ¬ x.toInt < 0 := fun q => h (Or.inl q)
    have hb : ¬ (hi : Int) < x.toInt := fun q => h (Or.inr q)
    obtain ⟨j, hj⟩ : ∃ j : Nat, x.toInt = (j : Int) := ⟨x.toInt.toNat, by omega⟩
    have hjh : j < hi + 1 := by omega
    have e1 : x = nI j := Int32.toInt_inj.mp (by rw [hj, nI_toInt (by omega)])
    have e2 := List.all_eq_true.mp ht j (List.mem_range.mpr hjh)
    have e3 : offs[(x.toInt - 0).toNat]? = some ((tg j : Int) - (pc : Int)) := by
      have : (x.toInt - 0).toNat = j := by omega
      rw [this]; exact eq_of_beq e2
    exact lv_tableIn C.1 C.2.1 hd ha hb e3 (by omega) (kin j hjh e1 H locs ls hP hS hl)
theorem G_max (C : Cx γ κ own cc nL d z) {idx : Nat} {x y : Int32} (hw : Cond.methodLink own idx y_Mat_max ∈ gw) (h1 : 1 ≤ d) (hrm : (st.map fun v => v.category).sum ≤ 8) (hd : decode cc pc = .ok (.invokestatic idx, 3)) (k : G γ κ nL z Q (pc + 3) lv (.int (if x < y then y else x) :: st) M) : G γ κ nL z Q pc lv (.int y :: .int x :: st) M := fun H locs ls hP hS hl => va_mmax C.1 C.2.1 (C.2.2.1.trans hl.1.symm) C.2.2.2.1 (C.2.2.2.2.1 _ hw) (C.2.2.2.2.1 _ w_max.1) (C.2.2.2.2.1 _ w_math) (C.2.2.2.2.1 _ w_max.2) (Nat.le_trans h1 C.2.2.2.2.2.2.1.1) (Nat.le_trans (by omega) C.2.2.2.2.2.2.1.2) C.2.2.2.2.2.2.2.1 C.2.2.2.2.2.2.2.2 hd (k H locs ls hP hS hl)
theorem G_min (C : Cx γ κ own cc nL d z) {idx : Nat} {x y : Int32} (hw : Cond.methodLink own idx y_Mat_min ∈ gw) (h1 : 1 ≤ d) (hrm : (st.map fun v => v.category).sum ≤ 8) (hd : decode cc pc = .ok (.invokestatic idx, 3)) (k : G γ κ nL z Q (pc + 3) lv (.int (if y < x then y else x) :: st) M) : G γ κ nL z Q pc lv (.int y :: .int x :: st) M := fun H locs ls hP hS hl => va_mmin C.1 C.2.1 (C.2.2.1.trans hl.1.symm) C.2.2.2.1 (C.2.2.2.2.1 _ hw) (C.2.2.2.2.1 _ w_min.1) (C.2.2.2.2.1 _ w_math) (C.2.2.2.2.1 _ w_min.2) (Nat.le_trans h1 C.2.2.2.2.2.2.1.1) (Nat.le_trans (by omega) C.2.2.2.2.2.2.1.2) C.2.2.2.2.2.2.2.1 C.2.2.2.2.2.2.2.2 hd (k H locs ls hP hS hl)
theorem G_abs (C : Cx γ κ own cc nL d z) {idx : Nat} {x : Int64} (hw : Cond.methodLink own idx y_Mat_abs ∈ gw) (h1 : 1 ≤ d) (hrm : (st.map fun v => v.category).sum ≤ 8) (hd : decode cc pc = .ok (.invokestatic idx, 3)) (k : G γ κ nL z Q (pc + 3) lv (.long (if 0 < x then x else -x) :: st) M) : G γ κ nL z Q pc lv (.long x :: st) M := fun H locs ls hP hS hl => va_mabs_long C.1 C.2.1 (C.2.2.1.trans hl.1.symm) C.2.2.2.1 (C.2.2.2.2.1 _ hw) (C.2.2.2.2.1 _ w_abs.1) (C.2.2.2.2.1 _ w_math) (C.2.2.2.2.1 _ w_abs.2) (Nat.le_trans h1 C.2.2.2.2.2.2.1.1) (Nat.le_trans (by omega) C.2.2.2.2.2.2.1.2) C.2.2.2.2.2.2.2.1 C.2.2.2.2.2.2.2.2 hd (k H locs ls hP hS hl)
theorem Gg_Bal_size (C : Cx γ κ own cc nL d z) {idx : Nat} (hw : Cond.fieldLink own idx "NetForms$Balance" "size" "I" ∈ gw) (hd : decode cc pc = .ok (.getfield idx, 3)) (k : G γ κ nL z Q (pc + 3) lv (.int (M.1 15 0) :: st) M) : G γ κ nL z Q pc lv (.ref (κ.1 + 15) :: st) M := G_get C (ci := 0) (k := 15) (j := 0) (CN := R_Bal) (T := T_Bal) (N := 5) (by decide) rfl rfl (by decide) in_Bal hw rfl rfl hd k
theorem Gp_Bal_size (C : Cx γ κ own cc nL d z) {idx : Nat} {v : Int32} (hw : Cond.fieldLink own idx "NetForms$Balance" "size" "I" ∈ gw) (hd : decode cc pc = .ok (.putfield idx, 3)) (k : G γ κ nL z Q (pc + 3) lv st (wI M 15 0 v)) : G γ κ nL z Q pc lv (.int v :: .ref (κ.1 + 15) :: st) M := G_putI C (ci := 0) (k := 15) (j := 0) (CN := R_Bal) (T := T_Bal) (N := 5) (by decide) rfl rfl rfl (by decide) in_Bal ty_Bal tk_Bal nm_Bal hw rfl rfl (by decide +kernel) (Nat.le_of_ble_eq_true rfl) hd k
theorem Gg_Bal_table (C : Cx γ κ own cc nL d z) {idx : Nat} (hw : Cond.fieldLink own idx "NetForms$Balance" "table" "[[J" ∈ gw) (hd : decode cc pc = .ok (.getfield idx, 3)) (k : G γ κ nL z Q (pc + 3) lv (.ref (κ.1 + 16) :: st) M) : G γ κ nL z Q pc lv (.ref (κ.1 + 15) :: st) M := G_get C (ci := 0) (k := 15) (j := 1) (CN := R_Bal) (T := T_Bal) (N := 5) (by decide) rfl rfl (by decide) in_Bal hw rfl rfl hd k
theorem Gg_Bal_dues (C : Cx γ κ own cc nL d z) {idx : Nat} (hw : Cond.fieldLink own idx "NetForms$Balance" "dues" "[J" ∈ gw) (hd : decode cc pc = .ok (.getfield idx, 3)) (k : G γ κ nL z Q (pc + 3) lv (.ref (κ.1 + 27) :: st) M) : G γ κ nL z Q pc lv (.ref (κ.1 + 15) :: st) M := G_get C (ci := 0) (k := 15) (j := 2) (CN := R_Bal) (T := T_Bal) (N := 5) (by decide) rfl rfl (by decide) in_Bal hw rfl rfl hd k
theorem Gg_Bal_rank (C : Cx γ κ own cc nL d z) {idx : Nat} (hw : Cond.fieldLink own idx "NetForms$Balance" "rank" "I" ∈ gw) (hd : decode cc pc = .ok (.getfield idx, 3)) (k : G γ κ nL z Q (pc + 3) lv (.int (M.1 15 3) :: st) M) : G γ κ nL z Q pc lv (.ref (κ.1 + 15) :: st) M := G_get C (ci := 0) (k := 15) (j := 3) (CN := R_Bal) (T := T_Bal) (N := 5) (by decide) rfl rfl (by decide) in_Bal hw rfl rfl hd k
theorem Gp_Bal_rank (C : Cx γ κ own cc nL d z) {idx : Nat} {v : Int32} (hw : Cond.fieldLink own idx "NetForms$Balance" "rank" "I" ∈ gw) (hd : decode cc pc = .ok (.putfield idx, 3)) (k : G γ κ nL z Q (pc + 3) lv st (wI M 15 3 v)) : G γ κ nL z Q pc lv (.int v :: .ref (κ.1 + 15) :: st) M := G_putI C (ci := 0) (k := 15) (j := 3) (CN := R_Bal) (T := T_Bal) (N := 5) (by decide) rfl rfl rfl (by decide) in_Bal ty_Bal tk_Bal nm_Bal hw rfl rfl (by decide +kernel) (Nat.le_of_ble_eq_true rfl) hd k
theorem Gg_Bal_below (C : Cx γ κ own cc nL d z) {idx : Nat} (hw : Cond.fieldLink own idx "NetForms$Balance" "below" "J" ∈ gw) (hd : decode cc pc = .ok (.getfield idx, 3)) (k : G γ κ nL z Q (pc + 3) lv (.long (M.2 15 4) :: st) M) : G γ κ nL z Q pc lv (.ref (κ.1 + 15) :: st) M := G_get C (ci := 0) (k := 15) (j := 4) (CN := R_Bal) (T := T_Bal) (N := 5) (by decide) rfl rfl (by decide) in_Bal hw rfl rfl hd k
theorem Gp_Bal_below (C : Cx γ κ own cc nL d z) {idx : Nat} {v : Int64} (hw : Cond.fieldLink own idx "NetForms$Balance" "below" "J" ∈ gw) (hd : decode cc pc = .ok (.putfield idx, 3)) (k : G γ κ nL z Q (pc + 3) lv st (wJ M 15 4 v)) : G γ κ nL z Q pc lv (.long v :: .ref (κ.1 + 15) :: st) M := G_putJ C (ci := 0) (k := 15) (j := 4) (CN := R_Bal) (T := T_Bal) (N := 5) (by decide) rfl rfl rfl (by decide) in_Bal ty_Bal tk_Bal nm_Bal hw rfl rfl (by decide +kernel) (Nat.le_of_ble_eq_true rfl) hd k
theorem Gg_Cli_climbed (C : Cx γ κ own cc nL d z) {idx : Nat} (hw : Cond.fieldLink own idx "NetForms$Climb" "climbed" "[J" ∈ gw) (hd : decode cc pc = .ok (.getfield idx, 3)) (k : G γ κ nL z Q (pc + 3) lv (.ref (κ.1 + 29) :: st) M) : G γ κ nL z Q pc lv (.ref (κ.1 + 28) :: st) M := G_get C (ci := 1) (k := 28) (j := 0) (CN := R_Cli) (T := T_Cli) (N := 2) (by decide) rfl rfl (by decide) in_Cli hw rfl rfl hd k
theorem Gg_Cli_leasts (C : Cx γ κ own cc nL d z) {idx : Nat} (hw : Cond.fieldLink own idx "NetForms$Climb" "leasts" "[I" ∈ gw) (hd : decode cc pc = .ok (.getfield idx, 3)) (k : G γ κ nL z Q (pc + 3) lv (.ref (κ.1 + 30) :: st) M) : G γ κ nL z Q pc lv (.ref (κ.1 + 28) :: st) M := G_get C (ci := 1) (k := 28) (j := 1) (CN := R_Cli) (T := T_Cli) (N := 2) (by decide) rfl rfl (by decide) in_Cli hw rfl rfl hd k
theorem Gg_Frm_degree (C : Cx γ κ own cc nL d z) {f idx : Nat} (hf : f < 12) (hw : Cond.fieldLink own idx "NetForms$Form" "degree" "I" ∈ gw) (hd : decode cc pc = .ok (.getfield idx, 3)) (k : G γ κ nL z Q (pc + 3) lv (.int (M.1 (32 + 2 * f) 0) :: st) M) : G γ κ nL z Q pc lv (.ref (κ.1 + (32 + 2 * f)) :: st) M := G_get C (ci := 2) (k := 32 + 2 * f) (j := 0) (CN := R_Frm) (T := T_Frm) (N := 2) (by omega) (sh_formO κ hf _ _) rfl (by decide) in_Frm hw rfl rfl hd k
theorem Gp_Frm_degree (C : Cx γ κ own cc nL d z) {f idx : Nat} {v : Int32} (hf : f < 12) (hw : Cond.fieldLink own idx "NetForms$Form" "degree" "I" ∈ gw) (hd : decode cc pc = .ok (.putfield idx, 3)) (k : G γ κ nL z Q (pc + 3) lv st (wI M (32 + 2 * f) 0 v)) : G γ κ nL z Q pc lv (.int v :: .ref (κ.1 + (32 + 2 * f)) :: st) M := G_putI C (ci := 2) (k := 32 + 2 * f) (j := 0) (CN := R_Frm) (T := T_Frm) (N := 2) (by omega) (sh_formO κ hf _ _) (sh_formO κ hf _ _) rfl (by decide) in_Frm ty_Frm tk_Frm nm_Frm hw rfl rfl (by decide +kernel) (Nat.le_of_ble_eq_true rfl) hd k
theorem Gg_Frm_numbers (C : Cx γ κ own cc nL d z) {f idx : Nat} (hf : f < 12) (hw : Cond.fieldLink own idx "NetForms$Form" "numbers" "[I" ∈ gw) (hd : decode cc pc = .ok (.getfield idx, 3)) (k : G γ κ nL z Q (pc + 3) lv (.ref (κ.1 + (33 + 2 * f)) :: st) M) : G γ κ nL z Q pc lv (.ref (κ.1 + (32 + 2 * f)) :: st) M := G_get C (ci := 2) (k := 32 + 2 * f) (j := 1) (CN := R_Frm) (T := T_Frm) (N := 2) (by omega) (sh_formO κ hf _ _) rfl (by decide) in_Frm hw rfl rfl hd k
theorem Gg_Net_points (C : Cx γ κ own cc nL d z) {idx : Nat} (hw : Cond.fieldLink own idx "NetForms$Net" "points" "I" ∈ gw) (hd : decode cc pc = .ok (.getfield idx, 3)) (k : G γ κ nL z Q (pc + 3) lv (.int (M.1 1 0) :: st) M) : G γ κ nL z Q pc lv (.ref (κ.1 + 1) :: st) M := G_get C (ci := 3) (k := 1) (j := 0) (CN := R_Net) (T := T_Net) (N := 9) (by decide) rfl rfl (by decide) in_Net hw rfl rfl hd k
theorem Gp_Net_points (C : Cx γ κ own cc nL d z) {idx : Nat} {v : Int32} (hw : Cond.fieldLink own idx "NetForms$Net" "points" "I" ∈ gw) (hd : decode cc pc = .ok (.putfield idx, 3)) (k : G γ κ nL z Q (pc + 3) lv st (wI M 1 0 v)) : G γ κ nL z Q pc lv (.int v :: .ref (κ.1 + 1) :: st) M := G_putI C (ci := 3) (k := 1) (j := 0) (CN := R_Net) (T := T_Net) (N := 9) (by decide) rfl rfl rfl (by decide) in_Net ty_Net tk_Net nm_Net hw rfl rfl (by decide +kernel) (Nat.le_of_ble_eq_true rfl) hd k
theorem Gg_Net_edges (C : Cx γ κ own cc nL d z) {idx : Nat} (hw : Cond.fieldLink own idx "NetForms$Net" "edges" "I" ∈ gw) (hd : decode cc pc = .ok (.getfield idx, 3)) (k : G γ κ nL z Q (pc + 3) lv (.int (M.1 1 1) :: st) M) : G γ κ nL z Q pc lv (.ref (κ.1 + 1) :: st) M := G_get C (ci := 3) (k := 1) (j := 1) (CN := R_Net) (T := T_Net) (N := 9) (by decide) rfl rfl (by decide) in_Net hw rfl rfl hd k
theorem Gp_Net_edges (C : Cx γ κ own cc nL d z) {idx : Nat} {v : Int32} (hw : Cond.fieldLink own idx "NetForms$Net" "edges" "I" ∈ gw) (hd : decode cc pc = .ok (.putfield idx, 3)) (k : G γ κ nL z Q (pc + 3) lv st (wI M 1 1 v)) : G γ κ nL z Q pc lv (.int v :: .ref (κ.1 + 1) :: st) M := G_putI C (ci := 3) (k := 1) (j := 1) (CN := R_Net) (T := T_Net) (N := 9) (by decide) rfl rfl rfl (by decide) in_Net ty_Net tk_Net nm_Net hw rfl rfl (by decide +kernel) (Nat.le_of_ble_eq_true rfl) hd k
theorem Gg_Net_plates (C : Cx γ κ own cc nL d z) {idx : Nat} (hw : Cond.fieldLink own idx "NetForms$Net" "plates" "I" ∈ gw) (hd : decode cc pc = .ok (.getfield idx, 3)) (k : G γ κ nL z Q (pc + 3) lv (.int (M.1 1 2) :: st) M) : G γ κ nL z Q pc lv (.ref (κ.1 + 1) :: st) M := G_get C (ci := 3) (k := 1) (j := 2) (CN := R_Net) (T := T_Net) (N := 9) (by decide) rfl rfl (by decide) in_Net hw rfl rfl hd k
theorem Gp_Net_plates (C : Cx γ κ own cc nL d z) {idx : Nat} {v : Int32} (hw : Cond.fieldLink own idx "NetForms$Net" "plates" "I" ∈ gw) (hd : decode cc pc = .ok (.putfield idx, 3)) (k : G γ κ nL z Q (pc + 3) lv st (wI M 1 2 v)) : G γ κ nL z Q pc lv (.int v :: .ref (κ.1 + 1) :: st) M := G_putI C (ci := 3) (k := 1) (j := 2) (CN := R_Net) (T := T_Net) (N := 9) (by decide) rfl rfl rfl (by decide) in_Net ty_Net tk_Net nm_Net hw rfl rfl (by decide +kernel) (Nat.le_of_ble_eq_true rfl) hd k
theorem Gg_Net_begins (C : Cx γ κ own cc nL d z) {idx : Nat} (hw : Cond.fieldLink own idx "NetForms$Net" "begins" "[I" ∈ gw) (hd : decode cc pc = .ok (.getfield idx, 3)) (k : G γ κ nL z Q (pc + 3) lv (.ref (κ.1 + 2) :: st) M) : G γ κ nL z Q pc lv (.ref (κ.1 + 1) :: st) M := G_get C (ci := 3) (k := 1) (j := 3) (CN := R_Net) (T := T_Net) (N := 9) (by decide) rfl rfl (by decide) in_Net hw rfl rfl hd k
theorem Gg_Net_ends (C : Cx γ κ own cc nL d z) {idx : Nat} (hw : Cond.fieldLink own idx "NetForms$Net" "ends" "[I" ∈ gw) (hd : decode cc pc = .ok (.getfield idx, 3)) (k : G γ κ nL z Q (pc + 3) lv (.ref (κ.1 + 3) :: st) M) : G γ κ nL z Q pc lv (.ref (κ.1 + 1) :: st) M := G_get C (ci := 3) (k := 1) (j := 4) (CN := R_Net) (T := T_Net) (N := 9) (by decide) rfl rfl (by decide) in_Net hw rfl rfl hd k
theorem Gg_Net_firsts (C : Cx γ κ own cc nL d z) {idx : Nat} (hw : Cond.fieldLink own idx "NetForms$Net" "firsts" "[I" ∈ gw) (hd : decode cc pc = .ok (.getfield idx, 3)) (k : G γ κ nL z Q (pc + 3) lv (.ref (κ.1 + 4) :: st) M) : G γ κ nL z Q pc lv (.ref (κ.1 + 1) :: st) M := G_get C (ci := 3) (k := 1) (j := 5) (CN := R_Net) (T := T_Net) (N := 9) (by decide) rfl rfl (by decide) in_Net hw rfl rfl hd k
theorem Gg_Net_seconds (C : Cx γ κ own cc nL d z) {idx : Nat} (hw : Cond.fieldLink own idx "NetForms$Net" "seconds" "[I" ∈ gw) (hd : decode cc pc = .ok (.getfield idx, 3)) (k : G γ κ nL z Q (pc + 3) lv (.ref (κ.1 + 5) :: st) M) : G γ κ nL z Q pc lv (.ref (κ.1 + 1) :: st) M := G_get C (ci := 3) (k := 1) (j := 6) (CN := R_Net) (T := T_Net) (N := 9) (by decide) rfl rfl (by decide) in_Net hw rfl rfl hd k
theorem Gg_Net_acrosses (C : Cx γ κ own cc nL d z) {idx : Nat} (hw : Cond.fieldLink own idx "NetForms$Net" "acrosses" "[I" ∈ gw) (hd : decode cc pc = .ok (.getfield idx, 3)) (k : G γ κ nL z Q (pc + 3) lv (.ref (κ.1 + 6) :: st) M) : G γ κ nL z Q pc lv (.ref (κ.1 + 1) :: st) M := G_get C (ci := 3) (k := 1) (j := 7) (CN := R_Net) (T := T_Net) (N := 9) (by decide) rfl rfl (by decide) in_Net hw rfl rfl hd k
theorem Gg_Net_leasts (C : Cx γ κ own cc nL d z) {idx : Nat} (hw : Cond.fieldLink own idx "NetForms$Net" "leasts" "[I" ∈ gw) (hd : decode cc pc = .ok (.getfield idx, 3)) (k : G γ κ nL z Q (pc + 3) lv (.ref (κ.1 + 7) :: st) M) : G γ κ nL z Q pc lv (.ref (κ.1 + 1) :: st) M := G_get C (ci := 3) (k := 1) (j := 8) (CN := R_Net) (T := T_Net) (N := 9) (by decide) rfl rfl (by decide) in_Net hw rfl rfl hd k
theorem Gg_Wal_there (C : Cx γ κ own cc nL d z) {idx : Nat} (hw : Cond.fieldLink own idx "NetForms$Walls" "there" "[Z" ∈ gw) (hd : decode cc pc = .ok (.getfield idx, 3)) (k : G γ κ nL z Q (pc + 3) lv (.ref (κ.1 + 10) :: st) M) : G γ κ nL z Q pc lv (.ref (κ.1 + 9) :: st) M := G_get C (ci := 4) (k := 9) (j := 0) (CN := R_Wal) (T := T_Wal) (N := 2) (by decide) rfl rfl (by decide) in_Wal hw rfl rfl hd k
theorem Gg_Wal_numbers (C : Cx γ κ own cc nL d z) {idx : Nat} (hw : Cond.fieldLink own idx "NetForms$Walls" "numbers" "[I" ∈ gw) (hd : decode cc pc = .ok (.getfield idx, 3)) (k : G γ κ nL z Q (pc + 3) lv (.ref (κ.1 + 11) :: st) M) : G γ κ nL z Q pc lv (.ref (κ.1 + 9) :: st) M := G_get C (ci := 4) (k := 9) (j := 1) (CN := R_Wal) (T := T_Wal) (N := 2) (by decide) rfl rfl (by decide) in_Wal hw rfl rfl hd k
theorem Gg_Wav_steps (C : Cx γ κ own cc nL d z) {idx : Nat} (hw : Cond.fieldLink own idx "NetForms$Wave" "steps" "I" ∈ gw) (hd : decode cc pc = .ok (.getfield idx, 3)) (k : G γ κ nL z Q (pc + 3) lv (.int (M.1 12 0) :: st) M) : G γ κ nL z Q pc lv (.ref (κ.1 + 12) :: st) M := G_get C (ci := 5) (k := 12) (j := 0) (CN := R_Wav) (T := T_Wav) (N := 3) (by decide) rfl rfl (by decide) in_Wav hw rfl rfl hd k
theorem Gp_Wav_steps (C : Cx γ κ own cc nL d z) {idx : Nat} {v : Int32} (hw : Cond.fieldLink own idx "NetForms$Wave" "steps" "I" ∈ gw) (hd : decode cc pc = .ok (.putfield idx, 3)) (k : G γ κ nL z Q (pc + 3) lv st (wI M 12 0 v)) : G γ κ nL z Q pc lv (.int v :: .ref (κ.1 + 12) :: st) M := G_putI C (ci := 5) (k := 12) (j := 0) (CN := R_Wav) (T := T_Wav) (N := 3) (by decide) rfl rfl rfl (by decide) in_Wav ty_Wav tk_Wav nm_Wav hw rfl rfl (by decide +kernel) (Nat.le_of_ble_eq_true rfl) hd k
theorem Gg_Wav_levels (C : Cx γ κ own cc nL d z) {idx : Nat} (hw : Cond.fieldLink own idx "NetForms$Wave" "levels" "[J" ∈ gw) (hd : decode cc pc = .ok (.getfield idx, 3)) (k : G γ κ nL z Q (pc + 3) lv (.ref (κ.1 + 13) :: st) M) : G γ κ nL z Q pc lv (.ref (κ.1 + 12) :: st) M := G_get C (ci := 5) (k := 12) (j := 1) (CN := R_Wav) (T := T_Wav) (N := 3) (by decide) rfl rfl (by decide) in_Wav hw rfl rfl hd k
theorem Gg_Wav_flows (C : Cx γ κ own cc nL d z) {idx : Nat} (hw : Cond.fieldLink own idx "NetForms$Wave" "flows" "[J" ∈ gw) (hd : decode cc pc = .ok (.getfield idx, 3)) (k : G γ κ nL z Q (pc + 3) lv (.ref (κ.1 + 14) :: st) M) : G γ κ nL z Q pc lv (.ref (κ.1 + 12) :: st) M := G_get C (ci := 5) (k := 12) (j := 2) (CN := R_Wav) (T := T_Wav) (N := 3) (by decide) rfl rfl (by decide) in_Wav hw rfl rfl hd k
theorem Gg_Nf_shape (C : Cx γ κ own cc nL d z) {idx : Nat} (hw : Cond.fieldLink own idx "NetForms" "shape" "LNetForms$Net;" ∈ gw) (hd : decode cc pc = .ok (.getfield idx, 3)) (k : G γ κ nL z Q (pc + 3) lv (.ref (κ.1 + 1) :: st) M) : G γ κ nL z Q pc lv (.ref (κ.1 + 0) :: st) M := G_get C (ci := 6) (k := 0) (j := 0) (CN := R_Nf) (T := T_Nf) (N := 7) (by decide) rfl rfl (by decide) in_Nf hw rfl rfl hd k
theorem Gg_Nf_forms (C : Cx γ κ own cc nL d z) {idx : Nat} (hw : Cond.fieldLink own idx "NetForms" "forms" "[LNetForms$Form;" ∈ gw) (hd : decode cc pc = .ok (.getfield idx, 3)) (k : G γ κ nL z Q (pc + 3) lv (.ref (κ.1 + 8) :: st) M) : G γ κ nL z Q pc lv (.ref (κ.1 + 0) :: st) M := G_get C (ci := 6) (k := 0) (j := 1) (CN := R_Nf) (T := T_Nf) (N := 7) (by decide) rfl rfl (by decide) in_Nf hw rfl rfl hd k
theorem Gg_Nf_walls (C : Cx γ κ own cc nL d z) {idx : Nat} (hw : Cond.fieldLink own idx "NetForms" "walls" "LNetForms$Walls;" ∈ gw) (hd : decode cc pc = .ok (.getfield idx, 3)) (k : G γ κ nL z Q (pc + 3) lv (.ref (κ.1 + 9) :: st) M) : G γ κ nL z Q pc lv (.ref (κ.1 + 0) :: st) M := G_get C (ci := 6) (k := 0) (j := 2) (CN := R_Nf) (T := T_Nf) (N := 7) (by decide) rfl rfl (by decide) in_Nf hw rfl rfl hd k
theorem Gg_Nf_motion (C : Cx γ κ own cc nL d z) {idx : Nat} (hw : Cond.fieldLink own idx "NetForms" "motion" "LNetForms$Wave;" ∈ gw) (hd : decode cc pc = .ok (.getfield idx, 3)) (k : G γ κ nL z Q (pc + 3) lv (.ref (κ.1 + 12) :: st) M) : G γ κ nL z Q pc lv (.ref (κ.1 + 0) :: st) M := G_get C (ci := 6) (k := 0) (j := 3) (CN := R_Nf) (T := T_Nf) (N := 7) (by decide) rfl rfl (by decide) in_Nf hw rfl rfl hd k
theorem Gg_Nf_balance (C : Cx γ κ own cc nL d z) {idx : Nat} (hw : Cond.fieldLink own idx "NetForms" "balance" "LNetForms$Balance;" ∈ gw) (hd : decode cc pc = .ok (.getfield idx, 3)) (k : G γ κ nL z Q (pc + 3) lv (.ref (κ.1 + 15) :: st) M) : G γ κ nL z Q pc lv (.ref (κ.1 + 0) :: st) M := G_get C (ci := 6) (k := 0) (j := 4) (CN := R_Nf) (T := T_Nf) (N := 7) (by decide) rfl rfl (by decide) in_Nf hw rfl rfl hd k
theorem Gg_Nf_climb (C : Cx γ κ own cc nL d z) {idx : Nat} (hw : Cond.fieldLink own idx "NetForms" "climb" "LNetForms$Climb;" ∈ gw) (hd : decode cc pc = .ok (.getfield idx, 3)) (k : G γ κ nL z Q (pc + 3) lv (.ref (κ.1 + 28) :: st) M) : G γ κ nL z Q pc lv (.ref (κ.1 + 0) :: st) M := G_get C (ci := 6) (k := 0) (j := 5) (CN := R_Nf) (T := T_Nf) (N := 7) (by decide) rfl rfl (by decide) in_Nf hw rfl rfl hd k
theorem Gg_Nf_made (C : Cx γ κ own cc nL d z) {idx : Nat} (hw : Cond.fieldLink own idx "NetForms" "made" "[J" ∈ gw) (hd : decode cc pc = .ok (.getfield idx, 3)) (k : G γ κ nL z Q (pc + 3) lv (.ref (κ.1 + 31) :: st) M) : G γ κ nL z Q pc lv (.ref (κ.1 + 0) :: st) M := G_get C (ci := 6) (k := 0) (j := 6) (CN := R_Nf) (T := T_Nf) (N := 7) (by decide) rfl rfl (by decide) in_Nf hw rfl rfl hd k
theorem Gg_Mo_points (C : Cx γ κ own cc nL d z) {idx : Nat} (hw : Cond.fieldLink own idx "NetFormsModel" "points" "I" ∈ gw) (hd : decode cc pc = .ok (.getfield idx, 3)) (k : G γ κ nL z Q (pc + 3) lv (.int (M.1 56 0) :: st) M) : G γ κ nL z Q pc lv (.ref (κ.1 + 56) :: st) M := G_get C (ci := 7) (k := 56) (j := 0) (CN := R_Mo) (T := T_Mo) (N := 26) (by decide) rfl rfl (by decide) in_Mo hw rfl rfl hd k
theorem Gp_Mo_points (C : Cx γ κ own cc nL d z) {idx : Nat} {v : Int32} (hw : Cond.fieldLink own idx "NetFormsModel" "points" "I" ∈ gw) (hd : decode cc pc = .ok (.putfield idx, 3)) (k : G γ κ nL z Q (pc + 3) lv st (wI M 56 0 v)) : G γ κ nL z Q pc lv (.int v :: .ref (κ.1 + 56) :: st) M := G_putI C (ci := 7) (k := 56) (j := 0) (CN := R_Mo) (T := T_Mo) (N := 26) (by decide) rfl rfl rfl (by decide) in_Mo ty_Mo tk_Mo nm_Mo hw rfl rfl (by decide +kernel) (Nat.le_of_ble_eq_true rfl) hd k
theorem Gg_Mo_edges (C : Cx γ κ own cc nL d z) {idx : Nat} (hw : Cond.fieldLink own idx "NetFormsModel" "edges" "I" ∈ gw) (hd : decode cc pc = .ok (.getfield idx, 3)) (k : G γ κ nL z Q (pc + 3) lv (.int (M.1 56 1) :: st) M) : G γ κ nL z Q pc lv (.ref (κ.1 + 56) :: st) M := G_get C (ci := 7) (k := 56) (j := 1) (CN := R_Mo) (T := T_Mo) (N := 26) (by decide) rfl rfl (by decide) in_Mo hw rfl rfl hd k
theorem Gp_Mo_edges (C : Cx γ κ own cc nL d z) {idx : Nat} {v : Int32} (hw : Cond.fieldLink own idx "NetFormsModel" "edges" "I" ∈ gw) (hd : decode cc pc = .ok (.putfield idx, 3)) (k : G γ κ nL z Q (pc + 3) lv st (wI M 56 1 v)) : G γ κ nL z Q pc lv (.int v :: .ref (κ.1 + 56) :: st) M := G_putI C (ci := 7) (k := 56) (j := 1) (CN := R_Mo) (T := T_Mo) (N := 26) (by decide) rfl rfl rfl (by decide) in_Mo ty_Mo tk_Mo nm_Mo hw rfl rfl (by decide +kernel) (Nat.le_of_ble_eq_true rfl) hd k
theorem Gg_Mo_faces (C : Cx γ κ own cc nL d z) {idx : Nat} (hw : Cond.fieldLink own idx "NetFormsModel" "faces" "I" ∈ gw) (hd : decode cc pc = .ok (.getfield idx, 3)) (k : G γ κ nL z Q (pc + 3) lv (.int (M.1 56 2) :: st) M) : G γ κ nL z Q pc lv (.ref (κ.1 + 56) :: st) M := G_get C (ci := 7) (k := 56) (j := 2) (CN := R_Mo) (T := T_Mo) (N := 26) (by decide) rfl rfl (by decide) in_Mo hw rfl rfl hd k
theorem Gp_Mo_faces (C : Cx γ κ own cc nL d z) {idx : Nat} {v : Int32} (hw : Cond.fieldLink own idx "NetFormsModel" "faces" "I" ∈ gw) (hd : decode cc pc = .ok (.putfield idx, 3)) (k : G γ κ nL z Q (pc + 3) lv st (wI M 56 2 v)) : G γ κ nL z Q pc lv (.int v :: .ref (κ.1 + 56) :: st) M := G_putI C (ci := 7) (k := 56) (j := 2) (CN := R_Mo) (T := T_Mo) (N := 26) (by decide) rfl rfl rfl (by decide) in_Mo ty_Mo tk_Mo nm_Mo hw rfl rfl (by decide +kernel) (Nat.le_of_ble_eq_true rfl) hd k
theorem Gg_Mo_begin (C : Cx γ κ own cc nL d z) {idx : Nat} (hw : Cond.fieldLink own idx "NetFormsModel" "begin" "[I" ∈ gw) (hd : decode cc pc = .ok (.getfield idx, 3)) (k : G γ κ nL z Q (pc + 3) lv (.ref (κ.1 + 57) :: st) M) : G γ κ nL z Q pc lv (.ref (κ.1 + 56) :: st) M := G_get C (ci := 7) (k := 56) (j := 3) (CN := R_Mo) (T := T_Mo) (N := 26) (by decide) rfl rfl (by decide) in_Mo hw rfl rfl hd k
theorem Gg_Mo_end (C : Cx γ κ own cc nL d z) {idx : Nat} (hw : Cond.fieldLink own idx "NetFormsModel" "end" "[I" ∈ gw) (hd : decode cc pc = .ok (.getfield idx, 3)) (k : G γ κ nL z Q (pc + 3) lv (.ref (κ.1 + 58) :: st) M) : G γ κ nL z Q pc lv (.ref (κ.1 + 56) :: st) M := G_get C (ci := 7) (k := 56) (j := 4) (CN := R_Mo) (T := T_Mo) (N := 26) (by decide) rfl rfl (by decide) in_Mo hw rfl rfl hd k
theorem Gg_Mo_first (C : Cx γ κ own cc nL d z) {idx : Nat} (hw : Cond.fieldLink own idx "NetFormsModel" "first" "[I" ∈ gw) (hd : decode cc pc = .ok (.getfield idx, 3)) (k : G γ κ nL z Q (pc + 3) lv (.ref (κ.1 + 59) :: st) M) : G γ κ nL z Q pc lv (.ref (κ.1 + 56) :: st) M := G_get C (ci := 7) (k := 56) (j := 5) (CN := R_Mo) (T := T_Mo) (N := 26) (by decide) rfl rfl (by decide) in_Mo hw rfl rfl hd k
theorem Gg_Mo_second (C : Cx γ κ own cc nL d z) {idx : Nat} (hw : Cond.fieldLink own idx "NetFormsModel" "second" "[I" ∈ gw) (hd : decode cc pc = .ok (.getfield idx, 3)) (k : G γ κ nL z Q (pc + 3) lv (.ref (κ.1 + 60) :: st) M) : G γ κ nL z Q pc lv (.ref (κ.1 + 56) :: st) M := G_get C (ci := 7) (k := 56) (j := 6) (CN := R_Mo) (T := T_Mo) (N := 26) (by decide) rfl rfl (by decide) in_Mo hw rfl rfl hd k
theorem Gg_Mo_third (C : Cx γ κ own cc nL d z) {idx : Nat} (hw : Cond.fieldLink own idx "NetFormsModel" "third" "[I" ∈ gw) (hd : decode cc pc = .ok (.getfield idx, 3)) (k : G γ κ nL z Q (pc + 3) lv (.ref (κ.1 + 61) :: st) M) : G γ κ nL z Q pc lv (.ref (κ.1 + 56) :: st) M := G_get C (ci := 7) (k := 56) (j := 7) (CN := R_Mo) (T := T_Mo) (N := 26) (by decide) rfl rfl (by decide) in_Mo hw rfl rfl hd k
theorem Gg_Mo_degree (C : Cx γ κ own cc nL d z) {idx : Nat} (hw : Cond.fieldLink own idx "NetFormsModel" "degree" "[I" ∈ gw) (hd : decode cc pc = .ok (.getfield idx, 3)) (k : G γ κ nL z Q (pc + 3) lv (.ref (κ.1 + 62) :: st) M) : G γ κ nL z Q pc lv (.ref (κ.1 + 56) :: st) M := G_get C (ci := 7) (k := 56) (j := 8) (CN := R_Mo) (T := T_Mo) (N := 26) (by decide) rfl rfl (by decide) in_Mo hw rfl rfl hd k
theorem Gg_Mo_number (C : Cx γ κ own cc nL d z) {idx : Nat} (hw : Cond.fieldLink own idx "NetFormsModel" "number" "[I" ∈ gw) (hd : decode cc pc = .ok (.getfield idx, 3)) (k : G γ κ nL z Q (pc + 3) lv (.ref (κ.1 + 63) :: st) M) : G γ κ nL z Q pc lv (.ref (κ.1 + 56) :: st) M := G_get C (ci := 7) (k := 56) (j := 9) (CN := R_Mo) (T := T_Mo) (N := 26) (by decide) rfl rfl (by decide) in_Mo hw rfl rfl hd k
theorem Gg_Mo_isWall (C : Cx γ κ own cc nL d z) {idx : Nat} (hw : Cond.fieldLink own idx "NetFormsModel" "isWall" "[Z" ∈ gw) (hd : decode cc pc = .ok (.getfield idx, 3)) (k : G γ κ nL z Q (pc + 3) lv (.ref (κ.1 + 64) :: st) M) : G γ κ nL z Q pc lv (.ref (κ.1 + 56) :: st) M := G_get C (ci := 7) (k := 56) (j := 10) (CN := R_Mo) (T := T_Mo) (N := 26) (by decide) rfl rfl (by decide) in_Mo hw rfl rfl hd k
theorem Gg_Mo_wall (C : Cx γ κ own cc nL d z) {idx : Nat} (hw : Cond.fieldLink own idx "NetFormsModel" "wall" "[I" ∈ gw) (hd : decode cc pc = .ok (.getfield idx, 3)) (k : G γ κ nL z Q (pc + 3) lv (.ref (κ.1 + 65) :: st) M) : G γ κ nL z Q pc lv (.ref (κ.1 + 56) :: st) M := G_get C (ci := 7) (k := 56) (j := 11) (CN := R_Mo) (T := T_Mo) (N := 26) (by decide) rfl rfl (by decide) in_Mo hw rfl rfl hd k
theorem Gg_Mo_height (C : Cx γ κ own cc nL d z) {idx : Nat} (hw : Cond.fieldLink own idx "NetFormsModel" "height" "[J" ∈ gw) (hd : decode cc pc = .ok (.getfield idx, 3)) (k : G γ κ nL z Q (pc + 3) lv (.ref (κ.1 + 66) :: st) M) : G γ κ nL z Q pc lv (.ref (κ.1 + 56) :: st) M := G_get C (ci := 7) (k := 56) (j := 12) (CN := R_Mo) (T := T_Mo) (N := 26) (by decide) rfl rfl (by decide) in_Mo hw rfl rfl hd k
theorem Gg_Mo_flow (C : Cx γ κ own cc nL d z) {idx : Nat} (hw : Cond.fieldLink own idx "NetFormsModel" "flow" "[J" ∈ gw) (hd : decode cc pc = .ok (.getfield idx, 3)) (k : G γ κ nL z Q (pc + 3) lv (.ref (κ.1 + 67) :: st) M) : G γ κ nL z Q pc lv (.ref (κ.1 + 56) :: st) M := G_get C (ci := 7) (k := 56) (j := 13) (CN := R_Mo) (T := T_Mo) (N := 26) (by decide) rfl rfl (by decide) in_Mo hw rfl rfl hd k
theorem Gg_Mo_steps (C : Cx γ κ own cc nL d z) {idx : Nat} (hw : Cond.fieldLink own idx "NetFormsModel" "steps" "I" ∈ gw) (hd : decode cc pc = .ok (.getfield idx, 3)) (k : G γ κ nL z Q (pc + 3) lv (.int (M.1 56 14) :: st) M) : G γ κ nL z Q pc lv (.ref (κ.1 + 56) :: st) M := G_get C (ci := 7) (k := 56) (j := 14) (CN := R_Mo) (T := T_Mo) (N := 26) (by decide) rfl rfl (by decide) in_Mo hw rfl rfl hd k
theorem Gp_Mo_steps (C : Cx γ κ own cc nL d z) {idx : Nat} {v : Int32} (hw : Cond.fieldLink own idx "NetFormsModel" "steps" "I" ∈ gw) (hd : decode cc pc = .ok (.putfield idx, 3)) (k : G γ κ nL z Q (pc + 3) lv st (wI M 56 14 v)) : G γ κ nL z Q pc lv (.int v :: .ref (κ.1 + 56) :: st) M := G_putI C (ci := 7) (k := 56) (j := 14) (CN := R_Mo) (T := T_Mo) (N := 26) (by decide) rfl rfl rfl (by decide) in_Mo ty_Mo tk_Mo nm_Mo hw rfl rfl (by decide +kernel) (Nat.le_of_ble_eq_true rfl) hd k
theorem Gg_Mo_made (C : Cx γ κ own cc nL d z) {idx : Nat} (hw : Cond.fieldLink own idx "NetFormsModel" "made" "[J" ∈ gw) (hd : decode cc pc = .ok (.getfield idx, 3)) (k : G γ κ nL z Q (pc + 3) lv (.ref (κ.1 + 68) :: st) M) : G γ κ nL z Q pc lv (.ref (κ.1 + 56) :: st) M := G_get C (ci := 7) (k := 56) (j := 15) (CN := R_Mo) (T := T_Mo) (N := 26) (by decide) rfl rfl (by decide) in_Mo hw rfl rfl hd k
theorem Gg_Mo_table (C : Cx γ κ own cc nL d z) {idx : Nat} (hw : Cond.fieldLink own idx "NetFormsModel" "table" "[J" ∈ gw) (hd : decode cc pc = .ok (.getfield idx, 3)) (k : G γ κ nL z Q (pc + 3) lv (.ref (κ.1 + 69) :: st) M) : G γ κ nL z Q pc lv (.ref (κ.1 + 56) :: st) M := G_get C (ci := 7) (k := 56) (j := 16) (CN := R_Mo) (T := T_Mo) (N := 26) (by decide) rfl rfl (by decide) in_Mo hw rfl rfl hd k
theorem Gg_Mo_placeOf (C : Cx γ κ own cc nL d z) {idx : Nat} (hw : Cond.fieldLink own idx "NetFormsModel" "placeOf" "[I" ∈ gw) (hd : decode cc pc = .ok (.getfield idx, 3)) (k : G γ κ nL z Q (pc + 3) lv (.ref (κ.1 + 70) :: st) M) : G γ κ nL z Q pc lv (.ref (κ.1 + 56) :: st) M := G_get C (ci := 7) (k := 56) (j := 17) (CN := R_Mo) (T := T_Mo) (N := 26) (by decide) rfl rfl (by decide) in_Mo hw rfl rfl hd k
theorem Gg_Mo_shared (C : Cx γ κ own cc nL d z) {idx : Nat} (hw : Cond.fieldLink own idx "NetFormsModel" "shared" "J" ∈ gw) (hd : decode cc pc = .ok (.getfield idx, 3)) (k : G γ κ nL z Q (pc + 3) lv (.long (M.2 56 18) :: st) M) : G γ κ nL z Q pc lv (.ref (κ.1 + 56) :: st) M := G_get C (ci := 7) (k := 56) (j := 18) (CN := R_Mo) (T := T_Mo) (N := 26) (by decide) rfl rfl (by decide) in_Mo hw rfl rfl hd k
theorem Gp_Mo_shared (C : Cx γ κ own cc nL d z) {idx : Nat} {v : Int64} (hw : Cond.fieldLink own idx "NetFormsModel" "shared" "J" ∈ gw) (hd : decode cc pc = .ok (.putfield idx, 3)) (k : G γ κ nL z Q (pc + 3) lv st (wJ M 56 18 v)) : G γ κ nL z Q pc lv (.long v :: .ref (κ.1 + 56) :: st) M := G_putJ C (ci := 7) (k := 56) (j := 18) (CN := R_Mo) (T := T_Mo) (N := 26) (by decide) rfl rfl rfl (by decide) in_Mo ty_Mo tk_Mo nm_Mo hw rfl rfl (by decide +kernel) (Nat.le_of_ble_eq_true rfl) hd k
theorem Gg_Mo_solved (C : Cx γ κ own cc nL d z) {idx : Nat} (hw : Cond.fieldLink own idx "NetFormsModel" "solved" "[J" ∈ gw) (hd : decode cc pc = .ok (.getfield idx, 3)) (k : G γ κ nL z Q (pc + 3) lv (.ref (κ.1 + 71) :: st) M) : G γ κ nL z Q pc lv (.ref (κ.1 + 56) :: st) M := G_get C (ci := 7) (k := 56) (j := 19) (CN := R_Mo) (T := T_Mo) (N := 26) (by decide) rfl rfl (by decide) in_Mo hw rfl rfl hd k
theorem Gg_Mo_partOf (C : Cx γ κ own cc nL d z) {idx : Nat} (hw : Cond.fieldLink own idx "NetFormsModel" "partOf" "[I" ∈ gw) (hd : decode cc pc = .ok (.getfield idx, 3)) (k : G γ κ nL z Q (pc + 3) lv (.ref (κ.1 + 72) :: st) M) : G γ κ nL z Q pc lv (.ref (κ.1 + 56) :: st) M := G_get C (ci := 7) (k := 56) (j := 20) (CN := R_Mo) (T := T_Mo) (N := 26) (by decide) rfl rfl (by decide) in_Mo hw rfl rfl hd k
theorem Gg_Mo_raised (C : Cx γ κ own cc nL d z) {idx : Nat} (hw : Cond.fieldLink own idx "NetFormsModel" "raised" "[J" ∈ gw) (hd : decode cc pc = .ok (.getfield idx, 3)) (k : G γ κ nL z Q (pc + 3) lv (.ref (κ.1 + 73) :: st) M) : G γ κ nL z Q pc lv (.ref (κ.1 + 56) :: st) M := G_get C (ci := 7) (k := 56) (j := 21) (CN := R_Mo) (T := T_Mo) (N := 26) (by decide) rfl rfl (by decide) in_Mo hw rfl rfl hd k
theorem Gg_Mo_slopePart (C : Cx γ κ own cc nL d z) {idx : Nat} (hw : Cond.fieldLink own idx "NetFormsModel" "slopePart" "[J" ∈ gw) (hd : decode cc pc = .ok (.getfield idx, 3)) (k : G γ κ nL z Q (pc + 3) lv (.ref (κ.1 + 74) :: st) M) : G γ κ nL z Q pc lv (.ref (κ.1 + 56) :: st) M := G_get C (ci := 7) (k := 56) (j := 22) (CN := R_Mo) (T := T_Mo) (N := 26) (by decide) rfl rfl (by decide) in_Mo hw rfl rfl hd k
theorem Gg_Mo_rimPart (C : Cx γ κ own cc nL d z) {idx : Nat} (hw : Cond.fieldLink own idx "NetFormsModel" "rimPart" "[J" ∈ gw) (hd : decode cc pc = .ok (.getfield idx, 3)) (k : G γ κ nL z Q (pc + 3) lv (.ref (κ.1 + 75) :: st) M) : G γ κ nL z Q pc lv (.ref (κ.1 + 56) :: st) M := G_get C (ci := 7) (k := 56) (j := 23) (CN := R_Mo) (T := T_Mo) (N := 26) (by decide) rfl rfl (by decide) in_Mo hw rfl rfl hd k
theorem Gg_Mo_slopeShared (C : Cx γ κ own cc nL d z) {idx : Nat} (hw : Cond.fieldLink own idx "NetFormsModel" "slopeShared" "J" ∈ gw) (hd : decode cc pc = .ok (.getfield idx, 3)) (k : G γ κ nL z Q (pc + 3) lv (.long (M.2 56 24) :: st) M) : G γ κ nL z Q pc lv (.ref (κ.1 + 56) :: st) M := G_get C (ci := 7) (k := 56) (j := 24) (CN := R_Mo) (T := T_Mo) (N := 26) (by decide) rfl rfl (by decide) in_Mo hw rfl rfl hd k
theorem Gp_Mo_slopeShared (C : Cx γ κ own cc nL d z) {idx : Nat} {v : Int64} (hw : Cond.fieldLink own idx "NetFormsModel" "slopeShared" "J" ∈ gw) (hd : decode cc pc = .ok (.putfield idx, 3)) (k : G γ κ nL z Q (pc + 3) lv st (wJ M 56 24 v)) : G γ κ nL z Q pc lv (.long v :: .ref (κ.1 + 56) :: st) M := G_putJ C (ci := 7) (k := 56) (j := 24) (CN := R_Mo) (T := T_Mo) (N := 26) (by decide) rfl rfl rfl (by decide) in_Mo ty_Mo tk_Mo nm_Mo hw rfl rfl (by decide +kernel) (Nat.le_of_ble_eq_true rfl) hd k
theorem Gg_Mo_rimShared (C : Cx γ κ own cc nL d z) {idx : Nat} (hw : Cond.fieldLink own idx "NetFormsModel" "rimShared" "J" ∈ gw) (hd : decode cc pc = .ok (.getfield idx, 3)) (k : G γ κ nL z Q (pc + 3) lv (.long (M.2 56 25) :: st) M) : G γ κ nL z Q pc lv (.ref (κ.1 + 56) :: st) M := G_get C (ci := 7) (k := 56) (j := 25) (CN := R_Mo) (T := T_Mo) (N := 26) (by decide) rfl rfl (by decide) in_Mo hw rfl rfl hd k
theorem Gp_Mo_rimShared (C : Cx γ κ own cc nL d z) {idx : Nat} {v : Int64} (hw : Cond.fieldLink own idx "NetFormsModel" "rimShared" "J" ∈ gw) (hd : decode cc pc = .ok (.putfield idx, 3)) (k : G γ κ nL z Q (pc + 3) lv st (wJ M 56 25 v)) : G γ κ nL z Q pc lv (.long v :: .ref (κ.1 + 56) :: st) M := G_putJ C (ci := 7) (k := 56) (j := 25) (CN := R_Mo) (T := T_Mo) (N := 26) (by decide) rfl rfl rfl (by decide) in_Mo ty_Mo tk_Mo nm_Mo hw rfl rfl (by decide +kernel) (Nat.le_of_ble_eq_true rfl) hd k
end GR2
theorem wd_25 : (Cond.fieldLink "NetForms$Net" (30 : Nat) "NetForms$Net" "points" "I") ∈ gw := gw_t 25 (by decide +kernel) (by decide +kernel)
theorem wd_26 : (Cond.fieldLink "NetForms$Walls" (19 : Nat) "NetForms$Net" "points" "I") ∈ gw := gw_t 26 (by decide +kernel) (by decide +kernel)
theorem wd_27 : (Cond.fieldLink "NetForms" (147 : Nat) "NetForms$Net" "points" "I") ∈ gw := gw_t 27 (by decide +kernel) (by decide +kernel)
theorem wd_28 : (Cond.fieldLink "NetForms$Net" (34 : Nat) "NetForms$Net" "edges" "I") ∈ gw := gw_t 28 (by decide +kernel) (by decide +kernel)
theorem wd_29 : (Cond.fieldLink "NetForms$Climb" (19 : Nat) "NetForms$Net" "edges" "I") ∈ gw := gw_t 29 (by decide +kernel) (by decide +kernel)
theorem wd_30 : (Cond.fieldLink "NetForms$Wave" (28 : Nat) "NetForms$Net" "edges" "I") ∈ gw := gw_t 30 (by decide +kernel) (by decide +kernel)
theorem wd_31 : (Cond.fieldLink "NetForms" (71 : Nat) "NetForms$Net" "edges" "I") ∈ gw := gw_t 31 (by decide +kernel) (by decide +kernel)
theorem wd_32 : (Cond.fieldLink "NetForms$Net" (37 : Nat) "NetForms$Net" "plates" "I") ∈ gw := gw_t 32 (by decide +kernel) (by decide +kernel)
theorem wd_33 : (Cond.fieldLink "NetForms" (81 : Nat) "NetForms$Net" "plates" "I") ∈ gw := gw_t 33 (by decide +kernel) (by decide +kernel)
theorem wd_34 : (Cond.fieldLink "NetForms$Net" (9 : Nat) "NetForms$Net" "begins" "[I") ∈ gw := gw_t 34 (by decide +kernel) (by decide +kernel)
theorem wd_35 : (Cond.fieldLink "NetForms$Climb" (25 : Nat) "NetForms$Net" "begins" "[I") ∈ gw := gw_t 35 (by decide +kernel) (by decide +kernel)
theorem wd_36 : (Cond.fieldLink "NetForms$Wave" (33 : Nat) "NetForms$Net" "begins" "[I") ∈ gw := gw_t 36 (by decide +kernel) (by decide +kernel)
theorem wd_37 : (Cond.fieldLink "NetForms" (252 : Nat) "NetForms$Net" "begins" "[I") ∈ gw := gw_t 37 (by decide +kernel) (by decide +kernel)
theorem wd_38 : (Cond.fieldLink "NetForms$Net" (15 : Nat) "NetForms$Net" "ends" "[I") ∈ gw := gw_t 38 (by decide +kernel) (by decide +kernel)
theorem wd_39 : (Cond.fieldLink "NetForms$Climb" (28 : Nat) "NetForms$Net" "ends" "[I") ∈ gw := gw_t 39 (by decide +kernel) (by decide +kernel)
theorem wd_40 : (Cond.fieldLink "NetForms$Wave" (37 : Nat) "NetForms$Net" "ends" "[I") ∈ gw := gw_t 40 (by decide +kernel) (by decide +kernel)
theorem wd_41 : (Cond.fieldLink "NetForms" (255 : Nat) "NetForms$Net" "ends" "[I") ∈ gw := gw_t 41 (by decide +kernel) (by decide +kernel)
theorem wd_42 : (Cond.fieldLink "NetForms$Net" (18 : Nat) "NetForms$Net" "firsts" "[I") ∈ gw := gw_t 42 (by decide +kernel) (by decide +kernel)
theorem wd_43 : (Cond.fieldLink "NetForms$Net" (21 : Nat) "NetForms$Net" "seconds" "[I") ∈ gw := gw_t 43 (by decide +kernel) (by decide +kernel)
theorem wd_44 : (Cond.fieldLink "NetForms$Net" (24 : Nat) "NetForms$Net" "acrosses" "[I") ∈ gw := gw_t 44 (by decide +kernel) (by decide +kernel)
theorem wd_45 : (Cond.fieldLink "NetForms$Net" (27 : Nat) "NetForms$Net" "leasts" "[I") ∈ gw := gw_t 45 (by decide +kernel) (by decide +kernel)
theorem wd_46 : (Cond.fieldLink "NetForms$Walls" (25 : Nat) "NetForms$Net" "leasts" "[I") ∈ gw := gw_t 46 (by decide +kernel) (by decide +kernel)
theorem wd_75 : (Cond.fieldLink "NetForms$Walls" (9 : Nat) "NetForms$Walls" "there" "[Z") ∈ gw := gw_t 75 (by decide +kernel) (by decide +kernel)
theorem wd_76 : (Cond.fieldLink "NetForms" (179 : Nat) "NetForms$Walls" "there" "[Z") ∈ gw := gw_t 76 (by decide +kernel) (by decide +kernel)
theorem wd_78 : (Cond.fieldLink "NetForms" (183 : Nat) "NetForms$Walls" "numbers" "[I") ∈ gw := gw_t 78 (by decide +kernel) (by decide +kernel)
theorem wd_91 : (Cond.fieldLink "NetForms$Wave" (18 : Nat) "NetForms$Wave" "steps" "I") ∈ gw := gw_t 91 (by decide +kernel) (by decide +kernel)
theorem wd_92 : (Cond.fieldLink "NetForms" (202 : Nat) "NetForms$Wave" "steps" "I") ∈ gw := gw_t 92 (by decide +kernel) (by decide +kernel)
theorem wd_93 : (Cond.fieldLink "NetForms$Wave" (9 : Nat) "NetForms$Wave" "levels" "[J") ∈ gw := gw_t 93 (by decide +kernel) (by decide +kernel)
theorem wd_94 : (Cond.fieldLink "NetForms" (205 : Nat) "NetForms$Wave" "levels" "[J") ∈ gw := gw_t 94 (by decide +kernel) (by decide +kernel)
theorem wd_95 : (Cond.fieldLink "NetForms$Wave" (15 : Nat) "NetForms$Wave" "flows" "[J") ∈ gw := gw_t 95 (by decide +kernel) (by decide +kernel)
theorem wd_96 : (Cond.fieldLink "NetForms" (208 : Nat) "NetForms$Wave" "flows" "[J") ∈ gw := gw_t 96 (by decide +kernel) (by decide +kernel)
theorem wd_113 : (Cond.fieldLink "NetForms$Balance" (24 : Nat) "NetForms$Balance" "size" "I") ∈ gw := gw_t 113 (by decide +kernel) (by decide +kernel)
theorem wd_114 : (Cond.fieldLink "NetForms$Balance" (11 : Nat) "NetForms$Balance" "table" "[[J") ∈ gw := gw_t 114 (by decide +kernel) (by decide +kernel)
theorem wd_115 : (Cond.fieldLink "NetForms$Balance" (14 : Nat) "NetForms$Balance" "dues" "[J") ∈ gw := gw_t 115 (by decide +kernel) (by decide +kernel)
theorem wd_116 : (Cond.fieldLink "NetForms$Balance" (34 : Nat) "NetForms$Balance" "rank" "I") ∈ gw := gw_t 116 (by decide +kernel) (by decide +kernel)
theorem wd_117 : (Cond.fieldLink "NetForms" (245 : Nat) "NetForms$Balance" "rank" "I") ∈ gw := gw_t 117 (by decide +kernel) (by decide +kernel)
theorem wd_118 : (Cond.fieldLink "NetForms$Balance" (37 : Nat) "NetForms$Balance" "below" "J") ∈ gw := gw_t 118 (by decide +kernel) (by decide +kernel)
theorem wd_119 : (Cond.fieldLink "NetForms" (164 : Nat) "NetForms$Balance" "below" "J") ∈ gw := gw_t 119 (by decide +kernel) (by decide +kernel)
theorem wd_137 : (Cond.fieldLink "NetForms$Climb" (9 : Nat) "NetForms$Climb" "climbed" "[J") ∈ gw := gw_t 137 (by decide +kernel) (by decide +kernel)
theorem wd_138 : (Cond.fieldLink "NetForms$Climb" (15 : Nat) "NetForms$Climb" "leasts" "[I") ∈ gw := gw_t 138 (by decide +kernel) (by decide +kernel)
theorem wd_149 : (Cond.fieldLink "NetForms$Form" (15 : Nat) "NetForms$Form" "degree" "I") ∈ gw := gw_t 149 (by decide +kernel) (by decide +kernel)
theorem wd_150 : (Cond.fieldLink "NetForms" (95 : Nat) "NetForms$Form" "degree" "I") ∈ gw := gw_t 150 (by decide +kernel) (by decide +kernel)
theorem wd_151 : (Cond.fieldLink "NetForms$Form" (9 : Nat) "NetForms$Form" "numbers" "[I") ∈ gw := gw_t 151 (by decide +kernel) (by decide +kernel)
theorem wd_152 : (Cond.fieldLink "NetForms$Climb" (31 : Nat) "NetForms$Form" "numbers" "[I") ∈ gw := gw_t 152 (by decide +kernel) (by decide +kernel)
theorem wd_153 : (Cond.fieldLink "NetForms" (104 : Nat) "NetForms$Form" "numbers" "[I") ∈ gw := gw_t 153 (by decide +kernel) (by decide +kernel)
theorem wd_159 : (Cond.methodLink "NetForms" (55 : Nat) y_Net_begin) ∈ gw := gw_t 159 (by decide +kernel) (by decide +kernel)
theorem wd_163 : (Cond.fieldLink "NetForms" (10 : Nat) "NetForms" "shape" "LNetForms$Net;") ∈ gw := gw_t 163 (by decide +kernel) (by decide +kernel)
theorem wd_164 : (Cond.fieldLink "NetForms" (18 : Nat) "NetForms" "forms" "[LNetForms$Form;") ∈ gw := gw_t 164 (by decide +kernel) (by decide +kernel)
theorem wd_165 : (Cond.fieldLink "NetForms" (25 : Nat) "NetForms" "walls" "LNetForms$Walls;") ∈ gw := gw_t 165 (by decide +kernel) (by decide +kernel)
theorem wd_166 : (Cond.fieldLink "NetForms" (32 : Nat) "NetForms" "motion" "LNetForms$Wave;") ∈ gw := gw_t 166 (by decide +kernel) (by decide +kernel)
theorem wd_167 : (Cond.fieldLink "NetForms" (39 : Nat) "NetForms" "balance" "LNetForms$Balance;") ∈ gw := gw_t 167 (by decide +kernel) (by decide +kernel)
theorem wd_168 : (Cond.fieldLink "NetForms" (46 : Nat) "NetForms" "climb" "LNetForms$Climb;") ∈ gw := gw_t 168 (by decide +kernel) (by decide +kernel)
theorem wd_169 : (Cond.fieldLink "NetForms" (50 : Nat) "NetForms" "made" "[J") ∈ gw := gw_t 169 (by decide +kernel) (by decide +kernel)
theorem wd_189 : (Cond.methodLink "NetForms" (59 : Nat) y_Frm_begin) ∈ gw := gw_t 189 (by decide +kernel) (by decide +kernel)
theorem wd_193 : (Cond.methodLink "NetForms$Form" (19 : Nat) y_Arr_fill_IIV) ∈ gw := gw_t 193 (by decide +kernel) (by decide +kernel)
theorem wd_196 : (Cond.methodLink "NetForms" (60 : Nat) y_Wal_begin) ∈ gw := gw_t 196 (by decide +kernel) (by decide +kernel)
theorem wd_200 : (Cond.methodLink "NetForms" (62 : Nat) y_Wav_begin) ∈ gw := gw_t 200 (by decide +kernel) (by decide +kernel)
theorem wd_204 : (Cond.methodLink "NetForms$Wave" (22 : Nat) y_Arr_fill_JJV) ∈ gw := gw_t 204 (by decide +kernel) (by decide +kernel)
theorem wd_211 : (Cond.methodLink "NetForms" (63 : Nat) y_Net_has) ∈ gw := gw_t 211 (by decide +kernel) (by decide +kernel)
theorem wd_215 : (Cond.methodLink "NetForms$Net" (40 : Nat) y_Net_size) ∈ gw := gw_t 215 (by decide +kernel) (by decide +kernel)
theorem wd_219 : (Cond.methodLink "NetForms" (67 : Nat) y_Net_edgeBetween) ∈ gw := gw_t 219 (by decide +kernel) (by decide +kernel)
theorem wd_223 : (Cond.methodLink "NetForms" (75 : Nat) y_Net_addEdge) ∈ gw := gw_t 223 (by decide +kernel) (by decide +kernel)
theorem wd_227 : (Cond.methodLink "NetForms$Net" (44 : Nat) y_Mat_min) ∈ gw := gw_t 227 (by decide +kernel) (by decide +kernel)
theorem wd_230 : (Cond.methodLink "NetForms$Net" (50 : Nat) y_Mat_max) ∈ gw := gw_t 230 (by decide +kernel) (by decide +kernel)
theorem wd_237 : (Cond.methodLink "NetForms" (78 : Nat) y_Net_hasPlateOf) ∈ gw := gw_t 237 (by decide +kernel) (by decide +kernel)
theorem wd_241 : (Cond.methodLink "NetForms" (84 : Nat) y_Net_addPlate) ∈ gw := gw_t 241 (by decide +kernel) (by decide +kernel)
theorem wd_249 : (Cond.methodLink "NetForms" (88 : Nat) y_Net_pointOf) ∈ gw := gw_t 249 (by decide +kernel) (by decide +kernel)
theorem wd_257 : (Cond.methodLink "NetForms" (91 : Nat) y_Nf_formAt) ∈ gw := gw_t 257 (by decide +kernel) (by decide +kernel)
theorem wd_265 : (Cond.constant "NetForms" (98 : Nat) (1000000 : Int32)) ∈ gw := gw_t 265 (by decide +kernel) (by decide +kernel)
theorem wd_266 : (Cond.methodLink "NetForms" (99 : Nat) y_Nf_isWithin) ∈ gw := gw_t 266 (by decide +kernel) (by decide +kernel)
theorem wd_269 : (Cond.constant "NetForms" (103 : Nat) (-2000000 : Int32)) ∈ gw := gw_t 269 (by decide +kernel) (by decide +kernel)
theorem wd_278 : (Cond.methodLink "NetForms" (108 : Nat) y_Nf_makeSlope) ∈ gw := gw_t 278 (by decide +kernel) (by decide +kernel)
theorem wd_282 : (Cond.methodLink "NetForms" (119 : Nat) y_Net_size) ∈ gw := gw_t 282 (by decide +kernel) (by decide +kernel)
theorem wd_283 : (Cond.methodLink "NetForms" (232 : Nat) y_Net_signOf) ∈ gw := gw_t 283 (by decide +kernel) (by decide +kernel)
theorem wd_287 : (Cond.methodLink "NetForms" (112 : Nat) y_Nf_giveMade) ∈ gw := gw_t 287 (by decide +kernel) (by decide +kernel)
theorem wd_295 : (Cond.methodLink "NetForms" (116 : Nat) y_Nf_makeRim) ∈ gw := gw_t 295 (by decide +kernel) (by decide +kernel)
theorem wd_303 : (Cond.methodLink "NetForms" (123 : Nat) y_Net_frontOf) ∈ gw := gw_t 303 (by decide +kernel) (by decide +kernel)
theorem wd_307 : (Cond.methodLink "NetForms$Net" (53 : Nat) y_Net_pointOf) ∈ gw := gw_t 307 (by decide +kernel) (by decide +kernel)
theorem wd_308 : (Cond.methodLink "NetForms" (126 : Nat) y_Net_backOf) ∈ gw := gw_t 308 (by decide +kernel) (by decide +kernel)
theorem wd_320 : (Cond.methodLink "NetForms" (129 : Nat) y_Frm_fitsIn) ∈ gw := gw_t 320 (by decide +kernel) (by decide +kernel)
theorem wd_325 : (Cond.methodLink "NetForms" (133 : Nat) y_Nf_hasNoSlope) ∈ gw := gw_t 325 (by decide +kernel) (by decide +kernel)
theorem wd_329 : (Cond.methodLink "NetForms" (235 : Nat) y_Nf_isMadeZero) ∈ gw := gw_t 329 (by decide +kernel) (by decide +kernel)
theorem wd_333 : (Cond.methodLink "NetForms" (137 : Nat) y_Nf_hasNoRim) ∈ gw := gw_t 333 (by decide +kernel) (by decide +kernel)
theorem wd_341 : (Cond.methodLink "NetForms" (140 : Nat) y_Net_countParts) ∈ gw := gw_t 341 (by decide +kernel) (by decide +kernel)
theorem wd_345 : (Cond.methodLink "NetForms" (144 : Nat) y_Nf_countTurns) ∈ gw := gw_t 345 (by decide +kernel) (by decide +kernel)
theorem wd_349 : (Cond.methodLink "NetForms" (238 : Nat) y_Bal_begin) ∈ gw := gw_t 349 (by decide +kernel) (by decide +kernel)
theorem wd_353 : (Cond.methodLink "NetForms$Balance" (18 : Nat) y_Mat_min) ∈ gw := gw_t 353 (by decide +kernel) (by decide +kernel)
theorem wd_354 : (Cond.methodLink "NetForms$Balance" (28 : Nat) y_Arr_fill_JJV) ∈ gw := gw_t 354 (by decide +kernel) (by decide +kernel)
theorem wd_355 : (Cond.methodLink "NetForms" (239 : Nat) y_Nf_addPlateProducts) ∈ gw := gw_t 355 (by decide +kernel) (by decide +kernel)
theorem wd_359 : (Cond.methodLink "NetForms" (248 : Nat) y_Bal_add) ∈ gw := gw_t 359 (by decide +kernel) (by decide +kernel)
theorem wd_363 : (Cond.methodLink "NetForms" (242 : Nat) y_Bal_solve) ∈ gw := gw_t 363 (by decide +kernel) (by decide +kernel)
theorem wd_367 : (Cond.methodLink "NetForms$Balance" (41 : Nat) y_Bal_clear) ∈ gw := gw_t 367 (by decide +kernel) (by decide +kernel)
theorem wd_378 : (Cond.methodLink "NetForms" (150 : Nat) y_Cli_along) ∈ gw := gw_t 378 (by decide +kernel) (by decide +kernel)
theorem wd_382 : (Cond.methodLink "NetForms$Climb" (36 : Nat) y_Cli_join) ∈ gw := gw_t 382 (by decide +kernel) (by decide +kernel)
theorem wd_386 : (Cond.methodLink "NetForms$Climb" (40 : Nat) y_Mat_min) ∈ gw := gw_t 386 (by decide +kernel) (by decide +kernel)
theorem wd_387 : (Cond.methodLink "NetForms" (154 : Nat) y_Cli_aboveLeast) ∈ gw := gw_t 387 (by decide +kernel) (by decide +kernel)
theorem wd_395 : (Cond.constantLong "NetForms" (158 : Nat) (-5 : Int64)) ∈ gw := gw_t 395 (by decide +kernel) (by decide +kernel)
theorem wd_396 : (Cond.methodLink "NetForms" (160 : Nat) y_Nf_slopePart) ∈ gw := gw_t 396 (by decide +kernel) (by decide +kernel)
theorem wd_400 : (Cond.constantLong "NetForms" (258 : Nat) (-1 : Int64)) ∈ gw := gw_t 400 (by decide +kernel) (by decide +kernel)
theorem wd_401 : (Cond.methodLink "NetForms" (260 : Nat) y_Bal_addDue) ∈ gw := gw_t 401 (by decide +kernel) (by decide +kernel)
theorem wd_405 : (Cond.methodLink "NetForms" (192 : Nat) y_Bal_above) ∈ gw := gw_t 405 (by decide +kernel) (by decide +kernel)
theorem wd_409 : (Cond.methodLink "NetForms" (168 : Nat) y_Nf_lowestTerms) ∈ gw := gw_t 409 (by decide +kernel) (by decide +kernel)
theorem wd_412 : (Cond.methodLink "NetForms" (268 : Nat) y_Nf_sharedDivisor) ∈ gw := gw_t 412 (by decide +kernel) (by decide +kernel)
theorem wd_415 : (Cond.methodLink "NetForms" (275 : Nat) y_Mat_abs) ∈ gw := gw_t 415 (by decide +kernel) (by decide +kernel)
theorem wd_418 : (Cond.methodLink "NetForms" (272 : Nat) y_Nf_quotient) ∈ gw := gw_t 418 (by decide +kernel) (by decide +kernel)
theorem wd_419 : (Cond.methodLink "NetForms" (172 : Nat) y_Nf_turnPart) ∈ gw := gw_t 419 (by decide +kernel) (by decide +kernel)
theorem wd_423 : (Cond.methodLink "NetForms" (175 : Nat) y_Nf_stillPart) ∈ gw := gw_t 423 (by decide +kernel) (by decide +kernel)
theorem wd_435 : (Cond.constant "NetForms" (184 : Nat) (-1000000 : Int32)) ∈ gw := gw_t 435 (by decide +kernel) (by decide +kernel)
theorem wd_440 : (Cond.methodLink "NetForms" (185 : Nat) y_Wal_leastWithout) ∈ gw := gw_t 440 (by decide +kernel) (by decide +kernel)
theorem wd_444 : (Cond.methodLink "NetForms$Walls" (28 : Nat) y_Wal_isWalled) ∈ gw := gw_t 444 (by decide +kernel) (by decide +kernel)
theorem wd_452 : (Cond.methodLink "NetForms" (189 : Nat) y_Nf_balanceField) ∈ gw := gw_t 452 (by decide +kernel) (by decide +kernel)
theorem wd_456 : (Cond.methodLink "NetForms" (264 : Nat) y_Nf_balanceAt) ∈ gw := gw_t 456 (by decide +kernel) (by decide +kernel)
theorem wd_464 : (Cond.methodLink "NetForms" (195 : Nat) y_Wav_stepOn) ∈ gw := gw_t 464 (by decide +kernel) (by decide +kernel)
theorem wd_468 : (Cond.methodLink "NetForms" (199 : Nat) y_Wav_stepBack) ∈ gw := gw_t 468 (by decide +kernel) (by decide +kernel)
theorem wd_492 : (Cond.methodLink "NetForms" (211 : Nat) y_Wal_countThere) ∈ gw := gw_t 492 (by decide +kernel) (by decide +kernel)
theorem wd_500 : (Cond.constantLong "NetForms" (214 : Nat) (109 : Int64)) ∈ gw := gw_t 500 (by decide +kernel) (by decide +kernel)
theorem wd_501 : (Cond.constantLong "NetForms" (216 : Nat) (31 : Int64)) ∈ gw := gw_t 501 (by decide +kernel) (by decide +kernel)
theorem wd_502 : (Cond.methodLink "NetForms" (218 : Nat) y_Nf_count) ∈ gw := gw_t 502 (by decide +kernel) (by decide +kernel)
theorem wd_503 : (Cond.methodLink "NetForms" (221 : Nat) y_Nf_foldCorners) ∈ gw := gw_t 503 (by decide +kernel) (by decide +kernel)
theorem wd_507 : (Cond.methodLink "NetForms" (225 : Nat) y_Nf_foldForms) ∈ gw := gw_t 507 (by decide +kernel) (by decide +kernel)
theorem wd_511 : (Cond.methodLink "NetForms" (229 : Nat) y_Nf_foldWalls) ∈ gw := gw_t 511 (by decide +kernel) (by decide +kernel)
theorem wd_521 : (Cond.fieldLink "NetFormsModel" (7 : Nat) "NetFormsModel" "points" "I") ∈ gw := gw_t 521 (by decide +kernel) (by decide +kernel)
theorem wd_522 : (Cond.fieldLink "NetFormsModel" (79 : Nat) "NetFormsModel" "edges" "I") ∈ gw := gw_t 522 (by decide +kernel) (by decide +kernel)
theorem wd_523 : (Cond.fieldLink "NetFormsModel" (82 : Nat) "NetFormsModel" "faces" "I") ∈ gw := gw_t 523 (by decide +kernel) (by decide +kernel)
theorem wd_524 : (Cond.fieldLink "NetFormsModel" (13 : Nat) "NetFormsModel" "begin" "[I") ∈ gw := gw_t 524 (by decide +kernel) (by decide +kernel)
theorem wd_525 : (Cond.fieldLink "NetFormsModel" (17 : Nat) "NetFormsModel" "end" "[I") ∈ gw := gw_t 525 (by decide +kernel) (by decide +kernel)
theorem wd_526 : (Cond.fieldLink "NetFormsModel" (20 : Nat) "NetFormsModel" "first" "[I") ∈ gw := gw_t 526 (by decide +kernel) (by decide +kernel)
theorem wd_527 : (Cond.fieldLink "NetFormsModel" (23 : Nat) "NetFormsModel" "second" "[I") ∈ gw := gw_t 527 (by decide +kernel) (by decide +kernel)
theorem wd_528 : (Cond.fieldLink "NetFormsModel" (26 : Nat) "NetFormsModel" "third" "[I") ∈ gw := gw_t 528 (by decide +kernel) (by decide +kernel)
theorem wd_529 : (Cond.fieldLink "NetFormsModel" (29 : Nat) "NetFormsModel" "degree" "[I") ∈ gw := gw_t 529 (by decide +kernel) (by decide +kernel)
theorem wd_530 : (Cond.fieldLink "NetFormsModel" (32 : Nat) "NetFormsModel" "number" "[I") ∈ gw := gw_t 530 (by decide +kernel) (by decide +kernel)
theorem wd_531 : (Cond.fieldLink "NetFormsModel" (35 : Nat) "NetFormsModel" "isWall" "[Z") ∈ gw := gw_t 531 (by decide +kernel) (by decide +kernel)
theorem wd_532 : (Cond.fieldLink "NetFormsModel" (39 : Nat) "NetFormsModel" "wall" "[I") ∈ gw := gw_t 532 (by decide +kernel) (by decide +kernel)
theorem wd_533 : (Cond.fieldLink "NetFormsModel" (42 : Nat) "NetFormsModel" "height" "[J") ∈ gw := gw_t 533 (by decide +kernel) (by decide +kernel)
theorem wd_534 : (Cond.fieldLink "NetFormsModel" (46 : Nat) "NetFormsModel" "flow" "[J") ∈ gw := gw_t 534 (by decide +kernel) (by decide +kernel)
theorem wd_535 : (Cond.fieldLink "NetFormsModel" (85 : Nat) "NetFormsModel" "steps" "I") ∈ gw := gw_t 535 (by decide +kernel) (by decide +kernel)
theorem wd_536 : (Cond.fieldLink "NetFormsModel" (49 : Nat) "NetFormsModel" "made" "[J") ∈ gw := gw_t 536 (by decide +kernel) (by decide +kernel)
theorem wd_537 : (Cond.fieldLink "NetFormsModel" (52 : Nat) "NetFormsModel" "table" "[J") ∈ gw := gw_t 537 (by decide +kernel) (by decide +kernel)
theorem wd_538 : (Cond.fieldLink "NetFormsModel" (55 : Nat) "NetFormsModel" "placeOf" "[I") ∈ gw := gw_t 538 (by decide +kernel) (by decide +kernel)
theorem wd_539 : (Cond.fieldLink "NetFormsModel" (150 : Nat) "NetFormsModel" "shared" "J") ∈ gw := gw_t 539 (by decide +kernel) (by decide +kernel)
theorem wd_540 : (Cond.fieldLink "NetFormsModel" (58 : Nat) "NetFormsModel" "solved" "[J") ∈ gw := gw_t 540 (by decide +kernel) (by decide +kernel)
theorem wd_541 : (Cond.fieldLink "NetFormsModel" (61 : Nat) "NetFormsModel" "partOf" "[I") ∈ gw := gw_t 541 (by decide +kernel) (by decide +kernel)
theorem wd_542 : (Cond.fieldLink "NetFormsModel" (64 : Nat) "NetFormsModel" "raised" "[J") ∈ gw := gw_t 542 (by decide +kernel) (by decide +kernel)
theorem wd_543 : (Cond.fieldLink "NetFormsModel" (67 : Nat) "NetFormsModel" "slopePart" "[J") ∈ gw := gw_t 543 (by decide +kernel) (by decide +kernel)
theorem wd_544 : (Cond.fieldLink "NetFormsModel" (70 : Nat) "NetFormsModel" "rimPart" "[J") ∈ gw := gw_t 544 (by decide +kernel) (by decide +kernel)
theorem wd_545 : (Cond.fieldLink "NetFormsModel" (183 : Nat) "NetFormsModel" "slopeShared" "J") ∈ gw := gw_t 545 (by decide +kernel) (by decide +kernel)
theorem wd_546 : (Cond.fieldLink "NetFormsModel" (189 : Nat) "NetFormsModel" "rimShared" "J") ∈ gw := gw_t 546 (by decide +kernel) (by decide +kernel)
theorem wd_604 : (Cond.constantLong "NetFormsModel" (73 : Nat) (6 : Int64)) ∈ gw := gw_t 604 (by decide +kernel) (by decide +kernel)
theorem wd_605 : (Cond.methodLink "NetFormsModel" (75 : Nat) y_Mo_in) ∈ gw := gw_t 605 (by decide +kernel) (by decide +kernel)
theorem wd_608 : (Cond.methodLink "NetFormsModel" (88 : Nat) y_Mo_clears) ∈ gw := gw_t 608 (by decide +kernel) (by decide +kernel)
theorem wd_616 : (Cond.methodLink "NetFormsModel" (92 : Nat) y_Mo_isPoint) ∈ gw := gw_t 616 (by decide +kernel) (by decide +kernel)
theorem wd_620 : (Cond.methodLink "NetFormsModel" (96 : Nat) y_Mo_edgeOf) ∈ gw := gw_t 620 (by decide +kernel) (by decide +kernel)
theorem wd_636 : (Cond.methodLink "NetFormsModel" (102 : Nat) y_Mo_isForm) ∈ gw := gw_t 636 (by decide +kernel) (by decide +kernel)
theorem wd_639 : (Cond.constantLong "NetFormsModel" (100 : Nat) (11 : Int64)) ∈ gw := gw_t 639 (by decide +kernel) (by decide +kernel)
theorem wd_640 : (Cond.constantLong "NetFormsModel" (105 : Nat) (2 : Int64)) ∈ gw := gw_t 640 (by decide +kernel) (by decide +kernel)
theorem wd_645 : (Cond.methodLink "NetFormsModel" (111 : Nat) y_Mo_isThere) ∈ gw := gw_t 645 (by decide +kernel) (by decide +kernel)
theorem wd_649 : (Cond.methodLink "NetFormsModel" (107 : Nat) y_Mo_size) ∈ gw := gw_t 649 (by decide +kernel) (by decide +kernel)
theorem wd_653 : (Cond.constantLong "NetFormsModel" (115 : Nat) (-1000000 : Int64)) ∈ gw := gw_t 653 (by decide +kernel) (by decide +kernel)
theorem wd_654 : (Cond.constantLong "NetFormsModel" (117 : Nat) (1000000 : Int64)) ∈ gw := gw_t 654 (by decide +kernel) (by decide +kernel)
theorem wd_655 : (Cond.constant "NetFormsModel" (119 : Nat) (-2000000 : Int32)) ∈ gw := gw_t 655 (by decide +kernel) (by decide +kernel)
theorem wd_664 : (Cond.methodLink "NetFormsModel" (128 : Nat) y_Mo_makeSlope) ∈ gw := gw_t 664 (by decide +kernel) (by decide +kernel)
theorem wd_668 : (Cond.methodLink "NetFormsModel" (120 : Nat) y_Mo_at) ∈ gw := gw_t 668 (by decide +kernel) (by decide +kernel)
theorem wd_672 : (Cond.methodLink "NetFormsModel" (124 : Nat) y_Mo_onEdge) ∈ gw := gw_t 672 (by decide +kernel) (by decide +kernel)
theorem wd_676 : (Cond.methodLink "NetFormsModel" (132 : Nat) y_Mo_becomes) ∈ gw := gw_t 676 (by decide +kernel) (by decide +kernel)
theorem wd_684 : (Cond.methodLink "NetFormsModel" (135 : Nat) y_Mo_makeRim) ∈ gw := gw_t 684 (by decide +kernel) (by decide +kernel)
theorem wd_692 : (Cond.methodLink "NetFormsModel" (138 : Nat) y_Mo_cupAt) ∈ gw := gw_t 692 (by decide +kernel) (by decide +kernel)
theorem wd_700 : (Cond.constantLong "NetFormsModel" (141 : Nat) (-1000 : Int64)) ∈ gw := gw_t 700 (by decide +kernel) (by decide +kernel)
theorem wd_701 : (Cond.constantLong "NetFormsModel" (143 : Nat) (1000 : Int64)) ∈ gw := gw_t 701 (by decide +kernel) (by decide +kernel)
theorem wd_706 : (Cond.constantLong "NetFormsModel" (145 : Nat) (3 : Int64)) ∈ gw := gw_t 706 (by decide +kernel) (by decide +kernel)
theorem wd_707 : (Cond.methodLink "NetFormsModel" (147 : Nat) y_Mo_isNought) ∈ gw := gw_t 707 (by decide +kernel) (by decide +kernel)
theorem wd_715 : (Cond.methodLink "NetFormsModel" (162 : Nat) y_Mo_parts) ∈ gw := gw_t 715 (by decide +kernel) (by decide +kernel)
theorem wd_719 : (Cond.methodLink "NetFormsModel" (177 : Nat) y_Mo_joins) ∈ gw := gw_t 719 (by decide +kernel) (by decide +kernel)
theorem wd_723 : (Cond.methodLink "NetFormsModel" (171 : Nat) y_Mo_slopeRank) ∈ gw := gw_t 723 (by decide +kernel) (by decide +kernel)
theorem wd_727 : (Cond.methodLink "NetFormsModel" (174 : Nat) y_Mo_turnRank) ∈ gw := gw_t 727 (by decide +kernel) (by decide +kernel)
theorem wd_731 : (Cond.methodLink "NetFormsModel" (166 : Nat) y_Mo_empties) ∈ gw := gw_t 731 (by decide +kernel) (by decide +kernel)
theorem wd_735 : (Cond.constantLong "NetFormsModel" (169 : Nat) (-1 : Int64)) ∈ gw := gw_t 735 (by decide +kernel) (by decide +kernel)
theorem wd_736 : (Cond.methodLink "NetFormsModel" (158 : Nat) y_Mo_turns) ∈ gw := gw_t 736 (by decide +kernel) (by decide +kernel)
theorem wd_740 : (Cond.methodLink "NetFormsModel" (154 : Nat) y_Mo_turn) ∈ gw := gw_t 740 (by decide +kernel) (by decide +kernel)
theorem wd_752 : (Cond.constantLong "NetFormsModel" (196 : Nat) (-5 : Int64)) ∈ gw := gw_t 752 (by decide +kernel) (by decide +kernel)
theorem wd_753 : (Cond.methodLink "NetFormsModel" (198 : Nat) y_Mo_splits) ∈ gw := gw_t 753 (by decide +kernel) (by decide +kernel)
theorem wd_757 : (Cond.methodLink "NetFormsModel" (180 : Nat) y_Mo_solves) ∈ gw := gw_t 757 (by decide +kernel) (by decide +kernel)
theorem wd_761 : (Cond.methodLink "NetFormsModel" (186 : Nat) y_Mo_sideOf) ∈ gw := gw_t 761 (by decide +kernel) (by decide +kernel)
theorem wd_765 : (Cond.methodLink "NetFormsModel" (201 : Nat) y_Mo_lowest) ∈ gw := gw_t 765 (by decide +kernel) (by decide +kernel)
theorem wd_768 : (Cond.methodLink "NetFormsModel" (192 : Nat) y_Mo_divisor) ∈ gw := gw_t 768 (by decide +kernel) (by decide +kernel)
theorem wd_779 : (Cond.constant "NetFormsModel" (205 : Nat) (-1000000 : Int32)) ∈ gw := gw_t 779 (by decide +kernel) (by decide +kernel)
theorem wd_784 : (Cond.methodLink "NetFormsModel" (206 : Nat) y_Mo_forbids) ∈ gw := gw_t 784 (by decide +kernel) (by decide +kernel)
theorem wd_796 : (Cond.constantLong "NetFormsModel" (209 : Nat) (-100 : Int64)) ∈ gw := gw_t 796 (by decide +kernel) (by decide +kernel)
theorem wd_797 : (Cond.constantLong "NetFormsModel" (211 : Nat) (100 : Int64)) ∈ gw := gw_t 797 (by decide +kernel) (by decide +kernel)
theorem wd_798 : (Cond.methodLink "NetFormsModel" (213 : Nat) y_Mo_flows) ∈ gw := gw_t 798 (by decide +kernel) (by decide +kernel)
theorem wd_802 : (Cond.methodLink "NetFormsModel" (217 : Nat) y_Mo_rises) ∈ gw := gw_t 802 (by decide +kernel) (by decide +kernel)
theorem wd_830 : (Cond.constantLong "NetFormsModel" (220 : Nat) (109 : Int64)) ∈ gw := gw_t 830 (by decide +kernel) (by decide +kernel)
theorem wd_831 : (Cond.constantLong "NetFormsModel" (222 : Nat) (31 : Int64)) ∈ gw := gw_t 831 (by decide +kernel) (by decide +kernel)
theorem wd_832 : (Cond.methodLink "NetFormsModel" (224 : Nat) y_Mo_count) ∈ gw := gw_t 832 (by decide +kernel) (by decide +kernel)
theorem ne_324 : ("NetForms$Form", 25, y_Nf_isWithin, "NetForms") ∈ nestW := by decide +kernel
theorem ne_371 : ("NetForms$Balance", 45, y_Nf_quotient, "NetForms") ∈ nestW := by decide +kernel
set_option maxRecDepth 20000 in
theorem v_Net_begin : Yw y_Net_begin b_Net_begin 3 (none) 1 := ⟨gw_t 162 rfl rfl, gw_t 2 (by decide +kernel) (by decide +kernel), by decide +kernel, by decide⟩
theorem i_Net_begin : Cond.instanceMethod y_Net_begin ∈ gw := gw_t 160 (by decide +kernel) (by decide +kernel)
theorem z_Net_begin : Cond.selects y_Net_begin.cls y_Net_begin y_Net_begin ∈ gw := gw_t 161 (by decide +kernel) (by decide +kernel)
set_option maxRecDepth 20000 in
theorem v_Arr_fill_IIV : Yw y_Arr_fill_IIV b_Arr_fill_IIV 4 (none) 2 := ⟨gw_t 195 rfl rfl, gw_t 9 (by decide +kernel) (by decide +kernel), by decide +kernel, by decide⟩
theorem z_Arr_fill_IIV : Cond.static y_Arr_fill_IIV ∈ gw := gw_t 194 (by decide +kernel) (by decide +kernel)
set_option maxRecDepth 20000 in
theorem v_Wal_begin : Yw y_Wal_begin b_Wal_begin 2 (none) 0 := ⟨gw_t 199 rfl rfl, gw_t 3 (by decide +kernel) (by decide +kernel), by decide +kernel, by decide⟩
theorem i_Wal_begin : Cond.instanceMethod y_Wal_begin ∈ gw := gw_t 197 (by decide +kernel) (by decide +kernel)
theorem z_Wal_begin : Cond.selects y_Wal_begin.cls y_Wal_begin y_Wal_begin ∈ gw := gw_t 198 (by decide +kernel) (by decide +kernel)
set_option maxRecDepth 20000 in
theorem v_Arr_fill_JJV : Yw y_Arr_fill_JJV b_Arr_fill_JJV 5 (none) 2 := ⟨gw_t 206 rfl rfl, gw_t 9 (by decide +kernel) (by decide +kernel), by decide +kernel, by decide⟩
theorem z_Arr_fill_JJV : Cond.static y_Arr_fill_JJV ∈ gw := gw_t 205 (by decide +kernel) (by decide +kernel)
set_option maxRecDepth 20000 in
theorem v_Net_size : Yw y_Net_size b_Net_size 2 (some .int) 1 := ⟨gw_t 218 rfl rfl, gw_t 2 (by decide +kernel) (by decide +kernel), by decide +kernel, by decide⟩
theorem i_Net_size : Cond.instanceMethod y_Net_size ∈ gw := gw_t 216 (by decide +kernel) (by decide +kernel)
theorem z_Net_size : Cond.selects y_Net_size.cls y_Net_size y_Net_size ∈ gw := gw_t 217 (by decide +kernel) (by decide +kernel)
set_option maxRecDepth 20000 in
theorem v_Net_edgeBetween : Yw y_Net_edgeBetween b_Net_edgeBetween 4 (some .int) 2 := ⟨gw_t 222 rfl rfl, gw_t 2 (by decide +kernel) (by decide +kernel), by decide +kernel, by decide⟩
theorem i_Net_edgeBetween : Cond.instanceMethod y_Net_edgeBetween ∈ gw := gw_t 220 (by decide +kernel) (by decide +kernel)
theorem z_Net_edgeBetween : Cond.selects y_Net_edgeBetween.cls y_Net_edgeBetween y_Net_edgeBetween ∈ gw := gw_t 221 (by decide +kernel) (by decide +kernel)
set_option maxRecDepth 20000 in
theorem v_Net_hasPlateOf : Yw y_Net_hasPlateOf b_Net_hasPlateOf 4 (some .boolean) 2 := ⟨gw_t 240 rfl rfl, gw_t 2 (by decide +kernel) (by decide +kernel), by decide +kernel, by decide⟩
theorem i_Net_hasPlateOf : Cond.instanceMethod y_Net_hasPlateOf ∈ gw := gw_t 238 (by decide +kernel) (by decide +kernel)
theorem z_Net_hasPlateOf : Cond.selects y_Net_hasPlateOf.cls y_Net_hasPlateOf y_Net_hasPlateOf ∈ gw := gw_t 239 (by decide +kernel) (by decide +kernel)
set_option maxRecDepth 20000 in
theorem v_Net_addPlate : Yw y_Net_addPlate b_Net_addPlate 4 (some .int) 3 := ⟨gw_t 244 rfl rfl, gw_t 2 (by decide +kernel) (by decide +kernel), by decide +kernel, by decide⟩
theorem i_Net_addPlate : Cond.instanceMethod y_Net_addPlate ∈ gw := gw_t 242 (by decide +kernel) (by decide +kernel)
theorem z_Net_addPlate : Cond.selects y_Net_addPlate.cls y_Net_addPlate y_Net_addPlate ∈ gw := gw_t 243 (by decide +kernel) (by decide +kernel)
set_option maxRecDepth 20000 in
theorem v_Net_pointOf : Yw y_Net_pointOf b_Net_pointOf 5 (some .int) 3 := ⟨gw_t 252 rfl rfl, gw_t 2 (by decide +kernel) (by decide +kernel), by decide +kernel, by decide⟩
theorem i_Net_pointOf : Cond.instanceMethod y_Net_pointOf ∈ gw := gw_t 250 (by decide +kernel) (by decide +kernel)
theorem z_Net_pointOf : Cond.selects y_Net_pointOf.cls y_Net_pointOf y_Net_pointOf ∈ gw := gw_t 251 (by decide +kernel) (by decide +kernel)
set_option maxRecDepth 20000 in
theorem v_Nf_formAt : Yw y_Nf_formAt b_Nf_formAt 2 (some (.object "NetForms$Form")) 1 := ⟨gw_t 260 rfl rfl, gw_t 1 (by decide +kernel) (by decide +kernel), by decide +kernel, by decide⟩
theorem i_Nf_formAt : Cond.instanceMethod y_Nf_formAt ∈ gw := gw_t 259 (by decide +kernel) (by decide +kernel)
theorem z_Nf_formAt : Cond.selects y_Nf_formAt.cls y_Nf_formAt y_Nf_formAt ∈ gw := gw_s 0 (by decide +kernel) (by decide +kernel)
set_option maxRecDepth 20000 in
theorem v_Nf_isWithin : Yw y_Nf_isWithin b_Nf_isWithin 3 (some .boolean) 2 := ⟨gw_t 268 rfl rfl, gw_t 1 (by decide +kernel) (by decide +kernel), by decide +kernel, by decide⟩
theorem z_Nf_isWithin : Cond.static y_Nf_isWithin ∈ gw := gw_t 267 (by decide +kernel) (by decide +kernel)
set_option maxRecDepth 20000 in
theorem v_Net_signOf : Yw y_Net_signOf b_Net_signOf 4 (some .int) 3 := ⟨gw_t 286 rfl rfl, gw_t 2 (by decide +kernel) (by decide +kernel), by decide +kernel, by decide⟩
theorem i_Net_signOf : Cond.instanceMethod y_Net_signOf ∈ gw := gw_t 284 (by decide +kernel) (by decide +kernel)
theorem z_Net_signOf : Cond.selects y_Net_signOf.cls y_Net_signOf y_Net_signOf ∈ gw := gw_t 285 (by decide +kernel) (by decide +kernel)
set_option maxRecDepth 20000 in
theorem v_Nf_isMadeZero : Yw y_Nf_isMadeZero b_Nf_isMadeZero 3 (some .boolean) 1 := ⟨gw_t 332 rfl rfl, gw_t 1 (by decide +kernel) (by decide +kernel), by decide +kernel, by decide⟩
theorem i_Nf_isMadeZero : Cond.instanceMethod y_Nf_isMadeZero ∈ gw := gw_t 331 (by decide +kernel) (by decide +kernel)
theorem z_Nf_isMadeZero : Cond.selects y_Nf_isMadeZero.cls y_Nf_isMadeZero y_Nf_isMadeZero ∈ gw := gw_s 5 (by decide +kernel) (by decide +kernel)
set_option maxRecDepth 20000 in
theorem v_Net_countParts : Yw y_Net_countParts b_Net_countParts 3 (some .int) 0 := ⟨gw_t 344 rfl rfl, gw_t 2 (by decide +kernel) (by decide +kernel), by decide +kernel, by decide⟩
theorem i_Net_countParts : Cond.instanceMethod y_Net_countParts ∈ gw := gw_t 342 (by decide +kernel) (by decide +kernel)
theorem z_Net_countParts : Cond.selects y_Net_countParts.cls y_Net_countParts y_Net_countParts ∈ gw := gw_t 343 (by decide +kernel) (by decide +kernel)
set_option maxRecDepth 20000 in
theorem v_Bal_add : Yw y_Bal_add b_Bal_add 5 (none) 3 := ⟨gw_t 362 rfl rfl, gw_t 5 (by decide +kernel) (by decide +kernel), by decide +kernel, by decide⟩
theorem i_Bal_add : Cond.instanceMethod y_Bal_add ∈ gw := gw_t 360 (by decide +kernel) (by decide +kernel)
theorem z_Bal_add : Cond.selects y_Bal_add.cls y_Bal_add y_Bal_add ∈ gw := gw_t 361 (by decide +kernel) (by decide +kernel)
set_option maxRecDepth 20000 in
theorem v_Nf_quotient : Yw y_Nf_quotient b_Nf_quotient 4 (some .long) 2 := ⟨gw_t 373 rfl rfl, gw_t 1 (by decide +kernel) (by decide +kernel), by decide +kernel, by decide⟩
theorem z_Nf_quotient : Cond.static y_Nf_quotient ∈ gw := gw_t 372 (by decide +kernel) (by decide +kernel)
set_option maxRecDepth 20000 in
theorem v_Cli_aboveLeast : Yw y_Cli_aboveLeast b_Cli_aboveLeast 2 (some .long) 1 := ⟨gw_t 390 rfl rfl, gw_t 6 (by decide +kernel) (by decide +kernel), by decide +kernel, by decide⟩
theorem i_Cli_aboveLeast : Cond.instanceMethod y_Cli_aboveLeast ∈ gw := gw_t 388 (by decide +kernel) (by decide +kernel)
theorem z_Cli_aboveLeast : Cond.selects y_Cli_aboveLeast.cls y_Cli_aboveLeast y_Cli_aboveLeast ∈ gw := gw_t 389 (by decide +kernel) (by decide +kernel)
set_option maxRecDepth 20000 in
theorem v_Bal_addDue : Yw y_Bal_addDue b_Bal_addDue 4 (none) 2 := ⟨gw_t 404 rfl rfl, gw_t 5 (by decide +kernel) (by decide +kernel), by decide +kernel, by decide⟩
theorem i_Bal_addDue : Cond.instanceMethod y_Bal_addDue ∈ gw := gw_t 402 (by decide +kernel) (by decide +kernel)
theorem z_Bal_addDue : Cond.selects y_Bal_addDue.cls y_Bal_addDue y_Bal_addDue ∈ gw := gw_t 403 (by decide +kernel) (by decide +kernel)
set_option maxRecDepth 20000 in
theorem v_Bal_above : Yw y_Bal_above b_Bal_above 2 (some .long) 1 := ⟨gw_t 408 rfl rfl, gw_t 5 (by decide +kernel) (by decide +kernel), by decide +kernel, by decide⟩
theorem i_Bal_above : Cond.instanceMethod y_Bal_above ∈ gw := gw_t 406 (by decide +kernel) (by decide +kernel)
theorem z_Bal_above : Cond.selects y_Bal_above.cls y_Bal_above y_Bal_above ∈ gw := gw_t 407 (by decide +kernel) (by decide +kernel)
set_option maxRecDepth 20000 in
theorem v_Wal_isWalled : Yw y_Wal_isWalled b_Wal_isWalled 4 (some .boolean) 2 := ⟨gw_t 447 rfl rfl, gw_t 3 (by decide +kernel) (by decide +kernel), by decide +kernel, by decide⟩
theorem i_Wal_isWalled : Cond.instanceMethod y_Wal_isWalled ∈ gw := gw_t 446 (by decide +kernel) (by decide +kernel)
theorem z_Wal_isWalled : Cond.selects y_Wal_isWalled.cls y_Wal_isWalled y_Wal_isWalled ∈ gw := gw_s 14 (by decide +kernel) (by decide +kernel)
set_option maxRecDepth 20000 in
theorem v_Wav_stepOn : Yw y_Wav_stepOn b_Wav_stepOn 3 (none) 1 := ⟨gw_t 467 rfl rfl, gw_t 4 (by decide +kernel) (by decide +kernel), by decide +kernel, by decide⟩
theorem i_Wav_stepOn : Cond.instanceMethod y_Wav_stepOn ∈ gw := gw_t 465 (by decide +kernel) (by decide +kernel)
theorem z_Wav_stepOn : Cond.selects y_Wav_stepOn.cls y_Wav_stepOn y_Wav_stepOn ∈ gw := gw_t 466 (by decide +kernel) (by decide +kernel)
set_option maxRecDepth 20000 in
theorem v_Wav_stepBack : Yw y_Wav_stepBack b_Wav_stepBack 3 (none) 1 := ⟨gw_t 471 rfl rfl, gw_t 4 (by decide +kernel) (by decide +kernel), by decide +kernel, by decide⟩
theorem i_Wav_stepBack : Cond.instanceMethod y_Wav_stepBack ∈ gw := gw_t 469 (by decide +kernel) (by decide +kernel)
theorem z_Wav_stepBack : Cond.selects y_Wav_stepBack.cls y_Wav_stepBack y_Wav_stepBack ∈ gw := gw_t 470 (by decide +kernel) (by decide +kernel)
set_option maxRecDepth 20000 in
theorem v_Nf_sum : Yw y_Nf_sum b_Nf_sum 4 (some .long) 0 := ⟨gw_t 487 rfl rfl, gw_t 1 (by decide +kernel) (by decide +kernel), by decide +kernel, by decide⟩
theorem i_Nf_sum : Cond.instanceMethod y_Nf_sum ∈ gw := gw_t 485 (by decide +kernel) (by decide +kernel)
theorem z_Nf_sum : Cond.selects y_Nf_sum.cls y_Nf_sum y_Nf_sum ∈ gw := gw_t 486 (by decide +kernel) (by decide +kernel)
set_option maxRecDepth 20000 in
theorem v_Wal_countThere : Yw y_Wal_countThere b_Wal_countThere 4 (some .int) 1 := ⟨gw_t 495 rfl rfl, gw_t 3 (by decide +kernel) (by decide +kernel), by decide +kernel, by decide⟩
theorem i_Wal_countThere : Cond.instanceMethod y_Wal_countThere ∈ gw := gw_t 493 (by decide +kernel) (by decide +kernel)
theorem z_Wal_countThere : Cond.selects y_Wal_countThere.cls y_Wal_countThere y_Wal_countThere ∈ gw := gw_t 494 (by decide +kernel) (by decide +kernel)
set_option maxRecDepth 20000 in
theorem v_Nf_foldWalls : Yw y_Nf_foldWalls b_Nf_foldWalls 6 (some .long) 1 := ⟨gw_t 514 rfl rfl, gw_t 1 (by decide +kernel) (by decide +kernel), by decide +kernel, by decide⟩
theorem i_Nf_foldWalls : Cond.instanceMethod y_Nf_foldWalls ∈ gw := gw_t 513 (by decide +kernel) (by decide +kernel)
theorem z_Nf_foldWalls : Cond.selects y_Nf_foldWalls.cls y_Nf_foldWalls y_Nf_foldWalls ∈ gw := gw_s 19 (by decide +kernel) (by decide +kernel)
set_option maxRecDepth 20000 in
theorem v_Mo_in : Yw y_Mo_in b_Mo_in 6 (some .boolean) 3 := ⟨gw_t 607 rfl rfl, gw_t 8 (by decide +kernel) (by decide +kernel), by decide +kernel, by decide⟩
theorem z_Mo_in : Cond.static y_Mo_in ∈ gw := gw_t 606 (by decide +kernel) (by decide +kernel)
set_option maxRecDepth 20000 in
theorem v_Mo_clears : Yw y_Mo_clears b_Mo_clears 4 (none) 2 := ⟨gw_t 611 rfl rfl, gw_t 8 (by decide +kernel) (by decide +kernel), by decide +kernel, by decide⟩
theorem i_Mo_clears : Cond.instanceMethod y_Mo_clears ∈ gw := gw_t 610 (by decide +kernel) (by decide +kernel)
theorem z_Mo_clears : Cond.selects y_Mo_clears.cls y_Mo_clears y_Mo_clears ∈ gw := gw_s 20 (by decide +kernel) (by decide +kernel)
set_option maxRecDepth 20000 in
theorem v_Mo_edgeOf : Yw y_Mo_edgeOf b_Mo_edgeOf 4 (some .int) 2 := ⟨gw_t 623 rfl rfl, gw_t 8 (by decide +kernel) (by decide +kernel), by decide +kernel, by decide⟩
theorem i_Mo_edgeOf : Cond.instanceMethod y_Mo_edgeOf ∈ gw := gw_t 622 (by decide +kernel) (by decide +kernel)
theorem z_Mo_edgeOf : Cond.selects y_Mo_edgeOf.cls y_Mo_edgeOf y_Mo_edgeOf ∈ gw := gw_s 22 (by decide +kernel) (by decide +kernel)
set_option maxRecDepth 20000 in
theorem v_Mo_size : Yw y_Mo_size b_Mo_size 2 (some .int) 1 := ⟨gw_t 652 rfl rfl, gw_t 8 (by decide +kernel) (by decide +kernel), by decide +kernel, by decide⟩
theorem i_Mo_size : Cond.instanceMethod y_Mo_size ∈ gw := gw_t 651 (by decide +kernel) (by decide +kernel)
theorem z_Mo_size : Cond.selects y_Mo_size.cls y_Mo_size y_Mo_size ∈ gw := gw_s 24 (by decide +kernel) (by decide +kernel)
set_option maxRecDepth 20000 in
theorem v_Mo_at : Yw y_Mo_at b_Mo_at 3 (some .long) 2 := ⟨gw_t 671 rfl rfl, gw_t 8 (by decide +kernel) (by decide +kernel), by decide +kernel, by decide⟩
theorem i_Mo_at : Cond.instanceMethod y_Mo_at ∈ gw := gw_t 670 (by decide +kernel) (by decide +kernel)
theorem z_Mo_at : Cond.selects y_Mo_at.cls y_Mo_at y_Mo_at ∈ gw := gw_s 26 (by decide +kernel) (by decide +kernel)
set_option maxRecDepth 20000 in
theorem v_Mo_joins : Yw y_Mo_joins b_Mo_joins 6 (none) 2 := ⟨gw_t 722 rfl rfl, gw_t 8 (by decide +kernel) (by decide +kernel), by decide +kernel, by decide⟩
theorem i_Mo_joins : Cond.instanceMethod y_Mo_joins ∈ gw := gw_t 721 (by decide +kernel) (by decide +kernel)
theorem z_Mo_joins : Cond.selects y_Mo_joins.cls y_Mo_joins y_Mo_joins ∈ gw := gw_s 33 (by decide +kernel) (by decide +kernel)
set_option maxRecDepth 20000 in
theorem v_Mo_empties : Yw y_Mo_empties b_Mo_empties 2 (none) 0 := ⟨gw_t 734 rfl rfl, gw_t 8 (by decide +kernel) (by decide +kernel), by decide +kernel, by decide⟩
theorem i_Mo_empties : Cond.instanceMethod y_Mo_empties ∈ gw := gw_t 733 (by decide +kernel) (by decide +kernel)
theorem z_Mo_empties : Cond.selects y_Mo_empties.cls y_Mo_empties y_Mo_empties ∈ gw := gw_s 36 (by decide +kernel) (by decide +kernel)
set_option maxRecDepth 20000 in
theorem v_Mo_turn : Yw y_Mo_turn b_Mo_turn 11 (none) 4 := ⟨gw_t 743 rfl rfl, gw_t 8 (by decide +kernel) (by decide +kernel), by decide +kernel, by decide⟩
theorem i_Mo_turn : Cond.instanceMethod y_Mo_turn ∈ gw := gw_t 742 (by decide +kernel) (by decide +kernel)
theorem z_Mo_turn : Cond.selects y_Mo_turn.cls y_Mo_turn y_Mo_turn ∈ gw := gw_s 38 (by decide +kernel) (by decide +kernel)
set_option maxRecDepth 20000 in
theorem v_Mo_sideOf : Yw y_Mo_sideOf b_Mo_sideOf 5 (some .long) 2 := ⟨gw_t 764 rfl rfl, gw_t 8 (by decide +kernel) (by decide +kernel), by decide +kernel, by decide⟩
theorem i_Mo_sideOf : Cond.instanceMethod y_Mo_sideOf ∈ gw := gw_t 763 (by decide +kernel) (by decide +kernel)
theorem z_Mo_sideOf : Cond.selects y_Mo_sideOf.cls y_Mo_sideOf y_Mo_sideOf ∈ gw := gw_s 41 (by decide +kernel) (by decide +kernel)
set_option maxRecDepth 20000 in
theorem v_Mo_divisor : Yw y_Mo_divisor b_Mo_divisor 10 (some .long) 2 := ⟨gw_t 770 rfl rfl, gw_t 8 (by decide +kernel) (by decide +kernel), by decide +kernel, by decide⟩
theorem z_Mo_divisor : Cond.static y_Mo_divisor ∈ gw := gw_t 769 (by decide +kernel) (by decide +kernel)
set_option maxRecDepth 20000 in
theorem v_Mo_flows : Yw y_Mo_flows b_Mo_flows 4 (none) 1 := ⟨gw_t 801 rfl rfl, gw_t 8 (by decide +kernel) (by decide +kernel), by decide +kernel, by decide⟩
theorem i_Mo_flows : Cond.instanceMethod y_Mo_flows ∈ gw := gw_t 800 (by decide +kernel) (by decide +kernel)
theorem z_Mo_flows : Cond.selects y_Mo_flows.cls y_Mo_flows y_Mo_flows ∈ gw := gw_s 43 (by decide +kernel) (by decide +kernel)
set_option maxRecDepth 20000 in
theorem v_Mo_rises : Yw y_Mo_rises b_Mo_rises 4 (none) 1 := ⟨gw_t 805 rfl rfl, gw_t 8 (by decide +kernel) (by decide +kernel), by decide +kernel, by decide⟩
theorem i_Mo_rises : Cond.instanceMethod y_Mo_rises ∈ gw := gw_t 804 (by decide +kernel) (by decide +kernel)
theorem z_Mo_rises : Cond.selects y_Mo_rises.cls y_Mo_rises y_Mo_rises ∈ gw := gw_s 44 (by decide +kernel) (by decide +kernel)
set_option maxRecDepth 20000 in
theorem v_Mo_sum : Yw y_Mo_sum b_Mo_sum 4 (some .long) 0 := ⟨gw_t 821 rfl rfl, gw_t 8 (by decide +kernel) (by decide +kernel), by decide +kernel, by decide⟩
theorem i_Mo_sum : Cond.instanceMethod y_Mo_sum ∈ gw := gw_t 819 (by decide +kernel) (by decide +kernel)
theorem z_Mo_sum : Cond.selects y_Mo_sum.cls y_Mo_sum y_Mo_sum ∈ gw := gw_t 820 (by decide +kernel) (by decide +kernel)
set_option maxRecDepth 20000 in
theorem v_Frm_begin : Yw y_Frm_begin b_Frm_begin 2 (none) 1 := ⟨gw_t 192 rfl rfl, gw_t 7 (by decide +kernel) (by decide +kernel), by decide +kernel, by decide⟩
theorem i_Frm_begin : Cond.instanceMethod y_Frm_begin ∈ gw := gw_t 190 (by decide +kernel) (by decide +kernel)
theorem z_Frm_begin : Cond.selects y_Frm_begin.cls y_Frm_begin y_Frm_begin ∈ gw := gw_t 191 (by decide +kernel) (by decide +kernel)
set_option maxRecDepth 20000 in
theorem v_Wav_begin : Yw y_Wav_begin b_Wav_begin 1 (none) 0 := ⟨gw_t 203 rfl rfl, gw_t 4 (by decide +kernel) (by decide +kernel), by decide +kernel, by decide⟩
theorem i_Wav_begin : Cond.instanceMethod y_Wav_begin ∈ gw := gw_t 201 (by decide +kernel) (by decide +kernel)
theorem z_Wav_begin : Cond.selects y_Wav_begin.cls y_Wav_begin y_Wav_begin ∈ gw := gw_t 202 (by decide +kernel) (by decide +kernel)
set_option maxRecDepth 20000 in
theorem v_Net_has : Yw y_Net_has b_Net_has 3 (some .boolean) 2 := ⟨gw_t 214 rfl rfl, gw_t 2 (by decide +kernel) (by decide +kernel), by decide +kernel, by decide⟩
theorem i_Net_has : Cond.instanceMethod y_Net_has ∈ gw := gw_t 212 (by decide +kernel) (by decide +kernel)
theorem z_Net_has : Cond.selects y_Net_has.cls y_Net_has y_Net_has ∈ gw := gw_t 213 (by decide +kernel) (by decide +kernel)
set_option maxRecDepth 20000 in
theorem v_Net_addEdge : Yw y_Net_addEdge b_Net_addEdge 6 (some .int) 2 := ⟨gw_t 226 rfl rfl, gw_t 2 (by decide +kernel) (by decide +kernel), by decide +kernel, by decide⟩
theorem i_Net_addEdge : Cond.instanceMethod y_Net_addEdge ∈ gw := gw_t 224 (by decide +kernel) (by decide +kernel)
theorem z_Net_addEdge : Cond.selects y_Net_addEdge.cls y_Net_addEdge y_Net_addEdge ∈ gw := gw_t 225 (by decide +kernel) (by decide +kernel)
set_option maxRecDepth 20000 in
theorem v_Nf_makeSlope : Yw y_Nf_makeSlope b_Nf_makeSlope 7 (none) 1 := ⟨gw_t 281 rfl rfl, gw_t 1 (by decide +kernel) (by decide +kernel), by decide +kernel, by decide⟩
theorem i_Nf_makeSlope : Cond.instanceMethod y_Nf_makeSlope ∈ gw := gw_t 280 (by decide +kernel) (by decide +kernel)
theorem z_Nf_makeSlope : Cond.selects y_Nf_makeSlope.cls y_Nf_makeSlope y_Nf_makeSlope ∈ gw := gw_s 1 (by decide +kernel) (by decide +kernel)
set_option maxRecDepth 20000 in
theorem v_Nf_makeRim : Yw y_Nf_makeRim b_Nf_makeRim 7 (none) 1 := ⟨gw_t 298 rfl rfl, gw_t 1 (by decide +kernel) (by decide +kernel), by decide +kernel, by decide⟩
theorem i_Nf_makeRim : Cond.instanceMethod y_Nf_makeRim ∈ gw := gw_t 297 (by decide +kernel) (by decide +kernel)
theorem z_Nf_makeRim : Cond.selects y_Nf_makeRim.cls y_Nf_makeRim y_Nf_makeRim ∈ gw := gw_s 3 (by decide +kernel) (by decide +kernel)
set_option maxRecDepth 20000 in
theorem v_Net_frontOf : Yw y_Net_frontOf b_Net_frontOf 4 (some .int) 3 := ⟨gw_t 306 rfl rfl, gw_t 2 (by decide +kernel) (by decide +kernel), by decide +kernel, by decide⟩
theorem i_Net_frontOf : Cond.instanceMethod y_Net_frontOf ∈ gw := gw_t 304 (by decide +kernel) (by decide +kernel)
theorem z_Net_frontOf : Cond.selects y_Net_frontOf.cls y_Net_frontOf y_Net_frontOf ∈ gw := gw_t 305 (by decide +kernel) (by decide +kernel)
set_option maxRecDepth 20000 in
theorem v_Net_backOf : Yw y_Net_backOf b_Net_backOf 4 (some .int) 3 := ⟨gw_t 311 rfl rfl, gw_t 2 (by decide +kernel) (by decide +kernel), by decide +kernel, by decide⟩
theorem i_Net_backOf : Cond.instanceMethod y_Net_backOf ∈ gw := gw_t 309 (by decide +kernel) (by decide +kernel)
theorem z_Net_backOf : Cond.selects y_Net_backOf.cls y_Net_backOf y_Net_backOf ∈ gw := gw_t 310 (by decide +kernel) (by decide +kernel)
set_option maxRecDepth 20000 in
theorem v_Frm_fitsIn : Yw y_Frm_fitsIn b_Frm_fitsIn 3 (some .boolean) 1 := ⟨gw_t 323 rfl rfl, gw_t 7 (by decide +kernel) (by decide +kernel), by decide +kernel, by decide⟩
theorem i_Frm_fitsIn : Cond.instanceMethod y_Frm_fitsIn ∈ gw := gw_t 321 (by decide +kernel) (by decide +kernel)
theorem z_Frm_fitsIn : Cond.selects y_Frm_fitsIn.cls y_Frm_fitsIn y_Frm_fitsIn ∈ gw := gw_t 322 (by decide +kernel) (by decide +kernel)
set_option maxRecDepth 20000 in
theorem v_Bal_begin : Yw y_Bal_begin b_Bal_begin 3 (none) 1 := ⟨gw_t 352 rfl rfl, gw_t 5 (by decide +kernel) (by decide +kernel), by decide +kernel, by decide⟩
theorem i_Bal_begin : Cond.instanceMethod y_Bal_begin ∈ gw := gw_t 350 (by decide +kernel) (by decide +kernel)
theorem z_Bal_begin : Cond.selects y_Bal_begin.cls y_Bal_begin y_Bal_begin ∈ gw := gw_t 351 (by decide +kernel) (by decide +kernel)
set_option maxRecDepth 20000 in
theorem v_Nf_addPlateProducts : Yw y_Nf_addPlateProducts b_Nf_addPlateProducts 4 (none) 0 := ⟨gw_t 358 rfl rfl, gw_t 1 (by decide +kernel) (by decide +kernel), by decide +kernel, by decide⟩
theorem i_Nf_addPlateProducts : Cond.instanceMethod y_Nf_addPlateProducts ∈ gw := gw_t 357 (by decide +kernel) (by decide +kernel)
theorem z_Nf_addPlateProducts : Cond.selects y_Nf_addPlateProducts.cls y_Nf_addPlateProducts y_Nf_addPlateProducts ∈ gw := gw_s 8 (by decide +kernel) (by decide +kernel)
set_option maxRecDepth 20000 in
theorem v_Bal_clear : Yw y_Bal_clear b_Bal_clear 8 (none) 3 := ⟨gw_t 370 rfl rfl, gw_t 5 (by decide +kernel) (by decide +kernel), by decide +kernel, by decide⟩
theorem i_Bal_clear : Cond.instanceMethod y_Bal_clear ∈ gw := gw_t 369 (by decide +kernel) (by decide +kernel)
theorem z_Bal_clear : Cond.selects y_Bal_clear.cls y_Bal_clear y_Bal_clear ∈ gw := gw_s 9 (by decide +kernel) (by decide +kernel)
set_option maxRecDepth 20000 in
theorem v_Cli_join : Yw y_Cli_join b_Cli_join 7 (none) 3 := ⟨gw_t 385 rfl rfl, gw_t 6 (by decide +kernel) (by decide +kernel), by decide +kernel, by decide⟩
theorem i_Cli_join : Cond.instanceMethod y_Cli_join ∈ gw := gw_t 384 (by decide +kernel) (by decide +kernel)
theorem z_Cli_join : Cond.selects y_Cli_join.cls y_Cli_join y_Cli_join ∈ gw := gw_s 10 (by decide +kernel) (by decide +kernel)
set_option maxRecDepth 20000 in
theorem v_Nf_sharedDivisor : Yw y_Nf_sharedDivisor b_Nf_sharedDivisor 11 (some .long) 2 := ⟨gw_t 414 rfl rfl, gw_t 1 (by decide +kernel) (by decide +kernel), by decide +kernel, by decide⟩
theorem z_Nf_sharedDivisor : Cond.static y_Nf_sharedDivisor ∈ gw := gw_t 413 (by decide +kernel) (by decide +kernel)
set_option maxRecDepth 20000 in
theorem v_Wal_leastWithout : Yw y_Wal_leastWithout b_Wal_leastWithout 3 (some .int) 1 := ⟨gw_t 443 rfl rfl, gw_t 3 (by decide +kernel) (by decide +kernel), by decide +kernel, by decide⟩
theorem i_Wal_leastWithout : Cond.instanceMethod y_Wal_leastWithout ∈ gw := gw_t 441 (by decide +kernel) (by decide +kernel)
theorem z_Wal_leastWithout : Cond.selects y_Wal_leastWithout.cls y_Wal_leastWithout y_Wal_leastWithout ∈ gw := gw_t 442 (by decide +kernel) (by decide +kernel)
set_option maxRecDepth 20000 in
theorem v_Nf_balanceAt : Yw y_Nf_balanceAt b_Nf_balanceAt 3 (none) 2 := ⟨gw_t 459 rfl rfl, gw_t 1 (by decide +kernel) (by decide +kernel), by decide +kernel, by decide⟩
theorem i_Nf_balanceAt : Cond.instanceMethod y_Nf_balanceAt ∈ gw := gw_t 458 (by decide +kernel) (by decide +kernel)
theorem z_Nf_balanceAt : Cond.selects y_Nf_balanceAt.cls y_Nf_balanceAt y_Nf_balanceAt ∈ gw := gw_s 16 (by decide +kernel) (by decide +kernel)
set_option maxRecDepth 20000 in
theorem v_Nf_wave : Yw y_Nf_wave b_Nf_wave 3 (some .int) 1 := ⟨gw_t 463 rfl rfl, gw_t 1 (by decide +kernel) (by decide +kernel), by decide +kernel, by decide⟩
theorem i_Nf_wave : Cond.instanceMethod y_Nf_wave ∈ gw := gw_t 461 (by decide +kernel) (by decide +kernel)
theorem z_Nf_wave : Cond.selects y_Nf_wave.cls y_Nf_wave y_Nf_wave ∈ gw := gw_t 462 (by decide +kernel) (by decide +kernel)
set_option maxRecDepth 20000 in
theorem v_Nf_count : Yw y_Nf_count b_Nf_count 2 (some .int) 1 := ⟨gw_t 491 rfl rfl, gw_t 1 (by decide +kernel) (by decide +kernel), by decide +kernel, by decide⟩
theorem i_Nf_count : Cond.instanceMethod y_Nf_count ∈ gw := gw_t 489 (by decide +kernel) (by decide +kernel)
theorem z_Nf_count : Cond.selects y_Nf_count.cls y_Nf_count y_Nf_count ∈ gw := gw_t 490 (by decide +kernel) (by decide +kernel)
set_option maxRecDepth 20000 in
theorem v_Nf_foldCorners : Yw y_Nf_foldCorners b_Nf_foldCorners 8 (some .long) 2 := ⟨gw_t 506 rfl rfl, gw_t 1 (by decide +kernel) (by decide +kernel), by decide +kernel, by decide⟩
theorem i_Nf_foldCorners : Cond.instanceMethod y_Nf_foldCorners ∈ gw := gw_t 505 (by decide +kernel) (by decide +kernel)
theorem z_Nf_foldCorners : Cond.selects y_Nf_foldCorners.cls y_Nf_foldCorners y_Nf_foldCorners ∈ gw := gw_s 17 (by decide +kernel) (by decide +kernel)
set_option maxRecDepth 20000 in
theorem v_Nf_foldForms : Yw y_Nf_foldForms b_Nf_foldForms 8 (some .long) 1 := ⟨gw_t 510 rfl rfl, gw_t 1 (by decide +kernel) (by decide +kernel), by decide +kernel, by decide⟩
theorem i_Nf_foldForms : Cond.instanceMethod y_Nf_foldForms ∈ gw := gw_t 509 (by decide +kernel) (by decide +kernel)
theorem z_Nf_foldForms : Cond.selects y_Nf_foldForms.cls y_Nf_foldForms y_Nf_foldForms ∈ gw := gw_s 18 (by decide +kernel) (by decide +kernel)
set_option maxRecDepth 20000 in
theorem v_Mo_net : Yw y_Mo_net b_Mo_net 3 (some .int) 1 := ⟨gw_t 603 rfl rfl, gw_t 8 (by decide +kernel) (by decide +kernel), by decide +kernel, by decide⟩
theorem i_Mo_net : Cond.instanceMethod y_Mo_net ∈ gw := gw_t 601 (by decide +kernel) (by decide +kernel)
theorem z_Mo_net : Cond.selects y_Mo_net.cls y_Mo_net y_Mo_net ∈ gw := gw_t 602 (by decide +kernel) (by decide +kernel)
set_option maxRecDepth 20000 in
theorem v_Mo_isPoint : Yw y_Mo_isPoint b_Mo_isPoint 2 (some .boolean) 1 := ⟨gw_t 619 rfl rfl, gw_t 8 (by decide +kernel) (by decide +kernel), by decide +kernel, by decide⟩
theorem i_Mo_isPoint : Cond.instanceMethod y_Mo_isPoint ∈ gw := gw_t 618 (by decide +kernel) (by decide +kernel)
theorem z_Mo_isPoint : Cond.selects y_Mo_isPoint.cls y_Mo_isPoint y_Mo_isPoint ∈ gw := gw_s 21 (by decide +kernel) (by decide +kernel)
set_option maxRecDepth 20000 in
theorem v_Mo_corner : Yw y_Mo_corner b_Mo_corner 4 (some .int) 3 := ⟨gw_t 631 rfl rfl, gw_t 8 (by decide +kernel) (by decide +kernel), by decide +kernel, by decide⟩
theorem i_Mo_corner : Cond.instanceMethod y_Mo_corner ∈ gw := gw_t 629 (by decide +kernel) (by decide +kernel)
theorem z_Mo_corner : Cond.selects y_Mo_corner.cls y_Mo_corner y_Mo_corner ∈ gw := gw_t 630 (by decide +kernel) (by decide +kernel)
set_option maxRecDepth 20000 in
theorem v_Mo_isForm : Yw y_Mo_isForm b_Mo_isForm 1 (some .boolean) 1 := ⟨gw_t 638 rfl rfl, gw_t 8 (by decide +kernel) (by decide +kernel), by decide +kernel, by decide⟩
theorem z_Mo_isForm : Cond.static y_Mo_isForm ∈ gw := gw_t 637 (by decide +kernel) (by decide +kernel)
set_option maxRecDepth 20000 in
theorem v_Mo_onEdge : Yw y_Mo_onEdge b_Mo_onEdge 4 (some .long) 3 := ⟨gw_t 675 rfl rfl, gw_t 8 (by decide +kernel) (by decide +kernel), by decide +kernel, by decide⟩
theorem i_Mo_onEdge : Cond.instanceMethod y_Mo_onEdge ∈ gw := gw_t 674 (by decide +kernel) (by decide +kernel)
theorem z_Mo_onEdge : Cond.selects y_Mo_onEdge.cls y_Mo_onEdge y_Mo_onEdge ∈ gw := gw_s 27 (by decide +kernel) (by decide +kernel)
set_option maxRecDepth 20000 in
theorem v_Mo_becomes : Yw y_Mo_becomes b_Mo_becomes 4 (some .int) 2 := ⟨gw_t 679 rfl rfl, gw_t 8 (by decide +kernel) (by decide +kernel), by decide +kernel, by decide⟩
theorem i_Mo_becomes : Cond.instanceMethod y_Mo_becomes ∈ gw := gw_t 678 (by decide +kernel) (by decide +kernel)
theorem z_Mo_becomes : Cond.selects y_Mo_becomes.cls y_Mo_becomes y_Mo_becomes ∈ gw := gw_s 28 (by decide +kernel) (by decide +kernel)
set_option maxRecDepth 20000 in
theorem v_Mo_makeRim : Yw y_Mo_makeRim b_Mo_makeRim 3 (none) 1 := ⟨gw_t 687 rfl rfl, gw_t 8 (by decide +kernel) (by decide +kernel), by decide +kernel, by decide⟩
theorem i_Mo_makeRim : Cond.instanceMethod y_Mo_makeRim ∈ gw := gw_t 686 (by decide +kernel) (by decide +kernel)
theorem z_Mo_makeRim : Cond.selects y_Mo_makeRim.cls y_Mo_makeRim y_Mo_makeRim ∈ gw := gw_s 29 (by decide +kernel) (by decide +kernel)
set_option maxRecDepth 20000 in
theorem v_Mo_isNought : Yw y_Mo_isNought b_Mo_isNought 4 (some .boolean) 1 := ⟨gw_t 710 rfl rfl, gw_t 8 (by decide +kernel) (by decide +kernel), by decide +kernel, by decide⟩
theorem i_Mo_isNought : Cond.instanceMethod y_Mo_isNought ∈ gw := gw_t 709 (by decide +kernel) (by decide +kernel)
theorem z_Mo_isNought : Cond.selects y_Mo_isNought.cls y_Mo_isNought y_Mo_isNought ∈ gw := gw_s 31 (by decide +kernel) (by decide +kernel)
set_option maxRecDepth 20000 in
theorem v_Mo_parts : Yw y_Mo_parts b_Mo_parts 3 (some .int) 0 := ⟨gw_t 718 rfl rfl, gw_t 8 (by decide +kernel) (by decide +kernel), by decide +kernel, by decide⟩
theorem i_Mo_parts : Cond.instanceMethod y_Mo_parts ∈ gw := gw_t 717 (by decide +kernel) (by decide +kernel)
theorem z_Mo_parts : Cond.selects y_Mo_parts.cls y_Mo_parts y_Mo_parts ∈ gw := gw_s 32 (by decide +kernel) (by decide +kernel)
set_option maxRecDepth 20000 in
theorem v_Mo_turns : Yw y_Mo_turns b_Mo_turns 10 (some .int) 3 := ⟨gw_t 739 rfl rfl, gw_t 8 (by decide +kernel) (by decide +kernel), by decide +kernel, by decide⟩
theorem i_Mo_turns : Cond.instanceMethod y_Mo_turns ∈ gw := gw_t 738 (by decide +kernel) (by decide +kernel)
theorem z_Mo_turns : Cond.selects y_Mo_turns.cls y_Mo_turns y_Mo_turns ∈ gw := gw_s 37 (by decide +kernel) (by decide +kernel)
set_option maxRecDepth 20000 in
theorem v_Mo_lowest : Yw y_Mo_lowest b_Mo_lowest 7 (some .long) 3 := ⟨gw_t 767 rfl rfl, gw_t 8 (by decide +kernel) (by decide +kernel), by decide +kernel, by decide⟩
theorem z_Mo_lowest : Cond.static y_Mo_lowest ∈ gw := gw_t 766 (by decide +kernel) (by decide +kernel)
set_option maxRecDepth 20000 in
theorem v_Mo_wave : Yw y_Mo_wave b_Mo_wave 3 (some .int) 1 := ⟨gw_t 795 rfl rfl, gw_t 8 (by decide +kernel) (by decide +kernel), by decide +kernel, by decide⟩
theorem i_Mo_wave : Cond.instanceMethod y_Mo_wave ∈ gw := gw_t 793 (by decide +kernel) (by decide +kernel)
theorem z_Mo_wave : Cond.selects y_Mo_wave.cls y_Mo_wave y_Mo_wave ∈ gw := gw_t 794 (by decide +kernel) (by decide +kernel)
set_option maxRecDepth 20000 in
theorem v_Mo_flow : Yw y_Mo_flow b_Mo_flow 2 (some .long) 1 := ⟨gw_t 817 rfl rfl, gw_t 8 (by decide +kernel) (by decide +kernel), by decide +kernel, by decide⟩
theorem i_Mo_flow : Cond.instanceMethod y_Mo_flow ∈ gw := gw_t 815 (by decide +kernel) (by decide +kernel)
theorem z_Mo_flow : Cond.selects y_Mo_flow.cls y_Mo_flow y_Mo_flow ∈ gw := gw_t 816 (by decide +kernel) (by decide +kernel)
set_option maxRecDepth 20000 in
theorem v_Nf_net : Yw y_Nf_net b_Nf_net 3 (some .int) 1 := ⟨gw_t 188 rfl rfl, gw_t 1 (by decide +kernel) (by decide +kernel), by decide +kernel, by decide⟩
theorem i_Nf_net : Cond.instanceMethod y_Nf_net ∈ gw := gw_t 186 (by decide +kernel) (by decide +kernel)
theorem z_Nf_net : Cond.selects y_Nf_net.cls y_Nf_net y_Nf_net ∈ gw := gw_t 187 (by decide +kernel) (by decide +kernel)
set_option maxRecDepth 20000 in
theorem v_Nf_edge : Yw y_Nf_edge b_Nf_edge 3 (some .int) 2 := ⟨gw_t 210 rfl rfl, gw_t 1 (by decide +kernel) (by decide +kernel), by decide +kernel, by decide⟩
theorem i_Nf_edge : Cond.instanceMethod y_Nf_edge ∈ gw := gw_t 208 (by decide +kernel) (by decide +kernel)
theorem z_Nf_edge : Cond.selects y_Nf_edge.cls y_Nf_edge y_Nf_edge ∈ gw := gw_t 209 (by decide +kernel) (by decide +kernel)
set_option maxRecDepth 20000 in
theorem v_Nf_face : Yw y_Nf_face b_Nf_face 7 (some .int) 3 := ⟨gw_t 236 rfl rfl, gw_t 1 (by decide +kernel) (by decide +kernel), by decide +kernel, by decide⟩
theorem i_Nf_face : Cond.instanceMethod y_Nf_face ∈ gw := gw_t 234 (by decide +kernel) (by decide +kernel)
theorem z_Nf_face : Cond.selects y_Nf_face.cls y_Nf_face y_Nf_face ∈ gw := gw_t 235 (by decide +kernel) (by decide +kernel)
set_option maxRecDepth 20000 in
theorem v_Nf_corner : Yw y_Nf_corner b_Nf_corner 4 (some .int) 3 := ⟨gw_t 248 rfl rfl, gw_t 1 (by decide +kernel) (by decide +kernel), by decide +kernel, by decide⟩
theorem i_Nf_corner : Cond.instanceMethod y_Nf_corner ∈ gw := gw_t 246 (by decide +kernel) (by decide +kernel)
theorem z_Nf_corner : Cond.selects y_Nf_corner.cls y_Nf_corner y_Nf_corner ∈ gw := gw_t 247 (by decide +kernel) (by decide +kernel)
set_option maxRecDepth 20000 in
theorem v_Nf_form : Yw y_Nf_form b_Nf_form 4 (some .int) 2 := ⟨gw_t 256 rfl rfl, gw_t 1 (by decide +kernel) (by decide +kernel), by decide +kernel, by decide⟩
theorem i_Nf_form : Cond.instanceMethod y_Nf_form ∈ gw := gw_t 254 (by decide +kernel) (by decide +kernel)
theorem z_Nf_form : Cond.selects y_Nf_form.cls y_Nf_form y_Nf_form ∈ gw := gw_t 255 (by decide +kernel) (by decide +kernel)
set_option maxRecDepth 20000 in
theorem v_Nf_set : Yw y_Nf_set b_Nf_set 6 (some .int) 3 := ⟨gw_t 264 rfl rfl, gw_t 1 (by decide +kernel) (by decide +kernel), by decide +kernel, by decide⟩
theorem i_Nf_set : Cond.instanceMethod y_Nf_set ∈ gw := gw_t 262 (by decide +kernel) (by decide +kernel)
theorem z_Nf_set : Cond.selects y_Nf_set.cls y_Nf_set y_Nf_set ∈ gw := gw_t 263 (by decide +kernel) (by decide +kernel)
set_option maxRecDepth 20000 in
theorem v_Nf_get : Yw y_Nf_get b_Nf_get 4 (some .int) 2 := ⟨gw_t 273 rfl rfl, gw_t 1 (by decide +kernel) (by decide +kernel), by decide +kernel, by decide⟩
theorem i_Nf_get : Cond.instanceMethod y_Nf_get ∈ gw := gw_t 271 (by decide +kernel) (by decide +kernel)
theorem z_Nf_get : Cond.selects y_Nf_get.cls y_Nf_get y_Nf_get ∈ gw := gw_t 272 (by decide +kernel) (by decide +kernel)
set_option maxRecDepth 20000 in
theorem v_Nf_giveMade : Yw y_Nf_giveMade b_Nf_giveMade 5 (some .int) 2 := ⟨gw_t 290 rfl rfl, gw_t 1 (by decide +kernel) (by decide +kernel), by decide +kernel, by decide⟩
theorem i_Nf_giveMade : Cond.instanceMethod y_Nf_giveMade ∈ gw := gw_t 289 (by decide +kernel) (by decide +kernel)
theorem z_Nf_giveMade : Cond.selects y_Nf_giveMade.cls y_Nf_giveMade y_Nf_giveMade ∈ gw := gw_s 2 (by decide +kernel) (by decide +kernel)
set_option maxRecDepth 20000 in
theorem v_Nf_hasNoSlope : Yw y_Nf_hasNoSlope b_Nf_hasNoSlope 2 (some .boolean) 1 := ⟨gw_t 328 rfl rfl, gw_t 1 (by decide +kernel) (by decide +kernel), by decide +kernel, by decide⟩
theorem i_Nf_hasNoSlope : Cond.instanceMethod y_Nf_hasNoSlope ∈ gw := gw_t 327 (by decide +kernel) (by decide +kernel)
theorem z_Nf_hasNoSlope : Cond.selects y_Nf_hasNoSlope.cls y_Nf_hasNoSlope y_Nf_hasNoSlope ∈ gw := gw_s 4 (by decide +kernel) (by decide +kernel)
set_option maxRecDepth 20000 in
theorem v_Nf_hasNoRim : Yw y_Nf_hasNoRim b_Nf_hasNoRim 2 (some .boolean) 1 := ⟨gw_t 336 rfl rfl, gw_t 1 (by decide +kernel) (by decide +kernel), by decide +kernel, by decide⟩
theorem i_Nf_hasNoRim : Cond.instanceMethod y_Nf_hasNoRim ∈ gw := gw_t 335 (by decide +kernel) (by decide +kernel)
theorem z_Nf_hasNoRim : Cond.selects y_Nf_hasNoRim.cls y_Nf_hasNoRim y_Nf_hasNoRim ∈ gw := gw_s 6 (by decide +kernel) (by decide +kernel)
set_option maxRecDepth 20000 in
theorem v_Bal_solve : Yw y_Bal_solve b_Bal_solve 5 (none) 0 := ⟨gw_t 366 rfl rfl, gw_t 5 (by decide +kernel) (by decide +kernel), by decide +kernel, by decide⟩
theorem i_Bal_solve : Cond.instanceMethod y_Bal_solve ∈ gw := gw_t 364 (by decide +kernel) (by decide +kernel)
theorem z_Bal_solve : Cond.selects y_Bal_solve.cls y_Bal_solve y_Bal_solve ∈ gw := gw_t 365 (by decide +kernel) (by decide +kernel)
set_option maxRecDepth 20000 in
theorem v_Cli_along : Yw y_Cli_along b_Cli_along 8 (some .int) 2 := ⟨gw_t 381 rfl rfl, gw_t 6 (by decide +kernel) (by decide +kernel), by decide +kernel, by decide⟩
theorem i_Cli_along : Cond.instanceMethod y_Cli_along ∈ gw := gw_t 379 (by decide +kernel) (by decide +kernel)
theorem z_Cli_along : Cond.selects y_Cli_along.cls y_Cli_along y_Cli_along ∈ gw := gw_t 380 (by decide +kernel) (by decide +kernel)
set_option maxRecDepth 20000 in
theorem v_Nf_lowestTerms : Yw y_Nf_lowestTerms b_Nf_lowestTerms 7 (some .long) 3 := ⟨gw_t 411 rfl rfl, gw_t 1 (by decide +kernel) (by decide +kernel), by decide +kernel, by decide⟩
theorem z_Nf_lowestTerms : Cond.static y_Nf_lowestTerms ∈ gw := gw_t 410 (by decide +kernel) (by decide +kernel)
set_option maxRecDepth 20000 in
theorem v_Nf_wall : Yw y_Nf_wall b_Nf_wall 3 (some .int) 2 := ⟨gw_t 430 rfl rfl, gw_t 1 (by decide +kernel) (by decide +kernel), by decide +kernel, by decide⟩
theorem i_Nf_wall : Cond.instanceMethod y_Nf_wall ∈ gw := gw_t 428 (by decide +kernel) (by decide +kernel)
theorem z_Nf_wall : Cond.selects y_Nf_wall.cls y_Nf_wall y_Nf_wall ∈ gw := gw_t 429 (by decide +kernel) (by decide +kernel)
set_option maxRecDepth 20000 in
theorem v_Nf_open : Yw y_Nf_open b_Nf_open 2 (some .int) 1 := ⟨gw_t 434 rfl rfl, gw_t 1 (by decide +kernel) (by decide +kernel), by decide +kernel, by decide⟩
theorem i_Nf_open : Cond.instanceMethod y_Nf_open ∈ gw := gw_t 432 (by decide +kernel) (by decide +kernel)
theorem z_Nf_open : Cond.selects y_Nf_open.cls y_Nf_open y_Nf_open ∈ gw := gw_t 433 (by decide +kernel) (by decide +kernel)
set_option maxRecDepth 20000 in
theorem v_Nf_field : Yw y_Nf_field b_Nf_field 1 (some .int) 0 := ⟨gw_t 439 rfl rfl, gw_t 1 (by decide +kernel) (by decide +kernel), by decide +kernel, by decide⟩
theorem i_Nf_field : Cond.instanceMethod y_Nf_field ∈ gw := gw_t 437 (by decide +kernel) (by decide +kernel)
theorem z_Nf_field : Cond.selects y_Nf_field.cls y_Nf_field y_Nf_field ∈ gw := gw_t 438 (by decide +kernel) (by decide +kernel)
set_option maxRecDepth 20000 in
theorem v_Nf_raise : Yw y_Nf_raise b_Nf_raise 4 (some .int) 1 := ⟨gw_t 475 rfl rfl, gw_t 1 (by decide +kernel) (by decide +kernel), by decide +kernel, by decide⟩
theorem i_Nf_raise : Cond.instanceMethod y_Nf_raise ∈ gw := gw_t 473 (by decide +kernel) (by decide +kernel)
theorem z_Nf_raise : Cond.selects y_Nf_raise.cls y_Nf_raise y_Nf_raise ∈ gw := gw_t 474 (by decide +kernel) (by decide +kernel)
set_option maxRecDepth 20000 in
theorem v_Nf_height : Yw y_Nf_height b_Nf_height 2 (some .long) 1 := ⟨gw_t 479 rfl rfl, gw_t 1 (by decide +kernel) (by decide +kernel), by decide +kernel, by decide⟩
theorem i_Nf_height : Cond.instanceMethod y_Nf_height ∈ gw := gw_t 477 (by decide +kernel) (by decide +kernel)
theorem z_Nf_height : Cond.selects y_Nf_height.cls y_Nf_height y_Nf_height ∈ gw := gw_t 478 (by decide +kernel) (by decide +kernel)
set_option maxRecDepth 20000 in
theorem v_Nf_flow : Yw y_Nf_flow b_Nf_flow 2 (some .long) 1 := ⟨gw_t 483 rfl rfl, gw_t 1 (by decide +kernel) (by decide +kernel), by decide +kernel, by decide⟩
theorem i_Nf_flow : Cond.instanceMethod y_Nf_flow ∈ gw := gw_t 481 (by decide +kernel) (by decide +kernel)
theorem z_Nf_flow : Cond.selects y_Nf_flow.cls y_Nf_flow y_Nf_flow ∈ gw := gw_t 482 (by decide +kernel) (by decide +kernel)
set_option maxRecDepth 20000 in
theorem v_Nf_digest : Yw y_Nf_digest b_Nf_digest 4 (some .long) 0 := ⟨gw_t 499 rfl rfl, gw_t 1 (by decide +kernel) (by decide +kernel), by decide +kernel, by decide⟩
theorem i_Nf_digest : Cond.instanceMethod y_Nf_digest ∈ gw := gw_t 497 (by decide +kernel) (by decide +kernel)
theorem z_Nf_digest : Cond.selects y_Nf_digest.cls y_Nf_digest y_Nf_digest ∈ gw := gw_t 498 (by decide +kernel) (by decide +kernel)
set_option maxRecDepth 20000 in
theorem v_Mo_edge : Yw y_Mo_edge b_Mo_edge 3 (some .int) 2 := ⟨gw_t 615 rfl rfl, gw_t 8 (by decide +kernel) (by decide +kernel), by decide +kernel, by decide⟩
theorem i_Mo_edge : Cond.instanceMethod y_Mo_edge ∈ gw := gw_t 613 (by decide +kernel) (by decide +kernel)
theorem z_Mo_edge : Cond.selects y_Mo_edge.cls y_Mo_edge y_Mo_edge ∈ gw := gw_t 614 (by decide +kernel) (by decide +kernel)
set_option maxRecDepth 20000 in
theorem v_Mo_face : Yw y_Mo_face b_Mo_face 6 (some .int) 3 := ⟨gw_t 627 rfl rfl, gw_t 8 (by decide +kernel) (by decide +kernel), by decide +kernel, by decide⟩
theorem i_Mo_face : Cond.instanceMethod y_Mo_face ∈ gw := gw_t 625 (by decide +kernel) (by decide +kernel)
theorem z_Mo_face : Cond.selects y_Mo_face.cls y_Mo_face y_Mo_face ∈ gw := gw_t 626 (by decide +kernel) (by decide +kernel)
set_option maxRecDepth 20000 in
theorem v_Mo_form : Yw y_Mo_form b_Mo_form 3 (some .int) 2 := ⟨gw_t 635 rfl rfl, gw_t 8 (by decide +kernel) (by decide +kernel), by decide +kernel, by decide⟩
theorem i_Mo_form : Cond.instanceMethod y_Mo_form ∈ gw := gw_t 633 (by decide +kernel) (by decide +kernel)
theorem z_Mo_form : Cond.selects y_Mo_form.cls y_Mo_form y_Mo_form ∈ gw := gw_t 634 (by decide +kernel) (by decide +kernel)
set_option maxRecDepth 20000 in
theorem v_Mo_isThere : Yw y_Mo_isThere b_Mo_isThere 3 (some .boolean) 2 := ⟨gw_t 648 rfl rfl, gw_t 8 (by decide +kernel) (by decide +kernel), by decide +kernel, by decide⟩
theorem i_Mo_isThere : Cond.instanceMethod y_Mo_isThere ∈ gw := gw_t 647 (by decide +kernel) (by decide +kernel)
theorem z_Mo_isThere : Cond.selects y_Mo_isThere.cls y_Mo_isThere y_Mo_isThere ∈ gw := gw_s 23 (by decide +kernel) (by decide +kernel)
set_option maxRecDepth 20000 in
theorem v_Mo_makeSlope : Yw y_Mo_makeSlope b_Mo_makeSlope 4 (none) 1 := ⟨gw_t 667 rfl rfl, gw_t 8 (by decide +kernel) (by decide +kernel), by decide +kernel, by decide⟩
theorem i_Mo_makeSlope : Cond.instanceMethod y_Mo_makeSlope ∈ gw := gw_t 666 (by decide +kernel) (by decide +kernel)
theorem z_Mo_makeSlope : Cond.selects y_Mo_makeSlope.cls y_Mo_makeSlope y_Mo_makeSlope ∈ gw := gw_s 25 (by decide +kernel) (by decide +kernel)
set_option maxRecDepth 20000 in
theorem v_Mo_rim : Yw y_Mo_rim b_Mo_rim 3 (some .int) 2 := ⟨gw_t 683 rfl rfl, gw_t 8 (by decide +kernel) (by decide +kernel), by decide +kernel, by decide⟩
theorem i_Mo_rim : Cond.instanceMethod y_Mo_rim ∈ gw := gw_t 681 (by decide +kernel) (by decide +kernel)
theorem z_Mo_rim : Cond.selects y_Mo_rim.cls y_Mo_rim y_Mo_rim ∈ gw := gw_t 682 (by decide +kernel) (by decide +kernel)
set_option maxRecDepth 20000 in
theorem v_Mo_cupAt : Yw y_Mo_cupAt b_Mo_cupAt 6 (some .long) 3 := ⟨gw_t 695 rfl rfl, gw_t 8 (by decide +kernel) (by decide +kernel), by decide +kernel, by decide⟩
theorem i_Mo_cupAt : Cond.instanceMethod y_Mo_cupAt ∈ gw := gw_t 694 (by decide +kernel) (by decide +kernel)
theorem z_Mo_cupAt : Cond.selects y_Mo_cupAt.cls y_Mo_cupAt y_Mo_cupAt ∈ gw := gw_s 30 (by decide +kernel) (by decide +kernel)
set_option maxRecDepth 20000 in
theorem v_Mo_mix : Yw y_Mo_mix b_Mo_mix 7 (some .int) 5 := ⟨gw_t 699 rfl rfl, gw_t 8 (by decide +kernel) (by decide +kernel), by decide +kernel, by decide⟩
theorem i_Mo_mix : Cond.instanceMethod y_Mo_mix ∈ gw := gw_t 697 (by decide +kernel) (by decide +kernel)
theorem z_Mo_mix : Cond.selects y_Mo_mix.cls y_Mo_mix y_Mo_mix ∈ gw := gw_t 698 (by decide +kernel) (by decide +kernel)
set_option maxRecDepth 20000 in
theorem v_Mo_slopeRank : Yw y_Mo_slopeRank b_Mo_slopeRank 1 (some .int) 0 := ⟨gw_t 726 rfl rfl, gw_t 8 (by decide +kernel) (by decide +kernel), by decide +kernel, by decide⟩
theorem i_Mo_slopeRank : Cond.instanceMethod y_Mo_slopeRank ∈ gw := gw_t 725 (by decide +kernel) (by decide +kernel)
theorem z_Mo_slopeRank : Cond.selects y_Mo_slopeRank.cls y_Mo_slopeRank y_Mo_slopeRank ∈ gw := gw_s 34 (by decide +kernel) (by decide +kernel)
set_option maxRecDepth 20000 in
theorem v_Mo_turnRank : Yw y_Mo_turnRank b_Mo_turnRank 2 (some .int) 0 := ⟨gw_t 730 rfl rfl, gw_t 8 (by decide +kernel) (by decide +kernel), by decide +kernel, by decide⟩
theorem i_Mo_turnRank : Cond.instanceMethod y_Mo_turnRank ∈ gw := gw_t 729 (by decide +kernel) (by decide +kernel)
theorem z_Mo_turnRank : Cond.selects y_Mo_turnRank.cls y_Mo_turnRank y_Mo_turnRank ∈ gw := gw_s 35 (by decide +kernel) (by decide +kernel)
set_option maxRecDepth 20000 in
theorem v_Mo_potential : Yw y_Mo_potential b_Mo_potential 8 (some .int) 2 := ⟨gw_t 747 rfl rfl, gw_t 8 (by decide +kernel) (by decide +kernel), by decide +kernel, by decide⟩
theorem i_Mo_potential : Cond.instanceMethod y_Mo_potential ∈ gw := gw_t 745 (by decide +kernel) (by decide +kernel)
theorem z_Mo_potential : Cond.selects y_Mo_potential.cls y_Mo_potential y_Mo_potential ∈ gw := gw_t 746 (by decide +kernel) (by decide +kernel)
set_option maxRecDepth 20000 in
theorem v_Mo_solves : Yw y_Mo_solves b_Mo_solves 4 (none) 1 := ⟨gw_t 760 rfl rfl, gw_t 8 (by decide +kernel) (by decide +kernel), by decide +kernel, by decide⟩
theorem i_Mo_solves : Cond.instanceMethod y_Mo_solves ∈ gw := gw_t 759 (by decide +kernel) (by decide +kernel)
theorem z_Mo_solves : Cond.selects y_Mo_solves.cls y_Mo_solves y_Mo_solves ∈ gw := gw_s 40 (by decide +kernel) (by decide +kernel)
set_option maxRecDepth 20000 in
theorem v_Mo_wall : Yw y_Mo_wall b_Mo_wall 3 (some .int) 2 := ⟨gw_t 774 rfl rfl, gw_t 8 (by decide +kernel) (by decide +kernel), by decide +kernel, by decide⟩
theorem i_Mo_wall : Cond.instanceMethod y_Mo_wall ∈ gw := gw_t 772 (by decide +kernel) (by decide +kernel)
theorem z_Mo_wall : Cond.selects y_Mo_wall.cls y_Mo_wall y_Mo_wall ∈ gw := gw_t 773 (by decide +kernel) (by decide +kernel)
set_option maxRecDepth 20000 in
theorem v_Mo_open : Yw y_Mo_open b_Mo_open 2 (some .int) 1 := ⟨gw_t 778 rfl rfl, gw_t 8 (by decide +kernel) (by decide +kernel), by decide +kernel, by decide⟩
theorem i_Mo_open : Cond.instanceMethod y_Mo_open ∈ gw := gw_t 776 (by decide +kernel) (by decide +kernel)
theorem z_Mo_open : Cond.selects y_Mo_open.cls y_Mo_open y_Mo_open ∈ gw := gw_t 777 (by decide +kernel) (by decide +kernel)
set_option maxRecDepth 20000 in
theorem v_Mo_forbids : Yw y_Mo_forbids b_Mo_forbids 4 (some .int) 0 := ⟨gw_t 787 rfl rfl, gw_t 8 (by decide +kernel) (by decide +kernel), by decide +kernel, by decide⟩
theorem i_Mo_forbids : Cond.instanceMethod y_Mo_forbids ∈ gw := gw_t 786 (by decide +kernel) (by decide +kernel)
theorem z_Mo_forbids : Cond.selects y_Mo_forbids.cls y_Mo_forbids y_Mo_forbids ∈ gw := gw_s 42 (by decide +kernel) (by decide +kernel)
set_option maxRecDepth 20000 in
theorem v_Mo_raise : Yw y_Mo_raise b_Mo_raise 3 (some .int) 1 := ⟨gw_t 809 rfl rfl, gw_t 8 (by decide +kernel) (by decide +kernel), by decide +kernel, by decide⟩
theorem i_Mo_raise : Cond.instanceMethod y_Mo_raise ∈ gw := gw_t 807 (by decide +kernel) (by decide +kernel)
theorem z_Mo_raise : Cond.selects y_Mo_raise.cls y_Mo_raise y_Mo_raise ∈ gw := gw_t 808 (by decide +kernel) (by decide +kernel)
set_option maxRecDepth 20000 in
theorem v_Mo_height : Yw y_Mo_height b_Mo_height 2 (some .long) 1 := ⟨gw_t 813 rfl rfl, gw_t 8 (by decide +kernel) (by decide +kernel), by decide +kernel, by decide⟩
theorem i_Mo_height : Cond.instanceMethod y_Mo_height ∈ gw := gw_t 811 (by decide +kernel) (by decide +kernel)
theorem z_Mo_height : Cond.selects y_Mo_height.cls y_Mo_height y_Mo_height ∈ gw := gw_t 812 (by decide +kernel) (by decide +kernel)
set_option maxRecDepth 20000 in
theorem v_Mo_count : Yw y_Mo_count b_Mo_count 4 (some .int) 1 := ⟨gw_t 825 rfl rfl, gw_t 8 (by decide +kernel) (by decide +kernel), by decide +kernel, by decide⟩
theorem i_Mo_count : Cond.instanceMethod y_Mo_count ∈ gw := gw_t 823 (by decide +kernel) (by decide +kernel)
theorem z_Mo_count : Cond.selects y_Mo_count.cls y_Mo_count y_Mo_count ∈ gw := gw_t 824 (by decide +kernel) (by decide +kernel)
set_option maxRecDepth 20000 in
theorem v_Nf_slope : Yw y_Nf_slope b_Nf_slope 5 (some .int) 2 := ⟨gw_t 277 rfl rfl, gw_t 1 (by decide +kernel) (by decide +kernel), by decide +kernel, by decide⟩
theorem i_Nf_slope : Cond.instanceMethod y_Nf_slope ∈ gw := gw_t 275 (by decide +kernel) (by decide +kernel)
theorem z_Nf_slope : Cond.selects y_Nf_slope.cls y_Nf_slope y_Nf_slope ∈ gw := gw_t 276 (by decide +kernel) (by decide +kernel)
set_option maxRecDepth 20000 in
theorem v_Nf_rim : Yw y_Nf_rim b_Nf_rim 5 (some .int) 2 := ⟨gw_t 294 rfl rfl, gw_t 1 (by decide +kernel) (by decide +kernel), by decide +kernel, by decide⟩
theorem i_Nf_rim : Cond.instanceMethod y_Nf_rim ∈ gw := gw_t 292 (by decide +kernel) (by decide +kernel)
theorem z_Nf_rim : Cond.selects y_Nf_rim.cls y_Nf_rim y_Nf_rim ∈ gw := gw_t 293 (by decide +kernel) (by decide +kernel)
set_option maxRecDepth 20000 in
theorem v_Nf_cup : Yw y_Nf_cup b_Nf_cup 11 (some .int) 3 := ⟨gw_t 302 rfl rfl, gw_t 1 (by decide +kernel) (by decide +kernel), by decide +kernel, by decide⟩
theorem i_Nf_cup : Cond.instanceMethod y_Nf_cup ∈ gw := gw_t 300 (by decide +kernel) (by decide +kernel)
theorem z_Nf_cup : Cond.selects y_Nf_cup.cls y_Nf_cup y_Nf_cup ∈ gw := gw_t 301 (by decide +kernel) (by decide +kernel)
set_option maxRecDepth 20000 in
theorem v_Nf_mix : Yw y_Nf_mix b_Nf_mix 10 (some .int) 5 := ⟨gw_t 315 rfl rfl, gw_t 1 (by decide +kernel) (by decide +kernel), by decide +kernel, by decide⟩
theorem i_Nf_mix : Cond.instanceMethod y_Nf_mix ∈ gw := gw_t 313 (by decide +kernel) (by decide +kernel)
theorem z_Nf_mix : Cond.selects y_Nf_mix.cls y_Nf_mix y_Nf_mix ∈ gw := gw_t 314 (by decide +kernel) (by decide +kernel)
set_option maxRecDepth 20000 in
theorem v_Nf_about : Yw y_Nf_about b_Nf_about 4 (some .int) 2 := ⟨gw_t 319 rfl rfl, gw_t 1 (by decide +kernel) (by decide +kernel), by decide +kernel, by decide⟩
theorem i_Nf_about : Cond.instanceMethod y_Nf_about ∈ gw := gw_t 317 (by decide +kernel) (by decide +kernel)
theorem z_Nf_about : Cond.selects y_Nf_about.cls y_Nf_about y_Nf_about ∈ gw := gw_t 318 (by decide +kernel) (by decide +kernel)
set_option maxRecDepth 20000 in
theorem v_Nf_countTurns : Yw y_Nf_countTurns b_Nf_countTurns 1 (some .int) 0 := ⟨gw_t 348 rfl rfl, gw_t 1 (by decide +kernel) (by decide +kernel), by decide +kernel, by decide⟩
theorem i_Nf_countTurns : Cond.instanceMethod y_Nf_countTurns ∈ gw := gw_t 347 (by decide +kernel) (by decide +kernel)
theorem z_Nf_countTurns : Cond.selects y_Nf_countTurns.cls y_Nf_countTurns y_Nf_countTurns ∈ gw := gw_s 7 (by decide +kernel) (by decide +kernel)
set_option maxRecDepth 20000 in
theorem v_Nf_potential : Yw y_Nf_potential b_Nf_potential 7 (some .int) 2 := ⟨gw_t 377 rfl rfl, gw_t 1 (by decide +kernel) (by decide +kernel), by decide +kernel, by decide⟩
theorem i_Nf_potential : Cond.instanceMethod y_Nf_potential ∈ gw := gw_t 375 (by decide +kernel) (by decide +kernel)
theorem z_Nf_potential : Cond.selects y_Nf_potential.cls y_Nf_potential y_Nf_potential ∈ gw := gw_t 376 (by decide +kernel) (by decide +kernel)
set_option maxRecDepth 20000 in
theorem v_Nf_slopePart : Yw y_Nf_slopePart b_Nf_slopePart 6 (some .long) 2 := ⟨gw_t 399 rfl rfl, gw_t 1 (by decide +kernel) (by decide +kernel), by decide +kernel, by decide⟩
theorem i_Nf_slopePart : Cond.instanceMethod y_Nf_slopePart ∈ gw := gw_t 398 (by decide +kernel) (by decide +kernel)
theorem z_Nf_slopePart : Cond.selects y_Nf_slopePart.cls y_Nf_slopePart y_Nf_slopePart ∈ gw := gw_s 11 (by decide +kernel) (by decide +kernel)
set_option maxRecDepth 20000 in
theorem v_Nf_turnPart : Yw y_Nf_turnPart b_Nf_turnPart 6 (some .long) 2 := ⟨gw_t 422 rfl rfl, gw_t 1 (by decide +kernel) (by decide +kernel), by decide +kernel, by decide⟩
theorem i_Nf_turnPart : Cond.instanceMethod y_Nf_turnPart ∈ gw := gw_t 421 (by decide +kernel) (by decide +kernel)
theorem z_Nf_turnPart : Cond.selects y_Nf_turnPart.cls y_Nf_turnPart y_Nf_turnPart ∈ gw := gw_s 12 (by decide +kernel) (by decide +kernel)
set_option maxRecDepth 20000 in
theorem v_Nf_balanceField : Yw y_Nf_balanceField b_Nf_balanceField 2 (none) 0 := ⟨gw_t 455 rfl rfl, gw_t 1 (by decide +kernel) (by decide +kernel), by decide +kernel, by decide⟩
theorem i_Nf_balanceField : Cond.instanceMethod y_Nf_balanceField ∈ gw := gw_t 454 (by decide +kernel) (by decide +kernel)
theorem z_Nf_balanceField : Cond.selects y_Nf_balanceField.cls y_Nf_balanceField y_Nf_balanceField ∈ gw := gw_s 15 (by decide +kernel) (by decide +kernel)
set_option maxRecDepth 20000 in
theorem v_Mo_set : Yw y_Mo_set b_Mo_set 5 (some .int) 3 := ⟨gw_t 644 rfl rfl, gw_t 8 (by decide +kernel) (by decide +kernel), by decide +kernel, by decide⟩
theorem i_Mo_set : Cond.instanceMethod y_Mo_set ∈ gw := gw_t 642 (by decide +kernel) (by decide +kernel)
theorem z_Mo_set : Cond.selects y_Mo_set.cls y_Mo_set y_Mo_set ∈ gw := gw_t 643 (by decide +kernel) (by decide +kernel)
set_option maxRecDepth 20000 in
theorem v_Mo_get : Yw y_Mo_get b_Mo_get 3 (some .int) 2 := ⟨gw_t 659 rfl rfl, gw_t 8 (by decide +kernel) (by decide +kernel), by decide +kernel, by decide⟩
theorem i_Mo_get : Cond.instanceMethod y_Mo_get ∈ gw := gw_t 657 (by decide +kernel) (by decide +kernel)
theorem z_Mo_get : Cond.selects y_Mo_get.cls y_Mo_get y_Mo_get ∈ gw := gw_t 658 (by decide +kernel) (by decide +kernel)
set_option maxRecDepth 20000 in
theorem v_Mo_slope : Yw y_Mo_slope b_Mo_slope 3 (some .int) 2 := ⟨gw_t 663 rfl rfl, gw_t 8 (by decide +kernel) (by decide +kernel), by decide +kernel, by decide⟩
theorem i_Mo_slope : Cond.instanceMethod y_Mo_slope ∈ gw := gw_t 661 (by decide +kernel) (by decide +kernel)
theorem z_Mo_slope : Cond.selects y_Mo_slope.cls y_Mo_slope y_Mo_slope ∈ gw := gw_t 662 (by decide +kernel) (by decide +kernel)
set_option maxRecDepth 20000 in
theorem v_Mo_cup : Yw y_Mo_cup b_Mo_cup 6 (some .int) 3 := ⟨gw_t 691 rfl rfl, gw_t 8 (by decide +kernel) (by decide +kernel), by decide +kernel, by decide⟩
theorem i_Mo_cup : Cond.instanceMethod y_Mo_cup ∈ gw := gw_t 689 (by decide +kernel) (by decide +kernel)
theorem z_Mo_cup : Cond.selects y_Mo_cup.cls y_Mo_cup y_Mo_cup ∈ gw := gw_t 690 (by decide +kernel) (by decide +kernel)
set_option maxRecDepth 20000 in
theorem v_Mo_about : Yw y_Mo_about b_Mo_about 6 (some .int) 2 := ⟨gw_t 705 rfl rfl, gw_t 8 (by decide +kernel) (by decide +kernel), by decide +kernel, by decide⟩
theorem i_Mo_about : Cond.instanceMethod y_Mo_about ∈ gw := gw_t 703 (by decide +kernel) (by decide +kernel)
theorem z_Mo_about : Cond.selects y_Mo_about.cls y_Mo_about y_Mo_about ∈ gw := gw_t 704 (by decide +kernel) (by decide +kernel)
set_option maxRecDepth 20000 in
theorem v_Mo_holes : Yw y_Mo_holes b_Mo_holes 2 (some .int) 1 := ⟨gw_t 714 rfl rfl, gw_t 8 (by decide +kernel) (by decide +kernel), by decide +kernel, by decide⟩
theorem i_Mo_holes : Cond.instanceMethod y_Mo_holes ∈ gw := gw_t 712 (by decide +kernel) (by decide +kernel)
theorem z_Mo_holes : Cond.selects y_Mo_holes.cls y_Mo_holes y_Mo_holes ∈ gw := gw_t 713 (by decide +kernel) (by decide +kernel)
set_option maxRecDepth 20000 in
theorem v_Mo_splits : Yw y_Mo_splits b_Mo_splits 5 (none) 1 := ⟨gw_t 756 rfl rfl, gw_t 8 (by decide +kernel) (by decide +kernel), by decide +kernel, by decide⟩
theorem i_Mo_splits : Cond.instanceMethod y_Mo_splits ∈ gw := gw_t 755 (by decide +kernel) (by decide +kernel)
theorem z_Mo_splits : Cond.selects y_Mo_splits.cls y_Mo_splits y_Mo_splits ∈ gw := gw_s 39 (by decide +kernel) (by decide +kernel)
set_option maxRecDepth 20000 in
theorem v_Mo_field : Yw y_Mo_field b_Mo_field 1 (some .int) 0 := ⟨gw_t 783 rfl rfl, gw_t 8 (by decide +kernel) (by decide +kernel), by decide +kernel, by decide⟩
theorem i_Mo_field : Cond.instanceMethod y_Mo_field ∈ gw := gw_t 781 (by decide +kernel) (by decide +kernel)
theorem z_Mo_field : Cond.selects y_Mo_field.cls y_Mo_field y_Mo_field ∈ gw := gw_t 782 (by decide +kernel) (by decide +kernel)
set_option maxRecDepth 20000 in
theorem v_Mo_fieldAt : Yw y_Mo_fieldAt b_Mo_fieldAt 7 (some .long) 2 := ⟨gw_t 791 rfl rfl, gw_t 8 (by decide +kernel) (by decide +kernel), by decide +kernel, by decide⟩
theorem i_Mo_fieldAt : Cond.instanceMethod y_Mo_fieldAt ∈ gw := gw_t 789 (by decide +kernel) (by decide +kernel)
theorem z_Mo_fieldAt : Cond.selects y_Mo_fieldAt.cls y_Mo_fieldAt y_Mo_fieldAt ∈ gw := gw_t 790 (by decide +kernel) (by decide +kernel)
set_option maxRecDepth 20000 in
theorem v_Mo_digest : Yw y_Mo_digest b_Mo_digest 5 (some .long) 0 := ⟨gw_t 829 rfl rfl, gw_t 8 (by decide +kernel) (by decide +kernel), by decide +kernel, by decide⟩
theorem i_Mo_digest : Cond.instanceMethod y_Mo_digest ∈ gw := gw_t 827 (by decide +kernel) (by decide +kernel)
theorem z_Mo_digest : Cond.selects y_Mo_digest.cls y_Mo_digest y_Mo_digest ∈ gw := gw_t 828 (by decide +kernel) (by decide +kernel)
set_option maxRecDepth 20000 in
theorem v_Nf_holes : Yw y_Nf_holes b_Nf_holes 4 (some .int) 1 := ⟨gw_t 340 rfl rfl, gw_t 1 (by decide +kernel) (by decide +kernel), by decide +kernel, by decide⟩
theorem i_Nf_holes : Cond.instanceMethod y_Nf_holes ∈ gw := gw_t 338 (by decide +kernel) (by decide +kernel)
theorem z_Nf_holes : Cond.selects y_Nf_holes.cls y_Nf_holes y_Nf_holes ∈ gw := gw_t 339 (by decide +kernel) (by decide +kernel)
set_option maxRecDepth 20000 in
theorem v_Nf_stillPart : Yw y_Nf_stillPart b_Nf_stillPart 16 (some .long) 3 := ⟨gw_t 426 rfl rfl, gw_t 1 (by decide +kernel) (by decide +kernel), by decide +kernel, by decide⟩
theorem i_Nf_stillPart : Cond.instanceMethod y_Nf_stillPart ∈ gw := gw_t 425 (by decide +kernel) (by decide +kernel)
theorem z_Nf_stillPart : Cond.selects y_Nf_stillPart.cls y_Nf_stillPart y_Nf_stillPart ∈ gw := gw_s 13 (by decide +kernel) (by decide +kernel)
set_option maxRecDepth 20000 in
theorem v_Nf_fieldAt : Yw y_Nf_fieldAt b_Nf_fieldAt 3 (some .long) 2 := ⟨gw_t 451 rfl rfl, gw_t 1 (by decide +kernel) (by decide +kernel), by decide +kernel, by decide⟩
theorem i_Nf_fieldAt : Cond.instanceMethod y_Nf_fieldAt ∈ gw := gw_t 449 (by decide +kernel) (by decide +kernel)
theorem z_Nf_fieldAt : Cond.selects y_Nf_fieldAt.cls y_Nf_fieldAt y_Nf_fieldAt ∈ gw := gw_t 450 (by decide +kernel) (by decide +kernel)
set_option maxRecDepth 20000 in
theorem v_Mo_split : Yw y_Mo_split b_Mo_split 7 (some .long) 4 := ⟨gw_t 751 rfl rfl, gw_t 8 (by decide +kernel) (by decide +kernel), by decide +kernel, by decide⟩
theorem i_Mo_split : Cond.instanceMethod y_Mo_split ∈ gw := gw_t 749 (by decide +kernel) (by decide +kernel)
theorem z_Mo_split : Cond.selects y_Mo_split.cls y_Mo_split y_Mo_split ∈ gw := gw_t 750 (by decide +kernel) (by decide +kernel)
set_option maxRecDepth 20000 in
theorem v_Nf_split : Yw y_Nf_split b_Nf_split 8 (some .long) 4 := ⟨gw_t 394 rfl rfl, gw_t 1 (by decide +kernel) (by decide +kernel), by decide +kernel, by decide⟩
theorem i_Nf_split : Cond.instanceMethod y_Nf_split ∈ gw := gw_t 392 (by decide +kernel) (by decide +kernel)
theorem z_Nf_split : Cond.selects y_Nf_split.cls y_Nf_split y_Nf_split ∈ gw := gw_t 393 (by decide +kernel) (by decide +kernel)
end
section
theorem d_Net_begin_0 : decode b_Net_begin 0 = .ok (.aload_n 0, 1) := by decide +kernel
theorem d_Net_begin_1 : decode b_Net_begin 1 = .ok (.iload_n 1, 1) := by decide +kernel
theorem d_Net_begin_2 : decode b_Net_begin 2 = .ok (.putfield 30, 3) := by decide +kernel
theorem d_Net_begin_5 : decode b_Net_begin 5 = .ok (.aload_n 0, 1) := by decide +kernel
theorem d_Net_begin_6 : decode b_Net_begin 6 = .ok (.iconst 0, 1) := by decide +kernel
theorem d_Net_begin_7 : decode b_Net_begin 7 = .ok (.putfield 34, 3) := by decide +kernel
theorem d_Net_begin_10 : decode b_Net_begin 10 = .ok (.aload_n 0, 1) := by decide +kernel
theorem d_Net_begin_11 : decode b_Net_begin 11 = .ok (.iconst 0, 1) := by decide +kernel
theorem d_Net_begin_12 : decode b_Net_begin 12 = .ok (.putfield 37, 3) := by decide +kernel
theorem d_Net_begin_15 : decode b_Net_begin 15 = .ok (.iconst 0, 1) := by decide +kernel
theorem d_Net_begin_16 : decode b_Net_begin 16 = .ok (.istore_n 2, 1) := by decide +kernel
theorem d_Net_begin_17 : decode b_Net_begin 17 = .ok (.iload_n 2, 1) := by decide +kernel
theorem d_Net_begin_18 : decode b_Net_begin 18 = .ok (.bipush 6, 2) := by decide +kernel
theorem d_Net_begin_20 : decode b_Net_begin 20 = .ok (.if_icmp .ge 16, 3) := by decide +kernel
theorem d_Net_begin_23 : decode b_Net_begin 23 = .ok (.aload_n 0, 1) := by decide +kernel
theorem d_Net_begin_24 : decode b_Net_begin 24 = .ok (.getfield 27, 3) := by decide +kernel
theorem d_Net_begin_27 : decode b_Net_begin 27 = .ok (.iload_n 2, 1) := by decide +kernel
theorem d_Net_begin_28 : decode b_Net_begin 28 = .ok (.iload_n 2, 1) := by decide +kernel
theorem d_Net_begin_29 : decode b_Net_begin 29 = .ok (.iastore, 1) := by decide +kernel
theorem d_Net_begin_30 : decode b_Net_begin 30 = .ok (.iinc 2 1, 3) := by decide +kernel
theorem d_Net_begin_33 : decode b_Net_begin 33 = .ok (.goto (-16), 3) := by decide +kernel
theorem d_Net_begin_36 : decode b_Net_begin 36 = .ok (.return_, 1) := by decide +kernel
def q_Net_begin_L17 (kx36 : Mem → Prop) (post : Mem → Prop) : Nat → Int32 → Mem → Prop
  | 0, _, _ => False
  | n + 1, x2, M => ((6 : Int32) ≤ x2 → kx36 M) ∧ (¬ (6 : Int32) ≤ x2 → vp_in x2 6 ∧ (∀ M4, M4 = wI M 7 x2.toNatClampNeg x2 → q_Net_begin_L17 kx36 post n (x2 + 1) M4))
set_option maxHeartbeats 4000000 in
theorem s_Net_begin_L17 {γ : Gm} {κ : Kp} {post : Mem → Prop} {kx36 : Mem → Prop} (C : Cx γ κ "NetForms$Net" b_Net_begin 3 0 (0, 0)) (R : Rt γ (none)) (hx36 : ∀ M', kx36 M' → G γ κ 3 (0, 0) (Gq γ κ (pV post)) 36 [] [] M') : ∀ (n : Nat) (x2 : Int32) (M : Mem), q_Net_begin_L17 kx36 post n x2 M → G γ κ 3 (0, 0) (Gq γ κ (pV post)) 17 [(0, .ref (κ.1 + 1)), (2, .int x2)] [] M := by
  intro n
  induction n with
  | zero => intro x2 M hq; exact hq.elim
  | succ n ih =>
    intro x2 M hq
    unfold q_Net_begin_L17 at hq
    refine G_iload_n C 1 d_Net_begin_17 rfl rfl ?_
    refine G_bipush C (v := 6) d_Net_begin_18 (by decide) ?_
    refine G_icmp_ge C (tgt := 36) d_Net_begin_20 (by decide) (fun c => ?_) (fun c => ?_)
    · replace hq := hq.1 c
      exact G_sub [] (by rfl) (hx36 _ hq)
    · replace hq := hq.2 c
      refine G_aload_n C 0 d_Net_begin_23 rfl rfl ?_
      refine Gg_Net_leasts C wd_45 d_Net_begin_24 ?_
      refine G_iload_n C 1 d_Net_begin_27 rfl rfl ?_
      refine G_iload_n C 1 d_Net_begin_28 rfl rfl ?_
      refine G_iastore C (k := 7) (by decide) (fun _ _ => rfl) hq.1 d_Net_begin_29 ?_
      replace hq := hq.2 _ rfl
      refine G_iinc C (v := _ + 1) (lv' := [(2, _), (0, _)]) 1 d_Net_begin_30 rfl rfl (by decide) rfl ?_
      refine G_goto C (tgt := 17) d_Net_begin_33 (by decide) ?_
      exact G_sub [1, 0] (by rfl) (ih _ _ hq)
def q_Net_begin (a1 : Int32) (M : Mem) (post : Mem → Prop) : Prop := ∀ M1, M1 = wI M 1 0 a1 → ∀ M2, M2 = wI M1 1 1 (0 : Int32) → ∀ M3, M3 = wI M2 1 2 (0 : Int32) → ∃ n5, q_Net_begin_L17 (fun M6 => post M6) post n5 (0 : Int32) M3
set_option maxHeartbeats 4000000 in
theorem s_Net_begin {l : Launch} {κ : Kp} {a1 : Int32} {M : Mem} {post : Mem → Prop} (hq : q_Net_begin a1 M post) : Ct l κ y_Net_begin b_Net_begin 3 (none) 0 [.ref (κ.1 + 1), .int a1] M (pV post) := by
  refine Ct_of (by decide) (Nat.le_of_ble_eq_true rfl) (fun γ hγ C R => ?_)
  subst hγ
  unfold q_Net_begin at hq
  show G γ κ 3 (0, 0) (Gq γ κ (pV post)) 0 [(0, .ref (κ.1 + 1)), (1, .int a1)] [] M
  refine G_aload_n C 0 d_Net_begin_0 rfl rfl ?_
  refine G_iload_n C 1 d_Net_begin_1 rfl rfl ?_
  refine Gp_Net_points C wd_25 d_Net_begin_2 ?_
  replace hq := hq _ rfl
  refine G_aload_n C 0 d_Net_begin_5 rfl rfl ?_
  refine G_iconst C (v := 0) d_Net_begin_6 (by decide) ?_
  refine Gp_Net_edges C wd_28 d_Net_begin_7 ?_
  replace hq := hq _ rfl
  refine G_aload_n C 0 d_Net_begin_10 rfl rfl ?_
  refine G_iconst C (v := 0) d_Net_begin_11 (by decide) ?_
  refine Gp_Net_plates C wd_32 d_Net_begin_12 ?_
  replace hq := hq _ rfl
  refine G_iconst C (v := 0) d_Net_begin_15 (by decide) ?_
  refine G_istore_n C (lv' := [(2, _), (0, _), (1, _)]) d_Net_begin_16 rfl (by decide) rfl ?_
  obtain ⟨n5, hq⟩ := hq
  refine G_sub [1, 0] (by rfl) (s_Net_begin_L17 C R ?_ n5 _ _ hq)
  · intro M6 hq
    exact G_vret C R d_Net_begin_36 ⟨rfl, hq⟩
theorem d_Arr_fill_IIV_0 : decode b_Arr_fill_IIV 0 = .ok (.iconst 0, 1) := by decide +kernel
theorem d_Arr_fill_IIV_1 : decode b_Arr_fill_IIV 1 = .ok (.istore_n 2, 1) := by decide +kernel
theorem d_Arr_fill_IIV_2 : decode b_Arr_fill_IIV 2 = .ok (.aload_n 0, 1) := by decide +kernel
theorem d_Arr_fill_IIV_3 : decode b_Arr_fill_IIV 3 = .ok (.arraylength, 1) := by decide +kernel
theorem d_Arr_fill_IIV_4 : decode b_Arr_fill_IIV 4 = .ok (.istore_n 3, 1) := by decide +kernel
theorem d_Arr_fill_IIV_5 : decode b_Arr_fill_IIV 5 = .ok (.iload_n 2, 1) := by decide +kernel
theorem d_Arr_fill_IIV_6 : decode b_Arr_fill_IIV 6 = .ok (.iload_n 3, 1) := by decide +kernel
theorem d_Arr_fill_IIV_7 : decode b_Arr_fill_IIV 7 = .ok (.if_icmp .ge 13, 3) := by decide +kernel
theorem d_Arr_fill_IIV_10 : decode b_Arr_fill_IIV 10 = .ok (.aload_n 0, 1) := by decide +kernel
theorem d_Arr_fill_IIV_11 : decode b_Arr_fill_IIV 11 = .ok (.iload_n 2, 1) := by decide +kernel
theorem d_Arr_fill_IIV_12 : decode b_Arr_fill_IIV 12 = .ok (.iload_n 1, 1) := by decide +kernel
theorem d_Arr_fill_IIV_13 : decode b_Arr_fill_IIV 13 = .ok (.iastore, 1) := by decide +kernel
theorem d_Arr_fill_IIV_14 : decode b_Arr_fill_IIV 14 = .ok (.iinc 2 1, 3) := by decide +kernel
theorem d_Arr_fill_IIV_17 : decode b_Arr_fill_IIV 17 = .ok (.goto (-12), 3) := by decide +kernel
theorem d_Arr_fill_IIV_20 : decode b_Arr_fill_IIV 20 = .ok (.return_, 1) := by decide +kernel
def q_Arr_fill_IIV_L5 (k0 : Nat) (n0 : Nat) (kx20 : Mem → Prop) (post : Mem → Prop) : Nat → Int32 → Int32 → Int32 → Mem → Prop
  | 0, _, _, _, _ => False
  | n + 1, x1, x2, x3, M => (x3 ≤ x2 → kx20 M) ∧ (¬ x3 ≤ x2 → vp_in x2 n0 ∧ (∀ M1, M1 = wI M k0 x2.toNatClampNeg x1 → q_Arr_fill_IIV_L5 k0 n0 kx20 post n x1 (x2 + 1) x3 M1))
set_option maxHeartbeats 4000000 in
theorem s_Arr_fill_IIV_L5 {γ : Gm} {κ : Kp} {post : Mem → Prop} {k0 : Nat} {n0 : Nat} {kx20 : Mem → Prop} (C : Cx γ κ "java/util/Arrays" b_Arr_fill_IIV 4 0 (0, 0)) (R : Rt γ (none)) (hk : k0 < 76) (hs : ∀ f g, shp κ k0 f g = eI κ n0 f) (hx20 : ∀ M', kx20 M' → G γ κ 4 (0, 0) (Gq γ κ (pV post)) 20 [] [] M') : ∀ (n : Nat) (x1 : Int32) (x2 : Int32) (x3 : Int32) (M : Mem), q_Arr_fill_IIV_L5 k0 n0 kx20 post n x1 x2 x3 M → G γ κ 4 (0, 0) (Gq γ κ (pV post)) 5 [(0, .ref (κ.1 + k0)), (1, .int x1), (2, .int x2), (3, .int x3)] [] M := by
  intro n
  induction n with
  | zero => intro x1 x2 x3 M hq; exact hq.elim
  | succ n ih =>
    intro x1 x2 x3 M hq
    unfold q_Arr_fill_IIV_L5 at hq
    refine G_iload_n C 2 d_Arr_fill_IIV_5 rfl rfl ?_
    refine G_iload_n C 3 d_Arr_fill_IIV_6 rfl rfl ?_
    refine G_icmp_ge C (tgt := 20) d_Arr_fill_IIV_7 (by decide) (fun c => ?_) (fun c => ?_)
    · replace hq := hq.1 c
      exact G_sub [] (by rfl) (hx20 _ hq)
    · replace hq := hq.2 c
      refine G_aload_n C 0 d_Arr_fill_IIV_10 rfl rfl ?_
      refine G_iload_n C 2 d_Arr_fill_IIV_11 rfl rfl ?_
      refine G_iload_n C 1 d_Arr_fill_IIV_12 rfl rfl ?_
      refine G_iastore C hk hs hq.1 d_Arr_fill_IIV_13 ?_
      replace hq := hq.2 _ rfl
      refine G_iinc C (v := _ + 1) (lv' := [(2, _), (0, _), (1, _), (3, _)]) 2 d_Arr_fill_IIV_14 rfl rfl (by decide) rfl ?_
      refine G_goto C (tgt := 5) d_Arr_fill_IIV_17 (by decide) ?_
      exact G_sub [1, 2, 0, 3] (by rfl) (ih _ _ _ _ hq)
def q_Arr_fill_IIV (k0 : Nat) (n0 : Nat) (a1 : Int32) (M : Mem) (post : Mem → Prop) : Prop := ∃ n2, q_Arr_fill_IIV_L5 k0 n0 (fun M3 => post M3) post n2 a1 (0 : Int32) (nI n0) M
set_option maxHeartbeats 4000000 in
theorem s_Arr_fill_IIV {l : Launch} {κ : Kp} {k0 : Nat} {n0 : Nat} {a1 : Int32} {M : Mem} {post : Mem → Prop} (hk : k0 < 76) (hs : ∀ f g, shp κ k0 f g = eI κ n0 f) (hq : q_Arr_fill_IIV k0 n0 a1 M post) : Ct l κ y_Arr_fill_IIV b_Arr_fill_IIV 4 (none) 0 [.ref (κ.1 + k0), .int a1] M (pV post) := by
  refine Ct_of (by decide) (Nat.le_of_ble_eq_true rfl) (fun γ hγ C R => ?_)
  subst hγ
  unfold q_Arr_fill_IIV at hq
  show G γ κ 4 (0, 0) (Gq γ κ (pV post)) 0 [(0, .ref (κ.1 + k0)), (1, .int a1)] [] M
  refine G_iconst C (v := 0) d_Arr_fill_IIV_0 (by decide) ?_
  refine G_istore_n C (lv' := [(2, _), (0, _), (1, _)]) d_Arr_fill_IIV_1 rfl (by decide) rfl ?_
  refine G_aload_n C 1 d_Arr_fill_IIV_2 rfl rfl ?_
  refine G_alenI C hk hs d_Arr_fill_IIV_3 ?_
  refine G_istore_n C (lv' := [(3, _), (2, _), (0, _), (1, _)]) d_Arr_fill_IIV_4 rfl (by decide) rfl ?_
  obtain ⟨n2, hq⟩ := hq
  refine G_sub [2, 3, 1, 0] (by rfl) (s_Arr_fill_IIV_L5 C R hk hs ?_ n2 _ _ _ _ hq)
  · intro M3 hq
    exact G_vret C R d_Arr_fill_IIV_20 ⟨rfl, hq⟩
theorem d_Wal_begin_0 : decode b_Wal_begin 0 = .ok (.iconst 0, 1) := by decide +kernel
theorem d_Wal_begin_1 : decode b_Wal_begin 1 = .ok (.istore_n 1, 1) := by decide +kernel
theorem d_Wal_begin_2 : decode b_Wal_begin 2 = .ok (.iload_n 1, 1) := by decide +kernel
theorem d_Wal_begin_3 : decode b_Wal_begin 3 = .ok (.bipush 6, 2) := by decide +kernel
theorem d_Wal_begin_5 : decode b_Wal_begin 5 = .ok (.if_icmp .ge 16, 3) := by decide +kernel
theorem d_Wal_begin_8 : decode b_Wal_begin 8 = .ok (.aload_n 0, 1) := by decide +kernel
theorem d_Wal_begin_9 : decode b_Wal_begin 9 = .ok (.getfield 9, 3) := by decide +kernel
theorem d_Wal_begin_12 : decode b_Wal_begin 12 = .ok (.iload_n 1, 1) := by decide +kernel
theorem d_Wal_begin_13 : decode b_Wal_begin 13 = .ok (.iconst 0, 1) := by decide +kernel
theorem d_Wal_begin_14 : decode b_Wal_begin 14 = .ok (.bastore, 1) := by decide +kernel
theorem d_Wal_begin_15 : decode b_Wal_begin 15 = .ok (.iinc 1 1, 3) := by decide +kernel
theorem d_Wal_begin_18 : decode b_Wal_begin 18 = .ok (.goto (-16), 3) := by decide +kernel
theorem d_Wal_begin_21 : decode b_Wal_begin 21 = .ok (.return_, 1) := by decide +kernel
def q_Wal_begin_L2 (kx21 : Mem → Prop) (post : Mem → Prop) : Nat → Int32 → Mem → Prop
  | 0, _, _ => False
  | n + 1, x1, M => ((6 : Int32) ≤ x1 → kx21 M) ∧ (¬ (6 : Int32) ≤ x1 → vp_in x1 6 ∧ (∀ M1, M1 = wI M 10 x1.toNatClampNeg (0 : Int32) → q_Wal_begin_L2 kx21 post n (x1 + 1) M1))
set_option maxHeartbeats 4000000 in
theorem s_Wal_begin_L2 {γ : Gm} {κ : Kp} {post : Mem → Prop} {kx21 : Mem → Prop} (C : Cx γ κ "NetForms$Walls" b_Wal_begin 2 0 (0, 0)) (R : Rt γ (none)) (hx21 : ∀ M', kx21 M' → G γ κ 2 (0, 0) (Gq γ κ (pV post)) 21 [] [] M') : ∀ (n : Nat) (x1 : Int32) (M : Mem), q_Wal_begin_L2 kx21 post n x1 M → G γ κ 2 (0, 0) (Gq γ κ (pV post)) 2 [(0, .ref (κ.1 + 9)), (1, .int x1)] [] M := by
  intro n
  induction n with
  | zero => intro x1 M hq; exact hq.elim
  | succ n ih =>
    intro x1 M hq
    unfold q_Wal_begin_L2 at hq
    refine G_iload_n C 1 d_Wal_begin_2 rfl rfl ?_
    refine G_bipush C (v := 6) d_Wal_begin_3 (by decide) ?_
    refine G_icmp_ge C (tgt := 21) d_Wal_begin_5 (by decide) (fun c => ?_) (fun c => ?_)
    · replace hq := hq.1 c
      exact G_sub [] (by rfl) (hx21 _ hq)
    · replace hq := hq.2 c
      refine G_aload_n C 0 d_Wal_begin_8 rfl rfl ?_
      refine Gg_Wal_there C wd_75 d_Wal_begin_9 ?_
      refine G_iload_n C 1 d_Wal_begin_12 rfl rfl ?_
      refine G_iconst C (v := 0) d_Wal_begin_13 (by decide) ?_
      refine G_bastore C (k := 10) (by decide) (fun _ _ => rfl) hq.1 (x2 := (0 : Int32)) (by decide) d_Wal_begin_14 ?_
      replace hq := hq.2 _ rfl
      refine G_iinc C (v := _ + 1) (lv' := [(1, _), (0, _)]) 1 d_Wal_begin_15 rfl rfl (by decide) rfl ?_
      refine G_goto C (tgt := 2) d_Wal_begin_18 (by decide) ?_
      exact G_sub [1, 0] (by rfl) (ih _ _ hq)
def q_Wal_begin (M : Mem) (post : Mem → Prop) : Prop := ∃ n2, q_Wal_begin_L2 (fun M3 => post M3) post n2 (0 : Int32) M
set_option maxHeartbeats 4000000 in
theorem s_Wal_begin {l : Launch} {κ : Kp} {M : Mem} {post : Mem → Prop} (hq : q_Wal_begin M post) : Ct l κ y_Wal_begin b_Wal_begin 2 (none) 0 [.ref (κ.1 + 9)] M (pV post) := by
  refine Ct_of (by decide) (Nat.le_of_ble_eq_true rfl) (fun γ hγ C R => ?_)
  subst hγ
  unfold q_Wal_begin at hq
  show G γ κ 2 (0, 0) (Gq γ κ (pV post)) 0 [(0, .ref (κ.1 + 9))] [] M
  refine G_iconst C (v := 0) d_Wal_begin_0 (by decide) ?_
  refine G_istore_n C (lv' := [(1, _), (0, _)]) d_Wal_begin_1 rfl (by decide) rfl ?_
  obtain ⟨n2, hq⟩ := hq
  refine G_sub [1, 0] (by rfl) (s_Wal_begin_L2 C R ?_ n2 _ _ hq)
  · intro M3 hq
    exact G_vret C R d_Wal_begin_21 ⟨rfl, hq⟩
theorem d_Arr_fill_JJV_0 : decode b_Arr_fill_JJV 0 = .ok (.iconst 0, 1) := by decide +kernel
theorem d_Arr_fill_JJV_1 : decode b_Arr_fill_JJV 1 = .ok (.istore_n 3, 1) := by decide +kernel
theorem d_Arr_fill_JJV_2 : decode b_Arr_fill_JJV 2 = .ok (.aload_n 0, 1) := by decide +kernel
theorem d_Arr_fill_JJV_3 : decode b_Arr_fill_JJV 3 = .ok (.arraylength, 1) := by decide +kernel
theorem d_Arr_fill_JJV_4 : decode b_Arr_fill_JJV 4 = .ok (.istore 4, 2) := by decide +kernel
theorem d_Arr_fill_JJV_6 : decode b_Arr_fill_JJV 6 = .ok (.iload_n 3, 1) := by decide +kernel
theorem d_Arr_fill_JJV_7 : decode b_Arr_fill_JJV 7 = .ok (.iload 4, 2) := by decide +kernel
theorem d_Arr_fill_JJV_9 : decode b_Arr_fill_JJV 9 = .ok (.if_icmp .ge 13, 3) := by decide +kernel
theorem d_Arr_fill_JJV_12 : decode b_Arr_fill_JJV 12 = .ok (.aload_n 0, 1) := by decide +kernel
theorem d_Arr_fill_JJV_13 : decode b_Arr_fill_JJV 13 = .ok (.iload_n 3, 1) := by decide +kernel
theorem d_Arr_fill_JJV_14 : decode b_Arr_fill_JJV 14 = .ok (.lload_n 1, 1) := by decide +kernel
theorem d_Arr_fill_JJV_15 : decode b_Arr_fill_JJV 15 = .ok (.lastore, 1) := by decide +kernel
theorem d_Arr_fill_JJV_16 : decode b_Arr_fill_JJV 16 = .ok (.iinc 3 1, 3) := by decide +kernel
theorem d_Arr_fill_JJV_19 : decode b_Arr_fill_JJV 19 = .ok (.goto (-13), 3) := by decide +kernel
theorem d_Arr_fill_JJV_22 : decode b_Arr_fill_JJV 22 = .ok (.return_, 1) := by decide +kernel
def q_Arr_fill_JJV_L6 (k0 : Nat) (n0 : Nat) (kx22 : Mem → Prop) (post : Mem → Prop) : Nat → Int64 → Int32 → Int32 → Mem → Prop
  | 0, _, _, _, _ => False
  | n + 1, x1, x3, x4, M => (x4 ≤ x3 → kx22 M) ∧ (¬ x4 ≤ x3 → vp_in x3 n0 ∧ (∀ M1, M1 = wJ M k0 x3.toNatClampNeg x1 → q_Arr_fill_JJV_L6 k0 n0 kx22 post n x1 (x3 + 1) x4 M1))
set_option maxHeartbeats 4000000 in
theorem s_Arr_fill_JJV_L6 {γ : Gm} {κ : Kp} {post : Mem → Prop} {k0 : Nat} {n0 : Nat} {kx22 : Mem → Prop} (C : Cx γ κ "java/util/Arrays" b_Arr_fill_JJV 5 0 (0, 0)) (R : Rt γ (none)) (hk : k0 < 76) (hs : ∀ f g, shp κ k0 f g = eJ κ n0 g) (hx22 : ∀ M', kx22 M' → G γ κ 5 (0, 0) (Gq γ κ (pV post)) 22 [] [] M') : ∀ (n : Nat) (x1 : Int64) (x3 : Int32) (x4 : Int32) (M : Mem), q_Arr_fill_JJV_L6 k0 n0 kx22 post n x1 x3 x4 M → G γ κ 5 (0, 0) (Gq γ κ (pV post)) 6 [(0, .ref (κ.1 + k0)), (1, .long x1), (3, .int x3), (4, .int x4)] [] M := by
  intro n
  induction n with
  | zero => intro x1 x3 x4 M hq; exact hq.elim
  | succ n ih =>
    intro x1 x3 x4 M hq
    unfold q_Arr_fill_JJV_L6 at hq
    refine G_iload_n C 2 d_Arr_fill_JJV_6 rfl rfl ?_
    refine G_iload C 3 d_Arr_fill_JJV_7 rfl ?_
    refine G_icmp_ge C (tgt := 22) d_Arr_fill_JJV_9 (by decide) (fun c => ?_) (fun c => ?_)
    · replace hq := hq.1 c
      exact G_sub [] (by rfl) (hx22 _ hq)
    · replace hq := hq.2 c
      refine G_aload_n C 0 d_Arr_fill_JJV_12 rfl rfl ?_
      refine G_iload_n C 2 d_Arr_fill_JJV_13 rfl rfl ?_
      refine G_lload_n C 1 d_Arr_fill_JJV_14 rfl rfl ?_
      refine G_lastore C hk hs hq.1 d_Arr_fill_JJV_15 ?_
      replace hq := hq.2 _ rfl
      refine G_iinc C (v := _ + 1) (lv' := [(3, _), (0, _), (1, _), (4, _)]) 2 d_Arr_fill_JJV_16 rfl rfl (by decide) rfl ?_
      refine G_goto C (tgt := 6) d_Arr_fill_JJV_19 (by decide) ?_
      exact G_sub [1, 2, 0, 3] (by rfl) (ih _ _ _ _ hq)
def q_Arr_fill_JJV (k0 : Nat) (n0 : Nat) (a1 : Int64) (M : Mem) (post : Mem → Prop) : Prop := ∃ n2, q_Arr_fill_JJV_L6 k0 n0 (fun M3 => post M3) post n2 a1 (0 : Int32) (nI n0) M
set_option maxHeartbeats 4000000 in
theorem s_Arr_fill_JJV {l : Launch} {κ : Kp} {k0 : Nat} {n0 : Nat} {a1 : Int64} {M : Mem} {post : Mem → Prop} (hk : k0 < 76) (hs : ∀ f g, shp κ k0 f g = eJ κ n0 g) (hq : q_Arr_fill_JJV k0 n0 a1 M post) : Ct l κ y_Arr_fill_JJV b_Arr_fill_JJV 5 (none) 0 [.ref (κ.1 + k0), .long a1] M (pV post) := by
  refine Ct_of (by decide) (Nat.le_of_ble_eq_true rfl) (fun γ hγ C R => ?_)
  subst hγ
  unfold q_Arr_fill_JJV at hq
  show G γ κ 5 (0, 0) (Gq γ κ (pV post)) 0 [(0, .ref (κ.1 + k0)), (1, .long a1)] [] M
  refine G_iconst C (v := 0) d_Arr_fill_JJV_0 (by decide) ?_
  refine G_istore_n C (lv' := [(3, _), (0, _), (1, _)]) d_Arr_fill_JJV_1 rfl (by decide) rfl ?_
  refine G_aload_n C 1 d_Arr_fill_JJV_2 rfl rfl ?_
  refine G_alenJ C hk hs d_Arr_fill_JJV_3 ?_
  refine G_istore C (lv' := [(4, _), (3, _), (0, _), (1, _)]) d_Arr_fill_JJV_4 (by decide) rfl ?_
  obtain ⟨n2, hq⟩ := hq
  refine G_sub [2, 3, 1, 0] (by rfl) (s_Arr_fill_JJV_L6 C R hk hs ?_ n2 _ _ _ _ hq)
  · intro M3 hq
    exact G_vret C R d_Arr_fill_JJV_22 ⟨rfl, hq⟩
theorem d_Net_size_0 : decode b_Net_size 0 = .ok (.iload_n 1, 1) := by decide +kernel
theorem d_Net_size_1 : decode b_Net_size 1 = .ok (.ifCond .ne 8, 3) := by decide +kernel
theorem d_Net_size_4 : decode b_Net_size 4 = .ok (.aload_n 0, 1) := by decide +kernel
theorem d_Net_size_5 : decode b_Net_size 5 = .ok (.getfield 30, 3) := by decide +kernel
theorem d_Net_size_8 : decode b_Net_size 8 = .ok (.ireturn, 1) := by decide +kernel
theorem d_Net_size_9 : decode b_Net_size 9 = .ok (.iload_n 1, 1) := by decide +kernel
theorem d_Net_size_10 : decode b_Net_size 10 = .ok (.iconst 1, 1) := by decide +kernel
theorem d_Net_size_11 : decode b_Net_size 11 = .ok (.if_icmp .ne 10, 3) := by decide +kernel
theorem d_Net_size_14 : decode b_Net_size 14 = .ok (.aload_n 0, 1) := by decide +kernel
theorem d_Net_size_15 : decode b_Net_size 15 = .ok (.getfield 34, 3) := by decide +kernel
theorem d_Net_size_18 : decode b_Net_size 18 = .ok (.goto 7, 3) := by decide +kernel
theorem d_Net_size_21 : decode b_Net_size 21 = .ok (.aload_n 0, 1) := by decide +kernel
theorem d_Net_size_22 : decode b_Net_size 22 = .ok (.getfield 37, 3) := by decide +kernel
theorem d_Net_size_25 : decode b_Net_size 25 = .ok (.ireturn, 1) := by decide +kernel
def q_Net_size (a1 : Int32) (M : Mem) (post : Int32 → Mem → Prop) : Prop := (¬ a1 = 0 → (¬ a1 = (1 : Int32) → post (M.1 1 2) M) ∧ (a1 = (1 : Int32) → post (M.1 1 1) M)) ∧ (a1 = 0 → post (M.1 1 0) M)
set_option maxHeartbeats 4000000 in
theorem s_Net_size {l : Launch} {κ : Kp} {a1 : Int32} {M : Mem} {post : Int32 → Mem → Prop} (hq : q_Net_size a1 M post) : Ct l κ y_Net_size b_Net_size 2 (some .int) 0 [.ref (κ.1 + 1), .int a1] M (pI post) := by
  refine Ct_of (by decide) (Nat.le_of_ble_eq_true rfl) (fun γ hγ C R => ?_)
  subst hγ
  unfold q_Net_size at hq
  show G γ κ 2 (0, 0) (Gq γ κ (pI post)) 0 [(0, .ref (κ.1 + 1)), (1, .int a1)] [] M
  refine G_iload_n C 1 d_Net_size_0 rfl rfl ?_
  refine G_if_ne C (tgt := 9) d_Net_size_1 (by decide) (fun c => ?_) (fun c => ?_)
  · replace hq := hq.1 c
    refine G_iload_n C 1 d_Net_size_9 rfl rfl ?_
    refine G_iconst C (v := 1) d_Net_size_10 (by decide) ?_
    refine G_icmp_ne C (tgt := 21) d_Net_size_11 (by decide) (fun c => ?_) (fun c => ?_)
    · replace hq := hq.1 c
      refine G_aload_n C 0 d_Net_size_21 rfl rfl ?_
      refine Gg_Net_plates C wd_32 d_Net_size_22 ?_
      exact G_iret C R d_Net_size_25 ⟨_, rfl, hq⟩
    · replace hq := hq.2 c
      refine G_aload_n C 0 d_Net_size_14 rfl rfl ?_
      refine Gg_Net_edges C wd_28 d_Net_size_15 ?_
      refine G_goto C (tgt := 25) d_Net_size_18 (by decide) ?_
      exact G_iret C R d_Net_size_25 ⟨_, rfl, hq⟩
  · replace hq := hq.2 c
    refine G_aload_n C 0 d_Net_size_4 rfl rfl ?_
    refine Gg_Net_points C wd_25 d_Net_size_5 ?_
    exact G_iret C R d_Net_size_8 ⟨_, rfl, hq⟩
theorem d_Net_edgeBetween_0 : decode b_Net_edgeBetween 0 = .ok (.iconst 0, 1) := by decide +kernel
theorem d_Net_edgeBetween_1 : decode b_Net_edgeBetween 1 = .ok (.istore_n 3, 1) := by decide +kernel
theorem d_Net_edgeBetween_2 : decode b_Net_edgeBetween 2 = .ok (.iload_n 3, 1) := by decide +kernel
theorem d_Net_edgeBetween_3 : decode b_Net_edgeBetween 3 = .ok (.aload_n 0, 1) := by decide +kernel
theorem d_Net_edgeBetween_4 : decode b_Net_edgeBetween 4 = .ok (.getfield 34, 3) := by decide +kernel
theorem d_Net_edgeBetween_7 : decode b_Net_edgeBetween 7 = .ok (.if_icmp .ge 31, 3) := by decide +kernel
theorem d_Net_edgeBetween_10 : decode b_Net_edgeBetween 10 = .ok (.aload_n 0, 1) := by decide +kernel
theorem d_Net_edgeBetween_11 : decode b_Net_edgeBetween 11 = .ok (.getfield 9, 3) := by decide +kernel
theorem d_Net_edgeBetween_14 : decode b_Net_edgeBetween 14 = .ok (.iload_n 3, 1) := by decide +kernel
theorem d_Net_edgeBetween_15 : decode b_Net_edgeBetween 15 = .ok (.iaload, 1) := by decide +kernel
theorem d_Net_edgeBetween_16 : decode b_Net_edgeBetween 16 = .ok (.iload_n 1, 1) := by decide +kernel
theorem d_Net_edgeBetween_17 : decode b_Net_edgeBetween 17 = .ok (.if_icmp .ne 15, 3) := by decide +kernel
theorem d_Net_edgeBetween_20 : decode b_Net_edgeBetween 20 = .ok (.aload_n 0, 1) := by decide +kernel
theorem d_Net_edgeBetween_21 : decode b_Net_edgeBetween 21 = .ok (.getfield 15, 3) := by decide +kernel
theorem d_Net_edgeBetween_24 : decode b_Net_edgeBetween 24 = .ok (.iload_n 3, 1) := by decide +kernel
theorem d_Net_edgeBetween_25 : decode b_Net_edgeBetween 25 = .ok (.iaload, 1) := by decide +kernel
theorem d_Net_edgeBetween_26 : decode b_Net_edgeBetween 26 = .ok (.iload_n 2, 1) := by decide +kernel
theorem d_Net_edgeBetween_27 : decode b_Net_edgeBetween 27 = .ok (.if_icmp .ne 5, 3) := by decide +kernel
theorem d_Net_edgeBetween_30 : decode b_Net_edgeBetween 30 = .ok (.iload_n 3, 1) := by decide +kernel
theorem d_Net_edgeBetween_31 : decode b_Net_edgeBetween 31 = .ok (.ireturn, 1) := by decide +kernel
theorem d_Net_edgeBetween_32 : decode b_Net_edgeBetween 32 = .ok (.iinc 3 1, 3) := by decide +kernel
theorem d_Net_edgeBetween_35 : decode b_Net_edgeBetween 35 = .ok (.goto (-33), 3) := by decide +kernel
theorem d_Net_edgeBetween_38 : decode b_Net_edgeBetween 38 = .ok (.iconst (-1), 1) := by decide +kernel
theorem d_Net_edgeBetween_39 : decode b_Net_edgeBetween 39 = .ok (.ireturn, 1) := by decide +kernel
def q_Net_edgeBetween_L2 (kx30 : Int32 → Mem → Prop) (kx38 : Mem → Prop) (post : Int32 → Mem → Prop) : Nat → Int32 → Int32 → Int32 → Mem → Prop
  | 0, _, _, _, _ => False
  | n + 1, x1, x2, x3, M => ((M.1 1 1) ≤ x3 → kx38 M) ∧ (¬ (M.1 1 1) ≤ x3 → vp_in x3 12 ∧ ((¬ (M.1 2 x3.toNatClampNeg) = x1 → q_Net_edgeBetween_L2 kx30 kx38 post n x1 x2 (x3 + 1) M) ∧ ((M.1 2 x3.toNatClampNeg) = x1 → vp_in x3 12 ∧ ((¬ (M.1 3 x3.toNatClampNeg) = x2 → q_Net_edgeBetween_L2 kx30 kx38 post n x1 x2 (x3 + 1) M) ∧ ((M.1 3 x3.toNatClampNeg) = x2 → kx30 x3 M)))))
set_option maxHeartbeats 4000000 in
theorem s_Net_edgeBetween_L2 {γ : Gm} {κ : Kp} {post : Int32 → Mem → Prop} {kx30 : Int32 → Mem → Prop} {kx38 : Mem → Prop} (C : Cx γ κ "NetForms$Net" b_Net_edgeBetween 4 0 (0, 0)) (R : Rt γ (some .int)) (hx30 : ∀ y0 M', kx30 y0 M' → G γ κ 4 (0, 0) (Gq γ κ (pI post)) 30 [(3, .int y0)] [] M') (hx38 : ∀ M', kx38 M' → G γ κ 4 (0, 0) (Gq γ κ (pI post)) 38 [] [] M') : ∀ (n : Nat) (x1 : Int32) (x2 : Int32) (x3 : Int32) (M : Mem), q_Net_edgeBetween_L2 kx30 kx38 post n x1 x2 x3 M → G γ κ 4 (0, 0) (Gq γ κ (pI post)) 2 [(0, .ref (κ.1 + 1)), (1, .int x1), (2, .int x2), (3, .int x3)] [] M := by
  intro n
  induction n with
  | zero => intro x1 x2 x3 M hq; exact hq.elim
  | succ n ih =>
    intro x1 x2 x3 M hq
    unfold q_Net_edgeBetween_L2 at hq
    refine G_iload_n C 3 d_Net_edgeBetween_2 rfl rfl ?_
    refine G_aload_n C 0 d_Net_edgeBetween_3 rfl rfl ?_
    refine Gg_Net_edges C wd_28 d_Net_edgeBetween_4 ?_
    refine G_icmp_ge C (tgt := 38) d_Net_edgeBetween_7 (by decide) (fun c => ?_) (fun c => ?_)
    · replace hq := hq.1 c
      exact G_sub [] (by rfl) (hx38 _ hq)
    · replace hq := hq.2 c
      refine G_aload_n C 0 d_Net_edgeBetween_10 rfl rfl ?_
      refine Gg_Net_begins C wd_34 d_Net_edgeBetween_11 ?_
      refine G_iload_n C 3 d_Net_edgeBetween_14 rfl rfl ?_
      refine G_iaload C (k := 2) (by decide) (fun _ _ => rfl) hq.1 d_Net_edgeBetween_15 ?_
      replace hq := hq.2
      refine G_iload_n C 1 d_Net_edgeBetween_16 rfl rfl ?_
      refine G_icmp_ne C (tgt := 32) d_Net_edgeBetween_17 (by decide) (fun c => ?_) (fun c => ?_)
      · replace hq := hq.1 c
        refine G_iinc C (v := _ + 1) (lv' := [(3, _), (0, _), (1, _), (2, _)]) 3 d_Net_edgeBetween_32 rfl rfl (by decide) rfl ?_
        refine G_goto C (tgt := 2) d_Net_edgeBetween_35 (by decide) ?_
        exact G_sub [1, 2, 3, 0] (by rfl) (ih _ _ _ _ hq)
      · replace hq := hq.2 c
        refine G_aload_n C 0 d_Net_edgeBetween_20 rfl rfl ?_
        refine Gg_Net_ends C wd_38 d_Net_edgeBetween_21 ?_
        refine G_iload_n C 3 d_Net_edgeBetween_24 rfl rfl ?_
        refine G_iaload C (k := 3) (by decide) (fun _ _ => rfl) hq.1 d_Net_edgeBetween_25 ?_
        replace hq := hq.2
        refine G_iload_n C 2 d_Net_edgeBetween_26 rfl rfl ?_
        refine G_icmp_ne C (tgt := 32) d_Net_edgeBetween_27 (by decide) (fun c => ?_) (fun c => ?_)
        · replace hq := hq.1 c
          refine G_iinc C (v := _ + 1) (lv' := [(3, _), (0, _), (1, _), (2, _)]) 3 d_Net_edgeBetween_32 rfl rfl (by decide) rfl ?_
          refine G_goto C (tgt := 2) d_Net_edgeBetween_35 (by decide) ?_
          exact G_sub [1, 2, 3, 0] (by rfl) (ih _ _ _ _ hq)
        · replace hq := hq.2 c
          exact G_sub [3] (by rfl) (hx30 _ _ hq)
def q_Net_edgeBetween (a1 : Int32) (a2 : Int32) (M : Mem) (post : Int32 → Mem → Prop) : Prop := ∃ n1, q_Net_edgeBetween_L2 (fun x2 M3 => post x2 M3) (fun M4 => post (-1 : Int32) M4) post n1 a1 a2 (0 : Int32) M
set_option maxHeartbeats 4000000 in
theorem s_Net_edgeBetween {l : Launch} {κ : Kp} {a1 : Int32} {a2 : Int32} {M : Mem} {post : Int32 → Mem → Prop} (hq : q_Net_edgeBetween a1 a2 M post) : Ct l κ y_Net_edgeBetween b_Net_edgeBetween 4 (some .int) 0 [.ref (κ.1 + 1), .int a1, .int a2] M (pI post) := by
  refine Ct_of (by decide) (Nat.le_of_ble_eq_true rfl) (fun γ hγ C R => ?_)
  subst hγ
  unfold q_Net_edgeBetween at hq
  show G γ κ 4 (0, 0) (Gq γ κ (pI post)) 0 [(0, .ref (κ.1 + 1)), (1, .int a1), (2, .int a2)] [] M
  refine G_iconst C (v := 0) d_Net_edgeBetween_0 (by decide) ?_
  refine G_istore_n C (lv' := [(3, _), (0, _), (1, _), (2, _)]) d_Net_edgeBetween_1 rfl (by decide) rfl ?_
  obtain ⟨n1, hq⟩ := hq
  refine G_sub [1, 2, 3, 0] (by rfl) (s_Net_edgeBetween_L2 C R ?_ ?_ n1 _ _ _ _ hq)
  · intro x2 M3 hq
    refine G_iload_n C 0 d_Net_edgeBetween_30 rfl rfl ?_
    exact G_iret C R d_Net_edgeBetween_31 ⟨_, rfl, hq⟩
  · intro M4 hq
    refine G_iconst C (v := -1) d_Net_edgeBetween_38 (by decide) ?_
    exact G_iret C R d_Net_edgeBetween_39 ⟨_, rfl, hq⟩
theorem d_Net_hasPlateOf_0 : decode b_Net_hasPlateOf 0 = .ok (.iconst 0, 1) := by decide +kernel
theorem d_Net_hasPlateOf_1 : decode b_Net_hasPlateOf 1 = .ok (.istore_n 3, 1) := by decide +kernel
theorem d_Net_hasPlateOf_2 : decode b_Net_hasPlateOf 2 = .ok (.iload_n 3, 1) := by decide +kernel
theorem d_Net_hasPlateOf_3 : decode b_Net_hasPlateOf 3 = .ok (.aload_n 0, 1) := by decide +kernel
theorem d_Net_hasPlateOf_4 : decode b_Net_hasPlateOf 4 = .ok (.getfield 37, 3) := by decide +kernel
theorem d_Net_hasPlateOf_7 : decode b_Net_hasPlateOf 7 = .ok (.if_icmp .ge 31, 3) := by decide +kernel
theorem d_Net_hasPlateOf_10 : decode b_Net_hasPlateOf 10 = .ok (.aload_n 0, 1) := by decide +kernel
theorem d_Net_hasPlateOf_11 : decode b_Net_hasPlateOf 11 = .ok (.getfield 18, 3) := by decide +kernel
theorem d_Net_hasPlateOf_14 : decode b_Net_hasPlateOf 14 = .ok (.iload_n 3, 1) := by decide +kernel
theorem d_Net_hasPlateOf_15 : decode b_Net_hasPlateOf 15 = .ok (.iaload, 1) := by decide +kernel
theorem d_Net_hasPlateOf_16 : decode b_Net_hasPlateOf 16 = .ok (.iload_n 1, 1) := by decide +kernel
theorem d_Net_hasPlateOf_17 : decode b_Net_hasPlateOf 17 = .ok (.if_icmp .ne 15, 3) := by decide +kernel
theorem d_Net_hasPlateOf_20 : decode b_Net_hasPlateOf 20 = .ok (.aload_n 0, 1) := by decide +kernel
theorem d_Net_hasPlateOf_21 : decode b_Net_hasPlateOf 21 = .ok (.getfield 21, 3) := by decide +kernel
theorem d_Net_hasPlateOf_24 : decode b_Net_hasPlateOf 24 = .ok (.iload_n 3, 1) := by decide +kernel
theorem d_Net_hasPlateOf_25 : decode b_Net_hasPlateOf 25 = .ok (.iaload, 1) := by decide +kernel
theorem d_Net_hasPlateOf_26 : decode b_Net_hasPlateOf 26 = .ok (.iload_n 2, 1) := by decide +kernel
theorem d_Net_hasPlateOf_27 : decode b_Net_hasPlateOf 27 = .ok (.if_icmp .ne 5, 3) := by decide +kernel
theorem d_Net_hasPlateOf_30 : decode b_Net_hasPlateOf 30 = .ok (.iconst 1, 1) := by decide +kernel
theorem d_Net_hasPlateOf_31 : decode b_Net_hasPlateOf 31 = .ok (.ireturn, 1) := by decide +kernel
theorem d_Net_hasPlateOf_32 : decode b_Net_hasPlateOf 32 = .ok (.iinc 3 1, 3) := by decide +kernel
theorem d_Net_hasPlateOf_35 : decode b_Net_hasPlateOf 35 = .ok (.goto (-33), 3) := by decide +kernel
theorem d_Net_hasPlateOf_38 : decode b_Net_hasPlateOf 38 = .ok (.iconst 0, 1) := by decide +kernel
theorem d_Net_hasPlateOf_39 : decode b_Net_hasPlateOf 39 = .ok (.ireturn, 1) := by decide +kernel
def q_Net_hasPlateOf_L2 (kx30 : Mem → Prop) (kx38 : Mem → Prop) (post : Int32 → Mem → Prop) : Nat → Int32 → Int32 → Int32 → Mem → Prop
  | 0, _, _, _, _ => False
  | n + 1, x1, x2, x3, M => ((M.1 1 2) ≤ x3 → kx38 M) ∧ (¬ (M.1 1 2) ≤ x3 → vp_in x3 10 ∧ ((¬ (M.1 4 x3.toNatClampNeg) = x1 → q_Net_hasPlateOf_L2 kx30 kx38 post n x1 x2 (x3 + 1) M) ∧ ((M.1 4 x3.toNatClampNeg) = x1 → vp_in x3 10 ∧ ((¬ (M.1 5 x3.toNatClampNeg) = x2 → q_Net_hasPlateOf_L2 kx30 kx38 post n x1 x2 (x3 + 1) M) ∧ ((M.1 5 x3.toNatClampNeg) = x2 → kx30 M)))))
set_option maxHeartbeats 4000000 in
theorem s_Net_hasPlateOf_L2 {γ : Gm} {κ : Kp} {post : Int32 → Mem → Prop} {kx30 : Mem → Prop} {kx38 : Mem → Prop} (C : Cx γ κ "NetForms$Net" b_Net_hasPlateOf 4 0 (0, 0)) (R : Rt γ (some .boolean)) (hx30 : ∀ M', kx30 M' → G γ κ 4 (0, 0) (Gq γ κ (pI post)) 30 [] [] M') (hx38 : ∀ M', kx38 M' → G γ κ 4 (0, 0) (Gq γ κ (pI post)) 38 [] [] M') : ∀ (n : Nat) (x1 : Int32) (x2 : Int32) (x3 : Int32) (M : Mem), q_Net_hasPlateOf_L2 kx30 kx38 post n x1 x2 x3 M → G γ κ 4 (0, 0) (Gq γ κ (pI post)) 2 [(0, .ref (κ.1 + 1)), (1, .int x1), (2, .int x2), (3, .int x3)] [] M := by
  intro n
  induction n with
  | zero => intro x1 x2 x3 M hq; exact hq.elim
  | succ n ih =>
    intro x1 x2 x3 M hq
    unfold q_Net_hasPlateOf_L2 at hq
    refine G_iload_n C 3 d_Net_hasPlateOf_2 rfl rfl ?_
    refine G_aload_n C 0 d_Net_hasPlateOf_3 rfl rfl ?_
    refine Gg_Net_plates C wd_32 d_Net_hasPlateOf_4 ?_
    refine G_icmp_ge C (tgt := 38) d_Net_hasPlateOf_7 (by decide) (fun c => ?_) (fun c => ?_)
    · replace hq := hq.1 c
      exact G_sub [] (by rfl) (hx38 _ hq)
    · replace hq := hq.2 c
      refine G_aload_n C 0 d_Net_hasPlateOf_10 rfl rfl ?_
      refine Gg_Net_firsts C wd_42 d_Net_hasPlateOf_11 ?_
      refine G_iload_n C 3 d_Net_hasPlateOf_14 rfl rfl ?_
      refine G_iaload C (k := 4) (by decide) (fun _ _ => rfl) hq.1 d_Net_hasPlateOf_15 ?_
      replace hq := hq.2
      refine G_iload_n C 1 d_Net_hasPlateOf_16 rfl rfl ?_
      refine G_icmp_ne C (tgt := 32) d_Net_hasPlateOf_17 (by decide) (fun c => ?_) (fun c => ?_)
      · replace hq := hq.1 c
        refine G_iinc C (v := _ + 1) (lv' := [(3, _), (0, _), (1, _), (2, _)]) 3 d_Net_hasPlateOf_32 rfl rfl (by decide) rfl ?_
        refine G_goto C (tgt := 2) d_Net_hasPlateOf_35 (by decide) ?_
        exact G_sub [1, 2, 3, 0] (by rfl) (ih _ _ _ _ hq)
      · replace hq := hq.2 c
        refine G_aload_n C 0 d_Net_hasPlateOf_20 rfl rfl ?_
        refine Gg_Net_seconds C wd_43 d_Net_hasPlateOf_21 ?_
        refine G_iload_n C 3 d_Net_hasPlateOf_24 rfl rfl ?_
        refine G_iaload C (k := 5) (by decide) (fun _ _ => rfl) hq.1 d_Net_hasPlateOf_25 ?_
        replace hq := hq.2
        refine G_iload_n C 2 d_Net_hasPlateOf_26 rfl rfl ?_
        refine G_icmp_ne C (tgt := 32) d_Net_hasPlateOf_27 (by decide) (fun c => ?_) (fun c => ?_)
        · replace hq := hq.1 c
          refine G_iinc C (v := _ + 1) (lv' := [(3, _), (0, _), (1, _), (2, _)]) 3 d_Net_hasPlateOf_32 rfl rfl (by decide) rfl ?_
          refine G_goto C (tgt := 2) d_Net_hasPlateOf_35 (by decide) ?_
          exact G_sub [1, 2, 3, 0] (by rfl) (ih _ _ _ _ hq)
        · replace hq := hq.2 c
          exact G_sub [] (by rfl) (hx30 _ hq)
def q_Net_hasPlateOf (a1 : Int32) (a2 : Int32) (M : Mem) (post : Int32 → Mem → Prop) : Prop := ∃ n1, q_Net_hasPlateOf_L2 (fun M2 => post (1 : Int32) M2) (fun M3 => post (0 : Int32) M3) post n1 a1 a2 (0 : Int32) M
set_option maxHeartbeats 4000000 in
theorem s_Net_hasPlateOf {l : Launch} {κ : Kp} {a1 : Int32} {a2 : Int32} {M : Mem} {post : Int32 → Mem → Prop} (hq : q_Net_hasPlateOf a1 a2 M post) : Ct l κ y_Net_hasPlateOf b_Net_hasPlateOf 4 (some .boolean) 0 [.ref (κ.1 + 1), .int a1, .int a2] M (pI post) := by
  refine Ct_of (by decide) (Nat.le_of_ble_eq_true rfl) (fun γ hγ C R => ?_)
  subst hγ
  unfold q_Net_hasPlateOf at hq
  show G γ κ 4 (0, 0) (Gq γ κ (pI post)) 0 [(0, .ref (κ.1 + 1)), (1, .int a1), (2, .int a2)] [] M
  refine G_iconst C (v := 0) d_Net_hasPlateOf_0 (by decide) ?_
  refine G_istore_n C (lv' := [(3, _), (0, _), (1, _), (2, _)]) d_Net_hasPlateOf_1 rfl (by decide) rfl ?_
  obtain ⟨n1, hq⟩ := hq
  refine G_sub [1, 2, 3, 0] (by rfl) (s_Net_hasPlateOf_L2 C R ?_ ?_ n1 _ _ _ _ hq)
  · intro M2 hq
    refine G_iconst C (v := 1) d_Net_hasPlateOf_30 (by decide) ?_
    exact G_zret C R rfl d_Net_hasPlateOf_31 ⟨_, rfl, hq⟩
  · intro M3 hq
    refine G_iconst C (v := 0) d_Net_hasPlateOf_38 (by decide) ?_
    exact G_zret C R rfl d_Net_hasPlateOf_39 ⟨_, rfl, hq⟩
theorem d_Net_addPlate_0 : decode b_Net_addPlate 0 = .ok (.aload_n 0, 1) := by decide +kernel
theorem d_Net_addPlate_1 : decode b_Net_addPlate 1 = .ok (.getfield 18, 3) := by decide +kernel
theorem d_Net_addPlate_4 : decode b_Net_addPlate 4 = .ok (.aload_n 0, 1) := by decide +kernel
theorem d_Net_addPlate_5 : decode b_Net_addPlate 5 = .ok (.getfield 37, 3) := by decide +kernel
theorem d_Net_addPlate_8 : decode b_Net_addPlate 8 = .ok (.iload_n 1, 1) := by decide +kernel
theorem d_Net_addPlate_9 : decode b_Net_addPlate 9 = .ok (.iastore, 1) := by decide +kernel
theorem d_Net_addPlate_10 : decode b_Net_addPlate 10 = .ok (.aload_n 0, 1) := by decide +kernel
theorem d_Net_addPlate_11 : decode b_Net_addPlate 11 = .ok (.getfield 21, 3) := by decide +kernel
theorem d_Net_addPlate_14 : decode b_Net_addPlate 14 = .ok (.aload_n 0, 1) := by decide +kernel
theorem d_Net_addPlate_15 : decode b_Net_addPlate 15 = .ok (.getfield 37, 3) := by decide +kernel
theorem d_Net_addPlate_18 : decode b_Net_addPlate 18 = .ok (.iload_n 2, 1) := by decide +kernel
theorem d_Net_addPlate_19 : decode b_Net_addPlate 19 = .ok (.iastore, 1) := by decide +kernel
theorem d_Net_addPlate_20 : decode b_Net_addPlate 20 = .ok (.aload_n 0, 1) := by decide +kernel
theorem d_Net_addPlate_21 : decode b_Net_addPlate 21 = .ok (.getfield 24, 3) := by decide +kernel
theorem d_Net_addPlate_24 : decode b_Net_addPlate 24 = .ok (.aload_n 0, 1) := by decide +kernel
theorem d_Net_addPlate_25 : decode b_Net_addPlate 25 = .ok (.getfield 37, 3) := by decide +kernel
theorem d_Net_addPlate_28 : decode b_Net_addPlate 28 = .ok (.iload_n 3, 1) := by decide +kernel
theorem d_Net_addPlate_29 : decode b_Net_addPlate 29 = .ok (.iastore, 1) := by decide +kernel
theorem d_Net_addPlate_30 : decode b_Net_addPlate 30 = .ok (.aload_n 0, 1) := by decide +kernel
theorem d_Net_addPlate_31 : decode b_Net_addPlate 31 = .ok (.dup, 1) := by decide +kernel
theorem d_Net_addPlate_32 : decode b_Net_addPlate 32 = .ok (.getfield 37, 3) := by decide +kernel
theorem d_Net_addPlate_35 : decode b_Net_addPlate 35 = .ok (.dup_x1, 1) := by decide +kernel
theorem d_Net_addPlate_36 : decode b_Net_addPlate 36 = .ok (.iconst 1, 1) := by decide +kernel
theorem d_Net_addPlate_37 : decode b_Net_addPlate 37 = .ok (.iadd, 1) := by decide +kernel
theorem d_Net_addPlate_38 : decode b_Net_addPlate 38 = .ok (.putfield 37, 3) := by decide +kernel
theorem d_Net_addPlate_41 : decode b_Net_addPlate 41 = .ok (.ireturn, 1) := by decide +kernel
def q_Net_addPlate (a1 : Int32) (a2 : Int32) (a3 : Int32) (M : Mem) (post : Int32 → Mem → Prop) : Prop := vp_in (M.1 1 2) 10 ∧ (∀ M1, M1 = wI M 4 (M.1 1 2).toNatClampNeg a1 → vp_in (M1.1 1 2) 10 ∧ (∀ M2, M2 = wI M1 5 (M1.1 1 2).toNatClampNeg a2 → vp_in (M2.1 1 2) 10 ∧ (∀ M3, M3 = wI M2 6 (M2.1 1 2).toNatClampNeg a3 → ∀ M4, M4 = wI M3 1 2 ((M3.1 1 2) + (1 : Int32)) → post (M3.1 1 2) M4)))
set_option maxHeartbeats 4000000 in
theorem s_Net_addPlate {l : Launch} {κ : Kp} {a1 : Int32} {a2 : Int32} {a3 : Int32} {M : Mem} {post : Int32 → Mem → Prop} (hq : q_Net_addPlate a1 a2 a3 M post) : Ct l κ y_Net_addPlate b_Net_addPlate 4 (some .int) 0 [.ref (κ.1 + 1), .int a1, .int a2, .int a3] M (pI post) := by
  refine Ct_of (by decide) (Nat.le_of_ble_eq_true rfl) (fun γ hγ C R => ?_)
  subst hγ
  unfold q_Net_addPlate at hq
  show G γ κ 4 (0, 0) (Gq γ κ (pI post)) 0 [(0, .ref (κ.1 + 1)), (1, .int a1), (2, .int a2), (3, .int a3)] [] M
  refine G_aload_n C 0 d_Net_addPlate_0 rfl rfl ?_
  refine Gg_Net_firsts C wd_42 d_Net_addPlate_1 ?_
  refine G_aload_n C 0 d_Net_addPlate_4 rfl rfl ?_
  refine Gg_Net_plates C wd_32 d_Net_addPlate_5 ?_
  refine G_iload_n C 1 d_Net_addPlate_8 rfl rfl ?_
  refine G_iastore C (k := 4) (by decide) (fun _ _ => rfl) hq.1 d_Net_addPlate_9 ?_
  replace hq := hq.2 _ rfl
  refine G_aload_n C 0 d_Net_addPlate_10 rfl rfl ?_
  refine Gg_Net_seconds C wd_43 d_Net_addPlate_11 ?_
  refine G_aload_n C 0 d_Net_addPlate_14 rfl rfl ?_
  refine Gg_Net_plates C wd_32 d_Net_addPlate_15 ?_
  refine G_iload_n C 2 d_Net_addPlate_18 rfl rfl ?_
  refine G_iastore C (k := 5) (by decide) (fun _ _ => rfl) hq.1 d_Net_addPlate_19 ?_
  replace hq := hq.2 _ rfl
  refine G_aload_n C 0 d_Net_addPlate_20 rfl rfl ?_
  refine Gg_Net_acrosses C wd_44 d_Net_addPlate_21 ?_
  refine G_aload_n C 0 d_Net_addPlate_24 rfl rfl ?_
  refine Gg_Net_plates C wd_32 d_Net_addPlate_25 ?_
  refine G_iload_n C 3 d_Net_addPlate_28 rfl rfl ?_
  refine G_iastore C (k := 6) (by decide) (fun _ _ => rfl) hq.1 d_Net_addPlate_29 ?_
  replace hq := hq.2 _ rfl
  refine G_aload_n C 0 d_Net_addPlate_30 rfl rfl ?_
  refine G_dup C d_Net_addPlate_31 rfl ?_
  refine Gg_Net_plates C wd_32 d_Net_addPlate_32 ?_
  refine G_dup_x1 C d_Net_addPlate_35 rfl rfl ?_
  refine G_iconst C (v := 1) d_Net_addPlate_36 (by decide) ?_
  refine G_iadd C d_Net_addPlate_37 ?_
  refine Gp_Net_plates C wd_32 d_Net_addPlate_38 ?_
  replace hq := hq _ rfl
  exact G_iret C R d_Net_addPlate_41 ⟨_, rfl, hq⟩
theorem d_Net_pointOf_0 : decode b_Net_pointOf 0 = .ok (.iload_n 1, 1) := by decide +kernel
theorem d_Net_pointOf_1 : decode b_Net_pointOf 1 = .ok (.iconst 1, 1) := by decide +kernel
theorem d_Net_pointOf_2 : decode b_Net_pointOf 2 = .ok (.if_icmp .ne 7, 3) := by decide +kernel
theorem d_Net_pointOf_5 : decode b_Net_pointOf 5 = .ok (.iload_n 2, 1) := by decide +kernel
theorem d_Net_pointOf_6 : decode b_Net_pointOf 6 = .ok (.goto 9, 3) := by decide +kernel
theorem d_Net_pointOf_9 : decode b_Net_pointOf 9 = .ok (.aload_n 0, 1) := by decide +kernel
theorem d_Net_pointOf_10 : decode b_Net_pointOf 10 = .ok (.getfield 18, 3) := by decide +kernel
theorem d_Net_pointOf_13 : decode b_Net_pointOf 13 = .ok (.iload_n 2, 1) := by decide +kernel
theorem d_Net_pointOf_14 : decode b_Net_pointOf 14 = .ok (.iaload, 1) := by decide +kernel
theorem d_Net_pointOf_15 : decode b_Net_pointOf 15 = .ok (.istore 4, 2) := by decide +kernel
theorem d_Net_pointOf_17 : decode b_Net_pointOf 17 = .ok (.iload_n 3, 1) := by decide +kernel
theorem d_Net_pointOf_18 : decode b_Net_pointOf 18 = .ok (.ifCond .ne 11, 3) := by decide +kernel
theorem d_Net_pointOf_21 : decode b_Net_pointOf 21 = .ok (.aload_n 0, 1) := by decide +kernel
theorem d_Net_pointOf_22 : decode b_Net_pointOf 22 = .ok (.getfield 9, 3) := by decide +kernel
theorem d_Net_pointOf_25 : decode b_Net_pointOf 25 = .ok (.iload 4, 2) := by decide +kernel
theorem d_Net_pointOf_27 : decode b_Net_pointOf 27 = .ok (.iaload, 1) := by decide +kernel
theorem d_Net_pointOf_28 : decode b_Net_pointOf 28 = .ok (.ireturn, 1) := by decide +kernel
theorem d_Net_pointOf_29 : decode b_Net_pointOf 29 = .ok (.iload_n 3, 1) := by decide +kernel
theorem d_Net_pointOf_30 : decode b_Net_pointOf 30 = .ok (.iconst 1, 1) := by decide +kernel
theorem d_Net_pointOf_31 : decode b_Net_pointOf 31 = .ok (.if_icmp .ne 13, 3) := by decide +kernel
theorem d_Net_pointOf_34 : decode b_Net_pointOf 34 = .ok (.aload_n 0, 1) := by decide +kernel
theorem d_Net_pointOf_35 : decode b_Net_pointOf 35 = .ok (.getfield 15, 3) := by decide +kernel
theorem d_Net_pointOf_38 : decode b_Net_pointOf 38 = .ok (.iload 4, 2) := by decide +kernel
theorem d_Net_pointOf_40 : decode b_Net_pointOf 40 = .ok (.iaload, 1) := by decide +kernel
theorem d_Net_pointOf_41 : decode b_Net_pointOf 41 = .ok (.goto 14, 3) := by decide +kernel
theorem d_Net_pointOf_44 : decode b_Net_pointOf 44 = .ok (.aload_n 0, 1) := by decide +kernel
theorem d_Net_pointOf_45 : decode b_Net_pointOf 45 = .ok (.getfield 15, 3) := by decide +kernel
theorem d_Net_pointOf_48 : decode b_Net_pointOf 48 = .ok (.aload_n 0, 1) := by decide +kernel
theorem d_Net_pointOf_49 : decode b_Net_pointOf 49 = .ok (.getfield 21, 3) := by decide +kernel
theorem d_Net_pointOf_52 : decode b_Net_pointOf 52 = .ok (.iload_n 2, 1) := by decide +kernel
theorem d_Net_pointOf_53 : decode b_Net_pointOf 53 = .ok (.iaload, 1) := by decide +kernel
theorem d_Net_pointOf_54 : decode b_Net_pointOf 54 = .ok (.iaload, 1) := by decide +kernel
theorem d_Net_pointOf_55 : decode b_Net_pointOf 55 = .ok (.ireturn, 1) := by decide +kernel
def q_Net_pointOf (a1 : Int32) (a2 : Int32) (a3 : Int32) (M : Mem) (post : Int32 → Mem → Prop) : Prop := (¬ a1 = (1 : Int32) → vp_in a2 10 ∧ ((¬ a3 = 0 → (¬ a3 = (1 : Int32) → vp_in a2 10 ∧ (vp_in (M.1 5 a2.toNatClampNeg) 12 ∧ (post (M.1 3 (M.1 5 a2.toNatClampNeg).toNatClampNeg) M))) ∧ (a3 = (1 : Int32) → vp_in (M.1 4 a2.toNatClampNeg) 12 ∧ (post (M.1 3 (M.1 4 a2.toNatClampNeg).toNatClampNeg) M))) ∧ (a3 = 0 → vp_in (M.1 4 a2.toNatClampNeg) 12 ∧ (post (M.1 2 (M.1 4 a2.toNatClampNeg).toNatClampNeg) M)))) ∧ (a1 = (1 : Int32) → (¬ a3 = 0 → (¬ a3 = (1 : Int32) → vp_in a2 10 ∧ (vp_in (M.1 5 a2.toNatClampNeg) 12 ∧ (post (M.1 3 (M.1 5 a2.toNatClampNeg).toNatClampNeg) M))) ∧ (a3 = (1 : Int32) → vp_in a2 12 ∧ (post (M.1 3 a2.toNatClampNeg) M))) ∧ (a3 = 0 → vp_in a2 12 ∧ (post (M.1 2 a2.toNatClampNeg) M)))
set_option maxHeartbeats 4000000 in
theorem s_Net_pointOf {l : Launch} {κ : Kp} {a1 : Int32} {a2 : Int32} {a3 : Int32} {M : Mem} {post : Int32 → Mem → Prop} (hq : q_Net_pointOf a1 a2 a3 M post) : Ct l κ y_Net_pointOf b_Net_pointOf 5 (some .int) 0 [.ref (κ.1 + 1), .int a1, .int a2, .int a3] M (pI post) := by
  refine Ct_of (by decide) (Nat.le_of_ble_eq_true rfl) (fun γ hγ C R => ?_)
  subst hγ
  unfold q_Net_pointOf at hq
  show G γ κ 5 (0, 0) (Gq γ κ (pI post)) 0 [(0, .ref (κ.1 + 1)), (1, .int a1), (2, .int a2), (3, .int a3)] [] M
  refine G_iload_n C 1 d_Net_pointOf_0 rfl rfl ?_
  refine G_iconst C (v := 1) d_Net_pointOf_1 (by decide) ?_
  refine G_icmp_ne C (tgt := 9) d_Net_pointOf_2 (by decide) (fun c => ?_) (fun c => ?_)
  · replace hq := hq.1 c
    refine G_aload_n C 0 d_Net_pointOf_9 rfl rfl ?_
    refine Gg_Net_firsts C wd_42 d_Net_pointOf_10 ?_
    refine G_iload_n C 2 d_Net_pointOf_13 rfl rfl ?_
    refine G_iaload C (k := 4) (by decide) (fun _ _ => rfl) hq.1 d_Net_pointOf_14 ?_
    replace hq := hq.2
    refine G_istore C (lv' := [(4, _), (0, _), (1, _), (2, _), (3, _)]) d_Net_pointOf_15 (by decide) rfl ?_
    refine G_iload_n C 4 d_Net_pointOf_17 rfl rfl ?_
    refine G_if_ne C (tgt := 29) d_Net_pointOf_18 (by decide) (fun c => ?_) (fun c => ?_)
    · replace hq := hq.1 c
      refine G_iload_n C 4 d_Net_pointOf_29 rfl rfl ?_
      refine G_iconst C (v := 1) d_Net_pointOf_30 (by decide) ?_
      refine G_icmp_ne C (tgt := 44) d_Net_pointOf_31 (by decide) (fun c => ?_) (fun c => ?_)
      · replace hq := hq.1 c
        refine G_aload_n C 1 d_Net_pointOf_44 rfl rfl ?_
        refine Gg_Net_ends C wd_38 d_Net_pointOf_45 ?_
        refine G_aload_n C 1 d_Net_pointOf_48 rfl rfl ?_
        refine Gg_Net_seconds C wd_43 d_Net_pointOf_49 ?_
        refine G_iload_n C 3 d_Net_pointOf_52 rfl rfl ?_
        refine G_iaload C (k := 5) (by decide) (fun _ _ => rfl) hq.1 d_Net_pointOf_53 ?_
        replace hq := hq.2
        refine G_iaload C (k := 3) (by decide) (fun _ _ => rfl) hq.1 d_Net_pointOf_54 ?_
        replace hq := hq.2
        exact G_iret C R d_Net_pointOf_55 ⟨_, rfl, hq⟩
      · replace hq := hq.2 c
        refine G_aload_n C 1 d_Net_pointOf_34 rfl rfl ?_
        refine Gg_Net_ends C wd_38 d_Net_pointOf_35 ?_
        refine G_iload C 0 d_Net_pointOf_38 rfl ?_
        refine G_iaload C (k := 3) (by decide) (fun _ _ => rfl) hq.1 d_Net_pointOf_40 ?_
        replace hq := hq.2
        refine G_goto C (tgt := 55) d_Net_pointOf_41 (by decide) ?_
        exact G_iret C R d_Net_pointOf_55 ⟨_, rfl, hq⟩
    · replace hq := hq.2 c
      refine G_aload_n C 1 d_Net_pointOf_21 rfl rfl ?_
      refine Gg_Net_begins C wd_34 d_Net_pointOf_22 ?_
      refine G_iload C 0 d_Net_pointOf_25 rfl ?_
      refine G_iaload C (k := 2) (by decide) (fun _ _ => rfl) hq.1 d_Net_pointOf_27 ?_
      replace hq := hq.2
      exact G_iret C R d_Net_pointOf_28 ⟨_, rfl, hq⟩
  · replace hq := hq.2 c
    refine G_iload_n C 2 d_Net_pointOf_5 rfl rfl ?_
    refine G_goto C (tgt := 15) d_Net_pointOf_6 (by decide) ?_
    refine G_istore C (lv' := [(4, _), (0, _), (1, _), (2, _), (3, _)]) d_Net_pointOf_15 (by decide) rfl ?_
    refine G_iload_n C 4 d_Net_pointOf_17 rfl rfl ?_
    refine G_if_ne C (tgt := 29) d_Net_pointOf_18 (by decide) (fun c => ?_) (fun c => ?_)
    · replace hq := hq.1 c
      refine G_iload_n C 4 d_Net_pointOf_29 rfl rfl ?_
      refine G_iconst C (v := 1) d_Net_pointOf_30 (by decide) ?_
      refine G_icmp_ne C (tgt := 44) d_Net_pointOf_31 (by decide) (fun c => ?_) (fun c => ?_)
      · replace hq := hq.1 c
        refine G_aload_n C 1 d_Net_pointOf_44 rfl rfl ?_
        refine Gg_Net_ends C wd_38 d_Net_pointOf_45 ?_
        refine G_aload_n C 1 d_Net_pointOf_48 rfl rfl ?_
        refine Gg_Net_seconds C wd_43 d_Net_pointOf_49 ?_
        refine G_iload_n C 3 d_Net_pointOf_52 rfl rfl ?_
        refine G_iaload C (k := 5) (by decide) (fun _ _ => rfl) hq.1 d_Net_pointOf_53 ?_
        replace hq := hq.2
        refine G_iaload C (k := 3) (by decide) (fun _ _ => rfl) hq.1 d_Net_pointOf_54 ?_
        replace hq := hq.2
        exact G_iret C R d_Net_pointOf_55 ⟨_, rfl, hq⟩
      · replace hq := hq.2 c
        refine G_aload_n C 1 d_Net_pointOf_34 rfl rfl ?_
        refine Gg_Net_ends C wd_38 d_Net_pointOf_35 ?_
        refine G_iload C 0 d_Net_pointOf_38 rfl ?_
        refine G_iaload C (k := 3) (by decide) (fun _ _ => rfl) hq.1 d_Net_pointOf_40 ?_
        replace hq := hq.2
        refine G_goto C (tgt := 55) d_Net_pointOf_41 (by decide) ?_
        exact G_iret C R d_Net_pointOf_55 ⟨_, rfl, hq⟩
    · replace hq := hq.2 c
      refine G_aload_n C 1 d_Net_pointOf_21 rfl rfl ?_
      refine Gg_Net_begins C wd_34 d_Net_pointOf_22 ?_
      refine G_iload C 0 d_Net_pointOf_25 rfl ?_
      refine G_iaload C (k := 2) (by decide) (fun _ _ => rfl) hq.1 d_Net_pointOf_27 ?_
      replace hq := hq.2
      exact G_iret C R d_Net_pointOf_28 ⟨_, rfl, hq⟩
theorem d_Nf_formAt_0 : decode b_Nf_formAt 0 = .ok (.iload_n 1, 1) := by decide +kernel
theorem d_Nf_formAt_1 : decode b_Nf_formAt 1 = .ok (.ifCond .lt 9, 3) := by decide +kernel
theorem d_Nf_formAt_4 : decode b_Nf_formAt 4 = .ok (.iload_n 1, 1) := by decide +kernel
theorem d_Nf_formAt_5 : decode b_Nf_formAt 5 = .ok (.bipush 12, 2) := by decide +kernel
theorem d_Nf_formAt_7 : decode b_Nf_formAt 7 = .ok (.if_icmp .lt 7, 3) := by decide +kernel
theorem d_Nf_formAt_10 : decode b_Nf_formAt 10 = .ok (.aconst_null, 1) := by decide +kernel
theorem d_Nf_formAt_11 : decode b_Nf_formAt 11 = .ok (.goto 9, 3) := by decide +kernel
theorem d_Nf_formAt_14 : decode b_Nf_formAt 14 = .ok (.aload_n 0, 1) := by decide +kernel
theorem d_Nf_formAt_15 : decode b_Nf_formAt 15 = .ok (.getfield 18, 3) := by decide +kernel
theorem d_Nf_formAt_18 : decode b_Nf_formAt 18 = .ok (.iload_n 1, 1) := by decide +kernel
theorem d_Nf_formAt_19 : decode b_Nf_formAt 19 = .ok (.aaload, 1) := by decide +kernel
theorem d_Nf_formAt_20 : decode b_Nf_formAt 20 = .ok (.areturn, 1) := by decide +kernel
def q_Nf_formAt (a1 : Int32) (M : Mem) (post : Option Nat → Mem → Prop) : Prop := (a1 < 0 → post none M) ∧ (¬ a1 < 0 → (a1 < (12 : Int32) → vp_in a1 12 ∧ (post (some a1.toNatClampNeg) M)) ∧ (¬ a1 < (12 : Int32) → post none M))
set_option maxHeartbeats 4000000 in
theorem s_Nf_formAt {l : Launch} {κ : Kp} {a1 : Int32} {M : Mem} {post : Option Nat → Mem → Prop} (hq : q_Nf_formAt a1 M post) : Ct l κ y_Nf_formAt b_Nf_formAt 2 (some (.object "NetForms$Form")) 0 [.ref (κ.1 + 0), .int a1] M (pF κ post) := by
  refine Ct_of (by decide) (Nat.le_of_ble_eq_true rfl) (fun γ hγ C R => ?_)
  subst hγ
  unfold q_Nf_formAt at hq
  show G γ κ 2 (0, 0) (Gq γ κ (pF κ post)) 0 [(0, .ref (κ.1 + 0)), (1, .int a1)] [] M
  refine G_iload_n C 1 d_Nf_formAt_0 rfl rfl ?_
  refine G_if_lt C (tgt := 10) d_Nf_formAt_1 (by decide) (fun c => ?_) (fun c => ?_)
  · replace hq := hq.1 c
    refine G_null C d_Nf_formAt_10 ?_
    refine G_goto C (tgt := 20) d_Nf_formAt_11 (by decide) ?_
    exact G_aret C R (r := none) d_Nf_formAt_20 ⟨_, rfl, hq⟩
  · replace hq := hq.2 c
    refine G_iload_n C 1 d_Nf_formAt_4 rfl rfl ?_
    refine G_bipush C (v := 12) d_Nf_formAt_5 (by decide) ?_
    refine G_icmp_lt C (tgt := 14) d_Nf_formAt_7 (by decide) (fun c => ?_) (fun c => ?_)
    · replace hq := hq.1 c
      refine G_aload_n C 0 d_Nf_formAt_14 rfl rfl ?_
      refine Gg_Nf_forms C wd_164 d_Nf_formAt_15 ?_
      refine G_iload_n C 1 d_Nf_formAt_18 rfl rfl ?_
      have hr1 := hq.1
      replace hq := hq.2
      refine G_aaF C hr1 d_Nf_formAt_19 ?_
      exact G_aret C R (r := (some _)) d_Nf_formAt_20 ⟨_, rfl, hq⟩
    · replace hq := hq.2 c
      refine G_null C d_Nf_formAt_10 ?_
      refine G_goto C (tgt := 20) d_Nf_formAt_11 (by decide) ?_
      exact G_aret C R (r := none) d_Nf_formAt_20 ⟨_, rfl, hq⟩
theorem d_Nf_isWithin_0 : decode b_Nf_isWithin 0 = .ok (.lload_n 0, 1) := by decide +kernel
theorem d_Nf_isWithin_1 : decode b_Nf_isWithin 1 = .ok (.iload_n 2, 1) := by decide +kernel
theorem d_Nf_isWithin_2 : decode b_Nf_isWithin 2 = .ok (.ineg, 1) := by decide +kernel
theorem d_Nf_isWithin_3 : decode b_Nf_isWithin 3 = .ok (.i2l, 1) := by decide +kernel
theorem d_Nf_isWithin_4 : decode b_Nf_isWithin 4 = .ok (.lcmp, 1) := by decide +kernel
theorem d_Nf_isWithin_5 : decode b_Nf_isWithin 5 = .ok (.ifCond .lt 14, 3) := by decide +kernel
theorem d_Nf_isWithin_8 : decode b_Nf_isWithin 8 = .ok (.lload_n 0, 1) := by decide +kernel
theorem d_Nf_isWithin_9 : decode b_Nf_isWithin 9 = .ok (.iload_n 2, 1) := by decide +kernel
theorem d_Nf_isWithin_10 : decode b_Nf_isWithin 10 = .ok (.i2l, 1) := by decide +kernel
theorem d_Nf_isWithin_11 : decode b_Nf_isWithin 11 = .ok (.lcmp, 1) := by decide +kernel
theorem d_Nf_isWithin_12 : decode b_Nf_isWithin 12 = .ok (.ifCond .gt 7, 3) := by decide +kernel
theorem d_Nf_isWithin_15 : decode b_Nf_isWithin 15 = .ok (.iconst 1, 1) := by decide +kernel
theorem d_Nf_isWithin_16 : decode b_Nf_isWithin 16 = .ok (.goto 4, 3) := by decide +kernel
theorem d_Nf_isWithin_19 : decode b_Nf_isWithin 19 = .ok (.iconst 0, 1) := by decide +kernel
theorem d_Nf_isWithin_20 : decode b_Nf_isWithin 20 = .ok (.ireturn, 1) := by decide +kernel
def q_Nf_isWithin (a0 : Int64) (a2 : Int32) (M : Mem) (post : Int32 → Mem → Prop) : Prop := (a0 < ((-a2).toInt64) → post (0 : Int32) M) ∧ (¬ a0 < ((-a2).toInt64) → (a2.toInt64 < a0 → post (0 : Int32) M) ∧ (¬ a2.toInt64 < a0 → post (1 : Int32) M))
set_option maxHeartbeats 4000000 in
theorem s_Nf_isWithin {l : Launch} {κ : Kp} {a0 : Int64} {a2 : Int32} {M : Mem} {post : Int32 → Mem → Prop} (hq : q_Nf_isWithin a0 a2 M post) : Ct l κ y_Nf_isWithin b_Nf_isWithin 3 (some .boolean) 0 [.long a0, .int a2] M (pI post) := by
  refine Ct_of (by decide) (Nat.le_of_ble_eq_true rfl) (fun γ hγ C R => ?_)
  subst hγ
  unfold q_Nf_isWithin at hq
  show G γ κ 3 (0, 0) (Gq γ κ (pI post)) 0 [(0, .long a0), (2, .int a2)] [] M
  refine G_lload_n C 0 d_Nf_isWithin_0 rfl rfl ?_
  refine G_iload_n C 1 d_Nf_isWithin_1 rfl rfl ?_
  refine G_ineg C d_Nf_isWithin_2 ?_
  refine G_i2l C d_Nf_isWithin_3 ?_
  refine G_lcmp_lt C (tgt := 19) (pc1 := 5) d_Nf_isWithin_4 rfl d_Nf_isWithin_5 (by decide) (fun c => ?_) (fun c => ?_)
  · replace hq := hq.1 c
    refine G_iconst C (v := 0) d_Nf_isWithin_19 (by decide) ?_
    exact G_zret C R rfl d_Nf_isWithin_20 ⟨_, rfl, hq⟩
  · replace hq := hq.2 c
    refine G_lload_n C 0 d_Nf_isWithin_8 rfl rfl ?_
    refine G_iload_n C 1 d_Nf_isWithin_9 rfl rfl ?_
    refine G_i2l C d_Nf_isWithin_10 ?_
    refine G_lcmp_gt C (tgt := 19) (pc1 := 12) d_Nf_isWithin_11 rfl d_Nf_isWithin_12 (by decide) (fun c => ?_) (fun c => ?_)
    · replace hq := hq.1 c
      refine G_iconst C (v := 0) d_Nf_isWithin_19 (by decide) ?_
      exact G_zret C R rfl d_Nf_isWithin_20 ⟨_, rfl, hq⟩
    · replace hq := hq.2 c
      refine G_iconst C (v := 1) d_Nf_isWithin_15 (by decide) ?_
      refine G_goto C (tgt := 20) d_Nf_isWithin_16 (by decide) ?_
      exact G_zret C R rfl d_Nf_isWithin_20 ⟨_, rfl, hq⟩
theorem d_Net_signOf_0 : decode b_Net_signOf 0 = .ok (.iload_n 1, 1) := by decide +kernel
theorem d_Net_signOf_1 : decode b_Net_signOf 1 = .ok (.iconst 1, 1) := by decide +kernel
theorem d_Net_signOf_2 : decode b_Net_signOf 2 = .ok (.if_icmp .ne 33, 3) := by decide +kernel
theorem d_Net_signOf_5 : decode b_Net_signOf 5 = .ok (.aload_n 0, 1) := by decide +kernel
theorem d_Net_signOf_6 : decode b_Net_signOf 6 = .ok (.getfield 15, 3) := by decide +kernel
theorem d_Net_signOf_9 : decode b_Net_signOf 9 = .ok (.iload_n 2, 1) := by decide +kernel
theorem d_Net_signOf_10 : decode b_Net_signOf 10 = .ok (.iaload, 1) := by decide +kernel
theorem d_Net_signOf_11 : decode b_Net_signOf 11 = .ok (.iload_n 3, 1) := by decide +kernel
theorem d_Net_signOf_12 : decode b_Net_signOf 12 = .ok (.if_icmp .ne 7, 3) := by decide +kernel
theorem d_Net_signOf_15 : decode b_Net_signOf 15 = .ok (.iconst 1, 1) := by decide +kernel
theorem d_Net_signOf_16 : decode b_Net_signOf 16 = .ok (.goto 18, 3) := by decide +kernel
theorem d_Net_signOf_19 : decode b_Net_signOf 19 = .ok (.aload_n 0, 1) := by decide +kernel
theorem d_Net_signOf_20 : decode b_Net_signOf 20 = .ok (.getfield 9, 3) := by decide +kernel
theorem d_Net_signOf_23 : decode b_Net_signOf 23 = .ok (.iload_n 2, 1) := by decide +kernel
theorem d_Net_signOf_24 : decode b_Net_signOf 24 = .ok (.iaload, 1) := by decide +kernel
theorem d_Net_signOf_25 : decode b_Net_signOf 25 = .ok (.iload_n 3, 1) := by decide +kernel
theorem d_Net_signOf_26 : decode b_Net_signOf 26 = .ok (.if_icmp .ne 7, 3) := by decide +kernel
theorem d_Net_signOf_29 : decode b_Net_signOf 29 = .ok (.iconst (-1), 1) := by decide +kernel
theorem d_Net_signOf_30 : decode b_Net_signOf 30 = .ok (.goto 4, 3) := by decide +kernel
theorem d_Net_signOf_33 : decode b_Net_signOf 33 = .ok (.iconst 0, 1) := by decide +kernel
theorem d_Net_signOf_34 : decode b_Net_signOf 34 = .ok (.ireturn, 1) := by decide +kernel
theorem d_Net_signOf_35 : decode b_Net_signOf 35 = .ok (.aload_n 0, 1) := by decide +kernel
theorem d_Net_signOf_36 : decode b_Net_signOf 36 = .ok (.getfield 18, 3) := by decide +kernel
theorem d_Net_signOf_39 : decode b_Net_signOf 39 = .ok (.iload_n 2, 1) := by decide +kernel
theorem d_Net_signOf_40 : decode b_Net_signOf 40 = .ok (.iaload, 1) := by decide +kernel
theorem d_Net_signOf_41 : decode b_Net_signOf 41 = .ok (.iload_n 3, 1) := by decide +kernel
theorem d_Net_signOf_42 : decode b_Net_signOf 42 = .ok (.if_icmp .eq 13, 3) := by decide +kernel
theorem d_Net_signOf_45 : decode b_Net_signOf 45 = .ok (.aload_n 0, 1) := by decide +kernel
theorem d_Net_signOf_46 : decode b_Net_signOf 46 = .ok (.getfield 21, 3) := by decide +kernel
theorem d_Net_signOf_49 : decode b_Net_signOf 49 = .ok (.iload_n 2, 1) := by decide +kernel
theorem d_Net_signOf_50 : decode b_Net_signOf 50 = .ok (.iaload, 1) := by decide +kernel
theorem d_Net_signOf_51 : decode b_Net_signOf 51 = .ok (.iload_n 3, 1) := by decide +kernel
theorem d_Net_signOf_52 : decode b_Net_signOf 52 = .ok (.if_icmp .ne 5, 3) := by decide +kernel
theorem d_Net_signOf_55 : decode b_Net_signOf 55 = .ok (.iconst 1, 1) := by decide +kernel
theorem d_Net_signOf_56 : decode b_Net_signOf 56 = .ok (.ireturn, 1) := by decide +kernel
theorem d_Net_signOf_57 : decode b_Net_signOf 57 = .ok (.aload_n 0, 1) := by decide +kernel
theorem d_Net_signOf_58 : decode b_Net_signOf 58 = .ok (.getfield 24, 3) := by decide +kernel
theorem d_Net_signOf_61 : decode b_Net_signOf 61 = .ok (.iload_n 2, 1) := by decide +kernel
theorem d_Net_signOf_62 : decode b_Net_signOf 62 = .ok (.iaload, 1) := by decide +kernel
theorem d_Net_signOf_63 : decode b_Net_signOf 63 = .ok (.iload_n 3, 1) := by decide +kernel
theorem d_Net_signOf_64 : decode b_Net_signOf 64 = .ok (.if_icmp .ne 7, 3) := by decide +kernel
theorem d_Net_signOf_67 : decode b_Net_signOf 67 = .ok (.iconst (-1), 1) := by decide +kernel
theorem d_Net_signOf_68 : decode b_Net_signOf 68 = .ok (.goto 4, 3) := by decide +kernel
theorem d_Net_signOf_71 : decode b_Net_signOf 71 = .ok (.iconst 0, 1) := by decide +kernel
theorem d_Net_signOf_72 : decode b_Net_signOf 72 = .ok (.ireturn, 1) := by decide +kernel
def q_Net_signOf (a1 : Int32) (a2 : Int32) (a3 : Int32) (M : Mem) (post : Int32 → Mem → Prop) : Prop := (¬ a1 = (1 : Int32) → vp_in a2 10 ∧ (((M.1 4 a2.toNatClampNeg) = a3 → post (1 : Int32) M) ∧ (¬ (M.1 4 a2.toNatClampNeg) = a3 → vp_in a2 10 ∧ ((¬ (M.1 5 a2.toNatClampNeg) = a3 → vp_in a2 10 ∧ ((¬ (M.1 6 a2.toNatClampNeg) = a3 → post (0 : Int32) M) ∧ ((M.1 6 a2.toNatClampNeg) = a3 → post (-1 : Int32) M))) ∧ ((M.1 5 a2.toNatClampNeg) = a3 → post (1 : Int32) M))))) ∧ (a1 = (1 : Int32) → vp_in a2 12 ∧ ((¬ (M.1 3 a2.toNatClampNeg) = a3 → vp_in a2 12 ∧ ((¬ (M.1 2 a2.toNatClampNeg) = a3 → post (0 : Int32) M) ∧ ((M.1 2 a2.toNatClampNeg) = a3 → post (-1 : Int32) M))) ∧ ((M.1 3 a2.toNatClampNeg) = a3 → post (1 : Int32) M)))
set_option maxHeartbeats 4000000 in
theorem s_Net_signOf {l : Launch} {κ : Kp} {a1 : Int32} {a2 : Int32} {a3 : Int32} {M : Mem} {post : Int32 → Mem → Prop} (hq : q_Net_signOf a1 a2 a3 M post) : Ct l κ y_Net_signOf b_Net_signOf 4 (some .int) 0 [.ref (κ.1 + 1), .int a1, .int a2, .int a3] M (pI post) := by
  refine Ct_of (by decide) (Nat.le_of_ble_eq_true rfl) (fun γ hγ C R => ?_)
  subst hγ
  unfold q_Net_signOf at hq
  show G γ κ 4 (0, 0) (Gq γ κ (pI post)) 0 [(0, .ref (κ.1 + 1)), (1, .int a1), (2, .int a2), (3, .int a3)] [] M
  refine G_iload_n C 1 d_Net_signOf_0 rfl rfl ?_
  refine G_iconst C (v := 1) d_Net_signOf_1 (by decide) ?_
  refine G_icmp_ne C (tgt := 35) d_Net_signOf_2 (by decide) (fun c => ?_) (fun c => ?_)
  · replace hq := hq.1 c
    refine G_aload_n C 0 d_Net_signOf_35 rfl rfl ?_
    refine Gg_Net_firsts C wd_42 d_Net_signOf_36 ?_
    refine G_iload_n C 2 d_Net_signOf_39 rfl rfl ?_
    refine G_iaload C (k := 4) (by decide) (fun _ _ => rfl) hq.1 d_Net_signOf_40 ?_
    replace hq := hq.2
    refine G_iload_n C 3 d_Net_signOf_41 rfl rfl ?_
    refine G_icmp_eq C (tgt := 55) d_Net_signOf_42 (by decide) (fun c => ?_) (fun c => ?_)
    · replace hq := hq.1 c
      refine G_iconst C (v := 1) d_Net_signOf_55 (by decide) ?_
      exact G_iret C R d_Net_signOf_56 ⟨_, rfl, hq⟩
    · replace hq := hq.2 c
      refine G_aload_n C 0 d_Net_signOf_45 rfl rfl ?_
      refine Gg_Net_seconds C wd_43 d_Net_signOf_46 ?_
      refine G_iload_n C 2 d_Net_signOf_49 rfl rfl ?_
      refine G_iaload C (k := 5) (by decide) (fun _ _ => rfl) hq.1 d_Net_signOf_50 ?_
      replace hq := hq.2
      refine G_iload_n C 3 d_Net_signOf_51 rfl rfl ?_
      refine G_icmp_ne C (tgt := 57) d_Net_signOf_52 (by decide) (fun c => ?_) (fun c => ?_)
      · replace hq := hq.1 c
        refine G_aload_n C 0 d_Net_signOf_57 rfl rfl ?_
        refine Gg_Net_acrosses C wd_44 d_Net_signOf_58 ?_
        refine G_iload_n C 2 d_Net_signOf_61 rfl rfl ?_
        refine G_iaload C (k := 6) (by decide) (fun _ _ => rfl) hq.1 d_Net_signOf_62 ?_
        replace hq := hq.2
        refine G_iload_n C 3 d_Net_signOf_63 rfl rfl ?_
        refine G_icmp_ne C (tgt := 71) d_Net_signOf_64 (by decide) (fun c => ?_) (fun c => ?_)
        · replace hq := hq.1 c
          refine G_iconst C (v := 0) d_Net_signOf_71 (by decide) ?_
          exact G_iret C R d_Net_signOf_72 ⟨_, rfl, hq⟩
        · replace hq := hq.2 c
          refine G_iconst C (v := -1) d_Net_signOf_67 (by decide) ?_
          refine G_goto C (tgt := 72) d_Net_signOf_68 (by decide) ?_
          exact G_iret C R d_Net_signOf_72 ⟨_, rfl, hq⟩
      · replace hq := hq.2 c
        refine G_iconst C (v := 1) d_Net_signOf_55 (by decide) ?_
        exact G_iret C R d_Net_signOf_56 ⟨_, rfl, hq⟩
  · replace hq := hq.2 c
    refine G_aload_n C 0 d_Net_signOf_5 rfl rfl ?_
    refine Gg_Net_ends C wd_38 d_Net_signOf_6 ?_
    refine G_iload_n C 2 d_Net_signOf_9 rfl rfl ?_
    refine G_iaload C (k := 3) (by decide) (fun _ _ => rfl) hq.1 d_Net_signOf_10 ?_
    replace hq := hq.2
    refine G_iload_n C 3 d_Net_signOf_11 rfl rfl ?_
    refine G_icmp_ne C (tgt := 19) d_Net_signOf_12 (by decide) (fun c => ?_) (fun c => ?_)
    · replace hq := hq.1 c
      refine G_aload_n C 0 d_Net_signOf_19 rfl rfl ?_
      refine Gg_Net_begins C wd_34 d_Net_signOf_20 ?_
      refine G_iload_n C 2 d_Net_signOf_23 rfl rfl ?_
      refine G_iaload C (k := 2) (by decide) (fun _ _ => rfl) hq.1 d_Net_signOf_24 ?_
      replace hq := hq.2
      refine G_iload_n C 3 d_Net_signOf_25 rfl rfl ?_
      refine G_icmp_ne C (tgt := 33) d_Net_signOf_26 (by decide) (fun c => ?_) (fun c => ?_)
      · replace hq := hq.1 c
        refine G_iconst C (v := 0) d_Net_signOf_33 (by decide) ?_
        exact G_iret C R d_Net_signOf_34 ⟨_, rfl, hq⟩
      · replace hq := hq.2 c
        refine G_iconst C (v := -1) d_Net_signOf_29 (by decide) ?_
        refine G_goto C (tgt := 34) d_Net_signOf_30 (by decide) ?_
        exact G_iret C R d_Net_signOf_34 ⟨_, rfl, hq⟩
    · replace hq := hq.2 c
      refine G_iconst C (v := 1) d_Net_signOf_15 (by decide) ?_
      refine G_goto C (tgt := 34) d_Net_signOf_16 (by decide) ?_
      exact G_iret C R d_Net_signOf_34 ⟨_, rfl, hq⟩
theorem d_Nf_isMadeZero_0 : decode b_Nf_isMadeZero 0 = .ok (.iconst 0, 1) := by decide +kernel
theorem d_Nf_isMadeZero_1 : decode b_Nf_isMadeZero 1 = .ok (.istore_n 2, 1) := by decide +kernel
theorem d_Nf_isMadeZero_2 : decode b_Nf_isMadeZero 2 = .ok (.iload_n 2, 1) := by decide +kernel
theorem d_Nf_isMadeZero_3 : decode b_Nf_isMadeZero 3 = .ok (.iload_n 1, 1) := by decide +kernel
theorem d_Nf_isMadeZero_4 : decode b_Nf_isMadeZero 4 = .ok (.if_icmp .ge 22, 3) := by decide +kernel
theorem d_Nf_isMadeZero_7 : decode b_Nf_isMadeZero 7 = .ok (.aload_n 0, 1) := by decide +kernel
theorem d_Nf_isMadeZero_8 : decode b_Nf_isMadeZero 8 = .ok (.getfield 50, 3) := by decide +kernel
theorem d_Nf_isMadeZero_11 : decode b_Nf_isMadeZero 11 = .ok (.iload_n 2, 1) := by decide +kernel
theorem d_Nf_isMadeZero_12 : decode b_Nf_isMadeZero 12 = .ok (.laload, 1) := by decide +kernel
theorem d_Nf_isMadeZero_13 : decode b_Nf_isMadeZero 13 = .ok (.lconst 0, 1) := by decide +kernel
theorem d_Nf_isMadeZero_14 : decode b_Nf_isMadeZero 14 = .ok (.lcmp, 1) := by decide +kernel
theorem d_Nf_isMadeZero_15 : decode b_Nf_isMadeZero 15 = .ok (.ifCond .eq 5, 3) := by decide +kernel
theorem d_Nf_isMadeZero_18 : decode b_Nf_isMadeZero 18 = .ok (.iconst 0, 1) := by decide +kernel
theorem d_Nf_isMadeZero_19 : decode b_Nf_isMadeZero 19 = .ok (.ireturn, 1) := by decide +kernel
theorem d_Nf_isMadeZero_20 : decode b_Nf_isMadeZero 20 = .ok (.iinc 2 1, 3) := by decide +kernel
theorem d_Nf_isMadeZero_23 : decode b_Nf_isMadeZero 23 = .ok (.goto (-21), 3) := by decide +kernel
theorem d_Nf_isMadeZero_26 : decode b_Nf_isMadeZero 26 = .ok (.iconst 1, 1) := by decide +kernel
theorem d_Nf_isMadeZero_27 : decode b_Nf_isMadeZero 27 = .ok (.ireturn, 1) := by decide +kernel
def q_Nf_isMadeZero_L2 (kx18 : Mem → Prop) (kx26 : Mem → Prop) (post : Int32 → Mem → Prop) : Nat → Int32 → Int32 → Mem → Prop
  | 0, _, _, _ => False
  | n + 1, x1, x2, M => (x1 ≤ x2 → kx26 M) ∧ (¬ x1 ≤ x2 → vp_in x2 12 ∧ (((M.2 31 x2.toNatClampNeg) = (0 : Int64) → q_Nf_isMadeZero_L2 kx18 kx26 post n x1 (x2 + 1) M) ∧ (¬ (M.2 31 x2.toNatClampNeg) = (0 : Int64) → kx18 M)))
set_option maxHeartbeats 4000000 in
theorem s_Nf_isMadeZero_L2 {γ : Gm} {κ : Kp} {post : Int32 → Mem → Prop} {kx18 : Mem → Prop} {kx26 : Mem → Prop} (C : Cx γ κ "NetForms" b_Nf_isMadeZero 3 0 (0, 0)) (R : Rt γ (some .boolean)) (hx18 : ∀ M', kx18 M' → G γ κ 3 (0, 0) (Gq γ κ (pI post)) 18 [] [] M') (hx26 : ∀ M', kx26 M' → G γ κ 3 (0, 0) (Gq γ κ (pI post)) 26 [] [] M') : ∀ (n : Nat) (x1 : Int32) (x2 : Int32) (M : Mem), q_Nf_isMadeZero_L2 kx18 kx26 post n x1 x2 M → G γ κ 3 (0, 0) (Gq γ κ (pI post)) 2 [(0, .ref (κ.1 + 0)), (1, .int x1), (2, .int x2)] [] M := by
  intro n
  induction n with
  | zero => intro x1 x2 M hq; exact hq.elim
  | succ n ih =>
    intro x1 x2 M hq
    unfold q_Nf_isMadeZero_L2 at hq
    refine G_iload_n C 2 d_Nf_isMadeZero_2 rfl rfl ?_
    refine G_iload_n C 1 d_Nf_isMadeZero_3 rfl rfl ?_
    refine G_icmp_ge C (tgt := 26) d_Nf_isMadeZero_4 (by decide) (fun c => ?_) (fun c => ?_)
    · replace hq := hq.1 c
      exact G_sub [] (by rfl) (hx26 _ hq)
    · replace hq := hq.2 c
      refine G_aload_n C 0 d_Nf_isMadeZero_7 rfl rfl ?_
      refine Gg_Nf_made C wd_169 d_Nf_isMadeZero_8 ?_
      refine G_iload_n C 2 d_Nf_isMadeZero_11 rfl rfl ?_
      refine G_laload C (k := 31) (by decide) (fun _ _ => rfl) hq.1 d_Nf_isMadeZero_12 ?_
      replace hq := hq.2
      refine G_lconst C (v := 0) d_Nf_isMadeZero_13 (by decide) ?_
      refine G_lcmp_eq C (tgt := 20) (pc1 := 15) d_Nf_isMadeZero_14 rfl d_Nf_isMadeZero_15 (by decide) (fun c => ?_) (fun c => ?_)
      · replace hq := hq.1 c
        refine G_iinc C (v := _ + 1) (lv' := [(2, _), (0, _), (1, _)]) 2 d_Nf_isMadeZero_20 rfl rfl (by decide) rfl ?_
        refine G_goto C (tgt := 2) d_Nf_isMadeZero_23 (by decide) ?_
        exact G_sub [1, 2, 0] (by rfl) (ih _ _ _ hq)
      · replace hq := hq.2 c
        exact G_sub [] (by rfl) (hx18 _ hq)
def q_Nf_isMadeZero (a1 : Int32) (M : Mem) (post : Int32 → Mem → Prop) : Prop := ∃ n1, q_Nf_isMadeZero_L2 (fun M2 => post (0 : Int32) M2) (fun M3 => post (1 : Int32) M3) post n1 a1 (0 : Int32) M
set_option maxHeartbeats 4000000 in
theorem s_Nf_isMadeZero {l : Launch} {κ : Kp} {a1 : Int32} {M : Mem} {post : Int32 → Mem → Prop} (hq : q_Nf_isMadeZero a1 M post) : Ct l κ y_Nf_isMadeZero b_Nf_isMadeZero 3 (some .boolean) 0 [.ref (κ.1 + 0), .int a1] M (pI post) := by
  refine Ct_of (by decide) (Nat.le_of_ble_eq_true rfl) (fun γ hγ C R => ?_)
  subst hγ
  unfold q_Nf_isMadeZero at hq
  show G γ κ 3 (0, 0) (Gq γ κ (pI post)) 0 [(0, .ref (κ.1 + 0)), (1, .int a1)] [] M
  refine G_iconst C (v := 0) d_Nf_isMadeZero_0 (by decide) ?_
  refine G_istore_n C (lv' := [(2, _), (0, _), (1, _)]) d_Nf_isMadeZero_1 rfl (by decide) rfl ?_
  obtain ⟨n1, hq⟩ := hq
  refine G_sub [1, 2, 0] (by rfl) (s_Nf_isMadeZero_L2 C R ?_ ?_ n1 _ _ _ hq)
  · intro M2 hq
    refine G_iconst C (v := 0) d_Nf_isMadeZero_18 (by decide) ?_
    exact G_zret C R rfl d_Nf_isMadeZero_19 ⟨_, rfl, hq⟩
  · intro M3 hq
    refine G_iconst C (v := 1) d_Nf_isMadeZero_26 (by decide) ?_
    exact G_zret C R rfl d_Nf_isMadeZero_27 ⟨_, rfl, hq⟩
theorem d_Net_countParts_0 : decode b_Net_countParts 0 = .ok (.iconst 0, 1) := by decide +kernel
theorem d_Net_countParts_1 : decode b_Net_countParts 1 = .ok (.istore_n 1, 1) := by decide +kernel
theorem d_Net_countParts_2 : decode b_Net_countParts 2 = .ok (.iconst 0, 1) := by decide +kernel
theorem d_Net_countParts_3 : decode b_Net_countParts 3 = .ok (.istore_n 2, 1) := by decide +kernel
theorem d_Net_countParts_4 : decode b_Net_countParts 4 = .ok (.iload_n 2, 1) := by decide +kernel
theorem d_Net_countParts_5 : decode b_Net_countParts 5 = .ok (.aload_n 0, 1) := by decide +kernel
theorem d_Net_countParts_6 : decode b_Net_countParts 6 = .ok (.getfield 30, 3) := by decide +kernel
theorem d_Net_countParts_9 : decode b_Net_countParts 9 = .ok (.if_icmp .ge 22, 3) := by decide +kernel
theorem d_Net_countParts_12 : decode b_Net_countParts 12 = .ok (.aload_n 0, 1) := by decide +kernel
theorem d_Net_countParts_13 : decode b_Net_countParts 13 = .ok (.getfield 27, 3) := by decide +kernel
theorem d_Net_countParts_16 : decode b_Net_countParts 16 = .ok (.iload_n 2, 1) := by decide +kernel
theorem d_Net_countParts_17 : decode b_Net_countParts 17 = .ok (.iaload, 1) := by decide +kernel
theorem d_Net_countParts_18 : decode b_Net_countParts 18 = .ok (.iload_n 2, 1) := by decide +kernel
theorem d_Net_countParts_19 : decode b_Net_countParts 19 = .ok (.if_icmp .ne 6, 3) := by decide +kernel
theorem d_Net_countParts_22 : decode b_Net_countParts 22 = .ok (.iinc 1 1, 3) := by decide +kernel
theorem d_Net_countParts_25 : decode b_Net_countParts 25 = .ok (.iinc 2 1, 3) := by decide +kernel
theorem d_Net_countParts_28 : decode b_Net_countParts 28 = .ok (.goto (-24), 3) := by decide +kernel
theorem d_Net_countParts_31 : decode b_Net_countParts 31 = .ok (.iload_n 1, 1) := by decide +kernel
theorem d_Net_countParts_32 : decode b_Net_countParts 32 = .ok (.ireturn, 1) := by decide +kernel
def q_Net_countParts_L4 (kx31 : Int32 → Mem → Prop) (post : Int32 → Mem → Prop) : Nat → Int32 → Int32 → Mem → Prop
  | 0, _, _, _ => False
  | n + 1, x1, x2, M => ((M.1 1 0) ≤ x2 → kx31 x1 M) ∧ (¬ (M.1 1 0) ≤ x2 → vp_in x2 6 ∧ ((¬ (M.1 7 x2.toNatClampNeg) = x2 → q_Net_countParts_L4 kx31 post n x1 (x2 + 1) M) ∧ ((M.1 7 x2.toNatClampNeg) = x2 → q_Net_countParts_L4 kx31 post n (x1 + 1) (x2 + 1) M)))
set_option maxHeartbeats 4000000 in
theorem s_Net_countParts_L4 {γ : Gm} {κ : Kp} {post : Int32 → Mem → Prop} {kx31 : Int32 → Mem → Prop} (C : Cx γ κ "NetForms$Net" b_Net_countParts 3 0 (0, 0)) (R : Rt γ (some .int)) (hx31 : ∀ y0 M', kx31 y0 M' → G γ κ 3 (0, 0) (Gq γ κ (pI post)) 31 [(1, .int y0)] [] M') : ∀ (n : Nat) (x1 : Int32) (x2 : Int32) (M : Mem), q_Net_countParts_L4 kx31 post n x1 x2 M → G γ κ 3 (0, 0) (Gq γ κ (pI post)) 4 [(0, .ref (κ.1 + 1)), (1, .int x1), (2, .int x2)] [] M := by
  intro n
  induction n with
  | zero => intro x1 x2 M hq; exact hq.elim
  | succ n ih =>
    intro x1 x2 M hq
    unfold q_Net_countParts_L4 at hq
    refine G_iload_n C 2 d_Net_countParts_4 rfl rfl ?_
    refine G_aload_n C 0 d_Net_countParts_5 rfl rfl ?_
    refine Gg_Net_points C wd_25 d_Net_countParts_6 ?_
    refine G_icmp_ge C (tgt := 31) d_Net_countParts_9 (by decide) (fun c => ?_) (fun c => ?_)
    · replace hq := hq.1 c
      exact G_sub [1] (by rfl) (hx31 _ _ hq)
    · replace hq := hq.2 c
      refine G_aload_n C 0 d_Net_countParts_12 rfl rfl ?_
      refine Gg_Net_leasts C wd_45 d_Net_countParts_13 ?_
      refine G_iload_n C 2 d_Net_countParts_16 rfl rfl ?_
      refine G_iaload C (k := 7) (by decide) (fun _ _ => rfl) hq.1 d_Net_countParts_17 ?_
      replace hq := hq.2
      refine G_iload_n C 2 d_Net_countParts_18 rfl rfl ?_
      refine G_icmp_ne C (tgt := 25) d_Net_countParts_19 (by decide) (fun c => ?_) (fun c => ?_)
      · replace hq := hq.1 c
        refine G_iinc C (v := _ + 1) (lv' := [(2, _), (0, _), (1, _)]) 2 d_Net_countParts_25 rfl rfl (by decide) rfl ?_
        refine G_goto C (tgt := 4) d_Net_countParts_28 (by decide) ?_
        exact G_sub [1, 2, 0] (by rfl) (ih _ _ _ hq)
      · replace hq := hq.2 c
        refine G_iinc C (v := _ + 1) (lv' := [(1, _), (0, _), (2, _)]) 1 d_Net_countParts_22 rfl rfl (by decide) rfl ?_
        refine G_iinc C (v := _ + 1) (lv' := [(2, _), (1, _), (0, _)]) 2 d_Net_countParts_25 rfl rfl (by decide) rfl ?_
        refine G_goto C (tgt := 4) d_Net_countParts_28 (by decide) ?_
        exact G_sub [2, 1, 0] (by rfl) (ih _ _ _ hq)
def q_Net_countParts (M : Mem) (post : Int32 → Mem → Prop) : Prop := ∃ n1, q_Net_countParts_L4 (fun x2 M3 => post x2 M3) post n1 (0 : Int32) (0 : Int32) M
set_option maxHeartbeats 4000000 in
theorem s_Net_countParts {l : Launch} {κ : Kp} {M : Mem} {post : Int32 → Mem → Prop} (hq : q_Net_countParts M post) : Ct l κ y_Net_countParts b_Net_countParts 3 (some .int) 0 [.ref (κ.1 + 1)] M (pI post) := by
  refine Ct_of (by decide) (Nat.le_of_ble_eq_true rfl) (fun γ hγ C R => ?_)
  subst hγ
  unfold q_Net_countParts at hq
  show G γ κ 3 (0, 0) (Gq γ κ (pI post)) 0 [(0, .ref (κ.1 + 1))] [] M
  refine G_iconst C (v := 0) d_Net_countParts_0 (by decide) ?_
  refine G_istore_n C (lv' := [(1, _), (0, _)]) d_Net_countParts_1 rfl (by decide) rfl ?_
  refine G_iconst C (v := 0) d_Net_countParts_2 (by decide) ?_
  refine G_istore_n C (lv' := [(2, _), (1, _), (0, _)]) d_Net_countParts_3 rfl (by decide) rfl ?_
  obtain ⟨n1, hq⟩ := hq
  refine G_sub [2, 1, 0] (by rfl) (s_Net_countParts_L4 C R ?_ n1 _ _ _ hq)
  · intro x2 M3 hq
    refine G_iload_n C 0 d_Net_countParts_31 rfl rfl ?_
    exact G_iret C R d_Net_countParts_32 ⟨_, rfl, hq⟩
theorem d_Bal_add_0 : decode b_Bal_add 0 = .ok (.aload_n 0, 1) := by decide +kernel
theorem d_Bal_add_1 : decode b_Bal_add 1 = .ok (.getfield 11, 3) := by decide +kernel
theorem d_Bal_add_4 : decode b_Bal_add 4 = .ok (.iload_n 1, 1) := by decide +kernel
theorem d_Bal_add_5 : decode b_Bal_add 5 = .ok (.aaload, 1) := by decide +kernel
theorem d_Bal_add_6 : decode b_Bal_add 6 = .ok (.iload_n 2, 1) := by decide +kernel
theorem d_Bal_add_7 : decode b_Bal_add 7 = .ok (.dup2, 1) := by decide +kernel
theorem d_Bal_add_8 : decode b_Bal_add 8 = .ok (.laload, 1) := by decide +kernel
theorem d_Bal_add_9 : decode b_Bal_add 9 = .ok (.lload_n 3, 1) := by decide +kernel
theorem d_Bal_add_10 : decode b_Bal_add 10 = .ok (.ladd, 1) := by decide +kernel
theorem d_Bal_add_11 : decode b_Bal_add 11 = .ok (.lastore, 1) := by decide +kernel
theorem d_Bal_add_12 : decode b_Bal_add 12 = .ok (.return_, 1) := by decide +kernel
def q_Bal_add (a1 : Int32) (a2 : Int32) (a3 : Int64) (M : Mem) (post : Mem → Prop) : Prop := vp_in a1 10 ∧ (vp_in a2 10 ∧ (vp_in a2 10 ∧ (∀ M2, M2 = wJ M (17 + a1.toNatClampNeg) a2.toNatClampNeg ((M.2 (17 + a1.toNatClampNeg) a2.toNatClampNeg) + a3) → post M2)))
set_option maxHeartbeats 4000000 in
theorem s_Bal_add {l : Launch} {κ : Kp} {a1 : Int32} {a2 : Int32} {a3 : Int64} {M : Mem} {post : Mem → Prop} (hq : q_Bal_add a1 a2 a3 M post) : Ct l κ y_Bal_add b_Bal_add 5 (none) 0 [.ref (κ.1 + 15), .int a1, .int a2, .long a3] M (pV post) := by
  refine Ct_of (by decide) (Nat.le_of_ble_eq_true rfl) (fun γ hγ C R => ?_)
  subst hγ
  unfold q_Bal_add at hq
  show G γ κ 5 (0, 0) (Gq γ κ (pV post)) 0 [(0, .ref (κ.1 + 15)), (1, .int a1), (2, .int a2), (3, .long a3)] [] M
  refine G_aload_n C 0 d_Bal_add_0 rfl rfl ?_
  refine Gg_Bal_table C wd_114 d_Bal_add_1 ?_
  refine G_iload_n C 1 d_Bal_add_4 rfl rfl ?_
  have hr1 := hq.1
  replace hq := hq.2
  refine G_aaT C hr1 d_Bal_add_5 ?_
  refine G_iload_n C 2 d_Bal_add_6 rfl rfl ?_
  refine G_dup2 C d_Bal_add_7 rfl rfl ?_
  refine G_laload C (by have := vp_lt hr1; omega) (sh_tabA κ (vp_lt hr1)) hq.1 d_Bal_add_8 ?_
  replace hq := hq.2
  refine G_lload_n C 3 d_Bal_add_9 rfl rfl ?_
  refine G_ladd C d_Bal_add_10 ?_
  refine G_lastore C (by have := vp_lt hr1; omega) (sh_tabA κ (vp_lt hr1)) hq.1 d_Bal_add_11 ?_
  replace hq := hq.2 _ rfl
  exact G_vret C R d_Bal_add_12 ⟨rfl, hq⟩
theorem d_Nf_quotient_0 : decode b_Nf_quotient 0 = .ok (.lload_n 2, 1) := by decide +kernel
theorem d_Nf_quotient_1 : decode b_Nf_quotient 1 = .ok (.lconst 0, 1) := by decide +kernel
theorem d_Nf_quotient_2 : decode b_Nf_quotient 2 = .ok (.lcmp, 1) := by decide +kernel
theorem d_Nf_quotient_3 : decode b_Nf_quotient 3 = .ok (.ifCond .ne 7, 3) := by decide +kernel
theorem d_Nf_quotient_6 : decode b_Nf_quotient 6 = .ok (.lconst 0, 1) := by decide +kernel
theorem d_Nf_quotient_7 : decode b_Nf_quotient 7 = .ok (.goto 6, 3) := by decide +kernel
theorem d_Nf_quotient_10 : decode b_Nf_quotient 10 = .ok (.lload_n 0, 1) := by decide +kernel
theorem d_Nf_quotient_11 : decode b_Nf_quotient 11 = .ok (.lload_n 2, 1) := by decide +kernel
theorem d_Nf_quotient_12 : decode b_Nf_quotient 12 = .ok (.ldiv, 1) := by decide +kernel
theorem d_Nf_quotient_13 : decode b_Nf_quotient 13 = .ok (.lreturn, 1) := by decide +kernel
def q_Nf_quotient (a0 : Int64) (a2 : Int64) (M : Mem) (post : Int64 → Mem → Prop) : Prop := (¬ a2 = (0 : Int64) → ¬ a2 = 0 ∧ (post (a0 / a2) M)) ∧ (a2 = (0 : Int64) → post (0 : Int64) M)
set_option maxHeartbeats 4000000 in
theorem s_Nf_quotient {l : Launch} {κ : Kp} {a0 : Int64} {a2 : Int64} {M : Mem} {post : Int64 → Mem → Prop} (hq : q_Nf_quotient a0 a2 M post) : Ct l κ y_Nf_quotient b_Nf_quotient 4 (some .long) 0 [.long a0, .long a2] M (pJ post) := by
  refine Ct_of (by decide) (Nat.le_of_ble_eq_true rfl) (fun γ hγ C R => ?_)
  subst hγ
  unfold q_Nf_quotient at hq
  show G γ κ 4 (0, 0) (Gq γ κ (pJ post)) 0 [(0, .long a0), (2, .long a2)] [] M
  refine G_lload_n C 1 d_Nf_quotient_0 rfl rfl ?_
  refine G_lconst C (v := 0) d_Nf_quotient_1 (by decide) ?_
  refine G_lcmp_ne C (tgt := 10) (pc1 := 3) d_Nf_quotient_2 rfl d_Nf_quotient_3 (by decide) (fun c => ?_) (fun c => ?_)
  · replace hq := hq.1 c
    refine G_lload_n C 0 d_Nf_quotient_10 rfl rfl ?_
    refine G_lload_n C 1 d_Nf_quotient_11 rfl rfl ?_
    refine G_ldiv C d_Nf_quotient_12 hq.1 ?_
    replace hq := hq.2
    exact G_lret C R d_Nf_quotient_13 ⟨_, rfl, hq⟩
  · replace hq := hq.2 c
    refine G_lconst C (v := 0) d_Nf_quotient_6 (by decide) ?_
    refine G_goto C (tgt := 13) d_Nf_quotient_7 (by decide) ?_
    exact G_lret C R d_Nf_quotient_13 ⟨_, rfl, hq⟩
theorem d_Cli_aboveLeast_0 : decode b_Cli_aboveLeast 0 = .ok (.aload_n 0, 1) := by decide +kernel
theorem d_Cli_aboveLeast_1 : decode b_Cli_aboveLeast 1 = .ok (.getfield 9, 3) := by decide +kernel
theorem d_Cli_aboveLeast_4 : decode b_Cli_aboveLeast 4 = .ok (.iload_n 1, 1) := by decide +kernel
theorem d_Cli_aboveLeast_5 : decode b_Cli_aboveLeast 5 = .ok (.laload, 1) := by decide +kernel
theorem d_Cli_aboveLeast_6 : decode b_Cli_aboveLeast 6 = .ok (.aload_n 0, 1) := by decide +kernel
theorem d_Cli_aboveLeast_7 : decode b_Cli_aboveLeast 7 = .ok (.getfield 9, 3) := by decide +kernel
theorem d_Cli_aboveLeast_10 : decode b_Cli_aboveLeast 10 = .ok (.aload_n 0, 1) := by decide +kernel
theorem d_Cli_aboveLeast_11 : decode b_Cli_aboveLeast 11 = .ok (.getfield 15, 3) := by decide +kernel
theorem d_Cli_aboveLeast_14 : decode b_Cli_aboveLeast 14 = .ok (.iload_n 1, 1) := by decide +kernel
theorem d_Cli_aboveLeast_15 : decode b_Cli_aboveLeast 15 = .ok (.iaload, 1) := by decide +kernel
theorem d_Cli_aboveLeast_16 : decode b_Cli_aboveLeast 16 = .ok (.laload, 1) := by decide +kernel
theorem d_Cli_aboveLeast_17 : decode b_Cli_aboveLeast 17 = .ok (.lsub, 1) := by decide +kernel
theorem d_Cli_aboveLeast_18 : decode b_Cli_aboveLeast 18 = .ok (.lreturn, 1) := by decide +kernel
def q_Cli_aboveLeast (a1 : Int32) (M : Mem) (post : Int64 → Mem → Prop) : Prop := vp_in a1 6 ∧ (vp_in a1 6 ∧ (vp_in (M.1 30 a1.toNatClampNeg) 6 ∧ (post ((M.2 29 a1.toNatClampNeg) - (M.2 29 (M.1 30 a1.toNatClampNeg).toNatClampNeg)) M)))
set_option maxHeartbeats 4000000 in
theorem s_Cli_aboveLeast {l : Launch} {κ : Kp} {a1 : Int32} {M : Mem} {post : Int64 → Mem → Prop} (hq : q_Cli_aboveLeast a1 M post) : Ct l κ y_Cli_aboveLeast b_Cli_aboveLeast 2 (some .long) 0 [.ref (κ.1 + 28), .int a1] M (pJ post) := by
  refine Ct_of (by decide) (Nat.le_of_ble_eq_true rfl) (fun γ hγ C R => ?_)
  subst hγ
  unfold q_Cli_aboveLeast at hq
  show G γ κ 2 (0, 0) (Gq γ κ (pJ post)) 0 [(0, .ref (κ.1 + 28)), (1, .int a1)] [] M
  refine G_aload_n C 0 d_Cli_aboveLeast_0 rfl rfl ?_
  refine Gg_Cli_climbed C wd_137 d_Cli_aboveLeast_1 ?_
  refine G_iload_n C 1 d_Cli_aboveLeast_4 rfl rfl ?_
  refine G_laload C (k := 29) (by decide) (fun _ _ => rfl) hq.1 d_Cli_aboveLeast_5 ?_
  replace hq := hq.2
  refine G_aload_n C 0 d_Cli_aboveLeast_6 rfl rfl ?_
  refine Gg_Cli_climbed C wd_137 d_Cli_aboveLeast_7 ?_
  refine G_aload_n C 0 d_Cli_aboveLeast_10 rfl rfl ?_
  refine Gg_Cli_leasts C wd_138 d_Cli_aboveLeast_11 ?_
  refine G_iload_n C 1 d_Cli_aboveLeast_14 rfl rfl ?_
  refine G_iaload C (k := 30) (by decide) (fun _ _ => rfl) hq.1 d_Cli_aboveLeast_15 ?_
  replace hq := hq.2
  refine G_laload C (k := 29) (by decide) (fun _ _ => rfl) hq.1 d_Cli_aboveLeast_16 ?_
  replace hq := hq.2
  refine G_lsub C d_Cli_aboveLeast_17 ?_
  exact G_lret C R d_Cli_aboveLeast_18 ⟨_, rfl, hq⟩
theorem d_Bal_addDue_0 : decode b_Bal_addDue 0 = .ok (.aload_n 0, 1) := by decide +kernel
theorem d_Bal_addDue_1 : decode b_Bal_addDue 1 = .ok (.getfield 14, 3) := by decide +kernel
theorem d_Bal_addDue_4 : decode b_Bal_addDue 4 = .ok (.iload_n 1, 1) := by decide +kernel
theorem d_Bal_addDue_5 : decode b_Bal_addDue 5 = .ok (.dup2, 1) := by decide +kernel
theorem d_Bal_addDue_6 : decode b_Bal_addDue 6 = .ok (.laload, 1) := by decide +kernel
theorem d_Bal_addDue_7 : decode b_Bal_addDue 7 = .ok (.lload_n 2, 1) := by decide +kernel
theorem d_Bal_addDue_8 : decode b_Bal_addDue 8 = .ok (.ladd, 1) := by decide +kernel
theorem d_Bal_addDue_9 : decode b_Bal_addDue 9 = .ok (.lastore, 1) := by decide +kernel
theorem d_Bal_addDue_10 : decode b_Bal_addDue 10 = .ok (.return_, 1) := by decide +kernel
def q_Bal_addDue (a1 : Int32) (a2 : Int64) (M : Mem) (post : Mem → Prop) : Prop := vp_in a1 10 ∧ (vp_in a1 10 ∧ (∀ M1, M1 = wJ M 27 a1.toNatClampNeg ((M.2 27 a1.toNatClampNeg) + a2) → post M1))
set_option maxHeartbeats 4000000 in
theorem s_Bal_addDue {l : Launch} {κ : Kp} {a1 : Int32} {a2 : Int64} {M : Mem} {post : Mem → Prop} (hq : q_Bal_addDue a1 a2 M post) : Ct l κ y_Bal_addDue b_Bal_addDue 4 (none) 0 [.ref (κ.1 + 15), .int a1, .long a2] M (pV post) := by
  refine Ct_of (by decide) (Nat.le_of_ble_eq_true rfl) (fun γ hγ C R => ?_)
  subst hγ
  unfold q_Bal_addDue at hq
  show G γ κ 4 (0, 0) (Gq γ κ (pV post)) 0 [(0, .ref (κ.1 + 15)), (1, .int a1), (2, .long a2)] [] M
  refine G_aload_n C 0 d_Bal_addDue_0 rfl rfl ?_
  refine Gg_Bal_dues C wd_115 d_Bal_addDue_1 ?_
  refine G_iload_n C 1 d_Bal_addDue_4 rfl rfl ?_
  refine G_dup2 C d_Bal_addDue_5 rfl rfl ?_
  refine G_laload C (k := 27) (by decide) (fun _ _ => rfl) hq.1 d_Bal_addDue_6 ?_
  replace hq := hq.2
  refine G_lload_n C 2 d_Bal_addDue_7 rfl rfl ?_
  refine G_ladd C d_Bal_addDue_8 ?_
  refine G_lastore C (k := 27) (by decide) (fun _ _ => rfl) hq.1 d_Bal_addDue_9 ?_
  replace hq := hq.2 _ rfl
  exact G_vret C R d_Bal_addDue_10 ⟨rfl, hq⟩
theorem d_Bal_above_0 : decode b_Bal_above 0 = .ok (.aload_n 0, 1) := by decide +kernel
theorem d_Bal_above_1 : decode b_Bal_above 1 = .ok (.getfield 14, 3) := by decide +kernel
theorem d_Bal_above_4 : decode b_Bal_above 4 = .ok (.iload_n 1, 1) := by decide +kernel
theorem d_Bal_above_5 : decode b_Bal_above 5 = .ok (.laload, 1) := by decide +kernel
theorem d_Bal_above_6 : decode b_Bal_above 6 = .ok (.lreturn, 1) := by decide +kernel
def q_Bal_above (a1 : Int32) (M : Mem) (post : Int64 → Mem → Prop) : Prop := vp_in a1 10 ∧ (post (M.2 27 a1.toNatClampNeg) M)
set_option maxHeartbeats 4000000 in
theorem s_Bal_above {l : Launch} {κ : Kp} {a1 : Int32} {M : Mem} {post : Int64 → Mem → Prop} (hq : q_Bal_above a1 M post) : Ct l κ y_Bal_above b_Bal_above 2 (some .long) 0 [.ref (κ.1 + 15), .int a1] M (pJ post) := by
  refine Ct_of (by decide) (Nat.le_of_ble_eq_true rfl) (fun γ hγ C R => ?_)
  subst hγ
  unfold q_Bal_above at hq
  show G γ κ 2 (0, 0) (Gq γ κ (pJ post)) 0 [(0, .ref (κ.1 + 15)), (1, .int a1)] [] M
  refine G_aload_n C 0 d_Bal_above_0 rfl rfl ?_
  refine Gg_Bal_dues C wd_115 d_Bal_above_1 ?_
  refine G_iload_n C 1 d_Bal_above_4 rfl rfl ?_
  refine G_laload C (k := 27) (by decide) (fun _ _ => rfl) hq.1 d_Bal_above_5 ?_
  replace hq := hq.2
  exact G_lret C R d_Bal_above_6 ⟨_, rfl, hq⟩
end

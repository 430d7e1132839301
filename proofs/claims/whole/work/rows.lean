section
-- ===== PART A: goes FIRST, ahead of the names: the tables' words, and 'selects' of the private methods out of them =====
/-- a private method of a class that the tables say can be made, by its rows of tables_1 -/
def lw_okq (q : MethodName × Nat) : Prop := (q.1.cls ≠ "java/lang/invoke/MethodHandle" ∧ q.1.cls ≠ "java/lang/invoke/VarHandle") ∧ Cond.instantiable q.1.cls q.2 ∈ tables_1 ∧ Cond.privateMethod q.1 ∈ tables_1 ∧ Cond.instanceMethod q.1 ∈ tables_1
theorem lw_p0 : lw_okq (⟨"PlanarFlow$Net", "placeEdges", "(II)V"⟩, 17) := ⟨⟨by decide +kernel, by decide +kernel⟩, List.mem_of_getElem? (i := 32) (by decide +kernel), List.mem_of_getElem? (i := 83) (by decide +kernel), List.mem_of_getElem? (i := 84) (by decide +kernel)⟩
theorem lw_p1 : lw_okq (⟨"PlanarFlow$Net", "lowerFace", "(I)I"⟩, 17) := ⟨⟨by decide +kernel, by decide +kernel⟩, List.mem_of_getElem? (i := 32) (by decide +kernel), List.mem_of_getElem? (i := 99) (by decide +kernel), List.mem_of_getElem? (i := 100) (by decide +kernel)⟩
theorem lw_p2 : lw_okq (⟨"PlanarFlow$Net", "place", "(IIIIII)V"⟩, 17) := ⟨⟨by decide +kernel, by decide +kernel⟩, List.mem_of_getElem? (i := 32) (by decide +kernel), List.mem_of_getElem? (i := 103) (by decide +kernel), List.mem_of_getElem? (i := 104) (by decide +kernel)⟩
theorem lw_p3 : lw_okq (⟨"PlanarFlow$Net", "westFace", "(I)I"⟩, 17) := ⟨⟨by decide +kernel, by decide +kernel⟩, List.mem_of_getElem? (i := 32) (by decide +kernel), List.mem_of_getElem? (i := 107) (by decide +kernel), List.mem_of_getElem? (i := 108) (by decide +kernel)⟩
theorem lw_p4 : lw_okq (⟨"PlanarFlow$Net", "eastFace", "(I)I"⟩, 17) := ⟨⟨by decide +kernel, by decide +kernel⟩, List.mem_of_getElem? (i := 32) (by decide +kernel), List.mem_of_getElem? (i := 111) (by decide +kernel), List.mem_of_getElem? (i := 112) (by decide +kernel)⟩
theorem lw_p5 : lw_okq (⟨"PlanarFlow$Net", "walkRim", "()V"⟩, 17) := ⟨⟨by decide +kernel, by decide +kernel⟩, List.mem_of_getElem? (i := 32) (by decide +kernel), List.mem_of_getElem? (i := 115) (by decide +kernel), List.mem_of_getElem? (i := 116) (by decide +kernel)⟩
theorem lw_p6 : lw_okq (⟨"PlanarFlow$Net", "addToRim", "(II)V"⟩, 17) := ⟨⟨by decide +kernel, by decide +kernel⟩, List.mem_of_getElem? (i := 32) (by decide +kernel), List.mem_of_getElem? (i := 119) (by decide +kernel), List.mem_of_getElem? (i := 120) (by decide +kernel)⟩
theorem lw_p7 : lw_okq (⟨"PlanarFlow$Tape", "readHead", "(LPlanarFlow$Told;)Z"⟩, 8) := ⟨⟨by decide +kernel, by decide +kernel⟩, List.mem_of_getElem? (i := 379) (by decide +kernel), List.mem_of_getElem? (i := 462) (by decide +kernel), List.mem_of_getElem? (i := 463) (by decide +kernel)⟩
theorem lw_p8 : lw_okq (⟨"PlanarFlow$Tape", "next", "()V"⟩, 8) := ⟨⟨by decide +kernel, by decide +kernel⟩, List.mem_of_getElem? (i := 379) (by decide +kernel), List.mem_of_getElem? (i := 466) (by decide +kernel), List.mem_of_getElem? (i := 467) (by decide +kernel)⟩
theorem lw_p9 : lw_okq (⟨"PlanarFlow$Tape", "isLetter", "(I)Z"⟩, 8) := ⟨⟨by decide +kernel, by decide +kernel⟩, List.mem_of_getElem? (i := 379) (by decide +kernel), List.mem_of_getElem? (i := 470) (by decide +kernel), List.mem_of_getElem? (i := 471) (by decide +kernel)⟩
theorem lw_p10 : lw_okq (⟨"PlanarFlow$Tape", "scanWhole", "()Z"⟩, 8) := ⟨⟨by decide +kernel, by decide +kernel⟩, List.mem_of_getElem? (i := 379) (by decide +kernel), List.mem_of_getElem? (i := 474) (by decide +kernel), List.mem_of_getElem? (i := 475) (by decide +kernel)⟩
theorem lw_p11 : lw_okq (⟨"PlanarFlow$Tape", "isWord", "(Ljava/lang/String;)Z"⟩, 8) := ⟨⟨by decide +kernel, by decide +kernel⟩, List.mem_of_getElem? (i := 379) (by decide +kernel), List.mem_of_getElem? (i := 479) (by decide +kernel), List.mem_of_getElem? (i := 480) (by decide +kernel)⟩
theorem lw_p12 : lw_okq (⟨"PlanarFlow$Tape", "fail", "(I)Z"⟩, 8) := ⟨⟨by decide +kernel, by decide +kernel⟩, List.mem_of_getElem? (i := 379) (by decide +kernel), List.mem_of_getElem? (i := 531) (by decide +kernel), List.mem_of_getElem? (i := 532) (by decide +kernel)⟩
theorem lw_p13 : lw_okq (⟨"PlanarFlow$Tape", "readWhole", "(II)Z"⟩, 8) := ⟨⟨by decide +kernel, by decide +kernel⟩, List.mem_of_getElem? (i := 379) (by decide +kernel), List.mem_of_getElem? (i := 535) (by decide +kernel), List.mem_of_getElem? (i := 536) (by decide +kernel)⟩
theorem lw_p14 : lw_okq (⟨"PlanarFlow$Tape", "readLine", "(LPlanarFlow$Told;)Z"⟩, 8) := ⟨⟨by decide +kernel, by decide +kernel⟩, List.mem_of_getElem? (i := 379) (by decide +kernel), List.mem_of_getElem? (i := 544) (by decide +kernel), List.mem_of_getElem? (i := 545) (by decide +kernel)⟩
theorem lw_p15 : lw_okq (⟨"PlanarFlow$Tape", "readAll", "(LPlanarFlow$Told;)Z"⟩, 8) := ⟨⟨by decide +kernel, by decide +kernel⟩, List.mem_of_getElem? (i := 379) (by decide +kernel), List.mem_of_getElem? (i := 549) (by decide +kernel), List.mem_of_getElem? (i := 550) (by decide +kernel)⟩
def lw_privs_1 : List (MethodName × Nat) := [(⟨"PlanarFlow$Net", "placeEdges", "(II)V"⟩, 17), (⟨"PlanarFlow$Net", "lowerFace", "(I)I"⟩, 17), (⟨"PlanarFlow$Net", "place", "(IIIIII)V"⟩, 17), (⟨"PlanarFlow$Net", "westFace", "(I)I"⟩, 17), (⟨"PlanarFlow$Net", "eastFace", "(I)I"⟩, 17), (⟨"PlanarFlow$Net", "walkRim", "()V"⟩, 17), (⟨"PlanarFlow$Net", "addToRim", "(II)V"⟩, 17), (⟨"PlanarFlow$Tape", "readHead", "(LPlanarFlow$Told;)Z"⟩, 8), (⟨"PlanarFlow$Tape", "next", "()V"⟩, 8), (⟨"PlanarFlow$Tape", "isLetter", "(I)Z"⟩, 8), (⟨"PlanarFlow$Tape", "scanWhole", "()Z"⟩, 8), (⟨"PlanarFlow$Tape", "isWord", "(Ljava/lang/String;)Z"⟩, 8), (⟨"PlanarFlow$Tape", "fail", "(I)Z"⟩, 8), (⟨"PlanarFlow$Tape", "readWhole", "(II)Z"⟩, 8), (⟨"PlanarFlow$Tape", "readLine", "(LPlanarFlow$Told;)Z"⟩, 8), (⟨"PlanarFlow$Tape", "readAll", "(LPlanarFlow$Told;)Z"⟩, 8)]
theorem lw_r1 : ∀ q ∈ lw_privs_1, lw_okq q := List.forall_mem_cons.mpr ⟨lw_p0, List.forall_mem_cons.mpr ⟨lw_p1, List.forall_mem_cons.mpr ⟨lw_p2, List.forall_mem_cons.mpr ⟨lw_p3, List.forall_mem_cons.mpr ⟨lw_p4, List.forall_mem_cons.mpr ⟨lw_p5, List.forall_mem_cons.mpr ⟨lw_p6, List.forall_mem_cons.mpr ⟨lw_p7, List.forall_mem_cons.mpr ⟨lw_p8, List.forall_mem_cons.mpr ⟨lw_p9, List.forall_mem_cons.mpr ⟨lw_p10, List.forall_mem_cons.mpr ⟨lw_p11, List.forall_mem_cons.mpr ⟨lw_p12, List.forall_mem_cons.mpr ⟨lw_p13, List.forall_mem_cons.mpr ⟨lw_p14, List.forall_mem_cons.mpr ⟨lw_p15, fun _ h => absurd h List.not_mem_nil⟩⟩⟩⟩⟩⟩⟩⟩⟩⟩⟩⟩⟩⟩⟩⟩
theorem lw_p16 : lw_okq (⟨"PlanarFlow$Tape", "loadAt", "(LPlanarFlow$Told;IIII)V"⟩, 8) := ⟨⟨by decide +kernel, by decide +kernel⟩, List.mem_of_getElem? (i := 379) (by decide +kernel), List.mem_of_getElem? (i := 556) (by decide +kernel), List.mem_of_getElem? (i := 557) (by decide +kernel)⟩
theorem lw_p17 : lw_okq (⟨"PlanarFlow$Tape", "readOne", "(LPlanarFlow$Told;II)Z"⟩, 8) := ⟨⟨by decide +kernel, by decide +kernel⟩, List.mem_of_getElem? (i := 379) (by decide +kernel), List.mem_of_getElem? (i := 566) (by decide +kernel), List.mem_of_getElem? (i := 567) (by decide +kernel)⟩
theorem lw_p18 : lw_okq (⟨"PlanarFlow$Dual", "relaxAll", "(LPlanarFlow$Net;Z)Z"⟩, 6) := ⟨⟨by decide +kernel, by decide +kernel⟩, List.mem_of_getElem? (i := 235) (by decide +kernel), List.mem_of_getElem? (i := 643) (by decide +kernel), List.mem_of_getElem? (i := 644) (by decide +kernel)⟩
theorem lw_p19 : lw_okq (⟨"PlanarFlow$Dual", "relax", "(IIII)Z"⟩, 6) := ⟨⟨by decide +kernel, by decide +kernel⟩, List.mem_of_getElem? (i := 235) (by decide +kernel), List.mem_of_getElem? (i := 647) (by decide +kernel), List.mem_of_getElem? (i := 648) (by decide +kernel)⟩
theorem lw_p20 : lw_okq (⟨"PlanarFlow$Routes", "relaxAll", "(LPlanarFlow$Net;)Z"⟩, 1) := ⟨⟨by decide +kernel, by decide +kernel⟩, List.mem_of_getElem? (i := 266) (by decide +kernel), List.mem_of_getElem? (i := 657) (by decide +kernel), List.mem_of_getElem? (i := 658) (by decide +kernel)⟩
theorem lw_p21 : lw_okq (⟨"PlanarFlow$Routes", "relax", "(III)Z"⟩, 1) := ⟨⟨by decide +kernel, by decide +kernel⟩, List.mem_of_getElem? (i := 266) (by decide +kernel), List.mem_of_getElem? (i := 661) (by decide +kernel), List.mem_of_getElem? (i := 662) (by decide +kernel)⟩
theorem lw_p22 : lw_okq (⟨"PlanarFlow$Routes", "keyBy", "(II)I"⟩, 1) := ⟨⟨by decide +kernel, by decide +kernel⟩, List.mem_of_getElem? (i := 266) (by decide +kernel), List.mem_of_getElem? (i := 665) (by decide +kernel), List.mem_of_getElem? (i := 666) (by decide +kernel)⟩
theorem lw_p23 : lw_okq (⟨"PlanarFlow$Routes", "firstEdge", "(LPlanarFlow$Net;I)I"⟩, 1) := ⟨⟨by decide +kernel, by decide +kernel⟩, List.mem_of_getElem? (i := 266) (by decide +kernel), List.mem_of_getElem? (i := 677) (by decide +kernel), List.mem_of_getElem? (i := 678) (by decide +kernel)⟩
theorem lw_p24 : lw_okq (⟨"PlanarFlow$Dual", "faceBefore", "(LPlanarFlow$Net;I)I"⟩, 6) := ⟨⟨by decide +kernel, by decide +kernel⟩, List.mem_of_getElem? (i := 235) (by decide +kernel), List.mem_of_getElem? (i := 705) (by decide +kernel), List.mem_of_getElem? (i := 706) (by decide +kernel)⟩
theorem lw_p25 : lw_okq (⟨"PlanarFlow", "isPair", "(II)Z"⟩, 11) := ⟨⟨by decide +kernel, by decide +kernel⟩, List.mem_of_getElem? (i := 24) (by decide +kernel), List.mem_of_getElem? (i := 715) (by decide +kernel), List.mem_of_getElem? (i := 716) (by decide +kernel)⟩
theorem lw_p26 : lw_okq (⟨"PlanarFlow$Stream", "begin", "(LPlanarFlow$Net;LPlanarFlow$Dual;III)V"⟩, 10) := ⟨⟨by decide +kernel, by decide +kernel⟩, List.mem_of_getElem? (i := 289) (by decide +kernel), List.mem_of_getElem? (i := 727) (by decide +kernel), List.mem_of_getElem? (i := 728) (by decide +kernel)⟩
theorem lw_p27 : lw_okq (⟨"PlanarFlow$Stream", "pour", "(LPlanarFlow$Net;II)I"⟩, 10) := ⟨⟨by decide +kernel, by decide +kernel⟩, List.mem_of_getElem? (i := 289) (by decide +kernel), List.mem_of_getElem? (i := 733) (by decide +kernel), List.mem_of_getElem? (i := 734) (by decide +kernel)⟩
theorem lw_p28 : lw_okq (⟨"PlanarFlow$Search", "enter", "(III)V"⟩, 6) := ⟨⟨by decide +kernel, by decide +kernel⟩, List.mem_of_getElem? (i := 295) (by decide +kernel), List.mem_of_getElem? (i := 742) (by decide +kernel), List.mem_of_getElem? (i := 743) (by decide +kernel)⟩
theorem lw_p29 : lw_okq (⟨"PlanarFlow$Search", "advance", "(LPlanarFlow$Net;LPlanarFlow$Stream;)Z"⟩, 6) := ⟨⟨by decide +kernel, by decide +kernel⟩, List.mem_of_getElem? (i := 295) (by decide +kernel), List.mem_of_getElem? (i := 746) (by decide +kernel), List.mem_of_getElem? (i := 747) (by decide +kernel)⟩
theorem lw_p30 : lw_okq (⟨"PlanarFlow$Stream", "push", "(LPlanarFlow$Net;II)I"⟩, 10) := ⟨⟨by decide +kernel, by decide +kernel⟩, List.mem_of_getElem? (i := 289) (by decide +kernel), List.mem_of_getElem? (i := 758) (by decide +kernel), List.mem_of_getElem? (i := 759) (by decide +kernel)⟩
theorem lw_p31 : lw_okq (⟨"PlanarFlow", "hasCut", "(I)Z"⟩, 11) := ⟨⟨by decide +kernel, by decide +kernel⟩, List.mem_of_getElem? (i := 24) (by decide +kernel), List.mem_of_getElem? (i := 783) (by decide +kernel), List.mem_of_getElem? (i := 784) (by decide +kernel)⟩
def lw_privs_2 : List (MethodName × Nat) := [(⟨"PlanarFlow$Tape", "loadAt", "(LPlanarFlow$Told;IIII)V"⟩, 8), (⟨"PlanarFlow$Tape", "readOne", "(LPlanarFlow$Told;II)Z"⟩, 8), (⟨"PlanarFlow$Dual", "relaxAll", "(LPlanarFlow$Net;Z)Z"⟩, 6), (⟨"PlanarFlow$Dual", "relax", "(IIII)Z"⟩, 6), (⟨"PlanarFlow$Routes", "relaxAll", "(LPlanarFlow$Net;)Z"⟩, 1), (⟨"PlanarFlow$Routes", "relax", "(III)Z"⟩, 1), (⟨"PlanarFlow$Routes", "keyBy", "(II)I"⟩, 1), (⟨"PlanarFlow$Routes", "firstEdge", "(LPlanarFlow$Net;I)I"⟩, 1), (⟨"PlanarFlow$Dual", "faceBefore", "(LPlanarFlow$Net;I)I"⟩, 6), (⟨"PlanarFlow", "isPair", "(II)Z"⟩, 11), (⟨"PlanarFlow$Stream", "begin", "(LPlanarFlow$Net;LPlanarFlow$Dual;III)V"⟩, 10), (⟨"PlanarFlow$Stream", "pour", "(LPlanarFlow$Net;II)I"⟩, 10), (⟨"PlanarFlow$Search", "enter", "(III)V"⟩, 6), (⟨"PlanarFlow$Search", "advance", "(LPlanarFlow$Net;LPlanarFlow$Stream;)Z"⟩, 6), (⟨"PlanarFlow$Stream", "push", "(LPlanarFlow$Net;II)I"⟩, 10), (⟨"PlanarFlow", "hasCut", "(I)Z"⟩, 11)]
theorem lw_r2 : ∀ q ∈ lw_privs_2, lw_okq q := List.forall_mem_cons.mpr ⟨lw_p16, List.forall_mem_cons.mpr ⟨lw_p17, List.forall_mem_cons.mpr ⟨lw_p18, List.forall_mem_cons.mpr ⟨lw_p19, List.forall_mem_cons.mpr ⟨lw_p20, List.forall_mem_cons.mpr ⟨lw_p21, List.forall_mem_cons.mpr ⟨lw_p22, List.forall_mem_cons.mpr ⟨lw_p23, List.forall_mem_cons.mpr ⟨lw_p24, List.forall_mem_cons.mpr ⟨lw_p25, List.forall_mem_cons.mpr ⟨lw_p26, List.forall_mem_cons.mpr ⟨lw_p27, List.forall_mem_cons.mpr ⟨lw_p28, List.forall_mem_cons.mpr ⟨lw_p29, List.forall_mem_cons.mpr ⟨lw_p30, List.forall_mem_cons.mpr ⟨lw_p31, fun _ h => absurd h List.not_mem_nil⟩⟩⟩⟩⟩⟩⟩⟩⟩⟩⟩⟩⟩⟩⟩⟩
theorem lw_p32 : lw_okq (⟨"PlanarFlow$Parting", "spread", "(LPlanarFlow$Net;LPlanarFlow$Stream;)Z"⟩, 3) := ⟨⟨by decide +kernel, by decide +kernel⟩, List.mem_of_getElem? (i := 363) (by decide +kernel), List.mem_of_getElem? (i := 792) (by decide +kernel), List.mem_of_getElem? (i := 793) (by decide +kernel)⟩
theorem lw_p33 : lw_okq (⟨"PlanarFlow$Parting", "parts", "(LPlanarFlow$Net;I)Z"⟩, 3) := ⟨⟨by decide +kernel, by decide +kernel⟩, List.mem_of_getElem? (i := 363) (by decide +kernel), List.mem_of_getElem? (i := 801) (by decide +kernel), List.mem_of_getElem? (i := 802) (by decide +kernel)⟩
theorem lw_p34 : lw_okq (⟨"PlanarFlow$Parting", "touch", "(I)I"⟩, 3) := ⟨⟨by decide +kernel, by decide +kernel⟩, List.mem_of_getElem? (i := 363) (by decide +kernel), List.mem_of_getElem? (i := 821) (by decide +kernel), List.mem_of_getElem? (i := 822) (by decide +kernel)⟩
theorem lw_p35 : lw_okq (⟨"PlanarFlow$Parting", "join", "(II)I"⟩, 3) := ⟨⟨by decide +kernel, by decide +kernel⟩, List.mem_of_getElem? (i := 363) (by decide +kernel), List.mem_of_getElem? (i := 825) (by decide +kernel), List.mem_of_getElem? (i := 826) (by decide +kernel)⟩
theorem lw_p36 : lw_okq (⟨"PlanarFlow$Halves", "markLeft", "(LPlanarFlow$Net;II)V"⟩, 2) := ⟨⟨by decide +kernel, by decide +kernel⟩, List.mem_of_getElem? (i := 276) (by decide +kernel), List.mem_of_getElem? (i := 841) (by decide +kernel), List.mem_of_getElem? (i := 842) (by decide +kernel)⟩
theorem lw_p37 : lw_okq (⟨"PlanarFlow$Halves", "relaxAll", "(LPlanarFlow$Net;)Z"⟩, 2) := ⟨⟨by decide +kernel, by decide +kernel⟩, List.mem_of_getElem? (i := 276) (by decide +kernel), List.mem_of_getElem? (i := 848) (by decide +kernel), List.mem_of_getElem? (i := 849) (by decide +kernel)⟩
theorem lw_p38 : lw_okq (⟨"PlanarFlow$Halves", "partOf", "(II)I"⟩, 2) := ⟨⟨by decide +kernel, by decide +kernel⟩, List.mem_of_getElem? (i := 276) (by decide +kernel), List.mem_of_getElem? (i := 852) (by decide +kernel), List.mem_of_getElem? (i := 853) (by decide +kernel)⟩
theorem lw_p39 : lw_okq (⟨"PlanarFlow$Halves", "relax", "(III)Z"⟩, 2) := ⟨⟨by decide +kernel, by decide +kernel⟩, List.mem_of_getElem? (i := 276) (by decide +kernel), List.mem_of_getElem? (i := 856) (by decide +kernel), List.mem_of_getElem? (i := 857) (by decide +kernel)⟩
theorem lw_p40 : lw_okq (⟨"PlanarFlow", "valueWith", "(IIIII)I"⟩, 11) := ⟨⟨by decide +kernel, by decide +kernel⟩, List.mem_of_getElem? (i := 24) (by decide +kernel), List.mem_of_getElem? (i := 897) (by decide +kernel), List.mem_of_getElem? (i := 898) (by decide +kernel)⟩
theorem lw_p41 : lw_okq (⟨"java/lang/Throwable", "fillInStackTrace", "(I)Ljava/lang/Throwable;"⟩, 6) := ⟨⟨by decide +kernel, by decide +kernel⟩, List.mem_of_getElem? (i := 976) (by decide +kernel), List.mem_of_getElem? (i := 974) (by decide +kernel), List.mem_of_getElem? (i := 975) (by decide +kernel)⟩
theorem lw_p42 : lw_okq (⟨"PlanarFlowModel", "begins", "(II)V"⟩, 52) := ⟨⟨by decide +kernel, by decide +kernel⟩, List.mem_of_getElem? (i := 1058) (by decide +kernel), List.mem_of_getElem? (i := 1064) (by decide +kernel), List.mem_of_getElem? (i := 1065) (by decide +kernel)⟩
theorem lw_p43 : lw_okq (⟨"PlanarFlowModel", "puts", "(I)V"⟩, 52) := ⟨⟨by decide +kernel, by decide +kernel⟩, List.mem_of_getElem? (i := 1058) (by decide +kernel), List.mem_of_getElem? (i := 1229) (by decide +kernel), List.mem_of_getElem? (i := 1230) (by decide +kernel)⟩
theorem lw_p44 : lw_okq (⟨"PlanarFlowModel", "go", "()V"⟩, 52) := ⟨⟨by decide +kernel, by decide +kernel⟩, List.mem_of_getElem? (i := 1058) (by decide +kernel), List.mem_of_getElem? (i := 1240) (by decide +kernel), List.mem_of_getElem? (i := 1241) (by decide +kernel)⟩
theorem lw_p45 : lw_okq (⟨"PlanarFlowModel", "byteAt", "(I)I"⟩, 52) := ⟨⟨by decide +kernel, by decide +kernel⟩, List.mem_of_getElem? (i := 1058) (by decide +kernel), List.mem_of_getElem? (i := 1244) (by decide +kernel), List.mem_of_getElem? (i := 1245) (by decide +kernel)⟩
theorem lw_p46 : lw_okq (⟨"PlanarFlowModel", "number", "()V"⟩, 52) := ⟨⟨by decide +kernel, by decide +kernel⟩, List.mem_of_getElem? (i := 1058) (by decide +kernel), List.mem_of_getElem? (i := 1257) (by decide +kernel), List.mem_of_getElem? (i := 1258) (by decide +kernel)⟩
theorem lw_p47 : lw_okq (⟨"PlanarFlowModel", "isWord", "(J)Z"⟩, 52) := ⟨⟨by decide +kernel, by decide +kernel⟩, List.mem_of_getElem? (i := 1058) (by decide +kernel), List.mem_of_getElem? (i := 1264) (by decide +kernel), List.mem_of_getElem? (i := 1265) (by decide +kernel)⟩
def lw_privs_3 : List (MethodName × Nat) := [(⟨"PlanarFlow$Parting", "spread", "(LPlanarFlow$Net;LPlanarFlow$Stream;)Z"⟩, 3), (⟨"PlanarFlow$Parting", "parts", "(LPlanarFlow$Net;I)Z"⟩, 3), (⟨"PlanarFlow$Parting", "touch", "(I)I"⟩, 3), (⟨"PlanarFlow$Parting", "join", "(II)I"⟩, 3), (⟨"PlanarFlow$Halves", "markLeft", "(LPlanarFlow$Net;II)V"⟩, 2), (⟨"PlanarFlow$Halves", "relaxAll", "(LPlanarFlow$Net;)Z"⟩, 2), (⟨"PlanarFlow$Halves", "partOf", "(II)I"⟩, 2), (⟨"PlanarFlow$Halves", "relax", "(III)Z"⟩, 2), (⟨"PlanarFlow", "valueWith", "(IIIII)I"⟩, 11), (⟨"java/lang/Throwable", "fillInStackTrace", "(I)Ljava/lang/Throwable;"⟩, 6), (⟨"PlanarFlowModel", "begins", "(II)V"⟩, 52), (⟨"PlanarFlowModel", "puts", "(I)V"⟩, 52), (⟨"PlanarFlowModel", "go", "()V"⟩, 52), (⟨"PlanarFlowModel", "byteAt", "(I)I"⟩, 52), (⟨"PlanarFlowModel", "number", "()V"⟩, 52), (⟨"PlanarFlowModel", "isWord", "(J)Z"⟩, 52)]
theorem lw_r3 : ∀ q ∈ lw_privs_3, lw_okq q := List.forall_mem_cons.mpr ⟨lw_p32, List.forall_mem_cons.mpr ⟨lw_p33, List.forall_mem_cons.mpr ⟨lw_p34, List.forall_mem_cons.mpr ⟨lw_p35, List.forall_mem_cons.mpr ⟨lw_p36, List.forall_mem_cons.mpr ⟨lw_p37, List.forall_mem_cons.mpr ⟨lw_p38, List.forall_mem_cons.mpr ⟨lw_p39, List.forall_mem_cons.mpr ⟨lw_p40, List.forall_mem_cons.mpr ⟨lw_p41, List.forall_mem_cons.mpr ⟨lw_p42, List.forall_mem_cons.mpr ⟨lw_p43, List.forall_mem_cons.mpr ⟨lw_p44, List.forall_mem_cons.mpr ⟨lw_p45, List.forall_mem_cons.mpr ⟨lw_p46, List.forall_mem_cons.mpr ⟨lw_p47, fun _ h => absurd h List.not_mem_nil⟩⟩⟩⟩⟩⟩⟩⟩⟩⟩⟩⟩⟩⟩⟩⟩
theorem lw_p48 : lw_okq (⟨"PlanarFlowModel", "wrong", "(I)Z"⟩, 52) := ⟨⟨by decide +kernel, by decide +kernel⟩, List.mem_of_getElem? (i := 1058) (by decide +kernel), List.mem_of_getElem? (i := 1268) (by decide +kernel), List.mem_of_getElem? (i := 1269) (by decide +kernel)⟩
theorem lw_p49 : lw_okq (⟨"PlanarFlowModel", "number", "(II)Z"⟩, 52) := ⟨⟨by decide +kernel, by decide +kernel⟩, List.mem_of_getElem? (i := 1058) (by decide +kernel), List.mem_of_getElem? (i := 1272) (by decide +kernel), List.mem_of_getElem? (i := 1273) (by decide +kernel)⟩
theorem lw_p50 : lw_okq (⟨"PlanarFlowModel", "line", "()Z"⟩, 52) := ⟨⟨by decide +kernel, by decide +kernel⟩, List.mem_of_getElem? (i := 1058) (by decide +kernel), List.mem_of_getElem? (i := 1276) (by decide +kernel), List.mem_of_getElem? (i := 1277) (by decide +kernel)⟩
theorem lw_p51 : lw_okq (⟨"PlanarFlowModel", "whichHere", "()I"⟩, 52) := ⟨⟨by decide +kernel, by decide +kernel⟩, List.mem_of_getElem? (i := 1058) (by decide +kernel), List.mem_of_getElem? (i := 1280) (by decide +kernel), List.mem_of_getElem? (i := 1281) (by decide +kernel)⟩
theorem lw_p52 : lw_okq (⟨"PlanarFlowModel", "keeps", "(III)Z"⟩, 52) := ⟨⟨by decide +kernel, by decide +kernel⟩, List.mem_of_getElem? (i := 1058) (by decide +kernel), List.mem_of_getElem? (i := 1284) (by decide +kernel), List.mem_of_getElem? (i := 1285) (by decide +kernel)⟩
theorem lw_p53 : lw_okq (⟨"PlanarFlowModel", "bears", "(I)V"⟩, 52) := ⟨⟨by decide +kernel, by decide +kernel⟩, List.mem_of_getElem? (i := 1058) (by decide +kernel), List.mem_of_getElem? (i := 1288) (by decide +kernel), List.mem_of_getElem? (i := 1289) (by decide +kernel)⟩
theorem lw_p54 : lw_okq (⟨"PlanarFlowModel", "isEdge", "(I)Z"⟩, 52) := ⟨⟨by decide +kernel, by decide +kernel⟩, List.mem_of_getElem? (i := 1058) (by decide +kernel), List.mem_of_getElem? (i := 1292) (by decide +kernel), List.mem_of_getElem? (i := 1293) (by decide +kernel)⟩
theorem lw_p55 : lw_okq (⟨"PlanarFlowModel", "isNode", "(I)Z"⟩, 52) := ⟨⟨by decide +kernel, by decide +kernel⟩, List.mem_of_getElem? (i := 1058) (by decide +kernel), List.mem_of_getElem? (i := 1296) (by decide +kernel), List.mem_of_getElem? (i := 1297) (by decide +kernel)⟩
theorem lw_p56 : lw_okq (⟨"PlanarFlowModel", "nodes", "()I"⟩, 52) := ⟨⟨by decide +kernel, by decide +kernel⟩, List.mem_of_getElem? (i := 1058) (by decide +kernel), List.mem_of_getElem? (i := 1300) (by decide +kernel), List.mem_of_getElem? (i := 1301) (by decide +kernel)⟩
theorem lw_p57 : lw_okq (⟨"PlanarFlowModel", "isCell", "(I)Z"⟩, 52) := ⟨⟨by decide +kernel, by decide +kernel⟩, List.mem_of_getElem? (i := 1058) (by decide +kernel), List.mem_of_getElem? (i := 1304) (by decide +kernel), List.mem_of_getElem? (i := 1305) (by decide +kernel)⟩
theorem lw_p58 : lw_okq (⟨"PlanarFlowModel", "edges", "()I"⟩, 52) := ⟨⟨by decide +kernel, by decide +kernel⟩, List.mem_of_getElem? (i := 1058) (by decide +kernel), List.mem_of_getElem? (i := 1312) (by decide +kernel), List.mem_of_getElem? (i := 1313) (by decide +kernel)⟩
theorem lw_p59 : lw_okq (⟨"PlanarFlowModel", "fromOf", "(I)I"⟩, 52) := ⟨⟨by decide +kernel, by decide +kernel⟩, List.mem_of_getElem? (i := 1058) (by decide +kernel), List.mem_of_getElem? (i := 1328) (by decide +kernel), List.mem_of_getElem? (i := 1329) (by decide +kernel)⟩
theorem lw_p60 : lw_okq (⟨"PlanarFlowModel", "toOf", "(I)I"⟩, 52) := ⟨⟨by decide +kernel, by decide +kernel⟩, List.mem_of_getElem? (i := 1058) (by decide +kernel), List.mem_of_getElem? (i := 1332) (by decide +kernel), List.mem_of_getElem? (i := 1333) (by decide +kernel)⟩
theorem lw_p61 : lw_okq (⟨"PlanarFlowModel", "leftOf", "(I)I"⟩, 52) := ⟨⟨by decide +kernel, by decide +kernel⟩, List.mem_of_getElem? (i := 1058) (by decide +kernel), List.mem_of_getElem? (i := 1336) (by decide +kernel), List.mem_of_getElem? (i := 1337) (by decide +kernel)⟩
theorem lw_p62 : lw_okq (⟨"PlanarFlowModel", "faceAt", "(III)I"⟩, 52) := ⟨⟨by decide +kernel, by decide +kernel⟩, List.mem_of_getElem? (i := 1058) (by decide +kernel), List.mem_of_getElem? (i := 1340) (by decide +kernel), List.mem_of_getElem? (i := 1341) (by decide +kernel)⟩
theorem lw_p63 : lw_okq (⟨"PlanarFlowModel", "rightOf", "(I)I"⟩, 52) := ⟨⟨by decide +kernel, by decide +kernel⟩, List.mem_of_getElem? (i := 1058) (by decide +kernel), List.mem_of_getElem? (i := 1344) (by decide +kernel), List.mem_of_getElem? (i := 1345) (by decide +kernel)⟩
def lw_privs_4 : List (MethodName × Nat) := [(⟨"PlanarFlowModel", "wrong", "(I)Z"⟩, 52), (⟨"PlanarFlowModel", "number", "(II)Z"⟩, 52), (⟨"PlanarFlowModel", "line", "()Z"⟩, 52), (⟨"PlanarFlowModel", "whichHere", "()I"⟩, 52), (⟨"PlanarFlowModel", "keeps", "(III)Z"⟩, 52), (⟨"PlanarFlowModel", "bears", "(I)V"⟩, 52), (⟨"PlanarFlowModel", "isEdge", "(I)Z"⟩, 52), (⟨"PlanarFlowModel", "isNode", "(I)Z"⟩, 52), (⟨"PlanarFlowModel", "nodes", "()I"⟩, 52), (⟨"PlanarFlowModel", "isCell", "(I)Z"⟩, 52), (⟨"PlanarFlowModel", "edges", "()I"⟩, 52), (⟨"PlanarFlowModel", "fromOf", "(I)I"⟩, 52), (⟨"PlanarFlowModel", "toOf", "(I)I"⟩, 52), (⟨"PlanarFlowModel", "leftOf", "(I)I"⟩, 52), (⟨"PlanarFlowModel", "faceAt", "(III)I"⟩, 52), (⟨"PlanarFlowModel", "rightOf", "(I)I"⟩, 52)]
theorem lw_r4 : ∀ q ∈ lw_privs_4, lw_okq q := List.forall_mem_cons.mpr ⟨lw_p48, List.forall_mem_cons.mpr ⟨lw_p49, List.forall_mem_cons.mpr ⟨lw_p50, List.forall_mem_cons.mpr ⟨lw_p51, List.forall_mem_cons.mpr ⟨lw_p52, List.forall_mem_cons.mpr ⟨lw_p53, List.forall_mem_cons.mpr ⟨lw_p54, List.forall_mem_cons.mpr ⟨lw_p55, List.forall_mem_cons.mpr ⟨lw_p56, List.forall_mem_cons.mpr ⟨lw_p57, List.forall_mem_cons.mpr ⟨lw_p58, List.forall_mem_cons.mpr ⟨lw_p59, List.forall_mem_cons.mpr ⟨lw_p60, List.forall_mem_cons.mpr ⟨lw_p61, List.forall_mem_cons.mpr ⟨lw_p62, List.forall_mem_cons.mpr ⟨lw_p63, fun _ h => absurd h List.not_mem_nil⟩⟩⟩⟩⟩⟩⟩⟩⟩⟩⟩⟩⟩⟩⟩⟩
theorem lw_p64 : lw_okq (⟨"PlanarFlowModel", "isFace", "(I)Z"⟩, 52) := ⟨⟨by decide +kernel, by decide +kernel⟩, List.mem_of_getElem? (i := 1058) (by decide +kernel), List.mem_of_getElem? (i := 1352) (by decide +kernel), List.mem_of_getElem? (i := 1353) (by decide +kernel)⟩
theorem lw_p65 : lw_okq (⟨"PlanarFlowModel", "isAround", "(II)Z"⟩, 52) := ⟨⟨by decide +kernel, by decide +kernel⟩, List.mem_of_getElem? (i := 1058) (by decide +kernel), List.mem_of_getElem? (i := 1356) (by decide +kernel), List.mem_of_getElem? (i := 1357) (by decide +kernel)⟩
theorem lw_p66 : lw_okq (⟨"PlanarFlowModel", "canCirculate", "()Z"⟩, 52) := ⟨⟨by decide +kernel, by decide +kernel⟩, List.mem_of_getElem? (i := 1058) (by decide +kernel), List.mem_of_getElem? (i := 1364) (by decide +kernel), List.mem_of_getElem? (i := 1365) (by decide +kernel)⟩
theorem lw_p67 : lw_okq (⟨"PlanarFlowModel", "laysCosts", "(IZ)Z"⟩, 52) := ⟨⟨by decide +kernel, by decide +kernel⟩, List.mem_of_getElem? (i := 1058) (by decide +kernel), List.mem_of_getElem? (i := 1368) (by decide +kernel), List.mem_of_getElem? (i := 1369) (by decide +kernel)⟩
theorem lw_p68 : lw_okq (⟨"PlanarFlowModel", "leftNow", "(I)I"⟩, 52) := ⟨⟨by decide +kernel, by decide +kernel⟩, List.mem_of_getElem? (i := 1058) (by decide +kernel), List.mem_of_getElem? (i := 1373) (by decide +kernel), List.mem_of_getElem? (i := 1374) (by decide +kernel)⟩
theorem lw_p69 : lw_okq (⟨"PlanarFlowModel", "rightNow", "(I)I"⟩, 52) := ⟨⟨by decide +kernel, by decide +kernel⟩, List.mem_of_getElem? (i := 1058) (by decide +kernel), List.mem_of_getElem? (i := 1377) (by decide +kernel), List.mem_of_getElem? (i := 1378) (by decide +kernel)⟩
theorem lw_p70 : lw_okq (⟨"PlanarFlowModel", "relaxes", "(III)Z"⟩, 52) := ⟨⟨by decide +kernel, by decide +kernel⟩, List.mem_of_getElem? (i := 1058) (by decide +kernel), List.mem_of_getElem? (i := 1381) (by decide +kernel), List.mem_of_getElem? (i := 1382) (by decide +kernel)⟩
theorem lw_p71 : lw_okq (⟨"PlanarFlowModel", "isLess", "(III)Z"⟩, 52) := ⟨⟨by decide +kernel, by decide +kernel⟩, List.mem_of_getElem? (i := 1058) (by decide +kernel), List.mem_of_getElem? (i := 1385) (by decide +kernel), List.mem_of_getElem? (i := 1386) (by decide +kernel)⟩
theorem lw_p72 : lw_okq (⟨"PlanarFlowModel", "nextEdge", "(I)I"⟩, 52) := ⟨⟨by decide +kernel, by decide +kernel⟩, List.mem_of_getElem? (i := 1058) (by decide +kernel), List.mem_of_getElem? (i := 1394) (by decide +kernel), List.mem_of_getElem? (i := 1395) (by decide +kernel)⟩
theorem lw_p73 : lw_okq (⟨"PlanarFlowModel", "laysRing", "()Z"⟩, 52) := ⟨⟨by decide +kernel, by decide +kernel⟩, List.mem_of_getElem? (i := 1058) (by decide +kernel), List.mem_of_getElem? (i := 1410) (by decide +kernel), List.mem_of_getElem? (i := 1411) (by decide +kernel)⟩
theorem lw_p74 : lw_okq (⟨"PlanarFlowModel", "faces", "()I"⟩, 52) := ⟨⟨by decide +kernel, by decide +kernel⟩, List.mem_of_getElem? (i := 1058) (by decide +kernel), List.mem_of_getElem? (i := 1414) (by decide +kernel), List.mem_of_getElem? (i := 1415) (by decide +kernel)⟩
theorem lw_p75 : lw_okq (⟨"PlanarFlowModel", "betters", "(IIII)Z"⟩, 52) := ⟨⟨by decide +kernel, by decide +kernel⟩, List.mem_of_getElem? (i := 1058) (by decide +kernel), List.mem_of_getElem? (i := 1418) (by decide +kernel), List.mem_of_getElem? (i := 1419) (by decide +kernel)⟩
theorem lw_p76 : lw_okq (⟨"PlanarFlowModel", "firstBetter", "()I"⟩, 52) := ⟨⟨by decide +kernel, by decide +kernel⟩, List.mem_of_getElem? (i := 1058) (by decide +kernel), List.mem_of_getElem? (i := 1422) (by decide +kernel), List.mem_of_getElem? (i := 1423) (by decide +kernel)⟩
theorem lw_p77 : lw_okq (⟨"PlanarFlowModel", "ahead", "(I)I"⟩, 52) := ⟨⟨by decide +kernel, by decide +kernel⟩, List.mem_of_getElem? (i := 1058) (by decide +kernel), List.mem_of_getElem? (i := 1426) (by decide +kernel), List.mem_of_getElem? (i := 1427) (by decide +kernel)⟩
theorem lw_p78 : lw_okq (⟨"PlanarFlowModel", "areTwo", "(II)Z"⟩, 52) := ⟨⟨by decide +kernel, by decide +kernel⟩, List.mem_of_getElem? (i := 1058) (by decide +kernel), List.mem_of_getElem? (i := 1434) (by decide +kernel), List.mem_of_getElem? (i := 1435) (by decide +kernel)⟩
theorem lw_p79 : lw_okq (⟨"PlanarFlowModel", "valueOf", "(II)I"⟩, 52) := ⟨⟨by decide +kernel, by decide +kernel⟩, List.mem_of_getElem? (i := 1058) (by decide +kernel), List.mem_of_getElem? (i := 1438) (by decide +kernel), List.mem_of_getElem? (i := 1439) (by decide +kernel)⟩
def lw_privs_5 : List (MethodName × Nat) := [(⟨"PlanarFlowModel", "isFace", "(I)Z"⟩, 52), (⟨"PlanarFlowModel", "isAround", "(II)Z"⟩, 52), (⟨"PlanarFlowModel", "canCirculate", "()Z"⟩, 52), (⟨"PlanarFlowModel", "laysCosts", "(IZ)Z"⟩, 52), (⟨"PlanarFlowModel", "leftNow", "(I)I"⟩, 52), (⟨"PlanarFlowModel", "rightNow", "(I)I"⟩, 52), (⟨"PlanarFlowModel", "relaxes", "(III)Z"⟩, 52), (⟨"PlanarFlowModel", "isLess", "(III)Z"⟩, 52), (⟨"PlanarFlowModel", "nextEdge", "(I)I"⟩, 52), (⟨"PlanarFlowModel", "laysRing", "()Z"⟩, 52), (⟨"PlanarFlowModel", "faces", "()I"⟩, 52), (⟨"PlanarFlowModel", "betters", "(IIII)Z"⟩, 52), (⟨"PlanarFlowModel", "firstBetter", "()I"⟩, 52), (⟨"PlanarFlowModel", "ahead", "(I)I"⟩, 52), (⟨"PlanarFlowModel", "areTwo", "(II)Z"⟩, 52), (⟨"PlanarFlowModel", "valueOf", "(II)I"⟩, 52)]
theorem lw_r5 : ∀ q ∈ lw_privs_5, lw_okq q := List.forall_mem_cons.mpr ⟨lw_p64, List.forall_mem_cons.mpr ⟨lw_p65, List.forall_mem_cons.mpr ⟨lw_p66, List.forall_mem_cons.mpr ⟨lw_p67, List.forall_mem_cons.mpr ⟨lw_p68, List.forall_mem_cons.mpr ⟨lw_p69, List.forall_mem_cons.mpr ⟨lw_p70, List.forall_mem_cons.mpr ⟨lw_p71, List.forall_mem_cons.mpr ⟨lw_p72, List.forall_mem_cons.mpr ⟨lw_p73, List.forall_mem_cons.mpr ⟨lw_p74, List.forall_mem_cons.mpr ⟨lw_p75, List.forall_mem_cons.mpr ⟨lw_p76, List.forall_mem_cons.mpr ⟨lw_p77, List.forall_mem_cons.mpr ⟨lw_p78, List.forall_mem_cons.mpr ⟨lw_p79, fun _ h => absurd h List.not_mem_nil⟩⟩⟩⟩⟩⟩⟩⟩⟩⟩⟩⟩⟩⟩⟩⟩
theorem lw_p80 : lw_okq (⟨"PlanarFlowModel", "circulates0", "()Z"⟩, 52) := ⟨⟨by decide +kernel, by decide +kernel⟩, List.mem_of_getElem? (i := 1058) (by decide +kernel), List.mem_of_getElem? (i := 1442) (by decide +kernel), List.mem_of_getElem? (i := 1443) (by decide +kernel)⟩
theorem lw_p81 : lw_okq (⟨"PlanarFlowModel", "flowsMore", "(III)I"⟩, 52) := ⟨⟨by decide +kernel, by decide +kernel⟩, List.mem_of_getElem? (i := 1058) (by decide +kernel), List.mem_of_getElem? (i := 1446) (by decide +kernel), List.mem_of_getElem? (i := 1447) (by decide +kernel)⟩
theorem lw_p82 : lw_okq (⟨"PlanarFlowModel", "search", "(II)Z"⟩, 52) := ⟨⟨by decide +kernel, by decide +kernel⟩, List.mem_of_getElem? (i := 1058) (by decide +kernel), List.mem_of_getElem? (i := 1450) (by decide +kernel), List.mem_of_getElem? (i := 1451) (by decide +kernel)⟩
theorem lw_p83 : lw_okq (⟨"PlanarFlowModel", "edgeAt", "(II)I"⟩, 52) := ⟨⟨by decide +kernel, by decide +kernel⟩, List.mem_of_getElem? (i := 1058) (by decide +kernel), List.mem_of_getElem? (i := 1454) (by decide +kernel), List.mem_of_getElem? (i := 1455) (by decide +kernel)⟩
theorem lw_p84 : lw_okq (⟨"PlanarFlowModel", "otherEnd", "(II)I"⟩, 52) := ⟨⟨by decide +kernel, by decide +kernel⟩, List.mem_of_getElem? (i := 1058) (by decide +kernel), List.mem_of_getElem? (i := 1458) (by decide +kernel), List.mem_of_getElem? (i := 1459) (by decide +kernel)⟩
theorem lw_p85 : lw_okq (⟨"PlanarFlowModel", "leftOn", "(IZ)I"⟩, 52) := ⟨⟨by decide +kernel, by decide +kernel⟩, List.mem_of_getElem? (i := 1058) (by decide +kernel), List.mem_of_getElem? (i := 1462) (by decide +kernel), List.mem_of_getElem? (i := 1463) (by decide +kernel)⟩
theorem lw_p86 : lw_okq (⟨"PlanarFlowModel", "isEnd", "(II)Z"⟩, 52) := ⟨⟨by decide +kernel, by decide +kernel⟩, List.mem_of_getElem? (i := 1058) (by decide +kernel), List.mem_of_getElem? (i := 1466) (by decide +kernel), List.mem_of_getElem? (i := 1467) (by decide +kernel)⟩
theorem lw_p87 : lw_okq (⟨"PlanarFlowModel", "leastOnWay", "()I"⟩, 52) := ⟨⟨by decide +kernel, by decide +kernel⟩, List.mem_of_getElem? (i := 1058) (by decide +kernel), List.mem_of_getElem? (i := 1470) (by decide +kernel), List.mem_of_getElem? (i := 1471) (by decide +kernel)⟩
theorem lw_p88 : lw_okq (⟨"PlanarFlowModel", "pushes", "(I)V"⟩, 52) := ⟨⟨by decide +kernel, by decide +kernel⟩, List.mem_of_getElem? (i := 1058) (by decide +kernel), List.mem_of_getElem? (i := 1474) (by decide +kernel), List.mem_of_getElem? (i := 1475) (by decide +kernel)⟩
theorem lw_p89 : lw_okq (⟨"PlanarFlowModel", "givesNothing", "()V"⟩, 52) := ⟨⟨by decide +kernel, by decide +kernel⟩, List.mem_of_getElem? (i := 1058) (by decide +kernel), List.mem_of_getElem? (i := 1478) (by decide +kernel), List.mem_of_getElem? (i := 1479) (by decide +kernel)⟩
theorem lw_p90 : lw_okq (⟨"PlanarFlowModel", "isTold", "(II)V"⟩, 52) := ⟨⟨by decide +kernel, by decide +kernel⟩, List.mem_of_getElem? (i := 1058) (by decide +kernel), List.mem_of_getElem? (i := 1482) (by decide +kernel), List.mem_of_getElem? (i := 1483) (by decide +kernel)⟩
theorem lw_p91 : lw_okq (⟨"PlanarFlowModel", "canCut", "(I)Z"⟩, 52) := ⟨⟨by decide +kernel, by decide +kernel⟩, List.mem_of_getElem? (i := 1058) (by decide +kernel), List.mem_of_getElem? (i := 1506) (by decide +kernel), List.mem_of_getElem? (i := 1507) (by decide +kernel)⟩
theorem lw_p92 : lw_okq (⟨"PlanarFlowModel", "laysSide", "(I)V"⟩, 52) := ⟨⟨by decide +kernel, by decide +kernel⟩, List.mem_of_getElem? (i := 1058) (by decide +kernel), List.mem_of_getElem? (i := 1510) (by decide +kernel), List.mem_of_getElem? (i := 1511) (by decide +kernel)⟩
theorem lw_p93 : lw_okq (⟨"PlanarFlowModel", "laysSet", "(IZ)V"⟩, 52) := ⟨⟨by decide +kernel, by decide +kernel⟩, List.mem_of_getElem? (i := 1058) (by decide +kernel), List.mem_of_getElem? (i := 1514) (by decide +kernel), List.mem_of_getElem? (i := 1515) (by decide +kernel)⟩
theorem lw_p94 : lw_okq (⟨"PlanarFlowModel", "leftTold", "(IZ)I"⟩, 52) := ⟨⟨by decide +kernel, by decide +kernel⟩, List.mem_of_getElem? (i := 1058) (by decide +kernel), List.mem_of_getElem? (i := 1518) (by decide +kernel), List.mem_of_getElem? (i := 1519) (by decide +kernel)⟩
theorem lw_p95 : lw_okq (⟨"PlanarFlowModel", "isCut", "(I)Z"⟩, 52) := ⟨⟨by decide +kernel, by decide +kernel⟩, List.mem_of_getElem? (i := 1058) (by decide +kernel), List.mem_of_getElem? (i := 1522) (by decide +kernel), List.mem_of_getElem? (i := 1523) (by decide +kernel)⟩
def lw_privs_6 : List (MethodName × Nat) := [(⟨"PlanarFlowModel", "circulates0", "()Z"⟩, 52), (⟨"PlanarFlowModel", "flowsMore", "(III)I"⟩, 52), (⟨"PlanarFlowModel", "search", "(II)Z"⟩, 52), (⟨"PlanarFlowModel", "edgeAt", "(II)I"⟩, 52), (⟨"PlanarFlowModel", "otherEnd", "(II)I"⟩, 52), (⟨"PlanarFlowModel", "leftOn", "(IZ)I"⟩, 52), (⟨"PlanarFlowModel", "isEnd", "(II)Z"⟩, 52), (⟨"PlanarFlowModel", "leastOnWay", "()I"⟩, 52), (⟨"PlanarFlowModel", "pushes", "(I)V"⟩, 52), (⟨"PlanarFlowModel", "givesNothing", "()V"⟩, 52), (⟨"PlanarFlowModel", "isTold", "(II)V"⟩, 52), (⟨"PlanarFlowModel", "canCut", "(I)Z"⟩, 52), (⟨"PlanarFlowModel", "laysSide", "(I)V"⟩, 52), (⟨"PlanarFlowModel", "laysSet", "(IZ)V"⟩, 52), (⟨"PlanarFlowModel", "leftTold", "(IZ)I"⟩, 52), (⟨"PlanarFlowModel", "isCut", "(I)Z"⟩, 52)]
theorem lw_r6 : ∀ q ∈ lw_privs_6, lw_okq q := List.forall_mem_cons.mpr ⟨lw_p80, List.forall_mem_cons.mpr ⟨lw_p81, List.forall_mem_cons.mpr ⟨lw_p82, List.forall_mem_cons.mpr ⟨lw_p83, List.forall_mem_cons.mpr ⟨lw_p84, List.forall_mem_cons.mpr ⟨lw_p85, List.forall_mem_cons.mpr ⟨lw_p86, List.forall_mem_cons.mpr ⟨lw_p87, List.forall_mem_cons.mpr ⟨lw_p88, List.forall_mem_cons.mpr ⟨lw_p89, List.forall_mem_cons.mpr ⟨lw_p90, List.forall_mem_cons.mpr ⟨lw_p91, List.forall_mem_cons.mpr ⟨lw_p92, List.forall_mem_cons.mpr ⟨lw_p93, List.forall_mem_cons.mpr ⟨lw_p94, List.forall_mem_cons.mpr ⟨lw_p95, fun _ h => absurd h List.not_mem_nil⟩⟩⟩⟩⟩⟩⟩⟩⟩⟩⟩⟩⟩⟩⟩⟩
theorem lw_p96 : lw_okq (⟨"PlanarFlowModel", "areBeside", "(II)Z"⟩, 52) := ⟨⟨by decide +kernel, by decide +kernel⟩, List.mem_of_getElem? (i := 1058) (by decide +kernel), List.mem_of_getElem? (i := 1530) (by decide +kernel), List.mem_of_getElem? (i := 1531) (by decide +kernel)⟩
theorem lw_p97 : lw_okq (⟨"PlanarFlowModel", "isOutside", "(I)Z"⟩, 52) := ⟨⟨by decide +kernel, by decide +kernel⟩, List.mem_of_getElem? (i := 1058) (by decide +kernel), List.mem_of_getElem? (i := 1538) (by decide +kernel), List.mem_of_getElem? (i := 1539) (by decide +kernel)⟩
theorem lw_p98 : lw_okq (⟨"PlanarFlowModel", "edgeClockwise", "(I)I"⟩, 52) := ⟨⟨by decide +kernel, by decide +kernel⟩, List.mem_of_getElem? (i := 1058) (by decide +kernel), List.mem_of_getElem? (i := 1542) (by decide +kernel), List.mem_of_getElem? (i := 1543) (by decide +kernel)⟩
theorem lw_p99 : lw_okq (⟨"PlanarFlowModel", "isAt", "(II)Z"⟩, 52) := ⟨⟨by decide +kernel, by decide +kernel⟩, List.mem_of_getElem? (i := 1058) (by decide +kernel), List.mem_of_getElem? (i := 1550) (by decide +kernel), List.mem_of_getElem? (i := 1551) (by decide +kernel)⟩
theorem lw_p100 : lw_okq (⟨"PlanarFlowModel", "meets", "(I)I"⟩, 52) := ⟨⟨by decide +kernel, by decide +kernel⟩, List.mem_of_getElem? (i := 1058) (by decide +kernel), List.mem_of_getElem? (i := 1562) (by decide +kernel), List.mem_of_getElem? (i := 1563) (by decide +kernel)⟩
theorem lw_p101 : lw_okq (⟨"PlanarFlowModel", "valueBy", "(IIIII)I"⟩, 52) := ⟨⟨by decide +kernel, by decide +kernel⟩, List.mem_of_getElem? (i := 1058) (by decide +kernel), List.mem_of_getElem? (i := 1574) (by decide +kernel), List.mem_of_getElem? (i := 1575) (by decide +kernel)⟩
theorem lw_p102 : lw_okq (⟨"PlanarFlowModel", "aslant", "()I"⟩, 52) := ⟨⟨by decide +kernel, by decide +kernel⟩, List.mem_of_getElem? (i := 1058) (by decide +kernel), List.mem_of_getElem? (i := 1598) (by decide +kernel), List.mem_of_getElem? (i := 1599) (by decide +kernel)⟩
theorem lw_p103 : lw_okq (⟨"PlanarFlowModel", "allBears", "()I"⟩, 52) := ⟨⟨by decide +kernel, by decide +kernel⟩, List.mem_of_getElem? (i := 1058) (by decide +kernel), List.mem_of_getElem? (i := 1602) (by decide +kernel), List.mem_of_getElem? (i := 1603) (by decide +kernel)⟩
theorem lw_p104 : lw_okq (⟨"PlanarFlowModel", "supplied", "(I)I"⟩, 52) := ⟨⟨by decide +kernel, by decide +kernel⟩, List.mem_of_getElem? (i := 1058) (by decide +kernel), List.mem_of_getElem? (i := 1606) (by decide +kernel), List.mem_of_getElem? (i := 1607) (by decide +kernel)⟩
def lw_privs_7 : List (MethodName × Nat) := [(⟨"PlanarFlowModel", "areBeside", "(II)Z"⟩, 52), (⟨"PlanarFlowModel", "isOutside", "(I)Z"⟩, 52), (⟨"PlanarFlowModel", "edgeClockwise", "(I)I"⟩, 52), (⟨"PlanarFlowModel", "isAt", "(II)Z"⟩, 52), (⟨"PlanarFlowModel", "meets", "(I)I"⟩, 52), (⟨"PlanarFlowModel", "valueBy", "(IIIII)I"⟩, 52), (⟨"PlanarFlowModel", "aslant", "()I"⟩, 52), (⟨"PlanarFlowModel", "allBears", "()I"⟩, 52), (⟨"PlanarFlowModel", "supplied", "(I)I"⟩, 52)]
theorem lw_r7 : ∀ q ∈ lw_privs_7, lw_okq q := List.forall_mem_cons.mpr ⟨lw_p96, List.forall_mem_cons.mpr ⟨lw_p97, List.forall_mem_cons.mpr ⟨lw_p98, List.forall_mem_cons.mpr ⟨lw_p99, List.forall_mem_cons.mpr ⟨lw_p100, List.forall_mem_cons.mpr ⟨lw_p101, List.forall_mem_cons.mpr ⟨lw_p102, List.forall_mem_cons.mpr ⟨lw_p103, List.forall_mem_cons.mpr ⟨lw_p104, fun _ h => absurd h List.not_mem_nil⟩⟩⟩⟩⟩⟩⟩⟩⟩
def lw_privs : List (MethodName × Nat) := lw_privs_1 ++ (lw_privs_2 ++ (lw_privs_3 ++ (lw_privs_4 ++ (lw_privs_5 ++ (lw_privs_6 ++ (lw_privs_7))))))
def lw_tbl : List Cond := k2_sels lw_privs ++ tables_1
theorem lw_privs_ok : ∀ q ∈ lw_privs, lw_okq q := by
  show ∀ q ∈ lw_privs_1 ++ (lw_privs_2 ++ (lw_privs_3 ++ (lw_privs_4 ++ (lw_privs_5 ++ (lw_privs_6 ++ (lw_privs_7)))))), lw_okq q
  exact List.forall_mem_append.mpr ⟨lw_r1, List.forall_mem_append.mpr ⟨lw_r2, List.forall_mem_append.mpr ⟨lw_r3, List.forall_mem_append.mpr ⟨lw_r4, List.forall_mem_append.mpr ⟨lw_r5, List.forall_mem_append.mpr ⟨lw_r6, lw_r7⟩⟩⟩⟩⟩⟩
/-! ===== BEGIN words of one list among another's, by their places ===== -/
theorem goodIn_r {big : List Cond} (ws : List Cond) (ps : List Nat) (hp : ws = ps.filterMap (fun i => big[i]?)) (h : ws.all goodWord = true) : GoodIn big ws := by
  intro w hw
  have h1 := List.all_eq_true.mp h w hw
  rw [hp] at hw
  obtain ⟨i, -, hi⟩ := List.mem_filterMap.mp hw
  have hm : w ∈ big := by first | exact List.mem_of_getElem? hi | exact List.getElem?_mem hi
  exact ⟨hm, good_of_word h1⟩
theorem goodIn_app {big a b : List Cond} (ha : GoodIn big a) (hb : GoodIn big b) : GoodIn big (a ++ b) := fun w h => (List.mem_append.mp h).elim (ha w) (hb w)
theorem goodIn_ca {big a b : List Cond} {c : Cond} (ha : GoodIn big (c :: a)) (hb : GoodIn big b) : GoodIn big (c :: (a ++ b)) := fun w h => (List.mem_cons.mp h).elim (fun e => ha w (List.mem_cons.mpr (Or.inl e))) (fun h => (List.mem_append.mp h).elim (fun h => ha w (List.mem_cons.mpr (Or.inr h))) (hb w))
theorem goodIn_sub {big ws : List Cond} (hm : ∀ w ∈ ws, w ∈ big) (h : ws.all goodWord = true) : GoodIn big ws := fun w hw => ⟨hm w hw, good_of_word (List.all_eq_true.mp h w hw)⟩
/-! ===== END ===== -/

/-! ===== BEGIN exceptions that leave a method, and their catching by the caller (launches without stack traces) ===== -/
section VXA
/-! The laws vx_back, vx_callV, vx_callS, vx_callSW, vx_throw0, vx_throwS follow proofs of the library, with one case more: JvmDerived/Free/Laws.lean (Back.of_free), Shelf42/LK1.lean (callV, callS), Shelf/KitTraced.lean (throwNew0V, throwNewS). -/
/-- where a method has thrown q: the class by its name, the cell, what was written, the world -/
def vx_T (XC : String → State → State → Prop) (st : State) (q : Addr) (t : State) (mc ms : Nat) (free : Addr → Prop) : Prop :=
  ∃ (E : String) (ce : Cell) (L : List Loc), XC E st t ∧ t.heap[q]? = some ce ∧ ce.vm = .none ∧ st.vm.findClass E = some ce.cls ∧ st.WarmedH t.vm ∧ st.sameButNew ({ t with vm := st.vm } : State) L mc ms ∧ ∀ z ∈ L, free z.base
def vx_Q (Qc : Array Value → State → Outcome → State → Prop) (XC : String → State → State → Prop) (mc ms : Nat) (free : Addr → Prop) : Array Value → State → Outcome → State → Prop := fun a st o t =>
  (Qc a st o t ∧ ∃ L, FrameEnd st o t L mc ms ∧ ∀ q ∈ L, free q.base) ∨ ∃ q, o = .threw q ∧ vx_T XC st q t mc ms free
/-- a callee that returns or throws -/
def vx_Met (l : Launch) (y : MethodName) (ws : List Cond) (rm : Room) (Pc : Array Value → State → Prop) (Qc : Array Value → State → Outcome → State → Prop) (XC : String → State → State → Prop) (mc ms : Nat) (free : Addr → Prop) : Prop :=
  MetFree l y (headSpec ws rm) Pc (fun _ _ _ _ _ => True) (vx_Q Qc XC mc ms free)
def vx_Post (XC : String → State → State → Prop) (mc ms : Nat) (free : Addr → Prop) : Pt → Array Value → Addr → Pt → Prop := fun A a q B =>
  ∃ (g : JFrame) (mk : MethodId) (t : State) (L : List Loc) (E : String) (ce : Cell), B.U.heap = t.heap ∧ B.U.vm = t.vm ∧ XC E (A.U.calling g mk a) t ∧ t.heap[q]? = some ce ∧ ce.vm = .none ∧ A.U.vm.findClass E = some ce.cls ∧ B.locs = A.locs ++ L ∧ (∀ z ∈ L, free z.base) ∧ B.cells = A.cells + mc ∧ B.slots = A.slots + ms
def vx_Back (l : Launch) (R : Room) (p : Program) (e : Env) (below : List Frame) (s : State) (sargs : Array Value) (y : MethodName) (len W9 : Nat)
    (Pre : Pt → Array Value → Prop) (Post : Pt → Array Value → Option Value → Pt → Prop) (PostX : Pt → Array Value → Addr → Pt → Prop) : Prop :=
  ∀ (m : MethodId) (meth : Method) (c : Code) (A : Pt) (g : JFrame) (ig : Instr) (mk : MethodId) (a : Array Value),
    Stand p l e R s m sargs below meth c A.U A.locs A.cells A.slots → g.method = m → g.locals.size = c.maxLocals → decode c.code g.pc = .ok (ig, len) →
    2 * g.monitorRoom + (g.stack.map fun v => v.category).sum ≤ W9 → A.U.methodNamed? y = some mk → Pre A a →
    (∃ (v : Option Value) (B : Pt), Stand p l e R s m sargs below meth c B.U B.locs B.cells B.slots ∧ Post A a v B ∧
      Steps p.tables e below (doInvoke e (A.U.setTop g) [] mk a).1 (B.U.setTop { g with pc := g.pc + len, stack := v.toList ++ g.stack })) ∨
    (∃ (q : Addr) (B : Pt), Stand p l e R s m sargs below meth c B.U B.locs B.cells B.slots ∧ PostX A a q B ∧
      Steps p.tables e below (doInvoke e (A.U.setTop g) [] mk a).1 ((B.U.setTop g).pushFrame (.throwing q)))
section Payer
variable {l : Launch} {R : Room} {p : Program} {e : Env} {below : List Frame} {s : State} {sargs : Array Value} {y : MethodName} {len W9 : Nat}
theorem vx_back {ws : List Cond} {rm : Room} {Pc : Array Value → State → Prop} {Qc : Array Value → State → Outcome → State → Prop} {XC : String → State → State → Prop} {mc ms : Nat} {free : Addr → Prop} {bytes : ByteArray} {maxL : Nat} {ret : Option FieldType}
    (hM : vx_Met l y ws rm Pc Qc XC mc ms free) (hblind : FrameBlind Pc) (hrc : rm.cells = mc) (hrs : rm.slots = ms)
    (hframes : rm.frames + 1 ≤ R.frames) (hlocals : W9 + (maxL + 11) + rm.locals ≤ R.locals)
    (hws : ∀ w ∈ ws, ∀ a' U, s.WarmedH U.vm → w.before a' U = true) (hcode : Cond.code y bytes maxL ret ∈ ws) (hinit : ∀ a' U, s.WarmedH U.vm → (Cond.initialized y.cls).before a' U = true) :
    vx_Back l R p e below s sargs y len W9 (PreOf R mc ms Pc) (PostOf Qc mc ms free) (vx_Post XC mc ms free) := by
  intro m meth c A g ig mk a X hg hsize hdg hW hn hp
  have h1 : (headSpec ws rm).pre.before a A.U = true := atoms_intro fun w hw => hws w hw _ _ X.warmed
  have h2 : (Cond.code y bytes maxL ret).before a A.U = true := hws _ hcode _ _ X.warmed
  have h3 : (Cond.initialized y.cls).before a A.U = true := hinit _ _ X.warmed
  have h4 : A.cells + (headSpec ws rm).room.cells ≤ R.cells := by rw [show (headSpec ws rm).room.cells = mc from hrc]; exact hp.1
  have h5 : A.slots + (headSpec ws rm).room.slots ≤ R.slots := by rw [show (headSpec ws rm).room.slots = ms from hrs]; exact hp.2.1
  have hPc : Pc a (A.U.calling g mk a) := hblind _ _ _ _ hp.2.2
  obtain ⟨U, Ls, c0, s0⟩ := A
  dsimp only [Pt.U, Pt.locs, Pt.cells, Pt.slots] at h1 h2 h3 h4 h5 X hn hPc ⊢
  obtain ⟨methY, cY, hmY, hcY, -, hlY, -, -, -, -⟩ := Cond.code_spec hn h2
  obtain ⟨kY, hkY, -⟩ := className_of_methodNamed hn
  have hinitY : kY.init = .initialized := Cond.initialized_spec (findClass_of_methodNamed hn) hkY h3
  have h : At U g.method c below := by rw [hg]; exact X.here
  have hlocals9 : W9 + (maxL + 11) + (headSpec ws rm).room.locals ≤ R.locals := hlocals
  have happ : (headSpec ws rm).appliesLoose y e.platform (U.calling g mk a) = true :=
    Spec.appliesLoose_calling (g := g) h hdg hn hkY hinitY
      (X.room_calling (g := g) (R' := (headSpec ws rm).room) hsize hmY hcY hframes (by rw [hlY]; omega) h4 h5) h1
  obtain ⟨mid, hmid⟩ := h.above
  have hfr : (U.setTop g).frames = (.java g :: mid) ++ below := by rw [State.frames_setTop' g h.top, hmid]; rfl
  obtain ⟨o, s₂, hsteps, -, hend, hq⟩ := Steps.callFree hM p X.admits X.cas X.clock (acts := []) hfr happ hPc trivial
  have hq' : vx_Q Qc XC mc ms free a (U.calling g mk a) o s₂ := hq
  rw [State.frames_setTop' g h.top] at hend
  obtain ⟨g₀, hg0⟩ := Option.isSome_iff_exists.mp h.top
  obtain ⟨r, hr⟩ := State.topJava?_eq_some.mp hg0
  have hr' : (({ U with heap := s₂.heap, slotsUsed := s₂.slotsUsed } : State).setVm s₂.vm).frames = .java g₀ :: r := hr
  rcases hq' with ⟨hqc, L, hfe, hL⟩ | ⟨q, rfl, E, ce, L, hx, hce, hcv, hcl, hW₂, hsm, hL⟩
  · obtain ⟨⟨v, rfl⟩, hW₂, e2, q2, q3, q4, q5, q6⟩ := id hfe
    have e3 : s₂ = ({ (U.calling g mk a).setFrames s₂.frames with heap := s₂.heap, slotsUsed := s₂.slotsUsed } : State).setVm s₂.vm := by
      have : s₂ = ({ s₂ with vm := (U.calling g mk a).vm } : State).setVm s₂.vm := rfl
      rw [e2] at this
      exact this
    obtain ⟨c₂, i₂, len₂, hc₂, hd₂, hf₂⟩ := hend
    have hW' : U.WarmedH s₂.vm := hW₂
    have hcc : c₂ = c := by
      have h1 : s₂.code? g.method = U.code? g.method := by
        rw [State.code?_eq, State.code?_eq, hW'.alike.method?]
      exact Option.some.inj (hc₂.symm.trans (h1.trans h.code))
    subst hcc
    have hlen : len₂ = len := by rw [hdg] at hd₂; cases hd₂; rfl
    subst hlen
    have hs₂ : s₂ = (({ U with heap := s₂.heap, slotsUsed := s₂.slotsUsed } : State).setVm s₂.vm).setTop { g with pc := g.pc + len₂, stack := v.toList ++ g.stack } := by
      refine e3.trans ?_
      rw [hf₂, State.calling_eq h.top, State.setFrames_setFrames, State.setTop_of_frames _ hr', hr]
      rfl
    have hsame : U.sameButNew ({ U with heap := s₂.heap, slotsUsed := s₂.slotsUsed } : State) L mc ms := by
      refine ⟨?_, q2, q3, q4, q5, q6⟩
      obtain ⟨t, ht, -⟩ := State.frames_cons hr
      show ({ U with heap := s₂.heap, slotsUsed := s₂.slotsUsed } : State) = { U.setFrames U.frames with heap := s₂.heap, slotsUsed := s₂.slotsUsed }
      rw [State.setFrames_self ht]
    subst hg
    refine Or.inl ⟨v, ⟨(({ U with heap := s₂.heap, slotsUsed := s₂.slotsUsed } : State).setVm s₂.vm), Ls ++ L, c0 + mc, s0 + ms⟩,
      ⟨X.admits, X.cas, X.clock, X.frames, X.room, X.hears, X.method, X.code, (X.here.setHeapUsed s₂.heap s₂.slotsUsed).setVm hW'.alike, X.tail, State.WarmedH.trans X.warmed hW', X.limits, X.bytes, X.same.trans (hsame.setVm s.vm)⟩,
      ⟨g, mk, s₂, L, rfl, rfl, hqc, rfl, hL, rfl, rfl⟩, ?_⟩
    show Steps p.tables e below _ ((({ U with heap := s₂.heap, slotsUsed := s₂.slotsUsed } : State).setVm s₂.vm).setTop { g with pc := g.pc + len₂, stack := v.toList ++ g.stack })
    rw [← hs₂]
    exact hsteps
  · obtain ⟨e2, q2, q3, q4, q5, q6⟩ := id hsm
    have e3 : s₂ = ({ (U.calling g mk a).setFrames s₂.frames with heap := s₂.heap, slotsUsed := s₂.slotsUsed } : State).setVm s₂.vm := by
      have : s₂ = ({ s₂ with vm := (U.calling g mk a).vm } : State).setVm s₂.vm := rfl
      rw [e2] at this
      exact this
    have hf₂ : s₂.frames = .throwing q :: .java g :: U.frames.tail := hend
    have hW' : U.WarmedH s₂.vm := hW₂
    have hs₂ : s₂ = ((({ U with heap := s₂.heap, slotsUsed := s₂.slotsUsed } : State).setVm s₂.vm).setTop g).pushFrame (.throwing q) := by
      refine e3.trans ?_
      rw [hf₂, State.calling_eq h.top, State.setFrames_setFrames, State.pushFrame, State.frames_setTop _ hr', State.setTop_of_frames _ hr', State.setFrames_setFrames, hr]
      rfl
    have hsame : U.sameButNew ({ U with heap := s₂.heap, slotsUsed := s₂.slotsUsed } : State) L mc ms := by
      refine ⟨?_, q2, q3, q4, q5, q6⟩
      obtain ⟨t, ht, -⟩ := State.frames_cons hr
      show ({ U with heap := s₂.heap, slotsUsed := s₂.slotsUsed } : State) = { U.setFrames U.frames with heap := s₂.heap, slotsUsed := s₂.slotsUsed }
      rw [State.setFrames_self ht]
    subst hg
    refine Or.inr ⟨q, ⟨(({ U with heap := s₂.heap, slotsUsed := s₂.slotsUsed } : State).setVm s₂.vm), Ls ++ L, c0 + mc, s0 + ms⟩,
      ⟨X.admits, X.cas, X.clock, X.frames, X.room, X.hears, X.method, X.code, (X.here.setHeapUsed s₂.heap s₂.slotsUsed).setVm hW'.alike, X.tail, State.WarmedH.trans X.warmed hW', X.limits, X.bytes, X.same.trans (hsame.setVm s.vm)⟩,
      ⟨g, mk, s₂, L, E, ce, rfl, rfl, hx, hce, hcv, hcl, rfl, hL, rfl, rfl⟩, ?_⟩
    show Steps p.tables e below _ (((({ U with heap := s₂.heap, slotsUsed := s₂.slotsUsed } : State).setVm s₂.vm).setTop g).pushFrame (.throwing q))
    rw [← hs₂]
    exact hsteps
end Payer
section Calls
variable {p : Program} {l : Launch} {e : Env} {R : Room} {s : State} {m : MethodId} {args : Array Value} {below : List Frame} {meth : Method} {c : Code} {T : State} {locs : List Loc} {cells slots : Nat}
theorem vx_callV (X : Stand p l e R s m args below meth c T locs cells slots) (hexec : p.tables.exec = Jvm.exec) {own C : String} {index : Nat} {y : MethodName} {bytes : ByteArray} {maxL : Nat} {ret : Option FieldType}
    (hown : s.vm.findClass own = some m.cls) (hlink : (Cond.methodLink own index y).before args s = true) (hinst : (Cond.instanceMethod y).before args s = true) (hsel : (Cond.selects C y y).before args s = true)
    (hcode : (Cond.code y bytes maxL ret).before args s = true) (hy : y.cls ≠ "java/lang/invoke/MethodHandle" ∧ y.cls ≠ "java/lang/invoke/VarHandle")
    {W9 : Nat} {Pre : Pt → Array Value → Prop} {Post : Pt → Array Value → Option Value → Pt → Prop} {PostX : Pt → Array Value → Addr → Pt → Prop} (hK : vx_Back l R p e below s args y 3 W9 Pre Post PostX)
    {b : Addr} {cellB : Cell} (hcell : T.heap[b]? = some cellB) (hobj : cellB.vm.isStatics = false) (hcls : s.vm.findClass C = some cellB.cls)
    {g : JFrame} (hg : g.method = m) (hsize : g.locals.size = c.maxLocals) {argsL rest : List Value} (hlen : ∀ sig, parseMethodDescriptor y.desc = some sig → argsL.length = sig.parameters.length)
    (hstack : g.stack = argsL.reverse ++ .ref b :: rest) (hW : 2 * g.monitorRoom + (rest.map fun v => v.category).sum ≤ W9) (hdg : decode c.code g.pc = .ok (.invokevirtual index, 3))
    (hpre : ∀ vm₁, s.WarmedH vm₁ → Pre ⟨T.setVm vm₁, locs, cells, slots⟩ (Value.ref b :: argsL).toArray) :
    (∃ (v : Option Value) (vm₁ : Vm) (B : Pt), s.WarmedH vm₁ ∧ Stand p l e R s m args below meth c B.U B.locs B.cells B.slots ∧ Post ⟨T.setVm vm₁, locs, cells, slots⟩ (Value.ref b :: argsL).toArray v B ∧
      ∀ target, Steps p.tables e below (B.U.setTop { g with pc := g.pc + 3, stack := v.toList ++ rest }) target → Steps p.tables e below (T.setTop g) target) ∨
    (∃ (q : Addr) (vm₁ : Vm) (B : Pt), s.WarmedH vm₁ ∧ Stand p l e R s m args below meth c B.U B.locs B.cells B.slots ∧ PostX ⟨T.setVm vm₁, locs, cells, slots⟩ (Value.ref b :: argsL).toArray q B ∧
      Steps p.tables e below (T.setTop g) ((B.U.setTop { g with stack := rest }).pushFrame (.throwing q))) := by
  obtain ⟨mk, methM, hnamed, hmethM, hstM, habM⟩ := Cond.instanceMethod_spec hinst
  obtain ⟨methM', cM, hmethM', -, -, -, -, -, -, hsigM⟩ := Cond.code_spec hnamed hcode
  cases hmethM.symm.trans hmethM'
  obtain ⟨c2, r2, m2, q1, q2, q3, q4, kP, hkP, hkPi⟩ := Cond.selects_spec hsel
  cases hcls.symm.trans q1
  cases (State.methodFound?_of_named hnamed hy).symm.trans q2
  cases hnamed.symm.trans q3
  have hselP : selectMethod e.platform s.vm cellB.cls mk = .method mk := by rw [Launch.admits_selectMethod X.admits]; exact q4
  obtain ⟨vm₁, X₁, hstep₁⟩ := X.invokevirtual hexec hown hlink hnamed hmethM hstM hkP hkPi hy (a := b) (cell := cellB) hcell
    (fun z h => by rw [h] at hobj; cases hobj) hselP hmethM habM hkP hkPi (g := g) hg (argsL := argsL) (rest := rest) (hlen _ hsigM) hstack hdg
  rcases hK m meth c ⟨T.setVm vm₁, locs, cells, slots⟩ { g with stack := rest } (.invokevirtual index) mk (Value.ref b :: argsL).toArray X₁ hg hsize hdg hW (X₁.named hnamed) (hpre vm₁ X₁.warmed) with ⟨v, B, X', hpost, hsteps⟩ | ⟨q, B, X', hpost, hsteps⟩
  · exact Or.inl ⟨v, vm₁, B, X₁.warmed, X', hpost, fun target h => hstep₁ _ fun acts => by rw [doInvoke_state]; exact hsteps.trans h⟩
  · exact Or.inr ⟨q, vm₁, B, X₁.warmed, X', hpost, hstep₁ _ fun acts => by rw [doInvoke_state]; exact hsteps⟩
theorem vx_callS (X : Stand p l e R s m args below meth c T locs cells slots) (hexec : p.tables.exec = Jvm.exec) {own : String} {index : Nat} {y : MethodName} {bytes : ByteArray} {maxL : Nat} {ret : Option FieldType}
    (hown : s.vm.findClass own = some m.cls) (hlink : (Cond.methodLink own index y).before args s = true) (hstat : (Cond.static y).before args s = true) (hinit : (Cond.initialized y.cls).before args s = true)
    (hcode : (Cond.code y bytes maxL ret).before args s = true) (hy : y.cls ≠ "java/lang/invoke/MethodHandle" ∧ y.cls ≠ "java/lang/invoke/VarHandle")
    {W9 : Nat} {Pre : Pt → Array Value → Prop} {Post : Pt → Array Value → Option Value → Pt → Prop} {PostX : Pt → Array Value → Addr → Pt → Prop} (hK : vx_Back l R p e below s args y 3 W9 Pre Post PostX)
    {g : JFrame} (hg : g.method = m) (hsize : g.locals.size = c.maxLocals) {argsL rest : List Value} (hlen : ∀ sig, parseMethodDescriptor y.desc = some sig → argsL.length = sig.parameters.length)
    (hstack : g.stack = argsL.reverse ++ rest) (hW : 2 * g.monitorRoom + (rest.map fun v => v.category).sum ≤ W9) (hdg : decode c.code g.pc = .ok (.invokestatic index, 3))
    (hpre : ∀ vm₁, s.WarmedH vm₁ → Pre ⟨T.setVm vm₁, locs, cells, slots⟩ argsL.toArray) :
    (∃ (v : Option Value) (vm₁ : Vm) (B : Pt), s.WarmedH vm₁ ∧ Stand p l e R s m args below meth c B.U B.locs B.cells B.slots ∧ Post ⟨T.setVm vm₁, locs, cells, slots⟩ argsL.toArray v B ∧
      ∀ target, Steps p.tables e below (B.U.setTop { g with pc := g.pc + 3, stack := v.toList ++ rest }) target → Steps p.tables e below (T.setTop g) target) ∨
    (∃ (q : Addr) (vm₁ : Vm) (B : Pt), s.WarmedH vm₁ ∧ Stand p l e R s m args below meth c B.U B.locs B.cells B.slots ∧ PostX ⟨T.setVm vm₁, locs, cells, slots⟩ argsL.toArray q B ∧
      Steps p.tables e below (T.setTop g) ((B.U.setTop { g with stack := rest }).pushFrame (.throwing q))) := by
  obtain ⟨mk, hnamed⟩ := Cond.code_named hcode
  obtain ⟨methM, cM, hmethM, -, -, -, -, -, -, hsigM⟩ := Cond.code_spec hnamed hcode
  have hstatic : methM.isStatic = true := Cond.static_spec hnamed hmethM hstat
  obtain ⟨kP, hkP, -⟩ := className_of_methodNamed hnamed
  have hinitP : kP.init = .initialized := Cond.initialized_spec (findClass_of_methodNamed hnamed) hkP hinit
  obtain ⟨vm₁, X₁, hstep₁⟩ := X.invokestatic hexec hown hlink hnamed hmethM hstatic hkP hinitP hy (g := g) hg (argsL := argsL) (rest := rest) (hlen _ hsigM) hstack hdg
  rcases hK m meth c ⟨T.setVm vm₁, locs, cells, slots⟩ { g with stack := rest } (.invokestatic index) mk argsL.toArray X₁ hg hsize hdg hW (X₁.named hnamed) (hpre vm₁ X₁.warmed) with ⟨v, B, X', hpost, hsteps⟩ | ⟨q, B, X', hpost, hsteps⟩
  · exact Or.inl ⟨v, vm₁, B, X₁.warmed, X', hpost, fun target h => hstep₁ _ fun acts => by rw [doInvoke_state]; exact hsteps.trans h⟩
  · exact Or.inr ⟨q, vm₁, B, X₁.warmed, X', hpost, hstep₁ _ fun acts => by rw [doInvoke_state]; exact hsteps⟩
end Calls
theorem vx_cls {s : State} {T : State} {vm₁ : Vm} {E : String} {k : ClassId} (hW : s.WarmedH vm₁) (h : (T.setVm vm₁).vm.findClass E = some k) : s.vm.findClass E = some k := by
  have h1 : vm₁.findClass E = some k := h
  rw [hW.alike.findClass] at h1
  exact h1
/-- the method's frame g, with q thrown over it -/
def vx_W (p : Program) (l : Launch) (e : Env) (R : Room) (s : State) (m : MethodId) (args : Array Value) (below : List Frame) (meth : Method) (c : Code) (H : Heap) (locs : List Loc) (cells slots : Nat) (Q : State → Prop) (g : JFrame) (q : Addr) : Prop :=
  ∀ T : State, T.heap = H → Stand p l e R s m args below meth c T locs cells slots → ∃ t, Steps p.tables e below ((T.setTop g).pushFrame (.throwing q)) t ∧ Q t
def vx_Run (p : Program) (l : Launch) (e : Env) (R : Room) (s : State) (m : MethodId) (args : Array Value) (below : List Frame) (meth : Method) (c : Code) (H : Heap) (locs : List Loc) (cells slots mc ms : Nat) (g : JFrame) (rest : List Value) (Qa : State → Outcome → State → Prop) (XC : String → State → State → Prop) (free : Addr → Prop) : Prop :=
  ∀ T : State, T.heap = H → Stand p l e R s m args below meth c T locs cells slots →
    (∃ (v : Option Value) (st₀ t T' : State) (L : List Loc), st₀.heap = H ∧ Stand p l e R s m args below meth c T' (locs ++ L) (cells + mc) (slots + ms) ∧ (∀ q ∈ L, free q.base) ∧ T'.heap = t.heap ∧ T'.vm = t.vm ∧ Qa st₀ (.returned v) t ∧
      Goes p e below T g T' { g with pc := g.pc + 3, stack := v.toList ++ rest }) ∨
    (∃ (q : Addr) (st₀ t T' : State) (L : List Loc) (E : String) (ce : Cell), st₀.heap = H ∧ Stand p l e R s m args below meth c T' (locs ++ L) (cells + mc) (slots + ms) ∧ (∀ z ∈ L, free z.base) ∧ T'.heap = t.heap ∧ T'.vm = t.vm ∧ XC E st₀ t ∧ t.heap[q]? = some ce ∧ ce.vm = .none ∧ s.vm.findClass E = some ce.cls ∧
      Steps p.tables e below (T.setTop g) ((T'.setTop { g with stack := rest }).pushFrame (.throwing q)))
def vx_X {S : Type} (px : S → Prop) (B : String → S → State → Prop) (A : Nat → Prop) : String → State → State → Prop := fun E st t => ∃ u : S, px u ∧ B E u t ∧ va_F A st t
section Runs
variable {p : Program} {l : Launch} {e : Env} {R : Room} {s : State} {m : MethodId} {args : Array Value} {below : List Frame} {meth : Method} {c : Code} {H : Heap} {locs : List Loc} {cells slots : Nat}
variable {y : MethodName} {bytes cc : ByteArray} {maxL nL mc ms n index : Nat} {ret : Option FieldType} {ws : List Cond} {rm : Room} {Pc : Array Value → State → Prop} {Qc : Array Value → State → Outcome → State → Prop} {XC : String → State → State → Prop} {free : Addr → Prop} {Ts : List Cond} {own C : String} {b : Addr} {As rest : List Value} {g : JFrame}
theorem vx_callBack (cb : CallB R s args own index y bytes maxL ret ws rm mc ms n) (hM : vx_Met l y ws rm Pc Qc XC mc ms free) (hbl : FrameBlind Pc) : vx_Back l R p e below s args y 3 8 (PreOf R mc ms Pc) (PostOf Qc mc ms free) (vx_Post XC mc ms free) := by
  obtain ⟨hrc, hrs, hfr, hlo, hws, hcw, -, hini, -⟩ := cb
  exact vx_back (bytes := bytes) (maxL := maxL) (ret := ret) hM hbl hrc hrs hfr hlo hws hcw (fun a' U hW => word_at hW (Or.inl (by first | rfl | simp [Cond.onTables, Cond.keeps, Cond.steady])) hini)
theorem vx_runV (S : CallFix p m c cc nL s args Ts own) (hM : vx_Met l y ws rm Pc Qc XC mc ms free) (cw : CallW R s args own C index y bytes maxL ret ws rm mc ms n) (hp : PreV s H C b Pc As)
    (hg : g.method = m) (hn : As.length = n) (hsize : g.locals.size = nL) (hstack : g.stack = As.reverse ++ .ref b :: rest) (hW : 2 * g.monitorRoom + (rest.map fun v => v.category).sum ≤ 8) (hdg : decode cc g.pc = .ok (.invokevirtual index, 3)) (hf : cells + mc ≤ R.cells ∧ slots + ms ≤ R.slots) :
    vx_Run p l e R s m args below meth c H locs cells slots mc ms g rest (Qc (Value.ref b :: As).toArray) XC free := by
  have hK : vx_Back l R p e below s args y 3 8 (PreOf R mc ms Pc) (PostOf Qc mc ms free) (vx_Post XC mc ms free) := vx_callBack cw.1 hM hp.1
  obtain ⟨⟨-, -, -, -, -, -, hcode, -, hy, hlen, hl⟩, hin, hse⟩ := cw
  obtain ⟨hx, hb, hml, ho, -⟩ := S
  obtain ⟨-, ⟨cellB, hcB, hoB, hclB⟩, hPc⟩ := hp
  intro T hT X
  rcases vx_callV X hx (C := C) (bytes := bytes) (maxL := maxL) (ret := ret) ho hl hin hse hcode hy hK (by rw [hT]; exact hcB) hoB hclB hg (hsize.trans hml.symm) (argsL := As) (rest := rest) (fun sig h => hn.trans (hlen sig h)) hstack hW (by rw [hb]; exact hdg)
    (fun vm₁ hW₁ => ⟨hf.1, hf.2, hPc (T.setVm vm₁) hT hW₁⟩) with ⟨v, vm₁, ⟨U', l2, c2, s2⟩, hW₁, X', ⟨g', mk, t, L, e1, e2, hq, h1, hL, h2, h3⟩, st⟩ | ⟨q, vm₁, ⟨U', l2, c2, s2⟩, hW₁, X', ⟨g', mk, t, L, E, ce, e1, e2, hq, hce, hcv, hcl, h1, hL, h2, h3⟩, st⟩
  · dsimp only [Pt.U, Pt.locs, Pt.cells, Pt.slots] at X' e1 e2 h1 h2 h3 st
    subst h1; subst h2; subst h3
    exact Or.inl ⟨v, (T.setVm vm₁).calling g' mk (Value.ref b :: As).toArray, t, U', L, hT, X', hL, e1, e2, hq, st⟩
  · dsimp only [Pt.U, Pt.locs, Pt.cells, Pt.slots] at X' e1 e2 h1 h2 h3 st hcl
    subst h1; subst h2; subst h3
    exact Or.inr ⟨q, (T.setVm vm₁).calling g' mk (Value.ref b :: As).toArray, t, U', L, E, ce, hT, X', hL, e1, e2, hq, hce, hcv, vx_cls hW₁ hcl, st⟩
theorem vx_runS (S : CallFix p m c cc nL s args Ts own) (hM : vx_Met l y ws rm Pc Qc XC mc ms free) (cw : CallB R s args own index y bytes maxL ret ws rm mc ms n ∧ (Cond.static y).before args s = true) (hp : PreS s H Pc As)
    (hg : g.method = m) (hn : As.length = n) (hsize : g.locals.size = nL) (hstack : g.stack = As.reverse ++ rest) (hW : 2 * g.monitorRoom + (rest.map fun v => v.category).sum ≤ 8) (hdg : decode cc g.pc = .ok (.invokestatic index, 3)) (hf : cells + mc ≤ R.cells ∧ slots + ms ≤ R.slots) :
    vx_Run p l e R s m args below meth c H locs cells slots mc ms g rest (Qc As.toArray) XC free := by
  have hK : vx_Back l R p e below s args y 3 8 (PreOf R mc ms Pc) (PostOf Qc mc ms free) (vx_Post XC mc ms free) := vx_callBack cw.1 hM hp.1
  obtain ⟨⟨-, -, -, -, -, -, hcode, hini, hy, hlen, hl⟩, hstt⟩ := cw
  obtain ⟨hx, hb, hml, ho, -⟩ := S
  intro T hT X
  rcases vx_callS X hx (bytes := bytes) (maxL := maxL) (ret := ret) ho hl hstt hini hcode hy hK hg (hsize.trans hml.symm) (argsL := As) (rest := rest) (fun sig h => hn.trans (hlen sig h)) hstack hW (by rw [hb]; exact hdg)
    (fun vm₁ hW₁ => ⟨hf.1, hf.2, hp.2 (T.setVm vm₁) hT hW₁⟩) with ⟨v, vm₁, ⟨U', l2, c2, s2⟩, hW₁, X', ⟨g', mk, t, L, e1, e2, hq, h1, hL, h2, h3⟩, st⟩ | ⟨q, vm₁, ⟨U', l2, c2, s2⟩, hW₁, X', ⟨g', mk, t, L, E, ce, e1, e2, hq, hce, hcv, hcl, h1, hL, h2, h3⟩, st⟩
  · dsimp only [Pt.U, Pt.locs, Pt.cells, Pt.slots] at X' e1 e2 h1 h2 h3 st
    subst h1; subst h2; subst h3
    exact Or.inl ⟨v, (T.setVm vm₁).calling g' mk As.toArray, t, U', L, hT, X', hL, e1, e2, hq, st⟩
  · dsimp only [Pt.U, Pt.locs, Pt.cells, Pt.slots] at X' e1 e2 h1 h2 h3 st hcl
    subst h1; subst h2; subst h3
    exact Or.inr ⟨q, (T.setVm vm₁).calling g' mk As.toArray, t, U', L, E, ce, hT, X', hL, e1, e2, hq, hce, hcv, vx_cls hW₁ hcl, st⟩
end Runs
section Rows
variable {p : Program} {l : Launch} {e : Env} {R : Room} {s : State} {m : MethodId} {args : Array Value} {below : List Frame} {meth : Method} {c : Code} {H : Heap} {locs : List Loc} {cells slots : Nat} {Q : State → Prop}
variable {mc ms : Nat} {free : Addr → Prop} {A0 A1 : Nat → Prop} {H0 : Heap} {a : Array Value} {pc : Nat} {ls : Array Slot} {st0 rest : List Value}
theorem vx_keep {st₀ t T' : State} {L : List Loc} (h0 : st₀.heap = H) (e1 : T'.heap = t.heap) (hS : va_S A0 H0 H locs) (hA : ∀ q, q < H.size → A1 q → A0 q) (hf : ∀ q, free q → A0 q) (hL : ∀ q ∈ L, free q.base) (hF : va_F A1 st₀ t) :
    H.size ≤ T'.heap.size ∧ (∀ q : Nat, q < H.size → ¬ A1 q → T'.heap[q]? = H[q]?) ∧ va_S A0 H0 T'.heap (locs ++ L) := by
  obtain ⟨hz, hk⟩ := hF
  rw [h0] at hz hk
  exact ⟨by rw [e1]; exact hz, fun q h1 h2 => by rw [e1]; exact hk q h1 h2,
    ⟨Nat.le_trans hS.1 (by rw [e1]; exact hz), fun q h1 h2 => by rw [e1, hk q (Nat.lt_of_lt_of_le h1 hS.1) (fun z => h2 (hA q (Nat.lt_of_lt_of_le h1 hS.1) z))]; exact hS.2.1 q h1 h2, fun q hq => by
      rcases List.mem_append.mp hq with h | h
      · exact hS.2.2 q h
      · exact hf _ (hL q h)⟩⟩
theorem vx_calli {S SX : Type} {post : Int32 → S → Prop} {px : SX → Prop} {B : S → State → Prop} {BX : String → SX → State → Prop} {AX : Nat → Prop} (hr : vx_Run p l e R s m args below meth c H locs cells slots mc ms (F0 m pc ls st0) rest (va_Qi post B A1 a) (vx_X px BX AX) free) (hS : va_S A0 H0 H locs) (hA : ∀ q, q < H.size → A1 q → A0 q) (hf : ∀ q, free q → A0 q) (hAX : ∀ q, q < H.size → AX q → A0 q)
    (kx : ∀ (E : String) (ce : Cell) (q9 : Addr) (u : SX) (t : State) (H1 : Heap) (locs1 : List Loc), t.heap = H1 → s.vm.Alike t.vm → px u → BX E u t → H.size ≤ H1.size → (∀ q : Nat, q < H.size → ¬ AX q → H1[q]? = H[q]?) → va_S A0 H0 H1 locs1 → H1[q9]? = some ce → ce.vm = .none → s.vm.findClass E = some ce.cls → vx_W p l e R s m args below meth c H1 locs1 (cells + mc) (slots + ms) Q (F0 m pc ls rest) q9)
    (kk : ∀ (r : Int32) (u : S) (t : State) (H1 : Heap) (locs1 : List Loc), t.heap = H1 → s.vm.Alike t.vm → post r u → B u t → H.size ≤ H1.size → (∀ q : Nat, q < H.size → ¬ A1 q → H1[q]? = H[q]?) → va_S A0 H0 H1 locs1 → W p l e R s m args below meth c H1 locs1 (cells + mc) (slots + ms) Q (F0 m (pc + 3) ls (.int r :: rest))) : W p l e R s m args below meth c H locs cells slots Q (F0 m pc ls st0) := by
  intro T hT X
  rcases hr T hT X with ⟨v, st₀, t, T', L, h0, X', hL, e1, e2, ⟨⟨r, u, hv, hp, hb⟩, hF⟩, st⟩ | ⟨q, st₀, t, T', L, E, ce, h0, X', hL, e1, e2, ⟨u, hp, hb, hF⟩, hce, hcv, hcl, st⟩
  · cases hv
    obtain ⟨k1, k2, k3⟩ := vx_keep h0 e1 hS hA hf hL hF
    obtain ⟨t2, a1, b1⟩ := kk r u t T'.heap (locs ++ L) e1.symm (by rw [← e2]; exact X'.warmed.alike) hp hb k1 k2 k3 T' rfl X'
    exact ⟨t2, st t2 a1, b1⟩
  · obtain ⟨k1, k2, k3⟩ := vx_keep h0 e1 hS hAX hf hL hF
    obtain ⟨t2, a1, b1⟩ := kx E ce q u t T'.heap (locs ++ L) e1.symm (by rw [← e2]; exact X'.warmed.alike) hp hb k1 k2 k3 (by rw [e1]; exact hce) hcv hcl T' rfl X'
    exact ⟨t2, st.trans a1, b1⟩
theorem vx_calll {S SX : Type} {post : Int64 → S → Prop} {px : SX → Prop} {B : S → State → Prop} {BX : String → SX → State → Prop} {AX : Nat → Prop} (hr : vx_Run p l e R s m args below meth c H locs cells slots mc ms (F0 m pc ls st0) rest (va_Ql post B A1 a) (vx_X px BX AX) free) (hS : va_S A0 H0 H locs) (hA : ∀ q, q < H.size → A1 q → A0 q) (hf : ∀ q, free q → A0 q) (hAX : ∀ q, q < H.size → AX q → A0 q)
    (kx : ∀ (E : String) (ce : Cell) (q9 : Addr) (u : SX) (t : State) (H1 : Heap) (locs1 : List Loc), t.heap = H1 → s.vm.Alike t.vm → px u → BX E u t → H.size ≤ H1.size → (∀ q : Nat, q < H.size → ¬ AX q → H1[q]? = H[q]?) → va_S A0 H0 H1 locs1 → H1[q9]? = some ce → ce.vm = .none → s.vm.findClass E = some ce.cls → vx_W p l e R s m args below meth c H1 locs1 (cells + mc) (slots + ms) Q (F0 m pc ls rest) q9)
    (kk : ∀ (r : Int64) (u : S) (t : State) (H1 : Heap) (locs1 : List Loc), t.heap = H1 → s.vm.Alike t.vm → post r u → B u t → H.size ≤ H1.size → (∀ q : Nat, q < H.size → ¬ A1 q → H1[q]? = H[q]?) → va_S A0 H0 H1 locs1 → W p l e R s m args below meth c H1 locs1 (cells + mc) (slots + ms) Q (F0 m (pc + 3) ls (.long r :: rest))) : W p l e R s m args below meth c H locs cells slots Q (F0 m pc ls st0) := by
  intro T hT X
  rcases hr T hT X with ⟨v, st₀, t, T', L, h0, X', hL, e1, e2, ⟨⟨r, u, hv, hp, hb⟩, hF⟩, st⟩ | ⟨q, st₀, t, T', L, E, ce, h0, X', hL, e1, e2, ⟨u, hp, hb, hF⟩, hce, hcv, hcl, st⟩
  · cases hv
    obtain ⟨k1, k2, k3⟩ := vx_keep h0 e1 hS hA hf hL hF
    obtain ⟨t2, a1, b1⟩ := kk r u t T'.heap (locs ++ L) e1.symm (by rw [← e2]; exact X'.warmed.alike) hp hb k1 k2 k3 T' rfl X'
    exact ⟨t2, st t2 a1, b1⟩
  · obtain ⟨k1, k2, k3⟩ := vx_keep h0 e1 hS hAX hf hL hF
    obtain ⟨t2, a1, b1⟩ := kx E ce q u t T'.heap (locs ++ L) e1.symm (by rw [← e2]; exact X'.warmed.alike) hp hb k1 k2 k3 (by rw [e1]; exact hce) hcv hcl T' rfl X'
    exact ⟨t2, st.trans a1, b1⟩
theorem vx_callf {S SX : Type} {post : UInt32 → S → Prop} {px : SX → Prop} {B : S → State → Prop} {BX : String → SX → State → Prop} {AX : Nat → Prop} (hr : vx_Run p l e R s m args below meth c H locs cells slots mc ms (F0 m pc ls st0) rest (va_Qf post B A1 a) (vx_X px BX AX) free) (hS : va_S A0 H0 H locs) (hA : ∀ q, q < H.size → A1 q → A0 q) (hf : ∀ q, free q → A0 q) (hAX : ∀ q, q < H.size → AX q → A0 q)
    (kx : ∀ (E : String) (ce : Cell) (q9 : Addr) (u : SX) (t : State) (H1 : Heap) (locs1 : List Loc), t.heap = H1 → s.vm.Alike t.vm → px u → BX E u t → H.size ≤ H1.size → (∀ q : Nat, q < H.size → ¬ AX q → H1[q]? = H[q]?) → va_S A0 H0 H1 locs1 → H1[q9]? = some ce → ce.vm = .none → s.vm.findClass E = some ce.cls → vx_W p l e R s m args below meth c H1 locs1 (cells + mc) (slots + ms) Q (F0 m pc ls rest) q9)
    (kk : ∀ (r : UInt32) (u : S) (t : State) (H1 : Heap) (locs1 : List Loc), t.heap = H1 → s.vm.Alike t.vm → post r u → B u t → H.size ≤ H1.size → (∀ q : Nat, q < H.size → ¬ A1 q → H1[q]? = H[q]?) → va_S A0 H0 H1 locs1 → W p l e R s m args below meth c H1 locs1 (cells + mc) (slots + ms) Q (F0 m (pc + 3) ls (.float r :: rest))) : W p l e R s m args below meth c H locs cells slots Q (F0 m pc ls st0) := by
  intro T hT X
  rcases hr T hT X with ⟨v, st₀, t, T', L, h0, X', hL, e1, e2, ⟨⟨r, u, hv, hp, hb⟩, hF⟩, st⟩ | ⟨q, st₀, t, T', L, E, ce, h0, X', hL, e1, e2, ⟨u, hp, hb, hF⟩, hce, hcv, hcl, st⟩
  · cases hv
    obtain ⟨k1, k2, k3⟩ := vx_keep h0 e1 hS hA hf hL hF
    obtain ⟨t2, a1, b1⟩ := kk r u t T'.heap (locs ++ L) e1.symm (by rw [← e2]; exact X'.warmed.alike) hp hb k1 k2 k3 T' rfl X'
    exact ⟨t2, st t2 a1, b1⟩
  · obtain ⟨k1, k2, k3⟩ := vx_keep h0 e1 hS hAX hf hL hF
    obtain ⟨t2, a1, b1⟩ := kx E ce q u t T'.heap (locs ++ L) e1.symm (by rw [← e2]; exact X'.warmed.alike) hp hb k1 k2 k3 (by rw [e1]; exact hce) hcv hcl T' rfl X'
    exact ⟨t2, st.trans a1, b1⟩
theorem vx_calld {S SX : Type} {post : UInt64 → S → Prop} {px : SX → Prop} {B : S → State → Prop} {BX : String → SX → State → Prop} {AX : Nat → Prop} (hr : vx_Run p l e R s m args below meth c H locs cells slots mc ms (F0 m pc ls st0) rest (va_Qd post B A1 a) (vx_X px BX AX) free) (hS : va_S A0 H0 H locs) (hA : ∀ q, q < H.size → A1 q → A0 q) (hf : ∀ q, free q → A0 q) (hAX : ∀ q, q < H.size → AX q → A0 q)
    (kx : ∀ (E : String) (ce : Cell) (q9 : Addr) (u : SX) (t : State) (H1 : Heap) (locs1 : List Loc), t.heap = H1 → s.vm.Alike t.vm → px u → BX E u t → H.size ≤ H1.size → (∀ q : Nat, q < H.size → ¬ AX q → H1[q]? = H[q]?) → va_S A0 H0 H1 locs1 → H1[q9]? = some ce → ce.vm = .none → s.vm.findClass E = some ce.cls → vx_W p l e R s m args below meth c H1 locs1 (cells + mc) (slots + ms) Q (F0 m pc ls rest) q9)
    (kk : ∀ (r : UInt64) (u : S) (t : State) (H1 : Heap) (locs1 : List Loc), t.heap = H1 → s.vm.Alike t.vm → post r u → B u t → H.size ≤ H1.size → (∀ q : Nat, q < H.size → ¬ A1 q → H1[q]? = H[q]?) → va_S A0 H0 H1 locs1 → W p l e R s m args below meth c H1 locs1 (cells + mc) (slots + ms) Q (F0 m (pc + 3) ls (.double r :: rest))) : W p l e R s m args below meth c H locs cells slots Q (F0 m pc ls st0) := by
  intro T hT X
  rcases hr T hT X with ⟨v, st₀, t, T', L, h0, X', hL, e1, e2, ⟨⟨r, u, hv, hp, hb⟩, hF⟩, st⟩ | ⟨q, st₀, t, T', L, E, ce, h0, X', hL, e1, e2, ⟨u, hp, hb, hF⟩, hce, hcv, hcl, st⟩
  · cases hv
    obtain ⟨k1, k2, k3⟩ := vx_keep h0 e1 hS hA hf hL hF
    obtain ⟨t2, a1, b1⟩ := kk r u t T'.heap (locs ++ L) e1.symm (by rw [← e2]; exact X'.warmed.alike) hp hb k1 k2 k3 T' rfl X'
    exact ⟨t2, st t2 a1, b1⟩
  · obtain ⟨k1, k2, k3⟩ := vx_keep h0 e1 hS hAX hf hL hF
    obtain ⟨t2, a1, b1⟩ := kx E ce q u t T'.heap (locs ++ L) e1.symm (by rw [← e2]; exact X'.warmed.alike) hp hb k1 k2 k3 (by rw [e1]; exact hce) hcv hcl T' rfl X'
    exact ⟨t2, st.trans a1, b1⟩
theorem vx_callv {S SX : Type} {post : S → Prop} {px : SX → Prop} {B : S → State → Prop} {BX : String → SX → State → Prop} {AX : Nat → Prop} (hr : vx_Run p l e R s m args below meth c H locs cells slots mc ms (F0 m pc ls st0) rest (va_Qv post B A1 a) (vx_X px BX AX) free) (hS : va_S A0 H0 H locs) (hA : ∀ q, q < H.size → A1 q → A0 q) (hf : ∀ q, free q → A0 q) (hAX : ∀ q, q < H.size → AX q → A0 q)
    (kx : ∀ (E : String) (ce : Cell) (q9 : Addr) (u : SX) (t : State) (H1 : Heap) (locs1 : List Loc), t.heap = H1 → s.vm.Alike t.vm → px u → BX E u t → H.size ≤ H1.size → (∀ q : Nat, q < H.size → ¬ AX q → H1[q]? = H[q]?) → va_S A0 H0 H1 locs1 → H1[q9]? = some ce → ce.vm = .none → s.vm.findClass E = some ce.cls → vx_W p l e R s m args below meth c H1 locs1 (cells + mc) (slots + ms) Q (F0 m pc ls rest) q9)
    (kk : ∀ (u : S) (t : State) (H1 : Heap) (locs1 : List Loc), t.heap = H1 → s.vm.Alike t.vm → post u → B u t → H.size ≤ H1.size → (∀ q : Nat, q < H.size → ¬ A1 q → H1[q]? = H[q]?) → va_S A0 H0 H1 locs1 → W p l e R s m args below meth c H1 locs1 (cells + mc) (slots + ms) Q (F0 m (pc + 3) ls (rest))) : W p l e R s m args below meth c H locs cells slots Q (F0 m pc ls st0) := by
  intro T hT X
  rcases hr T hT X with ⟨v, st₀, t, T', L, h0, X', hL, e1, e2, ⟨⟨u, hv, hp, hb⟩, hF⟩, st⟩ | ⟨q, st₀, t, T', L, E, ce, h0, X', hL, e1, e2, ⟨u, hp, hb, hF⟩, hce, hcv, hcl, st⟩
  · cases hv
    obtain ⟨k1, k2, k3⟩ := vx_keep h0 e1 hS hA hf hL hF
    obtain ⟨t2, a1, b1⟩ := kk u t T'.heap (locs ++ L) e1.symm (by rw [← e2]; exact X'.warmed.alike) hp hb k1 k2 k3 T' rfl X'
    exact ⟨t2, st t2 a1, b1⟩
  · obtain ⟨k1, k2, k3⟩ := vx_keep h0 e1 hS hAX hf hL hF
    obtain ⟨t2, a1, b1⟩ := kx E ce q u t T'.heap (locs ++ L) e1.symm (by rw [← e2]; exact X'.warmed.alike) hp hb k1 k2 k3 (by rw [e1]; exact hce) hcv hcl T' rfl X'
    exact ⟨t2, st.trans a1, b1⟩
/-- caught by the row x of this method's table; the rows ahead don't take it -/
theorem vx_catch {own name : String} {E : String} {ce : Cell} {q : Addr} (hown : s.vm.findClass own = some m.cls) (pre : List ExceptionTableEntry) (x : ExceptionTableEntry) (suf : List ExceptionTableEntry) (hsplit : c.exceptionTable.toList = pre ++ x :: suf)
    (hpass : ∀ z ∈ pre, covers z pc = false ∨ (z.catchType ≠ 0 ∧ ∃ nm : String, (Cond.classLink own z.catchType nm).before args s = true ∧ va_Nc E nm s)) (hx : covers x pc = true) (h0 : x.catchType ≠ 0)
    (hlink : (Cond.classLink own x.catchType name).before args s = true) (hcast : (Cond.castable E name).before args s = true) (hcell : H[q]? = some ce) (hv : ce.vm = .none) (hcl : s.vm.findClass E = some ce.cls)
    (kk : W p l e R s m args below meth c H locs cells slots Q (F0 m x.handlerPc ls [.ref q])) : vx_W p l e R s m args below meth c H locs cells slots Q (F0 m pc ls rest) q := by
  intro T hT X
  have hpl : e.platform.magicAccessors = ({} : Platform).magicAccessors := by rw [X.admits.platform]
  obtain ⟨c3, c4, hc3, hc4, hasg⟩ := Cond.castable_spec hcast
  cases Option.some.inj (hc3.symm.trans hcl)
  obtain ⟨c5, hc5, hcl5⟩ := Cond.classLink_spec hown hlink e.platform hpl
  cases Option.some.inj (hc4.symm.trans hc5)
  obtain ⟨vm', X', st⟩ := X.thenCaughtThrough q (g := F0 m pc ls rest) rfl (Steps.refl _) (by rw [hT]; exact hcell) (by rw [hv]; rfl) (by obtain ⟨k9, h9, -⟩ := Vm.findClass_spec hcl; exact ⟨k9, h9⟩) pre x suf hsplit
    (fun z hz => by
      rcases hpass z hz with h | ⟨hz0, nm, hl1, hn1⟩
      · exact Or.inl h
      · obtain ⟨c6, hc6, hcl6⟩ := Cond.classLink_spec hown hl1 e.platform hpl
        obtain ⟨a8, b8, h1, h2, h3⟩ := hn1
        cases Option.some.inj (h1.symm.trans hcl)
        cases Option.some.inj (h2.symm.trans hc6)
        exact Or.inr ⟨hz0, _, hcl6, h3⟩) hx (Or.inr ⟨h0, c4, hcl5, hasg⟩)
  obtain ⟨t, a1, b1⟩ := kk (T.setVm vm') hT X'
  exact ⟨t, st.trans a1, b1⟩
end Rows
section Ends
variable {p : Program} {l : Launch} {e : Env} {R : Room} {s : State} {m : MethodId} {args : Array Value} {below : List Frame} {meth : Method} {c : Code} {H : Heap} {locs : List Loc} {cells slots : Nat} {Q : State → Prop}
variable {mc ms : Nat} {free : Addr → Prop} {A0 A1 : Nat → Prop} {H0 : Heap} {a : Array Value} {ls : Array Slot} {st0 rest : List Value}
variable {Qc : Array Value → State → Outcome → State → Prop} {XC : String → State → State → Prop}
/-- what a body that may throw owes at its end -/
def vx_MQ (below : List Frame) (Qc : Array Value → State → Outcome → State → Prop) (XC : String → State → State → Prop) (a : Array Value) (s : State) (mc ms : Nat) (free : Addr → Prop) : State → Prop := fun t =>
  ∃ o, t.status = .running ∧ Ended t below o ∧ vx_Q Qc XC mc ms free a s o t
theorem vx_ret {g : JFrame} {mc ms : Nat} (k : W p l e R s m args below meth c H locs cells slots (MQ below Qc args s mc ms free) g) : W p l e R s m args below meth c H locs cells slots (vx_MQ below Qc XC args s mc ms free) g := by
  intro T hT X
  obtain ⟨t, a1, o, b1, b2, b3, b4⟩ := k T hT X
  exact ⟨t, a1, o, b1, b2, Or.inl ⟨b3, b4⟩⟩
/-- not caught here: it goes on to the caller -/
theorem vx_widen {g : JFrame} {q : Addr} {k n : Nat} (h1 : cells ≤ k) (h2 : slots ≤ n) (kk : vx_W p l e R s m args below meth c H locs k n Q g q) : vx_W p l e R s m args below meth c H locs cells slots Q g q := fun T hT X => kk T hT (stand_widen X h1 h2)
theorem vx_out {pc : Nat} {E : String} {ce : Cell} {q : Addr} {mc ms : Nat} (hout : ∀ x ∈ c.exceptionTable.toList, covers x pc = false) (hlocks : meth.locks = false) (hcell : H[q]? = some ce) (hv : ce.vm = .none) (hcl : s.vm.findClass E = some ce.cls)
    (hx : ∀ t : State, t.heap = H → s.vm.Alike t.vm → XC E s t) (hf : ∀ z ∈ locs, free z.base) (hc : cells ≤ mc) (hs : slots ≤ ms) :
    vx_W p l e R s m args below meth c H locs cells slots (vx_MQ below Qc XC args s mc ms free) (F0 m pc ls rest) q := by
  intro T hT X
  obtain ⟨st1, hrun, hend, hW, hsm⟩ := X.leaveThrown q (g := F0 m pc ls rest) rfl rfl rfl hout hlocks
  have hcell9 : (T.setFrames (.throwing q :: below)).heap[q]? = some ce := by
    show T.heap[q]? = some ce
    rw [hT]; exact hcell
  exact ⟨_, st1, .threw q, hrun, hend, Or.inr ⟨q, rfl, E, ce, locs, hx _ hT hW.alike, hcell9, hv, hcl, hW, hsm.mono hc hs, hf⟩⟩
theorem vx_frame {U : State} {k n : Nat} (h : s.sameButNew ({ U with vm := s.vm } : State) locs k n) : s.heap.size ≤ U.heap.size ∧ ∀ q : Nat, q < s.heap.size → (∀ z ∈ locs, z.base ≠ q) → U.heap[q]? = s.heap[q]? := by
  obtain ⟨-, h2, -, -, -, h6⟩ := h
  refine ⟨h2, fun q hq hz => ?_⟩
  obtain ⟨c9, e1, e2, e3, e4⟩ := h6 q _ (Array.getElem?_eq_getElem hq)
  have hs : c9.slots = (s.heap[q]).slots := Array.ext_getElem? fun i => e4 i fun hm => hz _ hm rfl
  have h9 : c9 = s.heap[q] := by
    rw [hs] at e2
    exact e2
  have e5 : U.heap[q]? = some c9 := e1
  rw [e5, h9, Array.getElem?_eq_getElem hq]
/-- the words of a throw but the four that speak of the heap -/
def vx_no (w : Cond) : Bool := decide (w ≠ .isRef (.static Bundle.tN "UNASSIGNED_STACK" Bundle.steD)) && decide (w ≠ .isRef (.static Bundle.tN "SUPPRESSED_SENTINEL" Bundle.listD)) && decide (w ≠ .laysStatic Bundle.tN "UNASSIGNED_STACK" Bundle.steD) && decide (w ≠ .laysStatic Bundle.tN "SUPPRESSED_SENTINEL" Bundle.listD)
def vx_at0 (own : String) (ic : Nat) (X : String) (names : List String) : List Cond := (Bundle.ownAtoms0 own ic X names).filter vx_no
def vx_atS (own : String) (ic : Nat) (X : String) (names : List String) : List Cond := (Bundle.ownAtoms own ic X names).filter vx_no
/-- a word that the tables alone decide, or a good one -/
def vx_ot (w : Cond) : Bool := w.onTables || goodWord w
theorem vx_ot_at {args a' : Array Value} {s U : State} {w : Cond} (hW : s.WarmedH U.vm) (hvm : s.vm = U.vm) (hg : vx_ot w = true) (h : w.before args s = true) : w.before a' U = true := by
  simp only [vx_ot, Bool.or_eq_true] at hg
  rcases hg with hg | hg
  · exact va_tabs hg hvm h
  · exact word_at hW (good_of_word hg) h
/-- a list's words: the good ones out of the method's own list, the others by premises of their own -/
theorem vx_hat {args : Array Value} {s : State} {L B : List Cond} (h1 : ∀ w ∈ L.filter goodWord, w.before args s = true) (h2 : ∀ w ∈ L.filter (fun w => !goodWord w), w ∈ B) (h3 : ∀ w ∈ B, w.before args s = true) : ∀ w ∈ L, w.before args s = true := by
  intro w hw
  by_cases g : goodWord w = true
  · exact h1 w (List.mem_filter.mpr ⟨hw, g⟩)
  · refine h3 w (h2 w (List.mem_filter.mpr ⟨hw, ?_⟩))
    show (!goodWord w) = true
    cases hgw : goodWord w
    · rfl
    · exact absurd hgw g
theorem vx_c {args : Array Value} {s : State} {w : Cond} {B : List Cond} (h : w.before args s = true) (t : ∀ w ∈ B, w.before args s = true) : ∀ w' ∈ w :: B, w'.before args s = true := fun w' h' => (List.mem_cons.mp h').elim (fun e => by rw [e]; exact h) (t w')
theorem vx_n {args : Array Value} {s : State} : ∀ w ∈ ([] : List Cond), w.before args s = true := fun _ h => nomatch h
theorem vx_own {args : Array Value} {s : State} {L : List Cond} (h1 : ∀ w ∈ L.filter vx_no, w.before args s = true)
    (hU : (Cond.isRef (.static Bundle.tN "UNASSIGNED_STACK" Bundle.steD)).before args s = true) (hN : (Cond.isRef (.static Bundle.tN "SUPPRESSED_SENTINEL" Bundle.listD)).before args s = true)
    (lU : (Cond.laysStatic Bundle.tN "UNASSIGNED_STACK" Bundle.steD).before args s = true) (lN : (Cond.laysStatic Bundle.tN "SUPPRESSED_SENTINEL" Bundle.listD).before args s = true) : ∀ w ∈ L, w.before args s = true := by
  intro w hw
  by_cases e1 : w = .isRef (.static Bundle.tN "UNASSIGNED_STACK" Bundle.steD)
  · rw [e1]; exact hU
  · by_cases e2 : w = .isRef (.static Bundle.tN "SUPPRESSED_SENTINEL" Bundle.listD)
    · rw [e2]; exact hN
    · by_cases e3 : w = .laysStatic Bundle.tN "UNASSIGNED_STACK" Bundle.steD
      · rw [e3]; exact lU
      · by_cases e4 : w = .laysStatic Bundle.tN "SUPPRESSED_SENTINEL" Bundle.listD
        · rw [e4]; exact lN
        · exact h1 w (List.mem_filter.mpr ⟨hw, by unfold vx_no; rw [decide_eq_true e1, decide_eq_true e2, decide_eq_true e3, decide_eq_true e4]; rfl⟩)
/-- where a static field lies, its class's statics cell in H -/
def vx_L (C n d : String) (A : Nat → Prop) (U : State) (H : Heap) : Prop := ∃ (c : ClassId) (k : Class) (i : Nat) (f : Field) (a : Nat) (cell : Cell), U.vm.findClass C = some c ∧ U.fieldFound? C n d = some (c, k, i, f) ∧ f.isStatic = true ∧ k.statics = some a ∧ H[a]? = some cell ∧ cell.vm.isStatics = true ∧ cell.cls = c ∧ f.slot < cell.slots.size ∧ k.staticTypes[f.slot]? = some f.type ∧ ¬ A a
theorem vx_L.moved {C n d : String} {A : Nat → Prop} {u U : State} {H : Heap} (hvm : u.vm.Alike U.vm) (h : vx_L C n d A u H) : vx_L C n d A U H := by
  obtain ⟨c, k, i, f, a, cell, h1, h2, h3, h4, h5, h6, h7, h8, h9, h10⟩ := h
  obtain ⟨k', hi', he⟩ := State.fieldFound?_setVm hvm h2
  exact ⟨c, k', i, f, a, cell, by rw [hvm.findClass]; exact h1, hi', h3, by rw [he]; exact h4, h5, h6, h7, h8, by rw [he]; exact h9, h10⟩
theorem vx_L.kept {C n d : String} {A : Nat → Prop} {U : State} {H H1 : Heap} (h : vx_L C n d A U H) (hq : ∀ a : Nat, a < H.size → ¬ A a → H1[a]? = H[a]?) : vx_L C n d A U H1 := by
  obtain ⟨c, k, i, f, a, cell, h1, h2, h3, h4, h5, h6, h7, h8, h9, h10⟩ := h
  exact ⟨c, k, i, f, a, cell, h1, h2, h3, h4, by rw [hq a (Array.getElem?_eq_some_iff.mp h5).1 h10]; exact h5, h6, h7, h8, h9, h10⟩
theorem vx_L.narrow {C n d : String} {A B : Nat → Prop} {U : State} {H : Heap} (h : vx_L C n d A U H) (hAB : ∀ q, B q → A q) : vx_L C n d B U H := by
  obtain ⟨c, k, i, f, a, cell, h1, h2, h3, h4, h5, h6, h7, h8, h9, h10⟩ := h
  exact ⟨c, k, i, f, a, cell, h1, h2, h3, h4, h5, h6, h7, h8, h9, fun z => h10 (hAB _ z)⟩
theorem vx_L.word {C n d : String} {A : Nat → Prop} {s : State} {args : Array Value} (h : vx_L C n d A s s.heap) : (Cond.laysStatic C n d).before args s = true := by
  obtain ⟨c, k, i, f, a, cell, h1, h2, h3, h4, h5, h6, h7, h8, h9, -⟩ := h
  show (Cond.laysStatic C n d).holds args s none s [] = true
  exact Cond.laysStatic_of h1 h2 h3 h4 h5 h6 h7 h8 h9
/-- .. and what it holds: null or some reference -/
def vx_Zq (C n d : String) (A : Nat → Prop) (U : State) (H : Heap) : Prop := va_Zq C n d A U H ∧ vx_L C n d A U H
theorem vx_Zq.moved {C n d : String} {A : Nat → Prop} {u U : State} {H : Heap} (hvm : u.vm.Alike U.vm) (h : vx_Zq C n d A u H) : vx_Zq C n d A U H := ⟨va_Zq.moved hvm h.1, vx_L.moved hvm h.2⟩
theorem vx_Zq.kept {C n d : String} {A : Nat → Prop} {U : State} {H H1 : Heap} (h : vx_Zq C n d A U H) (hq : ∀ a : Nat, a < H.size → ¬ A a → H1[a]? = H[a]?) : vx_Zq C n d A U H1 := ⟨va_Zq.kept h.1 hq, vx_L.kept h.2 hq⟩
theorem vx_Zq.narrow {C n d : String} {A B : Nat → Prop} {U : State} {H : Heap} (h : vx_Zq C n d A U H) (hAB : ∀ q, B q → A q) : vx_Zq C n d B U H := ⟨va_Zq.narrow h.1 hAB, vx_L.narrow h.2 hAB⟩
theorem vx_Zqof {args : Array Value} {s : State} {C n d : String} {A : Nat → Prop} (hl : (Cond.laysStatic C n d).before args s = true) (hini : (Cond.initialized C).before args s = true) (h : (Cond.isRef (.static C n d)).before args s = true) (hA : ∀ a : Nat, a < s.heap.size → ¬ A a) : vx_Zq C n d A s s.heap := by
  refine ⟨va_Zqof hl hini h hA, ?_⟩
  obtain ⟨c, k, i, f, a, cell, h1, h2, h3, h4, h5, h6, h7, h8, h9⟩ := Cond.laysStatic_spec hl
  exact ⟨c, k, i, f, a, cell, h1, h2, h3, h4, h5, h6, h7, h8, h9, hA a (Array.getElem?_eq_some_iff.mp h5).1⟩
theorem vx_isRef {C n d : String} {v : Value} {A : Nat → Prop} {s : State} {args : Array Value} (h : va_Z C n d v A s s.heap) (hv : v.isRef = true) : (Cond.isRef (.static C n d)).before args s = true := by
  obtain ⟨cf, kf, fi, f, a, cell, h1, h2, h3, h4, h5, h6, h7, -⟩ := h
  have he : (Term.static C n d).eval args s none [] s = some v := by
    simp [Term.eval, State.fieldNamed?, h1, h2, h4, h5, h6, h7]
  simp only [Cond.before, Cond.holds, Cond.value, he]
  cases v <;> simp_all [Value.isRef]
theorem vx_isRefq {C n d : String} {A : Nat → Prop} {s : State} {args : Array Value} (h : va_Zq C n d A s s.heap) : (Cond.isRef (.static C n d)).before args s = true := by
  rcases h with h | ⟨t, h⟩
  · exact vx_isRef h rfl
  · exact vx_isRef h rfl
/-- the same frame, seen from here: as if the method were called anew in this heap -/
theorem vx_rebase {T : State} (X : Stand p l e R s m args below meth c T locs cells slots) {R' : Room} (hf : R'.frames ≤ R.frames) (hl : R'.locals ≤ R.locals) (hc : cells + R'.cells ≤ R.cells) (hs : slots + R'.slots ≤ R.slots) :
    Stand p l e R' ((T.setVm s.vm).setFrames (.invoking m args :: below)) m args below meth c T [] 0 0 := by
  have htop : (T.setVm s.vm).topJava?.isSome := X.here.top
  have hF : ((T.setVm s.vm).setFrames (.invoking m args :: below)).frames = .invoking m args :: below := State.frames_setFrames _ (State.cur_lt_of_top htop)
  obtain ⟨g₀, hg0⟩ := Option.isSome_iff_exists.mp htop
  obtain ⟨r, hr⟩ := State.topJava?_eq_some.mp hg0
  have hl9 : e.platform.stackLimits (T.setVm s.vm).me = e.platform.stackLimits s.me := X.limits
  have hb9 : (T.setVm s.vm).me.stackBytes = s.me.stackBytes := X.bytes
  refine ⟨X.admits, X.cas, X.clock, hF, ?_, X.hears, X.method, X.code, X.here, X.tail, X.warmed, ?_, ?_, ?_⟩
  · have h := X.room
    have hU : ((T.setVm s.vm).setFrames (.invoking m args :: below)).localsInUse = s.localsInUse := by
      rw [State.localsInUse_invoking hF (meth := meth) (c := c) X.method X.code, State.localsInUse_invoking X.frames X.method X.code]
    simp only [State.hasRoom, Bool.and_eq_true, decide_eq_true_eq] at h ⊢
    obtain ⟨⟨⟨⟨h1, h2, h3, h4, h5, h6⟩, h7⟩, h8⟩, h9⟩ := h
    rw [X.frames, List.length_cons] at h2 h3
    have q1 := X.heapSize
    have q2 := X.used
    simp only [hF, hU, List.length_cons, State.stackLimits_setFrames, State.stackBytes_setFrames, hl9, hb9]
    refine ⟨⟨⟨⟨by omega, by omega, by omega, by omega, by omega, h6⟩, ?_⟩, ?_⟩, X.book⟩
    · show T.heap.size + R'.cells ≤ e.platform.maxCells
      omega
    · show T.slotsUsed + R'.slots ≤ e.platform.maxSlots
      omega
  · rw [State.stackLimits_setFrames]; rfl
  · rw [State.stackBytes_setFrames]; rfl
  · refine ⟨?_, Nat.le_refl _, Nat.le_refl _, ?_, ?_, fun a c9 h9 => ⟨c9, h9, rfl, rfl, fun _ _ => rfl⟩⟩
    · obtain ⟨t, ht, -⟩ := State.frames_cons hr
      show T.setVm s.vm = { ((T.setVm s.vm).setFrames (.invoking m args :: below)).setFrames (T.setVm s.vm).frames with heap := T.heap, slotsUsed := T.slotsUsed }
      rw [State.setFrames_setFrames, State.setFrames_self ht]
      rfl
    · show T.slotsUsed = T.slotsUsed + ((T.heap.toList.drop T.heap.size).map (·.slots.size)).sum
      rw [List.drop_eq_nil_of_le (Nat.le_of_eq Array.length_toList)]
      rfl
    · show ((T.heap.toList.drop T.heap.size).map (·.slots.size)).sum ≤ 0
      rw [List.drop_eq_nil_of_le (Nat.le_of_eq Array.length_toList)]
      exact Nat.le_refl _
/-- 'throw new E()': new; dup; invokespecial; athrow -/
theorem vx_throw0 {cc : ByteArray} {pc : Nat} (hexec : p.tables.exec = Jvm.exec) (hb : c.code = cc) (hl : l.stackTraces = false) {own cls : String} {names : List String} {ik ic mc ms : Nat} {A : Nat → Prop}
    (hown : s.vm.findClass own = some m.cls) (hcls : Bundle.fit cls = true) (hnames : ∀ n ∈ names, Bundle.fit n = true)
    (hk : (Cond.classLink own ik cls).before args s = true) (hini : (Cond.initialized cls).before args s = true) (hat : ∀ w ∈ vx_at0 own ic cls names, w.before args s = true)
    (hgood : ∀ w ∈ Cond.classLink own ik cls :: Cond.initialized cls :: vx_at0 own ic cls names, vx_ot w = true)
    (hU : vx_Zq Bundle.tN "UNASSIGNED_STACK" Bundle.steD A s s.heap) (hN : vx_Zq Bundle.tN "SUPPRESSED_SENTINEL" Bundle.listD A s s.heap) (hS : va_S A s.heap H locs) (hsize : ls.size = c.maxLocals)
    (d0 : decode cc pc = .ok (.new ik, 3)) (d3 : decode cc (pc + 3) = .ok (.dup, 1)) (d4 : decode cc (pc + 4) = .ok (.invokespecial ic, 3)) (d7 : decode cc (pc + 7) = .ok (.athrow, 1))
    (hout : ∀ x ∈ c.exceptionTable.toList, covers x (pc + 7) = false)
    (hRframes : names.length + 3 < R.frames) (hRlocals : (rest.map fun v => v.category).sum + (13 * (names.length + 1) + 42) ≤ R.locals) (hRcells : cells + 1 ≤ R.cells) (hRslots : slots + 6 ≤ R.slots) (hlocks : meth.locks = false)
    (hx : ∀ t : State, s.vm.Alike t.vm → H.size ≤ t.heap.size → (∀ q : Nat, q < H.size → t.heap[q]? = H[q]?) → XC cls s t)
    (hf : ∀ z ∈ locs, free z.base) (hc : cells + 1 ≤ mc) (hs : slots + 6 ≤ ms) :
    W p l e R s m args below meth c H locs cells slots (vx_MQ below Qc XC args s mc ms free) (F0 m pc ls rest) := by
  intro T hT X
  have htr : e.platform.stackTraces = false := (show e.platform.stackTraces = l.stackTraces by rw [X.admits.platform]).trans hl
  have Y := vx_rebase X (R' := { frames := R.frames, locals := R.locals, cells := 1, slots := 6 }) (Nat.le_refl _) (Nat.le_refl _) hRcells hRslots
  obtain ⟨s', hA⟩ : ∃ z, z = (T.setVm s.vm).setFrames (.invoking m args :: below) := ⟨_, rfl⟩
  rw [← hA] at Y
  have hvm : s'.vm = s.vm := by rw [hA]; rfl
  have hhp : s'.heap = H := by rw [hA]; exact hT
  have hW0 : s.WarmedH s'.vm := by rw [hvm]; exact State.WarmedH.refl s
  have hat' : ∀ w ∈ vx_at0 own ic cls names, w.before args s' = true := fun w hw => vx_ot_at hW0 hvm.symm (hgood w (List.mem_cons_of_mem _ (List.mem_cons_of_mem _ hw))) (hat w hw)
  have hk' : (Cond.classLink own ik cls).before args s' = true := vx_ot_at hW0 hvm.symm (hgood _ List.mem_cons_self) hk
  have hini' : (Cond.initialized cls).before args s' = true := vx_ot_at hW0 hvm.symm (hgood _ (List.mem_cons_of_mem _ List.mem_cons_self)) hini
  have hU' : vx_Zq Bundle.tN "UNASSIGNED_STACK" Bundle.steD A s' s'.heap := by rw [hhp]; exact vx_Zq.moved hW0.alike (hU.kept hS.2.1)
  have hN' : vx_Zq Bundle.tN "SUPPRESSED_SENTINEL" Bundle.listD A s' s'.heap := by rw [hhp]; exact vx_Zq.moved hW0.alike (hN.kept hS.2.1)
  have h : ∀ w ∈ Bundle.ownAtoms0 own ic cls names, w.before args s' = true := vx_own hat' (vx_isRefq hU'.1) (vx_isRefq hN'.1) hU'.2.word hN'.2.word
  have hown' : s'.vm.findClass own = some m.cls := by rw [hvm]; exact hown
  have hins : (Cond.instantiable cls 6).before args s' = true := h _ (by simp [Bundle.ownAtoms0])
  obtain ⟨vm₁, cX, kX, hfX, hkX, -, -, X₁, st1⟩ := Y.newCold hexec (own := own) (C := cls) (index := ik) (n := 6) hown' hk' hins hini'
    (g := F0 m pc ls rest) rfl (by rw [hb]; exact d0) (Nat.le_refl _) (Nat.le_refl _)
  generalize hT1 : (T.setVm vm₁).pushCell { cls := cX, slots := kX.instanceTypes.map defaultValue, vm := .none } = T1 at X₁ st1
  have hcat : (Value.ref T.heap.size).category = 1 := rfl
  have hcellA : T1.heap[T.heap.size]? = some (freshCell cX kX) := by rw [← hT1]; exact State.heap_pushCell_size _ _
  have d3' : decode c.code (pc + 3) = .ok (.dup, 1) := by rw [hb]; exact d3
  obtain ⟨U, hsteps, hrun, hend, hW, hsame, ce, hce, hO⟩ := X₁.ctorThrow0 hexec htr (own := own) (cls := cls) (names := names) (ic := ic) hown' hcls hnames h (fun x hx => nomatch hx) hfX hkX hcellA (by rw [hhp, hT]; exact Nat.le_refl _)
    (g := { method := m, pc := pc + 4, locals := ls, stack := .ref T.heap.size :: .ref T.heap.size :: rest, locked := none }) rfl hsize rfl rfl (rest := rest) rfl
    (by rw [hb]; exact d4) (by rw [hb]; exact d7) hout hRframes (by simp only [List.map_cons, List.sum_cons, hcat]; omega) hlocks
  obtain ⟨f1, f2⟩ := vx_frame hsame
  rw [hhp] at f1 f2
  have hWs : s.WarmedH U.vm := State.WarmedH.trans hW0 hW
  have hcl : s.vm.findClass cls = some ce.cls := by
    have h9 := hO.cls
    rw [hvm] at h9
    exact h9
  have hall : s.sameButNew ({ U with vm := s.vm } : State) locs mc ms := by
    subst hA
    obtain ⟨e1, e2⟩ := hsame
    rw [State.setFrames_setFrames] at e1
    have h2 : (T.setVm s.vm).sameButNew ({ U with vm := s.vm } : State) [] (0 + 1) (0 + 6) := ⟨e1, e2⟩
    have h3 := X.same.trans h2
    rw [List.append_nil] at h3
    exact h3.mono hc hs
  refine ⟨U, ?_, .threw T.heap.size, hrun, hend, Or.inr ⟨T.heap.size, rfl, cls, ce, locs, hx U hWs.alike f1 (fun q hq => f2 q hq (fun z hz => nomatch hz)), hce, hO.vm, hcl, hWs, hall, hf⟩⟩
  refine st1 _ ?_
  show Steps p.tables e below (T1.setTop { method := m, pc := pc + 3, locals := ls, stack := .ref T.heap.size :: rest, locked := none }) _
  jvm_step X₁.here [X₁.here.top, hexec, d3', Value.category]
  exact hsteps
/-- 'throw new E("text")': new; dup; ldc; invokespecial; athrow -/
theorem vx_throwS {cc : ByteArray} {pc : Nat} (hexec : p.tables.exec = Jvm.exec) (hb : c.code = cc) (hl : l.stackTraces = false) {own cls text : String} {names : List String} {ik is ic mc ms sa : Nat} {A : Nat → Prop}
    (hown : s.vm.findClass own = some m.cls) (hcls : Bundle.fit cls = true) (hnames : ∀ n ∈ names, Bundle.fit n = true)
    (hk : (Cond.classLink own ik cls).before args s = true) (hini : (Cond.initialized cls).before args s = true) (hstr : vk_R own is text sa s) (hat : ∀ w ∈ vx_atS own ic cls names, w.before args s = true)
    (hgood : ∀ w ∈ Cond.classLink own ik cls :: Cond.initialized cls :: vx_atS own ic cls names, vx_ot w = true)
    (hU : vx_Zq Bundle.tN "UNASSIGNED_STACK" Bundle.steD A s s.heap) (hN : vx_Zq Bundle.tN "SUPPRESSED_SENTINEL" Bundle.listD A s s.heap) (hS : va_S A s.heap H locs) (hsize : ls.size = c.maxLocals)
    (d0 : decode cc pc = .ok (.new ik, 3)) (d3 : decode cc (pc + 3) = .ok (.dup, 1)) (d4 : decode cc (pc + 4) = .ok (.ldc is, 2)) (d6 : decode cc (pc + 6) = .ok (.invokespecial ic, 3)) (d9 : decode cc (pc + 9) = .ok (.athrow, 1))
    (hout : ∀ x ∈ c.exceptionTable.toList, covers x (pc + 9) = false)
    (hRframes : names.length + 3 < R.frames) (hRlocals : (rest.map fun v => v.category).sum + (13 * (names.length + 1) + 43) ≤ R.locals) (hRcells : cells + 1 ≤ R.cells) (hRslots : slots + 6 ≤ R.slots) (hlocks : meth.locks = false)
    (hx : ∀ t : State, s.vm.Alike t.vm → H.size ≤ t.heap.size → (∀ q : Nat, q < H.size → t.heap[q]? = H[q]?) → XC cls s t)
    (hf : ∀ z ∈ locs, free z.base) (hc : cells + 1 ≤ mc) (hs : slots + 6 ≤ ms) :
    W p l e R s m args below meth c H locs cells slots (vx_MQ below Qc XC args s mc ms free) (F0 m pc ls rest) := by
  intro T hT X
  have htr : e.platform.stackTraces = false := (show e.platform.stackTraces = l.stackTraces by rw [X.admits.platform]).trans hl
  have Y := vx_rebase X (R' := { frames := R.frames, locals := R.locals, cells := 1, slots := 6 }) (Nat.le_refl _) (Nat.le_refl _) hRcells hRslots
  obtain ⟨s', hA⟩ : ∃ z, z = (T.setVm s.vm).setFrames (.invoking m args :: below) := ⟨_, rfl⟩
  rw [← hA] at Y
  have hvm : s'.vm = s.vm := by rw [hA]; rfl
  have hhp : s'.heap = H := by rw [hA]; exact hT
  have hW0 : s.WarmedH s'.vm := by rw [hvm]; exact State.WarmedH.refl s
  have hat' : ∀ w ∈ vx_atS own ic cls names, w.before args s' = true := fun w hw => vx_ot_at hW0 hvm.symm (hgood w (List.mem_cons_of_mem _ (List.mem_cons_of_mem _ hw))) (hat w hw)
  have hk' : (Cond.classLink own ik cls).before args s' = true := vx_ot_at hW0 hvm.symm (hgood _ List.mem_cons_self) hk
  have hini' : (Cond.initialized cls).before args s' = true := vx_ot_at hW0 hvm.symm (hgood _ (List.mem_cons_of_mem _ List.mem_cons_self)) hini
  have hU' : vx_Zq Bundle.tN "UNASSIGNED_STACK" Bundle.steD A s' s'.heap := by rw [hhp]; exact vx_Zq.moved hW0.alike (hU.kept hS.2.1)
  have hN' : vx_Zq Bundle.tN "SUPPRESSED_SENTINEL" Bundle.listD A s' s'.heap := by rw [hhp]; exact vx_Zq.moved hW0.alike (hN.kept hS.2.1)
  have h : ∀ w ∈ Bundle.ownAtoms own ic cls names, w.before args s' = true := vx_own hat' (vx_isRefq hU'.1) (vx_isRefq hN'.1) hU'.2.word hN'.2.word
  have hown' : s'.vm.findClass own = some m.cls := by rw [hvm]; exact hown
  have hins : (Cond.instantiable cls 6).before args s' = true := h _ (by simp [Bundle.ownAtoms])
  obtain ⟨vm₁, cX, kX, hfX, hkX, -, -, X₁, st1⟩ := Y.newCold hexec (own := own) (C := cls) (index := ik) (n := 6) hown' hk' hins hini'
    (g := F0 m pc ls rest) rfl (by rw [hb]; exact d0) (Nat.le_refl _) (Nat.le_refl _)
  generalize hT1 : (T.setVm vm₁).pushCell { cls := cX, slots := kX.instanceTypes.map defaultValue, vm := .none } = T1 at X₁ st1
  have hcat : (Value.ref T.heap.size).category = 1 := rfl
  have hcellA : T1.heap[T.heap.size]? = some (freshCell cX kX) := by rw [← hT1]; exact State.heap_pushCell_size _ _
  have d3' : decode c.code (pc + 3) = .ok (.dup, 1) := by rw [hb]; exact d3
  have d4' : decode c.code (pc + 4) = .ok (.ldc is, 2) := by rw [hb]; exact d4
  have hstr' : vk_R own is text sa s' := vk_R.warm hW0 hstr
  obtain ⟨U, hsteps, hrun, hend, hW, hsame, ce, hce, hO⟩ := X₁.ctorThrowS hexec htr (own := own) (cls := cls) (names := names) (ic := ic) hown' hcls hnames h (fun x hx => nomatch hx) hfX hkX hcellA (by rw [hhp, hT]; exact Nat.le_refl _) (msg := .ref sa) rfl
    (g := { method := m, pc := pc + 6, locals := ls, stack := .ref sa :: .ref T.heap.size :: .ref T.heap.size :: rest, locked := none }) rfl hsize rfl rfl (rest := rest) rfl
    (by rw [hb]; exact d6) (by rw [hb]; exact d9) hout hRframes (by simp only [List.map_cons, List.sum_cons, hcat]; omega) hlocks
  obtain ⟨f1, f2⟩ := vx_frame hsame
  rw [hhp] at f1 f2
  have hWs : s.WarmedH U.vm := State.WarmedH.trans hW0 hW
  have hcl : s.vm.findClass cls = some ce.cls := by
    have h9 := hO.cls
    rw [hvm] at h9
    exact h9
  have hall : s.sameButNew ({ U with vm := s.vm } : State) locs mc ms := by
    subst hA
    obtain ⟨e1, e2⟩ := hsame
    rw [State.setFrames_setFrames] at e1
    have h2 : (T.setVm s.vm).sameButNew ({ U with vm := s.vm } : State) [] (0 + 1) (0 + 6) := ⟨e1, e2⟩
    have h3 := X.same.trans h2
    rw [List.append_nil] at h3
    exact h3.mono hc hs
  refine ⟨U, ?_, .threw T.heap.size, hrun, hend, Or.inr ⟨T.heap.size, rfl, cls, ce, locs, hx U hWs.alike f1 (fun q hq => f2 q hq (fun z hz => nomatch hz)), hce, hO.vm, hcl, hWs, hall, hf⟩⟩
  refine st1 _ ?_
  show Steps p.tables e below (T1.setTop { method := m, pc := pc + 3, locals := ls, stack := .ref T.heap.size :: rest, locked := none }) _
  jvm_step X₁.here [X₁.here.top, hexec, d3', Value.category]
  exact X₁.ldcString hexec (own := own) (text := text) (index := is) (a := sa) hown' hstr'.1 hstr'.2
    (g := { method := m, pc := pc + 4, locals := ls, stack := .ref T.heap.size :: .ref T.heap.size :: rest, locked := none }) rfl d4' _ hsteps
/-- 'throw new E("text")', the text by a wide index -/
theorem vx_throwSW {cc : ByteArray} {pc : Nat} (hexec : p.tables.exec = Jvm.exec) (hb : c.code = cc) (hl : l.stackTraces = false) {own cls text : String} {names : List String} {ik is ic mc ms sa : Nat} {A : Nat → Prop}
    (hown : s.vm.findClass own = some m.cls) (hcls : Bundle.fit cls = true) (hnames : ∀ n ∈ names, Bundle.fit n = true)
    (hk : (Cond.classLink own ik cls).before args s = true) (hini : (Cond.initialized cls).before args s = true) (hstr : vk_R own is text sa s) (hat : ∀ w ∈ vx_atS own ic cls names, w.before args s = true)
    (hgood : ∀ w ∈ Cond.classLink own ik cls :: Cond.initialized cls :: vx_atS own ic cls names, vx_ot w = true)
    (hU : vx_Zq Bundle.tN "UNASSIGNED_STACK" Bundle.steD A s s.heap) (hN : vx_Zq Bundle.tN "SUPPRESSED_SENTINEL" Bundle.listD A s s.heap) (hS : va_S A s.heap H locs) (hsize : ls.size = c.maxLocals)
    (d0 : decode cc pc = .ok (.new ik, 3)) (d3 : decode cc (pc + 3) = .ok (.dup, 1)) (d4 : decode cc (pc + 4) = .ok (.ldc_w is, 3)) (d7 : decode cc (pc + 7) = .ok (.invokespecial ic, 3)) (d10 : decode cc (pc + 10) = .ok (.athrow, 1))
    (hout : ∀ x ∈ c.exceptionTable.toList, covers x (pc + 10) = false)
    (hRframes : names.length + 3 < R.frames) (hRlocals : (rest.map fun v => v.category).sum + (13 * (names.length + 1) + 43) ≤ R.locals) (hRcells : cells + 1 ≤ R.cells) (hRslots : slots + 6 ≤ R.slots) (hlocks : meth.locks = false)
    (hx : ∀ t : State, s.vm.Alike t.vm → H.size ≤ t.heap.size → (∀ q : Nat, q < H.size → t.heap[q]? = H[q]?) → XC cls s t)
    (hf : ∀ z ∈ locs, free z.base) (hc : cells + 1 ≤ mc) (hs : slots + 6 ≤ ms) :
    W p l e R s m args below meth c H locs cells slots (vx_MQ below Qc XC args s mc ms free) (F0 m pc ls rest) := by
  intro T hT X
  have htr : e.platform.stackTraces = false := (show e.platform.stackTraces = l.stackTraces by rw [X.admits.platform]).trans hl
  have Y := vx_rebase X (R' := { frames := R.frames, locals := R.locals, cells := 1, slots := 6 }) (Nat.le_refl _) (Nat.le_refl _) hRcells hRslots
  obtain ⟨s', hA⟩ : ∃ z, z = (T.setVm s.vm).setFrames (.invoking m args :: below) := ⟨_, rfl⟩
  rw [← hA] at Y
  have hvm : s'.vm = s.vm := by rw [hA]; rfl
  have hhp : s'.heap = H := by rw [hA]; exact hT
  have hW0 : s.WarmedH s'.vm := by rw [hvm]; exact State.WarmedH.refl s
  have hat' : ∀ w ∈ vx_atS own ic cls names, w.before args s' = true := fun w hw => vx_ot_at hW0 hvm.symm (hgood w (List.mem_cons_of_mem _ (List.mem_cons_of_mem _ hw))) (hat w hw)
  have hk' : (Cond.classLink own ik cls).before args s' = true := vx_ot_at hW0 hvm.symm (hgood _ List.mem_cons_self) hk
  have hini' : (Cond.initialized cls).before args s' = true := vx_ot_at hW0 hvm.symm (hgood _ (List.mem_cons_of_mem _ List.mem_cons_self)) hini
  have hU' : vx_Zq Bundle.tN "UNASSIGNED_STACK" Bundle.steD A s' s'.heap := by rw [hhp]; exact vx_Zq.moved hW0.alike (hU.kept hS.2.1)
  have hN' : vx_Zq Bundle.tN "SUPPRESSED_SENTINEL" Bundle.listD A s' s'.heap := by rw [hhp]; exact vx_Zq.moved hW0.alike (hN.kept hS.2.1)
  have h : ∀ w ∈ Bundle.ownAtoms own ic cls names, w.before args s' = true := vx_own hat' (vx_isRefq hU'.1) (vx_isRefq hN'.1) hU'.2.word hN'.2.word
  have hown' : s'.vm.findClass own = some m.cls := by rw [hvm]; exact hown
  have hins : (Cond.instantiable cls 6).before args s' = true := h _ (by simp [Bundle.ownAtoms])
  obtain ⟨vm₁, cX, kX, hfX, hkX, -, -, X₁, st1⟩ := Y.newCold hexec (own := own) (C := cls) (index := ik) (n := 6) hown' hk' hins hini'
    (g := F0 m pc ls rest) rfl (by rw [hb]; exact d0) (Nat.le_refl _) (Nat.le_refl _)
  generalize hT1 : (T.setVm vm₁).pushCell { cls := cX, slots := kX.instanceTypes.map defaultValue, vm := .none } = T1 at X₁ st1
  have hcat : (Value.ref T.heap.size).category = 1 := rfl
  have hcellA : T1.heap[T.heap.size]? = some (freshCell cX kX) := by rw [← hT1]; exact State.heap_pushCell_size _ _
  have d3' : decode c.code (pc + 3) = .ok (.dup, 1) := by rw [hb]; exact d3
  have d4' : decode c.code (pc + 4) = .ok (.ldc_w is, 3) := by rw [hb]; exact d4
  have hstr' : vk_R own is text sa s' := vk_R.warm hW0 hstr
  obtain ⟨U, hsteps, hrun, hend, hW, hsame, ce, hce, hO⟩ := X₁.ctorThrowS hexec htr (own := own) (cls := cls) (names := names) (ic := ic) hown' hcls hnames h (fun x hx => nomatch hx) hfX hkX hcellA (by rw [hhp, hT]; exact Nat.le_refl _) (msg := .ref sa) rfl
    (g := { method := m, pc := pc + 7, locals := ls, stack := .ref sa :: .ref T.heap.size :: .ref T.heap.size :: rest, locked := none }) rfl hsize rfl rfl (rest := rest) rfl
    (by rw [hb]; exact d7) (by rw [hb]; exact d10) hout hRframes (by simp only [List.map_cons, List.sum_cons, hcat]; omega) hlocks
  obtain ⟨f1, f2⟩ := vx_frame hsame
  rw [hhp] at f1 f2
  have hWs : s.WarmedH U.vm := State.WarmedH.trans hW0 hW
  have hcl : s.vm.findClass cls = some ce.cls := by
    have h9 := hO.cls
    rw [hvm] at h9
    exact h9
  have hall : s.sameButNew ({ U with vm := s.vm } : State) locs mc ms := by
    subst hA
    obtain ⟨e1, e2⟩ := hsame
    rw [State.setFrames_setFrames] at e1
    have h2 : (T.setVm s.vm).sameButNew ({ U with vm := s.vm } : State) [] (0 + 1) (0 + 6) := ⟨e1, e2⟩
    have h3 := X.same.trans h2
    rw [List.append_nil] at h3
    exact h3.mono hc hs
  refine ⟨U, ?_, .threw T.heap.size, hrun, hend, Or.inr ⟨T.heap.size, rfl, cls, ce, locs, hx U hWs.alike f1 (fun q hq => f2 q hq (fun z hz => nomatch hz)), hce, hO.vm, hcl, hWs, hall, hf⟩⟩
  refine st1 _ ?_
  show Steps p.tables e below (T1.setTop { method := m, pc := pc + 3, locals := ls, stack := .ref T.heap.size :: rest, locked := none }) _
  jvm_step X₁.here [X₁.here.top, hexec, d3', Value.category]
  exact X₁.ldcStringW hexec (own := own) (text := text) (index := is) (a := sa) hown' hstr'.1 hstr'.2
    (g := { method := m, pc := pc + 4, locals := ls, stack := .ref T.heap.size :: .ref T.heap.size :: rest, locked := none }) rfl d4' _ hsteps
end Ends
section Bodies
variable {l : Launch}
theorem vx_ofW {y : MethodName} {ws ws' : List Cond} {rm : Room} {Pc : Array Value → State → Prop} {Qc : Array Value → State → Outcome → State → Prop} {XC : String → State → State → Prop} {mc ms : Nat} {free : Addr → Prop} {cc : ByteArray} {maxL : Nat} {ret : Option FieldType}
    (hy : plainName y.cls = true) (hw : ws = Cond.code y cc maxL ret :: ws')
    (body : ∀ p e s m args below meth c s₁, BodyLoose p l y (headSpec ws rm) cc maxL ret e s m args below meth c s₁ → c.maxLocals = maxL → (∀ x ∈ c.exceptionTable.toList, False) → Pc args s →
      W p l e (headSpec ws rm).room s m args below meth c s.heap [] 0 0 (vx_MQ below Qc XC args s mc ms free) (entryFrame m args maxL)) : vx_Met l y ws rm Pc Qc XC mc ms free := by
  refine MetFree.of_bodyS (code := cc) (maxLocals := maxL) (ret := ret) hy ?_ ?_
  · intro args s m h hn
    obtain ⟨meth, c, h1, h2, h3, h4, h5, h6, -, -⟩ := Cond.code_spec hn (atoms_spec (ws := ws) h _ (by rw [hw]; exact List.mem_cons_self))
    exact ⟨meth, c, h1, h2, h3, h4, h5, h6⟩
  · intro p e s m args below meth c s₁ B hml hP _
    have hh0 : s₁.heap = s.heap := by rw [B.state]; rfl
    have ht : ∀ x ∈ c.exceptionTable.toList, False := by
      obtain ⟨meth9, c9, h1, h2, -, -, -, -, h7, -⟩ := Cond.code_spec B.named (atoms_spec (ws := ws) B.pre _ (by rw [hw]; exact List.mem_cons_self))
      cases Option.some.inj (h1.symm.trans B.method)
      cases Option.some.inj (h2.symm.trans (Stand.of_body B).code)
      intro x hx
      rw [Array.isEmpty_iff.mp h7] at hx
      cases hx
    obtain ⟨t, a1, o, b1, b2, b3⟩ := body p e s m args below meth c s₁ B hml ht hP s₁ hh0 (Stand.of_body B)
    exact ⟨t, o, a1, b1, b2, b3⟩
/-- the table of a body with handlers -/
theorem vx_table {p : Program} {x y : MethodName} {S : Spec} {cc bytes : ByteArray} {maxL maxL' : Nat} {ret ret' : Option FieldType} {e : Env} {s s₁ : State} {m : MethodId} {args : Array Value} {below : List Frame} {meth : Method} {c : Code} {hh : List (Nat × Nat × Nat × Nat)}
    (B : BodyLoose p l y S cc maxL ret e s m args below meth c s₁) (h : (Cond.codeWith y bytes maxL' ret' hh).before args s = true) : c.exceptionTable.toList = tableOf hh := by
  obtain ⟨m9, meth9, c9, hn9, h1, h2, -, -, h6, -⟩ := Cond.codeWith_spec h
  cases Option.some.inj (hn9.symm.trans B.named)
  cases Option.some.inj (h1.symm.trans B.method)
  cases Option.some.inj (h2.symm.trans (Stand.of_body B).code)
  rw [← h6, table_eq]
end Bodies
end VXA
/-! ===== END ===== -/
/-! ===== BEGIN a static call of a method with an exception table ===== -/
section VXS
variable {p : Program} {l : Launch} {e : Env} {R : Room} {s : State} {m : MethodId} {args : Array Value} {below : List Frame} {meth : Method} {c : Code} {T : State} {H : Heap} {locs : List Loc} {cells slots : Nat}
abbrev vx_CSW (R : Room) (s : State) (args : Array Value) (own : String) (index : Nat) (y : MethodName) (bytes : ByteArray) (maxL : Nat) (ret : Option FieldType) (hh : List (Nat × Nat × Nat × Nat)) (ws : List Cond) (rm : Room) (mc ms n : Nat) : Prop :=
  (rm.cells = mc ∧ rm.slots = ms ∧ rm.frames + 1 ≤ R.frames ∧ 8 + (maxL + 11) + rm.locals ≤ R.locals ∧ (∀ w ∈ ws, ∀ (a' : Array Value) (U : State), s.WarmedH U.vm → w.before a' U = true) ∧ Cond.codeWith y bytes maxL ret hh ∈ ws) ∧
  (Cond.codeWith y bytes maxL ret hh).before args s = true ∧ (Cond.initialized y.cls).before args s = true ∧ (y.cls ≠ "java/lang/invoke/MethodHandle" ∧ y.cls ≠ "java/lang/invoke/VarHandle") ∧
  (∀ sig, parseMethodDescriptor y.desc = some sig → n = sig.parameters.length) ∧ (Cond.methodLink own index y).before args s = true ∧ (Cond.static y).before args s = true
theorem vx_cwSW {own : String} {index maxL mc ms : Nat} {y : MethodName} {bytes : ByteArray} {ret : Option FieldType} {hh : List (Nat × Nat × Nat × Nat)} {Ts ws ws' : List Cond} {rm : Room} (n : Nat) (ht : ∀ w ∈ Ts, w.before args s = true) (hT : GoodIn Ts (va_wsS own index y ws)) (hw : ws = Cond.codeWith y bytes maxL ret hh :: ws') (hrc : rm.cells = mc) (hrs : rm.slots = ms)
    (hd : y.cls ≠ "java/lang/invoke/MethodHandle" ∧ y.cls ≠ "java/lang/invoke/VarHandle" ∧ (parseMethodDescriptor y.desc).map (fun d => d.parameters.length) = some n) (hR : rm.frames + 1 ≤ R.frames ∧ 8 + (maxL + 11) + rm.locals ≤ R.locals) :
    vx_CSW R s args own index y bytes maxL ret hh ws rm mc ms n := by
  have ok : ∀ w ∈ va_wsS own index y ws, w.before args s = true := fun w h => ht w (hT w h).1
  have hG : GoodIn Ts ws := fun w h => hT w (by unfold va_wsS; exact List.mem_append_right _ h)
  have hc : Cond.codeWith y bytes maxL ret hh ∈ ws := by rw [hw]; exact List.mem_cons_self
  refine ⟨⟨hrc, hrs, hR.1, hR.2, pay_in ht hG, hc⟩, ht _ (hG _ hc).1, ok _ (by simp [va_wsS]), ⟨hd.1, hd.2.1⟩, fun sig h => ?_, ok _ (by simp [va_wsS]), ok _ (by simp [va_wsS])⟩
  have h2 := hd.2.2
  rw [h] at h2
  exact (Option.some.inj h2).symm
theorem vx_callSW (X : Stand p l e R s m args below meth c T locs cells slots) (hexec : p.tables.exec = Jvm.exec) {own : String} {index : Nat} {y : MethodName} {bytes : ByteArray} {maxL : Nat} {ret : Option FieldType} {hh : List (Nat × Nat × Nat × Nat)}
    (hown : s.vm.findClass own = some m.cls) (hlink : (Cond.methodLink own index y).before args s = true) (hstat : (Cond.static y).before args s = true) (hinit : (Cond.initialized y.cls).before args s = true)
    (hcode : (Cond.codeWith y bytes maxL ret hh).before args s = true) (hy : y.cls ≠ "java/lang/invoke/MethodHandle" ∧ y.cls ≠ "java/lang/invoke/VarHandle")
    {W9 : Nat} {Pre : Pt → Array Value → Prop} {Post : Pt → Array Value → Option Value → Pt → Prop} (hK : Back l R p e below s args y 3 W9 Pre Post)
    {g : JFrame} (hg : g.method = m) (hsize : g.locals.size = c.maxLocals) {argsL rest : List Value} (hlen : ∀ sig, parseMethodDescriptor y.desc = some sig → argsL.length = sig.parameters.length)
    (hstack : g.stack = argsL.reverse ++ rest) (hW : 2 * g.monitorRoom + (rest.map fun v => v.category).sum ≤ W9) (hdg : decode c.code g.pc = .ok (.invokestatic index, 3))
    (hpre : ∀ vm₁, s.WarmedH vm₁ → Pre ⟨T.setVm vm₁, locs, cells, slots⟩ argsL.toArray) :
    ∃ (v : Option Value) (vm₁ : Vm) (B : Pt), s.WarmedH vm₁ ∧ Stand p l e R s m args below meth c B.U B.locs B.cells B.slots ∧ Post ⟨T.setVm vm₁, locs, cells, slots⟩ argsL.toArray v B ∧
      ∀ target, Steps p.tables e below (B.U.setTop { g with pc := g.pc + 3, stack := v.toList ++ rest }) target → Steps p.tables e below (T.setTop g) target := by
  obtain ⟨mk, methM, cM, hnamed, hmethM, -, -, -, -, -, -, hsigM⟩ := Cond.codeWith_spec hcode
  have hstatic : methM.isStatic = true := Cond.static_spec hnamed hmethM hstat
  obtain ⟨kP, hkP, -⟩ := className_of_methodNamed hnamed
  have hinitP : kP.init = .initialized := Cond.initialized_spec (findClass_of_methodNamed hnamed) hkP hinit
  obtain ⟨vm₁, X₁, hstep₁⟩ := X.invokestatic hexec hown hlink hnamed hmethM hstatic hkP hinitP hy (g := g) hg (argsL := argsL) (rest := rest) (hlen _ hsigM) hstack hdg
  obtain ⟨v, B, X', hpost, hsteps⟩ := hK m meth c ⟨T.setVm vm₁, locs, cells, slots⟩ { g with stack := rest } (.invokestatic index) mk argsL.toArray X₁ hg hsize hdg hW (X₁.named hnamed) (hpre vm₁ X₁.warmed)
  exact ⟨v, vm₁, B, X₁.warmed, X', hpost, fun target h => hstep₁ _ fun acts => by rw [doInvoke_state]; exact hsteps.trans h⟩
theorem vx_runSW {y : MethodName} {bytes cc : ByteArray} {maxL nL mc ms n index : Nat} {ret : Option FieldType} {hh : List (Nat × Nat × Nat × Nat)} {ws : List Cond} {rm : Room} {Pc : Array Value → State → Prop} {Qc : Array Value → State → Outcome → State → Prop} {free : Addr → Prop} {Ts : List Cond} {own : String} {As rest : List Value} {g : JFrame}
    (S : CallFix p m c cc nL s args Ts own) (hM : Met l y ws rm Pc Qc mc ms free) (cw : vx_CSW R s args own index y bytes maxL ret hh ws rm mc ms n) (hp : PreS s H Pc As)
    (hg : g.method = m) (hn : As.length = n) (hsize : g.locals.size = nL) (hstack : g.stack = As.reverse ++ rest) (hW : 2 * g.monitorRoom + (rest.map fun v => v.category).sum ≤ 8) (hdg : decode cc g.pc = .ok (.invokestatic index, 3)) (hf : cells + mc ≤ R.cells ∧ slots + ms ≤ R.slots) :
    va_Run p l e R s m args below meth c H locs cells slots mc ms g rest (Qc As.toArray) (free) := by
  obtain ⟨⟨hrc, hrs, hfr, hlo, hws, hcw⟩, hcode, hini, hy, hlen, hl, hstt⟩ := cw
  have hK : Back l R p e below s args y 3 8 (PreOf R mc ms Pc) (PostOf Qc mc ms free) := va_backW (hh := hh) (bytes := bytes) (maxL := maxL) (ret := ret) hM hp.1 hrc hrs hfr hlo hws hcw (fun a' U hW => word_at hW (Or.inl (by first | rfl | simp [Cond.onTables, Cond.keeps, Cond.steady])) hini)
  obtain ⟨hx, hb, hml, ho, -⟩ := S
  intro T hT X
  obtain ⟨v, vm₁, ⟨U', l2, c2, s2⟩, hW₁, X', ⟨g', mk, t, L, e1, e2, hq, h1, hL, h2, h3⟩, st⟩ := vx_callSW X hx (hh := hh) (bytes := bytes) (maxL := maxL) (ret := ret) ho hl hstt hini hcode hy hK hg (hsize.trans hml.symm) (argsL := As) (rest := rest) (fun sig h => hn.trans (hlen sig h)) hstack hW (by rw [hb]; exact hdg)
    (fun vm₁ hW₁ => ⟨hf.1, hf.2, hp.2 (T.setVm vm₁) hT hW₁⟩)
  dsimp only [Pt.U, Pt.locs, Pt.cells, Pt.slots] at X' e1 e2 h1 h2 h3 st
  subst h1; subst h2; subst h3
  exact ⟨v, (T.setVm vm₁).calling g' mk As.toArray, t, U', L, hT, X', hL, e1, e2, hq, st⟩
/-- not caught here, past rows that name other classes: it goes on to the caller -/
theorem vx_outP {p : Program} {l : Launch} {e : Env} {R : Room} {s : State} {m : MethodId} {args : Array Value} {below : List Frame} {meth : Method} {c : Code} {H : Heap} {locs : List Loc} {cells slots : Nat} {free : Addr → Prop} {ls : Array Slot} {rest : List Value} {Qc : Array Value → State → Outcome → State → Prop} {XC : String → State → State → Prop}
    {pc : Nat} {own E : String} {ce : Cell} {q : Addr} {mc ms : Nat} (hown : s.vm.findClass own = some m.cls) (hlocks : meth.locks = false)
    (hpass : ∀ z ∈ c.exceptionTable.toList, covers z pc = false ∨ (z.catchType ≠ 0 ∧ ∃ nm : String, (Cond.classLink own z.catchType nm).before args s = true ∧ va_Nc E nm s)) (hcell : H[q]? = some ce) (hv : ce.vm = .none) (hcl : s.vm.findClass E = some ce.cls)
    (hx : ∀ t : State, t.heap = H → s.vm.Alike t.vm → XC E s t) (hf : ∀ z ∈ locs, free z.base) (hc : cells ≤ mc) (hs : slots ≤ ms) :
    vx_W p l e R s m args below meth c H locs cells slots (vx_MQ below Qc XC args s mc ms free) (F0 m pc ls rest) q := by
  intro T hT X
  have hpl : e.platform.magicAccessors = ({} : Platform).magicAccessors := by rw [X.admits.platform]
  obtain ⟨vm', hW', X', st⟩ := X.outThrough hlocks q (g := F0 m pc ls rest) rfl rfl rfl (cell := ce) (by rw [hT]; exact hcell) (by rw [hv]; rfl)
    (by obtain ⟨k9, h9, -⟩ := Vm.findClass_spec hcl; exact ⟨k9, h9⟩) (fun z hz => by
      rcases hpass z hz with h | ⟨hz0, nm, hl1, hn1⟩
      · exact Or.inl h
      · obtain ⟨c6, hc6, hcl6⟩ := Cond.classLink_spec hown hl1 e.platform hpl
        obtain ⟨a8, b8, h1, h2, h3⟩ := hn1
        cases Option.some.inj (h1.symm.trans hcl)
        cases Option.some.inj (h2.symm.trans hc6)
        exact Or.inr ⟨hz0, _, hcl6, h3⟩)
  obtain ⟨g₀, hfr⟩ := X'.frames_eq
  have hcell9 : ((T.setVm vm').setFrames (.throwing q :: below)).heap[q]? = some ce := by
    show T.heap[q]? = some ce
    rw [hT]; exact hcell
  have hend : Ended ((T.setVm vm').setFrames (.throwing q :: below)) below (.threw q) := State.frames_setFrames _ (State.cur_lt_of_frames hfr)
  refine ⟨(T.setVm vm').setFrames (.throwing q :: below), ?_, .threw q, X'.here.running, hend, Or.inr ⟨q, rfl, E, ce, locs, hx _ hT (X'.ends _).1.alike, hcell9, hv, hcl, (X'.ends _).1, (X'.ends _).2.mono hc hs, hf⟩⟩
  rw [X.pushThrowing_eq]
  exact st
/-- a thing of a world lies in the heap -/
theorem vx_lt {D : va_G} {cl : List vw_C} {ws : va_W} {H1 : Heap} (h : va_P D cl ws H1) {k : Nat} {q : Nat × va_E} (hk : ws[k]? = some q) : q.1 < H1.size := (h k q hk).lt
end VXS
/-! ===== END ===== -/
/-! ===== BEGIN methods with a table of their own: called by a name, returning or throwing ===== -/
section VXH
/-! vx_backW, vx_callVX, vx_callSX, vx_callVW, vx_runVW, vx_runVX, vx_runSX, vx_ofWH follow the same proofs as their sisters above (Free/Laws.lean, Shelf42/LK1.lean); vx_outP calls Shelf42/NT130.lean (outThrough). -/
section
variable {l : Launch} {R : Room} {p : Program} {e : Env} {below : List Frame} {s : State} {sargs : Array Value} {y : MethodName} {len W9 : Nat}
theorem vx_backW {ws : List Cond} {rm : Room} {Pc : Array Value → State → Prop} {Qc : Array Value → State → Outcome → State → Prop} {XC : String → State → State → Prop} {mc ms : Nat} {free : Addr → Prop} {bytes : ByteArray} {maxL : Nat} {ret : Option FieldType} {hh : List (Nat × Nat × Nat × Nat)}
    (hM : vx_Met l y ws rm Pc Qc XC mc ms free) (hblind : FrameBlind Pc) (hrc : rm.cells = mc) (hrs : rm.slots = ms)
    (hframes : rm.frames + 1 ≤ R.frames) (hlocals : W9 + (maxL + 11) + rm.locals ≤ R.locals)
    (hws : ∀ w ∈ ws, ∀ a' U, s.WarmedH U.vm → w.before a' U = true) (hcode : Cond.codeWith y bytes maxL ret hh ∈ ws) (hinit : ∀ a' U, s.WarmedH U.vm → (Cond.initialized y.cls).before a' U = true) :
    vx_Back l R p e below s sargs y len W9 (PreOf R mc ms Pc) (PostOf Qc mc ms free) (vx_Post XC mc ms free) := by
  intro m meth c A g ig mk a X hg hsize hdg hW hn hp
  have h1 : (headSpec ws rm).pre.before a A.U = true := atoms_intro fun w hw => hws w hw _ _ X.warmed
  have h2 : (Cond.codeWith y bytes maxL ret hh).before a A.U = true := hws _ hcode _ _ X.warmed
  have h3 : (Cond.initialized y.cls).before a A.U = true := hinit _ _ X.warmed
  have h4 : A.cells + (headSpec ws rm).room.cells ≤ R.cells := by rw [show (headSpec ws rm).room.cells = mc from hrc]; exact hp.1
  have h5 : A.slots + (headSpec ws rm).room.slots ≤ R.slots := by rw [show (headSpec ws rm).room.slots = ms from hrs]; exact hp.2.1
  have hPc : Pc a (A.U.calling g mk a) := hblind _ _ _ _ hp.2.2
  obtain ⟨U, Ls, c0, s0⟩ := A
  dsimp only [Pt.U, Pt.locs, Pt.cells, Pt.slots] at h1 h2 h3 h4 h5 X hn hPc ⊢
  obtain ⟨m9, methY, cY, hn9, hmY, hcY, -, hlY, -⟩ := Cond.codeWith_spec h2
  cases Option.some.inj (hn9.symm.trans hn)
  obtain ⟨kY, hkY, -⟩ := className_of_methodNamed hn
  have hinitY : kY.init = .initialized := Cond.initialized_spec (findClass_of_methodNamed hn) hkY h3
  have h : At U g.method c below := by rw [hg]; exact X.here
  have hlocals9 : W9 + (maxL + 11) + (headSpec ws rm).room.locals ≤ R.locals := hlocals
  have happ : (headSpec ws rm).appliesLoose y e.platform (U.calling g mk a) = true :=
    Spec.appliesLoose_calling (g := g) h hdg hn hkY hinitY
      (X.room_calling (g := g) (R' := (headSpec ws rm).room) hsize hmY hcY hframes (by rw [hlY]; omega) h4 h5) h1
  obtain ⟨mid, hmid⟩ := h.above
  have hfr : (U.setTop g).frames = (.java g :: mid) ++ below := by rw [State.frames_setTop' g h.top, hmid]; rfl
  obtain ⟨o, s₂, hsteps, -, hend, hq⟩ := Steps.callFree hM p X.admits X.cas X.clock (acts := []) hfr happ hPc trivial
  have hq' : vx_Q Qc XC mc ms free a (U.calling g mk a) o s₂ := hq
  rw [State.frames_setTop' g h.top] at hend
  obtain ⟨g₀, hg0⟩ := Option.isSome_iff_exists.mp h.top
  obtain ⟨r, hr⟩ := State.topJava?_eq_some.mp hg0
  have hr' : (({ U with heap := s₂.heap, slotsUsed := s₂.slotsUsed } : State).setVm s₂.vm).frames = .java g₀ :: r := hr
  rcases hq' with ⟨hqc, L, hfe, hL⟩ | ⟨q, rfl, E, ce, L, hx, hce, hcv, hcl, hW₂, hsm, hL⟩
  · obtain ⟨⟨v, rfl⟩, hW₂, e2, q2, q3, q4, q5, q6⟩ := id hfe
    have e3 : s₂ = ({ (U.calling g mk a).setFrames s₂.frames with heap := s₂.heap, slotsUsed := s₂.slotsUsed } : State).setVm s₂.vm := by
      have : s₂ = ({ s₂ with vm := (U.calling g mk a).vm } : State).setVm s₂.vm := rfl
      rw [e2] at this
      exact this
    obtain ⟨c₂, i₂, len₂, hc₂, hd₂, hf₂⟩ := hend
    have hW' : U.WarmedH s₂.vm := hW₂
    have hcc : c₂ = c := by
      have h1 : s₂.code? g.method = U.code? g.method := by
        rw [State.code?_eq, State.code?_eq, hW'.alike.method?]
      exact Option.some.inj (hc₂.symm.trans (h1.trans h.code))
    subst hcc
    have hlen : len₂ = len := by rw [hdg] at hd₂; cases hd₂; rfl
    subst hlen
    have hs₂ : s₂ = (({ U with heap := s₂.heap, slotsUsed := s₂.slotsUsed } : State).setVm s₂.vm).setTop { g with pc := g.pc + len₂, stack := v.toList ++ g.stack } := by
      refine e3.trans ?_
      rw [hf₂, State.calling_eq h.top, State.setFrames_setFrames, State.setTop_of_frames _ hr', hr]
      rfl
    have hsame : U.sameButNew ({ U with heap := s₂.heap, slotsUsed := s₂.slotsUsed } : State) L mc ms := by
      refine ⟨?_, q2, q3, q4, q5, q6⟩
      obtain ⟨t, ht, -⟩ := State.frames_cons hr
      show ({ U with heap := s₂.heap, slotsUsed := s₂.slotsUsed } : State) = { U.setFrames U.frames with heap := s₂.heap, slotsUsed := s₂.slotsUsed }
      rw [State.setFrames_self ht]
    subst hg
    refine Or.inl ⟨v, ⟨(({ U with heap := s₂.heap, slotsUsed := s₂.slotsUsed } : State).setVm s₂.vm), Ls ++ L, c0 + mc, s0 + ms⟩,
      ⟨X.admits, X.cas, X.clock, X.frames, X.room, X.hears, X.method, X.code, (X.here.setHeapUsed s₂.heap s₂.slotsUsed).setVm hW'.alike, X.tail, State.WarmedH.trans X.warmed hW', X.limits, X.bytes, X.same.trans (hsame.setVm s.vm)⟩,
      ⟨g, mk, s₂, L, rfl, rfl, hqc, rfl, hL, rfl, rfl⟩, ?_⟩
    show Steps p.tables e below _ ((({ U with heap := s₂.heap, slotsUsed := s₂.slotsUsed } : State).setVm s₂.vm).setTop { g with pc := g.pc + len₂, stack := v.toList ++ g.stack })
    rw [← hs₂]
    exact hsteps
  · obtain ⟨e2, q2, q3, q4, q5, q6⟩ := id hsm
    have e3 : s₂ = ({ (U.calling g mk a).setFrames s₂.frames with heap := s₂.heap, slotsUsed := s₂.slotsUsed } : State).setVm s₂.vm := by
      have : s₂ = ({ s₂ with vm := (U.calling g mk a).vm } : State).setVm s₂.vm := rfl
      rw [e2] at this
      exact this
    have hf₂ : s₂.frames = .throwing q :: .java g :: U.frames.tail := hend
    have hW' : U.WarmedH s₂.vm := hW₂
    have hs₂ : s₂ = ((({ U with heap := s₂.heap, slotsUsed := s₂.slotsUsed } : State).setVm s₂.vm).setTop g).pushFrame (.throwing q) := by
      refine e3.trans ?_
      rw [hf₂, State.calling_eq h.top, State.setFrames_setFrames, State.pushFrame, State.frames_setTop _ hr', State.setTop_of_frames _ hr', State.setFrames_setFrames, hr]
      rfl
    have hsame : U.sameButNew ({ U with heap := s₂.heap, slotsUsed := s₂.slotsUsed } : State) L mc ms := by
      refine ⟨?_, q2, q3, q4, q5, q6⟩
      obtain ⟨t, ht, -⟩ := State.frames_cons hr
      show ({ U with heap := s₂.heap, slotsUsed := s₂.slotsUsed } : State) = { U.setFrames U.frames with heap := s₂.heap, slotsUsed := s₂.slotsUsed }
      rw [State.setFrames_self ht]
    subst hg
    refine Or.inr ⟨q, ⟨(({ U with heap := s₂.heap, slotsUsed := s₂.slotsUsed } : State).setVm s₂.vm), Ls ++ L, c0 + mc, s0 + ms⟩,
      ⟨X.admits, X.cas, X.clock, X.frames, X.room, X.hears, X.method, X.code, (X.here.setHeapUsed s₂.heap s₂.slotsUsed).setVm hW'.alike, X.tail, State.WarmedH.trans X.warmed hW', X.limits, X.bytes, X.same.trans (hsame.setVm s.vm)⟩,
      ⟨g, mk, s₂, L, E, ce, rfl, rfl, hx, hce, hcv, hcl, rfl, hL, rfl, rfl⟩, ?_⟩
    show Steps p.tables e below _ (((({ U with heap := s₂.heap, slotsUsed := s₂.slotsUsed } : State).setVm s₂.vm).setTop g).pushFrame (.throwing q))
    rw [← hs₂]
    exact hsteps
end
variable {p : Program} {l : Launch} {e : Env} {R : Room} {s : State} {m : MethodId} {args : Array Value} {below : List Frame} {meth : Method} {c : Code} {T : State} {H : Heap} {locs : List Loc} {cells slots : Nat}
theorem vx_callVX (X : Stand p l e R s m args below meth c T locs cells slots) (hexec : p.tables.exec = Jvm.exec) {own C : String} {index : Nat} {y : MethodName} {bytes : ByteArray} {maxL : Nat} {ret : Option FieldType} {hh : List (Nat × Nat × Nat × Nat)}
    (hown : s.vm.findClass own = some m.cls) (hlink : (Cond.methodLink own index y).before args s = true) (hinst : (Cond.instanceMethod y).before args s = true) (hsel : (Cond.selects C y y).before args s = true)
    (hcode : (Cond.codeWith y bytes maxL ret hh).before args s = true) (hy : y.cls ≠ "java/lang/invoke/MethodHandle" ∧ y.cls ≠ "java/lang/invoke/VarHandle")
    {W9 : Nat} {Pre : Pt → Array Value → Prop} {Post : Pt → Array Value → Option Value → Pt → Prop} {PostX : Pt → Array Value → Addr → Pt → Prop} (hK : vx_Back l R p e below s args y 3 W9 Pre Post PostX)
    {b : Addr} {cellB : Cell} (hcell : T.heap[b]? = some cellB) (hobj : cellB.vm.isStatics = false) (hcls : s.vm.findClass C = some cellB.cls)
    {g : JFrame} (hg : g.method = m) (hsize : g.locals.size = c.maxLocals) {argsL rest : List Value} (hlen : ∀ sig, parseMethodDescriptor y.desc = some sig → argsL.length = sig.parameters.length)
    (hstack : g.stack = argsL.reverse ++ .ref b :: rest) (hW : 2 * g.monitorRoom + (rest.map fun v => v.category).sum ≤ W9) (hdg : decode c.code g.pc = .ok (.invokevirtual index, 3))
    (hpre : ∀ vm₁, s.WarmedH vm₁ → Pre ⟨T.setVm vm₁, locs, cells, slots⟩ (Value.ref b :: argsL).toArray) :
    (∃ (v : Option Value) (vm₁ : Vm) (B : Pt), s.WarmedH vm₁ ∧ Stand p l e R s m args below meth c B.U B.locs B.cells B.slots ∧ Post ⟨T.setVm vm₁, locs, cells, slots⟩ (Value.ref b :: argsL).toArray v B ∧
      ∀ target, Steps p.tables e below (B.U.setTop { g with pc := g.pc + 3, stack := v.toList ++ rest }) target → Steps p.tables e below (T.setTop g) target) ∨
    (∃ (q : Addr) (vm₁ : Vm) (B : Pt), s.WarmedH vm₁ ∧ Stand p l e R s m args below meth c B.U B.locs B.cells B.slots ∧ PostX ⟨T.setVm vm₁, locs, cells, slots⟩ (Value.ref b :: argsL).toArray q B ∧
      Steps p.tables e below (T.setTop g) ((B.U.setTop { g with stack := rest }).pushFrame (.throwing q))) := by
  obtain ⟨mk, methM, hnamed, hmethM, hstM, habM⟩ := Cond.instanceMethod_spec hinst
  obtain ⟨m8, methM', cM, hn8, hmethM', -, -, -, -, -, -, hsigM⟩ := Cond.codeWith_spec hcode
  cases Option.some.inj (hn8.symm.trans hnamed)
  cases hmethM.symm.trans hmethM'
  obtain ⟨c2, r2, m2, q1, q2, q3, q4, kP, hkP, hkPi⟩ := Cond.selects_spec hsel
  cases hcls.symm.trans q1
  cases (State.methodFound?_of_named hnamed hy).symm.trans q2
  cases hnamed.symm.trans q3
  have hselP : selectMethod e.platform s.vm cellB.cls mk = .method mk := by rw [Launch.admits_selectMethod X.admits]; exact q4
  obtain ⟨vm₁, X₁, hstep₁⟩ := X.invokevirtual hexec hown hlink hnamed hmethM hstM hkP hkPi hy (a := b) (cell := cellB) hcell
    (fun z h => by rw [h] at hobj; cases hobj) hselP hmethM habM hkP hkPi (g := g) hg (argsL := argsL) (rest := rest) (hlen _ hsigM) hstack hdg
  rcases hK m meth c ⟨T.setVm vm₁, locs, cells, slots⟩ { g with stack := rest } (.invokevirtual index) mk (Value.ref b :: argsL).toArray X₁ hg hsize hdg hW (X₁.named hnamed) (hpre vm₁ X₁.warmed) with ⟨v, B, X', hpost, hsteps⟩ | ⟨q, B, X', hpost, hsteps⟩
  · exact Or.inl ⟨v, vm₁, B, X₁.warmed, X', hpost, fun target h => hstep₁ _ fun acts => by rw [doInvoke_state]; exact hsteps.trans h⟩
  · exact Or.inr ⟨q, vm₁, B, X₁.warmed, X', hpost, hstep₁ _ fun acts => by rw [doInvoke_state]; exact hsteps⟩
theorem vx_callSX (X : Stand p l e R s m args below meth c T locs cells slots) (hexec : p.tables.exec = Jvm.exec) {own : String} {index : Nat} {y : MethodName} {bytes : ByteArray} {maxL : Nat} {ret : Option FieldType} {hh : List (Nat × Nat × Nat × Nat)}
    (hown : s.vm.findClass own = some m.cls) (hlink : (Cond.methodLink own index y).before args s = true) (hstat : (Cond.static y).before args s = true) (hinit : (Cond.initialized y.cls).before args s = true)
    (hcode : (Cond.codeWith y bytes maxL ret hh).before args s = true) (hy : y.cls ≠ "java/lang/invoke/MethodHandle" ∧ y.cls ≠ "java/lang/invoke/VarHandle")
    {W9 : Nat} {Pre : Pt → Array Value → Prop} {Post : Pt → Array Value → Option Value → Pt → Prop} {PostX : Pt → Array Value → Addr → Pt → Prop} (hK : vx_Back l R p e below s args y 3 W9 Pre Post PostX)
    {g : JFrame} (hg : g.method = m) (hsize : g.locals.size = c.maxLocals) {argsL rest : List Value} (hlen : ∀ sig, parseMethodDescriptor y.desc = some sig → argsL.length = sig.parameters.length)
    (hstack : g.stack = argsL.reverse ++ rest) (hW : 2 * g.monitorRoom + (rest.map fun v => v.category).sum ≤ W9) (hdg : decode c.code g.pc = .ok (.invokestatic index, 3))
    (hpre : ∀ vm₁, s.WarmedH vm₁ → Pre ⟨T.setVm vm₁, locs, cells, slots⟩ argsL.toArray) :
    (∃ (v : Option Value) (vm₁ : Vm) (B : Pt), s.WarmedH vm₁ ∧ Stand p l e R s m args below meth c B.U B.locs B.cells B.slots ∧ Post ⟨T.setVm vm₁, locs, cells, slots⟩ argsL.toArray v B ∧
      ∀ target, Steps p.tables e below (B.U.setTop { g with pc := g.pc + 3, stack := v.toList ++ rest }) target → Steps p.tables e below (T.setTop g) target) ∨
    (∃ (q : Addr) (vm₁ : Vm) (B : Pt), s.WarmedH vm₁ ∧ Stand p l e R s m args below meth c B.U B.locs B.cells B.slots ∧ PostX ⟨T.setVm vm₁, locs, cells, slots⟩ argsL.toArray q B ∧
      Steps p.tables e below (T.setTop g) ((B.U.setTop { g with stack := rest }).pushFrame (.throwing q))) := by
  obtain ⟨mk, methM, cM, hnamed, hmethM, -, -, -, -, -, -, hsigM⟩ := Cond.codeWith_spec hcode
  have hstatic : methM.isStatic = true := Cond.static_spec hnamed hmethM hstat
  obtain ⟨kP, hkP, -⟩ := className_of_methodNamed hnamed
  have hinitP : kP.init = .initialized := Cond.initialized_spec (findClass_of_methodNamed hnamed) hkP hinit
  obtain ⟨vm₁, X₁, hstep₁⟩ := X.invokestatic hexec hown hlink hnamed hmethM hstatic hkP hinitP hy (g := g) hg (argsL := argsL) (rest := rest) (hlen _ hsigM) hstack hdg
  rcases hK m meth c ⟨T.setVm vm₁, locs, cells, slots⟩ { g with stack := rest } (.invokestatic index) mk argsL.toArray X₁ hg hsize hdg hW (X₁.named hnamed) (hpre vm₁ X₁.warmed) with ⟨v, B, X', hpost, hsteps⟩ | ⟨q, B, X', hpost, hsteps⟩
  · exact Or.inl ⟨v, vm₁, B, X₁.warmed, X', hpost, fun target h => hstep₁ _ fun acts => by rw [doInvoke_state]; exact hsteps.trans h⟩
  · exact Or.inr ⟨q, vm₁, B, X₁.warmed, X', hpost, hstep₁ _ fun acts => by rw [doInvoke_state]; exact hsteps⟩
theorem vx_callVW (X : Stand p l e R s m args below meth c T locs cells slots) (hexec : p.tables.exec = Jvm.exec) {own C : String} {index : Nat} {y : MethodName} {bytes : ByteArray} {maxL : Nat} {ret : Option FieldType} {hh : List (Nat × Nat × Nat × Nat)}
    (hown : s.vm.findClass own = some m.cls) (hlink : (Cond.methodLink own index y).before args s = true) (hinst : (Cond.instanceMethod y).before args s = true) (hsel : (Cond.selects C y y).before args s = true)
    (hcode : (Cond.codeWith y bytes maxL ret hh).before args s = true) (hy : y.cls ≠ "java/lang/invoke/MethodHandle" ∧ y.cls ≠ "java/lang/invoke/VarHandle")
    {W9 : Nat} {Pre : Pt → Array Value → Prop} {Post : Pt → Array Value → Option Value → Pt → Prop} (hK : Back l R p e below s args y 3 W9 Pre Post)
    {b : Addr} {cellB : Cell} (hcell : T.heap[b]? = some cellB) (hobj : cellB.vm.isStatics = false) (hcls : s.vm.findClass C = some cellB.cls)
    {g : JFrame} (hg : g.method = m) (hsize : g.locals.size = c.maxLocals) {argsL rest : List Value} (hlen : ∀ sig, parseMethodDescriptor y.desc = some sig → argsL.length = sig.parameters.length)
    (hstack : g.stack = argsL.reverse ++ .ref b :: rest) (hW : 2 * g.monitorRoom + (rest.map fun v => v.category).sum ≤ W9) (hdg : decode c.code g.pc = .ok (.invokevirtual index, 3))
    (hpre : ∀ vm₁, s.WarmedH vm₁ → Pre ⟨T.setVm vm₁, locs, cells, slots⟩ (Value.ref b :: argsL).toArray) :
    ∃ (v : Option Value) (vm₁ : Vm) (B : Pt), s.WarmedH vm₁ ∧ Stand p l e R s m args below meth c B.U B.locs B.cells B.slots ∧ Post ⟨T.setVm vm₁, locs, cells, slots⟩ (Value.ref b :: argsL).toArray v B ∧
      ∀ target, Steps p.tables e below (B.U.setTop { g with pc := g.pc + 3, stack := v.toList ++ rest }) target → Steps p.tables e below (T.setTop g) target := by
  obtain ⟨mk, methM, hnamed, hmethM, hstM, habM⟩ := Cond.instanceMethod_spec hinst
  obtain ⟨m8, methM', cM, hn8, hmethM', -, -, -, -, -, -, hsigM⟩ := Cond.codeWith_spec hcode
  cases Option.some.inj (hn8.symm.trans hnamed)
  cases hmethM.symm.trans hmethM'
  obtain ⟨c2, r2, m2, q1, q2, q3, q4, kP, hkP, hkPi⟩ := Cond.selects_spec hsel
  cases hcls.symm.trans q1
  cases (State.methodFound?_of_named hnamed hy).symm.trans q2
  cases hnamed.symm.trans q3
  have hselP : selectMethod e.platform s.vm cellB.cls mk = .method mk := by rw [Launch.admits_selectMethod X.admits]; exact q4
  obtain ⟨vm₁, X₁, hstep₁⟩ := X.invokevirtual hexec hown hlink hnamed hmethM hstM hkP hkPi hy (a := b) (cell := cellB) hcell
    (fun z h => by rw [h] at hobj; cases hobj) hselP hmethM habM hkP hkPi (g := g) hg (argsL := argsL) (rest := rest) (hlen _ hsigM) hstack hdg
  obtain ⟨v, B, X', hpost, hsteps⟩ := hK m meth c ⟨T.setVm vm₁, locs, cells, slots⟩ { g with stack := rest } (.invokevirtual index) mk (Value.ref b :: argsL).toArray X₁ hg hsize hdg hW (X₁.named hnamed) (hpre vm₁ X₁.warmed)
  exact ⟨v, vm₁, B, X₁.warmed, X', hpost, fun target h => hstep₁ _ fun acts => by rw [doInvoke_state]; exact hsteps.trans h⟩
abbrev vx_CVW (R : Room) (s : State) (args : Array Value) (own C : String) (index : Nat) (y : MethodName) (bytes : ByteArray) (maxL : Nat) (ret : Option FieldType) (hh : List (Nat × Nat × Nat × Nat)) (ws : List Cond) (rm : Room) (mc ms n : Nat) : Prop :=
  (rm.cells = mc ∧ rm.slots = ms ∧ rm.frames + 1 ≤ R.frames ∧ 8 + (maxL + 11) + rm.locals ≤ R.locals ∧ (∀ w ∈ ws, ∀ (a' : Array Value) (U : State), s.WarmedH U.vm → w.before a' U = true) ∧ Cond.codeWith y bytes maxL ret hh ∈ ws) ∧
  (Cond.codeWith y bytes maxL ret hh).before args s = true ∧ (Cond.initialized y.cls).before args s = true ∧ (y.cls ≠ "java/lang/invoke/MethodHandle" ∧ y.cls ≠ "java/lang/invoke/VarHandle") ∧
  (∀ sig, parseMethodDescriptor y.desc = some sig → n = sig.parameters.length) ∧ (Cond.methodLink own index y).before args s = true ∧ (Cond.instanceMethod y).before args s = true ∧ (Cond.selects C y y).before args s = true
theorem vx_cwVW {own C : String} {index maxL mc ms : Nat} {y : MethodName} {bytes : ByteArray} {ret : Option FieldType} {hh : List (Nat × Nat × Nat × Nat)} {Ts ws ws' : List Cond} {rm : Room} (n : Nat) (ht : ∀ w ∈ Ts, w.before args s = true) (hT : GoodIn Ts (wsV own index C y ws)) (hw : ws = Cond.codeWith y bytes maxL ret hh :: ws') (hrc : rm.cells = mc) (hrs : rm.slots = ms)
    (hd : y.cls = C ∧ y.cls ≠ "java/lang/invoke/MethodHandle" ∧ y.cls ≠ "java/lang/invoke/VarHandle" ∧ (parseMethodDescriptor y.desc).map (fun d => d.parameters.length) = some n) (hR : rm.frames + 1 ≤ R.frames ∧ 8 + (maxL + 11) + rm.locals ≤ R.locals) :
    vx_CVW R s args own C index y bytes maxL ret hh ws rm mc ms n := by
  obtain ⟨hC, hd⟩ := hd
  subst hC
  have ok : ∀ w ∈ wsV own index y.cls y ws, w.before args s = true := fun w h => ht w (hT w h).1
  have hG : GoodIn Ts ws := fun w h => hT w (by unfold wsV; exact List.mem_append_right _ h)
  have hc : Cond.codeWith y bytes maxL ret hh ∈ ws := by rw [hw]; exact List.mem_cons_self
  refine ⟨⟨hrc, hrs, hR.1, hR.2, pay_in ht hG, hc⟩, ht _ (hG _ hc).1, ok _ (by simp [wsV]), ⟨hd.1, hd.2.1⟩, fun sig h => ?_, ok _ (by simp [wsV]), ok _ (by simp [wsV]), ok _ (by simp [wsV])⟩
  have h2 := hd.2.2
  rw [h] at h2
  exact (Option.some.inj h2).symm
theorem vx_runVW {y : MethodName} {bytes cc : ByteArray} {maxL nL mc ms n index : Nat} {ret : Option FieldType} {hh : List (Nat × Nat × Nat × Nat)} {ws : List Cond} {rm : Room} {Pc : Array Value → State → Prop} {Qc : Array Value → State → Outcome → State → Prop} {free : Addr → Prop} {Ts : List Cond} {own C : String} {b : Addr} {As rest : List Value} {g : JFrame}
    (S : CallFix p m c cc nL s args Ts own) (hM : Met l y ws rm Pc Qc mc ms free) (cw : vx_CVW R s args own C index y bytes maxL ret hh ws rm mc ms n) (hp : PreV s H C b Pc As)
    (hg : g.method = m) (hn : As.length = n) (hsize : g.locals.size = nL) (hstack : g.stack = As.reverse ++ .ref b :: rest) (hW : 2 * g.monitorRoom + (rest.map fun v => v.category).sum ≤ 8) (hdg : decode cc g.pc = .ok (.invokevirtual index, 3)) (hf : cells + mc ≤ R.cells ∧ slots + ms ≤ R.slots) :
    va_Run p l e R s m args below meth c H locs cells slots mc ms g rest (Qc (Value.ref b :: As).toArray) free := by
  obtain ⟨⟨hrc, hrs, hfr, hlo, hws, hcw⟩, hcode, hini, hy, hlen, hl, hin, hse⟩ := cw
  have hK : Back l R p e below s args y 3 8 (PreOf R mc ms Pc) (PostOf Qc mc ms free) := va_backW (hh := hh) (bytes := bytes) (maxL := maxL) (ret := ret) hM hp.1 hrc hrs hfr hlo hws hcw (fun a' U hW => word_at hW (Or.inl (by first | rfl | simp [Cond.onTables, Cond.keeps, Cond.steady])) hini)
  obtain ⟨hx, hb, hml, ho, -⟩ := S
  obtain ⟨-, ⟨cellB, hcB, hoB, hclB⟩, hPc⟩ := hp
  intro T hT X
  obtain ⟨v, vm₁, ⟨U', l2, c2, s2⟩, hW₁, X', ⟨g', mk, t, L, e1, e2, hq, h1, hL, h2, h3⟩, st⟩ := vx_callVW X hx (C := C) (hh := hh) (bytes := bytes) (maxL := maxL) (ret := ret) ho hl hin hse hcode hy hK (by rw [hT]; exact hcB) hoB hclB hg (hsize.trans hml.symm) (argsL := As) (rest := rest) (fun sig h => hn.trans (hlen sig h)) hstack hW (by rw [hb]; exact hdg)
    (fun vm₁ hW₁ => ⟨hf.1, hf.2, hPc (T.setVm vm₁) hT hW₁⟩)
  dsimp only [Pt.U, Pt.locs, Pt.cells, Pt.slots] at X' e1 e2 h1 h2 h3 st
  subst h1; subst h2; subst h3
  exact ⟨v, (T.setVm vm₁).calling g' mk (Value.ref b :: As).toArray, t, U', L, hT, X', hL, e1, e2, hq, st⟩
section
variable {y : MethodName} {bytes cc : ByteArray} {maxL nL mc ms n index : Nat} {ret : Option FieldType} {ws : List Cond} {rm : Room} {Pc : Array Value → State → Prop} {Qc : Array Value → State → Outcome → State → Prop} {XC : String → State → State → Prop} {free : Addr → Prop} {Ts : List Cond} {own C : String} {b : Addr} {As rest : List Value} {g : JFrame}
theorem vx_runVX {hh : List (Nat × Nat × Nat × Nat)} (S : CallFix p m c cc nL s args Ts own) (hM : vx_Met l y ws rm Pc Qc XC mc ms free) (cw : vx_CVW R s args own C index y bytes maxL ret hh ws rm mc ms n) (hp : PreV s H C b Pc As)
    (hg : g.method = m) (hn : As.length = n) (hsize : g.locals.size = nL) (hstack : g.stack = As.reverse ++ .ref b :: rest) (hW : 2 * g.monitorRoom + (rest.map fun v => v.category).sum ≤ 8) (hdg : decode cc g.pc = .ok (.invokevirtual index, 3)) (hf : cells + mc ≤ R.cells ∧ slots + ms ≤ R.slots) :
    vx_Run p l e R s m args below meth c H locs cells slots mc ms g rest (Qc (Value.ref b :: As).toArray) XC free := by
  obtain ⟨⟨hrc, hrs, hfr, hlo, hws, hcw⟩, hcode, hini, hy, hlen, hl, hin, hse⟩ := cw
  have hK : vx_Back l R p e below s args y 3 8 (PreOf R mc ms Pc) (PostOf Qc mc ms free) (vx_Post XC mc ms free) := vx_backW (hh := hh) (bytes := bytes) (maxL := maxL) (ret := ret) hM hp.1 hrc hrs hfr hlo hws hcw (fun a' U hW => word_at hW (Or.inl (by first | rfl | simp [Cond.onTables, Cond.keeps, Cond.steady])) hini)
  obtain ⟨hx, hb, hml, ho, -⟩ := S
  obtain ⟨-, ⟨cellB, hcB, hoB, hclB⟩, hPc⟩ := hp
  intro T hT X
  rcases vx_callVX X hx (C := C) (hh := hh) (bytes := bytes) (maxL := maxL) (ret := ret) ho hl hin hse hcode hy hK (by rw [hT]; exact hcB) hoB hclB hg (hsize.trans hml.symm) (argsL := As) (rest := rest) (fun sig h => hn.trans (hlen sig h)) hstack hW (by rw [hb]; exact hdg)
    (fun vm₁ hW₁ => ⟨hf.1, hf.2, hPc (T.setVm vm₁) hT hW₁⟩) with ⟨v, vm₁, ⟨U', l2, c2, s2⟩, hW₁, X', ⟨g', mk, t, L, e1, e2, hq, h1, hL, h2, h3⟩, st⟩ | ⟨q, vm₁, ⟨U', l2, c2, s2⟩, hW₁, X', ⟨g', mk, t, L, E, ce, e1, e2, hq, hce, hcv, hcl, h1, hL, h2, h3⟩, st⟩
  · dsimp only [Pt.U, Pt.locs, Pt.cells, Pt.slots] at X' e1 e2 h1 h2 h3 st
    subst h1; subst h2; subst h3
    exact Or.inl ⟨v, (T.setVm vm₁).calling g' mk (Value.ref b :: As).toArray, t, U', L, hT, X', hL, e1, e2, hq, st⟩
  · dsimp only [Pt.U, Pt.locs, Pt.cells, Pt.slots] at X' e1 e2 h1 h2 h3 st hcl
    subst h1; subst h2; subst h3
    exact Or.inr ⟨q, (T.setVm vm₁).calling g' mk (Value.ref b :: As).toArray, t, U', L, E, ce, hT, X', hL, e1, e2, hq, hce, hcv, vx_cls hW₁ hcl, st⟩
theorem vx_runSX {hh : List (Nat × Nat × Nat × Nat)} (S : CallFix p m c cc nL s args Ts own) (hM : vx_Met l y ws rm Pc Qc XC mc ms free) (cw : vx_CSW R s args own index y bytes maxL ret hh ws rm mc ms n) (hp : PreS s H Pc As)
    (hg : g.method = m) (hn : As.length = n) (hsize : g.locals.size = nL) (hstack : g.stack = As.reverse ++ rest) (hW : 2 * g.monitorRoom + (rest.map fun v => v.category).sum ≤ 8) (hdg : decode cc g.pc = .ok (.invokestatic index, 3)) (hf : cells + mc ≤ R.cells ∧ slots + ms ≤ R.slots) :
    vx_Run p l e R s m args below meth c H locs cells slots mc ms g rest (Qc As.toArray) XC free := by
  obtain ⟨⟨hrc, hrs, hfr, hlo, hws, hcw⟩, hcode, hini, hy, hlen, hl, hstt⟩ := cw
  have hK : vx_Back l R p e below s args y 3 8 (PreOf R mc ms Pc) (PostOf Qc mc ms free) (vx_Post XC mc ms free) := vx_backW (hh := hh) (bytes := bytes) (maxL := maxL) (ret := ret) hM hp.1 hrc hrs hfr hlo hws hcw (fun a' U hW => word_at hW (Or.inl (by first | rfl | simp [Cond.onTables, Cond.keeps, Cond.steady])) hini)
  obtain ⟨hx, hb, hml, ho, -⟩ := S
  intro T hT X
  rcases vx_callSX X hx (hh := hh) (bytes := bytes) (maxL := maxL) (ret := ret) ho hl hstt hini hcode hy hK hg (hsize.trans hml.symm) (argsL := As) (rest := rest) (fun sig h => hn.trans (hlen sig h)) hstack hW (by rw [hb]; exact hdg)
    (fun vm₁ hW₁ => ⟨hf.1, hf.2, hp.2 (T.setVm vm₁) hT hW₁⟩) with ⟨v, vm₁, ⟨U', l2, c2, s2⟩, hW₁, X', ⟨g', mk, t, L, e1, e2, hq, h1, hL, h2, h3⟩, st⟩ | ⟨q, vm₁, ⟨U', l2, c2, s2⟩, hW₁, X', ⟨g', mk, t, L, E, ce, e1, e2, hq, hce, hcv, hcl, h1, hL, h2, h3⟩, st⟩
  · dsimp only [Pt.U, Pt.locs, Pt.cells, Pt.slots] at X' e1 e2 h1 h2 h3 st
    subst h1; subst h2; subst h3
    exact Or.inl ⟨v, (T.setVm vm₁).calling g' mk As.toArray, t, U', L, hT, X', hL, e1, e2, hq, st⟩
  · dsimp only [Pt.U, Pt.locs, Pt.cells, Pt.slots] at X' e1 e2 h1 h2 h3 st hcl
    subst h1; subst h2; subst h3
    exact Or.inr ⟨q, (T.setVm vm₁).calling g' mk As.toArray, t, U', L, E, ce, hT, X', hL, e1, e2, hq, hce, hcv, vx_cls hW₁ hcl, st⟩
end
end VXH
theorem vx_ofWH {l : Launch} {y : MethodName} {ws ws' : List Cond} {rm : Room} {Pc : Array Value → State → Prop} {Qc : Array Value → State → Outcome → State → Prop} {XC : String → State → State → Prop} {mc ms : Nat} {free : Addr → Prop} {cc : ByteArray} {maxL : Nat} {ret : Option FieldType} {hh : List (Nat × Nat × Nat × Nat)}
    (hy : plainName y.cls = true) (hw : ws = Cond.codeWith y cc maxL ret hh :: ws')
    (body : ∀ p e s m args below meth c s₁, BodyLoose p l y (headSpec ws rm) cc maxL ret e s m args below meth c s₁ → c.maxLocals = maxL → Pc args s →
      W p l e (headSpec ws rm).room s m args below meth c s.heap [] 0 0 (vx_MQ below Qc XC args s mc ms free) (entryFrame m args maxL)) : vx_Met l y ws rm Pc Qc XC mc ms free := by
  refine MetFree.of_bodyS (code := cc) (maxLocals := maxL) (ret := ret) hy ?_ ?_
  · intro args s m h hn
    obtain ⟨m9, meth, c, hn9, h1, h2, h3, h4, -, h5, h6, -⟩ := Cond.codeWith_spec (atoms_spec (ws := ws) h _ (by rw [hw]; exact List.mem_cons_self))
    cases hn.symm.trans hn9
    exact ⟨meth, c, h1, h2, h3, h4, h5, h6⟩
  · intro p e s m args below meth c s₁ B hml hP _
    have hh0 : s₁.heap = s.heap := by rw [B.state]; rfl
    obtain ⟨t, a1, o, b1, b2, b3⟩ := body p e s m args below meth c s₁ B hml hP s₁ hh0 (Stand.of_body B)
    exact ⟨t, o, a1, b1, b2, b3⟩
/-! ===== END ===== -/

/-! ===== BEGIN printed: names, fields, word lists, decode rows ===== -/
def RX0 : String := "PlanarFlow$Dual"
def TX0 : u_T := fun k => match k with
  | 0 => ("PlanarFlow$Dual", "best", "[I", true)
  | 1 => ("PlanarFlow$Dual", "from", "[I", true)
  | 2 => ("PlanarFlow$Dual", "ringFaces", "[I", true)
  | 3 => ("PlanarFlow$Dual", "ringCount", "I", false)
  | 4 => ("PlanarFlow$Dual", "ringCost", "I", false)
  | _ => ("PlanarFlow$Dual", "latest", "I", false)
def tyX0 : Nat → FieldType := fun k => match k with
  | 0 => .array .int
  | 1 => .array .int
  | 2 => .array .int
  | 3 => .int
  | 4 => .int
  | _ => .int
abbrev wsX00 : List Cond := u_ws RX0 TX0 6
theorem nmX0 : ∀ a, a < 6 → ∀ b, b < 6 → a ≠ b → (TX0 a).2.1 ≠ (TX0 b).2.1 := by decide +kernel
theorem tyX0_ok : ∀ k, k < 6 → parseFieldDescriptor (TX0 k).2.2.1 = some (tyX0 k) := by decide +kernel
abbrev cX0_init : ByteArray := prog_2_method_1_code
def yX0_init : MethodName := ⟨RX0, "<init>", "()V"⟩
abbrev cX0_solve : ByteArray := prog_2_method_2_code
def yX0_solve : MethodName := ⟨RX0, "solve", "(LPlanarFlow$Net;)Z"⟩
abbrev cX0_relaxAll : ByteArray := prog_2_method_3_code
def yX0_relaxAll : MethodName := ⟨RX0, "relaxAll", "(LPlanarFlow$Net;Z)Z"⟩
abbrev cX0_relax : ByteArray := prog_2_method_4_code
def yX0_relax : MethodName := ⟨RX0, "relax", "(IIII)Z"⟩
abbrev cX0_traceRing : ByteArray := prog_2_method_5_code
def yX0_traceRing : MethodName := ⟨RX0, "traceRing", "(LPlanarFlow$Net;)V"⟩
abbrev cX0_faceBefore : ByteArray := prog_2_method_6_code
def yX0_faceBefore : MethodName := ⟨RX0, "faceBefore", "(LPlanarFlow$Net;I)I"⟩
def RX1 : String := "PlanarFlow$Halves"
def TX1 : u_T := fun k => match k with
  | 0 => ("PlanarFlow$Halves", "best", "[I", true)
  | _ => ("PlanarFlow$Halves", "isLeft", "[I", true)
def tyX1 : Nat → FieldType := fun k => match k with
  | 0 => .array .int
  | _ => .array .int
abbrev wsX10 : List Cond := u_ws RX1 TX1 2
theorem nmX1 : ∀ a, a < 2 → ∀ b, b < 2 → a ≠ b → (TX1 a).2.1 ≠ (TX1 b).2.1 := by decide +kernel
theorem tyX1_ok : ∀ k, k < 2 → parseFieldDescriptor (TX1 k).2.2.1 = some (tyX1 k) := by decide +kernel
abbrev cX1_init : ByteArray := prog_3_method_1_code
def yX1_init : MethodName := ⟨RX1, "<init>", "()V"⟩
abbrev cX1_least : ByteArray := prog_3_method_2_code
def yX1_least : MethodName := ⟨RX1, "least", "(LPlanarFlow$Net;II)I"⟩
abbrev cX1_markLeft : ByteArray := prog_3_method_3_code
def yX1_markLeft : MethodName := ⟨RX1, "markLeft", "(LPlanarFlow$Net;II)V"⟩
abbrev cX1_relaxAll : ByteArray := prog_3_method_4_code
def yX1_relaxAll : MethodName := ⟨RX1, "relaxAll", "(LPlanarFlow$Net;)Z"⟩
abbrev cX1_partOf : ByteArray := prog_3_method_5_code
def yX1_partOf : MethodName := ⟨RX1, "partOf", "(II)I"⟩
abbrev cX1_relax : ByteArray := prog_3_method_6_code
def yX1_relax : MethodName := ⟨RX1, "relax", "(III)Z"⟩
def RX2 : String := "PlanarFlow$Net"
def TX2 : u_T := fun k => match k with
  | 0 => ("PlanarFlow$Net", "told", "LPlanarFlow$Told;", true)
  | 1 => ("PlanarFlow$Net", "forth", "[I", true)
  | 2 => ("PlanarFlow$Net", "hither", "[I", true)
  | 3 => ("PlanarFlow$Net", "edgeList", "[I", true)
  | 4 => ("PlanarFlow$Net", "tail", "[I", true)
  | 5 => ("PlanarFlow$Net", "head", "[I", true)
  | 6 => ("PlanarFlow$Net", "leftFace", "[I", true)
  | 7 => ("PlanarFlow$Net", "rightFace", "[I", true)
  | 8 => ("PlanarFlow$Net", "sides", "[I", true)
  | 9 => ("PlanarFlow$Net", "darts", "[I", true)
  | 10 => ("PlanarFlow$Net", "rimNodes", "[I", true)
  | 11 => ("PlanarFlow$Net", "rimEdges", "[I", true)
  | 12 => ("PlanarFlow$Net", "nodeCount", "I", false)
  | 13 => ("PlanarFlow$Net", "edgeCount", "I", false)
  | 14 => ("PlanarFlow$Net", "faceCount", "I", false)
  | 15 => ("PlanarFlow$Net", "slantCount", "I", false)
  | _ => ("PlanarFlow$Net", "rimCount", "I", false)
def tyX2 : Nat → FieldType := fun k => match k with
  | 0 => .object "PlanarFlow$Told"
  | 1 => .array .int
  | 2 => .array .int
  | 3 => .array .int
  | 4 => .array .int
  | 5 => .array .int
  | 6 => .array .int
  | 7 => .array .int
  | 8 => .array .int
  | 9 => .array .int
  | 10 => .array .int
  | 11 => .array .int
  | 12 => .int
  | 13 => .int
  | 14 => .int
  | 15 => .int
  | _ => .int
abbrev wsX20 : List Cond := u_ws RX2 TX2 17
theorem nmX2 : ∀ a, a < 17 → ∀ b, b < 17 → a ≠ b → (TX2 a).2.1 ≠ (TX2 b).2.1 := by decide +kernel
theorem tyX2_ok : ∀ k, k < 17 → parseFieldDescriptor (TX2 k).2.2.1 = some (tyX2 k) := by decide +kernel
abbrev cX2_init : ByteArray := prog_4_method_1_code
def yX2_init : MethodName := ⟨RX2, "<init>", "()V"⟩
abbrev cX2_become : ByteArray := prog_4_method_2_code
def yX2_become : MethodName := ⟨RX2, "become", "(LPlanarFlow$Told;)V"⟩
abbrev cX2_rebuild : ByteArray := prog_4_method_3_code
def yX2_rebuild : MethodName := ⟨RX2, "rebuild", "()V"⟩
abbrev cX2_placeEdges : ByteArray := prog_4_method_4_code
def yX2_placeEdges : MethodName := ⟨RX2, "placeEdges", "(II)V"⟩
abbrev cX2_lowerFace : ByteArray := prog_4_method_5_code
def yX2_lowerFace : MethodName := ⟨RX2, "lowerFace", "(I)I"⟩
abbrev cX2_westFace : ByteArray := prog_4_method_6_code
def yX2_westFace : MethodName := ⟨RX2, "westFace", "(I)I"⟩
abbrev cX2_eastFace : ByteArray := prog_4_method_7_code
def yX2_eastFace : MethodName := ⟨RX2, "eastFace", "(I)I"⟩
abbrev cX2_place : ByteArray := prog_4_method_8_code
def yX2_place : MethodName := ⟨RX2, "place", "(IIIIII)V"⟩
abbrev cX2_walkRim : ByteArray := prog_4_method_9_code
def yX2_walkRim : MethodName := ⟨RX2, "walkRim", "()V"⟩
abbrev cX2_addToRim : ByteArray := prog_4_method_10_code
def yX2_addToRim : MethodName := ⟨RX2, "addToRim", "(II)V"⟩
abbrev cX2_hasNode : ByteArray := prog_4_method_11_code
def yX2_hasNode : MethodName := ⟨RX2, "hasNode", "(I)Z"⟩
abbrev cX2_hasEdge : ByteArray := prog_4_method_12_code
def yX2_hasEdge : MethodName := ⟨RX2, "hasEdge", "(I)Z"⟩
abbrev cX2_hasFace : ByteArray := prog_4_method_13_code
def yX2_hasFace : MethodName := ⟨RX2, "hasFace", "(I)Z"⟩
abbrev cX2_hasCell : ByteArray := prog_4_method_14_code
def yX2_hasCell : MethodName := ⟨RX2, "hasCell", "(I)Z"⟩
abbrev cX2_rimIndex : ByteArray := prog_4_method_15_code
def yX2_rimIndex : MethodName := ⟨RX2, "rimIndex", "(I)I"⟩
abbrev cX2_endBeyond : ByteArray := prog_4_method_16_code
def yX2_endBeyond : MethodName := ⟨RX2, "endBeyond", "(II)I"⟩
abbrev cX2_faceBeyond : ByteArray := prog_4_method_17_code
def yX2_faceBeyond : MethodName := ⟨RX2, "faceBeyond", "(II)I"⟩
abbrev cX2_costFrom : ByteArray := prog_4_method_18_code
def yX2_costFrom : MethodName := ⟨RX2, "costFrom", "(II)I"⟩
abbrev cX2_bounds : ByteArray := prog_4_method_19_code
def yX2_bounds : MethodName := ⟨RX2, "bounds", "(II)Z"⟩
abbrev cX2_isAtFace : ByteArray := prog_4_method_20_code
def yX2_isAtFace : MethodName := ⟨RX2, "isAtFace", "(II)Z"⟩
abbrev cX2_allBorne : ByteArray := prog_4_method_21_code
def yX2_allBorne : MethodName := ⟨RX2, "allBorne", "()I"⟩
abbrev cX2_allSupplied : ByteArray := prog_4_method_22_code
def yX2_allSupplied : MethodName := ⟨RX2, "allSupplied", "(I)I"⟩
def RX3 : String := "PlanarFlow$Parting"
def TX3 : u_T := fun k => match k with
  | 0 => ("PlanarFlow$Parting", "reached", "[I", true)
  | 1 => ("PlanarFlow$Parting", "roots", "[I", true)
  | _ => ("PlanarFlow$Parting", "reachedIsInside", "Z", false)
def tyX3 : Nat → FieldType := fun k => match k with
  | 0 => .array .int
  | 1 => .array .int
  | _ => .boolean
abbrev wsX30 : List Cond := u_ws RX3 TX3 3
theorem nmX3 : ∀ a, a < 3 → ∀ b, b < 3 → a ≠ b → (TX3 a).2.1 ≠ (TX3 b).2.1 := by decide +kernel
theorem tyX3_ok : ∀ k, k < 3 → parseFieldDescriptor (TX3 k).2.2.1 = some (tyX3 k) := by decide +kernel
abbrev cX3_init : ByteArray := prog_5_method_1_code
def yX3_init : MethodName := ⟨RX3, "<init>", "()V"⟩
abbrev cX3_divide : ByteArray := prog_5_method_2_code
def yX3_divide : MethodName := ⟨RX3, "divide", "(LPlanarFlow$Net;LPlanarFlow$Stream;I)V"⟩
abbrev cX3_spread : ByteArray := prog_5_method_3_code
def yX3_spread : MethodName := ⟨RX3, "spread", "(LPlanarFlow$Net;LPlanarFlow$Stream;)Z"⟩
abbrev cX3_parts : ByteArray := prog_5_method_4_code
def yX3_parts : MethodName := ⟨RX3, "parts", "(LPlanarFlow$Net;I)Z"⟩
abbrev cX3_size : ByteArray := prog_5_method_5_code
def yX3_size : MethodName := ⟨RX3, "size", "(LPlanarFlow$Net;)I"⟩
abbrev cX3_member : ByteArray := prog_5_method_6_code
def yX3_member : MethodName := ⟨RX3, "member", "(LPlanarFlow$Net;I)I"⟩
abbrev cX3_cost : ByteArray := prog_5_method_7_code
def yX3_cost : MethodName := ⟨RX3, "cost", "(LPlanarFlow$Net;)I"⟩
abbrev cX3_pieces : ByteArray := prog_5_method_8_code
def yX3_pieces : MethodName := ⟨RX3, "pieces", "(LPlanarFlow$Net;)I"⟩
abbrev cX3_touch : ByteArray := prog_5_method_9_code
def yX3_touch : MethodName := ⟨RX3, "touch", "(I)I"⟩
abbrev cX3_join : ByteArray := prog_5_method_10_code
def yX3_join : MethodName := ⟨RX3, "join", "(II)I"⟩
def RX4 : String := "PlanarFlow$Routes"
def TX4 : u_T := fun k => match k with
  | _ => ("PlanarFlow$Routes", "keys", "[I", true)
def tyX4 : Nat → FieldType := fun k => match k with
  | _ => .array .int
abbrev wsX40 : List Cond := u_ws RX4 TX4 1
theorem nmX4 : ∀ a, a < 1 → ∀ b, b < 1 → a ≠ b → (TX4 a).2.1 ≠ (TX4 b).2.1 := by decide +kernel
theorem tyX4_ok : ∀ k, k < 1 → parseFieldDescriptor (TX4 k).2.2.1 = some (tyX4 k) := by decide +kernel
abbrev cX4_init : ByteArray := prog_6_method_1_code
def yX4_init : MethodName := ⟨RX4, "<init>", "()V"⟩
abbrev cX4_aim : ByteArray := prog_6_method_2_code
def yX4_aim : MethodName := ⟨RX4, "aim", "(LPlanarFlow$Net;I)V"⟩
abbrev cX4_relaxAll : ByteArray := prog_6_method_3_code
def yX4_relaxAll : MethodName := ⟨RX4, "relaxAll", "(LPlanarFlow$Net;)Z"⟩
abbrev cX4_relax : ByteArray := prog_6_method_4_code
def yX4_relax : MethodName := ⟨RX4, "relax", "(III)Z"⟩
abbrev cX4_keyBy : ByteArray := prog_6_method_5_code
def yX4_keyBy : MethodName := ⟨RX4, "keyBy", "(II)I"⟩
abbrev cX4_costFrom : ByteArray := prog_6_method_6_code
def yX4_costFrom : MethodName := ⟨RX4, "costFrom", "(I)I"⟩
abbrev cX4_hopsFrom : ByteArray := prog_6_method_7_code
def yX4_hopsFrom : MethodName := ⟨RX4, "hopsFrom", "(I)I"⟩
abbrev cX4_crossing : ByteArray := prog_6_method_8_code
def yX4_crossing : MethodName := ⟨RX4, "crossing", "(LPlanarFlow$Net;III)I"⟩
abbrev cX4_firstEdge : ByteArray := prog_6_method_9_code
def yX4_firstEdge : MethodName := ⟨RX4, "firstEdge", "(LPlanarFlow$Net;I)I"⟩
def RX5 : String := "PlanarFlow$Search"
def TX5 : u_T := fun k => match k with
  | 0 => ("PlanarFlow$Search", "seen", "[I", true)
  | 1 => ("PlanarFlow$Search", "nodes", "[I", true)
  | 2 => ("PlanarFlow$Search", "edges", "[I", true)
  | 3 => ("PlanarFlow$Search", "firsts", "[I", true)
  | 4 => ("PlanarFlow$Search", "tried", "[I", true)
  | _ => ("PlanarFlow$Search", "depth", "I", false)
def tyX5 : Nat → FieldType := fun k => match k with
  | 0 => .array .int
  | 1 => .array .int
  | 2 => .array .int
  | 3 => .array .int
  | 4 => .array .int
  | _ => .int
abbrev wsX50 : List Cond := u_ws RX5 TX5 6
theorem nmX5 : ∀ a, a < 6 → ∀ b, b < 6 → a ≠ b → (TX5 a).2.1 ≠ (TX5 b).2.1 := by decide +kernel
theorem tyX5_ok : ∀ k, k < 6 → parseFieldDescriptor (TX5 k).2.2.1 = some (tyX5 k) := by decide +kernel
abbrev cX5_init : ByteArray := prog_7_method_1_code
def yX5_init : MethodName := ⟨RX5, "<init>", "()V"⟩
abbrev cX5_nodeAt : ByteArray := prog_7_method_2_code
def yX5_nodeAt : MethodName := ⟨RX5, "nodeAt", "(I)I"⟩
abbrev cX5_edgeTo : ByteArray := prog_7_method_3_code
def yX5_edgeTo : MethodName := ⟨RX5, "edgeTo", "(I)I"⟩
abbrev cX5_find : ByteArray := prog_7_method_4_code
def yX5_find : MethodName := ⟨RX5, "find", "(LPlanarFlow$Net;LPlanarFlow$Stream;I)Z"⟩
abbrev cX5_advance : ByteArray := prog_7_method_5_code
def yX5_advance : MethodName := ⟨RX5, "advance", "(LPlanarFlow$Net;LPlanarFlow$Stream;)Z"⟩
abbrev cX5_enter : ByteArray := prog_7_method_6_code
def yX5_enter : MethodName := ⟨RX5, "enter", "(III)V"⟩
def RX6 : String := "PlanarFlow$Stream"
def TX6 : u_T := fun k => match k with
  | 0 => ("PlanarFlow$Stream", "carried", "[I", true)
  | 1 => ("PlanarFlow$Stream", "given", "[I", true)
  | 2 => ("PlanarFlow$Stream", "wants", "[I", true)
  | 3 => ("PlanarFlow$Stream", "search", "LPlanarFlow$Search;", true)
  | 4 => ("PlanarFlow$Stream", "kind", "I", false)
  | 5 => ("PlanarFlow$Stream", "source", "I", false)
  | 6 => ("PlanarFlow$Stream", "sink", "I", false)
  | 7 => ("PlanarFlow$Stream", "wayCount", "I", false)
  | 8 => ("PlanarFlow$Stream", "longest", "I", false)
  | _ => ("PlanarFlow$Stream", "least", "I", false)
def tyX6 : Nat → FieldType := fun k => match k with
  | 0 => .array .int
  | 1 => .array .int
  | 2 => .array .int
  | 3 => .object "PlanarFlow$Search"
  | 4 => .int
  | 5 => .int
  | 6 => .int
  | 7 => .int
  | 8 => .int
  | _ => .int
abbrev wsX60 : List Cond := u_ws RX6 TX6 10
theorem nmX6 : ∀ a, a < 10 → ∀ b, b < 10 → a ≠ b → (TX6 a).2.1 ≠ (TX6 b).2.1 := by decide +kernel
theorem tyX6_ok : ∀ k, k < 10 → parseFieldDescriptor (TX6 k).2.2.1 = some (tyX6 k) := by decide +kernel
abbrev cX6_init : ByteArray := prog_8_method_1_code
def yX6_init : MethodName := ⟨RX6, "<init>", "()V"⟩
abbrev cX6_forget : ByteArray := prog_8_method_2_code
def yX6_forget : MethodName := ⟨RX6, "forget", "()V"⟩
abbrev cX6_runBetween : ByteArray := prog_8_method_3_code
def yX6_runBetween : MethodName := ⟨RX6, "runBetween", "(LPlanarFlow$Net;LPlanarFlow$Dual;II)I"⟩
abbrev cX6_runFromFace : ByteArray := prog_8_method_4_code
def yX6_runFromFace : MethodName := ⟨RX6, "runFromFace", "(LPlanarFlow$Net;LPlanarFlow$Dual;III)I"⟩
abbrev cX6_runSupplies : ByteArray := prog_8_method_5_code
def yX6_runSupplies : MethodName := ⟨RX6, "runSupplies", "(LPlanarFlow$Net;LPlanarFlow$Dual;)I"⟩
abbrev cX6_begin : ByteArray := prog_8_method_6_code
def yX6_begin : MethodName := ⟨RX6, "begin", "(LPlanarFlow$Net;LPlanarFlow$Dual;III)V"⟩
abbrev cX6_pour : ByteArray := prog_8_method_7_code
def yX6_pour : MethodName := ⟨RX6, "pour", "(LPlanarFlow$Net;II)I"⟩
abbrev cX6_push : ByteArray := prog_8_method_8_code
def yX6_push : MethodName := ⟨RX6, "push", "(LPlanarFlow$Net;II)I"⟩
abbrev cX6_spare : ByteArray := prog_8_method_9_code
def yX6_spare : MethodName := ⟨RX6, "spare", "(LPlanarFlow$Net;IZ)I"⟩
abbrev cX6_gain : ByteArray := prog_8_method_10_code
def yX6_gain : MethodName := ⟨RX6, "gain", "(LPlanarFlow$Net;I)I"⟩
def RX7 : String := "PlanarFlow$Tape"
def TX7 : u_T := fun k => match k with
  | 0 => ("PlanarFlow$Tape", "bytes", "[B", true)
  | 1 => ("PlanarFlow$Tape", "held", "I", false)
  | 2 => ("PlanarFlow$Tape", "length", "I", false)
  | 3 => ("PlanarFlow$Tape", "place", "I", false)
  | 4 => ("PlanarFlow$Tape", "token", "I", false)
  | 5 => ("PlanarFlow$Tape", "tokenStart", "I", false)
  | 6 => ("PlanarFlow$Tape", "value", "I", false)
  | _ => ("PlanarFlow$Tape", "fault", "I", false)
def tyX7 : Nat → FieldType := fun k => match k with
  | 0 => .array .byte
  | 1 => .int
  | 2 => .int
  | 3 => .int
  | 4 => .int
  | 5 => .int
  | 6 => .int
  | _ => .int
abbrev wsX70 : List Cond := u_ws RX7 TX7 8
theorem nmX7 : ∀ a, a < 8 → ∀ b, b < 8 → a ≠ b → (TX7 a).2.1 ≠ (TX7 b).2.1 := by decide +kernel
theorem tyX7_ok : ∀ k, k < 8 → parseFieldDescriptor (TX7 k).2.2.1 = some (tyX7 k) := by decide +kernel
abbrev cX7_init : ByteArray := prog_9_method_1_code
def yX7_init : MethodName := ⟨RX7, "<init>", "()V"⟩
abbrev cX7_put : ByteArray := prog_9_method_2_code
def yX7_put : MethodName := ⟨RX7, "put", "(I)V"⟩
abbrev cX7_read : ByteArray := prog_9_method_3_code
def yX7_read : MethodName := ⟨RX7, "read", "(ILPlanarFlow$Told;)I"⟩
abbrev cX7_readHead : ByteArray := prog_9_method_4_code
def yX7_readHead : MethodName := ⟨RX7, "readHead", "(LPlanarFlow$Told;)Z"⟩
abbrev cX7_readLine : ByteArray := prog_9_method_5_code
def yX7_readLine : MethodName := ⟨RX7, "readLine", "(LPlanarFlow$Told;)Z"⟩
abbrev cX7_readAll : ByteArray := prog_9_method_6_code
def yX7_readAll : MethodName := ⟨RX7, "readAll", "(LPlanarFlow$Told;)Z"⟩
abbrev cX7_loadAt : ByteArray := prog_9_method_7_code
def yX7_loadAt : MethodName := ⟨RX7, "loadAt", "(LPlanarFlow$Told;IIII)V"⟩
abbrev cX7_readOne : ByteArray := prog_9_method_8_code
def yX7_readOne : MethodName := ⟨RX7, "readOne", "(LPlanarFlow$Told;II)Z"⟩
abbrev cX7_readWhole : ByteArray := prog_9_method_9_code
def yX7_readWhole : MethodName := ⟨RX7, "readWhole", "(II)Z"⟩
abbrev cX7_fail : ByteArray := prog_9_method_10_code
def yX7_fail : MethodName := ⟨RX7, "fail", "(I)Z"⟩
abbrev cX7_next : ByteArray := prog_9_method_11_code
def yX7_next : MethodName := ⟨RX7, "next", "()V"⟩
abbrev cX7_scanWhole : ByteArray := prog_9_method_12_code
def yX7_scanWhole : MethodName := ⟨RX7, "scanWhole", "()Z"⟩
abbrev cX7_isLetter : ByteArray := prog_9_method_13_code
def yX7_isLetter : MethodName := ⟨RX7, "isLetter", "(I)Z"⟩
abbrev cX7_isWord : ByteArray := prog_9_method_14_code
def yX7_isWord : MethodName := ⟨RX7, "isWord", "(Ljava/lang/String;)Z"⟩
def RX8 : String := "PlanarFlow$Told"
def TX8 : u_T := fun k => match k with
  | 0 => ("PlanarFlow$Told", "slants", "[I", true)
  | 1 => ("PlanarFlow$Told", "forth", "[I", true)
  | 2 => ("PlanarFlow$Told", "hither", "[I", true)
  | 3 => ("PlanarFlow$Told", "supplies", "[I", true)
  | 4 => ("PlanarFlow$Told", "w", "I", false)
  | _ => ("PlanarFlow$Told", "h", "I", false)
def tyX8 : Nat → FieldType := fun k => match k with
  | 0 => .array .int
  | 1 => .array .int
  | 2 => .array .int
  | 3 => .array .int
  | 4 => .int
  | _ => .int
abbrev wsX80 : List Cond := u_ws RX8 TX8 6
theorem nmX8 : ∀ a, a < 6 → ∀ b, b < 6 → a ≠ b → (TX8 a).2.1 ≠ (TX8 b).2.1 := by decide +kernel
theorem tyX8_ok : ∀ k, k < 6 → parseFieldDescriptor (TX8 k).2.2.1 = some (tyX8 k) := by decide +kernel
abbrev cX8_init : ByteArray := prog_10_method_1_code
def yX8_init : MethodName := ⟨RX8, "<init>", "()V"⟩
abbrev cX8_reset : ByteArray := prog_10_method_2_code
def yX8_reset : MethodName := ⟨RX8, "reset", "(II)V"⟩
abbrev cX8_take : ByteArray := prog_10_method_3_code
def yX8_take : MethodName := ⟨RX8, "take", "(LPlanarFlow$Told;)V"⟩
abbrev cX8_load : ByteArray := prog_10_method_4_code
def yX8_load : MethodName := ⟨RX8, "load", "(III)V"⟩
abbrev cX8_lean : ByteArray := prog_10_method_5_code
def yX8_lean : MethodName := ⟨RX8, "lean", "(II)I"⟩
abbrev cX8_stock : ByteArray := prog_10_method_6_code
def yX8_stock : MethodName := ⟨RX8, "stock", "(II)I"⟩
abbrev cX8_fits : ByteArray := prog_10_method_7_code
def yX8_fits : MethodName := ⟨RX8, "fits", "(III)Z"⟩
abbrev cX8_lastX : ByteArray := prog_10_method_8_code
def yX8_lastX : MethodName := ⟨RX8, "lastX", "(I)I"⟩
abbrev cX8_lastY : ByteArray := prog_10_method_9_code
def yX8_lastY : MethodName := ⟨RX8, "lastY", "(I)I"⟩
def RX9 : String := "PlanarFlow"
def TX9 : u_T := fun k => match k with
  | 0 => ("PlanarFlow", "net", "LPlanarFlow$Net;", true)
  | 1 => ("PlanarFlow", "draft", "LPlanarFlow$Told;", true)
  | 2 => ("PlanarFlow", "images", "[LPlanarFlow$Told;", true)
  | 3 => ("PlanarFlow", "made", "[Z", true)
  | 4 => ("PlanarFlow", "dual", "LPlanarFlow$Dual;", true)
  | 5 => ("PlanarFlow", "routes", "LPlanarFlow$Routes;", true)
  | 6 => ("PlanarFlow", "halves", "LPlanarFlow$Halves;", true)
  | 7 => ("PlanarFlow", "stream", "LPlanarFlow$Stream;", true)
  | 8 => ("PlanarFlow", "trial", "LPlanarFlow$Stream;", true)
  | 9 => ("PlanarFlow", "parting", "LPlanarFlow$Parting;", true)
  | _ => ("PlanarFlow", "tape", "LPlanarFlow$Tape;", true)
def tyX9 : Nat → FieldType := fun k => match k with
  | 0 => .object "PlanarFlow$Net"
  | 1 => .object "PlanarFlow$Told"
  | 2 => .array (.object "PlanarFlow$Told")
  | 3 => .array .boolean
  | 4 => .object "PlanarFlow$Dual"
  | 5 => .object "PlanarFlow$Routes"
  | 6 => .object "PlanarFlow$Halves"
  | 7 => .object "PlanarFlow$Stream"
  | 8 => .object "PlanarFlow$Stream"
  | 9 => .object "PlanarFlow$Parting"
  | _ => .object "PlanarFlow$Tape"
abbrev wsX90 : List Cond := u_ws RX9 TX9 11
theorem nmX9 : ∀ a, a < 11 → ∀ b, b < 11 → a ≠ b → (TX9 a).2.1 ≠ (TX9 b).2.1 := by decide +kernel
theorem tyX9_ok : ∀ k, k < 11 → parseFieldDescriptor (TX9 k).2.2.1 = some (tyX9 k) := by decide +kernel
abbrev cX9_init : ByteArray := prog_1_method_1_code
def yX9_init : MethodName := ⟨RX9, "<init>", "()V"⟩
abbrev cX9_feed : ByteArray := prog_1_method_2_code
def yX9_feed : MethodName := ⟨RX9, "feed", "(IIIII)I"⟩
abbrev cX9_text : ByteArray := prog_1_method_3_code
def yX9_text : MethodName := ⟨RX9, "text", "(I)I"⟩
abbrev cX9_grid : ByteArray := prog_1_method_4_code
def yX9_grid : MethodName := ⟨RX9, "grid", "(II)I"⟩
abbrev cX9_slant : ByteArray := prog_1_method_5_code
def yX9_slant : MethodName := ⟨RX9, "slant", "(II)I"⟩
abbrev cX9_bears : ByteArray := prog_1_method_6_code
def yX9_bears : MethodName := ⟨RX9, "bears", "(III)Z"⟩
abbrev cX9_edge : ByteArray := prog_1_method_7_code
def yX9_edge : MethodName := ⟨RX9, "edge", "(II)I"⟩
abbrev cX9_around : ByteArray := prog_1_method_8_code
def yX9_around : MethodName := ⟨RX9, "around", "(I)I"⟩
abbrev cX9_distance : ByteArray := prog_1_method_9_code
def yX9_distance : MethodName := ⟨RX9, "distance", "(II)I"⟩
abbrev cX9_route : ByteArray := prog_1_method_10_code
def yX9_route : MethodName := ⟨RX9, "route", "(III)I"⟩
abbrev cX9_circulates : ByteArray := prog_1_method_11_code
def yX9_circulates : MethodName := ⟨RX9, "circulates", "()I"⟩
abbrev cX9_potential : ByteArray := prog_1_method_12_code
def yX9_potential : MethodName := ⟨RX9, "potential", "(I)I"⟩
abbrev cX9_ring : ByteArray := prog_1_method_13_code
def yX9_ring : MethodName := ⟨RX9, "ring", "(I)I"⟩
abbrev cX9_flow : ByteArray := prog_1_method_14_code
def yX9_flow : MethodName := ⟨RX9, "flow", "(II)I"⟩
abbrev cX9_on : ByteArray := prog_1_method_15_code
def yX9_on : MethodName := ⟨RX9, "on", "(I)I"⟩
abbrev cX9_left : ByteArray := prog_1_method_16_code
def yX9_left : MethodName := ⟨RX9, "left", "(II)I"⟩
abbrev cX9_ways : ByteArray := prog_1_method_17_code
def yX9_ways : MethodName := ⟨RX9, "ways", "(I)I"⟩
abbrev cX9_excess : ByteArray := prog_1_method_18_code
def yX9_excess : MethodName := ⟨RX9, "excess", "(I)I"⟩
abbrev cX9_cut : ByteArray := prog_1_method_19_code
def yX9_cut : MethodName := ⟨RX9, "cut", "(II)I"⟩
abbrev cX9_rings : ByteArray := prog_1_method_20_code
def yX9_rings : MethodName := ⟨RX9, "rings", "(I)I"⟩
abbrev cX9_shared : ByteArray := prog_1_method_21_code
def yX9_shared : MethodName := ⟨RX9, "shared", "(II)I"⟩
abbrev cX9_gather : ByteArray := prog_1_method_22_code
def yX9_gather : MethodName := ⟨RX9, "gather", "(III)I"⟩
abbrev cX9_supply : ByteArray := prog_1_method_23_code
def yX9_supply : MethodName := ⟨RX9, "supply", "(II)I"⟩
abbrev cX9_meet : ByteArray := prog_1_method_24_code
def yX9_meet : MethodName := ⟨RX9, "meet", "()I"⟩
abbrev cX9_gave : ByteArray := prog_1_method_25_code
def yX9_gave : MethodName := ⟨RX9, "gave", "(I)I"⟩
abbrev cX9_were : ByteArray := prog_1_method_26_code
def yX9_were : MethodName := ⟨RX9, "were", "(IIII)I"⟩
abbrev cX9_counts : ByteArray := prog_1_method_27_code
def yX9_counts : MethodName := ⟨RX9, "counts", "(III)I"⟩
abbrev cX9_worst : ByteArray := prog_1_method_28_code
def yX9_worst : MethodName := ⟨RX9, "worst", "(II)I"⟩
abbrev cX9_image : ByteArray := prog_1_method_29_code
def yX9_image : MethodName := ⟨RX9, "image", "(I)Z"⟩
abbrev cX9_back : ByteArray := prog_1_method_30_code
def yX9_back : MethodName := ⟨RX9, "back", "(I)Z"⟩
abbrev cX9_count : ByteArray := prog_1_method_31_code
def yX9_count : MethodName := ⟨RX9, "count", "(I)I"⟩
abbrev cX9_isPair : ByteArray := prog_1_method_32_code
def yX9_isPair : MethodName := ⟨RX9, "isPair", "(II)Z"⟩
abbrev cX9_hasCut : ByteArray := prog_1_method_33_code
def yX9_hasCut : MethodName := ⟨RX9, "hasCut", "(I)Z"⟩
abbrev cX9_isSide : ByteArray := prog_1_method_34_code
def yX9_isSide : MethodName := ⟨RX9, "isSide", "(I)Z"⟩
abbrev cX9_isBearable : ByteArray := prog_1_method_35_code
def yX9_isBearable : MethodName := ⟨RX9, "isBearable", "(I)Z"⟩
abbrev cX9_valueWith : ByteArray := prog_1_method_36_code
def yX9_valueWith : MethodName := ⟨RX9, "valueWith", "(IIIII)I"⟩
def RX10 : String := "PlanarFlowModel"
def TX10 : u_T := fun k => match k with
  | 0 => ("PlanarFlowModel", "thrown", "I", false)
  | 1 => ("PlanarFlowModel", "w", "I", false)
  | 2 => ("PlanarFlowModel", "h", "I", false)
  | 3 => ("PlanarFlowModel", "slants", "[I", true)
  | 4 => ("PlanarFlowModel", "forth", "[I", true)
  | 5 => ("PlanarFlowModel", "back", "[I", true)
  | 6 => ("PlanarFlowModel", "supply", "[I", true)
  | 7 => ("PlanarFlowModel", "tape", "[B", true)
  | 8 => ("PlanarFlowModel", "taped", "I", false)
  | 9 => ("PlanarFlowModel", "size", "I", false)
  | 10 => ("PlanarFlowModel", "at", "I", false)
  | 11 => ("PlanarFlowModel", "next", "I", false)
  | 12 => ("PlanarFlowModel", "token", "I", false)
  | 13 => ("PlanarFlowModel", "whole", "I", false)
  | 14 => ("PlanarFlowModel", "letters", "J", false)
  | 15 => ("PlanarFlowModel", "fault", "I", false)
  | 16 => ("PlanarFlowModel", "told", "[I", true)
  | 17 => ("PlanarFlowModel", "lines", "I", false)
  | 18 => ("PlanarFlowModel", "toldW", "I", false)
  | 19 => ("PlanarFlowModel", "toldH", "I", false)
  | 20 => ("PlanarFlowModel", "number", "I", false)
  | 21 => ("PlanarFlowModel", "cost", "[I", true)
  | 22 => ("PlanarFlowModel", "hops", "[I", true)
  | 23 => ("PlanarFlowModel", "isHalved", "[Z", true)
  | 24 => ("PlanarFlowModel", "halves", "Z", false)
  | 25 => ("PlanarFlowModel", "faceNext", "I", false)
  | 26 => ("PlanarFlowModel", "best", "[I", true)
  | 27 => ("PlanarFlowModel", "fromEdge", "[I", true)
  | 28 => ("PlanarFlowModel", "ringFace", "[I", true)
  | 29 => ("PlanarFlowModel", "ringMany", "I", false)
  | 30 => ("PlanarFlowModel", "ringCost", "I", false)
  | 31 => ("PlanarFlowModel", "runs", "[I", true)
  | 32 => ("PlanarFlowModel", "flows", "[I", true)
  | 33 => ("PlanarFlowModel", "hasFlow", "Z", false)
  | 34 => ("PlanarFlowModel", "waysMany", "I", false)
  | 35 => ("PlanarFlowModel", "longest", "I", false)
  | 36 => ("PlanarFlowModel", "leastBy", "I", false)
  | 37 => ("PlanarFlowModel", "ways", "[I", true)
  | 38 => ("PlanarFlowModel", "gives", "[I", true)
  | 39 => ("PlanarFlowModel", "gaves", "[I", true)
  | 40 => ("PlanarFlowModel", "wayNode", "[I", true)
  | 41 => ("PlanarFlowModel", "wayEdge", "[I", true)
  | 42 => ("PlanarFlowModel", "wayFirst", "[I", true)
  | 43 => ("PlanarFlowModel", "wayTried", "[I", true)
  | 44 => ("PlanarFlowModel", "seen", "[Z", true)
  | 45 => ("PlanarFlowModel", "wayMany", "I", false)
  | 46 => ("PlanarFlowModel", "takes", "[I", true)
  | 47 => ("PlanarFlowModel", "inSet", "[Z", true)
  | 48 => ("PlanarFlowModel", "partOf", "[I", true)
  | 49 => ("PlanarFlowModel", "clockwise", "I", false)
  | 50 => ("PlanarFlowModel", "images", "[I", true)
  | _ => ("PlanarFlowModel", "imaged", "I", false)
def tyX10 : Nat → FieldType := fun k => match k with
  | 0 => .int
  | 1 => .int
  | 2 => .int
  | 3 => .array .int
  | 4 => .array .int
  | 5 => .array .int
  | 6 => .array .int
  | 7 => .array .byte
  | 8 => .int
  | 9 => .int
  | 10 => .int
  | 11 => .int
  | 12 => .int
  | 13 => .int
  | 14 => .long
  | 15 => .int
  | 16 => .array .int
  | 17 => .int
  | 18 => .int
  | 19 => .int
  | 20 => .int
  | 21 => .array .int
  | 22 => .array .int
  | 23 => .array .boolean
  | 24 => .boolean
  | 25 => .int
  | 26 => .array .int
  | 27 => .array .int
  | 28 => .array .int
  | 29 => .int
  | 30 => .int
  | 31 => .array .int
  | 32 => .array .int
  | 33 => .boolean
  | 34 => .int
  | 35 => .int
  | 36 => .int
  | 37 => .array .int
  | 38 => .array .int
  | 39 => .array .int
  | 40 => .array .int
  | 41 => .array .int
  | 42 => .array .int
  | 43 => .array .int
  | 44 => .array .boolean
  | 45 => .int
  | 46 => .array .int
  | 47 => .array .boolean
  | 48 => .array .int
  | 49 => .int
  | 50 => .array .int
  | _ => .int
abbrev wsX100 : List Cond := u_ws RX10 TX10 52
theorem nmX10 : ∀ a, a < 52 → ∀ b, b < 52 → a ≠ b → (TX10 a).2.1 ≠ (TX10 b).2.1 := by decide +kernel
theorem tyX10_ok : ∀ k, k < 52 → parseFieldDescriptor (TX10 k).2.2.1 = some (tyX10 k) := by decide +kernel
abbrev cX10_thrown : ByteArray := prog_12_method_1_code
def yX10_thrown : MethodName := ⟨RX10, "thrown", "()I"⟩
abbrev cX10_within : ByteArray := prog_12_method_2_code
def yX10_within : MethodName := ⟨RX10, "within", "(III)Z"⟩
abbrev cX10_init : ByteArray := prog_12_method_3_code
def yX10_init : MethodName := ⟨RX10, "<init>", "()V"⟩
abbrev cX10_begins : ByteArray := prog_12_method_4_code
def yX10_begins : MethodName := ⟨RX10, "begins", "(II)V"⟩
abbrev cX10_nodes : ByteArray := prog_12_method_5_code
def yX10_nodes : MethodName := ⟨RX10, "nodes", "()I"⟩
abbrev cX10_isNode : ByteArray := prog_12_method_6_code
def yX10_isNode : MethodName := ⟨RX10, "isNode", "(I)Z"⟩
abbrev cX10_isCell : ByteArray := prog_12_method_7_code
def yX10_isCell : MethodName := ⟨RX10, "isCell", "(I)Z"⟩
abbrev cX10_isEdge : ByteArray := prog_12_method_8_code
def yX10_isEdge : MethodName := ⟨RX10, "isEdge", "(I)Z"⟩
abbrev cX10_fromOf : ByteArray := prog_12_method_9_code
def yX10_fromOf : MethodName := ⟨RX10, "fromOf", "(I)I"⟩
abbrev cX10_toOf : ByteArray := prog_12_method_10_code
def yX10_toOf : MethodName := ⟨RX10, "toOf", "(I)I"⟩
abbrev cX10_faceAt : ByteArray := prog_12_method_11_code
def yX10_faceAt : MethodName := ⟨RX10, "faceAt", "(III)I"⟩
abbrev cX10_leftOf : ByteArray := prog_12_method_12_code
def yX10_leftOf : MethodName := ⟨RX10, "leftOf", "(I)I"⟩
abbrev cX10_rightOf : ByteArray := prog_12_method_13_code
def yX10_rightOf : MethodName := ⟨RX10, "rightOf", "(I)I"⟩
abbrev cX10_isFace : ByteArray := prog_12_method_14_code
def yX10_isFace : MethodName := ⟨RX10, "isFace", "(I)Z"⟩
abbrev cX10_faces : ByteArray := prog_12_method_15_code
def yX10_faces : MethodName := ⟨RX10, "faces", "()I"⟩
abbrev cX10_edges : ByteArray := prog_12_method_16_code
def yX10_edges : MethodName := ⟨RX10, "edges", "()I"⟩
abbrev cX10_feed : ByteArray := prog_12_method_17_code
def yX10_feed : MethodName := ⟨RX10, "feed", "(IIIII)I"⟩
abbrev cX10_puts : ByteArray := prog_12_method_18_code
def yX10_puts : MethodName := ⟨RX10, "puts", "(I)V"⟩
abbrev cX10_byteAt : ByteArray := prog_12_method_19_code
def yX10_byteAt : MethodName := ⟨RX10, "byteAt", "(I)I"⟩
abbrev cX10_isLetter : ByteArray := prog_12_method_20_code
def yX10_isLetter : MethodName := ⟨RX10, "isLetter", "(I)Z"⟩
abbrev cX10_isDigit : ByteArray := prog_12_method_21_code
def yX10_isDigit : MethodName := ⟨RX10, "isDigit", "(I)Z"⟩
abbrev cX10_number : ByteArray := prog_12_method_22_code
def yX10_number : MethodName := ⟨RX10, "number", "()V"⟩
abbrev cX10_go : ByteArray := prog_12_method_23_code
def yX10_go : MethodName := ⟨RX10, "go", "()V"⟩
abbrev cX10_spelt : ByteArray := prog_12_method_24_code
def yX10_spelt : MethodName := ⟨RX10, "spelt", "(IIIII)J"⟩
abbrev cX10_isWord : ByteArray := prog_12_method_25_code
def yX10_isWord : MethodName := ⟨RX10, "isWord", "(J)Z"⟩
abbrev cX10_wrong : ByteArray := prog_12_method_26_code
def yX10_wrong : MethodName := ⟨RX10, "wrong", "(I)Z"⟩
abbrev cX10_number_ : ByteArray := prog_12_method_27_code
def yX10_number_ : MethodName := ⟨RX10, "number", "(II)Z"⟩
abbrev cX10_whichHere : ByteArray := prog_12_method_28_code
def yX10_whichHere : MethodName := ⟨RX10, "whichHere", "()I"⟩
abbrev cX10_keeps : ByteArray := prog_12_method_29_code
def yX10_keeps : MethodName := ⟨RX10, "keeps", "(III)Z"⟩
abbrev cX10_line : ByteArray := prog_12_method_30_code
def yX10_line : MethodName := ⟨RX10, "line", "()Z"⟩
abbrev cX10_bears : ByteArray := prog_12_method_31_code
def yX10_bears : MethodName := ⟨RX10, "bears", "(I)V"⟩
abbrev cX10_text : ByteArray := prog_12_method_32_code
def yX10_text : MethodName := ⟨RX10, "text", "(I)I"⟩
abbrev cX10_grid : ByteArray := prog_12_method_33_code
def yX10_grid : MethodName := ⟨RX10, "grid", "(II)I"⟩
abbrev cX10_slant : ByteArray := prog_12_method_34_code
def yX10_slant : MethodName := ⟨RX10, "slant", "(II)I"⟩
abbrev cX10_bears_ : ByteArray := prog_12_method_35_code
def yX10_bears_ : MethodName := ⟨RX10, "bears", "(III)Z"⟩
abbrev cX10_edge : ByteArray := prog_12_method_36_code
def yX10_edge : MethodName := ⟨RX10, "edge", "(II)I"⟩
abbrev cX10_isAround : ByteArray := prog_12_method_37_code
def yX10_isAround : MethodName := ⟨RX10, "isAround", "(II)Z"⟩
abbrev cX10_around : ByteArray := prog_12_method_38_code
def yX10_around : MethodName := ⟨RX10, "around", "(I)I"⟩
abbrev cX10_leftNow : ByteArray := prog_12_method_39_code
def yX10_leftNow : MethodName := ⟨RX10, "leftNow", "(I)I"⟩
abbrev cX10_rightNow : ByteArray := prog_12_method_40_code
def yX10_rightNow : MethodName := ⟨RX10, "rightNow", "(I)I"⟩
abbrev cX10_isLess : ByteArray := prog_12_method_41_code
def yX10_isLess : MethodName := ⟨RX10, "isLess", "(III)Z"⟩
abbrev cX10_relaxes : ByteArray := prog_12_method_42_code
def yX10_relaxes : MethodName := ⟨RX10, "relaxes", "(III)Z"⟩
abbrev cX10_laysCosts : ByteArray := prog_12_method_43_code
def yX10_laysCosts : MethodName := ⟨RX10, "laysCosts", "(IZ)Z"⟩
abbrev cX10_canCirculate : ByteArray := prog_12_method_44_code
def yX10_canCirculate : MethodName := ⟨RX10, "canCirculate", "()Z"⟩
abbrev cX10_distance : ByteArray := prog_12_method_45_code
def yX10_distance : MethodName := ⟨RX10, "distance", "(II)I"⟩
abbrev cX10_nextEdge : ByteArray := prog_12_method_46_code
def yX10_nextEdge : MethodName := ⟨RX10, "nextEdge", "(I)I"⟩
abbrev cX10_route : ByteArray := prog_12_method_47_code
def yX10_route : MethodName := ⟨RX10, "route", "(III)I"⟩
abbrev cX10_circulates : ByteArray := prog_12_method_48_code
def yX10_circulates : MethodName := ⟨RX10, "circulates", "()I"⟩
abbrev cX10_potential : ByteArray := prog_12_method_49_code
def yX10_potential : MethodName := ⟨RX10, "potential", "(I)I"⟩
abbrev cX10_betters : ByteArray := prog_12_method_50_code
def yX10_betters : MethodName := ⟨RX10, "betters", "(IIII)Z"⟩
abbrev cX10_ahead : ByteArray := prog_12_method_51_code
def yX10_ahead : MethodName := ⟨RX10, "ahead", "(I)I"⟩
abbrev cX10_firstBetter : ByteArray := prog_12_method_52_code
def yX10_firstBetter : MethodName := ⟨RX10, "firstBetter", "()I"⟩
abbrev cX10_laysRing : ByteArray := prog_12_method_53_code
def yX10_laysRing : MethodName := ⟨RX10, "laysRing", "()Z"⟩
abbrev cX10_ring : ByteArray := prog_12_method_54_code
def yX10_ring : MethodName := ⟨RX10, "ring", "(I)I"⟩
abbrev cX10_circulates0 : ByteArray := prog_12_method_55_code
def yX10_circulates0 : MethodName := ⟨RX10, "circulates0", "()Z"⟩
abbrev cX10_leftOn : ByteArray := prog_12_method_56_code
def yX10_leftOn : MethodName := ⟨RX10, "leftOn", "(IZ)I"⟩
abbrev cX10_edgeAt : ByteArray := prog_12_method_57_code
def yX10_edgeAt : MethodName := ⟨RX10, "edgeAt", "(II)I"⟩
abbrev cX10_otherEnd : ByteArray := prog_12_method_58_code
def yX10_otherEnd : MethodName := ⟨RX10, "otherEnd", "(II)I"⟩
abbrev cX10_isEnd : ByteArray := prog_12_method_59_code
def yX10_isEnd : MethodName := ⟨RX10, "isEnd", "(II)Z"⟩
abbrev cX10_search : ByteArray := prog_12_method_60_code
def yX10_search : MethodName := ⟨RX10, "search", "(II)Z"⟩
abbrev cX10_leastOnWay : ByteArray := prog_12_method_61_code
def yX10_leastOnWay : MethodName := ⟨RX10, "leastOnWay", "()I"⟩
abbrev cX10_pushes : ByteArray := prog_12_method_62_code
def yX10_pushes : MethodName := ⟨RX10, "pushes", "(I)V"⟩
abbrev cX10_flowsMore : ByteArray := prog_12_method_63_code
def yX10_flowsMore : MethodName := ⟨RX10, "flowsMore", "(III)I"⟩
abbrev cX10_isTold : ByteArray := prog_12_method_64_code
def yX10_isTold : MethodName := ⟨RX10, "isTold", "(II)V"⟩
abbrev cX10_givesNothing : ByteArray := prog_12_method_65_code
def yX10_givesNothing : MethodName := ⟨RX10, "givesNothing", "()V"⟩
abbrev cX10_areTwo : ByteArray := prog_12_method_66_code
def yX10_areTwo : MethodName := ⟨RX10, "areTwo", "(II)Z"⟩
abbrev cX10_valueOf : ByteArray := prog_12_method_67_code
def yX10_valueOf : MethodName := ⟨RX10, "valueOf", "(II)I"⟩
abbrev cX10_flow : ByteArray := prog_12_method_68_code
def yX10_flow : MethodName := ⟨RX10, "flow", "(II)I"⟩
abbrev cX10_on : ByteArray := prog_12_method_69_code
def yX10_on : MethodName := ⟨RX10, "on", "(I)I"⟩
abbrev cX10_left : ByteArray := prog_12_method_70_code
def yX10_left : MethodName := ⟨RX10, "left", "(II)I"⟩
abbrev cX10_ways : ByteArray := prog_12_method_71_code
def yX10_ways : MethodName := ⟨RX10, "ways", "(I)I"⟩
abbrev cX10_excess : ByteArray := prog_12_method_72_code
def yX10_excess : MethodName := ⟨RX10, "excess", "(I)I"⟩
abbrev cX10_leftTold : ByteArray := prog_12_method_73_code
def yX10_leftTold : MethodName := ⟨RX10, "leftTold", "(IZ)I"⟩
abbrev cX10_laysSet : ByteArray := prog_12_method_74_code
def yX10_laysSet : MethodName := ⟨RX10, "laysSet", "(IZ)V"⟩
abbrev cX10_laysSide : ByteArray := prog_12_method_75_code
def yX10_laysSide : MethodName := ⟨RX10, "laysSide", "(I)V"⟩
abbrev cX10_isCut : ByteArray := prog_12_method_76_code
def yX10_isCut : MethodName := ⟨RX10, "isCut", "(I)Z"⟩
abbrev cX10_canCut : ByteArray := prog_12_method_77_code
def yX10_canCut : MethodName := ⟨RX10, "canCut", "(I)Z"⟩
abbrev cX10_cut : ByteArray := prog_12_method_78_code
def yX10_cut : MethodName := ⟨RX10, "cut", "(II)I"⟩
abbrev cX10_areBeside : ByteArray := prog_12_method_79_code
def yX10_areBeside : MethodName := ⟨RX10, "areBeside", "(II)Z"⟩
abbrev cX10_rings : ByteArray := prog_12_method_80_code
def yX10_rings : MethodName := ⟨RX10, "rings", "(I)I"⟩
abbrev cX10_isOutside : ByteArray := prog_12_method_81_code
def yX10_isOutside : MethodName := ⟨RX10, "isOutside", "(I)Z"⟩
abbrev cX10_edgeClockwise : ByteArray := prog_12_method_82_code
def yX10_edgeClockwise : MethodName := ⟨RX10, "edgeClockwise", "(I)I"⟩
abbrev cX10_shared : ByteArray := prog_12_method_83_code
def yX10_shared : MethodName := ⟨RX10, "shared", "(II)I"⟩
abbrev cX10_isAt : ByteArray := prog_12_method_84_code
def yX10_isAt : MethodName := ⟨RX10, "isAt", "(II)Z"⟩
abbrev cX10_gather : ByteArray := prog_12_method_85_code
def yX10_gather : MethodName := ⟨RX10, "gather", "(III)I"⟩
abbrev cX10_supply : ByteArray := prog_12_method_86_code
def yX10_supply : MethodName := ⟨RX10, "supply", "(II)I"⟩
abbrev cX10_meets : ByteArray := prog_12_method_87_code
def yX10_meets : MethodName := ⟨RX10, "meets", "(I)I"⟩
abbrev cX10_meet : ByteArray := prog_12_method_88_code
def yX10_meet : MethodName := ⟨RX10, "meet", "()I"⟩
abbrev cX10_gave : ByteArray := prog_12_method_89_code
def yX10_gave : MethodName := ⟨RX10, "gave", "(I)I"⟩
abbrev cX10_valueBy : ByteArray := prog_12_method_90_code
def yX10_valueBy : MethodName := ⟨RX10, "valueBy", "(IIIII)I"⟩
abbrev cX10_were : ByteArray := prog_12_method_91_code
def yX10_were : MethodName := ⟨RX10, "were", "(IIII)I"⟩
abbrev cX10_counts : ByteArray := prog_12_method_92_code
def yX10_counts : MethodName := ⟨RX10, "counts", "(III)I"⟩
abbrev cX10_worst : ByteArray := prog_12_method_93_code
def yX10_worst : MethodName := ⟨RX10, "worst", "(II)I"⟩
abbrev cX10_image : ByteArray := prog_12_method_94_code
def yX10_image : MethodName := ⟨RX10, "image", "(I)Z"⟩
abbrev cX10_back : ByteArray := prog_12_method_95_code
def yX10_back : MethodName := ⟨RX10, "back", "(I)Z"⟩
abbrev cX10_allBears : ByteArray := prog_12_method_96_code
def yX10_allBears : MethodName := ⟨RX10, "allBears", "()I"⟩
abbrev cX10_aslant : ByteArray := prog_12_method_97_code
def yX10_aslant : MethodName := ⟨RX10, "aslant", "()I"⟩
abbrev cX10_supplied : ByteArray := prog_12_method_98_code
def yX10_supplied : MethodName := ⟨RX10, "supplied", "(I)I"⟩
abbrev cX10_count : ByteArray := prog_12_method_99_code
def yX10_count : MethodName := ⟨RX10, "count", "(I)I"⟩
def RJx145de : String := "java/io/Serializable"
def TJx145de : u_T := fun k => match k with
  | _ => ("", "", "", false)
def tyJx145de : Nat → FieldType := fun k => match k with
  | _ => .int
abbrev wsJx145de0 : List Cond := u_ws RJx145de TJx145de 0
theorem nmJx145de : ∀ a, a < 0 → ∀ b, b < 0 → a ≠ b → (TJx145de a).2.1 ≠ (TJx145de b).2.1 := by decide +kernel
theorem tyJx145de_ok : ∀ k, k < 0 → parseFieldDescriptor (TJx145de k).2.2.1 = some (tyJx145de k) := by decide +kernel
def RJx9f9b0 : String := "java/lang/CharSequence"
def TJx9f9b0 : u_T := fun k => match k with
  | _ => ("", "", "", false)
def tyJx9f9b0 : Nat → FieldType := fun k => match k with
  | _ => .int
abbrev wsJx9f9b00 : List Cond := u_ws RJx9f9b0 TJx9f9b0 0
theorem nmJx9f9b0 : ∀ a, a < 0 → ∀ b, b < 0 → a ≠ b → (TJx9f9b0 a).2.1 ≠ (TJx9f9b0 b).2.1 := by decide +kernel
theorem tyJx9f9b0_ok : ∀ k, k < 0 → parseFieldDescriptor (TJx9f9b0 k).2.2.1 = some (tyJx9f9b0 k) := by decide +kernel
def RJxb160c : String := "java/lang/Comparable"
def TJxb160c : u_T := fun k => match k with
  | _ => ("", "", "", false)
def tyJxb160c : Nat → FieldType := fun k => match k with
  | _ => .int
abbrev wsJxb160c0 : List Cond := u_ws RJxb160c TJxb160c 0
theorem nmJxb160c : ∀ a, a < 0 → ∀ b, b < 0 → a ≠ b → (TJxb160c a).2.1 ≠ (TJxb160c b).2.1 := by decide +kernel
theorem tyJxb160c_ok : ∀ k, k < 0 → parseFieldDescriptor (TJxb160c k).2.2.1 = some (tyJxb160c k) := by decide +kernel
def RJ9 : String := "java/lang/Math"
def TJ9 : u_T := fun k => match k with
  | _ => ("", "", "", false)
def tyJ9 : Nat → FieldType := fun k => match k with
  | _ => .int
abbrev wsJ90 : List Cond := u_ws RJ9 TJ9 0
theorem nmJ9 : ∀ a, a < 0 → ∀ b, b < 0 → a ≠ b → (TJ9 a).2.1 ≠ (TJ9 b).2.1 := by decide +kernel
theorem tyJ9_ok : ∀ k, k < 0 → parseFieldDescriptor (TJ9 k).2.2.1 = some (tyJ9 k) := by decide +kernel
abbrev cJ9_max_7cf53 : ByteArray := prog_17_method_65_code
def yJ9_max_7cf53 : MethodName := ⟨RJ9, "max", "(II)I"⟩
abbrev cJ9_min_7cf53 : ByteArray := prog_17_method_69_code
def yJ9_min_7cf53 : MethodName := ⟨RJ9, "min", "(II)I"⟩
def RJ0 : String := "java/lang/String"
def TJ0 : u_T := fun k => match k with
  | _ => ("", "", "", false)
def tyJ0 : Nat → FieldType := fun k => match k with
  | _ => .int
abbrev wsJ00 : List Cond := u_ws RJ0 TJ0 0
theorem nmJ0 : ∀ a, a < 0 → ∀ b, b < 0 → a ≠ b → (TJ0 a).2.1 ≠ (TJ0 b).2.1 := by decide +kernel
theorem tyJ0_ok : ∀ k, k < 0 → parseFieldDescriptor (TJ0 k).2.2.1 = some (tyJ0 k) := by decide +kernel
abbrev cJ0_length_8abf5 : ByteArray := prog_19_method_54_code
def yJ0_length_8abf5 : MethodName := ⟨RJ0, "length", "()I"⟩
abbrev cJ0_charAt_5068e : ByteArray := prog_19_method_56_code
def yJ0_charAt_5068e : MethodName := ⟨RJ0, "charAt", "(I)C"⟩
abbrev cJ0_coder_7d493 : ByteArray := prog_19_method_152_code
def yJ0_coder_7d493 : MethodName := ⟨RJ0, "coder", "()B"⟩
abbrev cJ0_isLatin1_aae02 : ByteArray := prog_19_method_154_code
def yJ0_isLatin1_aae02 : MethodName := ⟨RJ0, "isLatin1", "()Z"⟩
abbrev cJ0_checkIndex_df160 : ByteArray := prog_19_method_155_code
def yJ0_checkIndex_df160 : MethodName := ⟨RJ0, "checkIndex", "(II)V"⟩
def RJ1 : String := "java/lang/StringLatin1"
def TJ1 : u_T := fun k => match k with
  | _ => ("", "", "", false)
def tyJ1 : Nat → FieldType := fun k => match k with
  | _ => .int
abbrev wsJ10 : List Cond := u_ws RJ1 TJ1 0
theorem nmJ1 : ∀ a, a < 0 → ∀ b, b < 0 → a ≠ b → (TJ1 a).2.1 ≠ (TJ1 b).2.1 := by decide +kernel
theorem tyJ1_ok : ∀ k, k < 0 → parseFieldDescriptor (TJ1 k).2.2.1 = some (tyJ1 k) := by decide +kernel
abbrev cJ1_charAt_3b067 : ByteArray := prog_20_method_2_code
def yJ1_charAt_3b067 : MethodName := ⟨RJ1, "charAt", "([BI)C"⟩
def RJ2 : String := "java/lang/StringUTF16"
def TJ2 : u_T := fun k => match k with
  | _ => ("", "", "", false)
def tyJ2 : Nat → FieldType := fun k => match k with
  | _ => .int
abbrev wsJ20 : List Cond := u_ws RJ2 TJ2 0
theorem nmJ2 : ∀ a, a < 0 → ∀ b, b < 0 → a ≠ b → (TJ2 a).2.1 ≠ (TJ2 b).2.1 := by decide +kernel
theorem tyJ2_ok : ∀ k, k < 0 → parseFieldDescriptor (TJ2 k).2.2.1 = some (tyJ2 k) := by decide +kernel
abbrev cJ2_getChar_3b067 : ByteArray := prog_21_method_5_code
def yJ2_getChar_3b067 : MethodName := ⟨RJ2, "getChar", "([BI)C"⟩
abbrev cJ2_length_9d52b : ByteArray := prog_21_method_6_code
def yJ2_length_9d52b : MethodName := ⟨RJ2, "length", "([B)I"⟩
abbrev cJ2_charAt_3b067 : ByteArray := prog_21_method_83_code
def yJ2_charAt_3b067 : MethodName := ⟨RJ2, "charAt", "([BI)C"⟩
abbrev cJ2_checkIndex_2214a : ByteArray := prog_21_method_91_code
def yJ2_checkIndex_2214a : MethodName := ⟨RJ2, "checkIndex", "(I[B)V"⟩
def RJ10 : String := "java/lang/System"
def TJ10 : u_T := fun k => match k with
  | _ => ("", "", "", false)
def tyJ10 : Nat → FieldType := fun k => match k with
  | _ => .int
abbrev wsJ100 : List Cond := u_ws RJ10 TJ10 0
theorem nmJ10 : ∀ a, a < 0 → ∀ b, b < 0 → a ≠ b → (TJ10 a).2.1 ≠ (TJ10 b).2.1 := by decide +kernel
theorem tyJ10_ok : ∀ k, k < 0 → parseFieldDescriptor (TJ10 k).2.2.1 = some (tyJ10 k) := by decide +kernel
def RJxfd54e : String := "java/lang/constant/Constable"
def TJxfd54e : u_T := fun k => match k with
  | _ => ("", "", "", false)
def tyJxfd54e : Nat → FieldType := fun k => match k with
  | _ => .int
abbrev wsJxfd54e0 : List Cond := u_ws RJxfd54e TJxfd54e 0
theorem nmJxfd54e : ∀ a, a < 0 → ∀ b, b < 0 → a ≠ b → (TJxfd54e a).2.1 ≠ (TJxfd54e b).2.1 := by decide +kernel
theorem tyJxfd54e_ok : ∀ k, k < 0 → parseFieldDescriptor (TJxfd54e k).2.2.1 = some (tyJxfd54e k) := by decide +kernel
def RJx3cf43 : String := "java/lang/constant/ConstantDesc"
def TJx3cf43 : u_T := fun k => match k with
  | _ => ("", "", "", false)
def tyJx3cf43 : Nat → FieldType := fun k => match k with
  | _ => .int
abbrev wsJx3cf430 : List Cond := u_ws RJx3cf43 TJx3cf43 0
theorem nmJx3cf43 : ∀ a, a < 0 → ∀ b, b < 0 → a ≠ b → (TJx3cf43 a).2.1 ≠ (TJx3cf43 b).2.1 := by decide +kernel
theorem tyJx3cf43_ok : ∀ k, k < 0 → parseFieldDescriptor (TJx3cf43 k).2.2.1 = some (tyJx3cf43 k) := by decide +kernel
def RJ7 : String := "java/util/Arrays"
def TJ7 : u_T := fun k => match k with
  | _ => ("", "", "", false)
def tyJ7 : Nat → FieldType := fun k => match k with
  | _ => .int
abbrev wsJ70 : List Cond := u_ws RJ7 TJ7 0
theorem nmJ7 : ∀ a, a < 0 → ∀ b, b < 0 → a ≠ b → (TJ7 a).2.1 ≠ (TJ7 b).2.1 := by decide +kernel
theorem tyJ7_ok : ∀ k, k < 0 → parseFieldDescriptor (TJ7 k).2.2.1 = some (tyJ7 k) := by decide +kernel
abbrev cJ7_fill_53178 : ByteArray := prog_26_method_103_code
def yJ7_fill_53178 : MethodName := ⟨RJ7, "fill", "([II)V"⟩
def RJ3 : String := "jdk/internal/util/Preconditions"
def TJ3 : u_T := fun k => match k with
  | _ => ("", "", "", false)
def tyJ3 : Nat → FieldType := fun k => match k with
  | _ => .int
abbrev wsJ30 : List Cond := u_ws RJ3 TJ3 0
theorem nmJ3 : ∀ a, a < 0 → ∀ b, b < 0 → a ≠ b → (TJ3 a).2.1 ≠ (TJ3 b).2.1 := by decide +kernel
theorem tyJ3_ok : ∀ k, k < 0 → parseFieldDescriptor (TJ3 k).2.2.1 = some (tyJ3 k) := by decide +kernel
abbrev cJ3_checkIndex_8e157 : ByteArray := prog_28_method_11_code
def yJ3_checkIndex_8e157 : MethodName := ⟨RJ3, "checkIndex", "(IILjava/util/function/BiFunction;)I"⟩
def RL : String := "PlanarFlowLaw"
abbrev cL_around : ByteArray := method_3_code
def yL_around : MethodName := ⟨RL, "around", "(LPlanarFlow;I[J)I"⟩
abbrev cL_distance : ByteArray := method_4_code
def yL_distance : MethodName := ⟨RL, "distance", "(LPlanarFlow;II[J)I"⟩
abbrev cL_potential : ByteArray := method_5_code
def yL_potential : MethodName := ⟨RL, "potential", "(LPlanarFlow;I[J)I"⟩
abbrev cL_on : ByteArray := method_6_code
def yL_on : MethodName := ⟨RL, "on", "(LPlanarFlow;I[J)I"⟩
abbrev cL_left : ByteArray := method_7_code
def yL_left : MethodName := ⟨RL, "left", "(LPlanarFlow;II[J)I"⟩
abbrev cL_excess : ByteArray := method_8_code
def yL_excess : MethodName := ⟨RL, "excess", "(LPlanarFlow;I[J)I"⟩
abbrev cL_law : ByteArray := code
def yL_law : MethodName := ⟨RL, "law", "([I)Z"⟩
abbrev vwCl : List vw_C := [(RX0, TX0, 6), (RX1, TX1, 2), (RX2, TX2, 17), (RX3, TX3, 3), (RX4, TX4, 1), (RX5, TX5, 6), (RX6, TX6, 10), (RX7, TX7, 8), (RX8, TX8, 6), (RX9, TX9, 11), (RX10, TX10, 52)]
end
section
/-! THE DEEP MACHINE: an abstract state (memory of numbered cells whose places hold whole numbers), the effect of an instruction on it, and what a run of a method comes to. -/
abbrev jm_V : Type := Int ⊕ (Nat ⊕ Int)
abbrev jm_I (x : Int) : jm_V := .inl x
abbrev jm_R (c : Nat) : jm_V := .inr (.inl c)
abbrev jm_L (x : Int) : jm_V := .inr (.inr x)
abbrev jm_Mem : Type := Nat → Int → Int
abbrev jm_Ls : Type := List (Option jm_V)
abbrev jm_Q : Type := Option jm_V → jm_Mem → Prop
def jm_up (f : Int → Int) (i v : Int) : Int → Int := fun j => if j = i then v else f j
def jm_sr (M : jm_Mem) (c : Nat) (f : Int → Int) : jm_Mem := fun d => if d = c then f else M d
def jm_st (M : jm_Mem) (c : Nat) (i v : Int) : jm_Mem := jm_sr M c (jm_up (M c) i v)
def jm_in (x : Int) : Prop := -2147483648 ≤ x ∧ x ≤ 2147483647
def jm_nth {α : Type} : List α → Nat → Option α
  | [], _ => none
  | a :: _, 0 => some a
  | _ :: l, n + 1 => jm_nth l n
def jm_lg : jm_Ls → Nat → Option jm_V
  | [], _ => none
  | a :: _, 0 => a
  | _ :: l, n + 1 => jm_lg l n
def jm_ls : jm_Ls → Nat → jm_V → jm_Ls
  | [], _, _ => []
  | _ :: l, 0, v => some v :: l
  | a :: l, n + 1, v => a :: jm_ls l n v
def jm_mem : Nat → List Nat → Bool
  | _, [] => false
  | a, b :: l => match Nat.beq a b with
    | true => true
    | false => jm_mem a l
/-- the locals at a method's entry -/
def jm_pad : List jm_V → Nat → jm_Ls
  | [], n => List.replicate n none
  | .inr (.inr x) :: as, n + 2 => some (.inr (.inr x)) :: none :: jm_pad as n
  | v :: as, n + 1 => some v :: jm_pad as n
  | _ :: _, 0 => []
/-- division and remainder as the machine does them, by a number above 0 -/
def jm_dv (x y : Int) : Int := if 0 ≤ x then x / y else -((-x) / y)
def jm_rm (x y : Int) : Int := if 0 ≤ x then x % y else -((-x) % y)
def jm_or (x y : Int) : Int := ((x.toNat ||| y.toNat : Nat) : Int)
def jm_byte (x : Int) : Int := (x + 128) % 256 - 128
def jm_cmp (x y : Int) : Int := if x < y then -1 else if x = y then 0 else 1
def jm_spl (v a : Int) : Int := if 0 < a then 27 * v + a - 96 else v
/-- what spelt answers -/
def jm_spelt (a b c d e : Int) : Int := jm_spl (jm_spl (jm_spl (jm_spl (jm_spl 0 a) b) c) d) e
def jm_cpy (f g : Int → Int) (sp dp n : Int) : Int → Int := fun j => if dp ≤ j ∧ j < dp + n then f (sp + (j - dp)) else g j
abbrev jm_Cfg : Type := Nat × jm_Ls × List jm_V × jm_Mem
/-- an effect: it goes on (what must hold; guards, and where each leads; else); a call (its kind: 0 void, 1 a number, 2 a number or thrown, as the law's own methods tell it; method, arguments, the stack below); an end (what must hold, answer, memory) -/
abbrev jm_Eff : Type := (List Prop × List (Prop × jm_Cfg) × jm_Cfg) ⊕ ((Nat × Nat × List jm_V × List jm_V) ⊕ (List Prop × Option jm_V × jm_Mem))
def jm_bad (M : jm_Mem) : jm_Eff := .inr (.inr ([False], none, M))
def jm_go (k : Nat) (ls : jm_Ls) (st : List jm_V) (M : jm_Mem) : jm_Eff := .inl ([], [], (k, ls, st, M))
def jm_gs (s : List Prop) (k : Nat) (ls : jm_Ls) (st : List jm_V) (M : jm_Mem) : jm_Eff := .inl (s, [], (k, ls, st, M))
def jm_br (P : Prop) (a b : Nat) (ls : jm_Ls) (st : List jm_V) (M : jm_Mem) : jm_Eff := .inl ([], [(P, (a, ls, st, M))], (b, ls, st, M))
def jm_tk : Nat → List jm_V → List jm_V → Option (List jm_V × List jm_V)
  | 0, st, as => some (as, st)
  | n + 1, v :: st, as => jm_tk n st (v :: as)
  | _ + 1, [], _ => none
def jm_swl (x : Int) : Int → List Nat → jm_Ls → List jm_V → jm_Mem → List (Prop × jm_Cfg)
  | _, [], _, _, _ => []
  | i, t :: ts, ls, st, M => (x = i, (t, ls, st, M)) :: jm_swl x (i + 1) ts ls st M
def jm_cj : List Prop → Prop → Prop
  | [], p => p
  | s :: l, p => s ∧ jm_cj l p
def jm_dl (w : jm_Cfg → Prop) : List (Prop × jm_Cfg) → jm_Cfg → Prop
  | [], d => w d
  | (P, s) :: l, d => (P → w s) ∧ (¬ P → jm_dl w l d)
/-- an answer that means: thrown -/
abbrev jm_thr : Option jm_V := some (.inr (.inl 777))
/-- cells and places that were made are counted at cell 999 -/
def jm_gh (M : jm_Mem) (a b : Int) : jm_Mem := jm_st (jm_st M 999 0 (M 999 0 + a)) 999 1 (M 999 1 + b)
def jm_k (w : List jm_V → jm_Mem → Prop) (rest : List jm_V) : Nat → jm_Q
  | 0 => fun r M' => r = none ∧ w rest M'
  | 1 => fun r M' => ∃ x : Int, r = some (.inl x) ∧ w (.inl x :: rest) M'
  | _ => fun r M' => (r = jm_thr ∧ w (.inl 1 :: rest) (jm_gh M' 1 6)) ∨ ∃ x : Int, r = some (.inl x) ∧ w (.inl 0 :: rest) (jm_st M' 94 0 x)
def jm_do (wc : Nat → List jm_V → jm_Mem → jm_Q → Prop) (w : jm_Cfg → Prop) (Q : jm_Q) (k : Nat) (ls : jm_Ls) (M : jm_Mem) (E : jm_Eff) : Prop := match E with
  | .inl (s, dl, d) => jm_cj s (jm_dl w dl d)
  | .inr (.inl (kd, mi, as, rest)) => wc mi as M (jm_k (fun st M' => w (k + 1, ls, st, M')) rest kd)
  | .inr (.inr (s, r, M')) => jm_cj s (Q r M')
end
section
/-! THE TABLES: cells, code, methods (written by a program out of the listing) -/
def jm_shT : List (Nat × Nat × List Nat) := [(19, 11, [4, 19, 24, 25, 36, 40, 42, 45, 55, 65, 68]), (12, 17, [5, 7, 8, 10, 11, 12, 13, 14, 15, 16, 17, 18, 0, 0, 0, 0, 0]), (18, 6, [6, 7, 8, 9, 0, 0]), (0, 36, []), (0, 108, []), (0, 108, []), (0, 36, []), (0, 108, []), (0, 108, []), (0, 108, []), (0, 108, []), (0, 108, []), (0, 73, []), (0, 288, []), (0, 20, []), (0, 20, []), (18, 6, [20, 21, 22, 23, 0, 0]), (0, 36, []), (0, 108, []), (0, 108, []), (0, 36, []), (4, 2, [23, 28]), (1, 2, []), (18, 6, [27, 28, 29, 30, 0, 0]), (0, 36, []), (0, 108, []), (0, 108, []), (0, 36, []), (18, 6, [32, 33, 34, 35, 0, 0]), (0, 36, []), (0, 108, []), (0, 108, []), (0, 36, []), (10, 6, [37, 38, 39, 0, 0, 0]), (0, 73, []), (0, 73, []), (0, 73, []), (14, 1, [41]), (0, 73, []), (11, 2, [43, 44]), (0, 74, []), (0, 108, []), (16, 10, [46, 47, 48, 49, 0, 0, 0, 0, 0, 0]), (0, 108, []), (0, 36, []), (0, 36, []), (15, 6, [50, 51, 52, 53, 54, 0]), (0, 36, []), (0, 36, []), (0, 36, []), (0, 36, []), (0, 36, []), (16, 10, [56, 57, 58, 59, 0, 0, 0, 0, 0, 0]), (0, 108, []), (0, 36, []), (0, 36, []), (15, 6, [60, 61, 62, 63, 64, 0]), (0, 36, []), (0, 36, []), (0, 36, []), (0, 36, []), (0, 36, []), (13, 3, [66, 67, 2]), (0, 36, []), (0, 73, []), (17, 8, [69, 0, 0, 0, 0, 0, 0, 0]), (2, 600, []), (20, 52, [0, 0, 0, 71, 72, 73, 74, 75, 0, 0, 0, 0, 0, 0, 1, 0, 76, 0, 0, 0, 0, 77, 78, 79, 2, 0, 80, 81, 82, 0, 0, 83, 84, 2, 0, 0, 0, 85, 86, 87, 88, 89, 90, 91, 92, 0, 93, 94, 95, 0, 96, 0]), (0, 36, []), (0, 108, []), (0, 108, []), (0, 36, []), (2, 600, []), (0, 900, []), (0, 74, []), (0, 74, []), (1, 108, []), (0, 73, []), (0, 73, []), (0, 74, []), (0, 108, []), (0, 108, []), (0, 5, []), (0, 36, []), (0, 36, []), (0, 37, []), (0, 37, []), (0, 37, []), (0, 37, []), (1, 36, []), (0, 36, []), (1, 36, []), (0, 108, []), (0, 580, []), (3, 1, [])]
def jm_sh (c : Nat) : Nat × Nat × List Nat := match jm_nth jm_shT c with
  | some x => x
  | none => (99, 0, [])
def jm_fk (c k : Nat) : Option Nat := jm_nth (jm_sh c).2.2 k
def jm_swT : List (List Nat) := [[45, 9, 15, 21, 27, 33, 39], [28, 8, 12, 16, 20, 24], [50, 2, 7, 12, 16, 20, 24, 28, 36, 40, 45], [37, 11, 15, 19, 24, 29, 33], [150, 14, 28, 57, 70, 97, 112, 139], [41, 5, 8, 11, 14, 17, 20, 23, 30, 33, 37], [873, 25, 82, 99, 126, 153, 190, 217, 252, 297, 334, 341, 376, 393, 420, 455, 500, 517, 552, 579, 596, 623, 660, 687, 694, 711, 758, 795, 822, 839, 856]]
def jm_sw (i : Nat) : List Nat := match jm_nth jm_swT i with
  | some x => x
  | none => []
/-- X0_solve -/
def jm_cd0 : List (Instr × Nat × Int) := [(.aload_n 0, 0, 0), (.getfield 9, 0, 0), (.ldc 21, 0, 2147483647), (.invokestatic 22, 215, 0), (.aload_n 0, 0, 0), (.getfield 15, 1, 0), (.iconst (-1), 0, (-1)), (.invokestatic 22, 215, 0), (.aload_n 0, 0, 0), (.getfield 9, 0, 0), (.bipush 72, 0, 72), (.iconst 0, 0, 0), (.iastore, 0, 0), (.iconst 1, 0, 1), (.istore_n 2, 0, 0), (.iconst 0, 0, 0), (.istore_n 3, 0, 0), (.iload_n 3, 0, 0), (.aload_n 1, 0, 0), (.getfield 28, 14, 2), (.if_icmp .ge 20, 30, 0), (.iload_n 2, 0, 0), (.ifCond .eq 16, 30, 0), (.aload_n 0, 0, 0), (.aload_n 1, 0, 0), (.iconst 0, 0, 0), (.invokevirtual 34, 1, 0), (.istore_n 2, 0, 0), (.iinc 3 1, 0, 1), (.goto (-22), 17, 0), (.iload_n 2, 0, 0), (.ifCond .eq 12, 37, 0), (.aload_n 0, 0, 0), (.aload_n 1, 0, 0), (.iconst 1, 0, 1), (.invokevirtual 34, 1, 0), (.ifCond .ne 7, 39, 0), (.iconst 1, 0, 1), (.goto 4, 40, 0), (.iconst 0, 0, 0), (.ireturn, 1, 0)]
def jm_bp0 : List Nat := [0, 1, 4, 6, 9, 10, 13, 14, 17, 18, 21, 23, 24, 25, 26, 27, 28, 29, 30, 31, 34, 37, 38, 41, 42, 43, 44, 47, 48, 51, 54, 55, 58, 59, 60, 61, 64, 67, 68, 71, 72]
/-- X0_relaxAll -/
def jm_cd1 : List (Instr × Nat × Int) := [(.iconst 0, 0, 0), (.istore_n 3, 0, 0), (.iconst 0, 0, 0), (.istore 4, 0, 0), (.iload 4, 0, 0), (.aload_n 1, 0, 0), (.getfield 38, 13, 2), (.if_icmp .ge 92, 55, 0), (.iload_n 2, 0, 0), (.ifCond .eq 7, 12, 0), (.iload_n 3, 0, 0), (.ifCond .ne 84, 55, 0), (.aload_n 1, 0, 0), (.getfield 41, 3, 2), (.iload 4, 0, 0), (.iaload, 0, 0), (.istore 5, 0, 0), (.aload_n 1, 0, 0), (.getfield 44, 6, 2), (.iload 5, 0, 0), (.iaload, 0, 0), (.istore 6, 0, 0), (.aload_n 1, 0, 0), (.getfield 47, 7, 2), (.iload 5, 0, 0), (.iaload, 0, 0), (.istore 7, 0, 0), (.iload_n 3, 0, 0), (.aload_n 0, 0, 0), (.iload 6, 0, 0), (.iload 7, 0, 0), (.iload 5, 0, 0), (.aload_n 1, 0, 0), (.getfield 50, 1, 2), (.iload 5, 0, 0), (.iaload, 0, 0), (.invokevirtual 53, 2, 0), (.ifCond .ne 23, 48, 0), (.aload_n 0, 0, 0), (.iload 7, 0, 0), (.iload 6, 0, 0), (.iload 5, 0, 0), (.aload_n 1, 0, 0), (.getfield 57, 2, 2), (.iload 5, 0, 0), (.iaload, 0, 0), (.invokevirtual 53, 2, 0), (.ifCond .eq 7, 50, 0), (.iconst 1, 0, 1), (.goto 4, 51, 0), (.iconst 0, 0, 0), (.ior, 0, 0), (.istore_n 3, 0, 0), (.iinc 4 1, 0, 1), (.goto (-95), 4, 0), (.iload_n 3, 0, 0), (.ireturn, 1, 0)]
def jm_bp1 : List Nat := [0, 1, 2, 3, 5, 7, 8, 11, 14, 15, 18, 19, 22, 23, 26, 28, 29, 31, 32, 35, 37, 38, 40, 41, 44, 46, 47, 49, 50, 51, 53, 55, 57, 58, 61, 63, 64, 67, 70, 71, 73, 75, 77, 78, 81, 83, 84, 87, 90, 91, 94, 95, 96, 97, 100, 103, 104]
/-- X0_relax -/
def jm_cd2 : List (Instr × Nat × Int) := [(.aload_n 0, 0, 0), (.getfield 9, 0, 0), (.iload_n 1, 0, 0), (.iaload, 0, 0), (.ldc 21, 0, 2147483647), (.if_icmp .eq 21, 17, 0), (.aload_n 0, 0, 0), (.getfield 9, 0, 0), (.iload_n 1, 0, 0), (.iaload, 0, 0), (.iload 4, 0, 0), (.iadd, 0, 0), (.aload_n 0, 0, 0), (.getfield 9, 0, 0), (.iload_n 2, 0, 0), (.iaload, 0, 0), (.if_icmp .lt 5, 19, 0), (.iconst 0, 0, 0), (.ireturn, 1, 0), (.aload_n 0, 0, 0), (.getfield 9, 0, 0), (.iload_n 2, 0, 0), (.aload_n 0, 0, 0), (.getfield 9, 0, 0), (.iload_n 1, 0, 0), (.iaload, 0, 0), (.iload 4, 0, 0), (.iadd, 0, 0), (.iastore, 0, 0), (.aload_n 0, 0, 0), (.getfield 15, 1, 0), (.iload_n 2, 0, 0), (.iload_n 3, 0, 0), (.iastore, 0, 0), (.aload_n 0, 0, 0), (.iload_n 2, 0, 0), (.putfield 60, 5, 0), (.iconst 1, 0, 1), (.ireturn, 1, 0)]
def jm_bp2 : List Nat := [0, 1, 4, 5, 6, 8, 11, 12, 15, 16, 17, 19, 20, 21, 24, 25, 26, 29, 30, 31, 32, 35, 36, 37, 40, 41, 42, 44, 45, 46, 47, 50, 51, 52, 53, 54, 55, 58, 59]
/-- X0_traceRing -/
def jm_cd3 : List (Instr × Nat × Int) := [(.aload_n 0, 0, 0), (.getfield 60, 5, 0), (.istore_n 2, 0, 0), (.iconst 0, 0, 0), (.istore_n 3, 0, 0), (.iload_n 3, 0, 0), (.aload_n 1, 0, 0), (.getfield 28, 14, 2), (.if_icmp .ge 16, 16, 0), (.aload_n 0, 0, 0), (.aload_n 1, 0, 0), (.iload_n 2, 0, 0), (.invokevirtual 63, 4, 0), (.istore_n 2, 0, 0), (.iinc 3 1, 0, 1), (.goto (-18), 5, 0), (.aload_n 0, 0, 0), (.iconst 0, 0, 0), (.putfield 67, 3, 0), (.aload_n 0, 0, 0), (.iconst 0, 0, 0), (.putfield 70, 4, 0), (.iload_n 2, 0, 0), (.istore_n 3, 0, 0), (.iconst 0, 0, 0), (.istore 4, 0, 0), (.iload 4, 0, 0), (.aload_n 1, 0, 0), (.getfield 28, 14, 2), (.if_icmp .ge 77, 72, 0), (.aload_n 0, 0, 0), (.getfield 18, 2, 0), (.aload_n 0, 0, 0), (.getfield 67, 3, 0), (.iload_n 3, 0, 0), (.iastore, 0, 0), (.aload_n 0, 0, 0), (.dup, 0, 0), (.getfield 67, 3, 0), (.iconst 1, 0, 1), (.iadd, 0, 0), (.putfield 67, 3, 0), (.aload_n 0, 0, 0), (.aload_n 1, 0, 0), (.iload_n 3, 0, 0), (.invokevirtual 63, 4, 0), (.istore 5, 0, 0), (.aload_n 0, 0, 0), (.dup, 0, 0), (.getfield 70, 4, 0), (.iload 5, 0, 0), (.iload_n 3, 0, 0), (.if_icmp .ne 7, 55, 0), (.iconst 0, 0, 0), (.goto 15, 62, 0), (.aload_n 1, 0, 0), (.aload_n 0, 0, 0), (.getfield 15, 1, 0), (.iload_n 3, 0, 0), (.iaload, 0, 0), (.iload 5, 0, 0), (.invokevirtual 73, 26, 0), (.iadd, 0, 0), (.putfield 70, 4, 0), (.iload 5, 0, 0), (.istore_n 3, 0, 0), (.iload_n 3, 0, 0), (.iload_n 2, 0, 0), (.if_icmp .ne 4, 70, 0), (.return_, 0, 0), (.iinc 4 1, 0, 1), (.goto (-80), 26, 0), (.return_, 0, 0)]
def jm_bp3 : List Nat := [0, 1, 4, 5, 6, 7, 8, 9, 12, 15, 16, 17, 18, 21, 22, 25, 28, 29, 30, 33, 34, 35, 38, 39, 40, 41, 43, 45, 46, 49, 52, 53, 56, 57, 60, 61, 62, 63, 64, 67, 68, 69, 72, 73, 74, 75, 78, 80, 81, 82, 85, 87, 88, 91, 92, 95, 96, 97, 100, 101, 102, 104, 107, 108, 111, 113, 114, 115, 116, 119, 120, 123, 126]
/-- X0_faceBefore -/
def jm_cd4 : List (Instr × Nat × Int) := [(.aload_n 0, 0, 0), (.getfield 15, 1, 0), (.iload_n 2, 0, 0), (.iaload, 0, 0), (.iconst (-1), 0, (-1)), (.if_icmp .ne 7, 8, 0), (.iload_n 2, 0, 0), (.goto 14, 15, 0), (.aload_n 1, 0, 0), (.aload_n 0, 0, 0), (.getfield 15, 1, 0), (.iload_n 2, 0, 0), (.iaload, 0, 0), (.iload_n 2, 0, 0), (.invokevirtual 77, 25, 0), (.ireturn, 0, 0)]
def jm_bp4 : List Nat := [0, 1, 4, 5, 6, 7, 10, 11, 14, 15, 16, 19, 20, 21, 22, 25]
/-- X1_least -/
def jm_cd5 : List (Instr × Nat × Int) := [(.aload_n 0, 0, 0), (.aload_n 1, 0, 0), (.iload_n 2, 0, 0), (.iload_n 3, 0, 0), (.invokevirtual 18, 6, 0), (.aload_n 0, 0, 0), (.getfield 9, 0, 1), (.ldc 22, 0, 2147483647), (.invokestatic 23, 215, 0), (.aload_n 0, 0, 0), (.getfield 9, 0, 1), (.bipush 72, 0, 72), (.iconst 0, 0, 0), (.iastore, 0, 0), (.iconst 1, 0, 1), (.istore 4, 0, 0), (.iconst 0, 0, 0), (.istore 5, 0, 0), (.iload 5, 0, 0), (.aload_n 1, 0, 0), (.getfield 29, 14, 2), (.iconst 1, 0, 1), (.iadd, 0, 0), (.if_icmp .gt 21, 32, 0), (.iload 4, 0, 0), (.ifCond .eq 16, 32, 0), (.aload_n 0, 0, 0), (.aload_n 1, 0, 0), (.invokevirtual 35, 7, 0), (.istore 4, 0, 0), (.iinc 5 1, 0, 1), (.goto (-26), 18, 0), (.aload_n 0, 0, 0), (.getfield 9, 0, 1), (.bipush 73, 0, 73), (.iaload, 0, 0), (.ireturn, 0, 0)]
def jm_bp5 : List Nat := [0, 1, 2, 3, 4, 7, 8, 11, 13, 16, 17, 20, 22, 23, 24, 25, 27, 28, 30, 32, 33, 36, 37, 38, 41, 43, 46, 47, 48, 51, 53, 56, 59, 60, 63, 65, 66]
/-- X1_markLeft -/
def jm_cd6 : List (Instr × Nat × Int) := [(.aload_n 0, 0, 0), (.getfield 15, 1, 1), (.iconst 0, 0, 0), (.invokestatic 23, 215, 0), (.aload_n 1, 0, 0), (.iload_n 2, 0, 0), (.invokevirtual 39, 23, 0), (.istore 4, 0, 0), (.iconst 0, 0, 0), (.istore 5, 0, 0), (.iload 5, 0, 0), (.aload_n 1, 0, 0), (.getfield 43, 16, 2), (.if_icmp .ge 59, 44, 0), (.iload 4, 0, 0), (.ifCond .lt 54, 44, 0), (.aload_n 1, 0, 0), (.getfield 46, 10, 2), (.iload 4, 0, 0), (.iaload, 0, 0), (.iload_n 3, 0, 0), (.if_icmp .eq 43, 44, 0), (.aload_n 0, 0, 0), (.getfield 15, 1, 1), (.aload_n 1, 0, 0), (.getfield 49, 11, 2), (.iload 4, 0, 0), (.iaload, 0, 0), (.iconst 1, 0, 1), (.iastore, 0, 0), (.iload 4, 0, 0), (.iconst 1, 0, 1), (.iadd, 0, 0), (.aload_n 1, 0, 0), (.getfield 43, 16, 2), (.if_icmp .ge 10, 40, 0), (.iload 4, 0, 0), (.iconst 1, 0, 1), (.iadd, 0, 0), (.goto 4, 41, 0), (.iconst 0, 0, 0), (.istore 4, 0, 0), (.iinc 5 1, 0, 1), (.goto (-62), 10, 0), (.return_, 0, 0)]
def jm_bp6 : List Nat := [0, 1, 4, 5, 8, 9, 10, 13, 15, 16, 18, 20, 21, 24, 27, 29, 32, 33, 36, 38, 39, 40, 43, 44, 47, 48, 51, 53, 54, 55, 56, 58, 59, 60, 61, 64, 67, 69, 70, 71, 74, 75, 77, 80, 83]
/-- X1_relaxAll -/
def jm_cd7 : List (Instr × Nat × Int) := [(.iconst 0, 0, 0), (.istore_n 2, 0, 0), (.iconst 0, 0, 0), (.istore_n 3, 0, 0), (.iload_n 3, 0, 0), (.aload_n 1, 0, 0), (.getfield 52, 13, 2), (.if_icmp .ge 83, 53, 0), (.aload_n 1, 0, 0), (.getfield 55, 3, 2), (.iload_n 3, 0, 0), (.iaload, 0, 0), (.istore 4, 0, 0), (.aload_n 0, 0, 0), (.aload_n 1, 0, 0), (.getfield 58, 6, 2), (.iload 4, 0, 0), (.iaload, 0, 0), (.iload 4, 0, 0), (.invokevirtual 61, 8, 0), (.istore 5, 0, 0), (.aload_n 0, 0, 0), (.aload_n 1, 0, 0), (.getfield 65, 7, 2), (.iload 4, 0, 0), (.iaload, 0, 0), (.iload 4, 0, 0), (.invokevirtual 61, 8, 0), (.istore 6, 0, 0), (.iload_n 2, 0, 0), (.aload_n 0, 0, 0), (.iload 5, 0, 0), (.iload 6, 0, 0), (.aload_n 1, 0, 0), (.getfield 68, 1, 2), (.iload 4, 0, 0), (.iaload, 0, 0), (.invokevirtual 71, 9, 0), (.ior, 0, 0), (.istore_n 2, 0, 0), (.iload_n 2, 0, 0), (.aload_n 0, 0, 0), (.iload 6, 0, 0), (.iload 5, 0, 0), (.aload_n 1, 0, 0), (.getfield 75, 2, 2), (.iload 4, 0, 0), (.iaload, 0, 0), (.invokevirtual 71, 9, 0), (.ior, 0, 0), (.istore_n 2, 0, 0), (.iinc 3 1, 0, 1), (.goto (-85), 4, 0), (.iload_n 2, 0, 0), (.ireturn, 1, 0)]
def jm_bp7 : List Nat := [0, 1, 2, 3, 4, 5, 6, 9, 12, 13, 16, 17, 18, 20, 21, 22, 25, 27, 28, 30, 33, 35, 36, 37, 40, 42, 43, 45, 48, 50, 51, 52, 54, 56, 57, 60, 62, 63, 66, 67, 68, 69, 70, 72, 74, 75, 78, 80, 81, 84, 85, 86, 89, 92, 93]
/-- X1_partOf -/
def jm_cd8 : List (Instr × Nat × Int) := [(.iload_n 1, 0, 0), (.bipush 72, 0, 72), (.if_icmp .ne 17, 10, 0), (.aload_n 0, 0, 0), (.getfield 15, 1, 1), (.iload_n 2, 0, 0), (.iaload, 0, 0), (.ifCond .ne 8, 10, 0), (.bipush 73, 0, 73), (.goto 4, 11, 0), (.iload_n 1, 0, 0), (.ireturn, 0, 0)]
def jm_bp8 : List Nat := [0, 1, 3, 6, 7, 10, 11, 12, 15, 17, 20, 21]
/-- X1_relax -/
def jm_cd9 : List (Instr × Nat × Int) := [(.aload_n 0, 0, 0), (.getfield 9, 0, 1), (.iload_n 1, 0, 0), (.iaload, 0, 0), (.ldc 22, 0, 2147483647), (.if_icmp .eq 20, 17, 0), (.aload_n 0, 0, 0), (.getfield 9, 0, 1), (.iload_n 1, 0, 0), (.iaload, 0, 0), (.iload_n 3, 0, 0), (.iadd, 0, 0), (.aload_n 0, 0, 0), (.getfield 9, 0, 1), (.iload_n 2, 0, 0), (.iaload, 0, 0), (.if_icmp .lt 5, 19, 0), (.iconst 0, 0, 0), (.ireturn, 1, 0), (.aload_n 0, 0, 0), (.getfield 9, 0, 1), (.iload_n 2, 0, 0), (.aload_n 0, 0, 0), (.getfield 9, 0, 1), (.iload_n 1, 0, 0), (.iaload, 0, 0), (.iload_n 3, 0, 0), (.iadd, 0, 0), (.iastore, 0, 0), (.iconst 1, 0, 1), (.ireturn, 1, 0)]
def jm_bp9 : List Nat := [0, 1, 4, 5, 6, 8, 11, 12, 15, 16, 17, 18, 19, 20, 23, 24, 25, 28, 29, 30, 31, 34, 35, 36, 39, 40, 41, 42, 43, 44, 45]
/-- X2_become -/
def jm_cd10 : List (Instr × Nat × Int) := [(.aload_n 0, 0, 0), (.getfield 12, 0, 2), (.aload_n 1, 0, 0), (.invokevirtual 57, 76, 0), (.aload_n 0, 0, 0), (.invokevirtual 54, 11, 0), (.return_, 0, 0)]
def jm_bp10 : List Nat := [0, 1, 4, 5, 8, 9, 12]
/-- X2_rebuild -/
def jm_cd11 : List (Instr × Nat × Int) := [(.aload_n 0, 0, 0), (.getfield 30, 4, 2), (.iconst (-1), 0, (-1)), (.invokestatic 61, 215, 0), (.aload_n 0, 0, 0), (.getfield 42, 8, 2), (.iconst 0, 0, 0), (.invokestatic 61, 215, 0), (.aload_n 0, 0, 0), (.getfield 45, 9, 2), (.iconst (-1), 0, (-1)), (.invokestatic 61, 215, 0), (.aload_n 0, 0, 0), (.aload_n 0, 0, 0), (.getfield 12, 0, 2), (.getfield 67, 4, 8), (.aload_n 0, 0, 0), (.getfield 12, 0, 2), (.getfield 71, 5, 8), (.imul, 0, 0), (.putfield 74, 12, 2), (.aload_n 0, 0, 0), (.iconst 0, 0, 0), (.putfield 77, 13, 2), (.aload_n 0, 0, 0), (.iconst 0, 0, 0), (.putfield 80, 15, 2), (.iconst 0, 0, 0), (.istore_n 1, 0, 0), (.iload_n 1, 0, 0), (.aload_n 0, 0, 0), (.getfield 12, 0, 2), (.getfield 71, 5, 8), (.if_icmp .ge 34, 49, 0), (.iconst 0, 0, 0), (.istore_n 2, 0, 0), (.iload_n 2, 0, 0), (.aload_n 0, 0, 0), (.getfield 12, 0, 2), (.getfield 67, 4, 8), (.if_icmp .ge 15, 47, 0), (.aload_n 0, 0, 0), (.iload_n 2, 0, 0), (.iload_n 1, 0, 0), (.invokevirtual 83, 12, 0), (.iinc 2 1, 0, 1), (.goto (-20), 36, 0), (.iinc 1 1, 0, 1), (.goto (-39), 29, 0), (.aload_n 0, 0, 0), (.aload_n 0, 0, 0), (.getfield 12, 0, 2), (.getfield 67, 4, 8), (.iconst 1, 0, 1), (.isub, 0, 0), (.aload_n 0, 0, 0), (.getfield 12, 0, 2), (.getfield 71, 5, 8), (.iconst 1, 0, 1), (.isub, 0, 0), (.imul, 0, 0), (.aload_n 0, 0, 0), (.getfield 80, 15, 2), (.iadd, 0, 0), (.iconst 1, 0, 1), (.iadd, 0, 0), (.putfield 87, 14, 2), (.aload_n 0, 0, 0), (.invokevirtual 90, 17, 0), (.return_, 0, 0)]
def jm_bp11 : List Nat := [0, 1, 4, 5, 8, 9, 12, 13, 16, 17, 20, 21, 24, 25, 26, 29, 32, 33, 36, 39, 40, 43, 44, 45, 48, 49, 50, 53, 54, 55, 56, 57, 60, 63, 66, 67, 68, 69, 70, 73, 76, 79, 80, 81, 82, 85, 88, 91, 94, 97, 98, 99, 102, 105, 106, 107, 108, 111, 114, 115, 116, 117, 118, 121, 122, 123, 124, 127, 128, 131]
def jm_cd12_0 : List (Instr × Nat × Int) := [(.aload_n 0, 0, 0), (.getfield 12, 0, 2), (.getfield 67, 4, 8), (.istore_n 3, 0, 0), (.iload_n 2, 0, 0), (.iload_n 3, 0, 0), (.imul, 0, 0), (.iload_n 1, 0, 0), (.iadd, 0, 0), (.istore 4, 0, 0), (.aload_n 0, 0, 0), (.getfield 12, 0, 2), (.iconst 0, 0, 0), (.iload_n 1, 0, 0), (.iload_n 2, 0, 0), (.invokevirtual 93, 80, 0), (.ifCond .eq 65, 52, 0), (.iload_n 2, 0, 0), (.ifCond .le 14, 25, 0), (.aload_n 0, 0, 0), (.iload 4, 0, 0), (.iload_n 3, 0, 0), (.isub, 0, 0), (.invokevirtual 97, 13, 0), (.goto 5, 26, 0), (.bipush 72, 0, 72), (.istore 5, 0, 0), (.iload_n 2, 0, 0), (.aload_n 0, 0, 0), (.getfield 12, 0, 2), (.getfield 71, 5, 8), (.iconst 1, 0, 1), (.isub, 0, 0), (.if_icmp .ge 10, 38, 0), (.iconst 2, 0, 2), (.iload 4, 0, 0), (.imul, 0, 0), (.goto 5, 39, 0), (.bipush 72, 0, 72), (.istore 6, 0, 0), (.aload_n 0, 0, 0), (.iconst 3, 0, 3), (.iload 4, 0, 0), (.imul, 0, 0), (.iload 4, 0, 0), (.iload 4, 0, 0), (.iconst 1, 0, 1), (.iadd, 0, 0), (.iconst 2, 0, 2), (.iload 5, 0, 0), (.iload 6, 0, 0), (.invokevirtual 101, 16, 0), (.aload_n 0, 0, 0), (.getfield 12, 0, 2), (.iconst 1, 0, 1), (.iload_n 1, 0, 0), (.iload_n 2, 0, 0), (.invokevirtual 93, 80, 0), (.ifCond .eq 63, 94, 0), (.iload_n 1, 0, 0), (.iload_n 3, 0, 0), (.iconst 1, 0, 1), (.isub, 0, 0), (.if_icmp .ge 12, 68, 0), (.aload_n 0, 0, 0), (.iload 4, 0, 0), (.invokevirtual 105, 14, 0), (.goto 5, 69, 0), (.bipush 72, 0, 72), (.istore 5, 0, 0), (.iload_n 1, 0, 0), (.ifCond .le 14, 78, 0), (.aload_n 0, 0, 0), (.iload 4, 0, 0), (.iconst 1, 0, 1), (.isub, 0, 0), (.invokevirtual 108, 15, 0), (.goto 5, 79, 0), (.bipush 72, 0, 72), (.istore 6, 0, 0), (.aload_n 0, 0, 0), (.iconst 3, 0, 3), (.iload 4, 0, 0), (.imul, 0, 0), (.iconst 1, 0, 1), (.iadd, 0, 0), (.iload 4, 0, 0), (.iload 4, 0, 0), (.iload_n 3, 0, 0), (.iadd, 0, 0), (.iconst 4, 0, 4), (.iload 5, 0, 0), (.iload 6, 0, 0), (.invokevirtual 101, 16, 0), (.aload_n 0, 0, 0), (.getfield 12, 0, 2), (.iconst 2, 0, 2), (.iload_n 1, 0, 0), (.iload_n 2, 0, 0), (.invokevirtual 93, 80, 0)]
def jm_cd12_1 : List (Instr × Nat × Int) := [(.ifCond .eq 16, 107, 0), (.aload_n 0, 0, 0), (.getfield 12, 0, 2), (.getfield 111, 0, 8), (.iload 4, 0, 0), (.iaload, 0, 0), (.ifCond .ne 4, 108, 0), (.return_, 0, 0), (.aload_n 0, 0, 0), (.dup, 0, 0), (.getfield 80, 15, 2), (.iconst 1, 0, 1), (.iadd, 0, 0), (.putfield 80, 15, 2), (.aload_n 0, 0, 0), (.getfield 12, 0, 2), (.getfield 111, 0, 8), (.iload 4, 0, 0), (.iaload, 0, 0), (.iconst 1, 0, 1), (.if_icmp .ne 35, 144, 0), (.aload_n 0, 0, 0), (.iconst 3, 0, 3), (.iload 4, 0, 0), (.imul, 0, 0), (.iconst 2, 0, 2), (.iadd, 0, 0), (.iload 4, 0, 0), (.iload 4, 0, 0), (.iload_n 3, 0, 0), (.iadd, 0, 0), (.iconst 1, 0, 1), (.iadd, 0, 0), (.iconst 3, 0, 3), (.iconst 2, 0, 2), (.iload 4, 0, 0), (.imul, 0, 0), (.iconst 2, 0, 2), (.iload 4, 0, 0), (.imul, 0, 0), (.iconst 1, 0, 1), (.iadd, 0, 0), (.invokevirtual 101, 16, 0), (.goto 32, 166, 0), (.aload_n 0, 0, 0), (.iconst 3, 0, 3), (.iload 4, 0, 0), (.imul, 0, 0), (.iconst 2, 0, 2), (.iadd, 0, 0), (.iload 4, 0, 0), (.iconst 1, 0, 1), (.iadd, 0, 0), (.iload 4, 0, 0), (.iload_n 3, 0, 0), (.iadd, 0, 0), (.iconst 5, 0, 5), (.iconst 2, 0, 2), (.iload 4, 0, 0), (.imul, 0, 0), (.iconst 1, 0, 1), (.iadd, 0, 0), (.iconst 2, 0, 2), (.iload 4, 0, 0), (.imul, 0, 0), (.invokevirtual 101, 16, 0), (.return_, 0, 0)]
/-- X2_placeEdges -/
def jm_cd12 : List (Instr × Nat × Int) := jm_cd12_0 ++ jm_cd12_1
def jm_bp12 : List Nat := [0, 1, 4, 7, 8, 9, 10, 11, 12, 13, 15, 16, 19, 20, 21, 22, 25, 28, 29, 32, 33, 35, 36, 37, 40, 43, 45, 47, 48, 49, 52, 55, 56, 57, 60, 61, 63, 64, 67, 69, 71, 72, 73, 75, 76, 78, 80, 81, 82, 83, 85, 87, 90, 91, 94, 95, 96, 97, 100, 103, 104, 105, 106, 107, 110, 111, 113, 116, 119, 121, 123, 124, 127, 128, 130, 131, 132, 135, 138, 140, 142, 143, 144, 146, 147, 148, 149, 151, 153, 154, 155, 156, 158, 160, 163, 164, 167, 168, 169, 170, 173, 176, 177, 180, 183, 185, 186, 189, 190, 191, 192, 195, 196, 197, 200, 201, 204, 207, 209, 210, 211, 214, 215, 216, 218, 219, 220, 221, 223, 225, 226, 227, 228, 229, 230, 231, 233, 234, 235, 237, 238, 239, 240, 243, 246, 247, 248, 250, 251, 252, 253, 255, 256, 257, 259, 260, 261, 262, 263, 265, 266, 267, 268, 269, 271, 272, 275]
/-- X2_lowerFace -/
def jm_cd13 : List (Instr × Nat × Int) := [(.aload_n 0, 0, 0), (.getfield 12, 0, 2), (.getfield 111, 0, 8), (.iload_n 1, 0, 0), (.iaload, 0, 0), (.ifCond .ne 9, 10, 0), (.iconst 2, 0, 2), (.iload_n 1, 0, 0), (.imul, 0, 0), (.goto 8, 15, 0), (.iconst 2, 0, 2), (.iload_n 1, 0, 0), (.imul, 0, 0), (.iconst 1, 0, 1), (.iadd, 0, 0), (.ireturn, 0, 0)]
def jm_bp13 : List Nat := [0, 1, 4, 7, 8, 9, 12, 13, 14, 15, 18, 19, 20, 21, 22, 23]
/-- X2_westFace -/
def jm_cd14 : List (Instr × Nat × Int) := [(.aload_n 0, 0, 0), (.getfield 12, 0, 2), (.getfield 111, 0, 8), (.iload_n 1, 0, 0), (.iaload, 0, 0), (.iconst 1, 0, 1), (.if_icmp .ne 11, 13, 0), (.iconst 2, 0, 2), (.iload_n 1, 0, 0), (.imul, 0, 0), (.iconst 1, 0, 1), (.iadd, 0, 0), (.goto 6, 16, 0), (.iconst 2, 0, 2), (.iload_n 1, 0, 0), (.imul, 0, 0), (.ireturn, 0, 0)]
def jm_bp14 : List Nat := [0, 1, 4, 7, 8, 9, 10, 13, 14, 15, 16, 17, 18, 21, 22, 23, 24]
/-- X2_eastFace -/
def jm_cd15 : List (Instr × Nat × Int) := [(.aload_n 0, 0, 0), (.getfield 12, 0, 2), (.getfield 111, 0, 8), (.iload_n 1, 0, 0), (.iaload, 0, 0), (.iconst 2, 0, 2), (.if_icmp .ne 11, 13, 0), (.iconst 2, 0, 2), (.iload_n 1, 0, 0), (.imul, 0, 0), (.iconst 1, 0, 1), (.iadd, 0, 0), (.goto 6, 16, 0), (.iconst 2, 0, 2), (.iload_n 1, 0, 0), (.imul, 0, 0), (.ireturn, 0, 0)]
def jm_bp15 : List Nat := [0, 1, 4, 7, 8, 9, 10, 13, 14, 15, 16, 17, 18, 21, 22, 23, 24]
/-- X2_place -/
def jm_cd16 : List (Instr × Nat × Int) := [(.aload_n 0, 0, 0), (.getfield 30, 4, 2), (.iload_n 1, 0, 0), (.iload_n 2, 0, 0), (.iastore, 0, 0), (.aload_n 0, 0, 0), (.getfield 33, 5, 2), (.iload_n 1, 0, 0), (.iload_n 3, 0, 0), (.iastore, 0, 0), (.aload_n 0, 0, 0), (.getfield 36, 6, 2), (.iload_n 1, 0, 0), (.iload 5, 0, 0), (.iastore, 0, 0), (.aload_n 0, 0, 0), (.getfield 39, 7, 2), (.iload_n 1, 0, 0), (.iload 6, 0, 0), (.iastore, 0, 0), (.aload_n 0, 0, 0), (.getfield 42, 8, 2), (.iload 5, 0, 0), (.dup2, 0, 0), (.iaload, 0, 0), (.iconst 1, 0, 1), (.iadd, 0, 0), (.iastore, 0, 0), (.aload_n 0, 0, 0), (.getfield 42, 8, 2), (.iload 6, 0, 0), (.dup2, 0, 0), (.iaload, 0, 0), (.iconst 1, 0, 1), (.iadd, 0, 0), (.iastore, 0, 0), (.aload_n 0, 0, 0), (.getfield 45, 9, 2), (.iload_n 2, 0, 0), (.bipush 8, 0, 8), (.imul, 0, 0), (.iload 4, 0, 0), (.iadd, 0, 0), (.iload_n 1, 0, 0), (.iastore, 0, 0), (.aload_n 0, 0, 0), (.getfield 45, 9, 2), (.iload_n 3, 0, 0), (.bipush 8, 0, 8), (.imul, 0, 0), (.iload 4, 0, 0), (.iconst 4, 0, 4), (.iadd, 0, 0), (.bipush 8, 0, 8), (.irem, 0, 0), (.iadd, 0, 0), (.iload_n 1, 0, 0), (.iastore, 0, 0), (.aload_n 0, 0, 0), (.getfield 27, 3, 2), (.aload_n 0, 0, 0), (.getfield 77, 13, 2), (.iload_n 1, 0, 0), (.iastore, 0, 0), (.aload_n 0, 0, 0), (.dup, 0, 0), (.getfield 77, 13, 2), (.iconst 1, 0, 1), (.iadd, 0, 0), (.putfield 77, 13, 2), (.return_, 0, 0)]
def jm_bp16 : List Nat := [0, 1, 4, 5, 6, 7, 8, 11, 12, 13, 14, 15, 18, 19, 21, 22, 23, 26, 27, 29, 30, 31, 34, 36, 37, 38, 39, 40, 41, 42, 45, 47, 48, 49, 50, 51, 52, 53, 56, 57, 59, 60, 62, 63, 64, 65, 66, 69, 70, 72, 73, 75, 76, 77, 79, 80, 81, 82, 83, 84, 87, 88, 91, 92, 93, 94, 95, 98, 99, 100, 103]
/-- X2_walkRim -/
def jm_cd17 : List (Instr × Nat × Int) := [(.aload_n 0, 0, 0), (.getfield 12, 0, 2), (.getfield 67, 4, 8), (.istore_n 1, 0, 0), (.aload_n 0, 0, 0), (.getfield 12, 0, 2), (.getfield 71, 5, 8), (.istore_n 2, 0, 0), (.aload_n 0, 0, 0), (.iconst 0, 0, 0), (.putfield 114, 16, 2), (.iconst 0, 0, 0), (.istore_n 3, 0, 0), (.iload_n 3, 0, 0), (.iload_n 1, 0, 0), (.iconst 1, 0, 1), (.isub, 0, 0), (.if_icmp .ge 17, 26, 0), (.aload_n 0, 0, 0), (.iload_n 3, 0, 0), (.iconst 3, 0, 3), (.iload_n 3, 0, 0), (.imul, 0, 0), (.invokevirtual 117, 18, 0), (.iinc 3 1, 0, 1), (.goto (-18), 13, 0), (.iconst 0, 0, 0), (.istore_n 3, 0, 0), (.iload_n 3, 0, 0), (.iload_n 2, 0, 0), (.iconst 1, 0, 1), (.isub, 0, 0), (.if_icmp .ge 30, 51, 0), (.iload_n 3, 0, 0), (.iload_n 1, 0, 0), (.imul, 0, 0), (.iload_n 1, 0, 0), (.iadd, 0, 0), (.iconst 1, 0, 1), (.isub, 0, 0), (.istore 4, 0, 0), (.aload_n 0, 0, 0), (.iload 4, 0, 0), (.iconst 3, 0, 3), (.iload 4, 0, 0), (.imul, 0, 0), (.iconst 1, 0, 1), (.iadd, 0, 0), (.invokevirtual 117, 18, 0), (.iinc 3 1, 0, 1), (.goto (-31), 28, 0), (.iload_n 1, 0, 0), (.iconst 1, 0, 1), (.isub, 0, 0), (.istore_n 3, 0, 0), (.iload_n 3, 0, 0), (.ifCond .le 30, 75, 0), (.iload_n 2, 0, 0), (.iconst 1, 0, 1), (.isub, 0, 0), (.iload_n 1, 0, 0), (.imul, 0, 0), (.iload_n 3, 0, 0), (.iadd, 0, 0), (.istore 4, 0, 0), (.aload_n 0, 0, 0), (.iload 4, 0, 0), (.iconst 3, 0, 3), (.iload 4, 0, 0), (.iconst 1, 0, 1), (.isub, 0, 0), (.imul, 0, 0), (.invokevirtual 117, 18, 0), (.iinc 3 (-1), 0, (-1)), (.goto (-28), 55, 0), (.iload_n 2, 0, 0), (.iconst 1, 0, 1), (.isub, 0, 0), (.istore_n 3, 0, 0), (.iload_n 3, 0, 0), (.ifCond .le 25, 97, 0), (.aload_n 0, 0, 0), (.iload_n 3, 0, 0), (.iload_n 1, 0, 0), (.imul, 0, 0), (.iconst 3, 0, 3), (.iload_n 3, 0, 0), (.iconst 1, 0, 1), (.isub, 0, 0), (.imul, 0, 0), (.iload_n 1, 0, 0), (.imul, 0, 0), (.iconst 1, 0, 1), (.iadd, 0, 0), (.invokevirtual 117, 18, 0), (.iinc 3 (-1), 0, (-1)), (.goto (-23), 79, 0), (.return_, 0, 0)]
def jm_bp17 : List Nat := [0, 1, 4, 7, 8, 9, 12, 15, 16, 17, 18, 21, 22, 23, 24, 25, 26, 27, 30, 31, 32, 33, 34, 35, 38, 41, 44, 45, 46, 47, 48, 49, 50, 53, 54, 55, 56, 57, 58, 59, 60, 62, 63, 65, 66, 68, 69, 70, 71, 74, 77, 80, 81, 82, 83, 84, 85, 88, 89, 90, 91, 92, 93, 94, 95, 97, 98, 100, 101, 103, 104, 105, 106, 109, 112, 115, 116, 117, 118, 119, 120, 123, 124, 125, 126, 127, 128, 129, 130, 131, 132, 133, 134, 135, 136, 139, 142, 145]
/-- X2_addToRim -/
def jm_cd18 : List (Instr × Nat × Int) := [(.aload_n 0, 0, 0), (.getfield 48, 10, 2), (.aload_n 0, 0, 0), (.getfield 114, 16, 2), (.iload_n 1, 0, 0), (.iastore, 0, 0), (.aload_n 0, 0, 0), (.getfield 51, 11, 2), (.aload_n 0, 0, 0), (.getfield 114, 16, 2), (.iload_n 2, 0, 0), (.iastore, 0, 0), (.aload_n 0, 0, 0), (.dup, 0, 0), (.getfield 114, 16, 2), (.iconst 1, 0, 1), (.iadd, 0, 0), (.putfield 114, 16, 2), (.return_, 0, 0)]
def jm_bp18 : List Nat := [0, 1, 4, 5, 8, 9, 10, 11, 14, 15, 18, 19, 20, 21, 22, 25, 26, 27, 30]
/-- X2_hasNode -/
def jm_cd19 : List (Instr × Nat × Int) := [(.iload_n 1, 0, 0), (.ifCond .lt 15, 8, 0), (.iload_n 1, 0, 0), (.aload_n 0, 0, 0), (.getfield 74, 12, 2), (.if_icmp .ge 7, 8, 0), (.iconst 1, 0, 1), (.goto 4, 9, 0), (.iconst 0, 0, 0), (.ireturn, 1, 0)]
def jm_bp19 : List Nat := [0, 1, 4, 5, 6, 9, 12, 13, 16, 17]
/-- X2_hasEdge -/
def jm_cd20 : List (Instr × Nat × Int) := [(.iload_n 1, 0, 0), (.ifCond .lt 23, 13, 0), (.iload_n 1, 0, 0), (.bipush 108, 0, 108), (.if_icmp .ge 17, 13, 0), (.aload_n 0, 0, 0), (.getfield 30, 4, 2), (.iload_n 1, 0, 0), (.iaload, 0, 0), (.iconst (-1), 0, (-1)), (.if_icmp .eq 7, 13, 0), (.iconst 1, 0, 1), (.goto 4, 14, 0), (.iconst 0, 0, 0), (.ireturn, 1, 0)]
def jm_bp20 : List Nat := [0, 1, 4, 5, 7, 10, 11, 14, 15, 16, 17, 20, 21, 24, 25]
/-- X2_hasFace -/
def jm_cd21 : List (Instr × Nat × Int) := [(.iload_n 1, 0, 0), (.ifCond .lt 22, 12, 0), (.iload_n 1, 0, 0), (.bipush 73, 0, 73), (.if_icmp .ge 16, 12, 0), (.aload_n 0, 0, 0), (.getfield 42, 8, 2), (.iload_n 1, 0, 0), (.iaload, 0, 0), (.ifCond .le 7, 12, 0), (.iconst 1, 0, 1), (.goto 4, 13, 0), (.iconst 0, 0, 0), (.ireturn, 1, 0)]
def jm_bp21 : List Nat := [0, 1, 4, 5, 7, 10, 11, 14, 15, 16, 19, 20, 23, 24]
/-- X2_hasCell -/
def jm_cd22 : List (Instr × Nat × Int) := [(.iload_n 1, 0, 0), (.ifCond .lt 24, 14, 0), (.iload_n 1, 0, 0), (.bipush 36, 0, 36), (.if_icmp .ge 18, 14, 0), (.aload_n 0, 0, 0), (.getfield 42, 8, 2), (.iconst 2, 0, 2), (.iload_n 1, 0, 0), (.imul, 0, 0), (.iaload, 0, 0), (.ifCond .le 7, 14, 0), (.iconst 1, 0, 1), (.goto 4, 15, 0), (.iconst 0, 0, 0), (.ireturn, 1, 0)]
def jm_bp22 : List Nat := [0, 1, 4, 5, 7, 10, 11, 14, 15, 16, 17, 18, 21, 22, 25, 26]
/-- X2_rimIndex -/
def jm_cd23 : List (Instr × Nat × Int) := [(.iconst 0, 0, 0), (.istore_n 2, 0, 0), (.iload_n 2, 0, 0), (.aload_n 0, 0, 0), (.getfield 114, 16, 2), (.if_icmp .ge 21, 16, 0), (.aload_n 0, 0, 0), (.getfield 48, 10, 2), (.iload_n 2, 0, 0), (.iaload, 0, 0), (.iload_n 1, 0, 0), (.if_icmp .ne 5, 14, 0), (.iload_n 2, 0, 0), (.ireturn, 0, 0), (.iinc 2 1, 0, 1), (.goto (-23), 2, 0), (.iconst (-1), 0, (-1)), (.ireturn, 0, 0)]
def jm_bp23 : List Nat := [0, 1, 2, 3, 4, 7, 10, 11, 14, 15, 16, 17, 20, 21, 22, 25, 28, 29]
/-- X2_endBeyond -/
def jm_cd24 : List (Instr × Nat × Int) := [(.aload_n 0, 0, 0), (.getfield 30, 4, 2), (.iload_n 1, 0, 0), (.iaload, 0, 0), (.iload_n 2, 0, 0), (.if_icmp .ne 12, 11, 0), (.aload_n 0, 0, 0), (.getfield 33, 5, 2), (.iload_n 1, 0, 0), (.iaload, 0, 0), (.goto 9, 15, 0), (.aload_n 0, 0, 0), (.getfield 30, 4, 2), (.iload_n 1, 0, 0), (.iaload, 0, 0), (.ireturn, 0, 0)]
def jm_bp24 : List Nat := [0, 1, 4, 5, 6, 7, 10, 11, 14, 15, 16, 19, 20, 23, 24, 25]
/-- X2_faceBeyond -/
def jm_cd25 : List (Instr × Nat × Int) := [(.aload_n 0, 0, 0), (.getfield 36, 6, 2), (.iload_n 1, 0, 0), (.iaload, 0, 0), (.iload_n 2, 0, 0), (.if_icmp .ne 12, 11, 0), (.aload_n 0, 0, 0), (.getfield 39, 7, 2), (.iload_n 1, 0, 0), (.iaload, 0, 0), (.goto 9, 15, 0), (.aload_n 0, 0, 0), (.getfield 36, 6, 2), (.iload_n 1, 0, 0), (.iaload, 0, 0), (.ireturn, 0, 0)]
def jm_bp25 : List Nat := [0, 1, 4, 5, 6, 7, 10, 11, 14, 15, 16, 19, 20, 23, 24, 25]
/-- X2_costFrom -/
def jm_cd26 : List (Instr × Nat × Int) := [(.aload_n 0, 0, 0), (.getfield 36, 6, 2), (.iload_n 1, 0, 0), (.iaload, 0, 0), (.iload_n 2, 0, 0), (.if_icmp .ne 12, 11, 0), (.aload_n 0, 0, 0), (.getfield 22, 1, 2), (.iload_n 1, 0, 0), (.iaload, 0, 0), (.goto 9, 15, 0), (.aload_n 0, 0, 0), (.getfield 26, 2, 2), (.iload_n 1, 0, 0), (.iaload, 0, 0), (.ireturn, 0, 0)]
def jm_bp26 : List Nat := [0, 1, 4, 5, 6, 7, 10, 11, 14, 15, 16, 19, 20, 23, 24, 25]
/-- X2_bounds -/
def jm_cd27 : List (Instr × Nat × Int) := [(.aload_n 0, 0, 0), (.getfield 36, 6, 2), (.iload_n 1, 0, 0), (.iaload, 0, 0), (.iload_n 2, 0, 0), (.if_icmp .eq 13, 12, 0), (.aload_n 0, 0, 0), (.getfield 39, 7, 2), (.iload_n 1, 0, 0), (.iaload, 0, 0), (.iload_n 2, 0, 0), (.if_icmp .ne 7, 14, 0), (.iconst 1, 0, 1), (.goto 4, 15, 0), (.iconst 0, 0, 0), (.ireturn, 1, 0)]
def jm_bp27 : List Nat := [0, 1, 4, 5, 6, 7, 10, 11, 14, 15, 16, 17, 20, 21, 24, 25]
/-- X2_isAtFace -/
def jm_cd28 : List (Instr × Nat × Int) := [(.iconst 0, 0, 0), (.istore_n 3, 0, 0), (.iload_n 3, 0, 0), (.aload_n 0, 0, 0), (.getfield 77, 13, 2), (.if_icmp .ge 51, 32, 0), (.aload_n 0, 0, 0), (.getfield 27, 3, 2), (.iload_n 3, 0, 0), (.iaload, 0, 0), (.istore 4, 0, 0), (.aload_n 0, 0, 0), (.iload 4, 0, 0), (.iload_n 2, 0, 0), (.invokevirtual 120, 27, 0), (.ifCond .eq 27, 30, 0), (.aload_n 0, 0, 0), (.getfield 30, 4, 2), (.iload 4, 0, 0), (.iaload, 0, 0), (.iload_n 1, 0, 0), (.if_icmp .eq 14, 28, 0), (.aload_n 0, 0, 0), (.getfield 33, 5, 2), (.iload 4, 0, 0), (.iaload, 0, 0), (.iload_n 1, 0, 0), (.if_icmp .ne 5, 30, 0), (.iconst 1, 0, 1), (.ireturn, 1, 0), (.iinc 3 1, 0, 1), (.goto (-53), 2, 0), (.iconst 0, 0, 0), (.ireturn, 1, 0)]
def jm_bp28 : List Nat := [0, 1, 2, 3, 4, 7, 10, 11, 14, 15, 16, 18, 19, 21, 22, 25, 28, 29, 32, 34, 35, 36, 39, 40, 43, 45, 46, 47, 50, 51, 52, 55, 58, 59]
/-- X2_allBorne -/
def jm_cd29 : List (Instr × Nat × Int) := [(.iconst 0, 0, 0), (.istore_n 1, 0, 0), (.iconst 0, 0, 0), (.istore_n 2, 0, 0), (.iload_n 2, 0, 0), (.aload_n 0, 0, 0), (.getfield 77, 13, 2), (.if_icmp .ge 35, 28, 0), (.iload_n 1, 0, 0), (.aload_n 0, 0, 0), (.getfield 22, 1, 2), (.aload_n 0, 0, 0), (.getfield 27, 3, 2), (.iload_n 2, 0, 0), (.iaload, 0, 0), (.iaload, 0, 0), (.aload_n 0, 0, 0), (.getfield 26, 2, 2), (.aload_n 0, 0, 0), (.getfield 27, 3, 2), (.iload_n 2, 0, 0), (.iaload, 0, 0), (.iaload, 0, 0), (.iadd, 0, 0), (.iadd, 0, 0), (.istore_n 1, 0, 0), (.iinc 2 1, 0, 1), (.goto (-37), 4, 0), (.iload_n 1, 0, 0), (.ireturn, 0, 0)]
def jm_bp29 : List Nat := [0, 1, 2, 3, 4, 5, 6, 9, 12, 13, 14, 17, 18, 21, 22, 23, 24, 25, 28, 29, 32, 33, 34, 35, 36, 37, 38, 41, 44, 45]
/-- X2_allSupplied -/
def jm_cd30 : List (Instr × Nat × Int) := [(.iconst 0, 0, 0), (.istore_n 2, 0, 0), (.iconst 0, 0, 0), (.istore_n 3, 0, 0), (.iload_n 3, 0, 0), (.aload_n 0, 0, 0), (.getfield 74, 12, 2), (.if_icmp .ge 27, 22, 0), (.iload_n 2, 0, 0), (.iconst 0, 0, 0), (.iload_n 1, 0, 0), (.aload_n 0, 0, 0), (.getfield 12, 0, 2), (.getfield 124, 3, 8), (.iload_n 3, 0, 0), (.iaload, 0, 0), (.imul, 0, 0), (.invokestatic 127, 904, 0), (.iadd, 0, 0), (.istore_n 2, 0, 0), (.iinc 3 1, 0, 1), (.goto (-29), 4, 0), (.iload_n 2, 0, 0), (.ireturn, 0, 0)]
def jm_bp30 : List Nat := [0, 1, 2, 3, 4, 5, 6, 9, 12, 13, 14, 15, 16, 19, 22, 23, 24, 25, 28, 29, 30, 33, 36, 37]
/-- X3_divide -/
def jm_cd31 : List (Instr × Nat × Int) := [(.aload_n 0, 0, 0), (.getfield 9, 0, 3), (.iconst 0, 0, 0), (.invokestatic 18, 215, 0), (.aload_n 0, 0, 0), (.iload_n 3, 0, 0), (.ifCond .ne 7, 9, 0), (.iconst 1, 0, 1), (.goto 4, 10, 0), (.iconst 0, 0, 0), (.putfield 24, 2, 3), (.aload_n 0, 0, 0), (.getfield 9, 0, 3), (.aload_n 0, 0, 0), (.getfield 24, 2, 3), (.ifCond .eq 10, 19, 0), (.aload_n 2, 0, 0), (.getfield 28, 5, 6), (.goto 7, 21, 0), (.aload_n 2, 0, 0), (.getfield 34, 6, 6), (.iconst 1, 0, 1), (.iastore, 0, 0), (.iconst 1, 0, 1), (.istore 4, 0, 0), (.iconst 0, 0, 0), (.istore 5, 0, 0), (.iload 5, 0, 0), (.bipush 36, 0, 36), (.if_icmp .ge 22, 39, 0), (.iload 4, 0, 0), (.ifCond .eq 17, 39, 0), (.aload_n 0, 0, 0), (.aload_n 1, 0, 0), (.aload_n 2, 0, 0), (.invokevirtual 37, 32, 0), (.istore 4, 0, 0), (.iinc 5 1, 0, 1), (.goto (-23), 27, 0), (.return_, 0, 0)]
def jm_bp31 : List Nat := [0, 1, 4, 5, 8, 9, 10, 13, 14, 17, 18, 21, 22, 25, 26, 29, 32, 33, 36, 39, 40, 43, 44, 45, 46, 48, 49, 51, 53, 55, 58, 60, 63, 64, 65, 66, 69, 71, 74, 77]
/-- X3_spread -/
def jm_cd32 : List (Instr × Nat × Int) := [(.iconst 0, 0, 0), (.istore_n 3, 0, 0), (.iconst 0, 0, 0), (.istore 4, 0, 0), (.iload 4, 0, 0), (.aload_n 1, 0, 0), (.getfield 41, 13, 2), (.if_icmp .ge 116, 69, 0), (.aload_n 1, 0, 0), (.getfield 46, 3, 2), (.iload 4, 0, 0), (.iaload, 0, 0), (.istore 5, 0, 0), (.aload_n 1, 0, 0), (.getfield 49, 4, 2), (.iload 5, 0, 0), (.iaload, 0, 0), (.istore 6, 0, 0), (.aload_n 1, 0, 0), (.getfield 52, 5, 2), (.iload 5, 0, 0), (.iaload, 0, 0), (.istore 7, 0, 0), (.aload_n 0, 0, 0), (.getfield 9, 0, 3), (.iload 6, 0, 0), (.iaload, 0, 0), (.aload_n 0, 0, 0), (.getfield 9, 0, 3), (.iload 7, 0, 0), (.iaload, 0, 0), (.if_icmp .ne 6, 33, 0), (.goto 63, 67, 0), (.aload_n 0, 0, 0), (.getfield 9, 0, 3), (.iload 6, 0, 0), (.iaload, 0, 0), (.iconst 1, 0, 1), (.if_icmp .ne 7, 41, 0), (.iconst 1, 0, 1), (.goto 4, 42, 0), (.iconst 0, 0, 0), (.aload_n 0, 0, 0), (.getfield 24, 2, 3), (.if_icmp .ne 7, 47, 0), (.iconst 1, 0, 1), (.goto 4, 48, 0), (.iconst 0, 0, 0), (.istore 8, 0, 0), (.aload_n 2, 0, 0), (.aload_n 1, 0, 0), (.iload 5, 0, 0), (.iload 8, 0, 0), (.invokevirtual 55, 60, 0), (.ifCond .le 21, 67, 0), (.aload_n 0, 0, 0), (.getfield 9, 0, 3), (.iload 6, 0, 0), (.iconst 1, 0, 1), (.iastore, 0, 0), (.aload_n 0, 0, 0), (.getfield 9, 0, 3), (.iload 7, 0, 0), (.iconst 1, 0, 1), (.iastore, 0, 0), (.iconst 1, 0, 1), (.istore_n 3, 0, 0), (.iinc 4 1, 0, 1), (.goto (-119), 4, 0), (.iload_n 3, 0, 0), (.ireturn, 1, 0)]
def jm_bp32 : List Nat := [0, 1, 2, 3, 5, 7, 8, 11, 14, 15, 18, 20, 21, 23, 24, 27, 29, 30, 32, 33, 36, 38, 39, 41, 42, 45, 47, 48, 49, 52, 54, 55, 58, 61, 62, 65, 67, 68, 69, 72, 73, 76, 77, 78, 81, 84, 85, 88, 89, 91, 92, 93, 95, 97, 100, 103, 104, 107, 109, 110, 111, 112, 115, 117, 118, 119, 120, 121, 124, 127, 128]
/-- X3_parts -/
def jm_cd33 : List (Instr × Nat × Int) := [(.aload_n 0, 0, 0), (.getfield 9, 0, 3), (.aload_n 1, 0, 0), (.getfield 49, 4, 2), (.iload_n 2, 0, 0), (.iaload, 0, 0), (.iaload, 0, 0), (.aload_n 0, 0, 0), (.getfield 9, 0, 3), (.aload_n 1, 0, 0), (.getfield 52, 5, 2), (.iload_n 2, 0, 0), (.iaload, 0, 0), (.iaload, 0, 0), (.if_icmp .eq 7, 17, 0), (.iconst 1, 0, 1), (.goto 4, 18, 0), (.iconst 0, 0, 0), (.ireturn, 1, 0)]
def jm_bp33 : List Nat := [0, 1, 4, 5, 8, 9, 10, 11, 12, 15, 16, 19, 20, 21, 22, 25, 26, 29, 30]
/-- X3_size -/
def jm_cd34 : List (Instr × Nat × Int) := [(.iconst 0, 0, 0), (.istore_n 2, 0, 0), (.iconst 0, 0, 0), (.istore_n 3, 0, 0), (.iload_n 3, 0, 0), (.aload_n 1, 0, 0), (.getfield 41, 13, 2), (.if_icmp .ge 31, 24, 0), (.iload_n 2, 0, 0), (.aload_n 0, 0, 0), (.aload_n 1, 0, 0), (.aload_n 1, 0, 0), (.getfield 46, 3, 2), (.iload_n 3, 0, 0), (.iaload, 0, 0), (.invokevirtual 59, 33, 0), (.ifCond .eq 7, 19, 0), (.iconst 1, 0, 1), (.goto 4, 20, 0), (.iconst 0, 0, 0), (.iadd, 0, 0), (.istore_n 2, 0, 0), (.iinc 3 1, 0, 1), (.goto (-33), 4, 0), (.iload_n 2, 0, 0), (.ireturn, 0, 0)]
def jm_bp34 : List Nat := [0, 1, 2, 3, 4, 5, 6, 9, 12, 13, 14, 15, 16, 19, 20, 21, 24, 27, 28, 31, 32, 33, 34, 37, 40, 41]
/-- X3_member -/
def jm_cd35 : List (Instr × Nat × Int) := [(.iconst 0, 0, 0), (.istore_n 3, 0, 0), (.iconst 0, 0, 0), (.istore 4, 0, 0), (.iload 4, 0, 0), (.aload_n 1, 0, 0), (.getfield 41, 13, 2), (.if_icmp .ge 39, 26, 0), (.aload_n 1, 0, 0), (.getfield 46, 3, 2), (.iload 4, 0, 0), (.iaload, 0, 0), (.istore 5, 0, 0), (.aload_n 0, 0, 0), (.aload_n 1, 0, 0), (.iload 5, 0, 0), (.invokevirtual 59, 33, 0), (.ifCond .eq 14, 24, 0), (.iload_n 3, 0, 0), (.iload_n 2, 0, 0), (.if_icmp .ne 6, 23, 0), (.iload 5, 0, 0), (.ireturn, 0, 0), (.iinc 3 1, 0, 1), (.iinc 4 1, 0, 1), (.goto (-42), 4, 0), (.iconst (-1), 0, (-1)), (.ireturn, 0, 0)]
def jm_bp35 : List Nat := [0, 1, 2, 3, 5, 7, 8, 11, 14, 15, 18, 20, 21, 23, 24, 25, 27, 30, 33, 34, 35, 38, 40, 41, 44, 47, 50, 51]
/-- X3_cost -/
def jm_cd36 : List (Instr × Nat × Int) := [(.iconst 0, 0, 0), (.istore_n 2, 0, 0), (.iconst 0, 0, 0), (.istore_n 3, 0, 0), (.iload_n 3, 0, 0), (.aload_n 1, 0, 0), (.getfield 41, 13, 2), (.if_icmp .ge 87, 53, 0), (.aload_n 1, 0, 0), (.getfield 46, 3, 2), (.iload_n 3, 0, 0), (.iaload, 0, 0), (.istore 4, 0, 0), (.aload_n 0, 0, 0), (.aload_n 1, 0, 0), (.iload 4, 0, 0), (.invokevirtual 59, 33, 0), (.ifCond .eq 63, 51, 0), (.aload_n 0, 0, 0), (.getfield 9, 0, 3), (.aload_n 1, 0, 0), (.getfield 49, 4, 2), (.iload 4, 0, 0), (.iaload, 0, 0), (.iaload, 0, 0), (.iconst 1, 0, 1), (.if_icmp .ne 7, 29, 0), (.iconst 1, 0, 1), (.goto 4, 30, 0), (.iconst 0, 0, 0), (.aload_n 0, 0, 0), (.getfield 24, 2, 3), (.if_icmp .ne 7, 35, 0), (.iconst 1, 0, 1), (.goto 4, 36, 0), (.iconst 0, 0, 0), (.istore 5, 0, 0), (.iload_n 2, 0, 0), (.iload 5, 0, 0), (.ifCond .eq 13, 45, 0), (.aload_n 1, 0, 0), (.getfield 63, 1, 2), (.iload 4, 0, 0), (.iaload, 0, 0), (.goto 10, 49, 0), (.aload_n 1, 0, 0), (.getfield 66, 2, 2), (.iload 4, 0, 0), (.iaload, 0, 0), (.iadd, 0, 0), (.istore_n 2, 0, 0), (.iinc 3 1, 0, 1), (.goto (-89), 4, 0), (.iload_n 2, 0, 0), (.ireturn, 0, 0)]
def jm_bp36 : List Nat := [0, 1, 2, 3, 4, 5, 6, 9, 12, 13, 16, 17, 18, 20, 21, 22, 24, 27, 30, 31, 34, 35, 38, 40, 41, 42, 43, 46, 47, 50, 51, 52, 55, 58, 59, 62, 63, 65, 66, 68, 71, 72, 75, 77, 78, 81, 82, 85, 87, 88, 89, 90, 93, 96, 97]
/-- X3_pieces -/
def jm_cd37 : List (Instr × Nat × Int) := [(.aload_n 0, 0, 0), (.getfield 15, 1, 3), (.iconst (-1), 0, (-1)), (.invokestatic 18, 215, 0), (.iconst 0, 0, 0), (.istore_n 2, 0, 0), (.iconst 0, 0, 0), (.istore_n 3, 0, 0), (.iload_n 3, 0, 0), (.aload_n 1, 0, 0), (.getfield 41, 13, 2), (.if_icmp .ge 74, 53, 0), (.aload_n 1, 0, 0), (.getfield 46, 3, 2), (.iload_n 3, 0, 0), (.iaload, 0, 0), (.istore 4, 0, 0), (.aload_n 0, 0, 0), (.aload_n 1, 0, 0), (.iload 4, 0, 0), (.invokevirtual 59, 33, 0), (.ifCond .eq 50, 51, 0), (.iload_n 2, 0, 0), (.aload_n 0, 0, 0), (.aload_n 1, 0, 0), (.getfield 69, 6, 2), (.iload 4, 0, 0), (.iaload, 0, 0), (.invokevirtual 72, 38, 0), (.aload_n 0, 0, 0), (.aload_n 1, 0, 0), (.getfield 76, 7, 2), (.iload 4, 0, 0), (.iaload, 0, 0), (.invokevirtual 72, 38, 0), (.iadd, 0, 0), (.iadd, 0, 0), (.istore_n 2, 0, 0), (.iload_n 2, 0, 0), (.aload_n 0, 0, 0), (.aload_n 1, 0, 0), (.getfield 69, 6, 2), (.iload 4, 0, 0), (.iaload, 0, 0), (.aload_n 1, 0, 0), (.getfield 76, 7, 2), (.iload 4, 0, 0), (.iaload, 0, 0), (.invokevirtual 79, 39, 0), (.isub, 0, 0), (.istore_n 2, 0, 0), (.iinc 3 1, 0, 1), (.goto (-76), 8, 0), (.iload_n 2, 0, 0), (.ireturn, 0, 0)]
def jm_bp37 : List Nat := [0, 1, 4, 5, 8, 9, 10, 11, 12, 13, 14, 17, 20, 21, 24, 25, 26, 28, 29, 30, 32, 35, 38, 39, 40, 41, 44, 46, 47, 50, 51, 52, 55, 57, 58, 61, 62, 63, 64, 65, 66, 67, 70, 72, 73, 74, 77, 79, 80, 83, 84, 85, 88, 91, 92]
/-- X3_touch -/
def jm_cd38 : List (Instr × Nat × Int) := [(.aload_n 0, 0, 0), (.getfield 15, 1, 3), (.iload_n 1, 0, 0), (.iaload, 0, 0), (.iconst (-1), 0, (-1)), (.if_icmp .eq 5, 8, 0), (.iconst 0, 0, 0), (.ireturn, 0, 0), (.aload_n 0, 0, 0), (.getfield 15, 1, 3), (.iload_n 1, 0, 0), (.iload_n 1, 0, 0), (.iastore, 0, 0), (.iconst 1, 0, 1), (.ireturn, 0, 0)]
def jm_bp38 : List Nat := [0, 1, 4, 5, 6, 7, 10, 11, 12, 13, 16, 17, 18, 19, 20]
/-- X3_join -/
def jm_cd39 : List (Instr × Nat × Int) := [(.aload_n 0, 0, 0), (.getfield 15, 1, 3), (.iload_n 1, 0, 0), (.iaload, 0, 0), (.istore_n 3, 0, 0), (.aload_n 0, 0, 0), (.getfield 15, 1, 3), (.iload_n 2, 0, 0), (.iaload, 0, 0), (.istore 4, 0, 0), (.iload_n 3, 0, 0), (.iload 4, 0, 0), (.if_icmp .ne 5, 15, 0), (.iconst 0, 0, 0), (.ireturn, 0, 0), (.iconst 0, 0, 0), (.istore 5, 0, 0), (.iload 5, 0, 0), (.bipush 73, 0, 73), (.if_icmp .ge 29, 33, 0), (.aload_n 0, 0, 0), (.getfield 15, 1, 3), (.iload 5, 0, 0), (.iaload, 0, 0), (.iload 4, 0, 0), (.if_icmp .ne 11, 31, 0), (.aload_n 0, 0, 0), (.getfield 15, 1, 3), (.iload 5, 0, 0), (.iload_n 3, 0, 0), (.iastore, 0, 0), (.iinc 5 1, 0, 1), (.goto (-30), 17, 0), (.iconst 1, 0, 1), (.ireturn, 0, 0)]
def jm_bp39 : List Nat := [0, 1, 4, 5, 6, 7, 8, 11, 12, 13, 15, 16, 18, 21, 22, 23, 24, 26, 28, 30, 33, 34, 37, 39, 40, 42, 45, 46, 49, 51, 52, 53, 56, 59, 60]
/-- X4_aim -/
def jm_cd40 : List (Instr × Nat × Int) := [(.aload_n 0, 0, 0), (.getfield 11, 0, 4), (.ldc 15, 0, 2147483647), (.invokestatic 16, 215, 0), (.aload_n 0, 0, 0), (.getfield 11, 0, 4), (.iload_n 2, 0, 0), (.iconst 0, 0, 0), (.iastore, 0, 0), (.iconst 1, 0, 1), (.istore_n 3, 0, 0), (.iconst 0, 0, 0), (.istore 4, 0, 0), (.iload 4, 0, 0), (.aload_n 1, 0, 0), (.getfield 22, 14, 2), (.if_icmp .gt 19, 25, 0), (.iload_n 3, 0, 0), (.ifCond .eq 15, 25, 0), (.aload_n 0, 0, 0), (.aload_n 1, 0, 0), (.invokevirtual 28, 41, 0), (.istore_n 3, 0, 0), (.iinc 4 1, 0, 1), (.goto (-22), 13, 0), (.return_, 0, 0)]
def jm_bp40 : List Nat := [0, 1, 4, 6, 9, 10, 13, 14, 15, 16, 17, 18, 19, 21, 23, 24, 27, 30, 31, 34, 35, 36, 39, 40, 43, 46]
/-- X4_relaxAll -/
def jm_cd41 : List (Instr × Nat × Int) := [(.iconst 0, 0, 0), (.istore_n 2, 0, 0), (.iconst 0, 0, 0), (.istore_n 3, 0, 0), (.iload_n 3, 0, 0), (.aload_n 1, 0, 0), (.getfield 32, 13, 2), (.if_icmp .ge 73, 49, 0), (.aload_n 1, 0, 0), (.getfield 35, 3, 2), (.iload_n 3, 0, 0), (.iaload, 0, 0), (.istore 4, 0, 0), (.iload_n 2, 0, 0), (.aload_n 0, 0, 0), (.aload_n 1, 0, 0), (.getfield 38, 6, 2), (.iload 4, 0, 0), (.iaload, 0, 0), (.aload_n 1, 0, 0), (.getfield 41, 7, 2), (.iload 4, 0, 0), (.iaload, 0, 0), (.aload_n 1, 0, 0), (.getfield 44, 1, 2), (.iload 4, 0, 0), (.iaload, 0, 0), (.invokevirtual 47, 42, 0), (.ior, 0, 0), (.istore_n 2, 0, 0), (.iload_n 2, 0, 0), (.aload_n 0, 0, 0), (.aload_n 1, 0, 0), (.getfield 41, 7, 2), (.iload 4, 0, 0), (.iaload, 0, 0), (.aload_n 1, 0, 0), (.getfield 38, 6, 2), (.iload 4, 0, 0), (.iaload, 0, 0), (.aload_n 1, 0, 0), (.getfield 51, 2, 2), (.iload 4, 0, 0), (.iaload, 0, 0), (.invokevirtual 47, 42, 0), (.ior, 0, 0), (.istore_n 2, 0, 0), (.iinc 3 1, 0, 1), (.goto (-75), 4, 0), (.iload_n 2, 0, 0), (.ireturn, 1, 0)]
def jm_bp41 : List Nat := [0, 1, 2, 3, 4, 5, 6, 9, 12, 13, 16, 17, 18, 20, 21, 22, 23, 26, 28, 29, 30, 33, 35, 36, 37, 40, 42, 43, 46, 47, 48, 49, 50, 51, 54, 56, 57, 58, 61, 63, 64, 65, 68, 70, 71, 74, 75, 76, 79, 82, 83]
/-- X4_relax -/
def jm_cd42 : List (Instr × Nat × Int) := [(.aload_n 0, 0, 0), (.getfield 11, 0, 4), (.iload_n 2, 0, 0), (.iaload, 0, 0), (.ldc 15, 0, 2147483647), (.if_icmp .eq 18, 15, 0), (.aload_n 0, 0, 0), (.iload_n 2, 0, 0), (.iload_n 3, 0, 0), (.invokevirtual 54, 43, 0), (.aload_n 0, 0, 0), (.getfield 11, 0, 4), (.iload_n 1, 0, 0), (.iaload, 0, 0), (.if_icmp .lt 5, 17, 0), (.iconst 0, 0, 0), (.ireturn, 1, 0), (.aload_n 0, 0, 0), (.getfield 11, 0, 4), (.iload_n 1, 0, 0), (.aload_n 0, 0, 0), (.iload_n 2, 0, 0), (.iload_n 3, 0, 0), (.invokevirtual 54, 43, 0), (.iastore, 0, 0), (.iconst 1, 0, 1), (.ireturn, 1, 0)]
def jm_bp42 : List Nat := [0, 1, 4, 5, 6, 8, 11, 12, 13, 14, 17, 18, 21, 22, 23, 26, 27, 28, 29, 32, 33, 34, 35, 36, 39, 40, 41]
/-- X4_keyBy -/
def jm_cd43 : List (Instr × Nat × Int) := [(.aload_n 0, 0, 0), (.getfield 11, 0, 4), (.iload_n 1, 0, 0), (.iaload, 0, 0), (.iload_n 2, 0, 0), (.sipush 4096, 0, 4096), (.imul, 0, 0), (.iadd, 0, 0), (.iconst 1, 0, 1), (.iadd, 0, 0), (.ireturn, 0, 0)]
def jm_bp43 : List Nat := [0, 1, 4, 5, 6, 7, 10, 11, 12, 13, 14]
/-- X4_costFrom -/
def jm_cd44 : List (Instr × Nat × Int) := [(.aload_n 0, 0, 0), (.getfield 11, 0, 4), (.iload_n 1, 0, 0), (.iaload, 0, 0), (.bipush 12, 0, 12), (.ishr, 0, 0), (.ireturn, 0, 0)]
def jm_bp44 : List Nat := [0, 1, 4, 5, 6, 8, 9]
/-- X4_hopsFrom -/
def jm_cd45 : List (Instr × Nat × Int) := [(.aload_n 0, 0, 0), (.getfield 11, 0, 4), (.iload_n 1, 0, 0), (.iaload, 0, 0), (.sipush 4095, 0, 4095), (.iand, 0, 0), (.ireturn, 0, 0)]
def jm_bp45 : List Nat := [0, 1, 4, 5, 6, 9, 10]
/-- X4_crossing -/
def jm_cd46 : List (Instr × Nat × Int) := [(.iload_n 2, 0, 0), (.istore 5, 0, 0), (.iconst 0, 0, 0), (.istore 6, 0, 0), (.iload 6, 0, 0), (.aload_n 1, 0, 0), (.getfield 22, 14, 2), (.if_icmp .ge 50, 31, 0), (.iload 5, 0, 0), (.iload_n 3, 0, 0), (.if_icmp .eq 44, 31, 0), (.aload_n 0, 0, 0), (.aload_n 1, 0, 0), (.iload 5, 0, 0), (.invokevirtual 58, 47, 0), (.istore 7, 0, 0), (.iload 7, 0, 0), (.iconst (-1), 0, (-1)), (.if_icmp .eq 10, 22, 0), (.iload 6, 0, 0), (.iload 4, 0, 0), (.if_icmp .ne 6, 24, 0), (.iload 7, 0, 0), (.ireturn, 0, 0), (.aload_n 1, 0, 0), (.iload 7, 0, 0), (.iload 5, 0, 0), (.invokevirtual 62, 25, 0), (.istore 5, 0, 0), (.iinc 6 1, 0, 1), (.goto (-53), 4, 0), (.iconst (-1), 0, (-1)), (.ireturn, 0, 0)]
def jm_bp46 : List Nat := [0, 1, 3, 4, 6, 8, 9, 12, 15, 17, 18, 21, 22, 23, 25, 28, 30, 32, 33, 36, 38, 40, 43, 45, 46, 47, 49, 51, 54, 56, 59, 62, 63]
/-- X4_firstEdge -/
def jm_cd47 : List (Instr × Nat × Int) := [(.iconst 0, 0, 0), (.istore_n 3, 0, 0), (.iload_n 3, 0, 0), (.aload_n 1, 0, 0), (.getfield 32, 13, 2), (.if_icmp .ge 57, 35, 0), (.aload_n 1, 0, 0), (.getfield 35, 3, 2), (.iload_n 3, 0, 0), (.iaload, 0, 0), (.istore 4, 0, 0), (.aload_n 1, 0, 0), (.iload 4, 0, 0), (.iload_n 2, 0, 0), (.invokevirtual 65, 27, 0), (.ifCond .eq 33, 33, 0), (.aload_n 0, 0, 0), (.aload_n 1, 0, 0), (.iload 4, 0, 0), (.iload_n 2, 0, 0), (.invokevirtual 62, 25, 0), (.aload_n 1, 0, 0), (.iload 4, 0, 0), (.iload_n 2, 0, 0), (.invokevirtual 69, 26, 0), (.invokevirtual 54, 43, 0), (.aload_n 0, 0, 0), (.getfield 11, 0, 4), (.iload_n 2, 0, 0), (.iaload, 0, 0), (.if_icmp .ne 6, 33, 0), (.iload 4, 0, 0), (.ireturn, 0, 0), (.iinc 3 1, 0, 1), (.goto (-59), 2, 0), (.iconst (-1), 0, (-1)), (.ireturn, 0, 0)]
def jm_bp47 : List Nat := [0, 1, 2, 3, 4, 7, 10, 11, 14, 15, 16, 18, 19, 21, 22, 25, 28, 29, 30, 32, 33, 36, 37, 39, 40, 43, 46, 47, 50, 51, 52, 55, 57, 58, 61, 64, 65]
/-- X5_nodeAt -/
def jm_cd48 : List (Instr × Nat × Int) := [(.aload_n 0, 0, 0), (.getfield 15, 1, 5), (.iload_n 1, 0, 0), (.iaload, 0, 0), (.ireturn, 0, 0)]
def jm_bp48 : List Nat := [0, 1, 4, 5, 6]
/-- X5_edgeTo -/
def jm_cd49 : List (Instr × Nat × Int) := [(.aload_n 0, 0, 0), (.getfield 18, 2, 5), (.iload_n 1, 0, 0), (.iaload, 0, 0), (.ireturn, 0, 0)]
def jm_bp49 : List Nat := [0, 1, 4, 5, 6]
/-- X5_find -/
def jm_cd50 : List (Instr × Nat × Int) := [(.aload_n 0, 0, 0), (.getfield 9, 0, 5), (.iconst 0, 0, 0), (.invokestatic 27, 215, 0), (.aload_n 0, 0, 0), (.iconst (-1), 0, (-1)), (.putfield 33, 5, 5), (.aload_n 0, 0, 0), (.iload_n 3, 0, 0), (.iconst (-1), 0, (-1)), (.iconst 0, 0, 0), (.invokevirtual 37, 52, 0), (.iconst 0, 0, 0), (.istore 4, 0, 0), (.iload 4, 0, 0), (.sipush 324, 0, 324), (.if_icmp .ge 71, 52, 0), (.aload_n 0, 0, 0), (.getfield 33, 5, 5), (.ifCond .lt 64, 52, 0), (.aload_n 0, 0, 0), (.getfield 24, 4, 5), (.aload_n 0, 0, 0), (.getfield 33, 5, 5), (.iaload, 0, 0), (.bipush 8, 0, 8), (.if_icmp .ne 16, 34, 0), (.aload_n 0, 0, 0), (.dup, 0, 0), (.getfield 33, 5, 5), (.iconst 1, 0, 1), (.isub, 0, 0), (.putfield 33, 5, 5), (.goto 31, 50, 0), (.aload_n 0, 0, 0), (.aload_n 1, 0, 0), (.aload_n 2, 0, 0), (.invokevirtual 41, 51, 0), (.ifCond .eq 22, 50, 0), (.aload_n 2, 0, 0), (.getfield 45, 2, 6), (.aload_n 0, 0, 0), (.getfield 15, 1, 5), (.aload_n 0, 0, 0), (.getfield 33, 5, 5), (.iaload, 0, 0), (.iaload, 0, 0), (.ifCond .le 5, 50, 0), (.iconst 1, 0, 1), (.ireturn, 1, 0), (.iinc 4 1, 0, 1), (.goto (-73), 14, 0), (.iconst 0, 0, 0), (.ireturn, 1, 0)]
def jm_bp50 : List Nat := [0, 1, 4, 5, 8, 9, 10, 13, 14, 15, 16, 17, 20, 21, 23, 25, 28, 31, 32, 35, 38, 39, 42, 43, 46, 47, 49, 52, 53, 54, 57, 58, 59, 62, 65, 66, 67, 68, 71, 74, 75, 78, 79, 82, 83, 86, 87, 88, 91, 92, 93, 96, 99, 100]
/-- X5_advance -/
def jm_cd51 : List (Instr × Nat × Int) := [(.aload_n 0, 0, 0), (.getfield 15, 1, 5), (.aload_n 0, 0, 0), (.getfield 33, 5, 5), (.iaload, 0, 0), (.istore_n 3, 0, 0), (.aload_n 0, 0, 0), (.getfield 21, 3, 5), (.aload_n 0, 0, 0), (.getfield 33, 5, 5), (.iaload, 0, 0), (.aload_n 0, 0, 0), (.getfield 24, 4, 5), (.aload_n 0, 0, 0), (.getfield 33, 5, 5), (.iaload, 0, 0), (.iadd, 0, 0), (.bipush 8, 0, 8), (.irem, 0, 0), (.istore 4, 0, 0), (.aload_n 0, 0, 0), (.getfield 24, 4, 5), (.aload_n 0, 0, 0), (.getfield 33, 5, 5), (.dup2, 0, 0), (.iaload, 0, 0), (.iconst 1, 0, 1), (.iadd, 0, 0), (.iastore, 0, 0), (.aload_n 1, 0, 0), (.getfield 50, 9, 2), (.iload_n 3, 0, 0), (.bipush 8, 0, 8), (.imul, 0, 0), (.iload 4, 0, 0), (.iadd, 0, 0), (.iaload, 0, 0), (.istore 5, 0, 0), (.iload 5, 0, 0), (.iconst (-1), 0, (-1)), (.if_icmp .eq 29, 55, 0), (.aload_n 2, 0, 0), (.aload_n 1, 0, 0), (.iload 5, 0, 0), (.aload_n 1, 0, 0), (.getfield 55, 4, 2), (.iload 5, 0, 0), (.iaload, 0, 0), (.iload_n 3, 0, 0), (.if_icmp .ne 7, 52, 0), (.iconst 1, 0, 1), (.goto 4, 53, 0), (.iconst 0, 0, 0), (.invokevirtual 58, 60, 0), (.ifCond .gt 5, 57, 0), (.iconst 0, 0, 0), (.ireturn, 1, 0), (.aload_n 1, 0, 0), (.iload 5, 0, 0), (.iload_n 3, 0, 0), (.invokevirtual 62, 24, 0), (.istore 6, 0, 0), (.aload_n 0, 0, 0), (.getfield 9, 0, 5), (.iload 6, 0, 0), (.iaload, 0, 0), (.ifCond .ne 14, 73, 0), (.aload_n 0, 0, 0), (.getfield 33, 5, 5), (.iconst 1, 0, 1), (.iadd, 0, 0), (.bipush 36, 0, 36), (.if_icmp .lt 5, 75, 0), (.iconst 0, 0, 0), (.ireturn, 1, 0), (.aload_n 0, 0, 0), (.iload 6, 0, 0), (.iload 5, 0, 0), (.iload 4, 0, 0), (.iconst 4, 0, 4), (.iadd, 0, 0), (.iconst 1, 0, 1), (.iadd, 0, 0), (.bipush 8, 0, 8), (.irem, 0, 0), (.invokevirtual 37, 52, 0), (.iconst 1, 0, 1), (.ireturn, 1, 0)]
def jm_bp51 : List Nat := [0, 1, 4, 5, 8, 9, 10, 11, 14, 15, 18, 19, 20, 23, 24, 27, 28, 29, 31, 32, 34, 35, 38, 39, 42, 43, 44, 45, 46, 47, 48, 51, 52, 54, 55, 57, 58, 59, 61, 63, 64, 67, 68, 69, 71, 72, 75, 77, 78, 79, 82, 83, 86, 87, 90, 93, 94, 95, 96, 98, 99, 102, 104, 105, 108, 110, 111, 114, 115, 118, 119, 120, 122, 125, 126, 127, 128, 130, 132, 134, 135, 136, 137, 138, 140, 141, 144, 145]
/-- X5_enter -/
def jm_cd52 : List (Instr × Nat × Int) := [(.aload_n 0, 0, 0), (.dup, 0, 0), (.getfield 33, 5, 5), (.iconst 1, 0, 1), (.iadd, 0, 0), (.putfield 33, 5, 5), (.aload_n 0, 0, 0), (.getfield 15, 1, 5), (.aload_n 0, 0, 0), (.getfield 33, 5, 5), (.iload_n 1, 0, 0), (.iastore, 0, 0), (.aload_n 0, 0, 0), (.getfield 18, 2, 5), (.aload_n 0, 0, 0), (.getfield 33, 5, 5), (.iload_n 2, 0, 0), (.iastore, 0, 0), (.aload_n 0, 0, 0), (.getfield 21, 3, 5), (.aload_n 0, 0, 0), (.getfield 33, 5, 5), (.iload_n 3, 0, 0), (.iastore, 0, 0), (.aload_n 0, 0, 0), (.getfield 24, 4, 5), (.aload_n 0, 0, 0), (.getfield 33, 5, 5), (.iconst 0, 0, 0), (.iastore, 0, 0), (.aload_n 0, 0, 0), (.getfield 9, 0, 5), (.iload_n 1, 0, 0), (.iconst 1, 0, 1), (.iastore, 0, 0), (.return_, 0, 0)]
def jm_bp52 : List Nat := [0, 1, 2, 5, 6, 7, 10, 11, 14, 15, 18, 19, 20, 21, 24, 25, 28, 29, 30, 31, 34, 35, 38, 39, 40, 41, 44, 45, 48, 49, 50, 51, 54, 55, 56, 57]
/-- X6_forget -/
def jm_cd53 : List (Instr × Nat × Int) := [(.aload_n 0, 0, 0), (.iconst 0, 0, 0), (.putfield 28, 4, 6), (.return_, 0, 0)]
def jm_bp53 : List Nat := [0, 1, 2, 5]
/-- X6_runBetween -/
def jm_cd54 : List (Instr × Nat × Int) := [(.aload_n 0, 0, 0), (.aload_n 1, 0, 0), (.aload_n 2, 0, 0), (.iconst 1, 0, 1), (.iload_n 3, 0, 0), (.iload 4, 0, 0), (.invokevirtual 32, 57, 0), (.aload_n 0, 0, 0), (.getfield 18, 2, 6), (.iload 4, 0, 0), (.ldc 36, 0, 1000000), (.iastore, 0, 0), (.aload_n 0, 0, 0), (.aload_n 1, 0, 0), (.iload_n 3, 0, 0), (.ldc 36, 0, 1000000), (.invokevirtual 37, 58, 0), (.ireturn, 0, 0)]
def jm_bp54 : List Nat := [0, 1, 2, 3, 4, 5, 7, 10, 11, 14, 16, 18, 19, 20, 21, 22, 24, 27]
/-- X6_runFromFace -/
def jm_cd55 : List (Instr × Nat × Int) := [(.aload_n 0, 0, 0), (.aload_n 1, 0, 0), (.aload_n 2, 0, 0), (.iconst 2, 0, 2), (.iconst (-1), 0, (-1)), (.iload 4, 0, 0), (.invokevirtual 32, 57, 0), (.aload_n 0, 0, 0), (.getfield 18, 2, 6), (.iload 4, 0, 0), (.ldc 36, 0, 1000000), (.iastore, 0, 0), (.iconst 0, 0, 0), (.istore 6, 0, 0), (.iconst 0, 0, 0), (.istore 7, 0, 0), (.iload 7, 0, 0), (.aload_n 1, 0, 0), (.getfield 41, 12, 2), (.if_icmp .ge 40, 38, 0), (.iload 7, 0, 0), (.iload 4, 0, 0), (.if_icmp .eq 27, 36, 0), (.aload_n 1, 0, 0), (.iload 7, 0, 0), (.iload_n 3, 0, 0), (.invokevirtual 46, 28, 0), (.ifCond .eq 17, 36, 0), (.iload 6, 0, 0), (.aload_n 0, 0, 0), (.aload_n 1, 0, 0), (.iload 7, 0, 0), (.iload 5, 0, 0), (.invokevirtual 37, 58, 0), (.iadd, 0, 0), (.istore 6, 0, 0), (.iinc 7 1, 0, 1), (.goto (-43), 16, 0), (.iload 6, 0, 0), (.ireturn, 0, 0)]
def jm_bp55 : List Nat := [0, 1, 2, 3, 4, 5, 7, 10, 11, 14, 16, 18, 19, 20, 22, 23, 25, 27, 28, 31, 34, 36, 38, 41, 42, 44, 45, 48, 51, 53, 54, 55, 57, 59, 62, 63, 65, 68, 71, 73]
/-- X6_runSupplies -/
def jm_cd56 : List (Instr × Nat × Int) := [(.aload_n 0, 0, 0), (.aload_n 1, 0, 0), (.aload_n 2, 0, 0), (.iconst 3, 0, 3), (.iconst (-1), 0, (-1)), (.iconst (-1), 0, (-1)), (.invokevirtual 32, 57, 0), (.aload_n 1, 0, 0), (.getfield 50, 0, 2), (.getfield 54, 3, 8), (.astore_n 3, 0, 0), (.iconst 0, 0, 0), (.istore 4, 0, 0), (.iload 4, 0, 0), (.aload_n 1, 0, 0), (.getfield 41, 12, 2), (.if_icmp .ge 25, 29, 0), (.aload_n 0, 0, 0), (.getfield 18, 2, 6), (.iload 4, 0, 0), (.iconst 0, 0, 0), (.aload_n 3, 0, 0), (.iload 4, 0, 0), (.iaload, 0, 0), (.ineg, 0, 0), (.invokestatic 59, 904, 0), (.iastore, 0, 0), (.iinc 4 1, 0, 1), (.goto (-28), 13, 0), (.iconst 0, 0, 0), (.istore 4, 0, 0), (.iconst 0, 0, 0), (.istore 5, 0, 0), (.iload 5, 0, 0), (.aload_n 1, 0, 0), (.getfield 41, 12, 2), (.if_icmp .ge 29, 51, 0), (.iload 4, 0, 0), (.aload_n 0, 0, 0), (.aload_n 1, 0, 0), (.iload 5, 0, 0), (.iconst 0, 0, 0), (.aload_n 3, 0, 0), (.iload 5, 0, 0), (.iaload, 0, 0), (.invokestatic 59, 904, 0), (.invokevirtual 37, 58, 0), (.iadd, 0, 0), (.istore 4, 0, 0), (.iinc 5 1, 0, 1), (.goto (-32), 33, 0), (.iload 4, 0, 0), (.ireturn, 0, 0)]
def jm_bp56 : List Nat := [0, 1, 2, 3, 4, 5, 6, 9, 10, 13, 16, 17, 18, 20, 22, 23, 26, 29, 30, 33, 35, 36, 37, 39, 40, 41, 44, 45, 48, 51, 52, 54, 55, 57, 59, 60, 63, 66, 68, 69, 70, 72, 73, 74, 76, 77, 80, 83, 84, 86, 89, 92, 94]
/-- X6_begin -/
def jm_cd57 : List (Instr × Nat × Int) := [(.iconst 0, 0, 0), (.istore 6, 0, 0), (.iload 6, 0, 0), (.aload_n 1, 0, 0), (.getfield 65, 13, 2), (.if_icmp .ge 50, 32, 0), (.aload_n 1, 0, 0), (.getfield 68, 3, 2), (.iload 6, 0, 0), (.iaload, 0, 0), (.istore 7, 0, 0), (.aload_n 0, 0, 0), (.getfield 9, 0, 6), (.iload 7, 0, 0), (.aload_n 2, 0, 0), (.getfield 71, 0, 0), (.aload_n 1, 0, 0), (.getfield 76, 7, 2), (.iload 7, 0, 0), (.iaload, 0, 0), (.iaload, 0, 0), (.aload_n 2, 0, 0), (.getfield 71, 0, 0), (.aload_n 1, 0, 0), (.getfield 79, 6, 2), (.iload 7, 0, 0), (.iaload, 0, 0), (.iaload, 0, 0), (.isub, 0, 0), (.iastore, 0, 0), (.iinc 6 1, 0, 1), (.goto (-53), 2, 0), (.aload_n 0, 0, 0), (.getfield 15, 1, 6), (.iconst 0, 0, 0), (.invokestatic 82, 215, 0), (.aload_n 0, 0, 0), (.getfield 18, 2, 6), (.iconst 0, 0, 0), (.invokestatic 82, 215, 0), (.aload_n 0, 0, 0), (.iload_n 3, 0, 0), (.putfield 28, 4, 6), (.aload_n 0, 0, 0), (.iload 4, 0, 0), (.putfield 88, 5, 6), (.aload_n 0, 0, 0), (.iload 5, 0, 0), (.putfield 91, 6, 6), (.aload_n 0, 0, 0), (.iconst 0, 0, 0), (.putfield 94, 7, 6), (.aload_n 0, 0, 0), (.iconst 0, 0, 0), (.putfield 97, 8, 6), (.aload_n 0, 0, 0), (.iconst 0, 0, 0), (.putfield 100, 9, 6), (.return_, 0, 0)]
def jm_bp57 : List Nat := [0, 1, 3, 5, 6, 9, 12, 13, 16, 18, 19, 21, 22, 25, 27, 28, 31, 32, 35, 37, 38, 39, 40, 43, 44, 47, 49, 50, 51, 52, 53, 56, 59, 60, 63, 64, 67, 68, 71, 72, 75, 76, 77, 80, 81, 83, 86, 87, 89, 92, 93, 94, 97, 98, 99, 102, 103, 104, 107]
/-- X6_pour -/
def jm_cd58 : List (Instr × Nat × Int) := [(.iload_n 3, 0, 0), (.istore 4, 0, 0), (.iconst 0, 0, 0), (.istore 5, 0, 0), (.iload 5, 0, 0), (.ldc 36, 0, 1000000), (.if_icmp .ge 43, 27, 0), (.iload 4, 0, 0), (.ifCond .le 38, 27, 0), (.aload_n 0, 0, 0), (.getfield 24, 3, 6), (.aload_n 1, 0, 0), (.aload_n 0, 0, 0), (.iload_n 2, 0, 0), (.invokevirtual 103, 50, 0), (.ifCond .ne 6, 17, 0), (.goto 22, 27, 0), (.iload 4, 0, 0), (.aload_n 0, 0, 0), (.aload_n 1, 0, 0), (.iload_n 2, 0, 0), (.iload 4, 0, 0), (.invokevirtual 107, 59, 0), (.isub, 0, 0), (.istore 4, 0, 0), (.iinc 5 1, 0, 1), (.goto (-44), 4, 0), (.iload_n 3, 0, 0), (.iload 4, 0, 0), (.isub, 0, 0), (.ireturn, 0, 0)]
def jm_bp58 : List Nat := [0, 1, 3, 4, 6, 8, 10, 13, 15, 18, 19, 22, 23, 24, 25, 28, 31, 34, 36, 37, 38, 39, 41, 44, 45, 47, 50, 53, 54, 56, 57]
def jm_cd59_0 : List (Instr × Nat × Int) := [(.aload_n 0, 0, 0), (.getfield 24, 3, 6), (.aload_n 0, 0, 0), (.getfield 24, 3, 6), (.getfield 110, 5, 5), (.invokevirtual 113, 48, 0), (.istore 4, 0, 0), (.iload_n 3, 0, 0), (.aload_n 0, 0, 0), (.getfield 18, 2, 6), (.iload 4, 0, 0), (.iaload, 0, 0), (.invokestatic 117, 905, 0), (.istore 5, 0, 0), (.iconst 1, 0, 1), (.istore 6, 0, 0), (.iload 6, 0, 0), (.aload_n 0, 0, 0), (.getfield 24, 3, 6), (.getfield 110, 5, 5), (.if_icmp .gt 58, 47, 0), (.aload_n 0, 0, 0), (.getfield 24, 3, 6), (.iload 6, 0, 0), (.invokevirtual 120, 49, 0), (.istore 7, 0, 0), (.iload 5, 0, 0), (.aload_n 0, 0, 0), (.aload_n 1, 0, 0), (.iload 7, 0, 0), (.aload_n 1, 0, 0), (.getfield 123, 5, 2), (.iload 7, 0, 0), (.iaload, 0, 0), (.aload_n 0, 0, 0), (.getfield 24, 3, 6), (.iload 6, 0, 0), (.invokevirtual 113, 48, 0), (.if_icmp .ne 7, 41, 0), (.iconst 1, 0, 1), (.goto 4, 42, 0), (.iconst 0, 0, 0), (.invokevirtual 126, 60, 0), (.invokestatic 117, 905, 0), (.istore 5, 0, 0), (.iinc 6 1, 0, 1), (.goto (-64), 16, 0), (.iconst 1, 0, 1), (.istore 6, 0, 0), (.iload 6, 0, 0), (.aload_n 0, 0, 0), (.getfield 24, 3, 6), (.getfield 110, 5, 5), (.if_icmp .gt 57, 81, 0), (.aload_n 0, 0, 0), (.getfield 24, 3, 6), (.iload 6, 0, 0), (.invokevirtual 120, 49, 0), (.istore 7, 0, 0), (.aload_n 0, 0, 0), (.getfield 9, 0, 6), (.iload 7, 0, 0), (.dup2, 0, 0), (.iaload, 0, 0), (.aload_n 1, 0, 0), (.getfield 123, 5, 2), (.iload 7, 0, 0), (.iaload, 0, 0), (.aload_n 0, 0, 0), (.getfield 24, 3, 6), (.iload 6, 0, 0), (.invokevirtual 113, 48, 0), (.if_icmp .ne 8, 75, 0), (.iload 5, 0, 0), (.goto 6, 77, 0), (.iload 5, 0, 0), (.ineg, 0, 0), (.iadd, 0, 0), (.iastore, 0, 0), (.iinc 6 1, 0, 1), (.goto (-63), 49, 0), (.aload_n 0, 0, 0), (.getfield 15, 1, 6), (.iload_n 2, 0, 0), (.dup2, 0, 0), (.iaload, 0, 0), (.iload 5, 0, 0), (.iadd, 0, 0), (.iastore, 0, 0), (.aload_n 0, 0, 0), (.getfield 15, 1, 6), (.iload 4, 0, 0), (.dup2, 0, 0), (.iaload, 0, 0), (.iload 5, 0, 0), (.isub, 0, 0), (.iastore, 0, 0), (.aload_n 0, 0, 0), (.getfield 18, 2, 6), (.iload 4, 0, 0)]
def jm_cd59_1 : List (Instr × Nat × Int) := [(.dup2, 0, 0), (.iaload, 0, 0), (.iload 5, 0, 0), (.isub, 0, 0), (.iastore, 0, 0), (.aload_n 0, 0, 0), (.aload_n 0, 0, 0), (.getfield 94, 7, 6), (.ifCond .ne 8, 111, 0), (.iload 5, 0, 0), (.goto 12, 115, 0), (.aload_n 0, 0, 0), (.getfield 100, 9, 6), (.iload 5, 0, 0), (.invokestatic 117, 905, 0), (.putfield 100, 9, 6), (.aload_n 0, 0, 0), (.aload_n 0, 0, 0), (.getfield 97, 8, 6), (.aload_n 0, 0, 0), (.getfield 24, 3, 6), (.getfield 110, 5, 5), (.invokestatic 59, 904, 0), (.putfield 97, 8, 6), (.aload_n 0, 0, 0), (.dup, 0, 0), (.getfield 94, 7, 6), (.iconst 1, 0, 1), (.iadd, 0, 0), (.putfield 94, 7, 6), (.iload 5, 0, 0), (.ireturn, 0, 0)]
/-- X6_push -/
def jm_cd59 : List (Instr × Nat × Int) := jm_cd59_0 ++ jm_cd59_1
def jm_bp59 : List Nat := [0, 1, 4, 5, 8, 11, 14, 16, 17, 18, 21, 23, 24, 27, 29, 30, 32, 34, 35, 38, 41, 44, 45, 48, 50, 53, 55, 57, 58, 59, 61, 62, 65, 67, 68, 69, 72, 74, 77, 80, 81, 84, 85, 88, 91, 93, 96, 99, 100, 102, 104, 105, 108, 111, 114, 115, 118, 120, 123, 125, 126, 129, 131, 132, 133, 134, 137, 139, 140, 141, 144, 146, 149, 152, 154, 157, 159, 160, 161, 162, 165, 168, 169, 172, 173, 174, 175, 177, 178, 179, 180, 183, 185, 186, 187, 189, 190, 191, 192, 195, 197, 198, 199, 201, 202, 203, 204, 205, 208, 211, 213, 216, 217, 220, 222, 225, 228, 229, 230, 233, 234, 237, 240, 243, 246, 247, 248, 251, 252, 253, 256, 258]
/-- X6_spare -/
def jm_cd60 : List (Instr × Nat × Int) := [(.iload_n 3, 0, 0), (.ifCond .eq 19, 12, 0), (.aload_n 1, 0, 0), (.getfield 130, 1, 2), (.iload_n 2, 0, 0), (.iaload, 0, 0), (.aload_n 0, 0, 0), (.getfield 9, 0, 6), (.iload_n 2, 0, 0), (.iaload, 0, 0), (.isub, 0, 0), (.goto 16, 21, 0), (.aload_n 1, 0, 0), (.getfield 133, 2, 2), (.iload_n 2, 0, 0), (.iaload, 0, 0), (.aload_n 0, 0, 0), (.getfield 9, 0, 6), (.iload_n 2, 0, 0), (.iaload, 0, 0), (.iadd, 0, 0), (.ireturn, 0, 0)]
def jm_bp60 : List Nat := [0, 1, 4, 5, 8, 9, 10, 11, 14, 15, 16, 17, 20, 21, 24, 25, 26, 27, 30, 31, 32, 33]
/-- X6_gain -/
def jm_cd61 : List (Instr × Nat × Int) := [(.iconst 0, 0, 0), (.istore_n 3, 0, 0), (.iconst 0, 0, 0), (.istore 4, 0, 0), (.iload 4, 0, 0), (.aload_n 1, 0, 0), (.getfield 65, 13, 2), (.if_icmp .ge 63, 42, 0), (.aload_n 1, 0, 0), (.getfield 68, 3, 2), (.iload 4, 0, 0), (.iaload, 0, 0), (.istore 5, 0, 0), (.aload_n 1, 0, 0), (.getfield 123, 5, 2), (.iload 5, 0, 0), (.iaload, 0, 0), (.iload_n 2, 0, 0), (.if_icmp .ne 16, 27, 0), (.iload_n 3, 0, 0), (.aload_n 0, 0, 0), (.getfield 9, 0, 6), (.iload 5, 0, 0), (.iaload, 0, 0), (.iadd, 0, 0), (.istore_n 3, 0, 0), (.goto 24, 40, 0), (.aload_n 1, 0, 0), (.getfield 136, 4, 2), (.iload 5, 0, 0), (.iaload, 0, 0), (.iload_n 2, 0, 0), (.if_icmp .ne 13, 40, 0), (.iload_n 3, 0, 0), (.aload_n 0, 0, 0), (.getfield 9, 0, 6), (.iload 5, 0, 0), (.iaload, 0, 0), (.isub, 0, 0), (.istore_n 3, 0, 0), (.iinc 4 1, 0, 1), (.goto (-66), 4, 0), (.iload_n 3, 0, 0), (.ireturn, 0, 0)]
def jm_bp61 : List Nat := [0, 1, 2, 3, 5, 7, 8, 11, 14, 15, 18, 20, 21, 23, 24, 27, 29, 30, 31, 34, 35, 36, 39, 41, 42, 43, 44, 47, 48, 51, 53, 54, 55, 58, 59, 60, 63, 65, 66, 67, 68, 71, 74, 75]
/-- X7_put -/
def jm_cd62 : List (Instr × Nat × Int) := [(.bipush 24, 0, 24), (.istore_n 2, 0, 0), (.iload_n 2, 0, 0), (.ifCond .lt 42, 25, 0), (.aload_n 0, 0, 0), (.getfield 15, 1, 7), (.sipush 600, 0, 600), (.if_icmp .ge 32, 25, 0), (.aload_n 0, 0, 0), (.getfield 9, 0, 7), (.aload_n 0, 0, 0), (.getfield 15, 1, 7), (.iload_n 1, 0, 0), (.iload_n 2, 0, 0), (.ishr, 0, 0), (.i2b, 0, 0), (.bastore, 0, 0), (.aload_n 0, 0, 0), (.dup, 0, 0), (.getfield 15, 1, 7), (.iconst 1, 0, 1), (.iadd, 0, 0), (.putfield 15, 1, 7), (.iinc 2 (-8), 0, (-8)), (.goto (-40), 2, 0), (.return_, 0, 0)]
def jm_bp62 : List Nat := [0, 2, 3, 4, 7, 8, 11, 14, 17, 18, 21, 22, 25, 26, 27, 28, 29, 30, 31, 32, 35, 36, 37, 40, 43, 46]
/-- X7_read -/
def jm_cd63 : List (Instr × Nat × Int) := [(.aload_n 0, 0, 0), (.iload_n 1, 0, 0), (.putfield 19, 2, 7), (.aload_n 0, 0, 0), (.iconst 0, 0, 0), (.putfield 15, 1, 7), (.aload_n 0, 0, 0), (.iconst 0, 0, 0), (.putfield 22, 3, 7), (.aload_n 0, 0, 0), (.iconst 0, 0, 0), (.putfield 25, 7, 7), (.iconst 0, 0, 0), (.istore_n 3, 0, 0), (.aload_n 0, 0, 0), (.aload_n 2, 0, 0), (.invokevirtual 28, 64, 0), (.istore 4, 0, 0), (.iconst 0, 0, 0), (.istore 5, 0, 0), (.iload 5, 0, 0), (.iload_n 1, 0, 0), (.if_icmp .ge 61, 50, 0), (.iload 4, 0, 0), (.ifCond .eq 56, 50, 0), (.aload_n 0, 0, 0), (.invokevirtual 32, 71, 0), (.aload_n 0, 0, 0), (.getfield 35, 4, 7), (.iconst 3, 0, 3), (.if_icmp .ne 16, 37, 0), (.iinc 3 1, 0, 1), (.aload_n 0, 0, 0), (.aload_n 2, 0, 0), (.invokevirtual 38, 65, 0), (.istore 4, 0, 0), (.goto 25, 48, 0), (.aload_n 0, 0, 0), (.getfield 35, 4, 7), (.ifCond .eq 15, 46, 0), (.aload_n 0, 0, 0), (.iconst 1, 0, 1), (.invokevirtual 41, 70, 0), (.ifCond .eq 7, 46, 0), (.iconst 1, 0, 1), (.goto 4, 47, 0), (.iconst 0, 0, 0), (.istore 4, 0, 0), (.iinc 5 1, 0, 1), (.goto (-61), 20, 0), (.aload_n 0, 0, 0), (.getfield 25, 7, 7), (.ifCond .ge 10, 56, 0), (.aload_n 0, 0, 0), (.getfield 25, 7, 7), (.goto 4, 57, 0), (.iload_n 3, 0, 0), (.ireturn, 0, 0)]
def jm_bp63 : List Nat := [0, 1, 2, 5, 6, 7, 10, 11, 12, 15, 16, 17, 20, 21, 22, 23, 24, 27, 29, 30, 32, 34, 35, 38, 40, 43, 44, 47, 48, 51, 52, 55, 58, 59, 60, 63, 65, 68, 69, 72, 75, 76, 77, 80, 83, 84, 87, 88, 90, 93, 96, 97, 100, 103, 104, 107, 110, 111]
/-- X7_readHead -/
def jm_cd64 : List (Instr × Nat × Int) := [(.aload_n 0, 0, 0), (.invokevirtual 32, 71, 0), (.aload_n 0, 0, 0), (.ldc 45, 1, 0), (.invokevirtual 47, 74, 0), (.ifCond .ne 9, 10, 0), (.aload_n 0, 0, 0), (.iconst 1, 0, 1), (.invokevirtual 41, 70, 0), (.ireturn, 1, 0), (.aload_n 0, 0, 0), (.iconst 2, 0, 2), (.bipush 6, 0, 6), (.invokevirtual 51, 69, 0), (.ifCond .ne 5, 17, 0), (.iconst 0, 0, 0), (.ireturn, 1, 0), (.aload_n 0, 0, 0), (.getfield 55, 6, 7), (.istore_n 2, 0, 0), (.aload_n 0, 0, 0), (.iconst 2, 0, 2), (.bipush 6, 0, 6), (.invokevirtual 51, 69, 0), (.ifCond .ne 5, 27, 0), (.iconst 0, 0, 0), (.ireturn, 1, 0), (.aload_n 1, 0, 0), (.iload_n 2, 0, 0), (.aload_n 0, 0, 0), (.getfield 55, 6, 7), (.invokevirtual 58, 75, 0), (.iconst 1, 0, 1), (.ireturn, 1, 0)]
def jm_bp64 : List Nat := [0, 1, 4, 5, 7, 10, 13, 14, 15, 18, 19, 20, 21, 23, 26, 29, 30, 31, 32, 35, 36, 37, 38, 40, 43, 46, 47, 48, 49, 50, 51, 54, 57, 58]
/-- X7_readLine -/
def jm_cd65 : List (Instr × Nat × Int) := [(.aload_n 0, 0, 0), (.invokevirtual 32, 71, 0), (.aload_n 0, 0, 0), (.ldc 64, 2, 0), (.invokevirtual 47, 74, 0), (.ifCond .eq 9, 10, 0), (.aload_n 0, 0, 0), (.aload_n 1, 0, 0), (.invokevirtual 66, 66, 0), (.ireturn, 1, 0), (.aload_n 0, 0, 0), (.ldc 69, 3, 0), (.invokevirtual 47, 74, 0), (.ifCond .eq 11, 20, 0), (.aload_n 0, 0, 0), (.aload_n 1, 0, 0), (.iconst 0, 0, 0), (.iconst 0, 0, 0), (.invokevirtual 71, 68, 0), (.ireturn, 1, 0), (.aload_n 0, 0, 0), (.ldc 75, 4, 0), (.invokevirtual 47, 74, 0), (.ifCond .eq 11, 30, 0), (.aload_n 0, 0, 0), (.aload_n 1, 0, 0), (.iconst 1, 0, 1), (.iconst 0, 0, 0), (.invokevirtual 71, 68, 0), (.ireturn, 1, 0), (.aload_n 0, 0, 0), (.ldc 77, 5, 0), (.invokevirtual 47, 74, 0), (.ifCond .eq 11, 40, 0), (.aload_n 0, 0, 0), (.aload_n 1, 0, 0), (.iconst 2, 0, 2), (.iconst 1, 0, 1), (.invokevirtual 71, 68, 0), (.ireturn, 1, 0), (.aload_n 0, 0, 0), (.ldc 79, 6, 0), (.invokevirtual 47, 74, 0), (.ifCond .eq 11, 50, 0), (.aload_n 0, 0, 0), (.aload_n 1, 0, 0), (.iconst 2, 0, 2), (.iconst 2, 0, 2), (.invokevirtual 71, 68, 0), (.ireturn, 1, 0), (.aload_n 0, 0, 0), (.iconst 1, 0, 1), (.invokevirtual 41, 70, 0), (.ireturn, 1, 0)]
def jm_bp65 : List Nat := [0, 1, 4, 5, 7, 10, 13, 14, 15, 18, 19, 20, 22, 25, 28, 29, 30, 31, 32, 35, 36, 37, 39, 42, 45, 46, 47, 48, 49, 52, 53, 54, 56, 59, 62, 63, 64, 65, 66, 69, 70, 71, 73, 76, 79, 80, 81, 82, 83, 86, 87, 88, 89, 92]
/-- X7_readAll -/
def jm_cd66 : List (Instr × Nat × Int) := [(.aload_n 0, 0, 0), (.bipush (-99), 0, (-99)), (.bipush 99, 0, 99), (.invokevirtual 51, 69, 0), (.ifCond .ne 5, 7, 0), (.iconst 0, 0, 0), (.ireturn, 1, 0), (.aload_n 0, 0, 0), (.getfield 55, 6, 7), (.istore_n 2, 0, 0), (.aload_n 0, 0, 0), (.bipush (-99), 0, (-99)), (.iload_n 2, 0, 0), (.ineg, 0, 0), (.invokestatic 81, 904, 0), (.bipush 99, 0, 99), (.invokevirtual 51, 69, 0), (.ifCond .ne 5, 20, 0), (.iconst 0, 0, 0), (.ireturn, 1, 0), (.iconst 0, 0, 0), (.istore_n 3, 0, 0), (.iload_n 3, 0, 0), (.aload_n 1, 0, 0), (.getfield 87, 5, 8), (.if_icmp .ge 40, 44, 0), (.iconst 0, 0, 0), (.istore 4, 0, 0), (.iload 4, 0, 0), (.aload_n 1, 0, 0), (.getfield 90, 4, 8), (.if_icmp .ge 22, 42, 0), (.aload_n 0, 0, 0), (.aload_n 1, 0, 0), (.iload 4, 0, 0), (.iload_n 3, 0, 0), (.iload_n 2, 0, 0), (.aload_n 0, 0, 0), (.getfield 55, 6, 7), (.invokevirtual 93, 67, 0), (.iinc 4 1, 0, 1), (.goto (-25), 28, 0), (.iinc 3 1, 0, 1), (.goto (-42), 22, 0), (.iconst 1, 0, 1), (.ireturn, 1, 0)]
def jm_bp66 : List Nat := [0, 1, 3, 5, 8, 11, 12, 13, 14, 17, 18, 19, 21, 22, 23, 26, 28, 31, 34, 35, 36, 37, 38, 39, 40, 43, 46, 47, 49, 51, 52, 55, 58, 59, 60, 62, 63, 64, 65, 68, 71, 74, 77, 80, 83, 84]
/-- X7_loadAt -/
def jm_cd67 : List (Instr × Nat × Int) := [(.iload_n 3, 0, 0), (.aload_n 1, 0, 0), (.getfield 90, 4, 8), (.imul, 0, 0), (.iload_n 2, 0, 0), (.iadd, 0, 0), (.istore 6, 0, 0), (.iconst 0, 0, 0), (.istore 7, 0, 0), (.iload 7, 0, 0), (.iconst 3, 0, 3), (.if_icmp .ge 51, 37, 0), (.aload_n 1, 0, 0), (.iload 7, 0, 0), (.iload_n 2, 0, 0), (.iload_n 3, 0, 0), (.invokevirtual 97, 80, 0), (.ifCond .eq 34, 35, 0), (.iload 7, 0, 0), (.iconst 2, 0, 2), (.if_icmp .lt 13, 26, 0), (.aload_n 1, 0, 0), (.getfield 101, 0, 8), (.iload 6, 0, 0), (.iaload, 0, 0), (.ifCond .eq 18, 35, 0), (.aload_n 1, 0, 0), (.iconst 3, 0, 3), (.iload 6, 0, 0), (.imul, 0, 0), (.iload 7, 0, 0), (.iadd, 0, 0), (.iload 4, 0, 0), (.iload 5, 0, 0), (.invokevirtual 105, 77, 0), (.iinc 7 1, 0, 1), (.goto (-51), 9, 0), (.return_, 0, 0)]
def jm_bp67 : List Nat := [0, 1, 2, 5, 6, 7, 8, 10, 11, 13, 15, 16, 19, 20, 22, 23, 24, 27, 30, 32, 33, 36, 37, 40, 42, 43, 46, 47, 48, 50, 51, 53, 54, 56, 58, 61, 64, 67]
/-- X7_readOne -/
def jm_cd68 : List (Instr × Nat × Int) := [(.aload_n 0, 0, 0), (.iconst 0, 0, 0), (.aload_n 1, 0, 0), (.iload_n 2, 0, 0), (.invokevirtual 109, 81, 0), (.invokevirtual 51, 69, 0), (.ifCond .ne 5, 9, 0), (.iconst 0, 0, 0), (.ireturn, 1, 0), (.aload_n 0, 0, 0), (.getfield 55, 6, 7), (.istore 4, 0, 0), (.aload_n 0, 0, 0), (.iconst 0, 0, 0), (.aload_n 1, 0, 0), (.iload_n 2, 0, 0), (.invokevirtual 113, 82, 0), (.invokevirtual 51, 69, 0), (.ifCond .ne 5, 21, 0), (.iconst 0, 0, 0), (.ireturn, 1, 0), (.aload_n 0, 0, 0), (.getfield 55, 6, 7), (.aload_n 1, 0, 0), (.getfield 90, 4, 8), (.imul, 0, 0), (.iload 4, 0, 0), (.iadd, 0, 0), (.istore 5, 0, 0), (.aload_n 0, 0, 0), (.bipush (-99), 0, (-99)), (.bipush 99, 0, 99), (.invokevirtual 51, 69, 0), (.ifCond .ne 5, 36, 0), (.iconst 0, 0, 0), (.ireturn, 1, 0), (.aload_n 0, 0, 0), (.getfield 55, 6, 7), (.istore 6, 0, 0), (.aload_n 0, 0, 0), (.bipush (-99), 0, (-99)), (.iload 6, 0, 0), (.ineg, 0, 0), (.invokestatic 81, 904, 0), (.bipush 99, 0, 99), (.invokevirtual 51, 69, 0), (.ifCond .ne 5, 49, 0), (.iconst 0, 0, 0), (.ireturn, 1, 0), (.iload_n 2, 0, 0), (.iconst 2, 0, 2), (.if_icmp .ne 11, 57, 0), (.aload_n 1, 0, 0), (.iload 5, 0, 0), (.iload_n 3, 0, 0), (.invokevirtual 116, 78, 0), (.pop, 0, 0), (.aload_n 1, 0, 0), (.iconst 3, 0, 3), (.iload 5, 0, 0), (.imul, 0, 0), (.iload_n 2, 0, 0), (.iadd, 0, 0), (.iload 6, 0, 0), (.aload_n 0, 0, 0), (.getfield 55, 6, 7), (.invokevirtual 105, 77, 0), (.iconst 1, 0, 1), (.ireturn, 1, 0)]
def jm_bp68 : List Nat := [0, 1, 2, 3, 4, 7, 10, 13, 14, 15, 16, 19, 21, 22, 23, 24, 25, 28, 31, 34, 35, 36, 37, 40, 41, 44, 45, 47, 48, 50, 51, 53, 55, 58, 61, 62, 63, 64, 67, 69, 70, 72, 74, 75, 78, 80, 83, 86, 87, 88, 89, 90, 93, 94, 96, 97, 100, 101, 102, 103, 105, 106, 107, 108, 110, 111, 114, 117, 118]
/-- X7_readWhole -/
def jm_cd69 : List (Instr × Nat × Int) := [(.aload_n 0, 0, 0), (.invokevirtual 32, 71, 0), (.aload_n 0, 0, 0), (.getfield 35, 4, 7), (.iconst 2, 0, 2), (.if_icmp .eq 9, 10, 0), (.aload_n 0, 0, 0), (.iconst 1, 0, 1), (.invokevirtual 41, 70, 0), (.ireturn, 1, 0), (.aload_n 0, 0, 0), (.getfield 55, 6, 7), (.iload_n 1, 0, 0), (.if_icmp .lt 11, 18, 0), (.aload_n 0, 0, 0), (.getfield 55, 6, 7), (.iload_n 2, 0, 0), (.if_icmp .le 11, 22, 0), (.aload_n 0, 0, 0), (.iconst 2, 0, 2), (.invokevirtual 41, 70, 0), (.ifCond .eq 7, 24, 0), (.iconst 1, 0, 1), (.goto 4, 25, 0), (.iconst 0, 0, 0), (.ireturn, 1, 0)]
def jm_bp69 : List Nat := [0, 1, 4, 5, 8, 9, 12, 13, 14, 17, 18, 19, 22, 23, 26, 27, 30, 31, 34, 35, 36, 39, 42, 43, 46, 47]
/-- X7_fail -/
def jm_cd70 : List (Instr × Nat × Int) := [(.aload_n 0, 0, 0), (.bipush (-2), 0, (-2)), (.bipush 8, 0, 8), (.aload_n 0, 0, 0), (.getfield 119, 5, 7), (.imul, 0, 0), (.iload_n 1, 0, 0), (.iadd, 0, 0), (.isub, 0, 0), (.putfield 25, 7, 7), (.iconst 0, 0, 0), (.ireturn, 1, 0)]
def jm_bp70 : List Nat := [0, 1, 3, 5, 6, 9, 10, 11, 12, 13, 16, 17]
/-- X7_next -/
def jm_cd71 : List (Instr × Nat × Int) := [(.aload_n 0, 0, 0), (.getfield 22, 3, 7), (.aload_n 0, 0, 0), (.getfield 19, 2, 7), (.if_icmp .ge 44, 26, 0), (.aload_n 0, 0, 0), (.getfield 9, 0, 7), (.aload_n 0, 0, 0), (.getfield 22, 3, 7), (.baload, 0, 0), (.bipush 32, 0, 32), (.if_icmp .eq 17, 19, 0), (.aload_n 0, 0, 0), (.getfield 9, 0, 7), (.aload_n 0, 0, 0), (.getfield 22, 3, 7), (.baload, 0, 0), (.bipush 10, 0, 10), (.if_icmp .ne 16, 26, 0), (.aload_n 0, 0, 0), (.dup, 0, 0), (.getfield 22, 3, 7), (.iconst 1, 0, 1), (.iadd, 0, 0), (.putfield 22, 3, 7), (.goto (-49), 0, 0), (.aload_n 0, 0, 0), (.aload_n 0, 0, 0), (.getfield 22, 3, 7), (.putfield 119, 5, 7), (.aload_n 0, 0, 0), (.getfield 22, 3, 7), (.aload_n 0, 0, 0), (.getfield 19, 2, 7), (.if_icmp .lt 11, 39, 0), (.aload_n 0, 0, 0), (.iconst 0, 0, 0), (.putfield 35, 4, 7), (.goto 91, 84, 0), (.aload_n 0, 0, 0), (.aload_n 0, 0, 0), (.getfield 22, 3, 7), (.invokevirtual 122, 73, 0), (.ifCond .eq 32, 59, 0), (.aload_n 0, 0, 0), (.iconst 1, 0, 1), (.putfield 35, 4, 7), (.aload_n 0, 0, 0), (.aload_n 0, 0, 0), (.getfield 22, 3, 7), (.invokevirtual 122, 73, 0), (.ifCond .eq 64, 84, 0), (.aload_n 0, 0, 0), (.dup, 0, 0), (.getfield 22, 3, 7), (.iconst 1, 0, 1), (.iadd, 0, 0), (.putfield 22, 3, 7), (.goto (-21), 47, 0), (.aload_n 0, 0, 0), (.getfield 9, 0, 7), (.aload_n 0, 0, 0), (.getfield 22, 3, 7), (.baload, 0, 0), (.bipush 59, 0, 59), (.if_icmp .ne 21, 76, 0), (.aload_n 0, 0, 0), (.iconst 3, 0, 3), (.putfield 35, 4, 7), (.aload_n 0, 0, 0), (.dup, 0, 0), (.getfield 22, 3, 7), (.iconst 1, 0, 1), (.iadd, 0, 0), (.putfield 22, 3, 7), (.goto 19, 84, 0), (.aload_n 0, 0, 0), (.aload_n 0, 0, 0), (.invokevirtual 125, 72, 0), (.ifCond .eq 7, 82, 0), (.iconst 2, 0, 2), (.goto 4, 83, 0), (.iconst 4, 0, 4), (.putfield 35, 4, 7), (.return_, 0, 0)]
def jm_bp71 : List Nat := [0, 1, 4, 5, 8, 11, 12, 15, 16, 19, 20, 22, 25, 26, 29, 30, 33, 34, 36, 39, 40, 41, 44, 45, 46, 49, 52, 53, 54, 57, 60, 61, 64, 65, 68, 71, 72, 73, 76, 79, 80, 81, 84, 87, 90, 91, 92, 95, 96, 97, 100, 103, 106, 107, 108, 111, 112, 113, 116, 119, 120, 123, 124, 127, 128, 130, 133, 134, 135, 138, 139, 140, 143, 144, 145, 148, 151, 152, 153, 156, 159, 160, 163, 164, 167]
/-- X7_scanWhole -/
def jm_cd72 : List (Instr × Nat × Int) := [(.aload_n 0, 0, 0), (.getfield 9, 0, 7), (.aload_n 0, 0, 0), (.getfield 22, 3, 7), (.baload, 0, 0), (.bipush 45, 0, 45), (.if_icmp .ne 7, 9, 0), (.iconst 1, 0, 1), (.goto 4, 10, 0), (.iconst 0, 0, 0), (.istore_n 1, 0, 0), (.iload_n 1, 0, 0), (.ifCond .eq 13, 19, 0), (.aload_n 0, 0, 0), (.dup, 0, 0), (.getfield 22, 3, 7), (.iconst 1, 0, 1), (.iadd, 0, 0), (.putfield 22, 3, 7), (.aload_n 0, 0, 0), (.iconst 0, 0, 0), (.putfield 55, 6, 7), (.iconst 0, 0, 0), (.istore_n 2, 0, 0), (.aload_n 0, 0, 0), (.getfield 22, 3, 7), (.aload_n 0, 0, 0), (.getfield 19, 2, 7), (.if_icmp .ge 76, 68, 0), (.aload_n 0, 0, 0), (.getfield 9, 0, 7), (.aload_n 0, 0, 0), (.getfield 22, 3, 7), (.baload, 0, 0), (.bipush 48, 0, 48), (.if_icmp .lt 62, 68, 0), (.aload_n 0, 0, 0), (.getfield 9, 0, 7), (.aload_n 0, 0, 0), (.getfield 22, 3, 7), (.baload, 0, 0), (.bipush 57, 0, 57), (.if_icmp .gt 48, 68, 0), (.iload_n 2, 0, 0), (.iconst 3, 0, 3), (.if_icmp .gt 43, 68, 0), (.aload_n 0, 0, 0), (.bipush 10, 0, 10), (.aload_n 0, 0, 0), (.getfield 55, 6, 7), (.imul, 0, 0), (.aload_n 0, 0, 0), (.getfield 9, 0, 7), (.aload_n 0, 0, 0), (.getfield 22, 3, 7), (.baload, 0, 0), (.bipush 48, 0, 48), (.isub, 0, 0), (.iadd, 0, 0), (.putfield 55, 6, 7), (.aload_n 0, 0, 0), (.dup, 0, 0), (.getfield 22, 3, 7), (.iconst 1, 0, 1), (.iadd, 0, 0), (.putfield 22, 3, 7), (.iinc 2 1, 0, 1), (.goto (-81), 24, 0), (.iload_n 1, 0, 0), (.ifCond .eq 12, 75, 0), (.aload_n 0, 0, 0), (.aload_n 0, 0, 0), (.getfield 55, 6, 7), (.ineg, 0, 0), (.putfield 55, 6, 7), (.iload_n 2, 0, 0), (.iconst 1, 0, 1), (.if_icmp .lt 12, 83, 0), (.iload_n 2, 0, 0), (.iconst 3, 0, 3), (.if_icmp .gt 7, 83, 0), (.iconst 1, 0, 1), (.goto 4, 84, 0), (.iconst 0, 0, 0), (.ireturn, 1, 0)]
def jm_bp72 : List Nat := [0, 1, 4, 5, 8, 9, 11, 14, 15, 18, 19, 20, 21, 24, 25, 26, 29, 30, 31, 34, 35, 36, 39, 40, 41, 42, 45, 46, 49, 52, 53, 56, 57, 60, 61, 63, 66, 67, 70, 71, 74, 75, 77, 80, 81, 82, 85, 86, 88, 89, 92, 93, 94, 97, 98, 101, 102, 104, 105, 106, 109, 110, 111, 114, 115, 116, 119, 122, 125, 126, 129, 130, 131, 134, 135, 138, 139, 140, 143, 144, 145, 148, 149, 152, 153]
/-- X7_isLetter -/
def jm_cd73 : List (Instr × Nat × Int) := [(.iload_n 1, 0, 0), (.aload_n 0, 0, 0), (.getfield 19, 2, 7), (.if_icmp .ge 29, 18, 0), (.aload_n 0, 0, 0), (.getfield 9, 0, 7), (.iload_n 1, 0, 0), (.baload, 0, 0), (.bipush 97, 0, 97), (.if_icmp .lt 18, 18, 0), (.aload_n 0, 0, 0), (.getfield 9, 0, 7), (.iload_n 1, 0, 0), (.baload, 0, 0), (.bipush 122, 0, 122), (.if_icmp .gt 7, 18, 0), (.iconst 1, 0, 1), (.goto 4, 19, 0), (.iconst 0, 0, 0), (.ireturn, 1, 0)]
def jm_bp73 : List Nat := [0, 1, 2, 5, 8, 9, 12, 13, 14, 16, 19, 20, 23, 24, 25, 27, 30, 31, 34, 35]
/-- X7_isWord -/
def jm_cd74 : List (Instr × Nat × Int) := [(.aload_n 0, 0, 0), (.getfield 35, 4, 7), (.iconst 1, 0, 1), (.if_icmp .ne 19, 12, 0), (.aload_n 0, 0, 0), (.getfield 22, 3, 7), (.aload_n 0, 0, 0), (.getfield 119, 5, 7), (.isub, 0, 0), (.aload_n 1, 0, 0), (.invokevirtual 129, 901, 0), (.if_icmp .eq 5, 14, 0), (.iconst 0, 0, 0), (.ireturn, 1, 0), (.iconst 0, 0, 0), (.istore_n 2, 0, 0), (.iload_n 2, 0, 0), (.aload_n 1, 0, 0), (.invokevirtual 129, 901, 0), (.if_icmp .ge 30, 35, 0), (.aload_n 0, 0, 0), (.getfield 9, 0, 7), (.aload_n 0, 0, 0), (.getfield 119, 5, 7), (.iload_n 2, 0, 0), (.iadd, 0, 0), (.baload, 0, 0), (.aload_n 1, 0, 0), (.iload_n 2, 0, 0), (.invokevirtual 134, 902, 0), (.if_icmp .eq 5, 33, 0), (.iconst 0, 0, 0), (.ireturn, 1, 0), (.iinc 2 1, 0, 1), (.goto (-32), 16, 0), (.iconst 1, 0, 1), (.ireturn, 1, 0)]
def jm_bp74 : List Nat := [0, 1, 4, 5, 8, 9, 12, 13, 16, 17, 18, 21, 24, 25, 26, 27, 28, 29, 30, 33, 36, 37, 40, 41, 44, 45, 46, 47, 48, 49, 52, 55, 56, 57, 60, 63, 64]
/-- X8_reset -/
def jm_cd75 : List (Instr × Nat × Int) := [(.aload_n 0, 0, 0), (.iload_n 1, 0, 0), (.putfield 24, 4, 8), (.aload_n 0, 0, 0), (.iload_n 2, 0, 0), (.putfield 28, 5, 8), (.aload_n 0, 0, 0), (.getfield 9, 0, 8), (.iconst 0, 0, 0), (.invokestatic 31, 215, 0), (.aload_n 0, 0, 0), (.getfield 15, 1, 8), (.iconst 0, 0, 0), (.invokestatic 31, 215, 0), (.aload_n 0, 0, 0), (.getfield 18, 2, 8), (.iconst 0, 0, 0), (.invokestatic 31, 215, 0), (.aload_n 0, 0, 0), (.getfield 21, 3, 8), (.iconst 0, 0, 0), (.invokestatic 31, 215, 0), (.return_, 0, 0)]
def jm_bp75 : List Nat := [0, 1, 2, 5, 6, 7, 10, 11, 14, 15, 18, 19, 22, 23, 26, 27, 30, 31, 34, 35, 38, 39, 42]
/-- X8_take -/
def jm_cd76 : List (Instr × Nat × Int) := [(.aload_n 0, 0, 0), (.aload_n 1, 0, 0), (.getfield 24, 4, 8), (.putfield 24, 4, 8), (.aload_n 0, 0, 0), (.aload_n 1, 0, 0), (.getfield 28, 5, 8), (.putfield 28, 5, 8), (.aload_n 1, 0, 0), (.getfield 9, 0, 8), (.iconst 0, 0, 0), (.aload_n 0, 0, 0), (.getfield 9, 0, 8), (.iconst 0, 0, 0), (.bipush 36, 0, 36), (.invokestatic 37, 900, 0), (.aload_n 1, 0, 0), (.getfield 15, 1, 8), (.iconst 0, 0, 0), (.aload_n 0, 0, 0), (.getfield 15, 1, 8), (.iconst 0, 0, 0), (.bipush 108, 0, 108), (.invokestatic 37, 900, 0), (.aload_n 1, 0, 0), (.getfield 18, 2, 8), (.iconst 0, 0, 0), (.aload_n 0, 0, 0), (.getfield 18, 2, 8), (.iconst 0, 0, 0), (.bipush 108, 0, 108), (.invokestatic 37, 900, 0), (.aload_n 1, 0, 0), (.getfield 21, 3, 8), (.iconst 0, 0, 0), (.aload_n 0, 0, 0), (.getfield 21, 3, 8), (.iconst 0, 0, 0), (.bipush 36, 0, 36), (.invokestatic 37, 900, 0), (.return_, 0, 0)]
def jm_bp76 : List Nat := [0, 1, 2, 5, 8, 9, 10, 13, 16, 17, 20, 21, 22, 25, 26, 28, 31, 32, 35, 36, 37, 40, 41, 43, 46, 47, 50, 51, 52, 55, 56, 58, 61, 62, 65, 66, 67, 70, 71, 73, 76]
/-- X8_load -/
def jm_cd77 : List (Instr × Nat × Int) := [(.aload_n 0, 0, 0), (.getfield 15, 1, 8), (.iload_n 1, 0, 0), (.iload_n 2, 0, 0), (.iastore, 0, 0), (.aload_n 0, 0, 0), (.getfield 18, 2, 8), (.iload_n 1, 0, 0), (.iload_n 3, 0, 0), (.iastore, 0, 0), (.return_, 0, 0)]
def jm_bp77 : List Nat := [0, 1, 4, 5, 6, 7, 8, 11, 12, 13, 14]
/-- X8_lean -/
def jm_cd78 : List (Instr × Nat × Int) := [(.aload_n 0, 0, 0), (.getfield 9, 0, 8), (.iload_n 1, 0, 0), (.iaload, 0, 0), (.istore_n 3, 0, 0), (.aload_n 0, 0, 0), (.getfield 9, 0, 8), (.iload_n 1, 0, 0), (.iload_n 2, 0, 0), (.iastore, 0, 0), (.aload_n 0, 0, 0), (.iconst 3, 0, 3), (.iload_n 1, 0, 0), (.imul, 0, 0), (.iconst 2, 0, 2), (.iadd, 0, 0), (.iconst 0, 0, 0), (.iconst 0, 0, 0), (.invokevirtual 43, 77, 0), (.iload_n 3, 0, 0), (.ireturn, 0, 0)]
def jm_bp78 : List Nat := [0, 1, 4, 5, 6, 7, 8, 11, 12, 13, 14, 15, 16, 17, 18, 19, 20, 21, 22, 25, 26]
/-- X8_stock -/
def jm_cd79 : List (Instr × Nat × Int) := [(.aload_n 0, 0, 0), (.getfield 21, 3, 8), (.iload_n 1, 0, 0), (.iaload, 0, 0), (.istore_n 3, 0, 0), (.aload_n 0, 0, 0), (.getfield 21, 3, 8), (.iload_n 1, 0, 0), (.iload_n 2, 0, 0), (.iastore, 0, 0), (.iload_n 3, 0, 0), (.ireturn, 0, 0)]
def jm_bp79 : List Nat := [0, 1, 4, 5, 6, 7, 8, 11, 12, 13, 14, 15]
/-- X8_fits -/
def jm_cd80 : List (Instr × Nat × Int) := [(.iload_n 2, 0, 0), (.ifCond .lt 29, 16, 0), (.iload_n 2, 0, 0), (.aload_n 0, 0, 0), (.iload_n 1, 0, 0), (.invokevirtual 47, 81, 0), (.if_icmp .gt 20, 16, 0), (.iload_n 3, 0, 0), (.ifCond .lt 16, 16, 0), (.iload_n 3, 0, 0), (.aload_n 0, 0, 0), (.iload_n 1, 0, 0), (.invokevirtual 51, 82, 0), (.if_icmp .gt 7, 16, 0), (.iconst 1, 0, 1), (.goto 4, 17, 0), (.iconst 0, 0, 0), (.ireturn, 1, 0)]
def jm_bp80 : List Nat := [0, 1, 4, 5, 6, 7, 10, 13, 14, 17, 18, 19, 20, 23, 26, 27, 30, 31]
/-- X8_lastX -/
def jm_cd81 : List (Instr × Nat × Int) := [(.iload_n 1, 0, 0), (.iconst 1, 0, 1), (.if_icmp .ne 12, 8, 0), (.aload_n 0, 0, 0), (.getfield 24, 4, 8), (.iconst 1, 0, 1), (.isub, 0, 0), (.goto 9, 12, 0), (.aload_n 0, 0, 0), (.getfield 24, 4, 8), (.iconst 2, 0, 2), (.isub, 0, 0), (.ireturn, 0, 0)]
def jm_bp81 : List Nat := [0, 1, 2, 5, 6, 9, 10, 11, 14, 15, 18, 19, 20]
/-- X8_lastY -/
def jm_cd82 : List (Instr × Nat × Int) := [(.iload_n 1, 0, 0), (.ifCond .ne 12, 7, 0), (.aload_n 0, 0, 0), (.getfield 28, 5, 8), (.iconst 1, 0, 1), (.isub, 0, 0), (.goto 9, 11, 0), (.aload_n 0, 0, 0), (.getfield 28, 5, 8), (.iconst 2, 0, 2), (.isub, 0, 0), (.ireturn, 0, 0)]
def jm_bp82 : List Nat := [0, 1, 4, 5, 8, 9, 10, 13, 14, 17, 18, 19]
/-- X9_feed -/
def jm_cd83 : List (Instr × Nat × Int) := [(.aload_n 0, 0, 0), (.getfield 74, 10, 9), (.getfield 78, 1, 7), (.bipush 20, 0, 20), (.iadd, 0, 0), (.sipush 600, 0, 600), (.if_icmp .le 5, 9, 0), (.iconst (-1), 0, (-1)), (.ireturn, 0, 0), (.aload_n 0, 0, 0), (.getfield 74, 10, 9), (.iload_n 1, 0, 0), (.invokevirtual 82, 62, 0), (.aload_n 0, 0, 0), (.getfield 74, 10, 9), (.iload_n 2, 0, 0), (.invokevirtual 82, 62, 0), (.aload_n 0, 0, 0), (.getfield 74, 10, 9), (.iload_n 3, 0, 0), (.invokevirtual 82, 62, 0), (.aload_n 0, 0, 0), (.getfield 74, 10, 9), (.iload 4, 0, 0), (.invokevirtual 82, 62, 0), (.aload_n 0, 0, 0), (.getfield 74, 10, 9), (.iload 5, 0, 0), (.invokevirtual 82, 62, 0), (.aload_n 0, 0, 0), (.getfield 74, 10, 9), (.getfield 78, 1, 7), (.ireturn, 0, 0)]
def jm_bp83 : List Nat := [0, 1, 4, 7, 9, 10, 13, 16, 17, 18, 19, 22, 23, 26, 27, 30, 31, 34, 35, 38, 39, 42, 43, 46, 48, 51, 52, 55, 57, 60, 61, 64, 67]
/-- X9_text -/
def jm_cd84 : List (Instr × Nat × Int) := [(.iload_n 1, 0, 0), (.ifCond .lt 14, 7, 0), (.iload_n 1, 0, 0), (.aload_n 0, 0, 0), (.getfield 74, 10, 9), (.getfield 78, 1, 7), (.if_icmp .le 5, 9, 0), (.iconst (-1), 0, (-1)), (.ireturn, 0, 0), (.aload_n 0, 0, 0), (.getfield 74, 10, 9), (.iload_n 1, 0, 0), (.aload_n 0, 0, 0), (.getfield 21, 1, 9), (.invokevirtual 86, 63, 0), (.istore_n 2, 0, 0), (.iload_n 2, 0, 0), (.ifCond .lt 21, 26, 0), (.aload_n 0, 0, 0), (.getfield 12, 0, 9), (.aload_n 0, 0, 0), (.getfield 21, 1, 9), (.invokevirtual 90, 10, 0), (.aload_n 0, 0, 0), (.getfield 57, 7, 9), (.invokevirtual 94, 53, 0), (.iload_n 2, 0, 0), (.ireturn, 0, 0)]
def jm_bp84 : List Nat := [0, 1, 4, 5, 6, 9, 12, 15, 16, 17, 18, 21, 22, 23, 26, 29, 30, 31, 34, 35, 38, 39, 42, 45, 46, 49, 52, 53]
/-- X9_grid -/
def jm_cd85 : List (Instr × Nat × Int) := [(.iload_n 1, 0, 0), (.invokestatic 97, 115, 0), (.ifCond .eq 10, 6, 0), (.iload_n 2, 0, 0), (.invokestatic 97, 115, 0), (.ifCond .ne 5, 8, 0), (.iconst (-1), 0, (-1)), (.ireturn, 0, 0), (.aload_n 0, 0, 0), (.getfield 21, 1, 9), (.iload_n 1, 0, 0), (.iload_n 2, 0, 0), (.invokevirtual 101, 75, 0), (.aload_n 0, 0, 0), (.getfield 12, 0, 9), (.aload_n 0, 0, 0), (.getfield 21, 1, 9), (.invokevirtual 90, 10, 0), (.aload_n 0, 0, 0), (.getfield 57, 7, 9), (.invokevirtual 94, 53, 0), (.aload_n 0, 0, 0), (.getfield 12, 0, 9), (.getfield 105, 13, 2), (.ireturn, 0, 0)]
def jm_bp85 : List Nat := [0, 1, 4, 7, 8, 11, 14, 15, 16, 17, 20, 21, 22, 25, 26, 29, 30, 33, 36, 37, 40, 43, 44, 47, 50]
/-- X9_slant -/
def jm_cd86 : List (Instr × Nat × Int) := [(.aload_n 0, 0, 0), (.getfield 12, 0, 9), (.iload_n 1, 0, 0), (.invokevirtual 108, 22, 0), (.ifCond .eq 12, 10, 0), (.iload_n 2, 0, 0), (.ifCond .lt 8, 10, 0), (.iload_n 2, 0, 0), (.iconst 2, 0, 2), (.if_icmp .le 5, 12, 0), (.iconst (-1), 0, (-1)), (.ireturn, 0, 0), (.aload_n 0, 0, 0), (.getfield 12, 0, 9), (.getfield 111, 0, 2), (.iload_n 1, 0, 0), (.iload_n 2, 0, 0), (.invokevirtual 114, 78, 0), (.istore_n 3, 0, 0), (.aload_n 0, 0, 0), (.getfield 12, 0, 9), (.invokevirtual 118, 11, 0), (.aload_n 0, 0, 0), (.getfield 57, 7, 9), (.invokevirtual 94, 53, 0), (.iload_n 3, 0, 0), (.ireturn, 0, 0)]
def jm_bp86 : List Nat := [0, 1, 4, 5, 8, 11, 12, 15, 16, 17, 20, 21, 22, 23, 26, 29, 30, 31, 34, 35, 36, 39, 42, 43, 46, 49, 50]
/-- X9_bears -/
def jm_cd87 : List (Instr × Nat × Int) := [(.aload_n 0, 0, 0), (.getfield 12, 0, 9), (.iload_n 1, 0, 0), (.invokevirtual 121, 20, 0), (.ifCond .eq 23, 15, 0), (.iload_n 2, 0, 0), (.invokestatic 124, 116, 0), (.ifCond .eq 16, 15, 0), (.iload_n 3, 0, 0), (.invokestatic 124, 116, 0), (.ifCond .eq 9, 15, 0), (.iload_n 2, 0, 0), (.iload_n 3, 0, 0), (.iadd, 0, 0), (.ifCond .ge 5, 17, 0), (.iconst 0, 0, 0), (.ireturn, 1, 0), (.aload_n 0, 0, 0), (.getfield 12, 0, 9), (.getfield 111, 0, 2), (.iload_n 1, 0, 0), (.iload_n 2, 0, 0), (.iload_n 3, 0, 0), (.invokevirtual 127, 77, 0), (.aload_n 0, 0, 0), (.getfield 57, 7, 9), (.invokevirtual 94, 53, 0), (.iconst 1, 0, 1), (.ireturn, 1, 0)]
def jm_bp87 : List Nat := [0, 1, 4, 5, 8, 11, 12, 15, 18, 19, 22, 25, 26, 27, 28, 31, 32, 33, 34, 37, 40, 41, 42, 43, 46, 47, 50, 53, 54]
/-- X9_edge -/
def jm_cd88 : List (Instr × Nat × Int) := [(.aload_n 0, 0, 0), (.getfield 12, 0, 9), (.iload_n 1, 0, 0), (.invokevirtual 121, 20, 0), (.ifCond .ne 6, 7, 0), (.bipush (-101), 0, (-101)), (.ireturn, 0, 0), (.iload_n 2, 0, 0), (.tableswitch 97 0 5 #[37, 47, 57, 67, 77, 87], 0, 37), (.aload_n 0, 0, 0), (.getfield 12, 0, 9), (.getfield 131, 4, 2), (.iload_n 1, 0, 0), (.iaload, 0, 0), (.ireturn, 0, 0), (.aload_n 0, 0, 0), (.getfield 12, 0, 9), (.getfield 135, 5, 2), (.iload_n 1, 0, 0), (.iaload, 0, 0), (.ireturn, 0, 0), (.aload_n 0, 0, 0), (.getfield 12, 0, 9), (.getfield 138, 1, 2), (.iload_n 1, 0, 0), (.iaload, 0, 0), (.ireturn, 0, 0), (.aload_n 0, 0, 0), (.getfield 12, 0, 9), (.getfield 141, 2, 2), (.iload_n 1, 0, 0), (.iaload, 0, 0), (.ireturn, 0, 0), (.aload_n 0, 0, 0), (.getfield 12, 0, 9), (.getfield 144, 6, 2), (.iload_n 1, 0, 0), (.iaload, 0, 0), (.ireturn, 0, 0), (.aload_n 0, 0, 0), (.getfield 12, 0, 9), (.getfield 147, 7, 2), (.iload_n 1, 0, 0), (.iaload, 0, 0), (.ireturn, 0, 0), (.bipush (-101), 0, (-101)), (.ireturn, 0, 0)]
def jm_bp88 : List Nat := [0, 1, 4, 5, 8, 11, 13, 14, 15, 52, 53, 56, 59, 60, 61, 62, 63, 66, 69, 70, 71, 72, 73, 76, 79, 80, 81, 82, 83, 86, 89, 90, 91, 92, 93, 96, 99, 100, 101, 102, 103, 106, 109, 110, 111, 112, 114]
/-- X9_around -/
def jm_cd89 : List (Instr × Nat × Int) := [(.aload_n 0, 0, 0), (.getfield 12, 0, 9), (.iload_n 1, 0, 0), (.invokevirtual 150, 21, 0), (.ifCond .ne 13, 10, 0), (.new 153, 0, 0), (.nop, 0, 0), (.nop, 0, 0), (.nop, 0, 0), (.nop, 0, 0), (.aload_n 0, 0, 0), (.getfield 12, 0, 9), (.getfield 160, 8, 2), (.iload_n 1, 0, 0), (.iaload, 0, 0), (.ireturn, 0, 0)]
def jm_bp89 : List Nat := [0, 1, 4, 5, 8, 11, 14, 15, 17, 20, 21, 22, 25, 28, 29, 30]
/-- X9_distance -/
def jm_cd90 : List (Instr × Nat × Int) := [(.aload_n 0, 0, 0), (.getfield 12, 0, 9), (.iload_n 1, 0, 0), (.invokevirtual 150, 21, 0), (.ifCond .eq 14, 10, 0), (.aload_n 0, 0, 0), (.getfield 12, 0, 9), (.iload_n 2, 0, 0), (.invokevirtual 150, 21, 0), (.ifCond .ne 13, 15, 0), (.new 153, 0, 0), (.nop, 0, 0), (.nop, 0, 0), (.nop, 0, 0), (.nop, 0, 0), (.aload_n 0, 0, 0), (.getfield 36, 4, 9), (.aload_n 0, 0, 0), (.getfield 12, 0, 9), (.invokevirtual 165, 0, 0), (.ifCond .ne 6, 23, 0), (.ldc 169, 0, (-100000)), (.ireturn, 0, 0), (.aload_n 0, 0, 0), (.getfield 43, 5, 9), (.aload_n 0, 0, 0), (.getfield 12, 0, 9), (.iload_n 2, 0, 0), (.invokevirtual 170, 40, 0), (.aload_n 0, 0, 0), (.getfield 43, 5, 9), (.iload_n 1, 0, 0), (.invokevirtual 174, 44, 0), (.ireturn, 0, 0)]
def jm_bp90 : List Nat := [0, 1, 4, 5, 8, 11, 12, 15, 16, 19, 22, 25, 26, 28, 31, 32, 33, 36, 37, 40, 43, 46, 48, 49, 50, 53, 54, 57, 58, 61, 62, 65, 66, 69]
/-- X9_route -/
def jm_cd91 : List (Instr × Nat × Int) := [(.aload_n 0, 0, 0), (.getfield 12, 0, 9), (.iload_n 1, 0, 0), (.invokevirtual 150, 21, 0), (.ifCond .eq 33, 19, 0), (.aload_n 0, 0, 0), (.getfield 12, 0, 9), (.iload_n 2, 0, 0), (.invokevirtual 150, 21, 0), (.ifCond .eq 22, 19, 0), (.iload_n 3, 0, 0), (.iconst (-1), 0, (-1)), (.if_icmp .lt 17, 19, 0), (.aload_n 0, 0, 0), (.getfield 36, 4, 9), (.aload_n 0, 0, 0), (.getfield 12, 0, 9), (.invokevirtual 165, 0, 0), (.ifCond .ne 5, 21, 0), (.iconst (-1), 0, (-1)), (.ireturn, 0, 0), (.aload_n 0, 0, 0), (.getfield 43, 5, 9), (.aload_n 0, 0, 0), (.getfield 12, 0, 9), (.iload_n 2, 0, 0), (.invokevirtual 170, 40, 0), (.iload_n 3, 0, 0), (.iconst (-1), 0, (-1)), (.if_icmp .ne 14, 35, 0), (.aload_n 0, 0, 0), (.getfield 43, 5, 9), (.iload_n 1, 0, 0), (.invokevirtual 178, 45, 0), (.goto 17, 43, 0), (.aload_n 0, 0, 0), (.getfield 43, 5, 9), (.aload_n 0, 0, 0), (.getfield 12, 0, 9), (.iload_n 1, 0, 0), (.iload_n 2, 0, 0), (.iload_n 3, 0, 0), (.invokevirtual 181, 46, 0), (.ireturn, 0, 0)]
def jm_bp91 : List Nat := [0, 1, 4, 5, 8, 11, 12, 15, 16, 19, 22, 23, 24, 27, 28, 31, 32, 35, 38, 41, 42, 43, 44, 47, 48, 51, 52, 55, 56, 57, 60, 61, 64, 65, 68, 71, 72, 75, 76, 79, 80, 81, 82, 85]
/-- X9_circulates -/
def jm_cd92 : List (Instr × Nat × Int) := [(.aload_n 0, 0, 0), (.getfield 36, 4, 9), (.aload_n 0, 0, 0), (.getfield 12, 0, 9), (.invokevirtual 165, 0, 0), (.ifCond .eq 7, 8, 0), (.iconst 1, 0, 1), (.goto 4, 9, 0), (.iconst 0, 0, 0), (.ireturn, 0, 0)]
def jm_bp92 : List Nat := [0, 1, 4, 5, 8, 11, 14, 15, 18, 19]
/-- X9_potential -/
def jm_cd93 : List (Instr × Nat × Int) := [(.aload_n 0, 0, 0), (.getfield 12, 0, 9), (.iload_n 1, 0, 0), (.invokevirtual 150, 21, 0), (.ifCond .ne 13, 10, 0), (.new 153, 0, 0), (.nop, 0, 0), (.nop, 0, 0), (.nop, 0, 0), (.nop, 0, 0), (.aload_n 0, 0, 0), (.getfield 36, 4, 9), (.aload_n 0, 0, 0), (.getfield 12, 0, 9), (.invokevirtual 165, 0, 0), (.ifCond .eq 15, 22, 0), (.aload_n 0, 0, 0), (.getfield 36, 4, 9), (.getfield 185, 0, 0), (.iload_n 1, 0, 0), (.iaload, 0, 0), (.goto 5, 23, 0), (.ldc 169, 0, (-100000)), (.ireturn, 0, 0)]
def jm_bp93 : List Nat := [0, 1, 4, 5, 8, 11, 14, 15, 17, 20, 21, 22, 25, 26, 29, 32, 35, 36, 39, 42, 43, 44, 47, 49]
/-- X9_ring -/
def jm_cd94 : List (Instr × Nat × Int) := [(.aload_n 0, 0, 0), (.getfield 36, 4, 9), (.aload_n 0, 0, 0), (.getfield 12, 0, 9), (.invokevirtual 165, 0, 0), (.ifCond .eq 6, 8, 0), (.bipush (-101), 0, (-101)), (.ireturn, 0, 0), (.aload_n 0, 0, 0), (.getfield 36, 4, 9), (.aload_n 0, 0, 0), (.getfield 12, 0, 9), (.invokevirtual 188, 3, 0), (.iload_n 1, 0, 0), (.bipush (-2), 0, (-2)), (.if_icmp .ne 11, 20, 0), (.aload_n 0, 0, 0), (.getfield 36, 4, 9), (.getfield 192, 4, 0), (.ireturn, 0, 0), (.iload_n 1, 0, 0), (.iconst (-1), 0, (-1)), (.if_icmp .ne 11, 27, 0), (.aload_n 0, 0, 0), (.getfield 36, 4, 9), (.getfield 195, 3, 0), (.ireturn, 0, 0), (.iload_n 1, 0, 0), (.ifCond .lt 26, 40, 0), (.iload_n 1, 0, 0), (.aload_n 0, 0, 0), (.getfield 36, 4, 9), (.getfield 195, 3, 0), (.if_icmp .ge 15, 40, 0), (.aload_n 0, 0, 0), (.getfield 36, 4, 9), (.getfield 198, 2, 0), (.iload_n 1, 0, 0), (.iaload, 0, 0), (.goto 5, 41, 0), (.bipush (-101), 0, (-101)), (.ireturn, 0, 0)]
def jm_bp94 : List Nat := [0, 1, 4, 5, 8, 11, 14, 16, 17, 18, 21, 22, 25, 28, 29, 31, 34, 35, 38, 41, 42, 43, 44, 47, 48, 51, 54, 55, 56, 59, 60, 61, 64, 67, 70, 71, 74, 77, 78, 79, 82, 84]
/-- X9_flow -/
def jm_cd95 : List (Instr × Nat × Int) := [(.aload_n 0, 0, 0), (.iload_n 1, 0, 0), (.iload_n 2, 0, 0), (.invokevirtual 201, 113, 0), (.ifCond .ne 5, 7, 0), (.iconst (-1), 0, (-1)), (.ireturn, 0, 0), (.aload_n 0, 0, 0), (.getfield 36, 4, 9), (.aload_n 0, 0, 0), (.getfield 12, 0, 9), (.invokevirtual 165, 0, 0), (.ifCond .ne 6, 15, 0), (.bipush (-2), 0, (-2)), (.ireturn, 0, 0), (.aload_n 0, 0, 0), (.getfield 57, 7, 9), (.aload_n 0, 0, 0), (.getfield 12, 0, 9), (.aload_n 0, 0, 0), (.getfield 36, 4, 9), (.iload_n 1, 0, 0), (.iload_n 2, 0, 0), (.invokevirtual 205, 54, 0), (.ireturn, 0, 0)]
def jm_bp95 : List Nat := [0, 1, 2, 3, 6, 9, 10, 11, 12, 15, 16, 19, 22, 25, 27, 28, 29, 32, 33, 36, 37, 40, 41, 42, 45]
/-- X9_on -/
def jm_cd96 : List (Instr × Nat × Int) := [(.aload_n 0, 0, 0), (.getfield 12, 0, 9), (.iload_n 1, 0, 0), (.invokevirtual 121, 20, 0), (.ifCond .eq 13, 9, 0), (.aload_n 0, 0, 0), (.getfield 57, 7, 9), (.getfield 209, 4, 6), (.ifCond .ne 13, 14, 0), (.new 153, 0, 0), (.nop, 0, 0), (.nop, 0, 0), (.nop, 0, 0), (.nop, 0, 0), (.aload_n 0, 0, 0), (.getfield 57, 7, 9), (.getfield 214, 0, 6), (.iload_n 1, 0, 0), (.iaload, 0, 0), (.ireturn, 0, 0)]
def jm_bp96 : List Nat := [0, 1, 4, 5, 8, 11, 12, 15, 18, 21, 24, 25, 27, 30, 31, 32, 35, 38, 39, 40]
/-- X9_left -/
def jm_cd97 : List (Instr × Nat × Int) := [(.aload_n 0, 0, 0), (.getfield 12, 0, 9), (.iload_n 1, 0, 0), (.invokevirtual 121, 20, 0), (.ifCond .eq 22, 14, 0), (.aload_n 0, 0, 0), (.getfield 57, 7, 9), (.getfield 209, 4, 6), (.ifCond .eq 12, 14, 0), (.iload_n 2, 0, 0), (.ifCond .lt 8, 14, 0), (.iload_n 2, 0, 0), (.iconst 1, 0, 1), (.if_icmp .le 13, 19, 0), (.new 153, 0, 0), (.nop, 0, 0), (.nop, 0, 0), (.nop, 0, 0), (.nop, 0, 0), (.aload_n 0, 0, 0), (.getfield 57, 7, 9), (.aload_n 0, 0, 0), (.getfield 12, 0, 9), (.iload_n 1, 0, 0), (.iload_n 2, 0, 0), (.ifCond .ne 7, 28, 0), (.iconst 1, 0, 1), (.goto 4, 29, 0), (.iconst 0, 0, 0), (.invokevirtual 219, 60, 0), (.ireturn, 0, 0)]
def jm_bp97 : List Nat := [0, 1, 4, 5, 8, 11, 12, 15, 18, 21, 22, 25, 26, 27, 30, 33, 34, 36, 39, 40, 41, 44, 45, 48, 49, 50, 53, 54, 57, 58, 61]
/-- X9_ways -/
def jm_cd98 : List (Instr × Nat × Int) := [(.aload_n 0, 0, 0), (.getfield 57, 7, 9), (.getfield 209, 4, 6), (.ifCond .ne 5, 6, 0), (.iconst (-1), 0, (-1)), (.ireturn, 0, 0), (.iload_n 1, 0, 0), (.tableswitch 75 0 4 #[35, 43, 51, 59, 67], 1, 35), (.aload_n 0, 0, 0), (.getfield 57, 7, 9), (.getfield 223, 7, 6), (.ireturn, 0, 0), (.aload_n 0, 0, 0), (.getfield 57, 7, 9), (.getfield 226, 8, 6), (.ireturn, 0, 0), (.aload_n 0, 0, 0), (.getfield 57, 7, 9), (.getfield 229, 9, 6), (.ireturn, 0, 0), (.aload_n 0, 0, 0), (.getfield 57, 7, 9), (.getfield 232, 5, 6), (.ireturn, 0, 0), (.aload_n 0, 0, 0), (.getfield 57, 7, 9), (.getfield 235, 6, 6), (.ireturn, 0, 0), (.iconst (-1), 0, (-1)), (.ireturn, 0, 0)]
def jm_bp98 : List Nat := [0, 1, 4, 7, 10, 11, 12, 13, 48, 49, 52, 55, 56, 57, 60, 63, 64, 65, 68, 71, 72, 73, 76, 79, 80, 81, 84, 87, 88, 89]
/-- X9_excess -/
def jm_cd99 : List (Instr × Nat × Int) := [(.aload_n 0, 0, 0), (.getfield 12, 0, 9), (.iload_n 1, 0, 0), (.invokevirtual 238, 19, 0), (.ifCond .eq 13, 9, 0), (.aload_n 0, 0, 0), (.getfield 57, 7, 9), (.getfield 209, 4, 6), (.ifCond .ne 13, 14, 0), (.new 153, 0, 0), (.nop, 0, 0), (.nop, 0, 0), (.nop, 0, 0), (.nop, 0, 0), (.aload_n 0, 0, 0), (.getfield 57, 7, 9), (.aload_n 0, 0, 0), (.getfield 12, 0, 9), (.iload_n 1, 0, 0), (.invokevirtual 243, 61, 0), (.ireturn, 0, 0)]
def jm_bp99 : List Nat := [0, 1, 4, 5, 8, 11, 12, 15, 18, 21, 24, 25, 27, 30, 31, 32, 35, 36, 39, 40, 43]
/-- X9_cut -/
def jm_cd100 : List (Instr × Nat × Int) := [(.aload_n 0, 0, 0), (.iload_n 1, 0, 0), (.invokevirtual 247, 114, 0), (.ifCond .ne 6, 6, 0), (.bipush (-101), 0, (-101)), (.ireturn, 0, 0), (.aload_n 0, 0, 0), (.getfield 67, 9, 9), (.aload_n 0, 0, 0), (.getfield 12, 0, 9), (.aload_n 0, 0, 0), (.getfield 57, 7, 9), (.iload_n 1, 0, 0), (.invokevirtual 250, 31, 0), (.iload_n 2, 0, 0), (.bipush (-2), 0, (-2)), (.if_icmp .ne 15, 23, 0), (.aload_n 0, 0, 0), (.getfield 67, 9, 9), (.aload_n 0, 0, 0), (.getfield 12, 0, 9), (.invokevirtual 254, 36, 0), (.ireturn, 0, 0), (.iload_n 2, 0, 0), (.iconst (-1), 0, (-1)), (.if_icmp .ne 15, 32, 0), (.aload_n 0, 0, 0), (.getfield 67, 9, 9), (.aload_n 0, 0, 0), (.getfield 12, 0, 9), (.invokevirtual 258, 34, 0), (.ireturn, 0, 0), (.aload_n 0, 0, 0), (.getfield 67, 9, 9), (.aload_n 0, 0, 0), (.getfield 12, 0, 9), (.iload_n 2, 0, 0), (.invokevirtual 261, 35, 0), (.istore_n 3, 0, 0), (.iload_n 3, 0, 0), (.iconst (-1), 0, (-1)), (.if_icmp .ne 8, 44, 0), (.bipush (-101), 0, (-101)), (.goto 4, 45, 0), (.iload_n 3, 0, 0), (.ireturn, 0, 0)]
def jm_bp100 : List Nat := [0, 1, 2, 5, 8, 10, 11, 12, 15, 16, 19, 20, 23, 24, 27, 28, 30, 33, 34, 37, 38, 41, 44, 45, 46, 47, 50, 51, 54, 55, 58, 61, 62, 63, 66, 67, 70, 71, 74, 75, 76, 77, 80, 82, 85, 86]
/-- X9_rings -/
def jm_cd101 : List (Instr × Nat × Int) := [(.aload_n 0, 0, 0), (.iload_n 1, 0, 0), (.invokevirtual 247, 114, 0), (.ifCond .ne 5, 6, 0), (.iconst (-1), 0, (-1)), (.ireturn, 0, 0), (.aload_n 0, 0, 0), (.getfield 67, 9, 9), (.aload_n 0, 0, 0), (.getfield 12, 0, 9), (.aload_n 0, 0, 0), (.getfield 57, 7, 9), (.iload_n 1, 0, 0), (.invokevirtual 250, 31, 0), (.aload_n 0, 0, 0), (.getfield 67, 9, 9), (.aload_n 0, 0, 0), (.getfield 12, 0, 9), (.invokevirtual 264, 37, 0), (.ireturn, 0, 0)]
def jm_bp101 : List Nat := [0, 1, 2, 5, 8, 9, 10, 11, 14, 15, 18, 19, 22, 23, 26, 27, 30, 31, 34, 37]
/-- X9_shared -/
def jm_cd102 : List (Instr × Nat × Int) := [(.aload_n 0, 0, 0), (.iload_n 1, 0, 0), (.iload_n 2, 0, 0), (.invokevirtual 201, 113, 0), (.ifCond .eq 27, 17, 0), (.aload_n 0, 0, 0), (.getfield 12, 0, 9), (.iload_n 1, 0, 0), (.invokevirtual 267, 23, 0), (.iconst (-1), 0, (-1)), (.if_icmp .eq 15, 17, 0), (.aload_n 0, 0, 0), (.getfield 12, 0, 9), (.iload_n 2, 0, 0), (.invokevirtual 267, 23, 0), (.iconst (-1), 0, (-1)), (.if_icmp .ne 5, 19, 0), (.iconst (-1), 0, (-1)), (.ireturn, 0, 0), (.aload_n 0, 0, 0), (.getfield 36, 4, 9), (.aload_n 0, 0, 0), (.getfield 12, 0, 9), (.invokevirtual 165, 0, 0), (.ifCond .eq 19, 33, 0), (.aload_n 0, 0, 0), (.getfield 50, 6, 9), (.aload_n 0, 0, 0), (.getfield 12, 0, 9), (.iload_n 1, 0, 0), (.iload_n 2, 0, 0), (.invokevirtual 270, 5, 0), (.goto 5, 34, 0), (.bipush (-2), 0, (-2)), (.ireturn, 0, 0)]
def jm_bp102 : List Nat := [0, 1, 2, 3, 6, 9, 10, 13, 14, 17, 18, 21, 22, 25, 26, 29, 30, 33, 34, 35, 36, 39, 40, 43, 46, 49, 50, 53, 54, 57, 58, 59, 62, 65, 67]
/-- X9_gather -/
def jm_cd103 : List (Instr × Nat × Int) := [(.aload_n 0, 0, 0), (.getfield 12, 0, 9), (.iload_n 1, 0, 0), (.invokevirtual 150, 21, 0), (.ifCond .eq 26, 16, 0), (.aload_n 0, 0, 0), (.getfield 12, 0, 9), (.iload_n 2, 0, 0), (.invokevirtual 238, 19, 0), (.ifCond .eq 15, 16, 0), (.iload_n 3, 0, 0), (.iconst 1, 0, 1), (.if_icmp .lt 10, 16, 0), (.iload_n 3, 0, 0), (.sipush 999, 0, 999), (.if_icmp .le 5, 18, 0), (.iconst (-1), 0, (-1)), (.ireturn, 0, 0), (.aload_n 0, 0, 0), (.getfield 36, 4, 9), (.aload_n 0, 0, 0), (.getfield 12, 0, 9), (.invokevirtual 165, 0, 0), (.ifCond .ne 6, 26, 0), (.bipush (-2), 0, (-2)), (.ireturn, 0, 0), (.aload_n 0, 0, 0), (.getfield 57, 7, 9), (.aload_n 0, 0, 0), (.getfield 12, 0, 9), (.aload_n 0, 0, 0), (.getfield 36, 4, 9), (.iload_n 1, 0, 0), (.iload_n 2, 0, 0), (.iload_n 3, 0, 0), (.invokevirtual 273, 55, 0), (.ireturn, 0, 0)]
def jm_bp103 : List Nat := [0, 1, 4, 5, 8, 11, 12, 15, 16, 19, 22, 23, 24, 27, 28, 31, 34, 35, 36, 37, 40, 41, 44, 47, 50, 52, 53, 54, 57, 58, 61, 62, 65, 66, 67, 68, 71]
/-- X9_supply -/
def jm_cd104 : List (Instr × Nat × Int) := [(.aload_n 0, 0, 0), (.getfield 12, 0, 9), (.iload_n 1, 0, 0), (.invokevirtual 238, 19, 0), (.ifCond .eq 10, 8, 0), (.iload_n 2, 0, 0), (.invokestatic 124, 116, 0), (.ifCond .ne 6, 10, 0), (.bipush (-101), 0, (-101)), (.ireturn, 0, 0), (.aload_n 0, 0, 0), (.getfield 12, 0, 9), (.getfield 111, 0, 2), (.iload_n 1, 0, 0), (.iload_n 2, 0, 0), (.invokevirtual 277, 79, 0), (.ireturn, 0, 0)]
def jm_bp104 : List Nat := [0, 1, 4, 5, 8, 11, 12, 15, 18, 20, 21, 22, 25, 28, 29, 30, 33]
/-- X9_meet -/
def jm_cd105 : List (Instr × Nat × Int) := [(.aload_n 0, 0, 0), (.getfield 36, 4, 9), (.aload_n 0, 0, 0), (.getfield 12, 0, 9), (.invokevirtual 165, 0, 0), (.ifCond .ne 6, 8, 0), (.bipush (-2), 0, (-2)), (.ireturn, 0, 0), (.aload_n 0, 0, 0), (.getfield 57, 7, 9), (.aload_n 0, 0, 0), (.getfield 12, 0, 9), (.aload_n 0, 0, 0), (.getfield 36, 4, 9), (.invokevirtual 280, 56, 0), (.ireturn, 0, 0)]
def jm_bp105 : List Nat := [0, 1, 4, 5, 8, 11, 14, 16, 17, 18, 21, 22, 25, 26, 29, 32]
/-- X9_gave -/
def jm_cd106 : List (Instr × Nat × Int) := [(.aload_n 0, 0, 0), (.getfield 57, 7, 9), (.getfield 209, 4, 6), (.iconst 2, 0, 2), (.if_icmp .eq 14, 10, 0), (.aload_n 0, 0, 0), (.getfield 57, 7, 9), (.getfield 209, 4, 6), (.iconst 3, 0, 3), (.if_icmp .ne 7, 12, 0), (.iconst 1, 0, 1), (.goto 4, 13, 0), (.iconst 0, 0, 0), (.istore_n 2, 0, 0), (.iload_n 2, 0, 0), (.ifCond .eq 26, 27, 0), (.aload_n 0, 0, 0), (.getfield 12, 0, 9), (.iload_n 1, 0, 0), (.invokevirtual 238, 19, 0), (.ifCond .eq 15, 27, 0), (.aload_n 0, 0, 0), (.getfield 57, 7, 9), (.getfield 284, 1, 6), (.iload_n 1, 0, 0), (.iaload, 0, 0), (.goto 5, 28, 0), (.bipush (-101), 0, (-101)), (.ireturn, 0, 0)]
def jm_bp106 : List Nat := [0, 1, 4, 7, 8, 11, 12, 15, 18, 19, 22, 23, 26, 27, 28, 29, 32, 33, 36, 37, 40, 43, 44, 47, 50, 51, 52, 55, 57]
/-- X9_were -/
def jm_cd107 : List (Instr × Nat × Int) := [(.aload_n 0, 0, 0), (.getfield 12, 0, 9), (.iload_n 1, 0, 0), (.invokevirtual 121, 20, 0), (.ifCond .eq 22, 15, 0), (.iload_n 2, 0, 0), (.ifCond .lt 18, 15, 0), (.iload_n 2, 0, 0), (.iconst 2, 0, 2), (.if_icmp .gt 13, 15, 0), (.aload_n 0, 0, 0), (.iload_n 3, 0, 0), (.iload 4, 0, 0), (.invokevirtual 201, 113, 0), (.ifCond .ne 5, 17, 0), (.iconst (-1), 0, (-1)), (.ireturn, 0, 0), (.iload_n 2, 0, 0), (.ifCond .ne 14, 27, 0), (.aload_n 0, 0, 0), (.iload_n 1, 0, 0), (.iconst 0, 0, 0), (.iconst 0, 0, 0), (.iload_n 3, 0, 0), (.iload 4, 0, 0), (.invokevirtual 287, 117, 0), (.ireturn, 0, 0), (.aload_n 0, 0, 0), (.getfield 12, 0, 9), (.getfield 138, 1, 2), (.iload_n 1, 0, 0), (.iaload, 0, 0), (.iload_n 2, 0, 0), (.iconst 1, 0, 1), (.if_icmp .ne 7, 37, 0), (.iconst 1, 0, 1), (.goto 4, 38, 0), (.iconst 0, 0, 0), (.iadd, 0, 0), (.istore 5, 0, 0), (.aload_n 0, 0, 0), (.getfield 12, 0, 9), (.getfield 141, 2, 2), (.iload_n 1, 0, 0), (.iaload, 0, 0), (.iload_n 2, 0, 0), (.iconst 2, 0, 2), (.if_icmp .ne 7, 50, 0), (.iconst 1, 0, 1), (.goto 4, 51, 0), (.iconst 0, 0, 0), (.iadd, 0, 0), (.istore 6, 0, 0), (.aload_n 0, 0, 0), (.iload_n 1, 0, 0), (.iload 5, 0, 0), (.iload 6, 0, 0), (.iload_n 3, 0, 0), (.iload 4, 0, 0), (.invokevirtual 287, 117, 0), (.ireturn, 0, 0)]
def jm_bp107 : List Nat := [0, 1, 4, 5, 8, 11, 12, 15, 16, 17, 20, 21, 22, 24, 27, 30, 31, 32, 33, 36, 37, 38, 39, 40, 41, 43, 46, 47, 48, 51, 54, 55, 56, 57, 58, 61, 62, 65, 66, 67, 69, 70, 73, 76, 77, 78, 79, 80, 83, 84, 87, 88, 89, 91, 92, 93, 95, 97, 98, 100, 103]
/-- X9_counts -/
def jm_cd108 : List (Instr × Nat × Int) := [(.iload_n 1, 0, 0), (.ifCond .lt 17, 10, 0), (.iload_n 1, 0, 0), (.iconst 1, 0, 1), (.if_icmp .gt 12, 10, 0), (.aload_n 0, 0, 0), (.iload_n 2, 0, 0), (.iload_n 3, 0, 0), (.invokevirtual 201, 113, 0), (.ifCond .ne 5, 12, 0), (.iconst (-1), 0, (-1)), (.ireturn, 0, 0), (.aload_n 0, 0, 0), (.getfield 36, 4, 9), (.aload_n 0, 0, 0), (.getfield 12, 0, 9), (.invokevirtual 165, 0, 0), (.ifCond .ne 6, 20, 0), (.bipush (-2), 0, (-2)), (.ireturn, 0, 0), (.aload_n 0, 0, 0), (.getfield 61, 8, 9), (.aload_n 0, 0, 0), (.getfield 12, 0, 9), (.aload_n 0, 0, 0), (.getfield 36, 4, 9), (.iload_n 2, 0, 0), (.iload_n 3, 0, 0), (.invokevirtual 205, 54, 0), (.istore 4, 0, 0), (.iconst 0, 0, 0), (.istore 5, 0, 0), (.iconst 0, 0, 0), (.istore 6, 0, 0), (.iload 6, 0, 0), (.aload_n 0, 0, 0), (.getfield 12, 0, 9), (.getfield 105, 13, 2), (.if_icmp .ge 88, 84, 0), (.aload_n 0, 0, 0), (.getfield 12, 0, 9), (.getfield 291, 3, 2), (.iload 6, 0, 0), (.iaload, 0, 0), (.istore 7, 0, 0), (.iload_n 1, 0, 0), (.ifCond .ne 21, 57, 0), (.aload_n 0, 0, 0), (.iload 7, 0, 0), (.iconst 0, 0, 0), (.iconst 0, 0, 0), (.iload_n 2, 0, 0), (.iload_n 3, 0, 0), (.invokevirtual 287, 117, 0), (.iload 4, 0, 0), (.if_icmp .ge 6, 57, 0), (.iinc 5 1, 0, 1), (.iload_n 1, 0, 0), (.iconst 1, 0, 1), (.if_icmp .ne 43, 82, 0), (.aload_n 0, 0, 0), (.iload 7, 0, 0), (.aload_n 0, 0, 0), (.getfield 12, 0, 9), (.getfield 138, 1, 2), (.iload 7, 0, 0), (.iaload, 0, 0), (.iconst 1, 0, 1), (.iadd, 0, 0), (.aload_n 0, 0, 0), (.getfield 12, 0, 9), (.getfield 141, 2, 2), (.iload 7, 0, 0), (.iaload, 0, 0), (.iconst 1, 0, 1), (.iadd, 0, 0), (.iload_n 2, 0, 0), (.iload_n 3, 0, 0), (.invokevirtual 287, 117, 0), (.iload 4, 0, 0), (.if_icmp .le 6, 82, 0), (.iinc 5 1, 0, 1), (.iinc 6 1, 0, 1), (.goto (-94), 34, 0), (.iload 5, 0, 0), (.ireturn, 0, 0)]
def jm_bp108 : List Nat := [0, 1, 4, 5, 6, 9, 10, 11, 12, 15, 18, 19, 20, 21, 24, 25, 28, 31, 34, 36, 37, 38, 41, 42, 45, 46, 49, 50, 51, 54, 56, 57, 59, 60, 62, 64, 65, 68, 71, 74, 75, 78, 81, 83, 84, 86, 87, 90, 91, 93, 94, 95, 96, 97, 100, 102, 105, 108, 109, 110, 113, 114, 116, 117, 120, 123, 125, 126, 127, 128, 129, 132, 135, 137, 138, 139, 140, 141, 142, 145, 147, 150, 153, 156, 159, 161]
/-- X9_worst -/
def jm_cd109 : List (Instr × Nat × Int) := [(.aload_n 0, 0, 0), (.getfield 12, 0, 9), (.iload_n 1, 0, 0), (.invokevirtual 238, 19, 0), (.ifCond .eq 12, 10, 0), (.iload_n 2, 0, 0), (.ifCond .lt 8, 10, 0), (.iload_n 2, 0, 0), (.iconst 1, 0, 1), (.if_icmp .le 5, 12, 0), (.iconst (-1), 0, (-1)), (.ireturn, 0, 0), (.aload_n 0, 0, 0), (.getfield 36, 4, 9), (.aload_n 0, 0, 0), (.getfield 12, 0, 9), (.invokevirtual 165, 0, 0), (.ifCond .ne 6, 20, 0), (.bipush (-2), 0, (-2)), (.ireturn, 0, 0), (.iconst (-1), 0, (-1)), (.istore_n 3, 0, 0), (.ldc_w 294, 0, 1000000), (.istore 4, 0, 0), (.iconst 0, 0, 0), (.istore 5, 0, 0), (.iload 5, 0, 0), (.aload_n 0, 0, 0), (.getfield 12, 0, 9), (.getfield 295, 12, 2), (.if_icmp .ge 49, 53, 0), (.iload 5, 0, 0), (.iload_n 1, 0, 0), (.if_icmp .eq 37, 51, 0), (.aload_n 0, 0, 0), (.getfield 61, 8, 9), (.aload_n 0, 0, 0), (.getfield 12, 0, 9), (.aload_n 0, 0, 0), (.getfield 36, 4, 9), (.iload_n 1, 0, 0), (.iload 5, 0, 0), (.invokevirtual 205, 54, 0), (.istore 6, 0, 0), (.iload 6, 0, 0), (.iload 4, 0, 0), (.if_icmp .ge 10, 51, 0), (.iload 6, 0, 0), (.istore 4, 0, 0), (.iload 5, 0, 0), (.istore_n 3, 0, 0), (.iinc 5 1, 0, 1), (.goto (-55), 26, 0), (.iload_n 2, 0, 0), (.ifCond .ne 7, 57, 0), (.iload_n 3, 0, 0), (.goto 5, 58, 0), (.iload 4, 0, 0), (.ireturn, 0, 0)]
def jm_bp109 : List Nat := [0, 1, 4, 5, 8, 11, 12, 15, 16, 17, 20, 21, 22, 23, 26, 27, 30, 33, 36, 38, 39, 40, 41, 44, 46, 47, 49, 51, 52, 55, 58, 61, 63, 64, 67, 68, 71, 72, 75, 76, 79, 80, 82, 85, 87, 89, 91, 94, 96, 98, 100, 101, 104, 107, 108, 111, 112, 115, 117]
/-- X9_image -/
def jm_cd110 : List (Instr × Nat × Int) := [(.iload_n 1, 0, 0), (.ifCond .lt 8, 5, 0), (.iload_n 1, 0, 0), (.iconst 2, 0, 2), (.if_icmp .lt 5, 7, 0), (.iconst 0, 0, 0), (.ireturn, 1, 0), (.aload_n 0, 0, 0), (.getfield 25, 2, 9), (.iload_n 1, 0, 0), (.aaload, 0, 0), (.aload_n 0, 0, 0), (.getfield 12, 0, 9), (.getfield 111, 0, 2), (.invokevirtual 298, 76, 0), (.aload_n 0, 0, 0), (.getfield 29, 3, 9), (.iload_n 1, 0, 0), (.iconst 1, 0, 1), (.bastore, 0, 0), (.iconst 1, 0, 1), (.ireturn, 1, 0)]
def jm_bp110 : List Nat := [0, 1, 4, 5, 6, 9, 10, 11, 12, 15, 16, 17, 18, 21, 24, 27, 28, 31, 32, 33, 34, 35]
/-- X9_back -/
def jm_cd111 : List (Instr × Nat × Int) := [(.iload_n 1, 0, 0), (.ifCond .lt 17, 10, 0), (.iload_n 1, 0, 0), (.iconst 2, 0, 2), (.if_icmp .ge 12, 10, 0), (.aload_n 0, 0, 0), (.getfield 29, 3, 9), (.iload_n 1, 0, 0), (.baload, 0, 0), (.ifCond .ne 5, 12, 0), (.iconst 0, 0, 0), (.ireturn, 1, 0), (.aload_n 0, 0, 0), (.getfield 12, 0, 9), (.aload_n 0, 0, 0), (.getfield 25, 2, 9), (.iload_n 1, 0, 0), (.aaload, 0, 0), (.invokevirtual 90, 10, 0), (.aload_n 0, 0, 0), (.getfield 57, 7, 9), (.invokevirtual 94, 53, 0), (.iconst 1, 0, 1), (.ireturn, 1, 0)]
def jm_bp111 : List Nat := [0, 1, 4, 5, 6, 9, 10, 13, 14, 15, 18, 19, 20, 21, 24, 25, 28, 29, 30, 33, 34, 37, 40, 41]
/-- X9_count -/
def jm_cd112 : List (Instr × Nat × Int) := [(.iload_n 1, 0, 0), (.tableswitch 151 0 9 #[55, 66, 77, 85, 93, 101, 109, 125, 133, 142], 2, 55), (.aload_n 0, 0, 0), (.getfield 12, 0, 9), (.getfield 111, 0, 2), (.getfield 301, 4, 8), (.ireturn, 0, 0), (.aload_n 0, 0, 0), (.getfield 12, 0, 9), (.getfield 111, 0, 2), (.getfield 304, 5, 8), (.ireturn, 0, 0), (.aload_n 0, 0, 0), (.getfield 12, 0, 9), (.getfield 105, 13, 2), (.ireturn, 0, 0), (.aload_n 0, 0, 0), (.getfield 12, 0, 9), (.getfield 307, 14, 2), (.ireturn, 0, 0), (.aload_n 0, 0, 0), (.getfield 12, 0, 9), (.getfield 310, 15, 2), (.ireturn, 0, 0), (.aload_n 0, 0, 0), (.getfield 12, 0, 9), (.invokevirtual 313, 29, 0), (.ireturn, 0, 0), (.aload_n 0, 0, 0), (.getfield 57, 7, 9), (.getfield 209, 4, 6), (.ifCond .ne 7, 34, 0), (.iconst 0, 0, 0), (.goto 4, 35, 0), (.iconst 1, 0, 1), (.ireturn, 0, 0), (.aload_n 0, 0, 0), (.getfield 74, 10, 9), (.getfield 78, 1, 7), (.ireturn, 0, 0), (.aload_n 0, 0, 0), (.getfield 12, 0, 9), (.iconst 1, 0, 1), (.invokevirtual 317, 30, 0), (.ireturn, 0, 0), (.aload_n 0, 0, 0), (.getfield 12, 0, 9), (.iconst (-1), 0, (-1)), (.invokevirtual 317, 30, 0), (.ireturn, 0, 0), (.iconst (-1), 0, (-1)), (.ireturn, 0, 0)]
def jm_bp112 : List Nat := [0, 1, 56, 57, 60, 63, 66, 67, 68, 71, 74, 77, 78, 79, 82, 85, 86, 87, 90, 93, 94, 95, 98, 101, 102, 103, 106, 109, 110, 111, 114, 117, 120, 121, 124, 125, 126, 127, 130, 133, 134, 135, 138, 139, 142, 143, 144, 147, 148, 151, 152, 153]
/-- X9_isPair -/
def jm_cd113 : List (Instr × Nat × Int) := [(.aload_n 0, 0, 0), (.getfield 12, 0, 9), (.iload_n 1, 0, 0), (.invokevirtual 238, 19, 0), (.ifCond .eq 23, 15, 0), (.aload_n 0, 0, 0), (.getfield 12, 0, 9), (.iload_n 2, 0, 0), (.invokevirtual 238, 19, 0), (.ifCond .eq 12, 15, 0), (.iload_n 1, 0, 0), (.iload_n 2, 0, 0), (.if_icmp .eq 7, 15, 0), (.iconst 1, 0, 1), (.goto 4, 16, 0), (.iconst 0, 0, 0), (.ireturn, 1, 0)]
def jm_bp113 : List Nat := [0, 1, 4, 5, 8, 11, 12, 15, 16, 19, 22, 23, 24, 27, 28, 31, 32]
/-- X9_hasCut -/
def jm_cd114 : List (Instr × Nat × Int) := [(.aload_n 0, 0, 0), (.getfield 57, 7, 9), (.getfield 209, 4, 6), (.iconst 1, 0, 1), (.if_icmp .ne 16, 12, 0), (.iload_n 1, 0, 0), (.ifCond .lt 12, 12, 0), (.iload_n 1, 0, 0), (.iconst 1, 0, 1), (.if_icmp .gt 7, 12, 0), (.iconst 1, 0, 1), (.goto 4, 13, 0), (.iconst 0, 0, 0), (.ireturn, 1, 0)]
def jm_bp114 : List Nat := [0, 1, 4, 7, 8, 11, 12, 15, 16, 17, 20, 21, 24, 25]
/-- X9_isSide -/
def jm_cd115 : List (Instr × Nat × Int) := [(.iload_n 0, 0, 0), (.iconst 2, 0, 2), (.if_icmp .lt 13, 8, 0), (.iload_n 0, 0, 0), (.bipush 6, 0, 6), (.if_icmp .gt 7, 8, 0), (.iconst 1, 0, 1), (.goto 4, 9, 0), (.iconst 0, 0, 0), (.ireturn, 1, 0)]
def jm_bp115 : List Nat := [0, 1, 2, 5, 6, 8, 11, 12, 15, 16]
/-- X9_isBearable -/
def jm_cd116 : List (Instr × Nat × Int) := [(.iload_n 0, 0, 0), (.bipush (-99), 0, (-99)), (.if_icmp .lt 13, 8, 0), (.iload_n 0, 0, 0), (.bipush 99, 0, 99), (.if_icmp .gt 7, 8, 0), (.iconst 1, 0, 1), (.goto 4, 9, 0), (.iconst 0, 0, 0), (.ireturn, 1, 0)]
def jm_bp116 : List Nat := [0, 1, 3, 6, 7, 9, 12, 13, 16, 17]
/-- X9_valueWith -/
def jm_cd117 : List (Instr × Nat × Int) := [(.aload_n 0, 0, 0), (.getfield 12, 0, 9), (.getfield 138, 1, 2), (.iload_n 1, 0, 0), (.iaload, 0, 0), (.istore 6, 0, 0), (.aload_n 0, 0, 0), (.getfield 12, 0, 9), (.getfield 141, 2, 2), (.iload_n 1, 0, 0), (.iaload, 0, 0), (.istore 7, 0, 0), (.aload_n 0, 0, 0), (.getfield 12, 0, 9), (.getfield 111, 0, 2), (.iload_n 1, 0, 0), (.iload_n 2, 0, 0), (.iload_n 3, 0, 0), (.invokevirtual 127, 77, 0), (.aload_n 0, 0, 0), (.getfield 36, 4, 9), (.aload_n 0, 0, 0), (.getfield 12, 0, 9), (.invokevirtual 165, 0, 0), (.ifCond .eq 25, 35, 0), (.aload_n 0, 0, 0), (.getfield 61, 8, 9), (.aload_n 0, 0, 0), (.getfield 12, 0, 9), (.aload_n 0, 0, 0), (.getfield 36, 4, 9), (.iload 4, 0, 0), (.iload 5, 0, 0), (.invokevirtual 205, 54, 0), (.goto 5, 36, 0), (.bipush (-2), 0, (-2)), (.istore 8, 0, 0), (.aload_n 0, 0, 0), (.getfield 12, 0, 9), (.getfield 111, 0, 2), (.iload_n 1, 0, 0), (.iload 6, 0, 0), (.iload 7, 0, 0), (.invokevirtual 127, 77, 0), (.iload 8, 0, 0), (.ireturn, 0, 0)]
def jm_bp117 : List Nat := [0, 1, 4, 7, 8, 9, 11, 12, 15, 18, 19, 20, 22, 23, 26, 29, 30, 31, 32, 35, 36, 39, 40, 43, 46, 49, 50, 53, 54, 57, 58, 61, 63, 65, 68, 71, 73, 75, 76, 79, 82, 83, 85, 87, 90, 92]
/-- X10_thrown -/
def jm_cd118 : List (Instr × Nat × Int) := [(.aload_n 0, 0, 0), (.getfield 1, 0, 10), (.ireturn, 0, 0)]
def jm_bp118 : List Nat := [0, 1, 4]
/-- X10_within -/
def jm_cd119 : List (Instr × Nat × Int) := [(.iload_n 0, 0, 0), (.iload_n 1, 0, 0), (.if_icmp .lt 12, 8, 0), (.iload_n 0, 0, 0), (.iload_n 2, 0, 0), (.if_icmp .gt 7, 8, 0), (.iconst 1, 0, 1), (.goto 4, 9, 0), (.iconst 0, 0, 0), (.ireturn, 1, 0)]
def jm_bp119 : List Nat := [0, 1, 2, 5, 6, 7, 10, 11, 14, 15]
/-- X10_begins -/
def jm_cd120 : List (Instr × Nat × Int) := [(.aload_n 0, 0, 0), (.iload_n 1, 0, 0), (.putfield 98, 1, 10), (.aload_n 0, 0, 0), (.iload_n 2, 0, 0), (.putfield 101, 2, 10), (.iconst 0, 0, 0), (.istore_n 3, 0, 0), (.iload_n 3, 0, 0), (.bipush 36, 0, 36), (.if_icmp .ge 23, 23, 0), (.aload_n 0, 0, 0), (.getfield 13, 3, 10), (.iload_n 3, 0, 0), (.iconst 0, 0, 0), (.iastore, 0, 0), (.aload_n 0, 0, 0), (.getfield 23, 6, 10), (.iload_n 3, 0, 0), (.iconst 0, 0, 0), (.iastore, 0, 0), (.iinc 3 1, 0, 1), (.goto (-23), 8, 0), (.iconst 0, 0, 0), (.istore_n 3, 0, 0), (.iload_n 3, 0, 0), (.bipush 108, 0, 108), (.if_icmp .ge 23, 40, 0), (.aload_n 0, 0, 0), (.getfield 17, 4, 10), (.iload_n 3, 0, 0), (.iconst 0, 0, 0), (.iastore, 0, 0), (.aload_n 0, 0, 0), (.getfield 20, 5, 10), (.iload_n 3, 0, 0), (.iconst 0, 0, 0), (.iastore, 0, 0), (.iinc 3 1, 0, 1), (.goto (-23), 25, 0), (.aload_n 0, 0, 0), (.iconst 0, 0, 0), (.putfield 104, 33, 10), (.return_, 0, 0)]
def jm_bp120 : List Nat := [0, 1, 2, 5, 6, 7, 10, 11, 12, 13, 15, 18, 19, 22, 23, 24, 25, 26, 29, 30, 31, 32, 35, 38, 39, 40, 41, 43, 46, 47, 50, 51, 52, 53, 54, 57, 58, 59, 60, 63, 66, 67, 68, 71]
/-- X10_nodes -/
def jm_cd121 : List (Instr × Nat × Int) := [(.aload_n 0, 0, 0), (.getfield 98, 1, 10), (.aload_n 0, 0, 0), (.getfield 101, 2, 10), (.imul, 0, 0), (.ireturn, 0, 0)]
def jm_bp121 : List Nat := [0, 1, 4, 5, 8, 9]
/-- X10_isNode -/
def jm_cd122 : List (Instr × Nat × Int) := [(.iload_n 1, 0, 0), (.iconst 0, 0, 0), (.aload_n 0, 0, 0), (.invokevirtual 108, 121, 0), (.iconst 1, 0, 1), (.isub, 0, 0), (.invokestatic 112, 119, 0), (.ireturn, 1, 0)]
def jm_bp122 : List Nat := [0, 1, 2, 3, 6, 7, 8, 11]
/-- X10_isCell -/
def jm_cd123 : List (Instr × Nat × Int) := [(.aload_n 0, 0, 0), (.iload_n 1, 0, 0), (.invokevirtual 116, 122, 0), (.ifCond .eq 37, 24, 0), (.iload_n 1, 0, 0), (.aload_n 0, 0, 0), (.getfield 98, 1, 10), (.irem, 0, 0), (.aload_n 0, 0, 0), (.getfield 98, 1, 10), (.iconst 1, 0, 1), (.isub, 0, 0), (.if_icmp .ge 22, 24, 0), (.iload_n 1, 0, 0), (.aload_n 0, 0, 0), (.getfield 98, 1, 10), (.idiv, 0, 0), (.aload_n 0, 0, 0), (.getfield 101, 2, 10), (.iconst 1, 0, 1), (.isub, 0, 0), (.if_icmp .ge 7, 24, 0), (.iconst 1, 0, 1), (.goto 4, 25, 0), (.iconst 0, 0, 0), (.ireturn, 1, 0)]
def jm_bp123 : List Nat := [0, 1, 2, 5, 8, 9, 10, 13, 14, 15, 18, 19, 20, 23, 24, 25, 28, 29, 30, 33, 34, 35, 38, 39, 42, 43]
/-- X10_isEdge -/
def jm_cd124 : List (Instr × Nat × Int) := [(.iload_n 1, 0, 0), (.iconst 3, 0, 3), (.idiv, 0, 0), (.istore_n 2, 0, 0), (.iload_n 1, 0, 0), (.ifCond .lt 11, 10, 0), (.aload_n 0, 0, 0), (.iload_n 2, 0, 0), (.invokevirtual 116, 122, 0), (.ifCond .ne 5, 12, 0), (.iconst 0, 0, 0), (.ireturn, 1, 0), (.iload_n 1, 0, 0), (.iconst 3, 0, 3), (.irem, 0, 0), (.ifCond .ne 26, 29, 0), (.iload_n 2, 0, 0), (.aload_n 0, 0, 0), (.getfield 98, 1, 10), (.irem, 0, 0), (.aload_n 0, 0, 0), (.getfield 98, 1, 10), (.iconst 1, 0, 1), (.isub, 0, 0), (.if_icmp .ge 7, 27, 0), (.iconst 1, 0, 1), (.goto 59, 59, 0), (.iconst 0, 0, 0), (.goto 55, 59, 0), (.iload_n 1, 0, 0), (.iconst 3, 0, 3), (.irem, 0, 0), (.iconst 1, 0, 1), (.if_icmp .ne 26, 47, 0), (.iload_n 2, 0, 0), (.aload_n 0, 0, 0), (.getfield 98, 1, 10), (.idiv, 0, 0), (.aload_n 0, 0, 0), (.getfield 101, 2, 10), (.iconst 1, 0, 1), (.isub, 0, 0), (.if_icmp .ge 7, 45, 0), (.iconst 1, 0, 1), (.goto 29, 59, 0), (.iconst 0, 0, 0), (.goto 25, 59, 0), (.aload_n 0, 0, 0), (.iload_n 2, 0, 0), (.invokevirtual 120, 123, 0), (.ifCond .eq 16, 58, 0), (.aload_n 0, 0, 0), (.getfield 13, 3, 10), (.iload_n 2, 0, 0), (.iaload, 0, 0), (.ifCond .le 7, 58, 0), (.iconst 1, 0, 1), (.goto 4, 59, 0), (.iconst 0, 0, 0), (.ireturn, 1, 0)]
def jm_bp124 : List Nat := [0, 1, 2, 3, 4, 5, 8, 9, 10, 13, 16, 17, 18, 19, 20, 21, 24, 25, 26, 29, 30, 31, 34, 35, 36, 39, 40, 43, 44, 47, 48, 49, 50, 51, 54, 55, 56, 59, 60, 61, 64, 65, 66, 69, 70, 73, 74, 77, 78, 79, 82, 85, 86, 89, 90, 91, 94, 95, 98, 99]
/-- X10_fromOf -/
def jm_cd125 : List (Instr × Nat × Int) := [(.iload_n 1, 0, 0), (.iconst 3, 0, 3), (.irem, 0, 0), (.iconst 2, 0, 2), (.if_icmp .ne 23, 19, 0), (.aload_n 0, 0, 0), (.getfield 13, 3, 10), (.iload_n 1, 0, 0), (.iconst 3, 0, 3), (.idiv, 0, 0), (.iaload, 0, 0), (.iconst 2, 0, 2), (.if_icmp .ne 11, 19, 0), (.iload_n 1, 0, 0), (.iconst 3, 0, 3), (.idiv, 0, 0), (.iconst 1, 0, 1), (.iadd, 0, 0), (.goto 6, 22, 0), (.iload_n 1, 0, 0), (.iconst 3, 0, 3), (.idiv, 0, 0), (.ireturn, 0, 0)]
def jm_bp125 : List Nat := [0, 1, 2, 3, 4, 7, 8, 11, 12, 13, 14, 15, 16, 19, 20, 21, 22, 23, 24, 27, 28, 29, 30]
/-- X10_toOf -/
def jm_cd126 : List (Instr × Nat × Int) := [(.iload_n 1, 0, 0), (.iconst 3, 0, 3), (.idiv, 0, 0), (.istore_n 2, 0, 0), (.iload_n 1, 0, 0), (.iconst 3, 0, 3), (.irem, 0, 0), (.ifCond .ne 9, 12, 0), (.iload_n 2, 0, 0), (.iconst 1, 0, 1), (.iadd, 0, 0), (.goto 37, 34, 0), (.iload_n 1, 0, 0), (.iconst 3, 0, 3), (.irem, 0, 0), (.iconst 1, 0, 1), (.if_icmp .eq 13, 23, 0), (.aload_n 0, 0, 0), (.getfield 13, 3, 10), (.iload_n 2, 0, 0), (.iaload, 0, 0), (.iconst 2, 0, 2), (.if_icmp .ne 12, 28, 0), (.iload_n 2, 0, 0), (.aload_n 0, 0, 0), (.getfield 98, 1, 10), (.iadd, 0, 0), (.goto 11, 34, 0), (.iload_n 2, 0, 0), (.aload_n 0, 0, 0), (.getfield 98, 1, 10), (.iadd, 0, 0), (.iconst 1, 0, 1), (.iadd, 0, 0), (.ireturn, 0, 0)]
def jm_bp126 : List Nat := [0, 1, 2, 3, 4, 5, 6, 7, 10, 11, 12, 13, 16, 17, 18, 19, 20, 23, 24, 27, 28, 29, 30, 33, 34, 35, 38, 39, 42, 43, 44, 47, 48, 49, 50]
/-- X10_faceAt -/
def jm_cd127 : List (Instr × Nat × Int) := [(.iload_n 2, 0, 0), (.aload_n 0, 0, 0), (.getfield 98, 1, 10), (.imul, 0, 0), (.iload_n 1, 0, 0), (.iadd, 0, 0), (.istore 4, 0, 0), (.iload_n 1, 0, 0), (.ifCond .lt 27, 23, 0), (.iload_n 2, 0, 0), (.ifCond .lt 23, 23, 0), (.iload_n 1, 0, 0), (.aload_n 0, 0, 0), (.getfield 98, 1, 10), (.iconst 1, 0, 1), (.isub, 0, 0), (.if_icmp .ge 13, 23, 0), (.iload_n 2, 0, 0), (.aload_n 0, 0, 0), (.getfield 101, 2, 10), (.iconst 1, 0, 1), (.isub, 0, 0), (.if_icmp .lt 6, 25, 0), (.bipush 72, 0, 72), (.ireturn, 0, 0), (.aload_n 0, 0, 0), (.getfield 13, 3, 10), (.iload 4, 0, 0), (.iaload, 0, 0), (.ifCond .le 44, 53, 0), (.iload_n 3, 0, 0), (.iconst 2, 0, 2), (.if_icmp .eq 35, 51, 0), (.iload_n 3, 0, 0), (.iconst 1, 0, 1), (.if_icmp .ne 14, 42, 0), (.aload_n 0, 0, 0), (.getfield 13, 3, 10), (.iload 4, 0, 0), (.iaload, 0, 0), (.iconst 2, 0, 2), (.if_icmp .eq 19, 51, 0), (.iload_n 3, 0, 0), (.iconst 3, 0, 3), (.if_icmp .ne 18, 53, 0), (.aload_n 0, 0, 0), (.getfield 13, 3, 10), (.iload 4, 0, 0), (.iaload, 0, 0), (.iconst 1, 0, 1), (.if_icmp .ne 7, 53, 0), (.iconst 1, 0, 1), (.goto 4, 54, 0), (.iconst 0, 0, 0), (.istore 5, 0, 0), (.iconst 2, 0, 2), (.iload 4, 0, 0), (.imul, 0, 0), (.iload 5, 0, 0), (.ifCond .eq 7, 62, 0), (.iconst 1, 0, 1), (.goto 4, 63, 0), (.iconst 0, 0, 0), (.iadd, 0, 0), (.ireturn, 0, 0)]
def jm_bp127 : List Nat := [0, 1, 2, 5, 6, 7, 8, 10, 11, 14, 15, 18, 19, 20, 23, 24, 25, 28, 29, 30, 33, 34, 35, 38, 40, 41, 42, 45, 47, 48, 51, 52, 53, 56, 57, 58, 61, 62, 65, 67, 68, 69, 72, 73, 74, 77, 78, 81, 83, 84, 85, 88, 89, 92, 93, 95, 96, 98, 99, 101, 104, 105, 108, 109, 110]
/-- X10_leftOf -/
def jm_cd128 : List (Instr × Nat × Int) := [(.iload_n 1, 0, 0), (.iconst 3, 0, 3), (.idiv, 0, 0), (.istore_n 2, 0, 0), (.iload_n 2, 0, 0), (.aload_n 0, 0, 0), (.getfield 98, 1, 10), (.irem, 0, 0), (.istore_n 3, 0, 0), (.iload_n 2, 0, 0), (.aload_n 0, 0, 0), (.getfield 98, 1, 10), (.idiv, 0, 0), (.istore 4, 0, 0), (.iload_n 1, 0, 0), (.iconst 3, 0, 3), (.irem, 0, 0), (.ifCond .ne 14, 26, 0), (.aload_n 0, 0, 0), (.iload_n 3, 0, 0), (.iload 4, 0, 0), (.iconst 1, 0, 1), (.isub, 0, 0), (.iconst 2, 0, 2), (.invokevirtual 123, 127, 0), (.ireturn, 0, 0), (.iload_n 1, 0, 0), (.iconst 3, 0, 3), (.irem, 0, 0), (.iconst 1, 0, 1), (.if_icmp .ne 14, 37, 0), (.aload_n 0, 0, 0), (.iload_n 3, 0, 0), (.iload 4, 0, 0), (.iconst 3, 0, 3), (.invokevirtual 123, 127, 0), (.goto 24, 52, 0), (.aload_n 0, 0, 0), (.getfield 13, 3, 10), (.iload_n 2, 0, 0), (.iaload, 0, 0), (.iconst 1, 0, 1), (.if_icmp .ne 9, 47, 0), (.iconst 2, 0, 2), (.iload_n 2, 0, 0), (.imul, 0, 0), (.goto 8, 52, 0), (.iconst 2, 0, 2), (.iload_n 2, 0, 0), (.imul, 0, 0), (.iconst 1, 0, 1), (.iadd, 0, 0), (.ireturn, 0, 0)]
def jm_bp128 : List Nat := [0, 1, 2, 3, 4, 5, 6, 9, 10, 11, 12, 13, 16, 17, 19, 20, 21, 22, 25, 26, 27, 29, 30, 31, 32, 35, 36, 37, 38, 39, 40, 43, 44, 45, 47, 48, 51, 54, 55, 58, 59, 60, 61, 64, 65, 66, 67, 70, 71, 72, 73, 74, 75]
/-- X10_rightOf -/
def jm_cd129 : List (Instr × Nat × Int) := [(.iload_n 1, 0, 0), (.iconst 3, 0, 3), (.idiv, 0, 0), (.istore_n 2, 0, 0), (.iload_n 2, 0, 0), (.aload_n 0, 0, 0), (.getfield 98, 1, 10), (.irem, 0, 0), (.istore_n 3, 0, 0), (.iload_n 2, 0, 0), (.aload_n 0, 0, 0), (.getfield 98, 1, 10), (.idiv, 0, 0), (.istore 4, 0, 0), (.iload_n 1, 0, 0), (.iconst 3, 0, 3), (.irem, 0, 0), (.ifCond .ne 12, 24, 0), (.aload_n 0, 0, 0), (.iload_n 3, 0, 0), (.iload 4, 0, 0), (.iconst 0, 0, 0), (.invokevirtual 123, 127, 0), (.ireturn, 0, 0), (.iload_n 1, 0, 0), (.iconst 3, 0, 3), (.irem, 0, 0), (.iconst 1, 0, 1), (.if_icmp .ne 16, 37, 0), (.aload_n 0, 0, 0), (.iload_n 3, 0, 0), (.iconst 1, 0, 1), (.isub, 0, 0), (.iload 4, 0, 0), (.iconst 1, 0, 1), (.invokevirtual 123, 127, 0), (.goto 24, 52, 0), (.aload_n 0, 0, 0), (.getfield 13, 3, 10), (.iload_n 2, 0, 0), (.iaload, 0, 0), (.iconst 1, 0, 1), (.if_icmp .ne 11, 49, 0), (.iconst 2, 0, 2), (.iload_n 2, 0, 0), (.imul, 0, 0), (.iconst 1, 0, 1), (.iadd, 0, 0), (.goto 6, 52, 0), (.iconst 2, 0, 2), (.iload_n 2, 0, 0), (.imul, 0, 0), (.ireturn, 0, 0)]
def jm_bp129 : List Nat := [0, 1, 2, 3, 4, 5, 6, 9, 10, 11, 12, 13, 16, 17, 19, 20, 21, 22, 25, 26, 27, 29, 30, 33, 34, 35, 36, 37, 38, 41, 42, 43, 44, 45, 47, 48, 51, 54, 55, 58, 59, 60, 61, 64, 65, 66, 67, 68, 69, 72, 73, 74, 75]
/-- X10_isFace -/
def jm_cd130 : List (Instr × Nat × Int) := [(.iload_n 1, 0, 0), (.bipush 72, 0, 72), (.if_icmp .eq 34, 22, 0), (.iload_n 1, 0, 0), (.ifCond .lt 34, 24, 0), (.aload_n 0, 0, 0), (.iload_n 1, 0, 0), (.iconst 2, 0, 2), (.idiv, 0, 0), (.invokevirtual 120, 123, 0), (.ifCond .eq 24, 24, 0), (.iload_n 1, 0, 0), (.iconst 2, 0, 2), (.irem, 0, 0), (.ifCond .eq 14, 22, 0), (.aload_n 0, 0, 0), (.getfield 13, 3, 10), (.iload_n 1, 0, 0), (.iconst 2, 0, 2), (.idiv, 0, 0), (.iaload, 0, 0), (.ifCond .le 7, 24, 0), (.iconst 1, 0, 1), (.goto 4, 25, 0), (.iconst 0, 0, 0), (.ireturn, 1, 0)]
def jm_bp130 : List Nat := [0, 1, 3, 6, 7, 10, 11, 12, 13, 14, 17, 20, 21, 22, 23, 26, 27, 30, 31, 32, 33, 34, 37, 38, 41, 42]
/-- X10_faces -/
def jm_cd131 : List (Instr × Nat × Int) := [(.iconst 0, 0, 0), (.istore_n 1, 0, 0), (.iconst 0, 0, 0), (.istore_n 2, 0, 0), (.iload_n 2, 0, 0), (.bipush 73, 0, 73), (.if_icmp .ge 25, 19, 0), (.iload_n 1, 0, 0), (.aload_n 0, 0, 0), (.iload_n 2, 0, 0), (.invokevirtual 127, 130, 0), (.ifCond .eq 7, 14, 0), (.iconst 1, 0, 1), (.goto 4, 15, 0), (.iconst 0, 0, 0), (.iadd, 0, 0), (.istore_n 1, 0, 0), (.iinc 2 1, 0, 1), (.goto (-25), 4, 0), (.iload_n 1, 0, 0), (.ireturn, 0, 0)]
def jm_bp131 : List Nat := [0, 1, 2, 3, 4, 5, 7, 10, 11, 12, 13, 16, 19, 20, 23, 24, 25, 26, 29, 32, 33]
/-- X10_edges -/
def jm_cd132 : List (Instr × Nat × Int) := [(.iconst 0, 0, 0), (.istore_n 1, 0, 0), (.iconst 0, 0, 0), (.istore_n 2, 0, 0), (.iload_n 2, 0, 0), (.bipush 108, 0, 108), (.if_icmp .ge 25, 19, 0), (.iload_n 1, 0, 0), (.aload_n 0, 0, 0), (.iload_n 2, 0, 0), (.invokevirtual 130, 124, 0), (.ifCond .eq 7, 14, 0), (.iconst 1, 0, 1), (.goto 4, 15, 0), (.iconst 0, 0, 0), (.iadd, 0, 0), (.istore_n 1, 0, 0), (.iinc 2 1, 0, 1), (.goto (-25), 4, 0), (.iload_n 1, 0, 0), (.ireturn, 0, 0)]
def jm_bp132 : List Nat := [0, 1, 2, 3, 4, 5, 7, 10, 11, 12, 13, 16, 19, 20, 23, 24, 25, 26, 29, 32, 33]
/-- X10_feed -/
def jm_cd133 : List (Instr × Nat × Int) := [(.aload_n 0, 0, 0), (.iconst 0, 0, 0), (.putfield 1, 0, 10), (.aload_n 0, 0, 0), (.getfield 133, 8, 10), (.bipush 20, 0, 20), (.iadd, 0, 0), (.sipush 600, 0, 600), (.if_icmp .le 5, 11, 0), (.iconst (-1), 0, (-1)), (.ireturn, 0, 0), (.aload_n 0, 0, 0), (.iload_n 1, 0, 0), (.invokevirtual 136, 134, 0), (.aload_n 0, 0, 0), (.iload_n 2, 0, 0), (.invokevirtual 136, 134, 0), (.aload_n 0, 0, 0), (.iload_n 3, 0, 0), (.invokevirtual 136, 134, 0), (.aload_n 0, 0, 0), (.iload 4, 0, 0), (.invokevirtual 136, 134, 0), (.aload_n 0, 0, 0), (.iload 5, 0, 0), (.invokevirtual 136, 134, 0), (.aload_n 0, 0, 0), (.getfield 133, 8, 10), (.ireturn, 0, 0)]
def jm_bp133 : List Nat := [0, 1, 2, 5, 6, 9, 11, 12, 15, 18, 19, 20, 21, 22, 25, 26, 27, 30, 31, 32, 35, 36, 38, 41, 42, 44, 47, 48, 51]
/-- X10_puts -/
def jm_cd134 : List (Instr × Nat × Int) := [(.bipush 24, 0, 24), (.istore_n 2, 0, 0), (.iload_n 2, 0, 0), (.ifCond .lt 32, 21, 0), (.aload_n 0, 0, 0), (.getfield 26, 7, 10), (.aload_n 0, 0, 0), (.getfield 133, 8, 10), (.iload_n 1, 0, 0), (.iload_n 2, 0, 0), (.ishr, 0, 0), (.i2b, 0, 0), (.bastore, 0, 0), (.aload_n 0, 0, 0), (.dup, 0, 0), (.getfield 133, 8, 10), (.iconst 1, 0, 1), (.iadd, 0, 0), (.putfield 133, 8, 10), (.iinc 2 (-8), 0, (-8)), (.goto (-30), 2, 0), (.return_, 0, 0)]
def jm_bp134 : List Nat := [0, 2, 3, 4, 7, 8, 11, 12, 15, 16, 17, 18, 19, 20, 21, 22, 25, 26, 27, 30, 33, 36]
/-- X10_byteAt -/
def jm_cd135 : List (Instr × Nat × Int) := [(.iload_n 1, 0, 0), (.aload_n 0, 0, 0), (.getfield 140, 9, 10), (.if_icmp .ge 16, 11, 0), (.aload_n 0, 0, 0), (.getfield 26, 7, 10), (.iload_n 1, 0, 0), (.baload, 0, 0), (.sipush 255, 0, 255), (.iand, 0, 0), (.goto 4, 12, 0), (.iconst (-1), 0, (-1)), (.ireturn, 0, 0)]
def jm_bp135 : List Nat := [0, 1, 2, 5, 8, 9, 12, 13, 14, 17, 18, 21, 22]
/-- X10_isLetter -/
def jm_cd136 : List (Instr × Nat × Int) := [(.iload_n 0, 0, 0), (.bipush 97, 0, 97), (.bipush 122, 0, 122), (.invokestatic 112, 119, 0), (.ireturn, 1, 0)]
def jm_bp136 : List Nat := [0, 1, 3, 5, 8]
/-- X10_isDigit -/
def jm_cd137 : List (Instr × Nat × Int) := [(.iload_n 0, 0, 0), (.bipush 48, 0, 48), (.bipush 57, 0, 57), (.invokestatic 112, 119, 0), (.ireturn, 1, 0)]
def jm_bp137 : List Nat := [0, 1, 3, 5, 8]
/-- X10_number -/
def jm_cd138 : List (Instr × Nat × Int) := [(.aload_n 0, 0, 0), (.aload_n 0, 0, 0), (.getfield 143, 11, 10), (.invokevirtual 146, 135, 0), (.bipush 45, 0, 45), (.if_icmp .ne 7, 8, 0), (.iconst 1, 0, 1), (.goto 4, 9, 0), (.iconst 0, 0, 0), (.istore_n 1, 0, 0), (.aload_n 0, 0, 0), (.dup, 0, 0), (.getfield 143, 11, 10), (.iload_n 1, 0, 0), (.ifCond .eq 7, 17, 0), (.iconst 1, 0, 1), (.goto 4, 18, 0), (.iconst 0, 0, 0), (.iadd, 0, 0), (.putfield 143, 11, 10), (.aload_n 0, 0, 0), (.getfield 143, 11, 10), (.istore_n 2, 0, 0), (.aload_n 0, 0, 0), (.iconst 0, 0, 0), (.putfield 150, 13, 10), (.aload_n 0, 0, 0), (.aload_n 0, 0, 0), (.getfield 143, 11, 10), (.invokevirtual 146, 135, 0), (.invokestatic 153, 137, 0), (.ifCond .eq 56, 61, 0), (.aload_n 0, 0, 0), (.aload_n 0, 0, 0), (.getfield 143, 11, 10), (.iload_n 2, 0, 0), (.isub, 0, 0), (.iconst 3, 0, 3), (.if_icmp .ge 25, 51, 0), (.bipush 10, 0, 10), (.aload_n 0, 0, 0), (.getfield 150, 13, 10), (.imul, 0, 0), (.aload_n 0, 0, 0), (.aload_n 0, 0, 0), (.getfield 143, 11, 10), (.invokevirtual 146, 135, 0), (.iadd, 0, 0), (.bipush 48, 0, 48), (.isub, 0, 0), (.goto 7, 53, 0), (.aload_n 0, 0, 0), (.getfield 150, 13, 10), (.putfield 150, 13, 10), (.aload_n 0, 0, 0), (.dup, 0, 0), (.getfield 143, 11, 10), (.iconst 1, 0, 1), (.iadd, 0, 0), (.putfield 143, 11, 10), (.goto (-64), 26, 0), (.aload_n 0, 0, 0), (.iload_n 1, 0, 0), (.ifCond .eq 11, 68, 0), (.aload_n 0, 0, 0), (.getfield 150, 13, 10), (.ineg, 0, 0), (.goto 7, 70, 0), (.aload_n 0, 0, 0), (.getfield 150, 13, 10), (.putfield 150, 13, 10), (.aload_n 0, 0, 0), (.aload_n 0, 0, 0), (.getfield 143, 11, 10), (.iload_n 2, 0, 0), (.isub, 0, 0), (.iconst 3, 0, 3), (.if_icmp .gt 7, 80, 0), (.iconst 2, 0, 2), (.goto 4, 81, 0), (.iconst 4, 0, 4), (.putfield 156, 12, 10), (.return_, 0, 0)]
def jm_bp138 : List Nat := [0, 1, 2, 5, 8, 10, 13, 14, 17, 18, 19, 20, 21, 24, 25, 28, 29, 32, 33, 34, 37, 38, 41, 42, 43, 44, 47, 48, 49, 52, 55, 58, 61, 62, 63, 66, 67, 68, 69, 72, 74, 75, 78, 79, 80, 81, 84, 87, 88, 90, 91, 94, 95, 98, 101, 102, 103, 106, 107, 108, 111, 114, 115, 116, 119, 120, 123, 124, 127, 128, 131, 134, 135, 136, 139, 140, 141, 142, 145, 146, 149, 150, 153]
def jm_cd139_0 : List (Instr × Nat × Int) := [(.aload_n 0, 0, 0), (.aload_n 0, 0, 0), (.getfield 143, 11, 10), (.invokevirtual 146, 135, 0), (.bipush 32, 0, 32), (.if_icmp .eq 16, 12, 0), (.aload_n 0, 0, 0), (.aload_n 0, 0, 0), (.getfield 143, 11, 10), (.invokevirtual 146, 135, 0), (.bipush 10, 0, 10), (.if_icmp .ne 16, 19, 0), (.aload_n 0, 0, 0), (.dup, 0, 0), (.getfield 143, 11, 10), (.iconst 1, 0, 1), (.iadd, 0, 0), (.putfield 143, 11, 10), (.goto (-36), 0, 0), (.aload_n 0, 0, 0), (.aload_n 0, 0, 0), (.getfield 143, 11, 10), (.putfield 159, 10, 10), (.aload_n 0, 0, 0), (.aload_n 0, 0, 0), (.getfield 143, 11, 10), (.invokevirtual 146, 135, 0), (.istore_n 1, 0, 0), (.iload_n 1, 0, 0), (.ifCond .ge 11, 34, 0), (.aload_n 0, 0, 0), (.iconst 0, 0, 0), (.putfield 156, 12, 10), (.goto 157, 111, 0), (.iload_n 1, 0, 0), (.invokestatic 162, 136, 0), (.ifCond .eq 89, 80, 0), (.aload_n 0, 0, 0), (.lconst 0, 0, 0), (.putfield 165, 14, 10), (.aload_n 0, 0, 0), (.aload_n 0, 0, 0), (.getfield 143, 11, 10), (.invokevirtual 146, 135, 0), (.invokestatic 162, 136, 0), (.ifCond .eq 62, 76, 0), (.aload_n 0, 0, 0), (.aload_n 0, 0, 0), (.getfield 143, 11, 10), (.aload_n 0, 0, 0), (.getfield 159, 10, 10), (.isub, 0, 0), (.bipush 6, 0, 6), (.if_icmp .ge 28, 67, 0), (.ldc2_w 169, 0, 27), (.aload_n 0, 0, 0), (.getfield 165, 14, 10), (.lmul, 0, 0), (.aload_n 0, 0, 0), (.aload_n 0, 0, 0), (.getfield 143, 11, 10), (.invokevirtual 146, 135, 0), (.i2l, 0, 0), (.ladd, 0, 0), (.ldc2_w 171, 0, 96), (.lsub, 0, 0), (.goto 6, 68, 0), (.ldc2_w 173, 0, (-1)), (.putfield 165, 14, 10), (.aload_n 0, 0, 0), (.dup, 0, 0), (.getfield 143, 11, 10), (.iconst 1, 0, 1), (.iadd, 0, 0), (.putfield 143, 11, 10), (.goto (-70), 40, 0), (.aload_n 0, 0, 0), (.iconst 1, 0, 1), (.putfield 156, 12, 10), (.goto 64, 111, 0), (.iload_n 1, 0, 0), (.invokestatic 153, 137, 0), (.ifCond .ne 25, 94, 0), (.iload_n 1, 0, 0), (.bipush 45, 0, 45), (.if_icmp .ne 26, 97, 0), (.aload_n 0, 0, 0), (.aload_n 0, 0, 0), (.getfield 143, 11, 10), (.iconst 1, 0, 1), (.iadd, 0, 0), (.invokevirtual 146, 135, 0), (.invokestatic 153, 137, 0), (.ifCond .eq 10, 97, 0), (.aload_n 0, 0, 0), (.invokevirtual 175, 138, 0), (.goto 28, 111, 0), (.aload_n 0, 0, 0), (.iload_n 1, 0, 0), (.bipush 59, 0, 59)]
def jm_cd139_1 : List (Instr × Nat × Int) := [(.if_icmp .ne 7, 103, 0), (.iconst 3, 0, 3), (.goto 4, 104, 0), (.iconst 4, 0, 4), (.putfield 156, 12, 10), (.aload_n 0, 0, 0), (.dup, 0, 0), (.getfield 143, 11, 10), (.iconst 1, 0, 1), (.iadd, 0, 0), (.putfield 143, 11, 10), (.return_, 0, 0)]
/-- X10_go -/
def jm_cd139 : List (Instr × Nat × Int) := jm_cd139_0 ++ jm_cd139_1
def jm_bp139 : List Nat := [0, 1, 2, 5, 8, 10, 13, 14, 15, 18, 21, 23, 26, 27, 28, 31, 32, 33, 36, 39, 40, 41, 44, 47, 48, 49, 52, 55, 56, 57, 60, 61, 62, 65, 68, 69, 72, 75, 76, 77, 80, 81, 82, 85, 88, 91, 94, 95, 96, 99, 100, 103, 104, 106, 109, 112, 113, 116, 117, 118, 119, 122, 125, 126, 127, 130, 131, 134, 137, 140, 141, 142, 145, 146, 147, 150, 153, 154, 155, 158, 161, 162, 165, 168, 169, 171, 174, 175, 176, 179, 180, 181, 184, 187, 190, 191, 194, 197, 198, 199, 201, 204, 205, 208, 209, 212, 213, 214, 217, 218, 219, 222]
/-- X10_isWord -/
def jm_cd140 : List (Instr × Nat × Int) := [(.aload_n 0, 0, 0), (.getfield 156, 12, 10), (.iconst 1, 0, 1), (.if_icmp .ne 16, 11, 0), (.aload_n 0, 0, 0), (.getfield 165, 14, 10), (.lload_n 1, 0, 0), (.lcmp, 0, 0), (.ifCond .ne 7, 11, 0), (.iconst 1, 0, 1), (.goto 4, 12, 0), (.iconst 0, 0, 0), (.ireturn, 1, 0)]
def jm_bp140 : List Nat := [0, 1, 4, 5, 8, 9, 12, 13, 14, 17, 18, 21, 22]
/-- X10_wrong -/
def jm_cd141 : List (Instr × Nat × Int) := [(.aload_n 0, 0, 0), (.aload_n 0, 0, 0), (.getfield 178, 15, 10), (.ifCond .ne 15, 11, 0), (.bipush 8, 0, 8), (.aload_n 0, 0, 0), (.getfield 159, 10, 10), (.imul, 0, 0), (.iload_n 1, 0, 0), (.iadd, 0, 0), (.goto 7, 13, 0), (.aload_n 0, 0, 0), (.getfield 178, 15, 10), (.putfield 178, 15, 10), (.iconst 0, 0, 0), (.ireturn, 1, 0)]
def jm_bp141 : List Nat := [0, 1, 2, 5, 8, 10, 11, 14, 15, 16, 17, 20, 21, 24, 27, 28]
/-- X10_number_ -/
def jm_cd142 : List (Instr × Nat × Int) := [(.aload_n 0, 0, 0), (.getfield 156, 12, 10), (.iconst 2, 0, 2), (.if_icmp .eq 9, 8, 0), (.aload_n 0, 0, 0), (.iconst 1, 0, 1), (.invokevirtual 181, 141, 0), (.ireturn, 1, 0), (.aload_n 0, 0, 0), (.getfield 150, 13, 10), (.iload_n 1, 0, 0), (.iload_n 2, 0, 0), (.invokestatic 112, 119, 0), (.ifCond .ne 9, 18, 0), (.aload_n 0, 0, 0), (.iconst 2, 0, 2), (.invokevirtual 181, 141, 0), (.ireturn, 1, 0), (.aload_n 0, 0, 0), (.aload_n 0, 0, 0), (.getfield 150, 13, 10), (.putfield 184, 20, 10), (.aload_n 0, 0, 0), (.invokevirtual 186, 139, 0), (.iconst 1, 0, 1), (.ireturn, 1, 0)]
def jm_bp142 : List Nat := [0, 1, 4, 5, 8, 9, 10, 13, 14, 15, 18, 19, 20, 23, 26, 27, 28, 31, 32, 33, 34, 37, 40, 41, 44, 45]
/-- X10_whichHere -/
def jm_cd143 : List (Instr × Nat × Int) := [(.aload_n 0, 0, 0), (.bipush 97, 0, 97), (.bipush 108, 0, 108), (.bipush 108, 0, 108), (.iconst 0, 0, 0), (.iconst 0, 0, 0), (.invokestatic 189, 903, 0), (.invokevirtual 193, 140, 0), (.ifCond .eq 5, 11, 0), (.iconst 4, 0, 4), (.ireturn, 0, 0), (.aload_n 0, 0, 0), (.bipush 114, 0, 114), (.bipush 105, 0, 105), (.bipush 103, 0, 103), (.bipush 104, 0, 104), (.bipush 116, 0, 116), (.invokestatic 189, 903, 0), (.invokevirtual 193, 140, 0), (.ifCond .eq 5, 22, 0), (.iconst 0, 0, 0), (.ireturn, 0, 0), (.aload_n 0, 0, 0), (.bipush 100, 0, 100), (.bipush 111, 0, 111), (.bipush 119, 0, 119), (.bipush 110, 0, 110), (.iconst 0, 0, 0), (.invokestatic 189, 903, 0), (.invokevirtual 193, 140, 0), (.ifCond .eq 5, 33, 0), (.iconst 1, 0, 1), (.ireturn, 0, 0), (.aload_n 0, 0, 0), (.bipush 115, 0, 115), (.bipush 108, 0, 108), (.bipush 97, 0, 97), (.bipush 115, 0, 115), (.bipush 104, 0, 104), (.invokestatic 189, 903, 0), (.invokevirtual 193, 140, 0), (.ifCond .eq 5, 44, 0), (.iconst 2, 0, 2), (.ireturn, 0, 0), (.aload_n 0, 0, 0), (.bipush 98, 0, 98), (.bipush 97, 0, 97), (.bipush 99, 0, 99), (.bipush 107, 0, 107), (.iconst 0, 0, 0), (.invokestatic 189, 903, 0), (.invokevirtual 193, 140, 0), (.ifCond .eq 7, 55, 0), (.iconst 3, 0, 3), (.goto 4, 56, 0), (.iconst (-1), 0, (-1)), (.ireturn, 0, 0)]
def jm_bp143 : List Nat := [0, 1, 3, 5, 7, 8, 9, 12, 15, 18, 19, 20, 21, 23, 25, 27, 29, 31, 34, 37, 40, 41, 42, 43, 45, 47, 49, 51, 52, 55, 58, 61, 62, 63, 64, 66, 68, 70, 72, 74, 77, 80, 83, 84, 85, 86, 88, 90, 92, 94, 95, 98, 101, 104, 105, 108, 109]
/-- X10_keeps -/
def jm_cd144 : List (Instr × Nat × Int) := [(.aload_n 0, 0, 0), (.iload_n 2, 0, 0), (.iload_n 3, 0, 0), (.invokevirtual 197, 142, 0), (.istore 4, 0, 0), (.aload_n 0, 0, 0), (.getfield 30, 16, 10), (.iconst 5, 0, 5), (.aload_n 0, 0, 0), (.getfield 200, 17, 10), (.imul, 0, 0), (.iload_n 1, 0, 0), (.iadd, 0, 0), (.aload_n 0, 0, 0), (.getfield 184, 20, 10), (.iastore, 0, 0), (.iload 4, 0, 0), (.ireturn, 1, 0)]
def jm_bp144 : List Nat := [0, 1, 2, 3, 6, 8, 9, 12, 13, 14, 17, 18, 19, 20, 21, 24, 25, 27]
/-- X10_line -/
def jm_cd145 : List (Instr × Nat × Int) := [(.aload_n 0, 0, 0), (.invokevirtual 203, 143, 0), (.istore_n 1, 0, 0), (.iload_n 1, 0, 0), (.ifCond .ge 9, 9, 0), (.aload_n 0, 0, 0), (.iconst 1, 0, 1), (.invokevirtual 181, 141, 0), (.ireturn, 1, 0), (.iconst 5, 0, 5), (.aload_n 0, 0, 0), (.getfield 200, 17, 10), (.imul, 0, 0), (.istore_n 2, 0, 0), (.aload_n 0, 0, 0), (.getfield 30, 16, 10), (.iload_n 2, 0, 0), (.iload_n 1, 0, 0), (.iastore, 0, 0), (.aload_n 0, 0, 0), (.invokevirtual 186, 139, 0), (.iload_n 1, 0, 0), (.iconst 4, 0, 4), (.if_icmp .eq 62, 59, 0), (.aload_n 0, 0, 0), (.iconst 1, 0, 1), (.iconst 0, 0, 0), (.aload_n 0, 0, 0), (.getfield 206, 18, 10), (.iload_n 1, 0, 0), (.iconst 1, 0, 1), (.if_icmp .ne 7, 34, 0), (.iconst 1, 0, 1), (.goto 4, 35, 0), (.iconst 2, 0, 2), (.isub, 0, 0), (.invokevirtual 209, 144, 0), (.ifCond .eq 30, 53, 0), (.aload_n 0, 0, 0), (.iconst 2, 0, 2), (.iconst 0, 0, 0), (.aload_n 0, 0, 0), (.getfield 212, 19, 10), (.iload_n 1, 0, 0), (.ifCond .ne 7, 47, 0), (.iconst 1, 0, 1), (.goto 4, 48, 0), (.iconst 2, 0, 2), (.isub, 0, 0), (.invokevirtual 209, 144, 0), (.ifCond .eq 7, 53, 0), (.iconst 1, 0, 1), (.goto 4, 54, 0), (.iconst 0, 0, 0), (.istore_n 3, 0, 0), (.iload_n 3, 0, 0), (.ifCond .ne 5, 59, 0), (.iconst 0, 0, 0), (.ireturn, 1, 0), (.aload_n 0, 0, 0), (.iconst 3, 0, 3), (.bipush (-99), 0, (-99)), (.bipush 99, 0, 99), (.invokevirtual 209, 144, 0), (.ifCond .ne 5, 67, 0), (.iconst 0, 0, 0), (.ireturn, 1, 0), (.aload_n 0, 0, 0), (.getfield 30, 16, 10), (.iload_n 2, 0, 0), (.iconst 3, 0, 3), (.iadd, 0, 0), (.iaload, 0, 0), (.istore_n 3, 0, 0), (.aload_n 0, 0, 0), (.iconst 4, 0, 4), (.iload_n 3, 0, 0), (.ineg, 0, 0), (.bipush 99, 0, 99), (.invokevirtual 209, 144, 0), (.ifCond .ne 5, 83, 0), (.iconst 0, 0, 0), (.ireturn, 1, 0), (.aload_n 0, 0, 0), (.dup, 0, 0), (.getfield 200, 17, 10), (.iconst 1, 0, 1), (.iadd, 0, 0), (.putfield 200, 17, 10), (.iconst 1, 0, 1), (.ireturn, 1, 0)]
def jm_bp145 : List Nat := [0, 1, 4, 5, 6, 9, 10, 11, 14, 15, 16, 17, 20, 21, 22, 23, 26, 27, 28, 29, 30, 33, 34, 35, 38, 39, 40, 41, 42, 45, 46, 47, 50, 51, 54, 55, 56, 59, 62, 63, 64, 65, 66, 69, 70, 73, 74, 77, 78, 79, 82, 85, 86, 89, 90, 91, 92, 95, 96, 97, 98, 99, 101, 103, 106, 109, 110, 111, 112, 115, 116, 117, 118, 119, 120, 121, 122, 123, 124, 126, 129, 132, 133, 134, 135, 136, 139, 140, 141, 144, 145]
/-- X10_bears -/
def jm_cd146 : List (Instr × Nat × Int) := [(.aload_n 0, 0, 0), (.getfield 30, 16, 10), (.iload_n 1, 0, 0), (.iconst 2, 0, 2), (.iadd, 0, 0), (.iaload, 0, 0), (.aload_n 0, 0, 0), (.getfield 98, 1, 10), (.imul, 0, 0), (.aload_n 0, 0, 0), (.getfield 30, 16, 10), (.iload_n 1, 0, 0), (.iconst 1, 0, 1), (.iadd, 0, 0), (.iaload, 0, 0), (.iadd, 0, 0), (.istore_n 2, 0, 0), (.aload_n 0, 0, 0), (.getfield 30, 16, 10), (.iload_n 1, 0, 0), (.iaload, 0, 0), (.istore_n 3, 0, 0), (.iload_n 3, 0, 0), (.iconst 2, 0, 2), (.if_icmp .eq 8, 28, 0), (.iload_n 3, 0, 0), (.iconst 3, 0, 3), (.if_icmp .ne 19, 38, 0), (.aload_n 0, 0, 0), (.getfield 13, 3, 10), (.iload_n 2, 0, 0), (.iload_n 3, 0, 0), (.iconst 2, 0, 2), (.if_icmp .ne 7, 36, 0), (.iconst 1, 0, 1), (.goto 4, 37, 0), (.iconst 2, 0, 2), (.iastore, 0, 0), (.iconst 0, 0, 0), (.istore 4, 0, 0), (.iload 4, 0, 0), (.bipush 108, 0, 108), (.if_icmp .ge 84, 90, 0), (.iload_n 3, 0, 0), (.iconst 4, 0, 4), (.if_icmp .ne 12, 50, 0), (.aload_n 0, 0, 0), (.iload 4, 0, 0), (.invokevirtual 130, 124, 0), (.goto 27, 65, 0), (.iload 4, 0, 0), (.iconst 3, 0, 3), (.iload_n 2, 0, 0), (.imul, 0, 0), (.iload_n 3, 0, 0), (.iconst 2, 0, 2), (.if_icmp .ge 7, 59, 0), (.iload_n 3, 0, 0), (.goto 4, 60, 0), (.iconst 2, 0, 2), (.iadd, 0, 0), (.if_icmp .ne 7, 64, 0), (.iconst 1, 0, 1), (.goto 4, 65, 0), (.iconst 0, 0, 0), (.istore 5, 0, 0), (.iload 5, 0, 0), (.ifCond .eq 33, 88, 0), (.aload_n 0, 0, 0), (.getfield 17, 4, 10), (.iload 4, 0, 0), (.aload_n 0, 0, 0), (.getfield 30, 16, 10), (.iload_n 1, 0, 0), (.iconst 3, 0, 3), (.iadd, 0, 0), (.iaload, 0, 0), (.iastore, 0, 0), (.aload_n 0, 0, 0), (.getfield 20, 5, 10), (.iload 4, 0, 0), (.aload_n 0, 0, 0), (.getfield 30, 16, 10), (.iload_n 1, 0, 0), (.iconst 4, 0, 4), (.iadd, 0, 0), (.iaload, 0, 0), (.iastore, 0, 0), (.iinc 4 1, 0, 1), (.goto (-85), 40, 0), (.return_, 0, 0)]
def jm_bp146 : List Nat := [0, 1, 4, 5, 6, 7, 8, 9, 12, 13, 14, 17, 18, 19, 20, 21, 22, 23, 24, 27, 28, 29, 30, 31, 32, 35, 36, 37, 40, 41, 44, 45, 46, 47, 50, 51, 54, 55, 56, 57, 59, 61, 63, 66, 67, 68, 71, 72, 74, 77, 80, 82, 83, 84, 85, 86, 87, 90, 91, 94, 95, 96, 99, 100, 103, 104, 106, 108, 111, 112, 115, 117, 118, 121, 122, 123, 124, 125, 126, 127, 130, 132, 133, 136, 137, 138, 139, 140, 141, 144, 147]
def jm_cd147_0 : List (Instr × Nat × Int) := [(.aload_n 0, 0, 0), (.iconst 0, 0, 0), (.putfield 1, 0, 10), (.iload_n 1, 0, 0), (.iconst 0, 0, 0), (.aload_n 0, 0, 0), (.getfield 133, 8, 10), (.invokestatic 112, 119, 0), (.ifCond .ne 5, 11, 0), (.iconst (-1), 0, (-1)), (.ireturn, 0, 0), (.aload_n 0, 0, 0), (.iload_n 1, 0, 0), (.putfield 140, 9, 10), (.aload_n 0, 0, 0), (.iconst 0, 0, 0), (.putfield 133, 8, 10), (.aload_n 0, 0, 0), (.iconst 0, 0, 0), (.putfield 143, 11, 10), (.aload_n 0, 0, 0), (.iconst 0, 0, 0), (.putfield 178, 15, 10), (.aload_n 0, 0, 0), (.iconst 0, 0, 0), (.putfield 200, 17, 10), (.aload_n 0, 0, 0), (.invokevirtual 186, 139, 0), (.aload_n 0, 0, 0), (.bipush 103, 0, 103), (.bipush 114, 0, 114), (.bipush 105, 0, 105), (.bipush 100, 0, 100), (.iconst 0, 0, 0), (.invokestatic 189, 903, 0), (.invokevirtual 193, 140, 0), (.ifCond .ne 11, 41, 0), (.aload_n 0, 0, 0), (.iconst 1, 0, 1), (.invokevirtual 181, 141, 0), (.ifCond .eq 7, 43, 0), (.iconst 1, 0, 1), (.goto 4, 44, 0), (.iconst 0, 0, 0), (.istore_n 2, 0, 0), (.iload_n 2, 0, 0), (.ifCond .eq 23, 58, 0), (.aload_n 0, 0, 0), (.invokevirtual 186, 139, 0), (.aload_n 0, 0, 0), (.iconst 2, 0, 2), (.bipush 6, 0, 6), (.invokevirtual 197, 142, 0), (.istore_n 2, 0, 0), (.aload_n 0, 0, 0), (.aload_n 0, 0, 0), (.getfield 184, 20, 10), (.putfield 206, 18, 10), (.iload_n 2, 0, 0), (.ifCond .eq 19, 69, 0), (.aload_n 0, 0, 0), (.iconst 2, 0, 2), (.bipush 6, 0, 6), (.invokevirtual 197, 142, 0), (.istore_n 2, 0, 0), (.aload_n 0, 0, 0), (.aload_n 0, 0, 0), (.getfield 184, 20, 10), (.putfield 212, 19, 10), (.iload_n 2, 0, 0), (.ifCond .eq 23, 81, 0), (.aload_n 0, 0, 0), (.getfield 156, 12, 10), (.iconst 3, 0, 3), (.if_icmp .ne 15, 81, 0), (.aload_n 0, 0, 0), (.invokevirtual 186, 139, 0), (.aload_n 0, 0, 0), (.invokevirtual 215, 145, 0), (.istore_n 2, 0, 0), (.goto (-21), 69, 0), (.iload_n 2, 0, 0), (.ifCond .eq 16, 90, 0), (.aload_n 0, 0, 0), (.getfield 156, 12, 10), (.ifCond .eq 9, 90, 0), (.aload_n 0, 0, 0), (.iconst 1, 0, 1), (.invokevirtual 181, 141, 0), (.istore_n 2, 0, 0), (.iload_n 2, 0, 0), (.ifCond .ne 11, 97, 0), (.bipush (-2), 0, (-2)), (.aload_n 0, 0, 0), (.getfield 178, 15, 10), (.isub, 0, 0), (.ireturn, 0, 0), (.aload_n 0, 0, 0), (.aload_n 0, 0, 0), (.getfield 206, 18, 10)]
def jm_cd147_1 : List (Instr × Nat × Int) := [(.aload_n 0, 0, 0), (.getfield 212, 19, 10), (.invokevirtual 94, 120, 0), (.iconst 0, 0, 0), (.istore_n 3, 0, 0), (.iload_n 3, 0, 0), (.aload_n 0, 0, 0), (.getfield 200, 17, 10), (.if_icmp .ge 16, 116, 0), (.aload_n 0, 0, 0), (.iconst 5, 0, 5), (.iload_n 3, 0, 0), (.imul, 0, 0), (.invokevirtual 219, 146, 0), (.iinc 3 1, 0, 1), (.goto (-18), 105, 0), (.aload_n 0, 0, 0), (.getfield 200, 17, 10), (.ireturn, 0, 0)]
/-- X10_text -/
def jm_cd147 : List (Instr × Nat × Int) := jm_cd147_0 ++ jm_cd147_1
def jm_bp147 : List Nat := [0, 1, 2, 5, 6, 7, 8, 11, 14, 17, 18, 19, 20, 21, 24, 25, 26, 29, 30, 31, 34, 35, 36, 39, 40, 41, 44, 45, 48, 49, 51, 53, 55, 57, 58, 61, 64, 67, 68, 69, 72, 75, 76, 79, 80, 81, 82, 85, 86, 89, 90, 91, 93, 96, 97, 98, 99, 102, 105, 106, 109, 110, 111, 113, 116, 117, 118, 119, 122, 125, 126, 129, 130, 133, 134, 137, 138, 141, 142, 145, 146, 149, 150, 153, 154, 157, 160, 161, 162, 165, 166, 167, 170, 172, 173, 176, 177, 178, 179, 180, 183, 184, 187, 190, 191, 192, 193, 194, 197, 200, 201, 202, 203, 204, 207, 210, 213, 214, 217]
/-- X10_grid -/
def jm_cd148 : List (Instr × Nat × Int) := [(.aload_n 0, 0, 0), (.iconst 0, 0, 0), (.putfield 1, 0, 10), (.iload_n 1, 0, 0), (.iconst 2, 0, 2), (.bipush 6, 0, 6), (.invokestatic 112, 119, 0), (.ifCond .eq 13, 13, 0), (.iload_n 2, 0, 0), (.iconst 2, 0, 2), (.bipush 6, 0, 6), (.invokestatic 112, 119, 0), (.ifCond .ne 5, 15, 0), (.iconst (-1), 0, (-1)), (.ireturn, 0, 0), (.aload_n 0, 0, 0), (.iload_n 1, 0, 0), (.iload_n 2, 0, 0), (.invokevirtual 94, 120, 0), (.aload_n 0, 0, 0), (.invokevirtual 222, 132, 0), (.ireturn, 0, 0)]
def jm_bp148 : List Nat := [0, 1, 2, 5, 6, 7, 9, 12, 15, 16, 17, 19, 22, 25, 26, 27, 28, 29, 30, 33, 34, 37]
/-- X10_slant -/
def jm_cd149 : List (Instr × Nat × Int) := [(.aload_n 0, 0, 0), (.iconst 0, 0, 0), (.putfield 1, 0, 10), (.aload_n 0, 0, 0), (.iload_n 1, 0, 0), (.invokevirtual 120, 123, 0), (.ifCond .eq 12, 12, 0), (.iload_n 2, 0, 0), (.iconst 0, 0, 0), (.iconst 2, 0, 2), (.invokestatic 112, 119, 0), (.ifCond .ne 5, 14, 0), (.iconst (-1), 0, (-1)), (.ireturn, 0, 0), (.aload_n 0, 0, 0), (.getfield 13, 3, 10), (.iload_n 1, 0, 0), (.iaload, 0, 0), (.istore_n 3, 0, 0), (.aload_n 0, 0, 0), (.getfield 13, 3, 10), (.iload_n 1, 0, 0), (.iload_n 2, 0, 0), (.iastore, 0, 0), (.aload_n 0, 0, 0), (.getfield 17, 4, 10), (.iconst 3, 0, 3), (.iload_n 1, 0, 0), (.imul, 0, 0), (.iconst 2, 0, 2), (.iadd, 0, 0), (.iconst 0, 0, 0), (.iastore, 0, 0), (.aload_n 0, 0, 0), (.getfield 20, 5, 10), (.iconst 3, 0, 3), (.iload_n 1, 0, 0), (.imul, 0, 0), (.iconst 2, 0, 2), (.iadd, 0, 0), (.iconst 0, 0, 0), (.iastore, 0, 0), (.aload_n 0, 0, 0), (.iconst 0, 0, 0), (.putfield 104, 33, 10), (.iload_n 3, 0, 0), (.ireturn, 0, 0)]
def jm_bp149 : List Nat := [0, 1, 2, 5, 6, 7, 10, 13, 14, 15, 16, 19, 22, 23, 24, 25, 28, 29, 30, 31, 32, 35, 36, 37, 38, 39, 42, 43, 44, 45, 46, 47, 48, 49, 50, 53, 54, 55, 56, 57, 58, 59, 60, 61, 62, 65, 66]
/-- X10_bears_ -/
def jm_cd150 : List (Instr × Nat × Int) := [(.aload_n 0, 0, 0), (.iconst 0, 0, 0), (.putfield 1, 0, 10), (.aload_n 0, 0, 0), (.iload_n 1, 0, 0), (.invokevirtual 130, 124, 0), (.ifCond .eq 31, 21, 0), (.iload_n 2, 0, 0), (.bipush (-99), 0, (-99)), (.bipush 99, 0, 99), (.invokestatic 112, 119, 0), (.ifCond .eq 20, 21, 0), (.iload_n 3, 0, 0), (.bipush (-99), 0, (-99)), (.bipush 99, 0, 99), (.invokestatic 112, 119, 0), (.ifCond .eq 9, 21, 0), (.iload_n 2, 0, 0), (.iload_n 3, 0, 0), (.iadd, 0, 0), (.ifCond .ge 5, 23, 0), (.iconst 0, 0, 0), (.ireturn, 1, 0), (.aload_n 0, 0, 0), (.getfield 17, 4, 10), (.iload_n 1, 0, 0), (.iload_n 2, 0, 0), (.iastore, 0, 0), (.aload_n 0, 0, 0), (.getfield 20, 5, 10), (.iload_n 1, 0, 0), (.iload_n 3, 0, 0), (.iastore, 0, 0), (.aload_n 0, 0, 0), (.iconst 0, 0, 0), (.putfield 104, 33, 10), (.iconst 1, 0, 1), (.ireturn, 1, 0)]
def jm_bp150 : List Nat := [0, 1, 2, 5, 6, 7, 10, 13, 14, 16, 18, 21, 24, 25, 27, 29, 32, 35, 36, 37, 38, 41, 42, 43, 44, 47, 48, 49, 50, 51, 54, 55, 56, 57, 58, 59, 62, 63]
/-- X10_edge -/
def jm_cd151 : List (Instr × Nat × Int) := [(.aload_n 0, 0, 0), (.iconst 0, 0, 0), (.putfield 1, 0, 10), (.aload_n 0, 0, 0), (.iload_n 1, 0, 0), (.invokevirtual 130, 124, 0), (.ifCond .ne 6, 9, 0), (.bipush (-101), 0, (-101)), (.ireturn, 0, 0), (.iload_n 2, 0, 0), (.tableswitch 77 0 5 #[39, 45, 51, 58, 65, 71], 3, 39), (.aload_n 0, 0, 0), (.iload_n 1, 0, 0), (.invokevirtual 225, 125, 0), (.ireturn, 0, 0), (.aload_n 0, 0, 0), (.iload_n 1, 0, 0), (.invokevirtual 228, 126, 0), (.ireturn, 0, 0), (.aload_n 0, 0, 0), (.getfield 17, 4, 10), (.iload_n 1, 0, 0), (.iaload, 0, 0), (.ireturn, 0, 0), (.aload_n 0, 0, 0), (.getfield 20, 5, 10), (.iload_n 1, 0, 0), (.iaload, 0, 0), (.ireturn, 0, 0), (.aload_n 0, 0, 0), (.iload_n 1, 0, 0), (.invokevirtual 231, 128, 0), (.ireturn, 0, 0), (.aload_n 0, 0, 0), (.iload_n 1, 0, 0), (.invokevirtual 234, 129, 0), (.ireturn, 0, 0), (.bipush (-101), 0, (-101)), (.ireturn, 0, 0)]
def jm_bp151 : List Nat := [0, 1, 2, 5, 6, 7, 10, 13, 15, 16, 17, 56, 57, 58, 61, 62, 63, 64, 67, 68, 69, 72, 73, 74, 75, 76, 79, 80, 81, 82, 83, 84, 87, 88, 89, 90, 93, 94, 96]
/-- X10_isAround -/
def jm_cd152 : List (Instr × Nat × Int) := [(.aload_n 0, 0, 0), (.iload_n 1, 0, 0), (.invokevirtual 130, 124, 0), (.ifCond .eq 25, 16, 0), (.aload_n 0, 0, 0), (.iload_n 1, 0, 0), (.invokevirtual 231, 128, 0), (.iload_n 2, 0, 0), (.if_icmp .eq 12, 14, 0), (.aload_n 0, 0, 0), (.iload_n 1, 0, 0), (.invokevirtual 234, 129, 0), (.iload_n 2, 0, 0), (.if_icmp .ne 7, 16, 0), (.iconst 1, 0, 1), (.goto 4, 17, 0), (.iconst 0, 0, 0), (.ireturn, 1, 0)]
def jm_bp152 : List Nat := [0, 1, 2, 5, 8, 9, 10, 13, 14, 17, 18, 19, 22, 23, 26, 27, 30, 31]
/-- X10_around -/
def jm_cd153 : List (Instr × Nat × Int) := [(.aload_n 0, 0, 0), (.aload_n 0, 0, 0), (.iload_n 1, 0, 0), (.invokevirtual 127, 130, 0), (.ifCond .eq 7, 7, 0), (.iconst 0, 0, 0), (.goto 4, 8, 0), (.iconst 1, 0, 1), (.putfield 1, 0, 10), (.iconst 0, 0, 0), (.istore_n 2, 0, 0), (.iconst 0, 0, 0), (.istore_n 3, 0, 0), (.iload_n 3, 0, 0), (.bipush 108, 0, 108), (.if_icmp .ge 33, 32, 0), (.aload_n 0, 0, 0), (.getfield 1, 0, 10), (.ifCond .ne 26, 32, 0), (.iload_n 2, 0, 0), (.aload_n 0, 0, 0), (.iload_n 3, 0, 0), (.iload_n 1, 0, 0), (.invokevirtual 237, 152, 0), (.ifCond .eq 7, 27, 0), (.iconst 1, 0, 1), (.goto 4, 28, 0), (.iconst 0, 0, 0), (.iadd, 0, 0), (.istore_n 2, 0, 0), (.iinc 3 1, 0, 1), (.goto (-33), 13, 0), (.iload_n 2, 0, 0), (.ireturn, 0, 0)]
def jm_bp153 : List Nat := [0, 1, 2, 3, 6, 9, 10, 13, 14, 17, 18, 19, 20, 21, 22, 24, 27, 28, 31, 34, 35, 36, 37, 38, 41, 44, 45, 48, 49, 50, 51, 54, 57, 58]
/-- X10_leftNow -/
def jm_cd154 : List (Instr × Nat × Int) := [(.aload_n 0, 0, 0), (.iload_n 1, 0, 0), (.invokevirtual 231, 128, 0), (.istore_n 2, 0, 0), (.aload_n 0, 0, 0), (.getfield 240, 24, 10), (.ifCond .eq 23, 17, 0), (.iload_n 2, 0, 0), (.bipush 72, 0, 72), (.if_icmp .ne 17, 17, 0), (.aload_n 0, 0, 0), (.getfield 39, 23, 10), (.iload_n 1, 0, 0), (.baload, 0, 0), (.ifCond .eq 8, 17, 0), (.bipush 73, 0, 73), (.goto 4, 18, 0), (.iload_n 2, 0, 0), (.ireturn, 0, 0)]
def jm_bp154 : List Nat := [0, 1, 2, 5, 6, 7, 10, 13, 14, 16, 19, 20, 23, 24, 25, 28, 30, 33, 34]
/-- X10_rightNow -/
def jm_cd155 : List (Instr × Nat × Int) := [(.aload_n 0, 0, 0), (.iload_n 1, 0, 0), (.invokevirtual 234, 129, 0), (.istore_n 2, 0, 0), (.aload_n 0, 0, 0), (.getfield 240, 24, 10), (.ifCond .eq 23, 17, 0), (.iload_n 2, 0, 0), (.bipush 72, 0, 72), (.if_icmp .ne 17, 17, 0), (.aload_n 0, 0, 0), (.getfield 39, 23, 10), (.iload_n 1, 0, 0), (.baload, 0, 0), (.ifCond .eq 8, 17, 0), (.bipush 73, 0, 73), (.goto 4, 18, 0), (.iload_n 2, 0, 0), (.ireturn, 0, 0)]
def jm_bp155 : List Nat := [0, 1, 2, 5, 6, 7, 10, 13, 14, 16, 19, 20, 23, 24, 25, 28, 30, 33, 34]
/-- X10_isLess -/
def jm_cd156 : List (Instr × Nat × Int) := [(.iload_n 2, 0, 0), (.aload_n 0, 0, 0), (.getfield 33, 21, 10), (.iload_n 1, 0, 0), (.iaload, 0, 0), (.if_icmp .lt 23, 18, 0), (.iload_n 2, 0, 0), (.aload_n 0, 0, 0), (.getfield 33, 21, 10), (.iload_n 1, 0, 0), (.iaload, 0, 0), (.if_icmp .ne 17, 20, 0), (.iload_n 3, 0, 0), (.aload_n 0, 0, 0), (.getfield 36, 22, 10), (.iload_n 1, 0, 0), (.iaload, 0, 0), (.if_icmp .ge 7, 20, 0), (.iconst 1, 0, 1), (.goto 4, 21, 0), (.iconst 0, 0, 0), (.ireturn, 1, 0)]
def jm_bp156 : List Nat := [0, 1, 2, 5, 6, 7, 10, 11, 12, 15, 16, 17, 20, 21, 22, 25, 26, 27, 30, 31, 34, 35]
/-- X10_relaxes -/
def jm_cd157 : List (Instr × Nat × Int) := [(.aload_n 0, 0, 0), (.getfield 33, 21, 10), (.iload_n 1, 0, 0), (.iaload, 0, 0), (.ldc 243, 0, 100000000), (.if_icmp .ge 27, 22, 0), (.aload_n 0, 0, 0), (.iload_n 2, 0, 0), (.aload_n 0, 0, 0), (.getfield 33, 21, 10), (.iload_n 1, 0, 0), (.iaload, 0, 0), (.iload_n 3, 0, 0), (.iadd, 0, 0), (.aload_n 0, 0, 0), (.getfield 36, 22, 10), (.iload_n 1, 0, 0), (.iaload, 0, 0), (.iconst 1, 0, 1), (.iadd, 0, 0), (.invokevirtual 244, 156, 0), (.ifCond .ne 5, 24, 0), (.iconst 0, 0, 0), (.ireturn, 1, 0), (.aload_n 0, 0, 0), (.getfield 33, 21, 10), (.iload_n 2, 0, 0), (.aload_n 0, 0, 0), (.getfield 33, 21, 10), (.iload_n 1, 0, 0), (.iaload, 0, 0), (.iload_n 3, 0, 0), (.iadd, 0, 0), (.iastore, 0, 0), (.aload_n 0, 0, 0), (.getfield 36, 22, 10), (.iload_n 2, 0, 0), (.aload_n 0, 0, 0), (.getfield 36, 22, 10), (.iload_n 1, 0, 0), (.iaload, 0, 0), (.iconst 1, 0, 1), (.iadd, 0, 0), (.iastore, 0, 0), (.iconst 1, 0, 1), (.ireturn, 1, 0)]
def jm_bp157 : List Nat := [0, 1, 4, 5, 6, 8, 11, 12, 13, 14, 17, 18, 19, 20, 21, 22, 25, 26, 27, 28, 29, 32, 35, 36, 37, 38, 41, 42, 43, 46, 47, 48, 49, 50, 51, 52, 55, 56, 57, 60, 61, 62, 63, 64, 65, 66]
def jm_cd158_0 : List (Instr × Nat × Int) := [(.iconst 0, 0, 0), (.istore_n 3, 0, 0), (.iload_n 3, 0, 0), (.bipush 73, 0, 73), (.if_icmp .gt 25, 17, 0), (.aload_n 0, 0, 0), (.getfield 33, 21, 10), (.iload_n 3, 0, 0), (.ldc 243, 0, 100000000), (.iastore, 0, 0), (.aload_n 0, 0, 0), (.getfield 36, 22, 10), (.iload_n 3, 0, 0), (.ldc 243, 0, 100000000), (.iastore, 0, 0), (.iinc 3 1, 0, 1), (.goto (-25), 2, 0), (.aload_n 0, 0, 0), (.getfield 33, 21, 10), (.iload_n 1, 0, 0), (.iconst 0, 0, 0), (.iastore, 0, 0), (.aload_n 0, 0, 0), (.getfield 36, 22, 10), (.iload_n 1, 0, 0), (.iconst 0, 0, 0), (.iastore, 0, 0), (.iconst 1, 0, 1), (.istore_n 3, 0, 0), (.iconst 0, 0, 0), (.istore 4, 0, 0), (.iload 4, 0, 0), (.bipush 74, 0, 74), (.if_icmp .gt 154, 109, 0), (.iload_n 3, 0, 0), (.ifCond .eq 150, 109, 0), (.iconst 0, 0, 0), (.istore_n 3, 0, 0), (.iconst 0, 0, 0), (.istore 5, 0, 0), (.iload 5, 0, 0), (.bipush 108, 0, 108), (.if_icmp .ge 132, 107, 0), (.aload_n 0, 0, 0), (.iload 5, 0, 0), (.invokevirtual 130, 124, 0), (.ifCond .eq 117, 105, 0), (.aload_n 0, 0, 0), (.iload 5, 0, 0), (.invokevirtual 247, 154, 0), (.istore 6, 0, 0), (.aload_n 0, 0, 0), (.iload 5, 0, 0), (.invokevirtual 250, 155, 0), (.istore 7, 0, 0), (.iload_n 2, 0, 0), (.ifCond .eq 21, 66, 0), (.aload_n 0, 0, 0), (.iload 7, 0, 0), (.iload 6, 0, 0), (.aload_n 0, 0, 0), (.getfield 17, 4, 10), (.iload 5, 0, 0), (.iaload, 0, 0), (.invokevirtual 253, 157, 0), (.goto 18, 74, 0), (.aload_n 0, 0, 0), (.iload 6, 0, 0), (.iload 7, 0, 0), (.aload_n 0, 0, 0), (.getfield 17, 4, 10), (.iload 5, 0, 0), (.iaload, 0, 0), (.invokevirtual 253, 157, 0), (.istore 8, 0, 0), (.iload_n 2, 0, 0), (.ifCond .eq 21, 86, 0), (.aload_n 0, 0, 0), (.iload 6, 0, 0), (.iload 7, 0, 0), (.aload_n 0, 0, 0), (.getfield 20, 5, 10), (.iload 5, 0, 0), (.iaload, 0, 0), (.invokevirtual 253, 157, 0), (.goto 18, 94, 0), (.aload_n 0, 0, 0), (.iload 7, 0, 0), (.iload 6, 0, 0), (.aload_n 0, 0, 0), (.getfield 20, 5, 10), (.iload 5, 0, 0), (.iaload, 0, 0), (.invokevirtual 253, 157, 0), (.istore 9, 0, 0), (.iload_n 3, 0, 0), (.ifCond .ne 13, 101, 0), (.iload 8, 0, 0), (.ifCond .ne 8, 101, 0), (.iload 9, 0, 0)]
def jm_cd158_1 : List (Instr × Nat × Int) := [(.ifCond .eq 7, 103, 0), (.iconst 1, 0, 1), (.goto 4, 104, 0), (.iconst 0, 0, 0), (.istore_n 3, 0, 0), (.iinc 5 1, 0, 1), (.goto (-133), 40, 0), (.iinc 4 1, 0, 1), (.goto (-155), 31, 0), (.iload_n 3, 0, 0), (.ifCond .ne 7, 113, 0), (.iconst 1, 0, 1), (.goto 4, 114, 0), (.iconst 0, 0, 0), (.ireturn, 1, 0)]
/-- X10_laysCosts -/
def jm_cd158 : List (Instr × Nat × Int) := jm_cd158_0 ++ jm_cd158_1
def jm_bp158 : List Nat := [0, 1, 2, 3, 5, 8, 9, 12, 13, 15, 16, 17, 20, 21, 23, 24, 27, 30, 31, 34, 35, 36, 37, 38, 41, 42, 43, 44, 45, 46, 47, 49, 51, 53, 56, 57, 60, 61, 62, 63, 65, 67, 69, 72, 73, 75, 78, 81, 82, 84, 87, 89, 90, 92, 95, 97, 98, 101, 102, 104, 106, 107, 110, 112, 113, 116, 119, 120, 122, 124, 125, 128, 130, 131, 134, 136, 137, 140, 141, 143, 145, 146, 149, 151, 152, 155, 158, 159, 161, 163, 164, 167, 169, 170, 173, 175, 176, 179, 181, 184, 186, 189, 190, 193, 194, 195, 198, 201, 204, 207, 208, 211, 212, 215, 216]
/-- X10_canCirculate -/
def jm_cd159 : List (Instr × Nat × Int) := [(.aload_n 0, 0, 0), (.iconst 0, 0, 0), (.putfield 240, 24, 10), (.aload_n 0, 0, 0), (.bipush 72, 0, 72), (.iconst 0, 0, 0), (.invokevirtual 256, 158, 0), (.ireturn, 1, 0)]
def jm_bp159 : List Nat := [0, 1, 2, 5, 6, 8, 9, 12]
/-- X10_distance -/
def jm_cd160 : List (Instr × Nat × Int) := [(.aload_n 0, 0, 0), (.aload_n 0, 0, 0), (.iload_n 1, 0, 0), (.invokevirtual 127, 130, 0), (.ifCond .eq 15, 11, 0), (.aload_n 0, 0, 0), (.iload_n 2, 0, 0), (.invokevirtual 127, 130, 0), (.ifCond .eq 7, 11, 0), (.iconst 0, 0, 0), (.goto 4, 12, 0), (.iconst 1, 0, 1), (.putfield 1, 0, 10), (.aload_n 0, 0, 0), (.getfield 1, 0, 10), (.ifCond .le 5, 18, 0), (.iconst 0, 0, 0), (.ireturn, 0, 0), (.aload_n 0, 0, 0), (.invokevirtual 260, 159, 0), (.ifCond .ne 7, 23, 0), (.ldc_w 263, 0, (-100000)), (.ireturn, 0, 0), (.aload_n 0, 0, 0), (.iload_n 1, 0, 0), (.iconst 0, 0, 0), (.invokevirtual 256, 158, 0), (.istore_n 3, 0, 0), (.aload_n 0, 0, 0), (.getfield 33, 21, 10), (.iload_n 2, 0, 0), (.iaload, 0, 0), (.ireturn, 0, 0)]
def jm_bp160 : List Nat := [0, 1, 2, 3, 6, 9, 10, 11, 14, 17, 18, 21, 22, 25, 26, 29, 32, 33, 34, 35, 38, 41, 44, 45, 46, 47, 48, 51, 52, 53, 56, 57, 58]
/-- X10_nextEdge -/
def jm_cd161 : List (Instr × Nat × Int) := [(.iconst 0, 0, 0), (.istore_n 2, 0, 0), (.iload_n 2, 0, 0), (.bipush 108, 0, 108), (.if_icmp .ge 162, 96, 0), (.aload_n 0, 0, 0), (.iload_n 2, 0, 0), (.invokevirtual 130, 124, 0), (.ifCond .eq 148, 94, 0), (.aload_n 0, 0, 0), (.iload_n 2, 0, 0), (.invokevirtual 231, 128, 0), (.istore_n 3, 0, 0), (.aload_n 0, 0, 0), (.iload_n 2, 0, 0), (.invokevirtual 234, 129, 0), (.istore 4, 0, 0), (.iload_n 3, 0, 0), (.iload_n 1, 0, 0), (.if_icmp .ne 48, 47, 0), (.aload_n 0, 0, 0), (.getfield 33, 21, 10), (.iload 4, 0, 0), (.iaload, 0, 0), (.aload_n 0, 0, 0), (.getfield 17, 4, 10), (.iload_n 2, 0, 0), (.iaload, 0, 0), (.iadd, 0, 0), (.aload_n 0, 0, 0), (.getfield 33, 21, 10), (.iload_n 1, 0, 0), (.iaload, 0, 0), (.if_icmp .ne 25, 47, 0), (.aload_n 0, 0, 0), (.getfield 36, 22, 10), (.iload 4, 0, 0), (.iaload, 0, 0), (.iconst 1, 0, 1), (.iadd, 0, 0), (.aload_n 0, 0, 0), (.getfield 36, 22, 10), (.iload_n 1, 0, 0), (.iaload, 0, 0), (.if_icmp .ne 7, 47, 0), (.iconst 1, 0, 1), (.goto 4, 48, 0), (.iconst 0, 0, 0), (.istore 5, 0, 0), (.iload 4, 0, 0), (.iload_n 1, 0, 0), (.if_icmp .ne 46, 79, 0), (.aload_n 0, 0, 0), (.getfield 33, 21, 10), (.iload_n 3, 0, 0), (.iaload, 0, 0), (.aload_n 0, 0, 0), (.getfield 20, 5, 10), (.iload_n 2, 0, 0), (.iaload, 0, 0), (.iadd, 0, 0), (.aload_n 0, 0, 0), (.getfield 33, 21, 10), (.iload_n 1, 0, 0), (.iaload, 0, 0), (.if_icmp .ne 24, 79, 0), (.aload_n 0, 0, 0), (.getfield 36, 22, 10), (.iload_n 3, 0, 0), (.iaload, 0, 0), (.iconst 1, 0, 1), (.iadd, 0, 0), (.aload_n 0, 0, 0), (.getfield 36, 22, 10), (.iload_n 1, 0, 0), (.iaload, 0, 0), (.if_icmp .ne 7, 79, 0), (.iconst 1, 0, 1), (.goto 4, 80, 0), (.iconst 0, 0, 0), (.istore 6, 0, 0), (.iload 5, 0, 0), (.ifCond .ne 8, 85, 0), (.iload 6, 0, 0), (.ifCond .eq 20, 94, 0), (.aload_n 0, 0, 0), (.iload 5, 0, 0), (.ifCond .eq 8, 90, 0), (.iload 4, 0, 0), (.goto 4, 91, 0), (.iload_n 3, 0, 0), (.putfield 264, 25, 10), (.iload_n 2, 0, 0), (.ireturn, 0, 0), (.iinc 2 1, 0, 1), (.goto (-162), 2, 0), (.iconst (-1), 0, (-1)), (.ireturn, 0, 0)]
def jm_bp161 : List Nat := [0, 1, 2, 3, 5, 8, 9, 10, 13, 16, 17, 18, 21, 22, 23, 24, 27, 29, 30, 31, 34, 35, 38, 40, 41, 42, 45, 46, 47, 48, 49, 52, 53, 54, 57, 58, 61, 63, 64, 65, 66, 67, 70, 71, 72, 75, 76, 79, 80, 82, 84, 85, 88, 89, 92, 93, 94, 95, 98, 99, 100, 101, 102, 105, 106, 107, 110, 111, 114, 115, 116, 117, 118, 119, 122, 123, 124, 127, 128, 131, 132, 134, 136, 139, 141, 144, 145, 147, 150, 152, 155, 156, 159, 160, 161, 164, 167, 168]
/-- X10_route -/
def jm_cd162 : List (Instr × Nat × Int) := [(.aload_n 0, 0, 0), (.iconst 0, 0, 0), (.putfield 1, 0, 10), (.aload_n 0, 0, 0), (.iload_n 1, 0, 0), (.invokevirtual 127, 130, 0), (.ifCond .eq 23, 17, 0), (.aload_n 0, 0, 0), (.iload_n 2, 0, 0), (.invokevirtual 127, 130, 0), (.ifCond .eq 15, 17, 0), (.iload_n 3, 0, 0), (.iconst (-1), 0, (-1)), (.if_icmp .lt 10, 17, 0), (.aload_n 0, 0, 0), (.invokevirtual 260, 159, 0), (.ifCond .ne 5, 19, 0), (.iconst (-1), 0, (-1)), (.ireturn, 0, 0), (.aload_n 0, 0, 0), (.iload_n 2, 0, 0), (.iconst 1, 0, 1), (.invokevirtual 256, 158, 0), (.istore 4, 0, 0), (.iload_n 3, 0, 0), (.iconst (-1), 0, (-1)), (.if_icmp .ne 10, 32, 0), (.aload_n 0, 0, 0), (.getfield 36, 22, 10), (.iload_n 1, 0, 0), (.iaload, 0, 0), (.ireturn, 0, 0), (.iload_n 3, 0, 0), (.aload_n 0, 0, 0), (.getfield 36, 22, 10), (.iload_n 1, 0, 0), (.iaload, 0, 0), (.if_icmp .lt 5, 40, 0), (.iconst (-1), 0, (-1)), (.ireturn, 0, 0), (.iload_n 1, 0, 0), (.istore 5, 0, 0), (.iconst (-1), 0, (-1)), (.istore 6, 0, 0), (.iconst 0, 0, 0), (.istore 7, 0, 0), (.iload 7, 0, 0), (.iload_n 3, 0, 0), (.if_icmp .gt 23, 58, 0), (.aload_n 0, 0, 0), (.iload 5, 0, 0), (.invokevirtual 267, 161, 0), (.istore 6, 0, 0), (.aload_n 0, 0, 0), (.getfield 264, 25, 10), (.istore 5, 0, 0), (.iinc 7 1, 0, 1), (.goto (-23), 46, 0), (.iload 6, 0, 0), (.ireturn, 0, 0)]
def jm_bp162 : List Nat := [0, 1, 2, 5, 6, 7, 10, 13, 14, 15, 18, 21, 22, 23, 26, 27, 30, 33, 34, 35, 36, 37, 38, 41, 43, 44, 45, 48, 49, 52, 53, 54, 55, 56, 57, 60, 61, 62, 65, 66, 67, 68, 70, 71, 73, 74, 76, 78, 79, 82, 83, 85, 88, 90, 91, 94, 96, 99, 102, 104]
/-- X10_circulates -/
def jm_cd163 : List (Instr × Nat × Int) := [(.aload_n 0, 0, 0), (.iconst 0, 0, 0), (.putfield 1, 0, 10), (.aload_n 0, 0, 0), (.invokevirtual 260, 159, 0), (.ifCond .eq 7, 8, 0), (.iconst 1, 0, 1), (.goto 4, 9, 0), (.iconst 0, 0, 0), (.ireturn, 0, 0)]
def jm_bp163 : List Nat := [0, 1, 2, 5, 6, 9, 12, 13, 16, 17]
/-- X10_potential -/
def jm_cd164 : List (Instr × Nat × Int) := [(.aload_n 0, 0, 0), (.aload_n 0, 0, 0), (.iload_n 1, 0, 0), (.invokevirtual 127, 130, 0), (.ifCond .eq 7, 7, 0), (.iconst 0, 0, 0), (.goto 4, 8, 0), (.iconst 1, 0, 1), (.putfield 1, 0, 10), (.aload_n 0, 0, 0), (.getfield 1, 0, 10), (.ifCond .le 7, 14, 0), (.iconst 0, 0, 0), (.goto 22, 23, 0), (.aload_n 0, 0, 0), (.invokevirtual 260, 159, 0), (.ifCond .eq 12, 22, 0), (.aload_n 0, 0, 0), (.getfield 33, 21, 10), (.iload_n 1, 0, 0), (.iaload, 0, 0), (.goto 6, 23, 0), (.ldc_w 263, 0, (-100000)), (.ireturn, 0, 0)]
def jm_bp164 : List Nat := [0, 1, 2, 3, 6, 9, 10, 13, 14, 17, 18, 21, 24, 25, 28, 29, 32, 35, 36, 39, 40, 41, 44, 47]
/-- X10_betters -/
def jm_cd165 : List (Instr × Nat × Int) := [(.aload_n 0, 0, 0), (.getfield 43, 26, 10), (.iload_n 1, 0, 0), (.iaload, 0, 0), (.ldc 243, 0, 100000000), (.if_icmp .ge 20, 17, 0), (.aload_n 0, 0, 0), (.getfield 43, 26, 10), (.iload_n 1, 0, 0), (.iaload, 0, 0), (.iload_n 3, 0, 0), (.iadd, 0, 0), (.aload_n 0, 0, 0), (.getfield 43, 26, 10), (.iload_n 2, 0, 0), (.iaload, 0, 0), (.if_icmp .lt 5, 19, 0), (.iconst 0, 0, 0), (.ireturn, 1, 0), (.aload_n 0, 0, 0), (.getfield 43, 26, 10), (.iload_n 2, 0, 0), (.aload_n 0, 0, 0), (.getfield 43, 26, 10), (.iload_n 1, 0, 0), (.iaload, 0, 0), (.iload_n 3, 0, 0), (.iadd, 0, 0), (.iastore, 0, 0), (.aload_n 0, 0, 0), (.getfield 46, 27, 10), (.iload_n 2, 0, 0), (.iload 4, 0, 0), (.iastore, 0, 0), (.iconst 1, 0, 1), (.ireturn, 1, 0)]
def jm_bp165 : List Nat := [0, 1, 4, 5, 6, 8, 11, 12, 15, 16, 17, 18, 19, 20, 23, 24, 25, 28, 29, 30, 31, 34, 35, 36, 39, 40, 41, 42, 43, 44, 45, 48, 49, 51, 52, 53]
/-- X10_ahead -/
def jm_cd166 : List (Instr × Nat × Int) := [(.aload_n 0, 0, 0), (.getfield 46, 27, 10), (.iload_n 1, 0, 0), (.iaload, 0, 0), (.istore_n 2, 0, 0), (.aload_n 0, 0, 0), (.iload_n 2, 0, 0), (.invokevirtual 231, 128, 0), (.iload_n 1, 0, 0), (.if_icmp .ne 11, 14, 0), (.aload_n 0, 0, 0), (.iload_n 2, 0, 0), (.invokevirtual 234, 129, 0), (.goto 8, 17, 0), (.aload_n 0, 0, 0), (.iload_n 2, 0, 0), (.invokevirtual 231, 128, 0), (.ireturn, 0, 0)]
def jm_bp166 : List Nat := [0, 1, 4, 5, 6, 7, 8, 9, 12, 13, 16, 17, 18, 21, 24, 25, 26, 29]
/-- X10_firstBetter -/
def jm_cd167 : List (Instr × Nat × Int) := [(.iconst 0, 0, 0), (.istore_n 1, 0, 0), (.iload_n 1, 0, 0), (.bipush 108, 0, 108), (.if_icmp .ge 77, 47, 0), (.aload_n 0, 0, 0), (.iload_n 1, 0, 0), (.invokevirtual 130, 124, 0), (.ifCond .eq 63, 45, 0), (.aload_n 0, 0, 0), (.aload_n 0, 0, 0), (.iload_n 1, 0, 0), (.invokevirtual 231, 128, 0), (.aload_n 0, 0, 0), (.iload_n 1, 0, 0), (.invokevirtual 234, 129, 0), (.aload_n 0, 0, 0), (.getfield 17, 4, 10), (.iload_n 1, 0, 0), (.iaload, 0, 0), (.iload_n 1, 0, 0), (.invokevirtual 270, 165, 0), (.ifCond .eq 9, 27, 0), (.aload_n 0, 0, 0), (.iload_n 1, 0, 0), (.invokevirtual 234, 129, 0), (.ireturn, 0, 0), (.aload_n 0, 0, 0), (.aload_n 0, 0, 0), (.iload_n 1, 0, 0), (.invokevirtual 234, 129, 0), (.aload_n 0, 0, 0), (.iload_n 1, 0, 0), (.invokevirtual 231, 128, 0), (.aload_n 0, 0, 0), (.getfield 20, 5, 10), (.iload_n 1, 0, 0), (.iaload, 0, 0), (.iload_n 1, 0, 0), (.invokevirtual 270, 165, 0), (.ifCond .eq 9, 45, 0), (.aload_n 0, 0, 0), (.iload_n 1, 0, 0), (.invokevirtual 231, 128, 0), (.ireturn, 0, 0), (.iinc 1 1, 0, 1), (.goto (-77), 2, 0), (.iconst (-1), 0, (-1)), (.ireturn, 0, 0)]
def jm_bp167 : List Nat := [0, 1, 2, 3, 5, 8, 9, 10, 13, 16, 17, 18, 19, 22, 23, 24, 27, 28, 31, 32, 33, 34, 37, 40, 41, 42, 45, 46, 47, 48, 49, 52, 53, 54, 57, 58, 61, 62, 63, 64, 67, 70, 71, 72, 75, 76, 79, 82, 83]
def jm_cd168_0 : List (Instr × Nat × Int) := [(.iconst 0, 0, 0), (.istore_n 1, 0, 0), (.iload_n 1, 0, 0), (.bipush 73, 0, 73), (.if_icmp .ge 24, 17, 0), (.aload_n 0, 0, 0), (.getfield 43, 26, 10), (.iload_n 1, 0, 0), (.ldc 243, 0, 100000000), (.iastore, 0, 0), (.aload_n 0, 0, 0), (.getfield 46, 27, 10), (.iload_n 1, 0, 0), (.iconst (-1), 0, (-1)), (.iastore, 0, 0), (.iinc 1 1, 0, 1), (.goto (-24), 2, 0), (.aload_n 0, 0, 0), (.getfield 43, 26, 10), (.bipush 72, 0, 72), (.iconst 0, 0, 0), (.iastore, 0, 0), (.aload_n 0, 0, 0), (.invokevirtual 274, 131, 0), (.istore_n 1, 0, 0), (.iconst 0, 0, 0), (.istore_n 2, 0, 0), (.iload_n 2, 0, 0), (.iload_n 1, 0, 0), (.if_icmp .ge 77, 71, 0), (.iconst 0, 0, 0), (.istore_n 3, 0, 0), (.iload_n 3, 0, 0), (.bipush 108, 0, 108), (.if_icmp .ge 63, 69, 0), (.aload_n 0, 0, 0), (.iload_n 3, 0, 0), (.invokevirtual 130, 124, 0), (.ifCond .eq 49, 67, 0), (.aload_n 0, 0, 0), (.aload_n 0, 0, 0), (.iload_n 3, 0, 0), (.invokevirtual 231, 128, 0), (.aload_n 0, 0, 0), (.iload_n 3, 0, 0), (.invokevirtual 234, 129, 0), (.aload_n 0, 0, 0), (.getfield 17, 4, 10), (.iload_n 3, 0, 0), (.iaload, 0, 0), (.iload_n 3, 0, 0), (.invokevirtual 270, 165, 0), (.istore 4, 0, 0), (.aload_n 0, 0, 0), (.aload_n 0, 0, 0), (.iload_n 3, 0, 0), (.invokevirtual 234, 129, 0), (.aload_n 0, 0, 0), (.iload_n 3, 0, 0), (.invokevirtual 231, 128, 0), (.aload_n 0, 0, 0), (.getfield 20, 5, 10), (.iload_n 3, 0, 0), (.iaload, 0, 0), (.iload_n 3, 0, 0), (.invokevirtual 270, 165, 0), (.istore 5, 0, 0), (.iinc 3 1, 0, 1), (.goto (-63), 32, 0), (.iinc 2 1, 0, 1), (.goto (-76), 27, 0), (.aload_n 0, 0, 0), (.invokevirtual 277, 167, 0), (.istore_n 2, 0, 0), (.iload_n 2, 0, 0), (.ifCond .ge 5, 78, 0), (.iconst 0, 0, 0), (.ireturn, 1, 0), (.iconst 0, 0, 0), (.istore_n 3, 0, 0), (.iload_n 3, 0, 0), (.iload_n 1, 0, 0), (.if_icmp .ge 15, 89, 0), (.aload_n 0, 0, 0), (.iload_n 2, 0, 0), (.invokevirtual 280, 166, 0), (.istore_n 2, 0, 0), (.iinc 3 1, 0, 1), (.goto (-14), 80, 0), (.aload_n 0, 0, 0), (.iconst 0, 0, 0), (.putfield 283, 29, 10), (.aload_n 0, 0, 0), (.iconst 0, 0, 0), (.putfield 286, 30, 10), (.iload_n 2, 0, 0), (.istore_n 3, 0, 0), (.iconst 1, 0, 1), (.istore 4, 0, 0), (.iload 4, 0, 0)]
def jm_cd168_1 : List (Instr × Nat × Int) := [(.ifCond .eq 88, 149, 0), (.aload_n 0, 0, 0), (.getfield 49, 28, 10), (.aload_n 0, 0, 0), (.getfield 283, 29, 10), (.iload_n 3, 0, 0), (.iastore, 0, 0), (.aload_n 0, 0, 0), (.dup, 0, 0), (.getfield 283, 29, 10), (.iconst 1, 0, 1), (.iadd, 0, 0), (.putfield 283, 29, 10), (.aload_n 0, 0, 0), (.getfield 46, 27, 10), (.iload_n 3, 0, 0), (.iaload, 0, 0), (.istore 5, 0, 0), (.aload_n 0, 0, 0), (.dup, 0, 0), (.getfield 286, 30, 10), (.aload_n 0, 0, 0), (.iload 5, 0, 0), (.invokevirtual 234, 129, 0), (.iload_n 3, 0, 0), (.if_icmp .ne 13, 131, 0), (.aload_n 0, 0, 0), (.getfield 17, 4, 10), (.iload 5, 0, 0), (.iaload, 0, 0), (.goto 10, 135, 0), (.aload_n 0, 0, 0), (.getfield 20, 5, 10), (.iload 5, 0, 0), (.iaload, 0, 0), (.iadd, 0, 0), (.putfield 286, 30, 10), (.aload_n 0, 0, 0), (.iload_n 3, 0, 0), (.invokevirtual 280, 166, 0), (.istore_n 3, 0, 0), (.iload_n 3, 0, 0), (.iload_n 2, 0, 0), (.if_icmp .eq 7, 146, 0), (.iconst 1, 0, 1), (.goto 4, 147, 0), (.iconst 0, 0, 0), (.istore 4, 0, 0), (.goto (-87), 99, 0), (.iconst 1, 0, 1), (.ireturn, 1, 0)]
/-- X10_laysRing -/
def jm_cd168 : List (Instr × Nat × Int) := jm_cd168_0 ++ jm_cd168_1
def jm_bp168 : List Nat := [0, 1, 2, 3, 5, 8, 9, 12, 13, 15, 16, 17, 20, 21, 22, 23, 26, 29, 30, 33, 35, 36, 37, 38, 41, 42, 43, 44, 45, 46, 49, 50, 51, 52, 54, 57, 58, 59, 62, 65, 66, 67, 68, 71, 72, 73, 76, 77, 80, 81, 82, 83, 86, 88, 89, 90, 91, 94, 95, 96, 99, 100, 103, 104, 105, 106, 109, 111, 114, 117, 120, 123, 124, 127, 128, 129, 132, 133, 134, 135, 136, 137, 138, 141, 142, 143, 146, 147, 150, 153, 154, 155, 158, 159, 160, 163, 164, 165, 166, 168, 170, 173, 174, 177, 178, 181, 182, 183, 184, 185, 188, 189, 190, 193, 194, 197, 198, 199, 201, 202, 203, 206, 207, 209, 212, 213, 216, 217, 220, 222, 223, 226, 227, 230, 232, 233, 234, 237, 238, 239, 242, 243, 244, 245, 248, 249, 252, 253, 255, 258, 259]
/-- X10_ring -/
def jm_cd169 : List (Instr × Nat × Int) := [(.aload_n 0, 0, 0), (.iconst 0, 0, 0), (.putfield 1, 0, 10), (.iload_n 1, 0, 0), (.bipush (-2), 0, (-2)), (.if_icmp .lt 10, 9, 0), (.aload_n 0, 0, 0), (.invokevirtual 289, 168, 0), (.ifCond .ne 6, 11, 0), (.bipush (-101), 0, (-101)), (.ireturn, 0, 0), (.iload_n 1, 0, 0), (.iconst (-1), 0, (-1)), (.if_icmp .ne 10, 17, 0), (.aload_n 0, 0, 0), (.getfield 283, 29, 10), (.goto 35, 33, 0), (.iload_n 1, 0, 0), (.bipush (-2), 0, (-2)), (.if_icmp .ne 10, 23, 0), (.aload_n 0, 0, 0), (.getfield 286, 30, 10), (.goto 22, 33, 0), (.iload_n 1, 0, 0), (.aload_n 0, 0, 0), (.getfield 283, 29, 10), (.if_icmp .ge 12, 32, 0), (.aload_n 0, 0, 0), (.getfield 49, 28, 10), (.iload_n 1, 0, 0), (.iaload, 0, 0), (.goto 5, 33, 0), (.bipush (-101), 0, (-101)), (.ireturn, 0, 0)]
def jm_bp169 : List Nat := [0, 1, 2, 5, 6, 8, 11, 12, 15, 18, 20, 21, 22, 23, 26, 27, 30, 33, 34, 36, 39, 40, 43, 46, 47, 48, 51, 54, 55, 58, 59, 60, 63, 65]
/-- X10_circulates0 -/
def jm_cd170 : List (Instr × Nat × Int) := [(.aload_n 0, 0, 0), (.invokevirtual 260, 159, 0), (.ifCond .ne 5, 5, 0), (.iconst 0, 0, 0), (.ireturn, 1, 0), (.iconst 0, 0, 0), (.istore_n 1, 0, 0), (.iload_n 1, 0, 0), (.bipush 108, 0, 108), (.if_icmp .ge 48, 35, 0), (.aload_n 0, 0, 0), (.getfield 52, 31, 10), (.iload_n 1, 0, 0), (.aload_n 0, 0, 0), (.iload_n 1, 0, 0), (.invokevirtual 130, 124, 0), (.ifCond .eq 27, 31, 0), (.aload_n 0, 0, 0), (.getfield 33, 21, 10), (.aload_n 0, 0, 0), (.iload_n 1, 0, 0), (.invokevirtual 234, 129, 0), (.iaload, 0, 0), (.aload_n 0, 0, 0), (.getfield 33, 21, 10), (.aload_n 0, 0, 0), (.iload_n 1, 0, 0), (.invokevirtual 231, 128, 0), (.iaload, 0, 0), (.isub, 0, 0), (.goto 4, 32, 0), (.iconst 0, 0, 0), (.iastore, 0, 0), (.iinc 1 1, 0, 1), (.goto (-48), 7, 0), (.aload_n 0, 0, 0), (.iconst 0, 0, 0), (.putfield 292, 34, 10), (.aload_n 0, 0, 0), (.iconst 0, 0, 0), (.putfield 295, 35, 10), (.aload_n 0, 0, 0), (.ldc 243, 0, 100000000), (.putfield 298, 36, 10), (.iconst 1, 0, 1), (.ireturn, 1, 0)]
def jm_bp170 : List Nat := [0, 1, 4, 7, 8, 9, 10, 11, 12, 14, 17, 18, 21, 22, 23, 24, 27, 30, 31, 34, 35, 36, 39, 40, 41, 44, 45, 46, 49, 50, 51, 54, 55, 56, 59, 62, 63, 64, 67, 68, 69, 72, 73, 75, 78, 79]
/-- X10_leftOn -/
def jm_cd171 : List (Instr × Nat × Int) := [(.iload_n 2, 0, 0), (.ifCond .eq 19, 12, 0), (.aload_n 0, 0, 0), (.getfield 17, 4, 10), (.iload_n 1, 0, 0), (.iaload, 0, 0), (.aload_n 0, 0, 0), (.getfield 52, 31, 10), (.iload_n 1, 0, 0), (.iaload, 0, 0), (.isub, 0, 0), (.goto 16, 21, 0), (.aload_n 0, 0, 0), (.getfield 20, 5, 10), (.iload_n 1, 0, 0), (.iaload, 0, 0), (.aload_n 0, 0, 0), (.getfield 52, 31, 10), (.iload_n 1, 0, 0), (.iaload, 0, 0), (.iadd, 0, 0), (.ireturn, 0, 0)]
def jm_bp171 : List Nat := [0, 1, 4, 5, 8, 9, 10, 11, 14, 15, 16, 17, 20, 21, 24, 25, 26, 27, 30, 31, 32, 33]
def jm_cd172_0 : List (Instr × Nat × Int) := [(.iload_n 1, 0, 0), (.aload_n 0, 0, 0), (.getfield 98, 1, 10), (.irem, 0, 0), (.istore_n 3, 0, 0), (.iload_n 1, 0, 0), (.aload_n 0, 0, 0), (.getfield 98, 1, 10), (.idiv, 0, 0), (.istore 4, 0, 0), (.iconst (-1), 0, (-1)), (.istore 5, 0, 0), (.iload_n 2, 0, 0), (.tableswitch 267 0 6 #[41, 65, 114, 136, 181, 206, 249], 4, 41), (.iload 4, 0, 0), (.ifCond .le 16, 25, 0), (.iconst 3, 0, 3), (.iload_n 1, 0, 0), (.aload_n 0, 0, 0), (.getfield 98, 1, 10), (.isub, 0, 0), (.imul, 0, 0), (.iconst 1, 0, 1), (.iadd, 0, 0), (.goto 4, 26, 0), (.iconst (-1), 0, (-1)), (.istore 5, 0, 0), (.goto 249, 178, 0), (.iload 4, 0, 0), (.ifCond .le 41, 54, 0), (.iload_n 3, 0, 0), (.aload_n 0, 0, 0), (.getfield 98, 1, 10), (.iconst 1, 0, 1), (.isub, 0, 0), (.if_icmp .ge 31, 54, 0), (.aload_n 0, 0, 0), (.getfield 13, 3, 10), (.iload_n 1, 0, 0), (.aload_n 0, 0, 0), (.getfield 98, 1, 10), (.isub, 0, 0), (.iaload, 0, 0), (.iconst 2, 0, 2), (.if_icmp .ne 16, 54, 0), (.iconst 3, 0, 3), (.iload_n 1, 0, 0), (.aload_n 0, 0, 0), (.getfield 98, 1, 10), (.isub, 0, 0), (.imul, 0, 0), (.iconst 2, 0, 2), (.iadd, 0, 0), (.goto 4, 55, 0), (.iconst (-1), 0, (-1)), (.istore 5, 0, 0), (.goto 200, 178, 0), (.iload_n 3, 0, 0), (.aload_n 0, 0, 0), (.getfield 98, 1, 10), (.iconst 1, 0, 1), (.isub, 0, 0), (.if_icmp .ge 9, 67, 0), (.iconst 3, 0, 3), (.iload_n 1, 0, 0), (.imul, 0, 0), (.goto 4, 68, 0), (.iconst (-1), 0, (-1)), (.istore 5, 0, 0), (.goto 178, 178, 0), (.iload_n 3, 0, 0), (.aload_n 0, 0, 0), (.getfield 98, 1, 10), (.iconst 1, 0, 1), (.isub, 0, 0), (.if_icmp .ge 32, 94, 0), (.iload 4, 0, 0), (.aload_n 0, 0, 0), (.getfield 101, 2, 10), (.iconst 1, 0, 1), (.isub, 0, 0), (.if_icmp .ge 21, 94, 0), (.aload_n 0, 0, 0), (.getfield 13, 3, 10), (.iload_n 1, 0, 0), (.iaload, 0, 0), (.iconst 1, 0, 1), (.if_icmp .ne 11, 94, 0), (.iconst 3, 0, 3), (.iload_n 1, 0, 0), (.imul, 0, 0), (.iconst 2, 0, 2), (.iadd, 0, 0), (.goto 4, 95, 0), (.iconst (-1), 0, (-1)), (.istore 5, 0, 0), (.goto 133, 178, 0), (.iload 4, 0, 0), (.aload_n 0, 0, 0), (.getfield 101, 2, 10)]
def jm_cd172_1 : List (Instr × Nat × Int) := [(.iconst 1, 0, 1), (.isub, 0, 0), (.if_icmp .ge 11, 109, 0), (.iconst 3, 0, 3), (.iload_n 1, 0, 0), (.imul, 0, 0), (.iconst 1, 0, 1), (.iadd, 0, 0), (.goto 4, 110, 0), (.iconst (-1), 0, (-1)), (.istore 5, 0, 0), (.goto 108, 178, 0), (.iload_n 3, 0, 0), (.ifCond .le 36, 136, 0), (.iload 4, 0, 0), (.aload_n 0, 0, 0), (.getfield 101, 2, 10), (.iconst 1, 0, 1), (.isub, 0, 0), (.if_icmp .ge 25, 136, 0), (.aload_n 0, 0, 0), (.getfield 13, 3, 10), (.iload_n 1, 0, 0), (.iconst 1, 0, 1), (.isub, 0, 0), (.iaload, 0, 0), (.iconst 2, 0, 2), (.if_icmp .ne 13, 136, 0), (.iconst 3, 0, 3), (.iload_n 1, 0, 0), (.iconst 1, 0, 1), (.isub, 0, 0), (.imul, 0, 0), (.iconst 2, 0, 2), (.iadd, 0, 0), (.goto 4, 137, 0), (.iconst (-1), 0, (-1)), (.istore 5, 0, 0), (.goto 65, 178, 0), (.iload_n 3, 0, 0), (.ifCond .le 11, 147, 0), (.iconst 3, 0, 3), (.iload_n 1, 0, 0), (.iconst 1, 0, 1), (.isub, 0, 0), (.imul, 0, 0), (.goto 4, 148, 0), (.iconst (-1), 0, (-1)), (.istore 5, 0, 0), (.goto 47, 178, 0), (.iload_n 3, 0, 0), (.ifCond .le 40, 176, 0), (.iload 4, 0, 0), (.ifCond .le 35, 176, 0), (.aload_n 0, 0, 0), (.getfield 13, 3, 10), (.iload_n 1, 0, 0), (.aload_n 0, 0, 0), (.getfield 98, 1, 10), (.isub, 0, 0), (.iconst 1, 0, 1), (.isub, 0, 0), (.iaload, 0, 0), (.iconst 1, 0, 1), (.if_icmp .ne 18, 176, 0), (.iconst 3, 0, 3), (.iload_n 1, 0, 0), (.aload_n 0, 0, 0), (.getfield 98, 1, 10), (.isub, 0, 0), (.iconst 1, 0, 1), (.isub, 0, 0), (.imul, 0, 0), (.iconst 2, 0, 2), (.iadd, 0, 0), (.goto 4, 177, 0), (.iconst (-1), 0, (-1)), (.istore 5, 0, 0), (.iload 5, 0, 0), (.ireturn, 0, 0)]
/-- X10_edgeAt -/
def jm_cd172 : List (Instr × Nat × Int) := jm_cd172_0 ++ jm_cd172_1
def jm_bp172 : List Nat := [0, 1, 2, 5, 6, 7, 8, 9, 12, 13, 15, 16, 18, 19, 60, 62, 65, 66, 67, 68, 71, 72, 73, 74, 75, 78, 79, 81, 84, 86, 89, 90, 91, 94, 95, 96, 99, 100, 103, 104, 105, 108, 109, 110, 111, 114, 115, 116, 117, 120, 121, 122, 123, 124, 127, 128, 130, 133, 134, 135, 138, 139, 140, 143, 144, 145, 146, 149, 150, 152, 155, 156, 157, 160, 161, 162, 165, 167, 168, 171, 172, 173, 176, 177, 180, 181, 182, 183, 186, 187, 188, 189, 190, 191, 194, 195, 197, 200, 202, 203, 206, 207, 208, 211, 212, 213, 214, 215, 216, 219, 220, 222, 225, 226, 229, 231, 232, 235, 236, 237, 240, 241, 244, 245, 246, 247, 248, 249, 252, 253, 254, 255, 256, 257, 258, 259, 262, 263, 265, 268, 269, 272, 273, 274, 275, 276, 277, 280, 281, 283, 286, 287, 290, 292, 295, 296, 299, 300, 301, 304, 305, 306, 307, 308, 309, 312, 313, 314, 315, 318, 319, 320, 321, 322, 323, 324, 327, 328, 330, 332]
/-- X10_otherEnd -/
def jm_cd173 : List (Instr × Nat × Int) := [(.aload_n 0, 0, 0), (.iload_n 1, 0, 0), (.invokevirtual 225, 125, 0), (.iload_n 2, 0, 0), (.if_icmp .ne 11, 9, 0), (.aload_n 0, 0, 0), (.iload_n 1, 0, 0), (.invokevirtual 228, 126, 0), (.goto 8, 12, 0), (.aload_n 0, 0, 0), (.iload_n 1, 0, 0), (.invokevirtual 225, 125, 0), (.ireturn, 0, 0)]
def jm_bp173 : List Nat := [0, 1, 2, 5, 6, 9, 10, 11, 14, 17, 18, 19, 22]
/-- X10_isEnd -/
def jm_cd174 : List (Instr × Nat × Int) := [(.iload_n 2, 0, 0), (.ifCond .lt 16, 9, 0), (.iload_n 1, 0, 0), (.iload_n 2, 0, 0), (.if_icmp .ne 7, 7, 0), (.iconst 1, 0, 1), (.goto 21, 17, 0), (.iconst 0, 0, 0), (.goto 17, 17, 0), (.aload_n 0, 0, 0), (.getfield 82, 46, 10), (.iload_n 1, 0, 0), (.iaload, 0, 0), (.ifCond .le 7, 16, 0), (.iconst 1, 0, 1), (.goto 4, 17, 0), (.iconst 0, 0, 0), (.ireturn, 1, 0)]
def jm_bp174 : List Nat := [0, 1, 4, 5, 6, 9, 10, 13, 14, 17, 18, 21, 22, 23, 26, 27, 30, 31]
def jm_cd175_0 : List (Instr × Nat × Int) := [(.iconst 0, 0, 0), (.istore_n 3, 0, 0), (.iload_n 3, 0, 0), (.bipush 36, 0, 36), (.if_icmp .ge 16, 12, 0), (.aload_n 0, 0, 0), (.getfield 79, 44, 10), (.iload_n 3, 0, 0), (.iconst 0, 0, 0), (.bastore, 0, 0), (.iinc 3 1, 0, 1), (.goto (-16), 2, 0), (.aload_n 0, 0, 0), (.getfield 79, 44, 10), (.iload_n 1, 0, 0), (.iconst 1, 0, 1), (.bastore, 0, 0), (.aload_n 0, 0, 0), (.getfield 67, 40, 10), (.iconst 0, 0, 0), (.iload_n 1, 0, 0), (.iastore, 0, 0), (.aload_n 0, 0, 0), (.getfield 73, 42, 10), (.iconst 0, 0, 0), (.iconst 0, 0, 0), (.iastore, 0, 0), (.aload_n 0, 0, 0), (.getfield 76, 43, 10), (.iconst 0, 0, 0), (.iconst 0, 0, 0), (.iastore, 0, 0), (.aload_n 0, 0, 0), (.iconst 1, 0, 1), (.putfield 301, 45, 10), (.aload_n 0, 0, 0), (.getfield 301, 45, 10), (.ifCond .le 220, 161, 0), (.aload_n 0, 0, 0), (.getfield 301, 45, 10), (.iconst 1, 0, 1), (.isub, 0, 0), (.istore_n 3, 0, 0), (.aload_n 0, 0, 0), (.getfield 67, 40, 10), (.iload_n 3, 0, 0), (.iaload, 0, 0), (.istore 4, 0, 0), (.aload_n 0, 0, 0), (.getfield 76, 43, 10), (.iload_n 3, 0, 0), (.iaload, 0, 0), (.bipush 8, 0, 8), (.if_icmp .ne 16, 61, 0), (.aload_n 0, 0, 0), (.dup, 0, 0), (.getfield 301, 45, 10), (.iconst 1, 0, 1), (.isub, 0, 0), (.putfield 301, 45, 10), (.goto 178, 160, 0), (.aload_n 0, 0, 0), (.getfield 73, 42, 10), (.iload_n 3, 0, 0), (.iaload, 0, 0), (.aload_n 0, 0, 0), (.getfield 76, 43, 10), (.iload_n 3, 0, 0), (.iaload, 0, 0), (.iadd, 0, 0), (.bipush 8, 0, 8), (.irem, 0, 0), (.istore 5, 0, 0), (.aload_n 0, 0, 0), (.getfield 76, 43, 10), (.iload_n 3, 0, 0), (.dup2, 0, 0), (.iaload, 0, 0), (.iconst 1, 0, 1), (.iadd, 0, 0), (.iastore, 0, 0), (.aload_n 0, 0, 0), (.iload 4, 0, 0), (.iload 5, 0, 0), (.invokevirtual 304, 172, 0), (.istore 6, 0, 0), (.iload 6, 0, 0), (.ifCond .ge 7, 90, 0), (.iconst (-1), 0, (-1)), (.goto 11, 94, 0), (.aload_n 0, 0, 0), (.iload 6, 0, 0), (.iload 4, 0, 0), (.invokevirtual 308, 173, 0), (.istore 7, 0, 0), (.iload 6, 0, 0), (.ifCond .lt 116, 160, 0), (.aload_n 0, 0, 0), (.getfield 79, 44, 10), (.iload 7, 0, 0)]
def jm_cd175_1 : List (Instr × Nat × Int) := [(.baload, 0, 0), (.ifCond .ne 106, 160, 0), (.aload_n 0, 0, 0), (.iload 6, 0, 0), (.aload_n 0, 0, 0), (.iload 6, 0, 0), (.invokevirtual 225, 125, 0), (.iload 4, 0, 0), (.if_icmp .ne 7, 111, 0), (.iconst 1, 0, 1), (.goto 4, 112, 0), (.iconst 0, 0, 0), (.invokevirtual 311, 171, 0), (.ifCond .le 81, 160, 0), (.aload_n 0, 0, 0), (.getfield 79, 44, 10), (.iload 7, 0, 0), (.iconst 1, 0, 1), (.bastore, 0, 0), (.aload_n 0, 0, 0), (.getfield 67, 40, 10), (.aload_n 0, 0, 0), (.getfield 301, 45, 10), (.iload 7, 0, 0), (.iastore, 0, 0), (.aload_n 0, 0, 0), (.getfield 70, 41, 10), (.aload_n 0, 0, 0), (.getfield 301, 45, 10), (.iload 6, 0, 0), (.iastore, 0, 0), (.aload_n 0, 0, 0), (.getfield 73, 42, 10), (.aload_n 0, 0, 0), (.getfield 301, 45, 10), (.iload 5, 0, 0), (.iconst 5, 0, 5), (.iadd, 0, 0), (.bipush 8, 0, 8), (.irem, 0, 0), (.iastore, 0, 0), (.aload_n 0, 0, 0), (.getfield 76, 43, 10), (.aload_n 0, 0, 0), (.getfield 301, 45, 10), (.iconst 0, 0, 0), (.iastore, 0, 0), (.aload_n 0, 0, 0), (.dup, 0, 0), (.getfield 301, 45, 10), (.iconst 1, 0, 1), (.iadd, 0, 0), (.putfield 301, 45, 10), (.aload_n 0, 0, 0), (.iload 7, 0, 0), (.iload_n 2, 0, 0), (.invokevirtual 315, 174, 0), (.ifCond .eq 5, 160, 0), (.iconst 1, 0, 1), (.ireturn, 1, 0), (.goto (-221), 35, 0), (.iconst 0, 0, 0), (.ireturn, 1, 0)]
/-- X10_search -/
def jm_cd175 : List (Instr × Nat × Int) := jm_cd175_0 ++ jm_cd175_1
def jm_bp175 : List Nat := [0, 1, 2, 3, 5, 8, 9, 12, 13, 14, 15, 18, 21, 22, 25, 26, 27, 28, 29, 32, 33, 34, 35, 36, 39, 40, 41, 42, 43, 46, 47, 48, 49, 50, 51, 54, 55, 58, 61, 62, 65, 66, 67, 68, 69, 72, 73, 74, 76, 77, 80, 81, 82, 84, 87, 88, 89, 92, 93, 94, 97, 100, 101, 104, 105, 106, 107, 110, 111, 112, 113, 115, 116, 118, 119, 122, 123, 124, 125, 126, 127, 128, 129, 131, 133, 136, 138, 140, 143, 144, 147, 148, 150, 152, 155, 157, 159, 162, 163, 166, 168, 169, 172, 173, 175, 176, 178, 181, 183, 186, 187, 190, 191, 194, 197, 198, 201, 203, 204, 205, 206, 209, 210, 213, 215, 216, 217, 220, 221, 224, 226, 227, 228, 231, 232, 235, 237, 238, 239, 241, 242, 243, 244, 247, 248, 251, 252, 253, 254, 255, 258, 259, 260, 263, 264, 266, 267, 270, 273, 274, 275, 278, 279]
/-- X10_leastOnWay -/
def jm_cd176 : List (Instr × Nat × Int) := [(.ldc 243, 0, 100000000), (.istore_n 1, 0, 0), (.iconst 1, 0, 1), (.istore_n 2, 0, 0), (.iload_n 2, 0, 0), (.aload_n 0, 0, 0), (.getfield 301, 45, 10), (.if_icmp .ge 57, 40, 0), (.aload_n 0, 0, 0), (.aload_n 0, 0, 0), (.getfield 70, 41, 10), (.iload_n 2, 0, 0), (.iaload, 0, 0), (.aload_n 0, 0, 0), (.aload_n 0, 0, 0), (.getfield 70, 41, 10), (.iload_n 2, 0, 0), (.iaload, 0, 0), (.invokevirtual 225, 125, 0), (.aload_n 0, 0, 0), (.getfield 67, 40, 10), (.iload_n 2, 0, 0), (.iconst 1, 0, 1), (.isub, 0, 0), (.iaload, 0, 0), (.if_icmp .ne 7, 28, 0), (.iconst 1, 0, 1), (.goto 4, 29, 0), (.iconst 0, 0, 0), (.invokevirtual 311, 171, 0), (.istore_n 3, 0, 0), (.iload_n 3, 0, 0), (.iload_n 1, 0, 0), (.if_icmp .ge 7, 36, 0), (.iload_n 3, 0, 0), (.goto 4, 37, 0), (.iload_n 1, 0, 0), (.istore_n 1, 0, 0), (.iinc 2 1, 0, 1), (.goto (-59), 4, 0), (.iload_n 1, 0, 0), (.ireturn, 0, 0)]
def jm_bp176 : List Nat := [0, 2, 3, 4, 5, 6, 7, 10, 13, 14, 15, 18, 19, 20, 21, 22, 25, 26, 27, 30, 31, 34, 35, 36, 37, 38, 41, 42, 45, 46, 49, 50, 51, 52, 55, 56, 59, 60, 61, 64, 67, 68]
/-- X10_pushes -/
def jm_cd177 : List (Instr × Nat × Int) := [(.iconst 1, 0, 1), (.istore_n 2, 0, 0), (.iload_n 2, 0, 0), (.aload_n 0, 0, 0), (.getfield 301, 45, 10), (.if_icmp .ge 50, 35, 0), (.aload_n 0, 0, 0), (.getfield 52, 31, 10), (.aload_n 0, 0, 0), (.getfield 70, 41, 10), (.iload_n 2, 0, 0), (.iaload, 0, 0), (.dup2, 0, 0), (.iaload, 0, 0), (.aload_n 0, 0, 0), (.aload_n 0, 0, 0), (.getfield 70, 41, 10), (.iload_n 2, 0, 0), (.iaload, 0, 0), (.invokevirtual 225, 125, 0), (.aload_n 0, 0, 0), (.getfield 67, 40, 10), (.iload_n 2, 0, 0), (.iconst 1, 0, 1), (.isub, 0, 0), (.iaload, 0, 0), (.if_icmp .ne 7, 29, 0), (.iload_n 1, 0, 0), (.goto 5, 31, 0), (.iload_n 1, 0, 0), (.ineg, 0, 0), (.iadd, 0, 0), (.iastore, 0, 0), (.iinc 2 1, 0, 1), (.goto (-52), 2, 0), (.aload_n 0, 0, 0), (.dup, 0, 0), (.getfield 292, 34, 10), (.iconst 1, 0, 1), (.iadd, 0, 0), (.putfield 292, 34, 10), (.aload_n 0, 0, 0), (.aload_n 0, 0, 0), (.getfield 301, 45, 10), (.iconst 1, 0, 1), (.isub, 0, 0), (.aload_n 0, 0, 0), (.getfield 295, 35, 10), (.if_icmp .le 12, 54, 0), (.aload_n 0, 0, 0), (.getfield 301, 45, 10), (.iconst 1, 0, 1), (.isub, 0, 0), (.goto 7, 56, 0), (.aload_n 0, 0, 0), (.getfield 295, 35, 10), (.putfield 295, 35, 10), (.aload_n 0, 0, 0), (.iload_n 1, 0, 0), (.aload_n 0, 0, 0), (.getfield 298, 36, 10), (.if_icmp .ge 7, 64, 0), (.iload_n 1, 0, 0), (.goto 7, 66, 0), (.aload_n 0, 0, 0), (.getfield 298, 36, 10), (.putfield 298, 36, 10), (.return_, 0, 0)]
def jm_bp177 : List Nat := [0, 1, 2, 3, 4, 7, 10, 11, 14, 15, 18, 19, 20, 21, 22, 23, 24, 27, 28, 29, 32, 33, 36, 37, 38, 39, 40, 43, 44, 47, 48, 49, 50, 51, 54, 57, 58, 59, 62, 63, 64, 67, 68, 69, 72, 73, 74, 75, 78, 81, 82, 85, 86, 87, 90, 91, 94, 97, 98, 99, 100, 103, 106, 107, 110, 111, 114, 117]
/-- X10_flowsMore -/
def jm_cd178 : List (Instr × Nat × Int) := [(.iconst 0, 0, 0), (.istore 4, 0, 0), (.iload 4, 0, 0), (.iload_n 3, 0, 0), (.if_icmp .ge 54, 32, 0), (.aload_n 0, 0, 0), (.iload_n 1, 0, 0), (.iload_n 2, 0, 0), (.invokevirtual 318, 175, 0), (.ifCond .eq 45, 32, 0), (.aload_n 0, 0, 0), (.invokevirtual 321, 176, 0), (.istore 5, 0, 0), (.iload 5, 0, 0), (.iload_n 3, 0, 0), (.iload 4, 0, 0), (.isub, 0, 0), (.if_icmp .ge 8, 20, 0), (.iload 5, 0, 0), (.goto 7, 23, 0), (.iload_n 3, 0, 0), (.iload 4, 0, 0), (.isub, 0, 0), (.istore 5, 0, 0), (.aload_n 0, 0, 0), (.iload 5, 0, 0), (.invokevirtual 324, 177, 0), (.iload 4, 0, 0), (.iload 5, 0, 0), (.iadd, 0, 0), (.istore 4, 0, 0), (.goto (-54), 2, 0), (.iload 4, 0, 0), (.ireturn, 0, 0)]
def jm_bp178 : List Nat := [0, 1, 3, 5, 6, 9, 10, 11, 12, 15, 18, 19, 22, 24, 26, 27, 29, 30, 33, 35, 38, 39, 41, 42, 44, 45, 47, 50, 52, 54, 55, 57, 60, 62]
/-- X10_isTold -/
def jm_cd179 : List (Instr × Nat × Int) := [(.iconst 0, 0, 0), (.istore_n 3, 0, 0), (.iload_n 3, 0, 0), (.bipush 108, 0, 108), (.if_icmp .ge 21, 15, 0), (.aload_n 0, 0, 0), (.getfield 55, 32, 10), (.iload_n 3, 0, 0), (.aload_n 0, 0, 0), (.getfield 52, 31, 10), (.iload_n 3, 0, 0), (.iaload, 0, 0), (.iastore, 0, 0), (.iinc 3 1, 0, 1), (.goto (-21), 2, 0), (.aload_n 0, 0, 0), (.iconst 1, 0, 1), (.putfield 104, 33, 10), (.aload_n 0, 0, 0), (.getfield 58, 37, 10), (.iconst 0, 0, 0), (.aload_n 0, 0, 0), (.getfield 292, 34, 10), (.iastore, 0, 0), (.aload_n 0, 0, 0), (.getfield 58, 37, 10), (.iconst 1, 0, 1), (.aload_n 0, 0, 0), (.getfield 295, 35, 10), (.iastore, 0, 0), (.aload_n 0, 0, 0), (.getfield 58, 37, 10), (.iconst 2, 0, 2), (.aload_n 0, 0, 0), (.getfield 292, 34, 10), (.ifCond .ne 7, 38, 0), (.iconst 0, 0, 0), (.goto 7, 40, 0), (.aload_n 0, 0, 0), (.getfield 298, 36, 10), (.iastore, 0, 0), (.aload_n 0, 0, 0), (.getfield 58, 37, 10), (.iconst 3, 0, 3), (.iload_n 1, 0, 0), (.iastore, 0, 0), (.aload_n 0, 0, 0), (.getfield 58, 37, 10), (.iconst 4, 0, 4), (.iload_n 2, 0, 0), (.iastore, 0, 0), (.iconst 0, 0, 0), (.istore_n 3, 0, 0), (.iload_n 3, 0, 0), (.bipush 36, 0, 36), (.if_icmp .ge 21, 66, 0), (.aload_n 0, 0, 0), (.getfield 64, 39, 10), (.iload_n 3, 0, 0), (.aload_n 0, 0, 0), (.getfield 61, 38, 10), (.iload_n 3, 0, 0), (.iaload, 0, 0), (.iastore, 0, 0), (.iinc 3 1, 0, 1), (.goto (-21), 53, 0), (.return_, 0, 0)]
def jm_bp179 : List Nat := [0, 1, 2, 3, 5, 8, 9, 12, 13, 14, 17, 18, 19, 20, 23, 26, 27, 28, 31, 32, 35, 36, 37, 40, 41, 42, 45, 46, 47, 50, 51, 52, 55, 56, 57, 60, 63, 64, 67, 68, 71, 72, 73, 76, 77, 78, 79, 80, 83, 84, 85, 86, 87, 88, 89, 91, 94, 95, 98, 99, 100, 103, 104, 105, 106, 109, 112]
/-- X10_givesNothing -/
def jm_cd180 : List (Instr × Nat × Int) := [(.iconst 0, 0, 0), (.istore_n 1, 0, 0), (.iload_n 1, 0, 0), (.bipush 36, 0, 36), (.if_icmp .ge 16, 12, 0), (.aload_n 0, 0, 0), (.getfield 61, 38, 10), (.iload_n 1, 0, 0), (.iconst 0, 0, 0), (.iastore, 0, 0), (.iinc 1 1, 0, 1), (.goto (-16), 2, 0), (.return_, 0, 0)]
def jm_bp180 : List Nat := [0, 1, 2, 3, 5, 8, 9, 12, 13, 14, 15, 18, 21]
/-- X10_areTwo -/
def jm_cd181 : List (Instr × Nat × Int) := [(.aload_n 0, 0, 0), (.iload_n 1, 0, 0), (.invokevirtual 116, 122, 0), (.ifCond .eq 20, 13, 0), (.aload_n 0, 0, 0), (.iload_n 2, 0, 0), (.invokevirtual 116, 122, 0), (.ifCond .eq 12, 13, 0), (.iload_n 1, 0, 0), (.iload_n 2, 0, 0), (.if_icmp .eq 7, 13, 0), (.iconst 1, 0, 1), (.goto 4, 14, 0), (.iconst 0, 0, 0), (.ireturn, 1, 0)]
def jm_bp181 : List Nat := [0, 1, 2, 5, 8, 9, 10, 13, 16, 17, 18, 21, 22, 25, 26]
/-- X10_valueOf -/
def jm_cd182 : List (Instr × Nat × Int) := [(.aload_n 0, 0, 0), (.invokevirtual 327, 170, 0), (.ifCond .eq 14, 9, 0), (.aload_n 0, 0, 0), (.iload_n 1, 0, 0), (.iload_n 2, 0, 0), (.ldc 243, 0, 100000000), (.invokevirtual 330, 178, 0), (.goto 5, 10, 0), (.bipush (-2), 0, (-2)), (.ireturn, 0, 0)]
def jm_bp182 : List Nat := [0, 1, 4, 7, 8, 9, 10, 12, 15, 18, 20]
/-- X10_flow -/
def jm_cd183 : List (Instr × Nat × Int) := [(.aload_n 0, 0, 0), (.iconst 0, 0, 0), (.putfield 1, 0, 10), (.aload_n 0, 0, 0), (.iload_n 1, 0, 0), (.iload_n 2, 0, 0), (.invokevirtual 333, 181, 0), (.ifCond .ne 5, 10, 0), (.iconst (-1), 0, (-1)), (.ireturn, 0, 0), (.aload_n 0, 0, 0), (.iload_n 1, 0, 0), (.iload_n 2, 0, 0), (.invokevirtual 336, 182, 0), (.istore_n 3, 0, 0), (.iload_n 3, 0, 0), (.ifCond .lt 13, 23, 0), (.aload_n 0, 0, 0), (.invokevirtual 339, 180, 0), (.aload_n 0, 0, 0), (.iload_n 1, 0, 0), (.iload_n 2, 0, 0), (.invokevirtual 342, 179, 0), (.iload_n 3, 0, 0), (.ireturn, 0, 0)]
def jm_bp183 : List Nat := [0, 1, 2, 5, 6, 7, 8, 11, 14, 15, 16, 17, 18, 19, 22, 23, 24, 27, 28, 31, 32, 33, 34, 37, 38]
/-- X10_on -/
def jm_cd184 : List (Instr × Nat × Int) := [(.aload_n 0, 0, 0), (.aload_n 0, 0, 0), (.getfield 104, 33, 10), (.ifCond .eq 15, 10, 0), (.aload_n 0, 0, 0), (.iload_n 1, 0, 0), (.invokevirtual 130, 124, 0), (.ifCond .eq 7, 10, 0), (.iconst 0, 0, 0), (.goto 4, 11, 0), (.iconst 1, 0, 1), (.putfield 1, 0, 10), (.aload_n 0, 0, 0), (.getfield 1, 0, 10), (.ifCond .le 7, 17, 0), (.iconst 0, 0, 0), (.goto 9, 21, 0), (.aload_n 0, 0, 0), (.getfield 55, 32, 10), (.iload_n 1, 0, 0), (.iaload, 0, 0), (.ireturn, 0, 0)]
def jm_bp184 : List Nat := [0, 1, 2, 5, 8, 9, 10, 13, 16, 17, 20, 21, 24, 25, 28, 31, 32, 35, 36, 39, 40, 41]
/-- X10_left -/
def jm_cd185 : List (Instr × Nat × Int) := [(.aload_n 0, 0, 0), (.aload_n 0, 0, 0), (.getfield 104, 33, 10), (.ifCond .eq 24, 15, 0), (.aload_n 0, 0, 0), (.iload_n 1, 0, 0), (.invokevirtual 130, 124, 0), (.ifCond .eq 16, 15, 0), (.iload_n 2, 0, 0), (.iconst 0, 0, 0), (.iconst 1, 0, 1), (.invokestatic 112, 119, 0), (.ifCond .eq 7, 15, 0), (.iconst 0, 0, 0), (.goto 4, 16, 0), (.iconst 1, 0, 1), (.putfield 1, 0, 10), (.aload_n 0, 0, 0), (.getfield 1, 0, 10), (.ifCond .le 7, 22, 0), (.iconst 0, 0, 0), (.goto 36, 43, 0), (.iload_n 2, 0, 0), (.ifCond .ne 19, 34, 0), (.aload_n 0, 0, 0), (.getfield 17, 4, 10), (.iload_n 1, 0, 0), (.iaload, 0, 0), (.aload_n 0, 0, 0), (.getfield 55, 32, 10), (.iload_n 1, 0, 0), (.iaload, 0, 0), (.isub, 0, 0), (.goto 16, 43, 0), (.aload_n 0, 0, 0), (.getfield 20, 5, 10), (.iload_n 1, 0, 0), (.iaload, 0, 0), (.aload_n 0, 0, 0), (.getfield 55, 32, 10), (.iload_n 1, 0, 0), (.iaload, 0, 0), (.iadd, 0, 0), (.ireturn, 0, 0)]
def jm_bp185 : List Nat := [0, 1, 2, 5, 8, 9, 10, 13, 16, 17, 18, 19, 22, 25, 26, 29, 30, 33, 34, 37, 40, 41, 44, 45, 48, 49, 52, 53, 54, 55, 58, 59, 60, 61, 64, 65, 68, 69, 70, 71, 74, 75, 76, 77]
/-- X10_ways -/
def jm_cd186 : List (Instr × Nat × Int) := [(.aload_n 0, 0, 0), (.iconst 0, 0, 0), (.putfield 1, 0, 10), (.aload_n 0, 0, 0), (.getfield 104, 33, 10), (.ifCond .eq 21, 16, 0), (.iload_n 1, 0, 0), (.iconst 0, 0, 0), (.iconst 4, 0, 4), (.invokestatic 112, 119, 0), (.ifCond .eq 12, 16, 0), (.aload_n 0, 0, 0), (.getfield 58, 37, 10), (.iload_n 1, 0, 0), (.iaload, 0, 0), (.goto 4, 17, 0), (.iconst (-1), 0, (-1)), (.ireturn, 0, 0)]
def jm_bp186 : List Nat := [0, 1, 2, 5, 6, 9, 12, 13, 14, 15, 18, 21, 22, 25, 26, 27, 30, 31]
/-- X10_excess -/
def jm_cd187 : List (Instr × Nat × Int) := [(.aload_n 0, 0, 0), (.aload_n 0, 0, 0), (.getfield 104, 33, 10), (.ifCond .eq 15, 10, 0), (.aload_n 0, 0, 0), (.iload_n 1, 0, 0), (.invokevirtual 116, 122, 0), (.ifCond .eq 7, 10, 0), (.iconst 0, 0, 0), (.goto 4, 11, 0), (.iconst 1, 0, 1), (.putfield 1, 0, 10), (.iconst 0, 0, 0), (.istore_n 2, 0, 0), (.iconst 0, 0, 0), (.istore_n 3, 0, 0), (.iload_n 3, 0, 0), (.bipush 108, 0, 108), (.if_icmp .ge 65, 53, 0), (.aload_n 0, 0, 0), (.getfield 1, 0, 10), (.ifCond .ne 58, 53, 0), (.aload_n 0, 0, 0), (.iload_n 3, 0, 0), (.invokevirtual 130, 124, 0), (.ifCond .eq 44, 51, 0), (.iload_n 2, 0, 0), (.aload_n 0, 0, 0), (.iload_n 3, 0, 0), (.invokevirtual 228, 126, 0), (.iload_n 1, 0, 0), (.if_icmp .ne 12, 37, 0), (.aload_n 0, 0, 0), (.getfield 55, 32, 10), (.iload_n 3, 0, 0), (.iaload, 0, 0), (.goto 23, 49, 0), (.aload_n 0, 0, 0), (.iload_n 3, 0, 0), (.invokevirtual 225, 125, 0), (.iload_n 1, 0, 0), (.if_icmp .ne 13, 48, 0), (.aload_n 0, 0, 0), (.getfield 55, 32, 10), (.iload_n 3, 0, 0), (.iaload, 0, 0), (.ineg, 0, 0), (.goto 4, 49, 0), (.iconst 0, 0, 0), (.iadd, 0, 0), (.istore_n 2, 0, 0), (.iinc 3 1, 0, 1), (.goto (-65), 16, 0), (.iload_n 2, 0, 0), (.ireturn, 0, 0)]
def jm_bp187 : List Nat := [0, 1, 2, 5, 8, 9, 10, 13, 16, 17, 20, 21, 24, 25, 26, 27, 28, 29, 31, 34, 35, 38, 41, 42, 43, 46, 49, 50, 51, 52, 55, 56, 59, 60, 63, 64, 65, 68, 69, 70, 73, 74, 77, 78, 81, 82, 83, 84, 87, 88, 89, 90, 93, 96, 97]
/-- X10_leftTold -/
def jm_cd188 : List (Instr × Nat × Int) := [(.iload_n 2, 0, 0), (.ifCond .eq 19, 12, 0), (.aload_n 0, 0, 0), (.getfield 17, 4, 10), (.iload_n 1, 0, 0), (.iaload, 0, 0), (.aload_n 0, 0, 0), (.getfield 55, 32, 10), (.iload_n 1, 0, 0), (.iaload, 0, 0), (.isub, 0, 0), (.goto 16, 21, 0), (.aload_n 0, 0, 0), (.getfield 20, 5, 10), (.iload_n 1, 0, 0), (.iaload, 0, 0), (.aload_n 0, 0, 0), (.getfield 55, 32, 10), (.iload_n 1, 0, 0), (.iaload, 0, 0), (.iadd, 0, 0), (.ireturn, 0, 0)]
def jm_bp188 : List Nat := [0, 1, 4, 5, 8, 9, 10, 11, 14, 15, 16, 17, 20, 21, 24, 25, 26, 27, 30, 31, 32, 33]
/-- X10_laysSet -/
def jm_cd189 : List (Instr × Nat × Int) := [(.iconst 0, 0, 0), (.istore_n 3, 0, 0), (.iload_n 3, 0, 0), (.bipush 36, 0, 36), (.if_icmp .ge 25, 17, 0), (.aload_n 0, 0, 0), (.getfield 85, 47, 10), (.iload_n 3, 0, 0), (.iload_n 3, 0, 0), (.iload_n 1, 0, 0), (.if_icmp .ne 7, 13, 0), (.iconst 1, 0, 1), (.goto 4, 14, 0), (.iconst 0, 0, 0), (.bastore, 0, 0), (.iinc 3 1, 0, 1), (.goto (-25), 2, 0), (.iconst 1, 0, 1), (.istore_n 3, 0, 0), (.iload_n 3, 0, 0), (.ifCond .eq 117, 81, 0), (.iconst 0, 0, 0), (.istore_n 3, 0, 0), (.iconst 0, 0, 0), (.istore 4, 0, 0), (.iload 4, 0, 0), (.bipush 108, 0, 108), (.if_icmp .ge 102, 80, 0), (.aload_n 0, 0, 0), (.iload 4, 0, 0), (.invokevirtual 130, 124, 0), (.ifCond .eq 87, 78, 0), (.aload_n 0, 0, 0), (.getfield 85, 47, 10), (.aload_n 0, 0, 0), (.iload 4, 0, 0), (.invokevirtual 225, 125, 0), (.baload, 0, 0), (.aload_n 0, 0, 0), (.getfield 85, 47, 10), (.aload_n 0, 0, 0), (.iload 4, 0, 0), (.invokevirtual 228, 126, 0), (.baload, 0, 0), (.if_icmp .eq 62, 78, 0), (.aload_n 0, 0, 0), (.getfield 85, 47, 10), (.aload_n 0, 0, 0), (.iload 4, 0, 0), (.invokevirtual 225, 125, 0), (.baload, 0, 0), (.iload_n 2, 0, 0), (.if_icmp .eq 7, 55, 0), (.iconst 1, 0, 1), (.goto 4, 56, 0), (.iconst 0, 0, 0), (.istore 5, 0, 0), (.aload_n 0, 0, 0), (.iload 4, 0, 0), (.iload 5, 0, 0), (.invokevirtual 345, 188, 0), (.ifCond .le 29, 78, 0), (.aload_n 0, 0, 0), (.getfield 85, 47, 10), (.aload_n 0, 0, 0), (.iload 4, 0, 0), (.invokevirtual 225, 125, 0), (.iconst 1, 0, 1), (.bastore, 0, 0), (.aload_n 0, 0, 0), (.getfield 85, 47, 10), (.aload_n 0, 0, 0), (.iload 4, 0, 0), (.invokevirtual 228, 126, 0), (.iconst 1, 0, 1), (.bastore, 0, 0), (.iconst 1, 0, 1), (.istore_n 3, 0, 0), (.iinc 4 1, 0, 1), (.goto (-103), 25, 0), (.goto (-115), 19, 0), (.return_, 0, 0)]
def jm_bp189 : List Nat := [0, 1, 2, 3, 5, 8, 9, 12, 13, 14, 15, 18, 19, 22, 23, 24, 27, 30, 31, 32, 33, 36, 37, 38, 39, 41, 43, 45, 48, 49, 51, 54, 57, 58, 61, 62, 64, 67, 68, 69, 72, 73, 75, 78, 79, 82, 83, 86, 87, 89, 92, 93, 94, 97, 98, 101, 102, 104, 105, 107, 109, 112, 115, 116, 119, 120, 122, 125, 126, 127, 128, 131, 132, 134, 137, 138, 139, 140, 141, 144, 147, 150]
/-- X10_laysSide -/
def jm_cd190 : List (Instr × Nat × Int) := [(.aload_n 0, 0, 0), (.iload_n 1, 0, 0), (.ifCond .ne 12, 8, 0), (.aload_n 0, 0, 0), (.getfield 58, 37, 10), (.iconst 3, 0, 3), (.iaload, 0, 0), (.goto 9, 12, 0), (.aload_n 0, 0, 0), (.getfield 58, 37, 10), (.iconst 4, 0, 4), (.iaload, 0, 0), (.iload_n 1, 0, 0), (.iconst 1, 0, 1), (.if_icmp .ne 7, 17, 0), (.iconst 1, 0, 1), (.goto 4, 18, 0), (.iconst 0, 0, 0), (.invokevirtual 348, 189, 0), (.iconst 0, 0, 0), (.istore_n 2, 0, 0), (.iload_n 2, 0, 0), (.bipush 36, 0, 36), (.if_icmp .ge 42, 45, 0), (.aload_n 0, 0, 0), (.getfield 85, 47, 10), (.iload_n 2, 0, 0), (.iload_n 1, 0, 0), (.ifCond .ne 12, 34, 0), (.aload_n 0, 0, 0), (.getfield 85, 47, 10), (.iload_n 2, 0, 0), (.baload, 0, 0), (.goto 17, 42, 0), (.aload_n 0, 0, 0), (.getfield 85, 47, 10), (.iload_n 2, 0, 0), (.baload, 0, 0), (.ifCond .ne 7, 41, 0), (.iconst 1, 0, 1), (.goto 4, 42, 0), (.iconst 0, 0, 0), (.bastore, 0, 0), (.iinc 2 1, 0, 1), (.goto (-42), 21, 0), (.return_, 0, 0)]
def jm_bp190 : List Nat := [0, 1, 2, 5, 6, 9, 10, 11, 14, 15, 18, 19, 20, 21, 22, 25, 26, 29, 30, 33, 34, 35, 36, 38, 41, 42, 45, 46, 47, 50, 51, 54, 55, 56, 59, 60, 63, 64, 65, 68, 69, 72, 73, 74, 77, 80]
/-- X10_isCut -/
def jm_cd191 : List (Instr × Nat × Int) := [(.aload_n 0, 0, 0), (.iload_n 1, 0, 0), (.invokevirtual 130, 124, 0), (.ifCond .eq 30, 19, 0), (.aload_n 0, 0, 0), (.getfield 85, 47, 10), (.aload_n 0, 0, 0), (.iload_n 1, 0, 0), (.invokevirtual 225, 125, 0), (.baload, 0, 0), (.aload_n 0, 0, 0), (.getfield 85, 47, 10), (.aload_n 0, 0, 0), (.iload_n 1, 0, 0), (.invokevirtual 228, 126, 0), (.baload, 0, 0), (.if_icmp .eq 7, 19, 0), (.iconst 1, 0, 1), (.goto 4, 20, 0), (.iconst 0, 0, 0), (.ireturn, 1, 0)]
def jm_bp191 : List Nat := [0, 1, 2, 5, 8, 9, 12, 13, 14, 17, 18, 19, 22, 23, 24, 27, 28, 31, 32, 35, 36]
/-- X10_canCut -/
def jm_cd192 : List (Instr × Nat × Int) := [(.aload_n 0, 0, 0), (.getfield 104, 33, 10), (.ifCond .eq 25, 15, 0), (.aload_n 0, 0, 0), (.getfield 58, 37, 10), (.iconst 3, 0, 3), (.iaload, 0, 0), (.ifCond .lt 16, 15, 0), (.iload_n 1, 0, 0), (.iconst 0, 0, 0), (.iconst 1, 0, 1), (.invokestatic 112, 119, 0), (.ifCond .eq 7, 15, 0), (.iconst 1, 0, 1), (.goto 4, 16, 0), (.iconst 0, 0, 0), (.ireturn, 1, 0)]
def jm_bp192 : List Nat := [0, 1, 4, 7, 8, 11, 12, 13, 16, 17, 18, 19, 22, 25, 26, 29, 30]
/-- X10_cut -/
def jm_cd193 : List (Instr × Nat × Int) := [(.aload_n 0, 0, 0), (.iconst 0, 0, 0), (.putfield 1, 0, 10), (.aload_n 0, 0, 0), (.iload_n 1, 0, 0), (.invokevirtual 352, 192, 0), (.ifCond .eq 9, 10, 0), (.iload_n 2, 0, 0), (.bipush (-2), 0, (-2)), (.if_icmp .ge 6, 12, 0), (.bipush (-101), 0, (-101)), (.ireturn, 0, 0), (.aload_n 0, 0, 0), (.iload_n 1, 0, 0), (.invokevirtual 355, 190, 0), (.iconst 0, 0, 0), (.istore_n 3, 0, 0), (.iconst 0, 0, 0), (.istore 4, 0, 0), (.iconst 0, 0, 0), (.istore 5, 0, 0), (.iload 5, 0, 0), (.bipush 108, 0, 108), (.if_icmp .ge 65, 55, 0), (.aload_n 0, 0, 0), (.iload 5, 0, 0), (.invokevirtual 358, 191, 0), (.ifCond .eq 50, 53, 0), (.iload_n 3, 0, 0), (.iload_n 2, 0, 0), (.if_icmp .ne 6, 33, 0), (.iload 5, 0, 0), (.ireturn, 0, 0), (.iinc 3 1, 0, 1), (.iload 4, 0, 0), (.aload_n 0, 0, 0), (.getfield 85, 47, 10), (.aload_n 0, 0, 0), (.iload 5, 0, 0), (.invokevirtual 225, 125, 0), (.baload, 0, 0), (.ifCond .eq 13, 47, 0), (.aload_n 0, 0, 0), (.getfield 17, 4, 10), (.iload 5, 0, 0), (.iaload, 0, 0), (.goto 10, 51, 0), (.aload_n 0, 0, 0), (.getfield 20, 5, 10), (.iload 5, 0, 0), (.iaload, 0, 0), (.iadd, 0, 0), (.istore 4, 0, 0), (.iinc 5 1, 0, 1), (.goto (-66), 21, 0), (.iload_n 2, 0, 0), (.iconst (-1), 0, (-1)), (.if_icmp .ne 7, 60, 0), (.iload_n 3, 0, 0), (.goto 16, 66, 0), (.iload_n 2, 0, 0), (.bipush (-2), 0, (-2)), (.if_icmp .ne 8, 65, 0), (.iload 4, 0, 0), (.goto 5, 66, 0), (.bipush (-101), 0, (-101)), (.ireturn, 0, 0)]
def jm_bp193 : List Nat := [0, 1, 2, 5, 6, 7, 10, 13, 14, 16, 19, 21, 22, 23, 24, 27, 28, 29, 30, 32, 33, 35, 37, 39, 42, 43, 45, 48, 51, 52, 53, 56, 58, 59, 62, 64, 65, 68, 69, 71, 74, 75, 78, 79, 82, 84, 85, 88, 89, 92, 94, 95, 96, 98, 101, 104, 105, 106, 109, 110, 113, 114, 116, 119, 121, 124, 126]
/-- X10_areBeside -/
def jm_cd194 : List (Instr × Nat × Int) := [(.aload_n 0, 0, 0), (.iload_n 2, 0, 0), (.aload_n 0, 0, 0), (.iload_n 1, 0, 0), (.invokevirtual 231, 128, 0), (.invokevirtual 237, 152, 0), (.ifCond .ne 16, 14, 0), (.aload_n 0, 0, 0), (.iload_n 2, 0, 0), (.aload_n 0, 0, 0), (.iload_n 1, 0, 0), (.invokevirtual 234, 129, 0), (.invokevirtual 237, 152, 0), (.ifCond .eq 7, 16, 0), (.iconst 1, 0, 1), (.goto 4, 17, 0), (.iconst 0, 0, 0), (.ireturn, 1, 0)]
def jm_bp194 : List Nat := [0, 1, 2, 3, 4, 7, 10, 13, 14, 15, 16, 17, 20, 23, 26, 27, 30, 31]
def jm_cd195_0 : List (Instr × Nat × Int) := [(.aload_n 0, 0, 0), (.iconst 0, 0, 0), (.putfield 1, 0, 10), (.aload_n 0, 0, 0), (.iload_n 1, 0, 0), (.invokevirtual 352, 192, 0), (.ifCond .ne 5, 9, 0), (.iconst (-1), 0, (-1)), (.ireturn, 0, 0), (.aload_n 0, 0, 0), (.iload_n 1, 0, 0), (.invokevirtual 355, 190, 0), (.iconst 0, 0, 0), (.istore_n 2, 0, 0), (.iconst 0, 0, 0), (.istore_n 3, 0, 0), (.iload_n 3, 0, 0), (.bipush 108, 0, 108), (.if_icmp .ge 16, 26, 0), (.aload_n 0, 0, 0), (.getfield 88, 48, 10), (.iload_n 3, 0, 0), (.iload_n 3, 0, 0), (.iastore, 0, 0), (.iinc 3 1, 0, 1), (.goto (-16), 16, 0), (.iconst 0, 0, 0), (.istore_n 3, 0, 0), (.iload_n 3, 0, 0), (.bipush 108, 0, 108), (.if_icmp .ge 131, 95, 0), (.iconst 0, 0, 0), (.istore 4, 0, 0), (.iload 4, 0, 0), (.iload_n 3, 0, 0), (.if_icmp .ge 116, 93, 0), (.aload_n 0, 0, 0), (.iload_n 3, 0, 0), (.invokevirtual 358, 191, 0), (.ifCond .eq 102, 91, 0), (.aload_n 0, 0, 0), (.iload 4, 0, 0), (.invokevirtual 358, 191, 0), (.ifCond .eq 93, 91, 0), (.aload_n 0, 0, 0), (.getfield 88, 48, 10), (.iload_n 3, 0, 0), (.iaload, 0, 0), (.aload_n 0, 0, 0), (.getfield 88, 48, 10), (.iload 4, 0, 0), (.iaload, 0, 0), (.if_icmp .eq 77, 91, 0), (.aload_n 0, 0, 0), (.iload_n 3, 0, 0), (.iload 4, 0, 0), (.invokevirtual 361, 194, 0), (.ifCond .eq 67, 91, 0), (.aload_n 0, 0, 0), (.getfield 88, 48, 10), (.iload_n 3, 0, 0), (.iaload, 0, 0), (.istore 5, 0, 0), (.aload_n 0, 0, 0), (.getfield 88, 48, 10), (.iload 4, 0, 0), (.iaload, 0, 0), (.istore 6, 0, 0), (.iconst 0, 0, 0), (.istore 7, 0, 0), (.iload 7, 0, 0), (.bipush 108, 0, 108), (.if_icmp .ge 40, 91, 0), (.aload_n 0, 0, 0), (.getfield 88, 48, 10), (.iload 7, 0, 0), (.aload_n 0, 0, 0), (.getfield 88, 48, 10), (.iload 7, 0, 0), (.iaload, 0, 0), (.iload 5, 0, 0), (.if_icmp .ne 8, 84, 0), (.iload 6, 0, 0), (.goto 10, 88, 0), (.aload_n 0, 0, 0), (.getfield 88, 48, 10), (.iload 7, 0, 0), (.iaload, 0, 0), (.iastore, 0, 0), (.iinc 7 1, 0, 1), (.goto (-41), 70, 0), (.iinc 4 1, 0, 1), (.goto (-116), 33, 0), (.iinc 3 1, 0, 1), (.goto (-131), 28, 0), (.iconst 0, 0, 0), (.istore_n 3, 0, 0), (.iload_n 3, 0, 0), (.bipush 108, 0, 108), (.if_icmp .ge 35, 118, 0)]
def jm_cd195_1 : List (Instr × Nat × Int) := [(.iload_n 2, 0, 0), (.aload_n 0, 0, 0), (.iload_n 3, 0, 0), (.invokevirtual 358, 191, 0), (.ifCond .eq 17, 113, 0), (.aload_n 0, 0, 0), (.getfield 88, 48, 10), (.iload_n 3, 0, 0), (.iaload, 0, 0), (.iload_n 3, 0, 0), (.if_icmp .ne 7, 113, 0), (.iconst 1, 0, 1), (.goto 4, 114, 0), (.iconst 0, 0, 0), (.iadd, 0, 0), (.istore_n 2, 0, 0), (.iinc 3 1, 0, 1), (.goto (-35), 97, 0), (.iload_n 2, 0, 0), (.ireturn, 0, 0)]
/-- X10_rings -/
def jm_cd195 : List (Instr × Nat × Int) := jm_cd195_0 ++ jm_cd195_1
def jm_bp195 : List Nat := [0, 1, 2, 5, 6, 7, 10, 13, 14, 15, 16, 17, 20, 21, 22, 23, 24, 25, 27, 30, 31, 34, 35, 36, 37, 40, 43, 44, 45, 46, 48, 51, 52, 54, 56, 57, 60, 61, 62, 65, 68, 69, 71, 74, 77, 78, 81, 82, 83, 84, 87, 89, 90, 93, 94, 95, 97, 100, 103, 104, 107, 108, 109, 111, 112, 115, 117, 118, 120, 121, 123, 125, 127, 130, 131, 134, 136, 137, 140, 142, 143, 145, 148, 150, 153, 154, 157, 159, 160, 161, 164, 167, 170, 173, 176, 179, 180, 181, 182, 184, 187, 188, 189, 190, 193, 196, 197, 200, 201, 202, 203, 206, 207, 210, 211, 212, 213, 216, 219, 220]
/-- X10_isOutside -/
def jm_cd196 : List (Instr × Nat × Int) := [(.iload_n 1, 0, 0), (.aload_n 0, 0, 0), (.getfield 98, 1, 10), (.irem, 0, 0), (.ifCond .eq 42, 28, 0), (.iload_n 1, 0, 0), (.aload_n 0, 0, 0), (.getfield 98, 1, 10), (.irem, 0, 0), (.aload_n 0, 0, 0), (.getfield 98, 1, 10), (.iconst 1, 0, 1), (.isub, 0, 0), (.if_icmp .eq 27, 28, 0), (.iload_n 1, 0, 0), (.aload_n 0, 0, 0), (.getfield 98, 1, 10), (.idiv, 0, 0), (.ifCond .eq 18, 28, 0), (.iload_n 1, 0, 0), (.aload_n 0, 0, 0), (.getfield 98, 1, 10), (.idiv, 0, 0), (.aload_n 0, 0, 0), (.getfield 101, 2, 10), (.iconst 1, 0, 1), (.isub, 0, 0), (.if_icmp .ne 7, 30, 0), (.iconst 1, 0, 1), (.goto 4, 31, 0), (.iconst 0, 0, 0), (.ireturn, 1, 0)]
def jm_bp196 : List Nat := [0, 1, 2, 5, 6, 9, 10, 11, 14, 15, 16, 19, 20, 21, 24, 25, 26, 29, 30, 33, 34, 35, 38, 39, 40, 43, 44, 45, 48, 49, 52, 53]
/-- X10_edgeClockwise -/
def jm_cd197 : List (Instr × Nat × Int) := [(.iload_n 1, 0, 0), (.aload_n 0, 0, 0), (.getfield 98, 1, 10), (.irem, 0, 0), (.istore_n 2, 0, 0), (.iload_n 1, 0, 0), (.aload_n 0, 0, 0), (.getfield 98, 1, 10), (.idiv, 0, 0), (.istore_n 3, 0, 0), (.iload_n 3, 0, 0), (.ifCond .ne 24, 27, 0), (.iload_n 2, 0, 0), (.aload_n 0, 0, 0), (.getfield 98, 1, 10), (.iconst 1, 0, 1), (.isub, 0, 0), (.if_icmp .ge 14, 27, 0), (.aload_n 0, 0, 0), (.iload_n 1, 0, 0), (.iconst 1, 0, 1), (.iadd, 0, 0), (.putfield 364, 49, 10), (.iconst 3, 0, 3), (.iload_n 1, 0, 0), (.imul, 0, 0), (.ireturn, 0, 0), (.iload_n 2, 0, 0), (.aload_n 0, 0, 0), (.getfield 98, 1, 10), (.iconst 1, 0, 1), (.isub, 0, 0), (.if_icmp .ne 29, 51, 0), (.iload_n 3, 0, 0), (.aload_n 0, 0, 0), (.getfield 101, 2, 10), (.iconst 1, 0, 1), (.isub, 0, 0), (.if_icmp .ge 19, 51, 0), (.aload_n 0, 0, 0), (.iload_n 1, 0, 0), (.aload_n 0, 0, 0), (.getfield 98, 1, 10), (.iadd, 0, 0), (.putfield 364, 49, 10), (.iconst 3, 0, 3), (.iload_n 1, 0, 0), (.imul, 0, 0), (.iconst 1, 0, 1), (.iadd, 0, 0), (.ireturn, 0, 0), (.iload_n 3, 0, 0), (.aload_n 0, 0, 0), (.getfield 101, 2, 10), (.iconst 1, 0, 1), (.isub, 0, 0), (.if_icmp .ne 20, 70, 0), (.iload_n 2, 0, 0), (.ifCond .le 16, 70, 0), (.aload_n 0, 0, 0), (.iload_n 1, 0, 0), (.iconst 1, 0, 1), (.isub, 0, 0), (.putfield 364, 49, 10), (.iconst 3, 0, 3), (.iload_n 1, 0, 0), (.iconst 1, 0, 1), (.isub, 0, 0), (.imul, 0, 0), (.ireturn, 0, 0), (.aload_n 0, 0, 0), (.iload_n 1, 0, 0), (.aload_n 0, 0, 0), (.getfield 98, 1, 10), (.isub, 0, 0), (.putfield 364, 49, 10), (.iconst 3, 0, 3), (.iload_n 1, 0, 0), (.aload_n 0, 0, 0), (.getfield 98, 1, 10), (.isub, 0, 0), (.imul, 0, 0), (.iconst 1, 0, 1), (.iadd, 0, 0), (.ireturn, 0, 0)]
def jm_bp197 : List Nat := [0, 1, 2, 5, 6, 7, 8, 9, 12, 13, 14, 15, 18, 19, 20, 23, 24, 25, 28, 29, 30, 31, 32, 35, 36, 37, 38, 39, 40, 41, 44, 45, 46, 49, 50, 51, 54, 55, 56, 59, 60, 61, 62, 65, 66, 69, 70, 71, 72, 73, 74, 75, 76, 77, 80, 81, 82, 85, 86, 89, 90, 91, 92, 93, 96, 97, 98, 99, 100, 101, 102, 103, 104, 105, 108, 109, 112, 113, 114, 115, 118, 119, 120, 121, 122]
/-- X10_shared -/
def jm_cd198 : List (Instr × Nat × Int) := [(.aload_n 0, 0, 0), (.iconst 0, 0, 0), (.putfield 1, 0, 10), (.aload_n 0, 0, 0), (.iload_n 1, 0, 0), (.iload_n 2, 0, 0), (.invokevirtual 333, 181, 0), (.ifCond .eq 19, 16, 0), (.aload_n 0, 0, 0), (.iload_n 1, 0, 0), (.invokevirtual 367, 196, 0), (.ifCond .eq 11, 16, 0), (.aload_n 0, 0, 0), (.iload_n 2, 0, 0), (.invokevirtual 367, 196, 0), (.ifCond .ne 5, 18, 0), (.iconst (-1), 0, (-1)), (.ireturn, 0, 0), (.aload_n 0, 0, 0), (.invokevirtual 260, 159, 0), (.ifCond .ne 6, 23, 0), (.bipush (-2), 0, (-2)), (.ireturn, 0, 0), (.iconst 0, 0, 0), (.istore_n 3, 0, 0), (.iload_n 3, 0, 0), (.bipush 108, 0, 108), (.if_icmp .ge 16, 35, 0), (.aload_n 0, 0, 0), (.getfield 39, 23, 10), (.iload_n 3, 0, 0), (.iconst 0, 0, 0), (.bastore, 0, 0), (.iinc 3 1, 0, 1), (.goto (-16), 25, 0), (.iload_n 1, 0, 0), (.istore_n 3, 0, 0), (.iload_n 3, 0, 0), (.iload_n 2, 0, 0), (.if_icmp .eq 22, 51, 0), (.aload_n 0, 0, 0), (.getfield 39, 23, 10), (.aload_n 0, 0, 0), (.iload_n 3, 0, 0), (.invokevirtual 370, 197, 0), (.iconst 1, 0, 1), (.bastore, 0, 0), (.aload_n 0, 0, 0), (.getfield 364, 49, 10), (.istore_n 3, 0, 0), (.goto (-21), 37, 0), (.aload_n 0, 0, 0), (.iconst 1, 0, 1), (.putfield 240, 24, 10), (.aload_n 0, 0, 0), (.bipush 73, 0, 73), (.iconst 0, 0, 0), (.invokevirtual 256, 158, 0), (.istore 4, 0, 0), (.aload_n 0, 0, 0), (.iconst 0, 0, 0), (.putfield 240, 24, 10), (.aload_n 0, 0, 0), (.getfield 33, 21, 10), (.bipush 72, 0, 72), (.iaload, 0, 0), (.ireturn, 0, 0)]
def jm_bp198 : List Nat := [0, 1, 2, 5, 6, 7, 8, 11, 14, 15, 16, 19, 22, 23, 24, 27, 30, 31, 32, 33, 36, 39, 41, 42, 43, 44, 45, 47, 50, 51, 54, 55, 56, 57, 60, 63, 64, 65, 66, 67, 70, 71, 74, 75, 76, 79, 80, 81, 82, 85, 86, 89, 90, 91, 94, 95, 97, 98, 101, 103, 104, 105, 108, 109, 112, 114, 115]
/-- X10_isAt -/
def jm_cd199 : List (Instr × Nat × Int) := [(.iconst 0, 0, 0), (.istore_n 3, 0, 0), (.iconst 0, 0, 0), (.istore 4, 0, 0), (.iload 4, 0, 0), (.bipush 108, 0, 108), (.if_icmp .ge 49, 30, 0), (.iload_n 3, 0, 0), (.ifCond .ne 33, 24, 0), (.aload_n 0, 0, 0), (.iload 4, 0, 0), (.iload_n 2, 0, 0), (.invokevirtual 237, 152, 0), (.ifCond .eq 27, 26, 0), (.aload_n 0, 0, 0), (.iload 4, 0, 0), (.invokevirtual 225, 125, 0), (.iload_n 1, 0, 0), (.if_icmp .eq 13, 24, 0), (.aload_n 0, 0, 0), (.iload 4, 0, 0), (.invokevirtual 228, 126, 0), (.iload_n 1, 0, 0), (.if_icmp .ne 7, 26, 0), (.iconst 1, 0, 1), (.goto 4, 27, 0), (.iconst 0, 0, 0), (.istore_n 3, 0, 0), (.iinc 4 1, 0, 1), (.goto (-50), 4, 0), (.iload_n 3, 0, 0), (.ireturn, 1, 0)]
def jm_bp199 : List Nat := [0, 1, 2, 3, 5, 7, 9, 12, 13, 16, 17, 19, 20, 23, 26, 27, 29, 32, 33, 36, 37, 39, 42, 43, 46, 47, 50, 51, 52, 55, 58, 59]
/-- X10_gather -/
def jm_cd200 : List (Instr × Nat × Int) := [(.aload_n 0, 0, 0), (.iconst 0, 0, 0), (.putfield 1, 0, 10), (.aload_n 0, 0, 0), (.iload_n 1, 0, 0), (.invokevirtual 127, 130, 0), (.ifCond .eq 22, 16, 0), (.aload_n 0, 0, 0), (.iload_n 2, 0, 0), (.invokevirtual 116, 122, 0), (.ifCond .eq 14, 16, 0), (.iload_n 3, 0, 0), (.iconst 1, 0, 1), (.sipush 999, 0, 999), (.invokestatic 112, 119, 0), (.ifCond .ne 5, 18, 0), (.iconst (-1), 0, (-1)), (.ireturn, 0, 0), (.aload_n 0, 0, 0), (.invokevirtual 327, 170, 0), (.ifCond .ne 6, 23, 0), (.bipush (-2), 0, (-2)), (.ireturn, 0, 0), (.aload_n 0, 0, 0), (.invokevirtual 339, 180, 0), (.iconst 0, 0, 0), (.istore 4, 0, 0), (.iconst 0, 0, 0), (.istore 5, 0, 0), (.iload 5, 0, 0), (.aload_n 0, 0, 0), (.invokevirtual 108, 121, 0), (.if_icmp .ge 52, 59, 0), (.iload 5, 0, 0), (.iload_n 2, 0, 0), (.if_icmp .eq 40, 57, 0), (.aload_n 0, 0, 0), (.iload 5, 0, 0), (.iload_n 1, 0, 0), (.invokevirtual 373, 199, 0), (.ifCond .eq 30, 57, 0), (.aload_n 0, 0, 0), (.getfield 61, 38, 10), (.iload 5, 0, 0), (.aload_n 0, 0, 0), (.iload 5, 0, 0), (.iload_n 2, 0, 0), (.iload_n 3, 0, 0), (.invokevirtual 330, 178, 0), (.iastore, 0, 0), (.iload 4, 0, 0), (.aload_n 0, 0, 0), (.getfield 61, 38, 10), (.iload 5, 0, 0), (.iaload, 0, 0), (.iadd, 0, 0), (.istore 4, 0, 0), (.iinc 5 1, 0, 1), (.goto (-55), 29, 0), (.aload_n 0, 0, 0), (.getfield 61, 38, 10), (.iload_n 2, 0, 0), (.iload 4, 0, 0), (.ineg, 0, 0), (.iastore, 0, 0), (.aload_n 0, 0, 0), (.iconst (-1), 0, (-1)), (.iload_n 2, 0, 0), (.invokevirtual 342, 179, 0), (.iload 4, 0, 0), (.ireturn, 0, 0)]
def jm_bp200 : List Nat := [0, 1, 2, 5, 6, 7, 10, 13, 14, 15, 18, 21, 22, 23, 26, 29, 32, 33, 34, 35, 38, 41, 43, 44, 45, 48, 49, 51, 52, 54, 56, 57, 60, 63, 65, 66, 69, 70, 72, 73, 76, 79, 80, 83, 85, 86, 88, 89, 90, 93, 94, 96, 97, 100, 102, 103, 104, 106, 109, 112, 113, 116, 117, 119, 120, 121, 122, 123, 124, 127, 129]
/-- X10_supply -/
def jm_cd201 : List (Instr × Nat × Int) := [(.aload_n 0, 0, 0), (.iconst 0, 0, 0), (.putfield 1, 0, 10), (.aload_n 0, 0, 0), (.iload_n 1, 0, 0), (.invokevirtual 116, 122, 0), (.ifCond .eq 14, 12, 0), (.iload_n 2, 0, 0), (.bipush (-99), 0, (-99)), (.bipush 99, 0, 99), (.invokestatic 112, 119, 0), (.ifCond .ne 6, 14, 0), (.bipush (-101), 0, (-101)), (.ireturn, 0, 0), (.aload_n 0, 0, 0), (.getfield 23, 6, 10), (.iload_n 1, 0, 0), (.iaload, 0, 0), (.istore_n 3, 0, 0), (.aload_n 0, 0, 0), (.getfield 23, 6, 10), (.iload_n 1, 0, 0), (.iload_n 2, 0, 0), (.iastore, 0, 0), (.iload_n 3, 0, 0), (.ireturn, 0, 0)]
def jm_bp201 : List Nat := [0, 1, 2, 5, 6, 7, 10, 13, 14, 16, 18, 21, 24, 26, 27, 28, 31, 32, 33, 34, 35, 38, 39, 40, 41, 42]
/-- X10_meets -/
def jm_cd202 : List (Instr × Nat × Int) := [(.aload_n 0, 0, 0), (.getfield 23, 6, 10), (.iload_n 1, 0, 0), (.iaload, 0, 0), (.istore_n 2, 0, 0), (.iload_n 2, 0, 0), (.ifCond .le 115, 75, 0), (.aload_n 0, 0, 0), (.iload_n 1, 0, 0), (.iconst (-1), 0, (-1)), (.invokevirtual 318, 175, 0), (.ifCond .eq 106, 75, 0), (.aload_n 0, 0, 0), (.getfield 67, 40, 10), (.aload_n 0, 0, 0), (.getfield 301, 45, 10), (.iconst 1, 0, 1), (.isub, 0, 0), (.iaload, 0, 0), (.istore_n 3, 0, 0), (.aload_n 0, 0, 0), (.invokevirtual 321, 176, 0), (.istore 4, 0, 0), (.iload 4, 0, 0), (.iload_n 2, 0, 0), (.if_icmp .ge 8, 28, 0), (.iload 4, 0, 0), (.goto 4, 29, 0), (.iload_n 2, 0, 0), (.istore 4, 0, 0), (.iload 4, 0, 0), (.aload_n 0, 0, 0), (.getfield 82, 46, 10), (.iload_n 3, 0, 0), (.iaload, 0, 0), (.if_icmp .ge 8, 38, 0), (.iload 4, 0, 0), (.goto 9, 42, 0), (.aload_n 0, 0, 0), (.getfield 82, 46, 10), (.iload_n 3, 0, 0), (.iaload, 0, 0), (.istore 4, 0, 0), (.aload_n 0, 0, 0), (.iload 4, 0, 0), (.invokevirtual 324, 177, 0), (.iload_n 2, 0, 0), (.iload 4, 0, 0), (.isub, 0, 0), (.istore_n 2, 0, 0), (.aload_n 0, 0, 0), (.getfield 82, 46, 10), (.iload_n 3, 0, 0), (.dup2, 0, 0), (.iaload, 0, 0), (.iload 4, 0, 0), (.isub, 0, 0), (.iastore, 0, 0), (.aload_n 0, 0, 0), (.getfield 61, 38, 10), (.iload_n 1, 0, 0), (.dup2, 0, 0), (.iaload, 0, 0), (.iload 4, 0, 0), (.iadd, 0, 0), (.iastore, 0, 0), (.aload_n 0, 0, 0), (.getfield 61, 38, 10), (.iload_n 3, 0, 0), (.dup2, 0, 0), (.iaload, 0, 0), (.iload 4, 0, 0), (.isub, 0, 0), (.iastore, 0, 0), (.goto (-113), 5, 0), (.aload_n 0, 0, 0), (.getfield 23, 6, 10), (.iload_n 1, 0, 0), (.iaload, 0, 0), (.iload_n 2, 0, 0), (.isub, 0, 0), (.ireturn, 0, 0)]
def jm_bp202 : List Nat := [0, 1, 4, 5, 6, 7, 8, 11, 12, 13, 14, 17, 20, 21, 24, 25, 28, 29, 30, 31, 32, 33, 36, 38, 40, 41, 44, 46, 49, 50, 52, 54, 55, 58, 59, 60, 63, 65, 68, 69, 72, 73, 74, 76, 77, 79, 82, 83, 85, 86, 87, 88, 91, 92, 93, 94, 96, 97, 98, 99, 102, 103, 104, 105, 107, 108, 109, 110, 113, 114, 115, 116, 118, 119, 120, 123, 124, 127, 128, 129, 130, 131]
/-- X10_meet -/
def jm_cd203 : List (Instr × Nat × Int) := [(.aload_n 0, 0, 0), (.iconst 0, 0, 0), (.putfield 1, 0, 10), (.aload_n 0, 0, 0), (.invokevirtual 327, 170, 0), (.ifCond .ne 6, 8, 0), (.bipush (-2), 0, (-2)), (.ireturn, 0, 0), (.aload_n 0, 0, 0), (.invokevirtual 339, 180, 0), (.iconst 0, 0, 0), (.istore_n 1, 0, 0), (.iload_n 1, 0, 0), (.bipush 36, 0, 36), (.if_icmp .ge 43, 37, 0), (.aload_n 0, 0, 0), (.getfield 82, 46, 10), (.iload_n 1, 0, 0), (.aload_n 0, 0, 0), (.iload_n 1, 0, 0), (.invokevirtual 116, 122, 0), (.ifCond .eq 22, 33, 0), (.aload_n 0, 0, 0), (.getfield 23, 6, 10), (.iload_n 1, 0, 0), (.iaload, 0, 0), (.ifCond .ge 13, 33, 0), (.aload_n 0, 0, 0), (.getfield 23, 6, 10), (.iload_n 1, 0, 0), (.iaload, 0, 0), (.ineg, 0, 0), (.goto 4, 34, 0), (.iconst 0, 0, 0), (.iastore, 0, 0), (.iinc 1 1, 0, 1), (.goto (-43), 12, 0), (.iconst 0, 0, 0), (.istore_n 1, 0, 0), (.iconst 0, 0, 0), (.istore_n 2, 0, 0), (.iload_n 2, 0, 0), (.aload_n 0, 0, 0), (.invokevirtual 108, 121, 0), (.if_icmp .ge 30, 60, 0), (.iload_n 1, 0, 0), (.aload_n 0, 0, 0), (.getfield 23, 6, 10), (.iload_n 2, 0, 0), (.iaload, 0, 0), (.ifCond .le 11, 55, 0), (.aload_n 0, 0, 0), (.iload_n 2, 0, 0), (.invokevirtual 376, 202, 0), (.goto 4, 56, 0), (.iconst 0, 0, 0), (.iadd, 0, 0), (.istore_n 1, 0, 0), (.iinc 2 1, 0, 1), (.goto (-32), 41, 0), (.aload_n 0, 0, 0), (.iconst (-1), 0, (-1)), (.iconst (-1), 0, (-1)), (.invokevirtual 342, 179, 0), (.iload_n 1, 0, 0), (.ireturn, 0, 0)]
def jm_bp203 : List Nat := [0, 1, 2, 5, 6, 9, 12, 14, 15, 16, 19, 20, 21, 22, 24, 27, 28, 31, 32, 33, 34, 37, 40, 41, 44, 45, 46, 49, 50, 53, 54, 55, 56, 59, 60, 61, 64, 67, 68, 69, 70, 71, 72, 73, 76, 79, 80, 81, 84, 85, 86, 89, 90, 91, 94, 97, 98, 99, 100, 103, 106, 107, 108, 109, 112, 113]
/-- X10_gave -/
def jm_cd204 : List (Instr × Nat × Int) := [(.aload_n 0, 0, 0), (.iconst 0, 0, 0), (.putfield 1, 0, 10), (.aload_n 0, 0, 0), (.iload_n 1, 0, 0), (.invokevirtual 116, 122, 0), (.ifCond .eq 28, 20, 0), (.aload_n 0, 0, 0), (.getfield 104, 33, 10), (.ifCond .eq 21, 20, 0), (.aload_n 0, 0, 0), (.getfield 58, 37, 10), (.iconst 3, 0, 3), (.iaload, 0, 0), (.ifCond .ge 12, 20, 0), (.aload_n 0, 0, 0), (.getfield 64, 39, 10), (.iload_n 1, 0, 0), (.iaload, 0, 0), (.goto 5, 21, 0), (.bipush (-101), 0, (-101)), (.ireturn, 0, 0)]
def jm_bp204 : List Nat := [0, 1, 2, 5, 6, 7, 10, 13, 14, 17, 20, 21, 24, 25, 26, 29, 30, 33, 34, 35, 38, 40]
/-- X10_valueBy -/
def jm_cd205 : List (Instr × Nat × Int) := [(.aload_n 0, 0, 0), (.getfield 17, 4, 10), (.iload_n 1, 0, 0), (.iaload, 0, 0), (.istore 6, 0, 0), (.aload_n 0, 0, 0), (.getfield 20, 5, 10), (.iload_n 1, 0, 0), (.iaload, 0, 0), (.istore 7, 0, 0), (.aload_n 0, 0, 0), (.getfield 17, 4, 10), (.iload_n 1, 0, 0), (.iload_n 2, 0, 0), (.iastore, 0, 0), (.aload_n 0, 0, 0), (.getfield 20, 5, 10), (.iload_n 1, 0, 0), (.iload_n 3, 0, 0), (.iastore, 0, 0), (.aload_n 0, 0, 0), (.iload 4, 0, 0), (.iload 5, 0, 0), (.invokevirtual 336, 182, 0), (.istore 8, 0, 0), (.aload_n 0, 0, 0), (.getfield 17, 4, 10), (.iload_n 1, 0, 0), (.iload 6, 0, 0), (.iastore, 0, 0), (.aload_n 0, 0, 0), (.getfield 20, 5, 10), (.iload_n 1, 0, 0), (.iload 7, 0, 0), (.iastore, 0, 0), (.iload 8, 0, 0), (.ireturn, 0, 0)]
def jm_bp205 : List Nat := [0, 1, 4, 5, 6, 8, 9, 12, 13, 14, 16, 17, 20, 21, 22, 23, 24, 27, 28, 29, 30, 31, 33, 35, 38, 40, 41, 44, 45, 47, 48, 49, 52, 53, 55, 56, 58]
/-- X10_were -/
def jm_cd206 : List (Instr × Nat × Int) := [(.aload_n 0, 0, 0), (.iconst 0, 0, 0), (.putfield 1, 0, 10), (.aload_n 0, 0, 0), (.iload_n 1, 0, 0), (.invokevirtual 130, 124, 0), (.ifCond .eq 22, 17, 0), (.iload_n 2, 0, 0), (.iconst 0, 0, 0), (.iconst 2, 0, 2), (.invokestatic 112, 119, 0), (.ifCond .eq 13, 17, 0), (.aload_n 0, 0, 0), (.iload_n 3, 0, 0), (.iload 4, 0, 0), (.invokevirtual 333, 181, 0), (.ifCond .ne 5, 19, 0), (.iconst (-1), 0, (-1)), (.ireturn, 0, 0), (.iload_n 2, 0, 0), (.ifCond .ne 16, 29, 0), (.aload_n 0, 0, 0), (.iload_n 1, 0, 0), (.iconst 0, 0, 0), (.iconst 0, 0, 0), (.iload_n 3, 0, 0), (.iload 4, 0, 0), (.invokevirtual 379, 205, 0), (.goto 45, 56, 0), (.aload_n 0, 0, 0), (.iload_n 1, 0, 0), (.aload_n 0, 0, 0), (.getfield 17, 4, 10), (.iload_n 1, 0, 0), (.iaload, 0, 0), (.iload_n 2, 0, 0), (.iconst 1, 0, 1), (.if_icmp .ne 7, 40, 0), (.iconst 1, 0, 1), (.goto 4, 41, 0), (.iconst 0, 0, 0), (.iadd, 0, 0), (.aload_n 0, 0, 0), (.getfield 20, 5, 10), (.iload_n 1, 0, 0), (.iaload, 0, 0), (.iload_n 2, 0, 0), (.iconst 2, 0, 2), (.if_icmp .ne 7, 51, 0), (.iconst 1, 0, 1), (.goto 4, 52, 0), (.iconst 0, 0, 0), (.iadd, 0, 0), (.iload_n 3, 0, 0), (.iload 4, 0, 0), (.invokevirtual 379, 205, 0), (.ireturn, 0, 0)]
def jm_bp206 : List Nat := [0, 1, 2, 5, 6, 7, 10, 13, 14, 15, 16, 19, 22, 23, 24, 26, 29, 32, 33, 34, 35, 38, 39, 40, 41, 42, 43, 45, 48, 51, 52, 53, 54, 57, 58, 59, 60, 61, 64, 65, 68, 69, 70, 71, 74, 75, 76, 77, 78, 81, 82, 85, 86, 87, 88, 90, 93]
/-- X10_counts -/
def jm_cd207 : List (Instr × Nat × Int) := [(.aload_n 0, 0, 0), (.iconst 0, 0, 0), (.putfield 1, 0, 10), (.iload_n 1, 0, 0), (.iconst 0, 0, 0), (.iconst 1, 0, 1), (.invokestatic 112, 119, 0), (.ifCond .eq 12, 13, 0), (.aload_n 0, 0, 0), (.iload_n 2, 0, 0), (.iload_n 3, 0, 0), (.invokevirtual 333, 181, 0), (.ifCond .ne 5, 15, 0), (.iconst (-1), 0, (-1)), (.ireturn, 0, 0), (.aload_n 0, 0, 0), (.iload_n 2, 0, 0), (.iload_n 3, 0, 0), (.invokevirtual 336, 182, 0), (.istore 4, 0, 0), (.iload 4, 0, 0), (.ifCond .ge 6, 24, 0), (.iload 4, 0, 0), (.ireturn, 0, 0), (.iconst 0, 0, 0), (.istore 5, 0, 0), (.iconst 0, 0, 0), (.istore 6, 0, 0), (.iload 6, 0, 0), (.bipush 108, 0, 108), (.if_icmp .ge 99, 83, 0), (.aload_n 0, 0, 0), (.iload 6, 0, 0), (.invokevirtual 130, 124, 0), (.ifCond .eq 84, 81, 0), (.iload_n 1, 0, 0), (.ifCond .ne 16, 45, 0), (.aload_n 0, 0, 0), (.iload 6, 0, 0), (.iconst 0, 0, 0), (.iconst 0, 0, 0), (.iload_n 2, 0, 0), (.iload_n 3, 0, 0), (.invokevirtual 379, 205, 0), (.goto 29, 62, 0), (.aload_n 0, 0, 0), (.iload 6, 0, 0), (.aload_n 0, 0, 0), (.getfield 17, 4, 10), (.iload 6, 0, 0), (.iaload, 0, 0), (.iconst 1, 0, 1), (.iadd, 0, 0), (.aload_n 0, 0, 0), (.getfield 20, 5, 10), (.iload 6, 0, 0), (.iaload, 0, 0), (.iconst 1, 0, 1), (.iadd, 0, 0), (.iload_n 2, 0, 0), (.iload_n 3, 0, 0), (.invokevirtual 379, 205, 0), (.istore 7, 0, 0), (.iload 5, 0, 0), (.iload_n 1, 0, 0), (.ifCond .ne 18, 73, 0), (.iload 7, 0, 0), (.iload 4, 0, 0), (.if_icmp .ge 7, 71, 0), (.iconst 1, 0, 1), (.goto 19, 79, 0), (.iconst 0, 0, 0), (.goto 15, 79, 0), (.iload 7, 0, 0), (.iload 4, 0, 0), (.if_icmp .le 7, 78, 0), (.iconst 1, 0, 1), (.goto 4, 79, 0), (.iconst 0, 0, 0), (.iadd, 0, 0), (.istore 5, 0, 0), (.iinc 6 1, 0, 1), (.goto (-100), 28, 0), (.iload 5, 0, 0), (.ireturn, 0, 0)]
def jm_bp207 : List Nat := [0, 1, 2, 5, 6, 7, 8, 11, 14, 15, 16, 17, 20, 23, 24, 25, 26, 27, 28, 31, 33, 35, 38, 40, 41, 42, 44, 45, 47, 49, 51, 54, 55, 57, 60, 63, 64, 67, 68, 70, 71, 72, 73, 74, 77, 80, 81, 83, 84, 87, 89, 90, 91, 92, 93, 96, 98, 99, 100, 101, 102, 103, 106, 108, 110, 111, 114, 116, 118, 121, 122, 125, 126, 129, 131, 133, 136, 137, 140, 141, 142, 144, 147, 150, 152]
/-- X10_worst -/
def jm_cd208 : List (Instr × Nat × Int) := [(.aload_n 0, 0, 0), (.iconst 0, 0, 0), (.putfield 1, 0, 10), (.aload_n 0, 0, 0), (.iload_n 1, 0, 0), (.invokevirtual 116, 122, 0), (.ifCond .eq 12, 12, 0), (.iload_n 2, 0, 0), (.iconst 0, 0, 0), (.iconst 1, 0, 1), (.invokestatic 112, 119, 0), (.ifCond .ne 5, 14, 0), (.iconst (-1), 0, (-1)), (.ireturn, 0, 0), (.ldc 243, 0, 100000000), (.istore_n 3, 0, 0), (.iconst (-1), 0, (-1)), (.istore 4, 0, 0), (.iconst 0, 0, 0), (.istore 5, 0, 0), (.iload 5, 0, 0), (.aload_n 0, 0, 0), (.invokevirtual 108, 121, 0), (.if_icmp .ge 52, 48, 0), (.iload 5, 0, 0), (.iload_n 1, 0, 0), (.if_icmp .eq 40, 46, 0), (.aload_n 0, 0, 0), (.iload_n 1, 0, 0), (.iload 5, 0, 0), (.invokevirtual 336, 182, 0), (.istore 6, 0, 0), (.iload 6, 0, 0), (.iload_n 3, 0, 0), (.if_icmp .ge 8, 37, 0), (.iload 5, 0, 0), (.goto 5, 38, 0), (.iload 4, 0, 0), (.istore 4, 0, 0), (.iload 6, 0, 0), (.iload_n 3, 0, 0), (.if_icmp .ge 8, 44, 0), (.iload 6, 0, 0), (.goto 4, 45, 0), (.iload_n 3, 0, 0), (.istore_n 3, 0, 0), (.iinc 5 1, 0, 1), (.goto (-55), 20, 0), (.iload_n 3, 0, 0), (.ifCond .ge 7, 52, 0), (.iload_n 3, 0, 0), (.goto 13, 57, 0), (.iload_n 2, 0, 0), (.ifCond .ne 8, 56, 0), (.iload 4, 0, 0), (.goto 4, 57, 0), (.iload_n 3, 0, 0), (.ireturn, 0, 0)]
def jm_bp208 : List Nat := [0, 1, 2, 5, 6, 7, 10, 13, 14, 15, 16, 19, 22, 23, 24, 26, 27, 28, 30, 31, 33, 35, 36, 39, 42, 44, 45, 48, 49, 50, 52, 55, 57, 59, 60, 63, 65, 68, 70, 72, 74, 75, 78, 80, 83, 84, 85, 88, 91, 92, 95, 96, 99, 100, 103, 105, 108, 109]
/-- X10_image -/
def jm_cd209 : List (Instr × Nat × Int) := [(.aload_n 0, 0, 0), (.iconst 0, 0, 0), (.putfield 1, 0, 10), (.iload_n 1, 0, 0), (.iconst 0, 0, 0), (.iconst 1, 0, 1), (.invokestatic 112, 119, 0), (.ifCond .ne 5, 10, 0), (.iconst 0, 0, 0), (.ireturn, 1, 0), (.sipush 290, 0, 290), (.iload_n 1, 0, 0), (.imul, 0, 0), (.istore_n 2, 0, 0), (.aload_n 0, 0, 0), (.getfield 91, 50, 10), (.iload_n 2, 0, 0), (.aload_n 0, 0, 0), (.getfield 98, 1, 10), (.iastore, 0, 0), (.aload_n 0, 0, 0), (.getfield 91, 50, 10), (.iload_n 2, 0, 0), (.iconst 1, 0, 1), (.iadd, 0, 0), (.aload_n 0, 0, 0), (.getfield 101, 2, 10), (.iastore, 0, 0), (.iconst 0, 0, 0), (.istore_n 3, 0, 0), (.iload_n 3, 0, 0), (.bipush 36, 0, 36), (.if_icmp .ge 42, 59, 0), (.aload_n 0, 0, 0), (.getfield 91, 50, 10), (.iload_n 2, 0, 0), (.iconst 2, 0, 2), (.iadd, 0, 0), (.iload_n 3, 0, 0), (.iadd, 0, 0), (.aload_n 0, 0, 0), (.getfield 13, 3, 10), (.iload_n 3, 0, 0), (.iaload, 0, 0), (.iastore, 0, 0), (.aload_n 0, 0, 0), (.getfield 91, 50, 10), (.iload_n 2, 0, 0), (.bipush 38, 0, 38), (.iadd, 0, 0), (.iload_n 3, 0, 0), (.iadd, 0, 0), (.aload_n 0, 0, 0), (.getfield 23, 6, 10), (.iload_n 3, 0, 0), (.iaload, 0, 0), (.iastore, 0, 0), (.iinc 3 1, 0, 1), (.goto (-42), 30, 0), (.iconst 0, 0, 0), (.istore_n 3, 0, 0), (.iload_n 3, 0, 0), (.bipush 108, 0, 108), (.if_icmp .ge 44, 90, 0), (.aload_n 0, 0, 0), (.getfield 91, 50, 10), (.iload_n 2, 0, 0), (.bipush 74, 0, 74), (.iadd, 0, 0), (.iload_n 3, 0, 0), (.iadd, 0, 0), (.aload_n 0, 0, 0), (.getfield 17, 4, 10), (.iload_n 3, 0, 0), (.iaload, 0, 0), (.iastore, 0, 0), (.aload_n 0, 0, 0), (.getfield 91, 50, 10), (.iload_n 2, 0, 0), (.sipush 182, 0, 182), (.iadd, 0, 0), (.iload_n 3, 0, 0), (.iadd, 0, 0), (.aload_n 0, 0, 0), (.getfield 20, 5, 10), (.iload_n 3, 0, 0), (.iaload, 0, 0), (.iastore, 0, 0), (.iinc 3 1, 0, 1), (.goto (-44), 61, 0), (.aload_n 0, 0, 0), (.dup, 0, 0), (.getfield 383, 51, 10), (.iconst 1, 0, 1), (.iload_n 1, 0, 0), (.ishl, 0, 0), (.ior, 0, 0), (.putfield 383, 51, 10), (.iconst 1, 0, 1), (.ireturn, 1, 0)]
def jm_bp209 : List Nat := [0, 1, 2, 5, 6, 7, 8, 11, 14, 15, 16, 19, 20, 21, 22, 23, 26, 27, 28, 31, 32, 33, 36, 37, 38, 39, 40, 43, 44, 45, 46, 47, 49, 52, 53, 56, 57, 58, 59, 60, 61, 62, 65, 66, 67, 68, 69, 72, 73, 75, 76, 77, 78, 79, 82, 83, 84, 85, 88, 91, 92, 93, 94, 96, 99, 100, 103, 104, 106, 107, 108, 109, 110, 113, 114, 115, 116, 117, 120, 121, 124, 125, 126, 127, 128, 131, 132, 133, 134, 137, 140, 141, 142, 145, 146, 147, 148, 149, 152, 153]
def jm_cd210_0 : List (Instr × Nat × Int) := [(.aload_n 0, 0, 0), (.iconst 0, 0, 0), (.putfield 1, 0, 10), (.iload_n 1, 0, 0), (.iconst 0, 0, 0), (.iconst 1, 0, 1), (.invokestatic 112, 119, 0), (.ifCond .eq 14, 15, 0), (.aload_n 0, 0, 0), (.getfield 383, 51, 10), (.iload_n 1, 0, 0), (.ishr, 0, 0), (.iconst 1, 0, 1), (.iand, 0, 0), (.ifCond .ne 5, 17, 0), (.iconst 0, 0, 0), (.ireturn, 1, 0), (.sipush 290, 0, 290), (.iload_n 1, 0, 0), (.imul, 0, 0), (.istore_n 2, 0, 0), (.aload_n 0, 0, 0), (.aload_n 0, 0, 0), (.getfield 91, 50, 10), (.iload_n 2, 0, 0), (.iaload, 0, 0), (.putfield 98, 1, 10), (.aload_n 0, 0, 0), (.aload_n 0, 0, 0), (.getfield 91, 50, 10), (.iload_n 2, 0, 0), (.iconst 1, 0, 1), (.iadd, 0, 0), (.iaload, 0, 0), (.putfield 101, 2, 10), (.iconst 0, 0, 0), (.istore_n 3, 0, 0), (.iload_n 3, 0, 0), (.bipush 36, 0, 36), (.if_icmp .ge 42, 66, 0), (.aload_n 0, 0, 0), (.getfield 13, 3, 10), (.iload_n 3, 0, 0), (.aload_n 0, 0, 0), (.getfield 91, 50, 10), (.iload_n 2, 0, 0), (.iconst 2, 0, 2), (.iadd, 0, 0), (.iload_n 3, 0, 0), (.iadd, 0, 0), (.iaload, 0, 0), (.iastore, 0, 0), (.aload_n 0, 0, 0), (.getfield 23, 6, 10), (.iload_n 3, 0, 0), (.aload_n 0, 0, 0), (.getfield 91, 50, 10), (.iload_n 2, 0, 0), (.bipush 38, 0, 38), (.iadd, 0, 0), (.iload_n 3, 0, 0), (.iadd, 0, 0), (.iaload, 0, 0), (.iastore, 0, 0), (.iinc 3 1, 0, 1), (.goto (-42), 37, 0), (.iconst 0, 0, 0), (.istore_n 3, 0, 0), (.iload_n 3, 0, 0), (.bipush 108, 0, 108), (.if_icmp .ge 44, 97, 0), (.aload_n 0, 0, 0), (.getfield 17, 4, 10), (.iload_n 3, 0, 0), (.aload_n 0, 0, 0), (.getfield 91, 50, 10), (.iload_n 2, 0, 0), (.bipush 74, 0, 74), (.iadd, 0, 0), (.iload_n 3, 0, 0), (.iadd, 0, 0), (.iaload, 0, 0), (.iastore, 0, 0), (.aload_n 0, 0, 0), (.getfield 20, 5, 10), (.iload_n 3, 0, 0), (.aload_n 0, 0, 0), (.getfield 91, 50, 10), (.iload_n 2, 0, 0), (.sipush 182, 0, 182), (.iadd, 0, 0), (.iload_n 3, 0, 0), (.iadd, 0, 0), (.iaload, 0, 0), (.iastore, 0, 0), (.iinc 3 1, 0, 1), (.goto (-44), 68, 0), (.aload_n 0, 0, 0), (.iconst 0, 0, 0), (.putfield 104, 33, 10)]
def jm_cd210_1 : List (Instr × Nat × Int) := [(.iconst 1, 0, 1), (.ireturn, 1, 0)]
/-- X10_back -/
def jm_cd210 : List (Instr × Nat × Int) := jm_cd210_0 ++ jm_cd210_1
def jm_bp210 : List Nat := [0, 1, 2, 5, 6, 7, 8, 11, 14, 15, 18, 19, 20, 21, 22, 25, 26, 27, 30, 31, 32, 33, 34, 35, 38, 39, 40, 43, 44, 45, 48, 49, 50, 51, 52, 55, 56, 57, 58, 60, 63, 64, 67, 68, 69, 72, 73, 74, 75, 76, 77, 78, 79, 80, 83, 84, 85, 88, 89, 91, 92, 93, 94, 95, 96, 99, 102, 103, 104, 105, 107, 110, 111, 114, 115, 116, 119, 120, 122, 123, 124, 125, 126, 127, 128, 131, 132, 133, 136, 137, 140, 141, 142, 143, 144, 145, 148, 151, 152, 153, 156, 157]
/-- X10_allBears -/
def jm_cd211 : List (Instr × Nat × Int) := [(.iconst 0, 0, 0), (.istore_n 1, 0, 0), (.iconst 0, 0, 0), (.istore_n 2, 0, 0), (.iload_n 2, 0, 0), (.bipush 108, 0, 108), (.if_icmp .ge 37, 27, 0), (.iload_n 1, 0, 0), (.aload_n 0, 0, 0), (.iload_n 2, 0, 0), (.invokevirtual 130, 124, 0), (.ifCond .eq 19, 22, 0), (.aload_n 0, 0, 0), (.getfield 17, 4, 10), (.iload_n 2, 0, 0), (.iaload, 0, 0), (.aload_n 0, 0, 0), (.getfield 20, 5, 10), (.iload_n 2, 0, 0), (.iaload, 0, 0), (.iadd, 0, 0), (.goto 4, 23, 0), (.iconst 0, 0, 0), (.iadd, 0, 0), (.istore_n 1, 0, 0), (.iinc 2 1, 0, 1), (.goto (-37), 4, 0), (.iload_n 1, 0, 0), (.ireturn, 0, 0)]
def jm_bp211 : List Nat := [0, 1, 2, 3, 4, 5, 7, 10, 11, 12, 13, 16, 19, 20, 23, 24, 25, 26, 29, 30, 31, 32, 35, 36, 37, 38, 41, 44, 45]
/-- X10_aslant -/
def jm_cd212 : List (Instr × Nat × Int) := [(.iconst 0, 0, 0), (.istore_n 1, 0, 0), (.iconst 0, 0, 0), (.istore_n 2, 0, 0), (.iload_n 2, 0, 0), (.aload_n 0, 0, 0), (.invokevirtual 108, 121, 0), (.if_icmp .ge 26, 21, 0), (.iload_n 1, 0, 0), (.aload_n 0, 0, 0), (.getfield 13, 3, 10), (.iload_n 2, 0, 0), (.iaload, 0, 0), (.ifCond .le 7, 16, 0), (.iconst 1, 0, 1), (.goto 4, 17, 0), (.iconst 0, 0, 0), (.iadd, 0, 0), (.istore_n 1, 0, 0), (.iinc 2 1, 0, 1), (.goto (-28), 4, 0), (.iload_n 1, 0, 0), (.ireturn, 0, 0)]
def jm_bp212 : List Nat := [0, 1, 2, 3, 4, 5, 6, 9, 12, 13, 14, 17, 18, 19, 22, 23, 26, 27, 28, 29, 32, 35, 36]
/-- X10_supplied -/
def jm_cd213 : List (Instr × Nat × Int) := [(.iconst 0, 0, 0), (.istore_n 2, 0, 0), (.iconst 0, 0, 0), (.istore_n 3, 0, 0), (.iload_n 3, 0, 0), (.aload_n 0, 0, 0), (.invokevirtual 108, 121, 0), (.if_icmp .ge 35, 28, 0), (.iload_n 2, 0, 0), (.aload_n 0, 0, 0), (.getfield 23, 6, 10), (.iload_n 3, 0, 0), (.iaload, 0, 0), (.iload_n 1, 0, 0), (.imul, 0, 0), (.ifCond .le 14, 23, 0), (.aload_n 0, 0, 0), (.getfield 23, 6, 10), (.iload_n 3, 0, 0), (.iaload, 0, 0), (.iload_n 1, 0, 0), (.imul, 0, 0), (.goto 4, 24, 0), (.iconst 0, 0, 0), (.iadd, 0, 0), (.istore_n 2, 0, 0), (.iinc 3 1, 0, 1), (.goto (-37), 4, 0), (.iload_n 2, 0, 0), (.ireturn, 0, 0)]
def jm_bp213 : List Nat := [0, 1, 2, 3, 4, 5, 6, 9, 12, 13, 14, 17, 18, 19, 20, 21, 24, 25, 28, 29, 30, 31, 32, 35, 36, 37, 38, 41, 44, 45]
/-- X10_count -/
def jm_cd214 : List (Instr × Nat × Int) := [(.aload_n 0, 0, 0), (.iconst 0, 0, 0), (.putfield 1, 0, 10), (.iload_n 1, 0, 0), (.tableswitch 114 0 9 #[54, 59, 64, 69, 74, 79, 84, 97, 102, 108], 5, 54), (.aload_n 0, 0, 0), (.getfield 98, 1, 10), (.ireturn, 0, 0), (.aload_n 0, 0, 0), (.getfield 101, 2, 10), (.ireturn, 0, 0), (.aload_n 0, 0, 0), (.invokevirtual 222, 132, 0), (.ireturn, 0, 0), (.aload_n 0, 0, 0), (.invokevirtual 274, 131, 0), (.ireturn, 0, 0), (.aload_n 0, 0, 0), (.invokevirtual 386, 212, 0), (.ireturn, 0, 0), (.aload_n 0, 0, 0), (.invokevirtual 389, 211, 0), (.ireturn, 0, 0), (.aload_n 0, 0, 0), (.getfield 104, 33, 10), (.ifCond .eq 7, 28, 0), (.iconst 1, 0, 1), (.goto 4, 29, 0), (.iconst 0, 0, 0), (.ireturn, 0, 0), (.aload_n 0, 0, 0), (.getfield 133, 8, 10), (.ireturn, 0, 0), (.aload_n 0, 0, 0), (.iconst 1, 0, 1), (.invokevirtual 392, 213, 0), (.ireturn, 0, 0), (.aload_n 0, 0, 0), (.iconst (-1), 0, (-1)), (.invokevirtual 392, 213, 0), (.ireturn, 0, 0), (.iconst (-1), 0, (-1)), (.ireturn, 0, 0)]
def jm_bp214 : List Nat := [0, 1, 2, 5, 6, 60, 61, 64, 65, 66, 69, 70, 71, 74, 75, 76, 79, 80, 81, 84, 85, 86, 89, 90, 91, 94, 97, 98, 101, 102, 103, 104, 107, 108, 109, 110, 113, 114, 115, 116, 119, 120, 121]
/-- J7_fill_53178 -/
def jm_cd215 : List (Instr × Nat × Int) := [(.iconst 0, 0, 0), (.istore_n 2, 0, 0), (.aload_n 0, 0, 0), (.arraylength, 0, 0), (.istore_n 3, 0, 0), (.iload_n 2, 0, 0), (.iload_n 3, 0, 0), (.if_icmp .ge 13, 14, 0), (.aload_n 0, 0, 0), (.iload_n 2, 0, 0), (.iload_n 1, 0, 0), (.iastore, 0, 0), (.iinc 2 1, 0, 1), (.goto (-12), 5, 0), (.return_, 0, 0)]
def jm_bp215 : List Nat := [0, 1, 2, 3, 4, 5, 6, 7, 10, 11, 12, 13, 14, 17, 20]
def jm_cd216_0 : List (Instr × Nat × Int) := [(.nop, 0, 0), (.nop, 0, 0), (.nop, 0, 0), (.nop, 0, 0), (.nop, 0, 0), (.nop, 0, 0), (.nop, 0, 0), (.nop, 0, 0), (.nop, 0, 0), (.nop, 0, 0), (.nop, 0, 0), (.nop, 0, 0), (.nop, 0, 0), (.iload 4, 0, 0), (.aload_n 0, 0, 0), (.arraylength, 0, 0), (.bipush 6, 0, 6), (.isub, 0, 0), (.if_icmp .gt 1364, 875, 0), (.aload_n 0, 0, 0), (.iload 4, 0, 0), (.iaload, 0, 0), (.bipush 31, 0, 31), (.iand, 0, 0), (.tableswitch 1348 0 29 #[136, 209, 234, 271, 308, 357, 394, 450, 518, 567, 580, 636, 661, 698, 754, 822, 847, 903, 940, 965, 1002, 1051, 1088, 1101, 1126, 1187, 1236, 1273, 1298, 1323], 6, 136), (.aload_n 1, 0, 0), (.aload_n 0, 0, 0), (.iload 4, 0, 0), (.iconst 1, 0, 1), (.iadd, 0, 0), (.iaload, 0, 0), (.aload_n 0, 0, 0), (.iload 4, 0, 0), (.iconst 2, 0, 2), (.iadd, 0, 0), (.iaload, 0, 0), (.aload_n 0, 0, 0), (.iload 4, 0, 0), (.iconst 3, 0, 3), (.iadd, 0, 0), (.iaload, 0, 0), (.aload_n 0, 0, 0), (.iload 4, 0, 0), (.iconst 4, 0, 4), (.iadd, 0, 0), (.iaload, 0, 0), (.aload_n 0, 0, 0), (.iload 4, 0, 0), (.iconst 5, 0, 5), (.iadd, 0, 0), (.iaload, 0, 0), (.invokevirtual 35, 83, 0), (.aload_n 2, 0, 0), (.aload_n 0, 0, 0), (.iload 4, 0, 0), (.iconst 1, 0, 1), (.iadd, 0, 0), (.iaload, 0, 0), (.aload_n 0, 0, 0), (.iload 4, 0, 0), (.iconst 2, 0, 2), (.iadd, 0, 0), (.iaload, 0, 0), (.aload_n 0, 0, 0), (.iload 4, 0, 0), (.iconst 3, 0, 3), (.iadd, 0, 0), (.iaload, 0, 0), (.aload_n 0, 0, 0), (.iload 4, 0, 0), (.iconst 4, 0, 4), (.iadd, 0, 0), (.iaload, 0, 0), (.aload_n 0, 0, 0), (.iload 4, 0, 0), (.iconst 5, 0, 5), (.iadd, 0, 0), (.iaload, 0, 0), (.invokevirtual 39, 133, 0), (.if_icmp .eq 1144, 873, 0), (.iconst 0, 0, 0), (.ireturn, 1, 0), (.aload_n 1, 0, 0), (.aload_n 0, 0, 0), (.iload 4, 0, 0), (.iconst 1, 0, 1), (.iadd, 0, 0), (.iaload, 0, 0), (.invokevirtual 40, 84, 0), (.aload_n 2, 0, 0), (.aload_n 0, 0, 0), (.iload 4, 0, 0), (.iconst 1, 0, 1), (.iadd, 0, 0), (.iaload, 0, 0), (.invokevirtual 43, 147, 0), (.if_icmp .eq 1119, 873, 0), (.iconst 0, 0, 0), (.ireturn, 1, 0), (.aload_n 1, 0, 0)]
def jm_cd216_1 : List (Instr × Nat × Int) := [(.aload_n 0, 0, 0), (.iload 4, 0, 0), (.iconst 1, 0, 1), (.iadd, 0, 0), (.iaload, 0, 0), (.aload_n 0, 0, 0), (.iload 4, 0, 0), (.iconst 2, 0, 2), (.iadd, 0, 0), (.iaload, 0, 0), (.invokevirtual 44, 85, 0), (.aload_n 2, 0, 0), (.aload_n 0, 0, 0), (.iload 4, 0, 0), (.iconst 1, 0, 1), (.iadd, 0, 0), (.iaload, 0, 0), (.aload_n 0, 0, 0), (.iload 4, 0, 0), (.iconst 2, 0, 2), (.iadd, 0, 0), (.iaload, 0, 0), (.invokevirtual 47, 148, 0), (.if_icmp .eq 1082, 873, 0), (.iconst 0, 0, 0), (.ireturn, 1, 0), (.aload_n 1, 0, 0), (.aload_n 0, 0, 0), (.iload 4, 0, 0), (.iconst 1, 0, 1), (.iadd, 0, 0), (.iaload, 0, 0), (.aload_n 0, 0, 0), (.iload 4, 0, 0), (.iconst 2, 0, 2), (.iadd, 0, 0), (.iaload, 0, 0), (.invokevirtual 48, 86, 0), (.aload_n 2, 0, 0), (.aload_n 0, 0, 0), (.iload 4, 0, 0), (.iconst 1, 0, 1), (.iadd, 0, 0), (.iaload, 0, 0), (.aload_n 0, 0, 0), (.iload 4, 0, 0), (.iconst 2, 0, 2), (.iadd, 0, 0), (.iaload, 0, 0), (.invokevirtual 51, 149, 0), (.if_icmp .eq 1045, 873, 0), (.iconst 0, 0, 0), (.ireturn, 1, 0), (.aload_n 1, 0, 0), (.aload_n 0, 0, 0), (.iload 4, 0, 0), (.iconst 1, 0, 1), (.iadd, 0, 0), (.iaload, 0, 0), (.aload_n 0, 0, 0), (.iload 4, 0, 0), (.iconst 2, 0, 2), (.iadd, 0, 0), (.iaload, 0, 0), (.aload_n 0, 0, 0), (.iload 4, 0, 0), (.iconst 3, 0, 3), (.iadd, 0, 0), (.iaload, 0, 0), (.invokevirtual 52, 87, 0), (.aload_n 2, 0, 0), (.aload_n 0, 0, 0), (.iload 4, 0, 0), (.iconst 1, 0, 1), (.iadd, 0, 0), (.iaload, 0, 0), (.aload_n 0, 0, 0), (.iload 4, 0, 0), (.iconst 2, 0, 2), (.iadd, 0, 0), (.iaload, 0, 0), (.aload_n 0, 0, 0), (.iload 4, 0, 0), (.iconst 3, 0, 3), (.iadd, 0, 0), (.iaload, 0, 0), (.invokevirtual 56, 150, 0), (.if_icmp .eq 996, 873, 0), (.iconst 0, 0, 0), (.ireturn, 1, 0), (.aload_n 1, 0, 0), (.aload_n 0, 0, 0), (.iload 4, 0, 0), (.iconst 1, 0, 1), (.iadd, 0, 0), (.iaload, 0, 0), (.aload_n 0, 0, 0), (.iload 4, 0, 0), (.iconst 2, 0, 2), (.iadd, 0, 0)]
def jm_cd216_2 : List (Instr × Nat × Int) := [(.iaload, 0, 0), (.invokevirtual 57, 88, 0), (.aload_n 2, 0, 0), (.aload_n 0, 0, 0), (.iload 4, 0, 0), (.iconst 1, 0, 1), (.iadd, 0, 0), (.iaload, 0, 0), (.aload_n 0, 0, 0), (.iload 4, 0, 0), (.iconst 2, 0, 2), (.iadd, 0, 0), (.iaload, 0, 0), (.invokevirtual 60, 151, 0), (.if_icmp .eq 959, 873, 0), (.iconst 0, 0, 0), (.ireturn, 1, 0), (.aload_n 1, 0, 0), (.aload_n 0, 0, 0), (.iload 4, 0, 0), (.iconst 1, 0, 1), (.iadd, 0, 0), (.iaload, 0, 0), (.aload_n 3, 0, 0), (.invokestatic 61, 910, 0), (.istore 5, 0, 0), (.aload_n 2, 0, 0), (.aload_n 0, 0, 0), (.iload 4, 0, 0), (.iconst 1, 0, 1), (.iadd, 0, 0), (.iaload, 0, 0), (.invokevirtual 66, 153, 0), (.istore 6, 0, 0), (.aload_n 2, 0, 0), (.invokevirtual 67, 118, 0), (.iload 5, 0, 0), (.if_icmp .eq 5, 240, 0), (.iconst 0, 0, 0), (.ireturn, 1, 0), (.iload 5, 0, 0), (.ifCond .ne 15, 251, 0), (.aload_n 3, 0, 0), (.iconst 0, 0, 0), (.laload, 0, 0), (.iload 6, 0, 0), (.i2l, 0, 0), (.lcmp, 0, 0), (.ifCond .eq 5, 251, 0), (.iconst 0, 0, 0), (.ireturn, 1, 0), (.goto 901, 873, 0), (.aload_n 1, 0, 0), (.aload_n 0, 0, 0), (.iload 4, 0, 0), (.iconst 1, 0, 1), (.iadd, 0, 0), (.iaload, 0, 0), (.aload_n 0, 0, 0), (.iload 4, 0, 0), (.iconst 2, 0, 2), (.iadd, 0, 0), (.iaload, 0, 0), (.aload_n 3, 0, 0), (.invokestatic 71, 911, 0), (.istore 5, 0, 0), (.aload_n 2, 0, 0), (.aload_n 0, 0, 0), (.iload 4, 0, 0), (.iconst 1, 0, 1), (.iadd, 0, 0), (.iaload, 0, 0), (.aload_n 0, 0, 0), (.iload 4, 0, 0), (.iconst 2, 0, 2), (.iadd, 0, 0), (.iaload, 0, 0), (.invokevirtual 74, 160, 0), (.istore 6, 0, 0), (.aload_n 2, 0, 0), (.invokevirtual 67, 118, 0), (.iload 5, 0, 0), (.if_icmp .eq 5, 285, 0), (.iconst 0, 0, 0), (.ireturn, 1, 0), (.iload 5, 0, 0), (.ifCond .ne 15, 296, 0), (.aload_n 3, 0, 0), (.iconst 0, 0, 0), (.laload, 0, 0), (.iload 6, 0, 0), (.i2l, 0, 0), (.lcmp, 0, 0), (.ifCond .eq 5, 296, 0), (.iconst 0, 0, 0), (.ireturn, 1, 0), (.goto 833, 873, 0), (.aload_n 1, 0, 0), (.aload_n 0, 0, 0), (.iload 4, 0, 0)]
def jm_cd216_3 : List (Instr × Nat × Int) := [(.iconst 1, 0, 1), (.iadd, 0, 0), (.iaload, 0, 0), (.aload_n 0, 0, 0), (.iload 4, 0, 0), (.iconst 2, 0, 2), (.iadd, 0, 0), (.iaload, 0, 0), (.aload_n 0, 0, 0), (.iload 4, 0, 0), (.iconst 3, 0, 3), (.iadd, 0, 0), (.iaload, 0, 0), (.invokevirtual 75, 91, 0), (.aload_n 2, 0, 0), (.aload_n 0, 0, 0), (.iload 4, 0, 0), (.iconst 1, 0, 1), (.iadd, 0, 0), (.iaload, 0, 0), (.aload_n 0, 0, 0), (.iload 4, 0, 0), (.iconst 2, 0, 2), (.iadd, 0, 0), (.iaload, 0, 0), (.aload_n 0, 0, 0), (.iload 4, 0, 0), (.iconst 3, 0, 3), (.iadd, 0, 0), (.iaload, 0, 0), (.invokevirtual 79, 162, 0), (.if_icmp .eq 786, 873, 0), (.iconst 0, 0, 0), (.ireturn, 1, 0), (.aload_n 1, 0, 0), (.invokevirtual 80, 92, 0), (.aload_n 2, 0, 0), (.invokevirtual 83, 163, 0), (.if_icmp .eq 773, 873, 0), (.iconst 0, 0, 0), (.ireturn, 1, 0), (.aload_n 1, 0, 0), (.aload_n 0, 0, 0), (.iload 4, 0, 0), (.iconst 1, 0, 1), (.iadd, 0, 0), (.iaload, 0, 0), (.aload_n 3, 0, 0), (.invokestatic 84, 912, 0), (.istore 5, 0, 0), (.aload_n 2, 0, 0), (.aload_n 0, 0, 0), (.iload 4, 0, 0), (.iconst 1, 0, 1), (.iadd, 0, 0), (.iaload, 0, 0), (.invokevirtual 86, 164, 0), (.istore 6, 0, 0), (.aload_n 2, 0, 0), (.invokevirtual 67, 118, 0), (.iload 5, 0, 0), (.if_icmp .eq 5, 364, 0), (.iconst 0, 0, 0), (.ireturn, 1, 0), (.iload 5, 0, 0), (.ifCond .ne 15, 375, 0), (.aload_n 3, 0, 0), (.iconst 0, 0, 0), (.laload, 0, 0), (.iload 6, 0, 0), (.i2l, 0, 0), (.lcmp, 0, 0), (.ifCond .eq 5, 375, 0), (.iconst 0, 0, 0), (.ireturn, 1, 0), (.goto 715, 873, 0), (.aload_n 1, 0, 0), (.aload_n 0, 0, 0), (.iload 4, 0, 0), (.iconst 1, 0, 1), (.iadd, 0, 0), (.iaload, 0, 0), (.invokevirtual 87, 94, 0), (.aload_n 2, 0, 0), (.aload_n 0, 0, 0), (.iload 4, 0, 0), (.iconst 1, 0, 1), (.iadd, 0, 0), (.iaload, 0, 0), (.invokevirtual 90, 169, 0), (.if_icmp .eq 692, 873, 0), (.iconst 0, 0, 0), (.ireturn, 1, 0), (.aload_n 1, 0, 0), (.aload_n 0, 0, 0), (.iload 4, 0, 0), (.iconst 1, 0, 1), (.iadd, 0, 0), (.iaload, 0, 0), (.aload_n 0, 0, 0)]
def jm_cd216_4 : List (Instr × Nat × Int) := [(.iload 4, 0, 0), (.iconst 2, 0, 2), (.iadd, 0, 0), (.iaload, 0, 0), (.invokevirtual 91, 95, 0), (.aload_n 2, 0, 0), (.aload_n 0, 0, 0), (.iload 4, 0, 0), (.iconst 1, 0, 1), (.iadd, 0, 0), (.iaload, 0, 0), (.aload_n 0, 0, 0), (.iload 4, 0, 0), (.iconst 2, 0, 2), (.iadd, 0, 0), (.iaload, 0, 0), (.invokevirtual 94, 183, 0), (.if_icmp .eq 655, 873, 0), (.iconst 0, 0, 0), (.ireturn, 1, 0), (.aload_n 1, 0, 0), (.aload_n 0, 0, 0), (.iload 4, 0, 0), (.iconst 1, 0, 1), (.iadd, 0, 0), (.iaload, 0, 0), (.aload_n 3, 0, 0), (.invokestatic 95, 913, 0), (.istore 5, 0, 0), (.aload_n 2, 0, 0), (.aload_n 0, 0, 0), (.iload 4, 0, 0), (.iconst 1, 0, 1), (.iadd, 0, 0), (.iaload, 0, 0), (.invokevirtual 97, 184, 0), (.istore 6, 0, 0), (.aload_n 2, 0, 0), (.invokevirtual 67, 118, 0), (.iload 5, 0, 0), (.if_icmp .eq 5, 443, 0), (.iconst 0, 0, 0), (.ireturn, 1, 0), (.iload 5, 0, 0), (.ifCond .ne 15, 454, 0), (.aload_n 3, 0, 0), (.iconst 0, 0, 0), (.laload, 0, 0), (.iload 6, 0, 0), (.i2l, 0, 0), (.lcmp, 0, 0), (.ifCond .eq 5, 454, 0), (.iconst 0, 0, 0), (.ireturn, 1, 0), (.goto 597, 873, 0), (.aload_n 1, 0, 0), (.aload_n 0, 0, 0), (.iload 4, 0, 0), (.iconst 1, 0, 1), (.iadd, 0, 0), (.iaload, 0, 0), (.aload_n 0, 0, 0), (.iload 4, 0, 0), (.iconst 2, 0, 2), (.iadd, 0, 0), (.iaload, 0, 0), (.aload_n 3, 0, 0), (.invokestatic 98, 914, 0), (.istore 5, 0, 0), (.aload_n 2, 0, 0), (.aload_n 0, 0, 0), (.iload 4, 0, 0), (.iconst 1, 0, 1), (.iadd, 0, 0), (.iaload, 0, 0), (.aload_n 0, 0, 0), (.iload 4, 0, 0), (.iconst 2, 0, 2), (.iadd, 0, 0), (.iaload, 0, 0), (.invokevirtual 100, 185, 0), (.istore 6, 0, 0), (.aload_n 2, 0, 0), (.invokevirtual 67, 118, 0), (.iload 5, 0, 0), (.if_icmp .eq 5, 488, 0), (.iconst 0, 0, 0), (.ireturn, 1, 0), (.iload 5, 0, 0), (.ifCond .ne 15, 499, 0), (.aload_n 3, 0, 0), (.iconst 0, 0, 0), (.laload, 0, 0), (.iload 6, 0, 0), (.i2l, 0, 0), (.lcmp, 0, 0), (.ifCond .eq 5, 499, 0), (.iconst 0, 0, 0), (.ireturn, 1, 0), (.goto 529, 873, 0)]
def jm_cd216_5 : List (Instr × Nat × Int) := [(.aload_n 1, 0, 0), (.aload_n 0, 0, 0), (.iload 4, 0, 0), (.iconst 1, 0, 1), (.iadd, 0, 0), (.iaload, 0, 0), (.invokevirtual 101, 98, 0), (.aload_n 2, 0, 0), (.aload_n 0, 0, 0), (.iload 4, 0, 0), (.iconst 1, 0, 1), (.iadd, 0, 0), (.iaload, 0, 0), (.invokevirtual 104, 186, 0), (.if_icmp .eq 506, 873, 0), (.iconst 0, 0, 0), (.ireturn, 1, 0), (.aload_n 1, 0, 0), (.aload_n 0, 0, 0), (.iload 4, 0, 0), (.iconst 1, 0, 1), (.iadd, 0, 0), (.iaload, 0, 0), (.aload_n 3, 0, 0), (.invokestatic 105, 915, 0), (.istore 5, 0, 0), (.aload_n 2, 0, 0), (.aload_n 0, 0, 0), (.iload 4, 0, 0), (.iconst 1, 0, 1), (.iadd, 0, 0), (.iaload, 0, 0), (.invokevirtual 107, 187, 0), (.istore 6, 0, 0), (.aload_n 2, 0, 0), (.invokevirtual 67, 118, 0), (.iload 5, 0, 0), (.if_icmp .eq 5, 540, 0), (.iconst 0, 0, 0), (.ireturn, 1, 0), (.iload 5, 0, 0), (.ifCond .ne 15, 551, 0), (.aload_n 3, 0, 0), (.iconst 0, 0, 0), (.laload, 0, 0), (.iload 6, 0, 0), (.i2l, 0, 0), (.lcmp, 0, 0), (.ifCond .eq 5, 551, 0), (.iconst 0, 0, 0), (.ireturn, 1, 0), (.goto 448, 873, 0), (.aload_n 1, 0, 0), (.aload_n 0, 0, 0), (.iload 4, 0, 0), (.iconst 1, 0, 1), (.iadd, 0, 0), (.iaload, 0, 0), (.aload_n 0, 0, 0), (.iload 4, 0, 0), (.iconst 2, 0, 2), (.iadd, 0, 0), (.iaload, 0, 0), (.invokevirtual 108, 100, 0), (.aload_n 2, 0, 0), (.aload_n 0, 0, 0), (.iload 4, 0, 0), (.iconst 1, 0, 1), (.iadd, 0, 0), (.iaload, 0, 0), (.aload_n 0, 0, 0), (.iload 4, 0, 0), (.iconst 2, 0, 2), (.iadd, 0, 0), (.iaload, 0, 0), (.invokevirtual 111, 193, 0), (.if_icmp .eq 413, 873, 0), (.iconst 0, 0, 0), (.ireturn, 1, 0), (.aload_n 1, 0, 0), (.aload_n 0, 0, 0), (.iload 4, 0, 0), (.iconst 1, 0, 1), (.iadd, 0, 0), (.iaload, 0, 0), (.invokevirtual 112, 101, 0), (.aload_n 2, 0, 0), (.aload_n 0, 0, 0), (.iload 4, 0, 0), (.iconst 1, 0, 1), (.iadd, 0, 0), (.iaload, 0, 0), (.invokevirtual 115, 195, 0), (.if_icmp .eq 388, 873, 0), (.iconst 0, 0, 0), (.ireturn, 1, 0), (.aload_n 1, 0, 0), (.aload_n 0, 0, 0), (.iload 4, 0, 0), (.iconst 1, 0, 1)]
def jm_cd216_6 : List (Instr × Nat × Int) := [(.iadd, 0, 0), (.iaload, 0, 0), (.aload_n 0, 0, 0), (.iload 4, 0, 0), (.iconst 2, 0, 2), (.iadd, 0, 0), (.iaload, 0, 0), (.invokevirtual 116, 102, 0), (.aload_n 2, 0, 0), (.aload_n 0, 0, 0), (.iload 4, 0, 0), (.iconst 1, 0, 1), (.iadd, 0, 0), (.iaload, 0, 0), (.aload_n 0, 0, 0), (.iload 4, 0, 0), (.iconst 2, 0, 2), (.iadd, 0, 0), (.iaload, 0, 0), (.invokevirtual 119, 198, 0), (.if_icmp .eq 351, 873, 0), (.iconst 0, 0, 0), (.ireturn, 1, 0), (.aload_n 1, 0, 0), (.aload_n 0, 0, 0), (.iload 4, 0, 0), (.iconst 1, 0, 1), (.iadd, 0, 0), (.iaload, 0, 0), (.aload_n 0, 0, 0), (.iload 4, 0, 0), (.iconst 2, 0, 2), (.iadd, 0, 0), (.iaload, 0, 0), (.aload_n 0, 0, 0), (.iload 4, 0, 0), (.iconst 3, 0, 3), (.iadd, 0, 0), (.iaload, 0, 0), (.invokevirtual 120, 103, 0), (.aload_n 2, 0, 0), (.aload_n 0, 0, 0), (.iload 4, 0, 0), (.iconst 1, 0, 1), (.iadd, 0, 0), (.iaload, 0, 0), (.aload_n 0, 0, 0), (.iload 4, 0, 0), (.iconst 2, 0, 2), (.iadd, 0, 0), (.iaload, 0, 0), (.aload_n 0, 0, 0), (.iload 4, 0, 0), (.iconst 3, 0, 3), (.iadd, 0, 0), (.iaload, 0, 0), (.invokevirtual 123, 200, 0), (.if_icmp .eq 302, 873, 0), (.iconst 0, 0, 0), (.ireturn, 1, 0), (.aload_n 1, 0, 0), (.aload_n 0, 0, 0), (.iload 4, 0, 0), (.iconst 1, 0, 1), (.iadd, 0, 0), (.iaload, 0, 0), (.aload_n 0, 0, 0), (.iload 4, 0, 0), (.iconst 2, 0, 2), (.iadd, 0, 0), (.iaload, 0, 0), (.invokevirtual 124, 104, 0), (.aload_n 2, 0, 0), (.aload_n 0, 0, 0), (.iload 4, 0, 0), (.iconst 1, 0, 1), (.iadd, 0, 0), (.iaload, 0, 0), (.aload_n 0, 0, 0), (.iload 4, 0, 0), (.iconst 2, 0, 2), (.iadd, 0, 0), (.iaload, 0, 0), (.invokevirtual 127, 201, 0), (.if_icmp .eq 265, 873, 0), (.iconst 0, 0, 0), (.ireturn, 1, 0), (.aload_n 1, 0, 0), (.invokevirtual 128, 105, 0), (.aload_n 2, 0, 0), (.invokevirtual 131, 203, 0), (.if_icmp .eq 252, 873, 0), (.iconst 0, 0, 0), (.ireturn, 1, 0), (.aload_n 1, 0, 0), (.aload_n 0, 0, 0), (.iload 4, 0, 0), (.iconst 1, 0, 1), (.iadd, 0, 0), (.iaload, 0, 0)]
def jm_cd216_7 : List (Instr × Nat × Int) := [(.invokevirtual 132, 106, 0), (.aload_n 2, 0, 0), (.aload_n 0, 0, 0), (.iload 4, 0, 0), (.iconst 1, 0, 1), (.iadd, 0, 0), (.iaload, 0, 0), (.invokevirtual 135, 204, 0), (.if_icmp .eq 227, 873, 0), (.iconst 0, 0, 0), (.ireturn, 1, 0), (.aload_n 1, 0, 0), (.aload_n 0, 0, 0), (.iload 4, 0, 0), (.iconst 1, 0, 1), (.iadd, 0, 0), (.iaload, 0, 0), (.aload_n 0, 0, 0), (.iload 4, 0, 0), (.iconst 2, 0, 2), (.iadd, 0, 0), (.iaload, 0, 0), (.aload_n 0, 0, 0), (.iload 4, 0, 0), (.iconst 3, 0, 3), (.iadd, 0, 0), (.iaload, 0, 0), (.aload_n 0, 0, 0), (.iload 4, 0, 0), (.iconst 4, 0, 4), (.iadd, 0, 0), (.iaload, 0, 0), (.invokevirtual 136, 107, 0), (.aload_n 2, 0, 0), (.aload_n 0, 0, 0), (.iload 4, 0, 0), (.iconst 1, 0, 1), (.iadd, 0, 0), (.iaload, 0, 0), (.aload_n 0, 0, 0), (.iload 4, 0, 0), (.iconst 2, 0, 2), (.iadd, 0, 0), (.iaload, 0, 0), (.aload_n 0, 0, 0), (.iload 4, 0, 0), (.iconst 3, 0, 3), (.iadd, 0, 0), (.iaload, 0, 0), (.aload_n 0, 0, 0), (.iload 4, 0, 0), (.iconst 4, 0, 4), (.iadd, 0, 0), (.iaload, 0, 0), (.invokevirtual 140, 206, 0), (.if_icmp .eq 166, 873, 0), (.iconst 0, 0, 0), (.ireturn, 1, 0), (.aload_n 1, 0, 0), (.aload_n 0, 0, 0), (.iload 4, 0, 0), (.iconst 1, 0, 1), (.iadd, 0, 0), (.iaload, 0, 0), (.aload_n 0, 0, 0), (.iload 4, 0, 0), (.iconst 2, 0, 2), (.iadd, 0, 0), (.iaload, 0, 0), (.aload_n 0, 0, 0), (.iload 4, 0, 0), (.iconst 3, 0, 3), (.iadd, 0, 0), (.iaload, 0, 0), (.invokevirtual 141, 108, 0), (.aload_n 2, 0, 0), (.aload_n 0, 0, 0), (.iload 4, 0, 0), (.iconst 1, 0, 1), (.iadd, 0, 0), (.iaload, 0, 0), (.aload_n 0, 0, 0), (.iload 4, 0, 0), (.iconst 2, 0, 2), (.iadd, 0, 0), (.iaload, 0, 0), (.aload_n 0, 0, 0), (.iload 4, 0, 0), (.iconst 3, 0, 3), (.iadd, 0, 0), (.iaload, 0, 0), (.invokevirtual 144, 207, 0), (.if_icmp .eq 117, 873, 0), (.iconst 0, 0, 0), (.ireturn, 1, 0), (.aload_n 1, 0, 0), (.aload_n 0, 0, 0), (.iload 4, 0, 0), (.iconst 1, 0, 1), (.iadd, 0, 0)]
def jm_cd216_8 : List (Instr × Nat × Int) := [(.iaload, 0, 0), (.aload_n 0, 0, 0), (.iload 4, 0, 0), (.iconst 2, 0, 2), (.iadd, 0, 0), (.iaload, 0, 0), (.invokevirtual 145, 109, 0), (.aload_n 2, 0, 0), (.aload_n 0, 0, 0), (.iload 4, 0, 0), (.iconst 1, 0, 1), (.iadd, 0, 0), (.iaload, 0, 0), (.aload_n 0, 0, 0), (.iload 4, 0, 0), (.iconst 2, 0, 2), (.iadd, 0, 0), (.iaload, 0, 0), (.invokevirtual 148, 208, 0), (.if_icmp .eq 80, 873, 0), (.iconst 0, 0, 0), (.ireturn, 1, 0), (.aload_n 1, 0, 0), (.aload_n 0, 0, 0), (.iload 4, 0, 0), (.iconst 1, 0, 1), (.iadd, 0, 0), (.iaload, 0, 0), (.invokevirtual 149, 110, 0), (.aload_n 2, 0, 0), (.aload_n 0, 0, 0), (.iload 4, 0, 0), (.iconst 1, 0, 1), (.iadd, 0, 0), (.iaload, 0, 0), (.invokevirtual 153, 209, 0), (.if_icmp .eq 55, 873, 0), (.iconst 0, 0, 0), (.ireturn, 1, 0), (.aload_n 1, 0, 0), (.aload_n 0, 0, 0), (.iload 4, 0, 0), (.iconst 1, 0, 1), (.iadd, 0, 0), (.iaload, 0, 0), (.invokevirtual 154, 111, 0), (.aload_n 2, 0, 0), (.aload_n 0, 0, 0), (.iload 4, 0, 0), (.iconst 1, 0, 1), (.iadd, 0, 0), (.iaload, 0, 0), (.invokevirtual 157, 210, 0), (.if_icmp .eq 30, 873, 0), (.iconst 0, 0, 0), (.ireturn, 1, 0), (.aload_n 1, 0, 0), (.aload_n 0, 0, 0), (.iload 4, 0, 0), (.iconst 1, 0, 1), (.iadd, 0, 0), (.iaload, 0, 0), (.invokevirtual 158, 112, 0), (.aload_n 2, 0, 0), (.aload_n 0, 0, 0), (.iload 4, 0, 0), (.iconst 1, 0, 1), (.iadd, 0, 0), (.iaload, 0, 0), (.invokevirtual 161, 214, 0), (.if_icmp .eq 5, 873, 0), (.iconst 0, 0, 0), (.ireturn, 1, 0), (.iinc 4 6, 0, 6), (.goto (-1368), 13, 0), (.iconst 1, 0, 1), (.ireturn, 1, 0)]
/-- L_law -/
def jm_cd216 : List (Instr × Nat × Int) := jm_cd216_0 ++ jm_cd216_1 ++ jm_cd216_2 ++ jm_cd216_3 ++ jm_cd216_4 ++ jm_cd216_5 ++ jm_cd216_6 ++ jm_cd216_7 ++ jm_cd216_8
def jm_bp216 : List Nat := [0, 3, 4, 7, 8, 11, 12, 15, 16, 17, 19, 20, 21, 23, 25, 26, 27, 29, 30, 33, 34, 36, 37, 39, 40, 176, 177, 178, 180, 181, 182, 183, 184, 186, 187, 188, 189, 190, 192, 193, 194, 195, 196, 198, 199, 200, 201, 202, 204, 205, 206, 207, 210, 211, 212, 214, 215, 216, 217, 218, 220, 221, 222, 223, 224, 226, 227, 228, 229, 230, 232, 233, 234, 235, 236, 238, 239, 240, 241, 244, 247, 248, 249, 250, 251, 253, 254, 255, 256, 259, 260, 261, 263, 264, 265, 266, 269, 272, 273, 274, 275, 276, 278, 279, 280, 281, 282, 284, 285, 286, 287, 290, 291, 292, 294, 295, 296, 297, 298, 300, 301, 302, 303, 306, 309, 310, 311, 312, 313, 315, 316, 317, 318, 319, 321, 322, 323, 324, 327, 328, 329, 331, 332, 333, 334, 335, 337, 338, 339, 340, 343, 346, 347, 348, 349, 350, 352, 353, 354, 355, 356, 358, 359, 360, 361, 362, 364, 365, 366, 367, 370, 371, 372, 374, 375, 376, 377, 378, 380, 381, 382, 383, 384, 386, 387, 388, 389, 392, 395, 396, 397, 398, 399, 401, 402, 403, 404, 405, 407, 408, 409, 410, 413, 414, 415, 417, 418, 419, 420, 421, 423, 424, 425, 426, 429, 432, 433, 434, 435, 436, 438, 439, 440, 441, 442, 445, 447, 448, 449, 451, 452, 453, 454, 457, 459, 460, 463, 465, 468, 469, 470, 472, 475, 476, 477, 478, 480, 481, 482, 485, 486, 487, 490, 491, 492, 494, 495, 496, 497, 498, 500, 501, 502, 503, 504, 507, 509, 510, 511, 513, 514, 515, 516, 517, 519, 520, 521, 522, 525, 527, 528, 531, 533, 536, 537, 538, 540, 543, 544, 545, 546, 548, 549, 550, 553, 554, 555, 558, 559, 560, 562, 563, 564, 565, 566, 568, 569, 570, 571, 572, 574, 575, 576, 577, 580, 581, 582, 584, 585, 586, 587, 588, 590, 591, 592, 593, 594, 596, 597, 598, 599, 602, 605, 606, 607, 608, 611, 612, 615, 618, 619, 620, 621, 622, 624, 625, 626, 627, 628, 631, 633, 634, 635, 637, 638, 639, 640, 643, 645, 646, 649, 651, 654, 655, 656, 658, 661, 662, 663, 664, 666, 667, 668, 671, 672, 673, 676, 677, 678, 680, 681, 682, 683, 686, 687, 688, 690, 691, 692, 693, 696, 699, 700, 701, 702, 703, 705, 706, 707, 708, 709, 711, 712, 713, 714, 717, 718, 719, 721, 722, 723, 724, 725, 727, 728, 729, 730, 733, 736, 737, 738, 739, 740, 742, 743, 744, 745, 746, 749, 751, 752, 753, 755, 756, 757, 758, 761, 763, 764, 767, 769, 772, 773, 774, 776, 779, 780, 781, 782, 784, 785, 786, 789, 790, 791, 794, 795, 796, 798, 799, 800, 801, 802, 804, 805, 806, 807, 808, 811, 813, 814, 815, 817, 818, 819, 820, 821, 823, 824, 825, 826, 829, 831, 832, 835, 837, 840, 841, 842, 844, 847, 848, 849, 850, 852, 853, 854, 857, 858, 859, 862, 863, 864, 866, 867, 868, 869, 872, 873, 874, 876, 877, 878, 879, 882, 885, 886, 887, 888, 889, 891, 892, 893, 894, 895, 898, 900, 901, 902, 904, 905, 906, 907, 910, 912, 913, 916, 918, 921, 922, 923, 925, 928, 929, 930, 931, 933, 934, 935, 938, 939, 940, 943, 944, 945, 947, 948, 949, 950, 951, 953, 954, 955, 956, 959, 960, 961, 963, 964, 965, 966, 967, 969, 970, 971, 972, 975, 978, 979, 980, 981, 982, 984, 985, 986, 987, 990, 991, 992, 994, 995, 996, 997, 1000, 1003, 1004, 1005, 1006, 1007, 1009, 1010, 1011, 1012, 1013, 1015, 1016, 1017, 1018, 1021, 1022, 1023, 1025, 1026, 1027, 1028, 1029, 1031, 1032, 1033, 1034, 1037, 1040, 1041, 1042, 1043, 1044, 1046, 1047, 1048, 1049, 1050, 1052, 1053, 1054, 1055, 1056, 1058, 1059, 1060, 1061, 1064, 1065, 1066, 1068, 1069, 1070, 1071, 1072, 1074, 1075, 1076, 1077, 1078, 1080, 1081, 1082, 1083, 1086, 1089, 1090, 1091, 1092, 1093, 1095, 1096, 1097, 1098, 1099, 1101, 1102, 1103, 1104, 1107, 1108, 1109, 1111, 1112, 1113, 1114, 1115, 1117, 1118, 1119, 1120, 1123, 1126, 1127, 1128, 1129, 1132, 1133, 1136, 1139, 1140, 1141, 1142, 1143, 1145, 1146, 1147, 1148, 1151, 1152, 1153, 1155, 1156, 1157, 1158, 1161, 1164, 1165, 1166, 1167, 1168, 1170, 1171, 1172, 1173, 1174, 1176, 1177, 1178, 1179, 1180, 1182, 1183, 1184, 1185, 1186, 1188, 1189, 1190, 1191, 1194, 1195, 1196, 1198, 1199, 1200, 1201, 1202, 1204, 1205, 1206, 1207, 1208, 1210, 1211, 1212, 1213, 1214, 1216, 1217, 1218, 1219, 1222, 1225, 1226, 1227, 1228, 1229, 1231, 1232, 1233, 1234, 1235, 1237, 1238, 1239, 1240, 1241, 1243, 1244, 1245, 1246, 1249, 1250, 1251, 1253, 1254, 1255, 1256, 1257, 1259, 1260, 1261, 1262, 1263, 1265, 1266, 1267, 1268, 1271, 1274, 1275, 1276, 1277, 1278, 1280, 1281, 1282, 1283, 1284, 1286, 1287, 1288, 1289, 1292, 1293, 1294, 1296, 1297, 1298, 1299, 1300, 1302, 1303, 1304, 1305, 1308, 1311, 1312, 1313, 1314, 1315, 1317, 1318, 1319, 1320, 1323, 1324, 1325, 1327, 1328, 1329, 1330, 1333, 1336, 1337, 1338, 1339, 1340, 1342, 1343, 1344, 1345, 1348, 1349, 1350, 1352, 1353, 1354, 1355, 1358, 1361, 1362, 1363, 1364, 1365, 1367, 1368, 1369, 1370, 1373, 1374, 1375, 1377, 1378, 1379, 1380, 1383, 1386, 1387, 1388, 1391, 1394, 1395]
def jm_cdT : List (List (Instr × Nat × Int)) := [jm_cd0, jm_cd1, jm_cd2, jm_cd3, jm_cd4, jm_cd5, jm_cd6, jm_cd7, jm_cd8, jm_cd9, jm_cd10, jm_cd11, jm_cd12, jm_cd13, jm_cd14, jm_cd15, jm_cd16, jm_cd17, jm_cd18, jm_cd19, jm_cd20, jm_cd21, jm_cd22, jm_cd23, jm_cd24, jm_cd25, jm_cd26, jm_cd27, jm_cd28, jm_cd29, jm_cd30, jm_cd31, jm_cd32, jm_cd33, jm_cd34, jm_cd35, jm_cd36, jm_cd37, jm_cd38, jm_cd39, jm_cd40, jm_cd41, jm_cd42, jm_cd43, jm_cd44, jm_cd45, jm_cd46, jm_cd47, jm_cd48, jm_cd49, jm_cd50, jm_cd51, jm_cd52, jm_cd53, jm_cd54, jm_cd55, jm_cd56, jm_cd57, jm_cd58, jm_cd59, jm_cd60, jm_cd61, jm_cd62, jm_cd63, jm_cd64, jm_cd65, jm_cd66, jm_cd67, jm_cd68, jm_cd69, jm_cd70, jm_cd71, jm_cd72, jm_cd73, jm_cd74, jm_cd75, jm_cd76, jm_cd77, jm_cd78, jm_cd79, jm_cd80, jm_cd81, jm_cd82, jm_cd83, jm_cd84, jm_cd85, jm_cd86, jm_cd87, jm_cd88, jm_cd89, jm_cd90, jm_cd91, jm_cd92, jm_cd93, jm_cd94, jm_cd95, jm_cd96, jm_cd97, jm_cd98, jm_cd99, jm_cd100, jm_cd101, jm_cd102, jm_cd103, jm_cd104, jm_cd105, jm_cd106, jm_cd107, jm_cd108, jm_cd109, jm_cd110, jm_cd111, jm_cd112, jm_cd113, jm_cd114, jm_cd115, jm_cd116, jm_cd117, jm_cd118, jm_cd119, jm_cd120, jm_cd121, jm_cd122, jm_cd123, jm_cd124, jm_cd125, jm_cd126, jm_cd127, jm_cd128, jm_cd129, jm_cd130, jm_cd131, jm_cd132, jm_cd133, jm_cd134, jm_cd135, jm_cd136, jm_cd137, jm_cd138, jm_cd139, jm_cd140, jm_cd141, jm_cd142, jm_cd143, jm_cd144, jm_cd145, jm_cd146, jm_cd147, jm_cd148, jm_cd149, jm_cd150, jm_cd151, jm_cd152, jm_cd153, jm_cd154, jm_cd155, jm_cd156, jm_cd157, jm_cd158, jm_cd159, jm_cd160, jm_cd161, jm_cd162, jm_cd163, jm_cd164, jm_cd165, jm_cd166, jm_cd167, jm_cd168, jm_cd169, jm_cd170, jm_cd171, jm_cd172, jm_cd173, jm_cd174, jm_cd175, jm_cd176, jm_cd177, jm_cd178, jm_cd179, jm_cd180, jm_cd181, jm_cd182, jm_cd183, jm_cd184, jm_cd185, jm_cd186, jm_cd187, jm_cd188, jm_cd189, jm_cd190, jm_cd191, jm_cd192, jm_cd193, jm_cd194, jm_cd195, jm_cd196, jm_cd197, jm_cd198, jm_cd199, jm_cd200, jm_cd201, jm_cd202, jm_cd203, jm_cd204, jm_cd205, jm_cd206, jm_cd207, jm_cd208, jm_cd209, jm_cd210, jm_cd211, jm_cd212, jm_cd213, jm_cd214, jm_cd215, jm_cd216]
def jm_bpT : List (List Nat) := [jm_bp0, jm_bp1, jm_bp2, jm_bp3, jm_bp4, jm_bp5, jm_bp6, jm_bp7, jm_bp8, jm_bp9, jm_bp10, jm_bp11, jm_bp12, jm_bp13, jm_bp14, jm_bp15, jm_bp16, jm_bp17, jm_bp18, jm_bp19, jm_bp20, jm_bp21, jm_bp22, jm_bp23, jm_bp24, jm_bp25, jm_bp26, jm_bp27, jm_bp28, jm_bp29, jm_bp30, jm_bp31, jm_bp32, jm_bp33, jm_bp34, jm_bp35, jm_bp36, jm_bp37, jm_bp38, jm_bp39, jm_bp40, jm_bp41, jm_bp42, jm_bp43, jm_bp44, jm_bp45, jm_bp46, jm_bp47, jm_bp48, jm_bp49, jm_bp50, jm_bp51, jm_bp52, jm_bp53, jm_bp54, jm_bp55, jm_bp56, jm_bp57, jm_bp58, jm_bp59, jm_bp60, jm_bp61, jm_bp62, jm_bp63, jm_bp64, jm_bp65, jm_bp66, jm_bp67, jm_bp68, jm_bp69, jm_bp70, jm_bp71, jm_bp72, jm_bp73, jm_bp74, jm_bp75, jm_bp76, jm_bp77, jm_bp78, jm_bp79, jm_bp80, jm_bp81, jm_bp82, jm_bp83, jm_bp84, jm_bp85, jm_bp86, jm_bp87, jm_bp88, jm_bp89, jm_bp90, jm_bp91, jm_bp92, jm_bp93, jm_bp94, jm_bp95, jm_bp96, jm_bp97, jm_bp98, jm_bp99, jm_bp100, jm_bp101, jm_bp102, jm_bp103, jm_bp104, jm_bp105, jm_bp106, jm_bp107, jm_bp108, jm_bp109, jm_bp110, jm_bp111, jm_bp112, jm_bp113, jm_bp114, jm_bp115, jm_bp116, jm_bp117, jm_bp118, jm_bp119, jm_bp120, jm_bp121, jm_bp122, jm_bp123, jm_bp124, jm_bp125, jm_bp126, jm_bp127, jm_bp128, jm_bp129, jm_bp130, jm_bp131, jm_bp132, jm_bp133, jm_bp134, jm_bp135, jm_bp136, jm_bp137, jm_bp138, jm_bp139, jm_bp140, jm_bp141, jm_bp142, jm_bp143, jm_bp144, jm_bp145, jm_bp146, jm_bp147, jm_bp148, jm_bp149, jm_bp150, jm_bp151, jm_bp152, jm_bp153, jm_bp154, jm_bp155, jm_bp156, jm_bp157, jm_bp158, jm_bp159, jm_bp160, jm_bp161, jm_bp162, jm_bp163, jm_bp164, jm_bp165, jm_bp166, jm_bp167, jm_bp168, jm_bp169, jm_bp170, jm_bp171, jm_bp172, jm_bp173, jm_bp174, jm_bp175, jm_bp176, jm_bp177, jm_bp178, jm_bp179, jm_bp180, jm_bp181, jm_bp182, jm_bp183, jm_bp184, jm_bp185, jm_bp186, jm_bp187, jm_bp188, jm_bp189, jm_bp190, jm_bp191, jm_bp192, jm_bp193, jm_bp194, jm_bp195, jm_bp196, jm_bp197, jm_bp198, jm_bp199, jm_bp200, jm_bp201, jm_bp202, jm_bp203, jm_bp204, jm_bp205, jm_bp206, jm_bp207, jm_bp208, jm_bp209, jm_bp210, jm_bp211, jm_bp212, jm_bp213, jm_bp214, jm_bp215, jm_bp216]
def jm_rc (m k : Nat) : Option (Instr × Nat × Int) := match jm_nth jm_cdT m with
  | some l => jm_nth l k
  | none => none
def jm_bp (m k : Nat) : Nat := match jm_nth jm_bpT m with
  | some l => (jm_nth l k).getD 0
  | none => 0
/-- of a method: its class, whether it has an object of its own (1), how many arguments (with that), its locals, frames and words below it, the kind of its answer -/
def jm_miT : List (Nat × Nat × Nat × Nat × Nat × Nat × Nat) := [(0, 1, 2, 4, 2, 51, 1), (0, 1, 3, 8, 1, 24, 1), (0, 1, 5, 5, 0, 0, 1), (0, 1, 2, 6, 2, 44, 0), (0, 1, 3, 3, 1, 22, 1), (1, 1, 4, 6, 2, 49, 1), (1, 1, 4, 6, 1, 23, 0), (1, 1, 2, 7, 1, 23, 1), (1, 1, 3, 3, 0, 0, 1), (1, 1, 4, 4, 0, 0, 1), (2, 1, 2, 2, 4, 92, 0), (2, 1, 1, 3, 3, 70, 0), (2, 1, 3, 7, 2, 44, 0), (2, 1, 2, 2, 0, 0, 1), (2, 1, 2, 2, 0, 0, 1), (2, 1, 2, 2, 0, 0, 1), (2, 1, 7, 7, 0, 0, 0), (2, 1, 1, 5, 1, 22, 0), (2, 1, 3, 3, 0, 0, 0), (2, 1, 2, 2, 0, 0, 1), (2, 1, 2, 2, 0, 0, 1), (2, 1, 2, 2, 0, 0, 1), (2, 1, 2, 2, 0, 0, 1), (2, 1, 2, 3, 0, 0, 1), (2, 1, 3, 3, 0, 0, 1), (2, 1, 3, 3, 0, 0, 1), (2, 1, 3, 3, 0, 0, 1), (2, 1, 3, 3, 0, 0, 1), (2, 1, 3, 5, 1, 22, 1), (2, 1, 1, 3, 0, 0, 1), (2, 1, 2, 4, 1, 48, 1), (3, 1, 4, 6, 2, 51, 0), (3, 1, 3, 9, 1, 23, 1), (3, 1, 3, 3, 0, 0, 1), (3, 1, 2, 4, 1, 22, 1), (3, 1, 3, 6, 1, 22, 1), (3, 1, 2, 6, 1, 22, 1), (3, 1, 2, 5, 1, 25, 1), (3, 1, 2, 2, 0, 0, 1), (3, 1, 3, 6, 0, 0, 1), (4, 1, 3, 5, 3, 69, 0), (4, 1, 2, 5, 2, 45, 1), (4, 1, 4, 4, 1, 22, 1), (4, 1, 3, 3, 0, 0, 1), (4, 1, 2, 2, 0, 0, 1), (4, 1, 2, 2, 0, 0, 1), (4, 1, 5, 8, 2, 46, 1), (4, 1, 3, 5, 1, 22, 1), (5, 1, 2, 2, 0, 0, 1), (5, 1, 2, 2, 0, 0, 1), (5, 1, 4, 5, 2, 49, 1), (5, 1, 3, 7, 1, 23, 1), (5, 1, 4, 4, 0, 0, 0), (6, 1, 1, 1, 0, 0, 0), (6, 1, 5, 5, 4, 100, 1), (6, 1, 6, 8, 4, 100, 1), (6, 1, 3, 6, 4, 100, 1), (6, 1, 6, 8, 1, 23, 0), (6, 1, 4, 6, 3, 75, 1), (6, 1, 4, 8, 1, 48, 1), (6, 1, 4, 4, 0, 0, 1), (6, 1, 3, 6, 0, 0, 1), (7, 1, 2, 3, 0, 0, 0), (7, 1, 3, 6, 7, 206, 1), (7, 1, 2, 3, 6, 184, 1), (7, 1, 2, 2, 6, 184, 1), (7, 1, 2, 5, 3, 71, 1), (7, 1, 6, 8, 2, 44, 0), (7, 1, 4, 7, 3, 64, 1), (7, 1, 3, 3, 2, 42, 1), (7, 1, 2, 2, 0, 0, 1), (7, 1, 1, 1, 1, 22, 0), (7, 1, 1, 3, 0, 0, 1), (7, 1, 2, 2, 0, 0, 1), (7, 1, 2, 3, 5, 162, 1), (8, 1, 3, 3, 1, 23, 0), (8, 1, 2, 2, 1, 48, 0), (8, 1, 4, 4, 0, 0, 0), (8, 1, 3, 4, 1, 23, 1), (8, 1, 3, 4, 0, 0, 1), (8, 1, 4, 4, 1, 21, 1), (8, 1, 2, 2, 0, 0, 1), (8, 1, 2, 2, 0, 0, 1), (9, 1, 6, 6, 1, 22, 1), (9, 1, 2, 3, 8, 231, 1), (9, 1, 3, 3, 5, 113, 1), (9, 1, 3, 4, 4, 92, 1), (9, 1, 4, 4, 1, 23, 1), (9, 1, 3, 3, 1, 21, 1), (9, 1, 2, 2, 6, 90, 1), (9, 1, 3, 3, 6, 93, 1), (9, 1, 4, 4, 4, 93, 1), (9, 1, 1, 1, 3, 74, 1), (9, 1, 2, 2, 6, 90, 1), (9, 1, 2, 2, 3, 74, 1), (9, 1, 3, 3, 5, 124, 1), (9, 1, 2, 2, 6, 90, 1), (9, 1, 3, 3, 6, 90, 1), (9, 1, 2, 2, 0, 0, 1), (9, 1, 2, 2, 6, 90, 1), (9, 1, 3, 4, 3, 76, 1), (9, 1, 2, 2, 3, 76, 1), (9, 1, 3, 3, 3, 74, 1), (9, 1, 4, 4, 5, 127, 1), (9, 1, 3, 3, 1, 23, 1), (9, 1, 1, 1, 5, 125, 1), (9, 1, 2, 3, 1, 21, 1), (9, 1, 5, 7, 6, 152, 1), (9, 1, 4, 8, 6, 152, 1), (9, 1, 3, 7, 5, 124, 1), (9, 1, 2, 2, 2, 69, 1), (9, 1, 2, 2, 5, 113, 1), (9, 1, 2, 2, 2, 71, 1), (9, 1, 3, 3, 1, 21, 1), (9, 1, 2, 2, 0, 0, 1), (9, 0, 1, 1, 0, 0, 1), (9, 0, 1, 1, 0, 0, 1), (9, 1, 6, 9, 5, 124, 1), (10, 1, 1, 1, 0, 0, 1), (10, 0, 3, 3, 0, 0, 1), (10, 1, 3, 4, 0, 0, 0), (10, 1, 1, 1, 0, 0, 1), (10, 1, 2, 2, 1, 22, 1), (10, 1, 2, 2, 2, 43, 1), (10, 1, 2, 3, 3, 64, 1), (10, 1, 2, 2, 0, 0, 1), (10, 1, 2, 3, 0, 0, 1), (10, 1, 4, 6, 0, 0, 1), (10, 1, 2, 5, 1, 25, 1), (10, 1, 2, 5, 1, 25, 1), (10, 1, 2, 2, 3, 64, 1), (10, 1, 1, 3, 4, 85, 1), (10, 1, 1, 3, 4, 86, 1), (10, 1, 6, 6, 1, 22, 1), (10, 1, 2, 3, 0, 0, 0), (10, 1, 2, 2, 0, 0, 1), (10, 0, 1, 1, 1, 22, 1), (10, 0, 1, 1, 1, 22, 1), (10, 1, 1, 3, 2, 42, 0), (10, 1, 1, 2, 3, 64, 0), (10, 1, 2, 3, 0, 0, 1), (10, 1, 2, 2, 0, 0, 1), (10, 1, 3, 3, 4, 85, 1), (10, 1, 1, 1, 1, 48, 1), (10, 1, 4, 5, 5, 107, 1), (10, 1, 1, 4, 6, 131, 1), (10, 1, 2, 6, 4, 86, 0), (10, 1, 2, 4, 7, 154, 1), (10, 1, 3, 3, 5, 108, 1), (10, 1, 3, 4, 3, 64, 1), (10, 1, 4, 4, 4, 86, 1), (10, 1, 3, 3, 4, 86, 1), (10, 1, 3, 3, 4, 86, 1), (10, 1, 2, 4, 5, 108, 1), (10, 1, 2, 3, 2, 49, 1), (10, 1, 2, 3, 2, 49, 1), (10, 1, 4, 4, 0, 0, 1), (10, 1, 4, 4, 1, 23, 1), (10, 1, 3, 10, 4, 86, 1), (10, 1, 1, 1, 5, 115, 1), (10, 1, 3, 4, 6, 135, 1), (10, 1, 2, 7, 4, 86, 1), (10, 1, 4, 8, 6, 135, 1), (10, 1, 1, 1, 6, 135, 1), (10, 1, 2, 2, 6, 135, 1), (10, 1, 5, 5, 0, 0, 1), (10, 1, 2, 3, 2, 49, 1), (10, 1, 1, 2, 4, 86, 1), (10, 1, 1, 6, 5, 107, 1), (10, 1, 2, 2, 6, 132, 1), (10, 1, 1, 2, 6, 135, 1), (10, 1, 3, 3, 0, 0, 1), (10, 1, 3, 6, 0, 0, 1), (10, 1, 3, 3, 1, 22, 1), (10, 1, 3, 3, 0, 0, 1), (10, 1, 3, 8, 2, 44, 1), (10, 1, 1, 4, 1, 22, 1), (10, 1, 2, 3, 1, 21, 0), (10, 1, 4, 6, 3, 71, 1), (10, 1, 3, 4, 0, 0, 0), (10, 1, 1, 2, 0, 0, 0), (10, 1, 3, 3, 2, 43, 1), (10, 1, 3, 3, 7, 156, 1), (10, 1, 3, 4, 8, 178, 1), (10, 1, 2, 2, 4, 86, 1), (10, 1, 3, 3, 4, 86, 1), (10, 1, 2, 2, 1, 22, 1), (10, 1, 2, 4, 4, 86, 1), (10, 1, 3, 3, 0, 0, 1), (10, 1, 3, 6, 4, 86, 0), (10, 1, 2, 3, 5, 111, 0), (10, 1, 2, 2, 4, 86, 1), (10, 1, 2, 2, 1, 22, 1), (10, 1, 3, 6, 6, 133, 1), (10, 1, 3, 3, 5, 108, 1), (10, 1, 2, 8, 6, 133, 1), (10, 1, 2, 2, 0, 0, 1), (10, 1, 2, 4, 0, 0, 1), (10, 1, 3, 5, 6, 135, 1), (10, 1, 3, 5, 5, 108, 1), (10, 1, 4, 6, 7, 156, 1), (10, 1, 3, 4, 2, 43, 1), (10, 1, 2, 5, 3, 71, 1), (10, 1, 1, 3, 7, 156, 1), (10, 1, 2, 2, 2, 43, 1), (10, 1, 6, 9, 8, 178, 1), (10, 1, 5, 5, 9, 206, 1), (10, 1, 4, 8, 9, 206, 1), (10, 1, 3, 7, 8, 178, 1), (10, 1, 2, 4, 1, 22, 1), (10, 1, 2, 4, 1, 22, 1), (10, 1, 1, 3, 4, 86, 1), (10, 1, 1, 3, 1, 20, 1), (10, 1, 2, 4, 1, 20, 1), (10, 1, 2, 2, 5, 108, 1), (67, 0, 2, 4, 0, 0, 0), (50, 0, 1, 7, 10, 253, 1)]
def jm_mi (m : Nat) : Nat × Nat × Nat × Nat × Nat × Nat × Nat := match jm_nth jm_miT m with
  | some x => x
  | none => (99, 0, 99, 0, 0, 0, 0)
end
section
/-! WHAT THE TABLES SAY of classes, fields, methods, links, by their places (written by a program) -/
def jm_cn : Nat → String
  | 0 => RX0
  | 1 => RX1
  | 2 => RX2
  | 3 => RX3
  | 4 => RX4
  | 5 => RX5
  | 6 => RX6
  | 7 => RX7
  | 8 => RX8
  | 9 => RX9
  | 10 => RX10
  | 50 => RL
  | 67 => RJ7
  | _ => ""
def jm_tt : Nat → u_T
  | 0 => TX0
  | 1 => TX1
  | 2 => TX2
  | 3 => TX3
  | 4 => TX4
  | 5 => TX5
  | 6 => TX6
  | 7 => TX7
  | 8 => TX8
  | 9 => TX9
  | _ => TX10
def jm_ty : Nat → Nat → FieldType
  | 0 => tyX0
  | 1 => tyX1
  | 2 => tyX2
  | 3 => tyX3
  | 4 => tyX4
  | 5 => tyX5
  | 6 => tyX6
  | 7 => tyX7
  | 8 => tyX8
  | 9 => tyX9
  | _ => tyX10
def jm_nf : Nat → Nat
  | 0 => 6
  | 1 => 2
  | 2 => 17
  | 3 => 3
  | 4 => 1
  | 5 => 6
  | 6 => 10
  | 7 => 8
  | 8 => 6
  | 9 => 11
  | 10 => 52
  | _ => 0
def jm_yT : List MethodName := [yX0_solve, yX0_relaxAll, yX0_relax, yX0_traceRing, yX0_faceBefore, yX1_least, yX1_markLeft, yX1_relaxAll, yX1_partOf, yX1_relax, yX2_become, yX2_rebuild, yX2_placeEdges, yX2_lowerFace, yX2_westFace, yX2_eastFace, yX2_place, yX2_walkRim, yX2_addToRim, yX2_hasNode, yX2_hasEdge, yX2_hasFace, yX2_hasCell, yX2_rimIndex, yX2_endBeyond, yX2_faceBeyond, yX2_costFrom, yX2_bounds, yX2_isAtFace, yX2_allBorne, yX2_allSupplied, yX3_divide, yX3_spread, yX3_parts, yX3_size, yX3_member, yX3_cost, yX3_pieces, yX3_touch, yX3_join, yX4_aim, yX4_relaxAll, yX4_relax, yX4_keyBy, yX4_costFrom, yX4_hopsFrom, yX4_crossing, yX4_firstEdge, yX5_nodeAt, yX5_edgeTo, yX5_find, yX5_advance, yX5_enter, yX6_forget, yX6_runBetween, yX6_runFromFace, yX6_runSupplies, yX6_begin, yX6_pour, yX6_push, yX6_spare, yX6_gain, yX7_put, yX7_read, yX7_readHead, yX7_readLine, yX7_readAll, yX7_loadAt, yX7_readOne, yX7_readWhole, yX7_fail, yX7_next, yX7_scanWhole, yX7_isLetter, yX7_isWord, yX8_reset, yX8_take, yX8_load, yX8_lean, yX8_stock, yX8_fits, yX8_lastX, yX8_lastY, yX9_feed, yX9_text, yX9_grid, yX9_slant, yX9_bears, yX9_edge, yX9_around, yX9_distance, yX9_route, yX9_circulates, yX9_potential, yX9_ring, yX9_flow, yX9_on, yX9_left, yX9_ways, yX9_excess, yX9_cut, yX9_rings, yX9_shared, yX9_gather, yX9_supply, yX9_meet, yX9_gave, yX9_were, yX9_counts, yX9_worst, yX9_image, yX9_back, yX9_count, yX9_isPair, yX9_hasCut, yX9_isSide, yX9_isBearable, yX9_valueWith, yX10_thrown, yX10_within, yX10_begins, yX10_nodes, yX10_isNode, yX10_isCell, yX10_isEdge, yX10_fromOf, yX10_toOf, yX10_faceAt, yX10_leftOf, yX10_rightOf, yX10_isFace, yX10_faces, yX10_edges, yX10_feed, yX10_puts, yX10_byteAt, yX10_isLetter, yX10_isDigit, yX10_number, yX10_go, yX10_isWord, yX10_wrong, yX10_number_, yX10_whichHere, yX10_keeps, yX10_line, yX10_bears, yX10_text, yX10_grid, yX10_slant, yX10_bears_, yX10_edge, yX10_isAround, yX10_around, yX10_leftNow, yX10_rightNow, yX10_isLess, yX10_relaxes, yX10_laysCosts, yX10_canCirculate, yX10_distance, yX10_nextEdge, yX10_route, yX10_circulates, yX10_potential, yX10_betters, yX10_ahead, yX10_firstBetter, yX10_laysRing, yX10_ring, yX10_circulates0, yX10_leftOn, yX10_edgeAt, yX10_otherEnd, yX10_isEnd, yX10_search, yX10_leastOnWay, yX10_pushes, yX10_flowsMore, yX10_isTold, yX10_givesNothing, yX10_areTwo, yX10_valueOf, yX10_flow, yX10_on, yX10_left, yX10_ways, yX10_excess, yX10_leftTold, yX10_laysSet, yX10_laysSide, yX10_isCut, yX10_canCut, yX10_cut, yX10_areBeside, yX10_rings, yX10_isOutside, yX10_edgeClockwise, yX10_shared, yX10_isAt, yX10_gather, yX10_supply, yX10_meets, yX10_meet, yX10_gave, yX10_valueBy, yX10_were, yX10_counts, yX10_worst, yX10_image, yX10_back, yX10_allBears, yX10_aslant, yX10_supplied, yX10_count, yJ7_fill_53178, yL_law]
def jm_y (m : Nat) : MethodName := (jm_nth jm_yT m).getD yX0_solve
def jm_bT : List ByteArray := [cX0_solve, cX0_relaxAll, cX0_relax, cX0_traceRing, cX0_faceBefore, cX1_least, cX1_markLeft, cX1_relaxAll, cX1_partOf, cX1_relax, cX2_become, cX2_rebuild, cX2_placeEdges, cX2_lowerFace, cX2_westFace, cX2_eastFace, cX2_place, cX2_walkRim, cX2_addToRim, cX2_hasNode, cX2_hasEdge, cX2_hasFace, cX2_hasCell, cX2_rimIndex, cX2_endBeyond, cX2_faceBeyond, cX2_costFrom, cX2_bounds, cX2_isAtFace, cX2_allBorne, cX2_allSupplied, cX3_divide, cX3_spread, cX3_parts, cX3_size, cX3_member, cX3_cost, cX3_pieces, cX3_touch, cX3_join, cX4_aim, cX4_relaxAll, cX4_relax, cX4_keyBy, cX4_costFrom, cX4_hopsFrom, cX4_crossing, cX4_firstEdge, cX5_nodeAt, cX5_edgeTo, cX5_find, cX5_advance, cX5_enter, cX6_forget, cX6_runBetween, cX6_runFromFace, cX6_runSupplies, cX6_begin, cX6_pour, cX6_push, cX6_spare, cX6_gain, cX7_put, cX7_read, cX7_readHead, cX7_readLine, cX7_readAll, cX7_loadAt, cX7_readOne, cX7_readWhole, cX7_fail, cX7_next, cX7_scanWhole, cX7_isLetter, cX7_isWord, cX8_reset, cX8_take, cX8_load, cX8_lean, cX8_stock, cX8_fits, cX8_lastX, cX8_lastY, cX9_feed, cX9_text, cX9_grid, cX9_slant, cX9_bears, cX9_edge, cX9_around, cX9_distance, cX9_route, cX9_circulates, cX9_potential, cX9_ring, cX9_flow, cX9_on, cX9_left, cX9_ways, cX9_excess, cX9_cut, cX9_rings, cX9_shared, cX9_gather, cX9_supply, cX9_meet, cX9_gave, cX9_were, cX9_counts, cX9_worst, cX9_image, cX9_back, cX9_count, cX9_isPair, cX9_hasCut, cX9_isSide, cX9_isBearable, cX9_valueWith, cX10_thrown, cX10_within, cX10_begins, cX10_nodes, cX10_isNode, cX10_isCell, cX10_isEdge, cX10_fromOf, cX10_toOf, cX10_faceAt, cX10_leftOf, cX10_rightOf, cX10_isFace, cX10_faces, cX10_edges, cX10_feed, cX10_puts, cX10_byteAt, cX10_isLetter, cX10_isDigit, cX10_number, cX10_go, cX10_isWord, cX10_wrong, cX10_number_, cX10_whichHere, cX10_keeps, cX10_line, cX10_bears, cX10_text, cX10_grid, cX10_slant, cX10_bears_, cX10_edge, cX10_isAround, cX10_around, cX10_leftNow, cX10_rightNow, cX10_isLess, cX10_relaxes, cX10_laysCosts, cX10_canCirculate, cX10_distance, cX10_nextEdge, cX10_route, cX10_circulates, cX10_potential, cX10_betters, cX10_ahead, cX10_firstBetter, cX10_laysRing, cX10_ring, cX10_circulates0, cX10_leftOn, cX10_edgeAt, cX10_otherEnd, cX10_isEnd, cX10_search, cX10_leastOnWay, cX10_pushes, cX10_flowsMore, cX10_isTold, cX10_givesNothing, cX10_areTwo, cX10_valueOf, cX10_flow, cX10_on, cX10_left, cX10_ways, cX10_excess, cX10_leftTold, cX10_laysSet, cX10_laysSide, cX10_isCut, cX10_canCut, cX10_cut, cX10_areBeside, cX10_rings, cX10_isOutside, cX10_edgeClockwise, cX10_shared, cX10_isAt, cX10_gather, cX10_supply, cX10_meets, cX10_meet, cX10_gave, cX10_valueBy, cX10_were, cX10_counts, cX10_worst, cX10_image, cX10_back, cX10_allBears, cX10_aslant, cX10_supplied, cX10_count, cJ7_fill_53178, cL_law]
def jm_b (m : Nat) : ByteArray := (jm_nth jm_bT m).getD cX0_solve
def jm_rT : List (Option FieldType) := [(some .boolean), (some .boolean), (some .boolean), none, (some .int), (some .int), none, (some .boolean), (some .int), (some .boolean), none, none, none, (some .int), (some .int), (some .int), none, none, none, (some .boolean), (some .boolean), (some .boolean), (some .boolean), (some .int), (some .int), (some .int), (some .int), (some .boolean), (some .boolean), (some .int), (some .int), none, (some .boolean), (some .boolean), (some .int), (some .int), (some .int), (some .int), (some .int), (some .int), none, (some .boolean), (some .boolean), (some .int), (some .int), (some .int), (some .int), (some .int), (some .int), (some .int), (some .boolean), (some .boolean), none, none, (some .int), (some .int), (some .int), none, (some .int), (some .int), (some .int), (some .int), none, (some .int), (some .boolean), (some .boolean), (some .boolean), none, (some .boolean), (some .boolean), (some .boolean), none, (some .boolean), (some .boolean), (some .boolean), none, none, none, (some .int), (some .int), (some .boolean), (some .int), (some .int), (some .int), (some .int), (some .int), (some .int), (some .boolean), (some .int), (some .int), (some .int), (some .int), (some .int), (some .int), (some .int), (some .int), (some .int), (some .int), (some .int), (some .int), (some .int), (some .int), (some .int), (some .int), (some .int), (some .int), (some .int), (some .int), (some .int), (some .int), (some .boolean), (some .boolean), (some .int), (some .boolean), (some .boolean), (some .boolean), (some .boolean), (some .int), (some .int), (some .boolean), none, (some .int), (some .boolean), (some .boolean), (some .boolean), (some .int), (some .int), (some .int), (some .int), (some .int), (some .boolean), (some .int), (some .int), (some .int), none, (some .int), (some .boolean), (some .boolean), none, none, (some .boolean), (some .boolean), (some .boolean), (some .int), (some .boolean), (some .boolean), none, (some .int), (some .int), (some .int), (some .boolean), (some .int), (some .boolean), (some .int), (some .int), (some .int), (some .boolean), (some .boolean), (some .boolean), (some .boolean), (some .int), (some .int), (some .int), (some .int), (some .int), (some .boolean), (some .int), (some .int), (some .boolean), (some .int), (some .boolean), (some .int), (some .int), (some .int), (some .boolean), (some .boolean), (some .int), none, (some .int), none, none, (some .boolean), (some .int), (some .int), (some .int), (some .int), (some .int), (some .int), (some .int), none, none, (some .boolean), (some .boolean), (some .int), (some .boolean), (some .int), (some .boolean), (some .int), (some .int), (some .boolean), (some .int), (some .int), (some .int), (some .int), (some .int), (some .int), (some .int), (some .int), (some .int), (some .boolean), (some .boolean), (some .int), (some .int), (some .int), (some .int), none, (some .boolean)]
def jm_r (m : Nat) : Option FieldType := (jm_nth jm_rT m).getD none
def jm_flT : List (Nat × Nat × Nat × Nat × Nat) := [(0, 9, 0, 0, 345), (0, 15, 0, 1, 348), (0, 18, 0, 2, 349), (0, 28, 2, 14, 293), (0, 38, 2, 13, 286), (0, 41, 2, 3, 247), (0, 44, 2, 6, 262), (0, 47, 2, 7, 269), (0, 50, 2, 1, 232), (0, 57, 2, 2, 239), (0, 60, 0, 5, 355), (0, 67, 0, 3, 351), (0, 70, 0, 4, 353), (1, 9, 1, 0, 386), (1, 15, 1, 1, 387), (1, 29, 2, 14, 294), (1, 43, 2, 16, 299), (1, 46, 2, 10, 279), (1, 49, 2, 11, 281), (1, 52, 2, 13, 289), (1, 55, 2, 3, 248), (1, 58, 2, 6, 263), (1, 65, 2, 7, 270), (1, 68, 2, 1, 233), (1, 75, 2, 2, 240), (2, 12, 2, 0, 227), (2, 22, 2, 1, 230), (2, 26, 2, 2, 237), (2, 27, 2, 3, 244), (2, 30, 2, 4, 251), (2, 33, 2, 5, 256), (2, 36, 2, 6, 260), (2, 39, 2, 7, 267), (2, 42, 2, 8, 274), (2, 45, 2, 9, 276), (2, 48, 2, 10, 278), (2, 51, 2, 11, 280), (2, 67, 8, 4, 159), (2, 71, 8, 5, 163), (2, 74, 2, 12, 282), (2, 77, 2, 13, 288), (2, 80, 2, 15, 297), (2, 87, 2, 14, 295), (2, 111, 8, 0, 149), (2, 114, 2, 16, 300), (2, 124, 8, 3, 157), (3, 9, 3, 0, 473), (3, 15, 3, 1, 474), (3, 24, 3, 2, 475), (3, 28, 6, 5, 434), (3, 34, 6, 6, 437), (3, 41, 2, 13, 287), (3, 46, 2, 3, 246), (3, 49, 2, 4, 252), (3, 52, 2, 5, 257), (3, 63, 2, 1, 234), (3, 66, 2, 2, 241), (3, 69, 2, 6, 266), (3, 76, 2, 7, 273), (4, 11, 4, 0, 376), (4, 22, 2, 14, 292), (4, 32, 2, 13, 285), (4, 35, 2, 3, 245), (4, 38, 2, 6, 261), (4, 41, 2, 7, 268), (4, 44, 2, 1, 231), (4, 51, 2, 2, 238), (5, 9, 5, 0, 405), (5, 15, 5, 1, 406), (5, 18, 5, 2, 407), (5, 21, 5, 3, 408), (5, 24, 5, 4, 409), (5, 33, 5, 5, 410), (5, 45, 6, 2, 430), (5, 50, 2, 9, 277), (5, 55, 2, 4, 253), (6, 9, 6, 0, 425), (6, 15, 6, 1, 427), (6, 18, 6, 2, 429), (6, 24, 6, 3, 431), (6, 28, 6, 4, 432), (6, 41, 2, 12, 283), (6, 50, 2, 0, 228), (6, 54, 8, 3, 156), (6, 65, 2, 13, 291), (6, 68, 2, 3, 249), (6, 71, 0, 0, 346), (6, 76, 2, 7, 271), (6, 79, 2, 6, 264), (6, 88, 6, 5, 435), (6, 91, 6, 6, 438), (6, 94, 6, 7, 440), (6, 97, 6, 8, 442), (6, 100, 6, 9, 444), (6, 110, 5, 5, 411), (6, 123, 2, 5, 259), (6, 130, 2, 1, 236), (6, 133, 2, 2, 243), (6, 136, 2, 4, 255), (7, 9, 7, 0, 489), (7, 15, 7, 1, 491), (7, 19, 7, 2, 492), (7, 22, 7, 3, 493), (7, 25, 7, 7, 497), (7, 35, 7, 4, 494), (7, 55, 7, 6, 496), (7, 87, 8, 5, 164), (7, 90, 8, 4, 160), (7, 101, 8, 0, 150), (7, 119, 7, 5, 495), (8, 9, 8, 0, 148), (8, 15, 8, 1, 151), (8, 18, 8, 2, 153), (8, 21, 8, 3, 155), (8, 24, 8, 4, 158), (8, 28, 8, 5, 162), (9, 12, 9, 0, 516), (9, 21, 9, 1, 517), (9, 25, 9, 2, 518), (9, 29, 9, 3, 519), (9, 36, 9, 4, 520), (9, 43, 9, 5, 521), (9, 50, 9, 6, 522), (9, 57, 9, 7, 523), (9, 61, 9, 8, 524), (9, 67, 9, 9, 525), (9, 74, 9, 10, 526), (9, 78, 7, 1, 490), (9, 105, 2, 13, 290), (9, 111, 2, 0, 229), (9, 131, 2, 4, 254), (9, 135, 2, 5, 258), (9, 138, 2, 1, 235), (9, 141, 2, 2, 242), (9, 144, 2, 6, 265), (9, 147, 2, 7, 272), (9, 160, 2, 8, 275), (9, 185, 0, 0, 347), (9, 192, 0, 4, 354), (9, 195, 0, 3, 352), (9, 198, 0, 2, 350), (9, 209, 6, 4, 433), (9, 214, 6, 0, 426), (9, 223, 6, 7, 441), (9, 226, 6, 8, 443), (9, 229, 6, 9, 445), (9, 232, 6, 5, 436), (9, 235, 6, 6, 439), (9, 284, 6, 1, 428), (9, 291, 2, 3, 250), (9, 295, 2, 12, 284), (9, 301, 8, 4, 161), (9, 304, 8, 5, 165), (9, 307, 2, 14, 296), (9, 310, 2, 15, 298), (10, 1, 10, 0, 1172), (10, 13, 10, 3, 1175), (10, 17, 10, 4, 1176), (10, 20, 10, 5, 1177), (10, 23, 10, 6, 1178), (10, 26, 10, 7, 1179), (10, 30, 10, 16, 1188), (10, 33, 10, 21, 1193), (10, 36, 10, 22, 1194), (10, 39, 10, 23, 1195), (10, 43, 10, 26, 1198), (10, 46, 10, 27, 1199), (10, 49, 10, 28, 1200), (10, 52, 10, 31, 1203), (10, 55, 10, 32, 1204), (10, 58, 10, 37, 1209), (10, 61, 10, 38, 1210), (10, 64, 10, 39, 1211), (10, 67, 10, 40, 1212), (10, 70, 10, 41, 1213), (10, 73, 10, 42, 1214), (10, 76, 10, 43, 1215), (10, 79, 10, 44, 1216), (10, 82, 10, 46, 1218), (10, 85, 10, 47, 1219), (10, 88, 10, 48, 1220), (10, 91, 10, 50, 1222), (10, 98, 10, 1, 1173), (10, 101, 10, 2, 1174), (10, 104, 10, 33, 1205), (10, 133, 10, 8, 1180), (10, 140, 10, 9, 1181), (10, 143, 10, 11, 1183), (10, 150, 10, 13, 1185), (10, 156, 10, 12, 1184), (10, 159, 10, 10, 1182), (10, 165, 10, 14, 1186), (10, 178, 10, 15, 1187), (10, 184, 10, 20, 1192), (10, 200, 10, 17, 1189), (10, 206, 10, 18, 1190), (10, 212, 10, 19, 1191), (10, 240, 10, 24, 1196), (10, 264, 10, 25, 1197), (10, 283, 10, 29, 1201), (10, 286, 10, 30, 1202), (10, 292, 10, 34, 1206), (10, 295, 10, 35, 1207), (10, 298, 10, 36, 1208), (10, 301, 10, 45, 1217), (10, 364, 10, 49, 1221), (10, 383, 10, 51, 1223)]
def jm_mlT : List (Nat × Nat × Nat × Nat) := [(0, 22, 215, 746), (0, 34, 1, 747), (0, 53, 2, 751), (0, 63, 4, 809), (0, 73, 26, 814), (0, 77, 25, 813), (1, 18, 6, 945), (1, 23, 215, 949), (1, 35, 7, 952), (1, 39, 23, 950), (1, 61, 8, 956), (1, 71, 9, 960), (2, 54, 11, 180), (2, 57, 76, 688), (2, 61, 215, 184), (2, 83, 12, 187), (2, 90, 17, 219), (2, 93, 80, 191), (2, 97, 13, 203), (2, 101, 16, 207), (2, 105, 14, 211), (2, 108, 15, 215), (2, 117, 18, 223), (2, 120, 27, 976), (3, 18, 215, 895), (3, 37, 32, 896), (3, 55, 60, 900), (3, 59, 33, 905), (3, 72, 38, 925), (3, 79, 39, 929), (4, 16, 215, 760), (4, 28, 41, 761), (4, 47, 42, 765), (4, 54, 43, 769), (4, 58, 47, 781), (4, 62, 25, 789), (4, 65, 27, 785), (4, 69, 26, 793), (5, 27, 215, 845), (5, 37, 52, 846), (5, 41, 51, 850), (5, 58, 60, 854), (5, 62, 24, 858), (6, 32, 57, 831), (6, 37, 58, 837), (6, 46, 28, 972), (6, 82, 215, 835), (6, 103, 50, 841), (6, 107, 59, 862), (6, 113, 48, 866), (6, 120, 49, 873), (6, 126, 60, 877), (7, 28, 64, 566), (7, 32, 71, 570), (7, 38, 65, 648), (7, 41, 70, 635), (7, 47, 74, 583), (7, 51, 69, 639), (7, 58, 75, 643), (7, 66, 66, 653), (7, 71, 68, 670), (7, 93, 67, 660), (7, 97, 80, 664), (7, 105, 77, 665), (7, 109, 81, 674), (7, 113, 82, 675), (7, 116, 78, 676), (7, 122, 73, 574), (7, 125, 72, 578), (8, 31, 215, 647), (8, 43, 77, 680), (8, 47, 81, 195), (8, 51, 82, 199), (9, 82, 62, 554), (9, 86, 63, 562), (9, 90, 10, 684), (9, 94, 53, 695), (9, 97, 115, 703), (9, 101, 75, 706), (9, 108, 22, 711), (9, 114, 78, 715), (9, 118, 11, 716), (9, 121, 20, 721), (9, 124, 116, 725), (9, 127, 77, 728), (9, 150, 21, 737), (9, 165, 0, 741), (9, 170, 40, 755), (9, 174, 44, 1118), (9, 178, 45, 773), (9, 181, 46, 777), (9, 188, 3, 805), (9, 201, 113, 819), (9, 205, 54, 827), (9, 219, 60, 1145), (9, 238, 19, 823), (9, 243, 61, 1154), (9, 247, 114, 887), (9, 250, 31, 891), (9, 254, 36, 901), (9, 258, 34, 909), (9, 261, 35, 913), (9, 264, 37, 921), (9, 267, 23, 937), (9, 270, 5, 941), (9, 273, 55, 968), (9, 277, 79, 981), (9, 280, 56, 989), (9, 287, 117, 1001), (9, 298, 76, 1018), (9, 313, 29, 1027), (9, 317, 30, 1031), (10, 94, 120, 1168), (10, 108, 121, 1404), (10, 112, 119, 1341), (10, 116, 122, 1400), (10, 120, 123, 1408), (10, 123, 127, 1444), (10, 127, 130, 1456), (10, 130, 124, 1396), (10, 136, 134, 1333), (10, 146, 135, 1348), (10, 153, 137, 1358), (10, 162, 136, 1352), (10, 175, 138, 1361), (10, 181, 141, 1372), (10, 186, 139, 1344), (10, 193, 140, 1368), (10, 197, 142, 1376), (10, 203, 143, 1384), (10, 209, 144, 1388), (10, 215, 145, 1380), (10, 219, 146, 1392), (10, 222, 132, 1416), (10, 225, 125, 1432), (10, 228, 126, 1436), (10, 231, 128, 1440), (10, 234, 129, 1448), (10, 237, 152, 1460), (10, 244, 156, 1489), (10, 247, 154, 1477), (10, 250, 155, 1481), (10, 253, 157, 1485), (10, 256, 158, 1472), (10, 260, 159, 1468), (10, 267, 161, 1498), (10, 270, 165, 1522), (10, 274, 131, 1518), (10, 277, 167, 1526), (10, 280, 166, 1530), (10, 289, 168, 1514), (10, 304, 172, 1558), (10, 308, 173, 1562), (10, 311, 171, 1566), (10, 315, 174, 1570), (10, 318, 175, 1554), (10, 321, 176, 1574), (10, 324, 177, 1578), (10, 327, 170, 1546), (10, 330, 178, 1550), (10, 333, 181, 1538), (10, 336, 182, 1542), (10, 339, 180, 1582), (10, 342, 179, 1586), (10, 345, 188, 1622), (10, 348, 189, 1618), (10, 352, 192, 1610), (10, 355, 190, 1614), (10, 358, 191, 1626), (10, 361, 194, 1634), (10, 367, 196, 1642), (10, 370, 197, 1646), (10, 373, 199, 1654), (10, 376, 202, 1666), (10, 379, 205, 1678), (10, 386, 212, 1702), (10, 389, 211, 1706), (10, 392, 213, 1710), (50, 35, 83, 550), (50, 39, 133, 1329), (50, 40, 84, 558), (50, 43, 147, 1337), (50, 44, 85, 699), (50, 47, 148, 1412), (50, 48, 86, 707), (50, 51, 149, 1420), (50, 52, 87, 717), (50, 56, 150, 1424), (50, 57, 88, 729), (50, 60, 151, 1428), (50, 66, 153, 1452), (50, 67, 118, 1158), (50, 74, 160, 1464), (50, 75, 91, 733), (50, 79, 162, 1494), (50, 80, 92, 797), (50, 83, 163, 1502), (50, 86, 164, 1506), (50, 87, 94, 801), (50, 90, 169, 1510), (50, 91, 95, 815), (50, 94, 183, 1534), (50, 97, 184, 1590), (50, 100, 185, 1594), (50, 101, 98, 879), (50, 104, 186, 1598), (50, 107, 187, 1602), (50, 108, 100, 883), (50, 111, 193, 1606), (50, 112, 101, 917), (50, 115, 195, 1630), (50, 116, 102, 933), (50, 119, 198, 1638), (50, 120, 103, 964), (50, 123, 200, 1650), (50, 124, 104, 977), (50, 127, 201, 1658), (50, 128, 105, 985), (50, 131, 203, 1662), (50, 132, 106, 993), (50, 135, 204, 1670), (50, 136, 107, 997), (50, 140, 206, 1674), (50, 141, 108, 1005), (50, 144, 207, 1682), (50, 145, 109, 1009), (50, 148, 208, 1686), (50, 149, 110, 1014), (50, 153, 209, 1690), (50, 154, 111, 1019), (50, 157, 210, 1694), (50, 158, 112, 1023), (50, 161, 214, 1698)]
/-- calls of what is no method of the machine: own class, index, number -/
def jm_mbT : List (Nat × Nat × Nat × Nat) := [(2, 127, 904, 1035), (6, 59, 904, 878), (6, 117, 905, 870), (7, 81, 904, 657), (7, 129, 901, 587), (7, 134, 902, 597), (8, 37, 900, 692), (10, 189, 903, 1365), (50, 61, 910, 1036), (50, 71, 911, 1109), (50, 84, 912, 1122), (50, 95, 913, 1129), (50, 98, 914, 1137), (50, 105, 915, 1146)]
def jm_kcT : List (Nat × Nat × Int × Nat) := [(0, 21, 2147483647, 745), (1, 22, 2147483647, 951), (4, 15, 2147483647, 759), (6, 36, 1000000, 836), (9, 169, (-100000), 1117), (9, 294, 1000000, 1013), (10, 243, 100000000, 1476), (10, 263, (-100000), 1493)]
def jm_k2T : List (Nat × Nat × Int × Nat) := [(10, 169, 27, 1355), (10, 171, 96, 1356), (10, 173, (-1), 1357)]
def jm_mpT : List (Nat × Nat × Nat × Nat) := [(744, 742, 743, 110), (750, 749, 18, 110), (754, 753, 19, 110), (808, 806, 807, 110), (812, 811, 24, 110), (944, 942, 943, 112), (948, 947, 36, 112), (955, 954, 37, 112), (959, 958, 38, 112), (963, 962, 39, 112), (687, 685, 686, 107), (183, 181, 182, 107), (190, 189, 0, 107), (206, 205, 1, 107), (214, 213, 3, 107), (218, 217, 4, 107), (210, 209, 2, 107), (222, 221, 5, 107), (226, 225, 6, 107), (826, 824, 825, 107), (724, 722, 723, 107), (740, 738, 739, 107), (714, 712, 713, 107), (940, 938, 939, 107), (861, 859, 860, 107), (792, 790, 791, 107), (796, 794, 795, 107), (788, 786, 787, 107), (975, 973, 974, 107), (1030, 1028, 1029, 107), (1034, 1032, 1033, 107), (894, 892, 893, 115), (899, 898, 32, 115), (908, 907, 33, 115), (912, 910, 911, 115), (916, 914, 915, 115), (904, 902, 903, 115), (924, 922, 923, 115), (928, 927, 34, 115), (932, 931, 35, 115), (758, 756, 757, 111), (764, 763, 20, 111), (768, 767, 21, 111), (772, 771, 22, 111), (1121, 1119, 1120, 111), (776, 774, 775, 111), (780, 778, 779, 111), (784, 783, 23, 111), (869, 867, 868, 114), (876, 874, 875, 114), (844, 842, 843, 114), (853, 852, 29, 114), (849, 848, 28, 114), (698, 696, 697, 113), (830, 828, 829, 113), (971, 969, 970, 113), (992, 990, 991, 113), (834, 833, 26, 113), (840, 839, 27, 113), (865, 864, 30, 113), (857, 855, 856, 113), (1157, 1155, 1156, 113), (557, 555, 556, 116), (565, 563, 564, 116), (569, 568, 7, 116), (651, 650, 14, 116), (656, 655, 15, 116), (663, 662, 16, 116), (673, 672, 17, 116), (642, 641, 13, 116), (638, 637, 12, 116), (573, 572, 8, 116), (581, 580, 10, 116), (577, 576, 9, 116), (586, 585, 11, 116), (646, 644, 645, 108), (691, 689, 690, 108), (668, 666, 667, 108), (679, 677, 678, 108), (984, 982, 983, 108), (194, 192, 193, 108), (198, 196, 197, 108), (202, 200, 201, 108), (553, 551, 552, 106), (561, 559, 560, 106), (702, 700, 701, 106), (710, 708, 709, 106), (720, 718, 719, 106), (732, 730, 731, 106), (1043, 1041, 1042, 106), (1115, 1113, 1114, 106), (736, 734, 735, 106), (800, 798, 799, 106), (1128, 1126, 1127, 106), (804, 802, 803, 106), (818, 816, 817, 106), (1135, 1133, 1134, 106), (1143, 1141, 1142, 106), (882, 880, 881, 106), (1152, 1150, 1151, 106), (886, 884, 885, 106), (920, 918, 919, 106), (936, 934, 935, 106), (967, 965, 966, 106), (980, 978, 979, 106), (988, 986, 987, 106), (996, 994, 995, 106), (1000, 998, 999, 106), (1008, 1006, 1007, 106), (1012, 1010, 1011, 106), (1017, 1015, 1016, 106), (1022, 1020, 1021, 106), (1026, 1024, 1025, 106), (822, 821, 25, 106), (890, 889, 31, 106), (705, 704, 0, 106), (727, 726, 0, 106), (1004, 1003, 40, 106), (1161, 1159, 1160, 117), (1343, 1342, 0, 117), (1171, 1170, 42, 117), (1407, 1406, 56, 117), (1403, 1402, 55, 117), (1411, 1410, 57, 117), (1399, 1398, 54, 117), (1435, 1434, 59, 117), (1439, 1438, 60, 117), (1447, 1446, 62, 117), (1443, 1442, 61, 117), (1451, 1450, 63, 117), (1459, 1458, 64, 117), (1521, 1520, 74, 117), (1419, 1418, 58, 117), (1332, 1330, 1331, 117), (1336, 1335, 43, 117), (1351, 1350, 45, 117), (1354, 1353, 0, 117), (1360, 1359, 0, 117), (1364, 1363, 46, 117), (1347, 1346, 44, 117), (1371, 1370, 47, 117), (1375, 1374, 48, 117), (1379, 1378, 49, 117), (1387, 1386, 51, 117), (1391, 1390, 52, 117), (1383, 1382, 50, 117), (1395, 1394, 53, 117), (1340, 1338, 1339, 117), (1415, 1413, 1414, 117), (1423, 1421, 1422, 117), (1427, 1425, 1426, 117), (1431, 1429, 1430, 117), (1463, 1462, 65, 117), (1455, 1453, 1454, 117), (1480, 1479, 68, 117), (1484, 1483, 69, 117), (1492, 1491, 71, 117), (1488, 1487, 70, 117), (1475, 1474, 67, 117), (1471, 1470, 66, 117), (1467, 1465, 1466, 117), (1501, 1500, 72, 117), (1497, 1495, 1496, 117), (1505, 1503, 1504, 117), (1509, 1507, 1508, 117), (1525, 1524, 75, 117), (1533, 1532, 77, 117), (1529, 1528, 76, 117), (1517, 1516, 73, 117), (1513, 1511, 1512, 117), (1549, 1548, 80, 117), (1569, 1568, 85, 117), (1561, 1560, 83, 117), (1565, 1564, 84, 117), (1573, 1572, 86, 117), (1557, 1556, 82, 117), (1577, 1576, 87, 117), (1581, 1580, 88, 117), (1553, 1552, 81, 117), (1589, 1588, 90, 117), (1585, 1584, 89, 117), (1541, 1540, 78, 117), (1545, 1544, 79, 117), (1537, 1535, 1536, 117), (1593, 1591, 1592, 117), (1597, 1595, 1596, 117), (1601, 1599, 1600, 117), (1605, 1603, 1604, 117), (1625, 1624, 94, 117), (1621, 1620, 93, 117), (1617, 1616, 92, 117), (1629, 1628, 95, 117), (1613, 1612, 91, 117), (1609, 1607, 1608, 117), (1637, 1636, 96, 117), (1633, 1631, 1632, 117), (1645, 1644, 97, 117), (1649, 1648, 98, 117), (1641, 1639, 1640, 117), (1657, 1656, 99, 117), (1653, 1651, 1652, 117), (1661, 1659, 1660, 117), (1669, 1668, 100, 117), (1665, 1663, 1664, 117), (1673, 1671, 1672, 117), (1681, 1680, 101, 117), (1677, 1675, 1676, 117), (1685, 1683, 1684, 117), (1689, 1687, 1688, 117), (1693, 1691, 1692, 117), (1697, 1695, 1696, 117), (1709, 1708, 103, 117), (1705, 1704, 102, 117), (1713, 1712, 104, 117), (1701, 1699, 1700, 117), (186, 185, 0, 109)]
def jm_mp (m : Nat) : Nat × Nat × Nat × Nat := (jm_nth jm_mpT m).getD (0, 0, 0, 0)
def jm_fpT : List (List Nat) := [[356, 358, 360, 362, 364, 366], [388, 390], [301, 303, 305, 307, 309, 311, 313, 315, 317, 319, 321, 323, 325, 327, 329, 331, 333], [476, 478, 480], [377], [412, 414, 416, 418, 420, 422], [446, 448, 450, 452, 454, 456, 458, 460, 462, 464], [498, 500, 502, 504, 506, 508, 510, 512], [166, 168, 170, 172, 174, 176], [527, 529, 531, 533, 535, 537, 539, 541, 543, 545, 547], [1224, 1226, 1228, 1230, 1232, 1234, 1236, 1238, 1240, 1242, 1244, 1246, 1248, 1250, 1252, 1254, 1256, 1258, 1260, 1262, 1264, 1266, 1268, 1270, 1272, 1274, 1276, 1278, 1280, 1282, 1284, 1286, 1288, 1290, 1292, 1294, 1296, 1298, 1300, 1302, 1304, 1306, 1308, 1310, 1312, 1314, 1316, 1318, 1320, 1322, 1324, 1326]]
def jm_fp (c k : Nat) : Nat := match jm_nth jm_fpT c with
  | some l => (jm_nth l k).getD 0
  | none => 0
end
section
/-! THE TABLES ARE RIGHT: links, methods, fields by their places; every row of code as it is decoded -/
def jm_g : List Cond := lw_tbl.filter goodWord
theorem jm_in_g {w : Cond} (i : Nat) (h : lw_tbl[i]? = some w) (hg : goodWord w = true) : w ∈ jm_g := List.mem_filter.mpr ⟨List.mem_of_getElem? h, hg⟩
theorem jm_g_in {w : Cond} (h : w ∈ jm_g) : w ∈ lw_tbl := (List.mem_filter.mp h).1
theorem jm_g_good : GoodIn jm_g jm_g := fun w h => ⟨h, good_of_word (List.mem_filter.mp h).2⟩
set_option maxRecDepth 100000 in
theorem jm_fl_ok : ∀ q ∈ jm_flT, lw_tbl[q.2.2.2.2]? = some (.fieldLink (jm_cn q.1) q.2.1 (jm_cn q.2.2.1) (jm_tt q.2.2.1 q.2.2.2.1).2.1 (jm_tt q.2.2.1 q.2.2.2.1).2.2.1) := by decide +kernel
set_option maxRecDepth 100000 in
theorem jm_fl_lt : ∀ q ∈ jm_flT, q.2.2.2.1 < jm_nf q.2.2.1 := by decide +kernel
set_option maxRecDepth 100000 in
theorem jm_ml_ok : ∀ q ∈ jm_mlT, lw_tbl[q.2.2.2]? = some (.methodLink (jm_cn q.1) q.2.1 (jm_y q.2.2.1)) := by decide +kernel
set_option maxRecDepth 100000 in
theorem jm_kc_ok : ∀ q ∈ jm_kcT, lw_tbl[q.2.2.2]? = some (.constant (jm_cn q.1) q.2.1 (Int32.ofInt q.2.2.1)) := by decide +kernel
set_option maxRecDepth 100000 in
theorem jm_k2_ok : ∀ q ∈ jm_k2T, lw_tbl[q.2.2.2]? = some (.constantLong (jm_cn q.1) q.2.1 (Int64.ofInt q.2.2.1)) := by decide +kernel
set_option maxRecDepth 100000 in
theorem jm_mv_ok : ∀ m, m < 216 → (jm_mi m).2.1 = 1 → lw_tbl[(jm_mp m).2.1]? = some (.instanceMethod (jm_y m)) ∧ lw_tbl[(jm_mp m).2.2.1]? = some (.selects (jm_y m).cls (jm_y m) (jm_y m)) := by decide +kernel
set_option maxRecDepth 100000 in
theorem jm_ms_ok : ∀ m, m < 216 → (jm_mi m).2.1 = 0 → lw_tbl[(jm_mp m).2.1]? = some (.static (jm_y m)) := by decide +kernel
set_option maxRecDepth 100000 in
theorem jm_mn_ok : ∀ m, m < 216 → lw_tbl[(jm_mp m).2.2.2]? = some (.initialized (jm_y m).cls) ∧ (jm_y m).cls = jm_cn (jm_mi m).1 ∧ (jm_y m).cls ≠ "java/lang/invoke/MethodHandle" ∧ (jm_y m).cls ≠ "java/lang/invoke/VarHandle" ∧ (parseMethodDescriptor (jm_y m).desc).map (fun d => d.parameters.length + (jm_mi m).2.1) = some (jm_mi m).2.2.1 ∧ plainName (jm_y m).cls = true := by decide +kernel
set_option maxRecDepth 100000 in
theorem jm_fp_ok : ∀ c, c < 11 → ∀ k, k < jm_nf c → lw_tbl[jm_fp c k]? = some (u_lay (jm_cn c) (jm_tt c) k) := by decide +kernel
theorem jm_cl_ok : ∀ c, c < 11 → vwCl[c]? = some (jm_cn c, jm_tt c, jm_nf c) := by
  intro c hc
  match c, hc with
  | 0, _ => rfl
  | 1, _ => rfl
  | 2, _ => rfl
  | 3, _ => rfl
  | 4, _ => rfl
  | 5, _ => rfl
  | 6, _ => rfl
  | 7, _ => rfl
  | 8, _ => rfl
  | 9, _ => rfl
  | 10, _ => rfl
  | c + 11, h => exact absurd h (by omega)
theorem jm_ty_ok : ∀ c, c < 11 → ∀ k, k < jm_nf c → parseFieldDescriptor (jm_tt c k).2.2.1 = some (jm_ty c k) := by decide +kernel
theorem jm_nm_ok : ∀ c, c < 11 → ∀ a, a < jm_nf c → ∀ b, b < jm_nf c → a ≠ b → (jm_tt c a).2.1 ≠ (jm_tt c b).2.1 := by decide +kernel
/-- shapes: an object's class, as many codes as fields, codes as the fields' types are, numbers not final; rows of references -/
def jm_shk (c : Nat) : Bool := match jm_sh c with
  | (k, n, fs) => match Nat.ble 10 k with
    | true => Nat.blt k 21 && (Nat.beq n (jm_nf (k - 10)) && (Nat.beq fs.length n && (List.range n).all (fun j => match fs.getD j 0 with
      | 0 => decide (jm_ty (k - 10) j = .int ∧ (jm_tt (k - 10) j).2.2.2 = false)
      | 1 => decide (jm_ty (k - 10) j = .long ∧ (jm_tt (k - 10) j).2.2.2 = false)
      | 2 => decide (jm_ty (k - 10) j = .boolean ∧ (jm_tt (k - 10) j).2.2.2 = false)
      | t + 3 => Nat.blt t 95)))
    | false => Nat.blt k 5
theorem jm_sh_ok : ∀ c, c < 95 → jm_shk c = true := by decide +kernel
theorem jm_sh_out : ∀ c, 95 ≤ c → jm_sh c = (99, 0, []) := by
  intro c hc
  have h : ∀ {α : Type} (l : List α) (n : Nat), l.length ≤ n → jm_nth l n = none := by
    intro α l
    induction l with
    | nil => intro n _; rfl
    | cons a l ih =>
      intro n hn
      cases n with
      | zero => exact absurd hn (by simp)
      | succ n => exact ih n (by simpa using hn)
  unfold jm_sh
  rw [h jm_shT c (by exact hc)]
def jm_len (e : Instr × Nat × Int) : Nat := match e.1 with
  | .aload _ => 2
  | .iload _ => 2
  | .istore _ => 2
  | .astore _ => 2
  | .bipush _ => 2
  | .ldc _ => 2
  | .iinc _ _ => 3
  | .sipush _ => 3
  | .goto _ => 3
  | .ifCond _ _ => 3
  | .if_icmp _ _ => 3
  | .getfield _ => 3
  | .putfield _ => 3
  | .invokestatic _ => 3
  | .invokevirtual _ => 3
  | .invokespecial _ => 3
  | .ldc_w _ => 3
  | .ldc2_w _ => 3
  | .new _ => 3
  | .tableswitch _ _ _ _ => e.2.2.toNat
  | _ => 1
/-- where a row leads on -/
def jm_ck1 (m k : Nat) (e : Instr × Nat × Int) : Bool := match e.1 with
  | .goto off => decide ((jm_bp m e.2.1 : Int) = (jm_bp m k : Int) + off)
  | .ifCond _ off => decide ((jm_bp m e.2.1 : Int) = (jm_bp m k : Int) + off) && Nat.beq (jm_bp m (k + 1)) (jm_bp m k + 3)
  | .if_icmp _ off => decide ((jm_bp m e.2.1 : Int) = (jm_bp m k : Int) + off) && Nat.beq (jm_bp m (k + 1)) (jm_bp m k + 3)
  | .tableswitch d lo hi offs => match jm_sw e.2.1 with
    | t :: ts => decide (lo = 0) && (decide (hi + 1 = ts.length) && (decide ((jm_bp m t : Int) = (jm_bp m k : Int) + d) && decide (offs.toList = ts.map (fun t => (jm_bp m t : Int) - (jm_bp m k : Int)))))
    | [] => false
  | .ireturn => true
  | .return_ => true
  | .athrow => true
  | _ => Nat.beq (jm_bp m (k + 1)) (jm_bp m k + jm_len e)
/-- what a row names -/
def jm_ck2 (m : Nat) (e : Instr × Nat × Int) : Bool := match e.1 with
  | .istore_n i => Nat.blt i.val (jm_mi m).2.2.2.1 && !(Nat.beq m 140)
  | .istore i => Nat.blt i (jm_mi m).2.2.2.1 && !(Nat.beq m 140)
  | .astore_n i => Nat.blt i.val (jm_mi m).2.2.2.1 && !(Nat.beq m 140)
  | .astore i => Nat.blt i (jm_mi m).2.2.2.1 && !(Nat.beq m 140)
  | .iinc i n => Nat.blt i (jm_mi m).2.2.2.1 && (!(Nat.beq m 140) && decide (n = e.2.2))
  | .iconst n => decide (n = e.2.2 ∧ -1 ≤ n ∧ n ≤ 5)
  | .bipush n => decide (n = e.2.2 ∧ -128 ≤ n ∧ n ≤ 127)
  | .sipush n => decide (n = e.2.2 ∧ -32768 ≤ n ∧ n ≤ 32767)
  | .lconst n => decide (n = 0)
  | .ldc i => match e.2.1 with
    | 0 => jm_kcT.any (fun q => Nat.beq q.1 (jm_mi m).1 && (Nat.beq q.2.1 i && decide (q.2.2.1 = e.2.2))) && decide (-2147483648 ≤ e.2.2 ∧ e.2.2 ≤ 2147483647)
    | 100 => false
    | s + 1 => Nat.beq (jm_mi m).1 7 && (Nat.blt s 6 && Nat.beq i ([45, 64, 69, 75, 77, 79].getD s 0))
  | .ldc_w i => jm_kcT.any (fun q => Nat.beq q.1 (jm_mi m).1 && (Nat.beq q.2.1 i && decide (q.2.2.1 = e.2.2))) && decide (-2147483648 ≤ e.2.2 ∧ e.2.2 ≤ 2147483647)
  | .ldc2_w i => jm_k2T.any (fun q => Nat.beq q.1 (jm_mi m).1 && (Nat.beq q.2.1 i && decide (q.2.2.1 = e.2.2))) && decide (-2147483648 ≤ e.2.2 ∧ e.2.2 ≤ 2147483647)
  | .getfield i => jm_flT.any (fun q => Nat.beq q.1 (jm_mi m).1 && (Nat.beq q.2.1 i && (Nat.beq q.2.2.1 e.2.2.toNat && Nat.beq q.2.2.2.1 e.2.1)))
  | .putfield i => jm_flT.any (fun q => Nat.beq q.1 (jm_mi m).1 && (Nat.beq q.2.1 i && (Nat.beq q.2.2.1 e.2.2.toNat && Nat.beq q.2.2.2.1 e.2.1)))
  | .invokestatic i => match Nat.blt e.2.1 216 with
    | true => jm_mlT.any (fun q => Nat.beq q.1 (jm_mi m).1 && (Nat.beq q.2.1 i && Nat.beq q.2.2.1 e.2.1)) && (Nat.ble ((jm_mi e.2.1).2.2.2.2.1 + 1) (jm_mi m).2.2.2.2.1 && Nat.ble (8 + ((jm_mi e.2.1).2.2.2.1 + 11) + (jm_mi e.2.1).2.2.2.2.2.1) (jm_mi m).2.2.2.2.2.1)
    | false => jm_mbT.any (fun q => Nat.beq q.1 (jm_mi m).1 && (Nat.beq q.2.1 i && Nat.beq q.2.2.1 e.2.1)) && (Nat.ble 1 (jm_mi m).2.2.2.2.1 && Nat.ble 48 (jm_mi m).2.2.2.2.2.1)
  | .invokevirtual i => match Nat.blt e.2.1 216 with
    | true => jm_mlT.any (fun q => Nat.beq q.1 (jm_mi m).1 && (Nat.beq q.2.1 i && Nat.beq q.2.2.1 e.2.1)) && (Nat.ble ((jm_mi e.2.1).2.2.2.2.1 + 1) (jm_mi m).2.2.2.2.1 && Nat.ble (8 + ((jm_mi e.2.1).2.2.2.1 + 11) + (jm_mi e.2.1).2.2.2.2.2.1) (jm_mi m).2.2.2.2.2.1)
    | false => jm_mbT.any (fun q => Nat.beq q.1 (jm_mi m).1 && (Nat.beq q.2.1 i && Nat.beq q.2.2.1 e.2.1)) && (Nat.ble 5 (jm_mi m).2.2.2.2.1 && Nat.ble 160 (jm_mi m).2.2.2.2.2.1)
  | .ireturn => match e.2.1 with
    | 0 => decide (jm_r m = some .int)
    | _ => decide (jm_r m = some .boolean)
  | .return_ => decide (jm_r m = none)
  | _ => true
def jm_ck (m k : Nat) (e : Instr × Nat × Int) : Bool := match e.1 with
  | .nop => true
  | i => decide (decode (jm_b m) (jm_bp m k) = .ok (i, jm_len e)) && (jm_ck1 m k e && jm_ck2 m e)
def jm_ckL (m : Nat) : Nat → List (Instr × Nat × Int) → Bool
  | _, [] => true
  | k, e :: l => jm_ck m k e && jm_ckL m (k + 1) l
end
section
/-! THE CODE WORDS, by their places -/
set_option maxRecDepth 100000 in
theorem jm_mc0 : lw_tbl[744]? = some (.code yX0_solve cX0_solve 4 (some .boolean)) := rfl
set_option maxRecDepth 100000 in
theorem jm_mc1 : lw_tbl[750]? = some (.code yX0_relaxAll cX0_relaxAll 8 (some .boolean)) := rfl
set_option maxRecDepth 100000 in
theorem jm_mc2 : lw_tbl[754]? = some (.code yX0_relax cX0_relax 5 (some .boolean)) := rfl
set_option maxRecDepth 100000 in
theorem jm_mc3 : lw_tbl[808]? = some (.code yX0_traceRing cX0_traceRing 6 none) := rfl
set_option maxRecDepth 100000 in
theorem jm_mc4 : lw_tbl[812]? = some (.code yX0_faceBefore cX0_faceBefore 3 (some .int)) := rfl
set_option maxRecDepth 100000 in
theorem jm_mc5 : lw_tbl[944]? = some (.code yX1_least cX1_least 6 (some .int)) := rfl
set_option maxRecDepth 100000 in
theorem jm_mc6 : lw_tbl[948]? = some (.code yX1_markLeft cX1_markLeft 6 none) := rfl
set_option maxRecDepth 100000 in
theorem jm_mc7 : lw_tbl[955]? = some (.code yX1_relaxAll cX1_relaxAll 7 (some .boolean)) := rfl
set_option maxRecDepth 100000 in
theorem jm_mc8 : lw_tbl[959]? = some (.code yX1_partOf cX1_partOf 3 (some .int)) := rfl
set_option maxRecDepth 100000 in
theorem jm_mc9 : lw_tbl[963]? = some (.code yX1_relax cX1_relax 4 (some .boolean)) := rfl
set_option maxRecDepth 100000 in
theorem jm_mc10 : lw_tbl[687]? = some (.code yX2_become cX2_become 2 none) := rfl
set_option maxRecDepth 100000 in
theorem jm_mc11 : lw_tbl[183]? = some (.code yX2_rebuild cX2_rebuild 3 none) := rfl
set_option maxRecDepth 100000 in
theorem jm_mc12 : lw_tbl[190]? = some (.code yX2_placeEdges cX2_placeEdges 7 none) := rfl
set_option maxRecDepth 100000 in
theorem jm_mc13 : lw_tbl[206]? = some (.code yX2_lowerFace cX2_lowerFace 2 (some .int)) := rfl
set_option maxRecDepth 100000 in
theorem jm_mc14 : lw_tbl[214]? = some (.code yX2_westFace cX2_westFace 2 (some .int)) := rfl
set_option maxRecDepth 100000 in
theorem jm_mc15 : lw_tbl[218]? = some (.code yX2_eastFace cX2_eastFace 2 (some .int)) := rfl
set_option maxRecDepth 100000 in
theorem jm_mc16 : lw_tbl[210]? = some (.code yX2_place cX2_place 7 none) := rfl
set_option maxRecDepth 100000 in
theorem jm_mc17 : lw_tbl[222]? = some (.code yX2_walkRim cX2_walkRim 5 none) := rfl
set_option maxRecDepth 100000 in
theorem jm_mc18 : lw_tbl[226]? = some (.code yX2_addToRim cX2_addToRim 3 none) := rfl
set_option maxRecDepth 100000 in
theorem jm_mc19 : lw_tbl[826]? = some (.code yX2_hasNode cX2_hasNode 2 (some .boolean)) := rfl
set_option maxRecDepth 100000 in
theorem jm_mc20 : lw_tbl[724]? = some (.code yX2_hasEdge cX2_hasEdge 2 (some .boolean)) := rfl
set_option maxRecDepth 100000 in
theorem jm_mc21 : lw_tbl[740]? = some (.code yX2_hasFace cX2_hasFace 2 (some .boolean)) := rfl
set_option maxRecDepth 100000 in
theorem jm_mc22 : lw_tbl[714]? = some (.code yX2_hasCell cX2_hasCell 2 (some .boolean)) := rfl
set_option maxRecDepth 100000 in
theorem jm_mc23 : lw_tbl[940]? = some (.code yX2_rimIndex cX2_rimIndex 3 (some .int)) := rfl
set_option maxRecDepth 100000 in
theorem jm_mc24 : lw_tbl[861]? = some (.code yX2_endBeyond cX2_endBeyond 3 (some .int)) := rfl
set_option maxRecDepth 100000 in
theorem jm_mc25 : lw_tbl[792]? = some (.code yX2_faceBeyond cX2_faceBeyond 3 (some .int)) := rfl
set_option maxRecDepth 100000 in
theorem jm_mc26 : lw_tbl[796]? = some (.code yX2_costFrom cX2_costFrom 3 (some .int)) := rfl
set_option maxRecDepth 100000 in
theorem jm_mc27 : lw_tbl[788]? = some (.code yX2_bounds cX2_bounds 3 (some .boolean)) := rfl
set_option maxRecDepth 100000 in
theorem jm_mc28 : lw_tbl[975]? = some (.code yX2_isAtFace cX2_isAtFace 5 (some .boolean)) := rfl
set_option maxRecDepth 100000 in
theorem jm_mc29 : lw_tbl[1030]? = some (.code yX2_allBorne cX2_allBorne 3 (some .int)) := rfl
set_option maxRecDepth 100000 in
theorem jm_mc30 : lw_tbl[1034]? = some (.code yX2_allSupplied cX2_allSupplied 4 (some .int)) := rfl
set_option maxRecDepth 100000 in
theorem jm_mc31 : lw_tbl[894]? = some (.code yX3_divide cX3_divide 6 none) := rfl
set_option maxRecDepth 100000 in
theorem jm_mc32 : lw_tbl[899]? = some (.code yX3_spread cX3_spread 9 (some .boolean)) := rfl
set_option maxRecDepth 100000 in
theorem jm_mc33 : lw_tbl[908]? = some (.code yX3_parts cX3_parts 3 (some .boolean)) := rfl
set_option maxRecDepth 100000 in
theorem jm_mc34 : lw_tbl[912]? = some (.code yX3_size cX3_size 4 (some .int)) := rfl
set_option maxRecDepth 100000 in
theorem jm_mc35 : lw_tbl[916]? = some (.code yX3_member cX3_member 6 (some .int)) := rfl
set_option maxRecDepth 100000 in
theorem jm_mc36 : lw_tbl[904]? = some (.code yX3_cost cX3_cost 6 (some .int)) := rfl
set_option maxRecDepth 100000 in
theorem jm_mc37 : lw_tbl[924]? = some (.code yX3_pieces cX3_pieces 5 (some .int)) := rfl
set_option maxRecDepth 100000 in
theorem jm_mc38 : lw_tbl[928]? = some (.code yX3_touch cX3_touch 2 (some .int)) := rfl
set_option maxRecDepth 100000 in
theorem jm_mc39 : lw_tbl[932]? = some (.code yX3_join cX3_join 6 (some .int)) := rfl
set_option maxRecDepth 100000 in
theorem jm_mc40 : lw_tbl[758]? = some (.code yX4_aim cX4_aim 5 none) := rfl
set_option maxRecDepth 100000 in
theorem jm_mc41 : lw_tbl[764]? = some (.code yX4_relaxAll cX4_relaxAll 5 (some .boolean)) := rfl
set_option maxRecDepth 100000 in
theorem jm_mc42 : lw_tbl[768]? = some (.code yX4_relax cX4_relax 4 (some .boolean)) := rfl
set_option maxRecDepth 100000 in
theorem jm_mc43 : lw_tbl[772]? = some (.code yX4_keyBy cX4_keyBy 3 (some .int)) := rfl
set_option maxRecDepth 100000 in
theorem jm_mc44 : lw_tbl[1121]? = some (.code yX4_costFrom cX4_costFrom 2 (some .int)) := rfl
set_option maxRecDepth 100000 in
theorem jm_mc45 : lw_tbl[776]? = some (.code yX4_hopsFrom cX4_hopsFrom 2 (some .int)) := rfl
set_option maxRecDepth 100000 in
theorem jm_mc46 : lw_tbl[780]? = some (.code yX4_crossing cX4_crossing 8 (some .int)) := rfl
set_option maxRecDepth 100000 in
theorem jm_mc47 : lw_tbl[784]? = some (.code yX4_firstEdge cX4_firstEdge 5 (some .int)) := rfl
set_option maxRecDepth 100000 in
theorem jm_mc48 : lw_tbl[869]? = some (.code yX5_nodeAt cX5_nodeAt 2 (some .int)) := rfl
set_option maxRecDepth 100000 in
theorem jm_mc49 : lw_tbl[876]? = some (.code yX5_edgeTo cX5_edgeTo 2 (some .int)) := rfl
set_option maxRecDepth 100000 in
theorem jm_mc50 : lw_tbl[844]? = some (.code yX5_find cX5_find 5 (some .boolean)) := rfl
set_option maxRecDepth 100000 in
theorem jm_mc51 : lw_tbl[853]? = some (.code yX5_advance cX5_advance 7 (some .boolean)) := rfl
set_option maxRecDepth 100000 in
theorem jm_mc52 : lw_tbl[849]? = some (.code yX5_enter cX5_enter 4 none) := rfl
set_option maxRecDepth 100000 in
theorem jm_mc53 : lw_tbl[698]? = some (.code yX6_forget cX6_forget 1 none) := rfl
set_option maxRecDepth 100000 in
theorem jm_mc54 : lw_tbl[830]? = some (.code yX6_runBetween cX6_runBetween 5 (some .int)) := rfl
set_option maxRecDepth 100000 in
theorem jm_mc55 : lw_tbl[971]? = some (.code yX6_runFromFace cX6_runFromFace 8 (some .int)) := rfl
set_option maxRecDepth 100000 in
theorem jm_mc56 : lw_tbl[992]? = some (.code yX6_runSupplies cX6_runSupplies 6 (some .int)) := rfl
set_option maxRecDepth 100000 in
theorem jm_mc57 : lw_tbl[834]? = some (.code yX6_begin cX6_begin 8 none) := rfl
set_option maxRecDepth 100000 in
theorem jm_mc58 : lw_tbl[840]? = some (.code yX6_pour cX6_pour 6 (some .int)) := rfl
set_option maxRecDepth 100000 in
theorem jm_mc59 : lw_tbl[865]? = some (.code yX6_push cX6_push 8 (some .int)) := rfl
set_option maxRecDepth 100000 in
theorem jm_mc60 : lw_tbl[857]? = some (.code yX6_spare cX6_spare 4 (some .int)) := rfl
set_option maxRecDepth 100000 in
theorem jm_mc61 : lw_tbl[1157]? = some (.code yX6_gain cX6_gain 6 (some .int)) := rfl
set_option maxRecDepth 100000 in
theorem jm_mc62 : lw_tbl[557]? = some (.code yX7_put cX7_put 3 none) := rfl
set_option maxRecDepth 100000 in
theorem jm_mc63 : lw_tbl[565]? = some (.code yX7_read cX7_read 6 (some .int)) := rfl
set_option maxRecDepth 100000 in
theorem jm_mc64 : lw_tbl[569]? = some (.code yX7_readHead cX7_readHead 3 (some .boolean)) := rfl
set_option maxRecDepth 100000 in
theorem jm_mc65 : lw_tbl[651]? = some (.code yX7_readLine cX7_readLine 2 (some .boolean)) := rfl
set_option maxRecDepth 100000 in
theorem jm_mc66 : lw_tbl[656]? = some (.code yX7_readAll cX7_readAll 5 (some .boolean)) := rfl
set_option maxRecDepth 100000 in
theorem jm_mc67 : lw_tbl[663]? = some (.code yX7_loadAt cX7_loadAt 8 none) := rfl
set_option maxRecDepth 100000 in
theorem jm_mc68 : lw_tbl[673]? = some (.code yX7_readOne cX7_readOne 7 (some .boolean)) := rfl
set_option maxRecDepth 100000 in
theorem jm_mc69 : lw_tbl[642]? = some (.code yX7_readWhole cX7_readWhole 3 (some .boolean)) := rfl
set_option maxRecDepth 100000 in
theorem jm_mc70 : lw_tbl[638]? = some (.code yX7_fail cX7_fail 2 (some .boolean)) := rfl
set_option maxRecDepth 100000 in
theorem jm_mc71 : lw_tbl[573]? = some (.code yX7_next cX7_next 1 none) := rfl
set_option maxRecDepth 100000 in
theorem jm_mc72 : lw_tbl[581]? = some (.code yX7_scanWhole cX7_scanWhole 3 (some .boolean)) := rfl
set_option maxRecDepth 100000 in
theorem jm_mc73 : lw_tbl[577]? = some (.code yX7_isLetter cX7_isLetter 2 (some .boolean)) := rfl
set_option maxRecDepth 100000 in
theorem jm_mc74 : lw_tbl[586]? = some (.code yX7_isWord cX7_isWord 3 (some .boolean)) := rfl
set_option maxRecDepth 100000 in
theorem jm_mc75 : lw_tbl[646]? = some (.code yX8_reset cX8_reset 3 none) := rfl
set_option maxRecDepth 100000 in
theorem jm_mc76 : lw_tbl[691]? = some (.code yX8_take cX8_take 2 none) := rfl
set_option maxRecDepth 100000 in
theorem jm_mc77 : lw_tbl[668]? = some (.code yX8_load cX8_load 4 none) := rfl
set_option maxRecDepth 100000 in
theorem jm_mc78 : lw_tbl[679]? = some (.code yX8_lean cX8_lean 4 (some .int)) := rfl
set_option maxRecDepth 100000 in
theorem jm_mc79 : lw_tbl[984]? = some (.code yX8_stock cX8_stock 4 (some .int)) := rfl
set_option maxRecDepth 100000 in
theorem jm_mc80 : lw_tbl[194]? = some (.code yX8_fits cX8_fits 4 (some .boolean)) := rfl
set_option maxRecDepth 100000 in
theorem jm_mc81 : lw_tbl[198]? = some (.code yX8_lastX cX8_lastX 2 (some .int)) := rfl
set_option maxRecDepth 100000 in
theorem jm_mc82 : lw_tbl[202]? = some (.code yX8_lastY cX8_lastY 2 (some .int)) := rfl
set_option maxRecDepth 100000 in
theorem jm_mc83 : lw_tbl[553]? = some (.code yX9_feed cX9_feed 6 (some .int)) := rfl
set_option maxRecDepth 100000 in
theorem jm_mc84 : lw_tbl[561]? = some (.code yX9_text cX9_text 3 (some .int)) := rfl
set_option maxRecDepth 100000 in
theorem jm_mc85 : lw_tbl[702]? = some (.code yX9_grid cX9_grid 3 (some .int)) := rfl
set_option maxRecDepth 100000 in
theorem jm_mc86 : lw_tbl[710]? = some (.code yX9_slant cX9_slant 4 (some .int)) := rfl
set_option maxRecDepth 100000 in
theorem jm_mc87 : lw_tbl[720]? = some (.code yX9_bears cX9_bears 4 (some .boolean)) := rfl
set_option maxRecDepth 100000 in
theorem jm_mc88 : lw_tbl[732]? = some (.code yX9_edge cX9_edge 3 (some .int)) := rfl
set_option maxRecDepth 100000 in
theorem jm_mc89 : lw_tbl[1043]? = some (.code yX9_around cX9_around 2 (some .int)) := rfl
set_option maxRecDepth 100000 in
theorem jm_mc90 : lw_tbl[1115]? = some (.code yX9_distance cX9_distance 3 (some .int)) := rfl
set_option maxRecDepth 100000 in
theorem jm_mc91 : lw_tbl[736]? = some (.code yX9_route cX9_route 4 (some .int)) := rfl
set_option maxRecDepth 100000 in
theorem jm_mc92 : lw_tbl[800]? = some (.code yX9_circulates cX9_circulates 1 (some .int)) := rfl
set_option maxRecDepth 100000 in
theorem jm_mc93 : lw_tbl[1128]? = some (.code yX9_potential cX9_potential 2 (some .int)) := rfl
set_option maxRecDepth 100000 in
theorem jm_mc94 : lw_tbl[804]? = some (.code yX9_ring cX9_ring 2 (some .int)) := rfl
set_option maxRecDepth 100000 in
theorem jm_mc95 : lw_tbl[818]? = some (.code yX9_flow cX9_flow 3 (some .int)) := rfl
set_option maxRecDepth 100000 in
theorem jm_mc96 : lw_tbl[1135]? = some (.code yX9_on cX9_on 2 (some .int)) := rfl
set_option maxRecDepth 100000 in
theorem jm_mc97 : lw_tbl[1143]? = some (.code yX9_left cX9_left 3 (some .int)) := rfl
set_option maxRecDepth 100000 in
theorem jm_mc98 : lw_tbl[882]? = some (.code yX9_ways cX9_ways 2 (some .int)) := rfl
set_option maxRecDepth 100000 in
theorem jm_mc99 : lw_tbl[1152]? = some (.code yX9_excess cX9_excess 2 (some .int)) := rfl
set_option maxRecDepth 100000 in
theorem jm_mc100 : lw_tbl[886]? = some (.code yX9_cut cX9_cut 4 (some .int)) := rfl
set_option maxRecDepth 100000 in
theorem jm_mc101 : lw_tbl[920]? = some (.code yX9_rings cX9_rings 2 (some .int)) := rfl
set_option maxRecDepth 100000 in
theorem jm_mc102 : lw_tbl[936]? = some (.code yX9_shared cX9_shared 3 (some .int)) := rfl
set_option maxRecDepth 100000 in
theorem jm_mc103 : lw_tbl[967]? = some (.code yX9_gather cX9_gather 4 (some .int)) := rfl
set_option maxRecDepth 100000 in
theorem jm_mc104 : lw_tbl[980]? = some (.code yX9_supply cX9_supply 3 (some .int)) := rfl
set_option maxRecDepth 100000 in
theorem jm_mc105 : lw_tbl[988]? = some (.code yX9_meet cX9_meet 1 (some .int)) := rfl
set_option maxRecDepth 100000 in
theorem jm_mc106 : lw_tbl[996]? = some (.code yX9_gave cX9_gave 3 (some .int)) := rfl
set_option maxRecDepth 100000 in
theorem jm_mc107 : lw_tbl[1000]? = some (.code yX9_were cX9_were 7 (some .int)) := rfl
set_option maxRecDepth 100000 in
theorem jm_mc108 : lw_tbl[1008]? = some (.code yX9_counts cX9_counts 8 (some .int)) := rfl
set_option maxRecDepth 100000 in
theorem jm_mc109 : lw_tbl[1012]? = some (.code yX9_worst cX9_worst 7 (some .int)) := rfl
set_option maxRecDepth 100000 in
theorem jm_mc110 : lw_tbl[1017]? = some (.code yX9_image cX9_image 2 (some .boolean)) := rfl
set_option maxRecDepth 100000 in
theorem jm_mc111 : lw_tbl[1022]? = some (.code yX9_back cX9_back 2 (some .boolean)) := rfl
set_option maxRecDepth 100000 in
theorem jm_mc112 : lw_tbl[1026]? = some (.code yX9_count cX9_count 2 (some .int)) := rfl
set_option maxRecDepth 100000 in
theorem jm_mc113 : lw_tbl[822]? = some (.code yX9_isPair cX9_isPair 3 (some .boolean)) := rfl
set_option maxRecDepth 100000 in
theorem jm_mc114 : lw_tbl[890]? = some (.code yX9_hasCut cX9_hasCut 2 (some .boolean)) := rfl
set_option maxRecDepth 100000 in
theorem jm_mc115 : lw_tbl[705]? = some (.code yX9_isSide cX9_isSide 1 (some .boolean)) := rfl
set_option maxRecDepth 100000 in
theorem jm_mc116 : lw_tbl[727]? = some (.code yX9_isBearable cX9_isBearable 1 (some .boolean)) := rfl
set_option maxRecDepth 100000 in
theorem jm_mc117 : lw_tbl[1004]? = some (.code yX9_valueWith cX9_valueWith 9 (some .int)) := rfl
set_option maxRecDepth 100000 in
theorem jm_mc118 : lw_tbl[1161]? = some (.code yX10_thrown cX10_thrown 1 (some .int)) := rfl
set_option maxRecDepth 100000 in
theorem jm_mc119 : lw_tbl[1343]? = some (.code yX10_within cX10_within 3 (some .boolean)) := rfl
set_option maxRecDepth 100000 in
theorem jm_mc120 : lw_tbl[1171]? = some (.code yX10_begins cX10_begins 4 none) := rfl
set_option maxRecDepth 100000 in
theorem jm_mc121 : lw_tbl[1407]? = some (.code yX10_nodes cX10_nodes 1 (some .int)) := rfl
set_option maxRecDepth 100000 in
theorem jm_mc122 : lw_tbl[1403]? = some (.code yX10_isNode cX10_isNode 2 (some .boolean)) := rfl
set_option maxRecDepth 100000 in
theorem jm_mc123 : lw_tbl[1411]? = some (.code yX10_isCell cX10_isCell 2 (some .boolean)) := rfl
set_option maxRecDepth 100000 in
theorem jm_mc124 : lw_tbl[1399]? = some (.code yX10_isEdge cX10_isEdge 3 (some .boolean)) := rfl
set_option maxRecDepth 100000 in
theorem jm_mc125 : lw_tbl[1435]? = some (.code yX10_fromOf cX10_fromOf 2 (some .int)) := rfl
set_option maxRecDepth 100000 in
theorem jm_mc126 : lw_tbl[1439]? = some (.code yX10_toOf cX10_toOf 3 (some .int)) := rfl
set_option maxRecDepth 100000 in
theorem jm_mc127 : lw_tbl[1447]? = some (.code yX10_faceAt cX10_faceAt 6 (some .int)) := rfl
set_option maxRecDepth 100000 in
theorem jm_mc128 : lw_tbl[1443]? = some (.code yX10_leftOf cX10_leftOf 5 (some .int)) := rfl
set_option maxRecDepth 100000 in
theorem jm_mc129 : lw_tbl[1451]? = some (.code yX10_rightOf cX10_rightOf 5 (some .int)) := rfl
set_option maxRecDepth 100000 in
theorem jm_mc130 : lw_tbl[1459]? = some (.code yX10_isFace cX10_isFace 2 (some .boolean)) := rfl
set_option maxRecDepth 100000 in
theorem jm_mc131 : lw_tbl[1521]? = some (.code yX10_faces cX10_faces 3 (some .int)) := rfl
set_option maxRecDepth 100000 in
theorem jm_mc132 : lw_tbl[1419]? = some (.code yX10_edges cX10_edges 3 (some .int)) := rfl
set_option maxRecDepth 100000 in
theorem jm_mc133 : lw_tbl[1332]? = some (.code yX10_feed cX10_feed 6 (some .int)) := rfl
set_option maxRecDepth 100000 in
theorem jm_mc134 : lw_tbl[1336]? = some (.code yX10_puts cX10_puts 3 none) := rfl
set_option maxRecDepth 100000 in
theorem jm_mc135 : lw_tbl[1351]? = some (.code yX10_byteAt cX10_byteAt 2 (some .int)) := rfl
set_option maxRecDepth 100000 in
theorem jm_mc136 : lw_tbl[1354]? = some (.code yX10_isLetter cX10_isLetter 1 (some .boolean)) := rfl
set_option maxRecDepth 100000 in
theorem jm_mc137 : lw_tbl[1360]? = some (.code yX10_isDigit cX10_isDigit 1 (some .boolean)) := rfl
set_option maxRecDepth 100000 in
theorem jm_mc138 : lw_tbl[1364]? = some (.code yX10_number cX10_number 3 none) := rfl
set_option maxRecDepth 100000 in
theorem jm_mc139 : lw_tbl[1347]? = some (.code yX10_go cX10_go 2 none) := rfl
set_option maxRecDepth 100000 in
theorem jm_mc140 : lw_tbl[1371]? = some (.code yX10_isWord cX10_isWord 3 (some .boolean)) := rfl
set_option maxRecDepth 100000 in
theorem jm_mc141 : lw_tbl[1375]? = some (.code yX10_wrong cX10_wrong 2 (some .boolean)) := rfl
set_option maxRecDepth 100000 in
theorem jm_mc142 : lw_tbl[1379]? = some (.code yX10_number_ cX10_number_ 3 (some .boolean)) := rfl
set_option maxRecDepth 100000 in
theorem jm_mc143 : lw_tbl[1387]? = some (.code yX10_whichHere cX10_whichHere 1 (some .int)) := rfl
set_option maxRecDepth 100000 in
theorem jm_mc144 : lw_tbl[1391]? = some (.code yX10_keeps cX10_keeps 5 (some .boolean)) := rfl
set_option maxRecDepth 100000 in
theorem jm_mc145 : lw_tbl[1383]? = some (.code yX10_line cX10_line 4 (some .boolean)) := rfl
set_option maxRecDepth 100000 in
theorem jm_mc146 : lw_tbl[1395]? = some (.code yX10_bears cX10_bears 6 none) := rfl
set_option maxRecDepth 100000 in
theorem jm_mc147 : lw_tbl[1340]? = some (.code yX10_text cX10_text 4 (some .int)) := rfl
set_option maxRecDepth 100000 in
theorem jm_mc148 : lw_tbl[1415]? = some (.code yX10_grid cX10_grid 3 (some .int)) := rfl
set_option maxRecDepth 100000 in
theorem jm_mc149 : lw_tbl[1423]? = some (.code yX10_slant cX10_slant 4 (some .int)) := rfl
set_option maxRecDepth 100000 in
theorem jm_mc150 : lw_tbl[1427]? = some (.code yX10_bears_ cX10_bears_ 4 (some .boolean)) := rfl
set_option maxRecDepth 100000 in
theorem jm_mc151 : lw_tbl[1431]? = some (.code yX10_edge cX10_edge 3 (some .int)) := rfl
set_option maxRecDepth 100000 in
theorem jm_mc152 : lw_tbl[1463]? = some (.code yX10_isAround cX10_isAround 3 (some .boolean)) := rfl
set_option maxRecDepth 100000 in
theorem jm_mc153 : lw_tbl[1455]? = some (.code yX10_around cX10_around 4 (some .int)) := rfl
set_option maxRecDepth 100000 in
theorem jm_mc154 : lw_tbl[1480]? = some (.code yX10_leftNow cX10_leftNow 3 (some .int)) := rfl
set_option maxRecDepth 100000 in
theorem jm_mc155 : lw_tbl[1484]? = some (.code yX10_rightNow cX10_rightNow 3 (some .int)) := rfl
set_option maxRecDepth 100000 in
theorem jm_mc156 : lw_tbl[1492]? = some (.code yX10_isLess cX10_isLess 4 (some .boolean)) := rfl
set_option maxRecDepth 100000 in
theorem jm_mc157 : lw_tbl[1488]? = some (.code yX10_relaxes cX10_relaxes 4 (some .boolean)) := rfl
set_option maxRecDepth 100000 in
theorem jm_mc158 : lw_tbl[1475]? = some (.code yX10_laysCosts cX10_laysCosts 10 (some .boolean)) := rfl
set_option maxRecDepth 100000 in
theorem jm_mc159 : lw_tbl[1471]? = some (.code yX10_canCirculate cX10_canCirculate 1 (some .boolean)) := rfl
set_option maxRecDepth 100000 in
theorem jm_mc160 : lw_tbl[1467]? = some (.code yX10_distance cX10_distance 4 (some .int)) := rfl
set_option maxRecDepth 100000 in
theorem jm_mc161 : lw_tbl[1501]? = some (.code yX10_nextEdge cX10_nextEdge 7 (some .int)) := rfl
set_option maxRecDepth 100000 in
theorem jm_mc162 : lw_tbl[1497]? = some (.code yX10_route cX10_route 8 (some .int)) := rfl
set_option maxRecDepth 100000 in
theorem jm_mc163 : lw_tbl[1505]? = some (.code yX10_circulates cX10_circulates 1 (some .int)) := rfl
set_option maxRecDepth 100000 in
theorem jm_mc164 : lw_tbl[1509]? = some (.code yX10_potential cX10_potential 2 (some .int)) := rfl
set_option maxRecDepth 100000 in
theorem jm_mc165 : lw_tbl[1525]? = some (.code yX10_betters cX10_betters 5 (some .boolean)) := rfl
set_option maxRecDepth 100000 in
theorem jm_mc166 : lw_tbl[1533]? = some (.code yX10_ahead cX10_ahead 3 (some .int)) := rfl
set_option maxRecDepth 100000 in
theorem jm_mc167 : lw_tbl[1529]? = some (.code yX10_firstBetter cX10_firstBetter 2 (some .int)) := rfl
set_option maxRecDepth 100000 in
theorem jm_mc168 : lw_tbl[1517]? = some (.code yX10_laysRing cX10_laysRing 6 (some .boolean)) := rfl
set_option maxRecDepth 100000 in
theorem jm_mc169 : lw_tbl[1513]? = some (.code yX10_ring cX10_ring 2 (some .int)) := rfl
set_option maxRecDepth 100000 in
theorem jm_mc170 : lw_tbl[1549]? = some (.code yX10_circulates0 cX10_circulates0 2 (some .boolean)) := rfl
set_option maxRecDepth 100000 in
theorem jm_mc171 : lw_tbl[1569]? = some (.code yX10_leftOn cX10_leftOn 3 (some .int)) := rfl
set_option maxRecDepth 100000 in
theorem jm_mc172 : lw_tbl[1561]? = some (.code yX10_edgeAt cX10_edgeAt 6 (some .int)) := rfl
set_option maxRecDepth 100000 in
theorem jm_mc173 : lw_tbl[1565]? = some (.code yX10_otherEnd cX10_otherEnd 3 (some .int)) := rfl
set_option maxRecDepth 100000 in
theorem jm_mc174 : lw_tbl[1573]? = some (.code yX10_isEnd cX10_isEnd 3 (some .boolean)) := rfl
set_option maxRecDepth 100000 in
theorem jm_mc175 : lw_tbl[1557]? = some (.code yX10_search cX10_search 8 (some .boolean)) := rfl
set_option maxRecDepth 100000 in
theorem jm_mc176 : lw_tbl[1577]? = some (.code yX10_leastOnWay cX10_leastOnWay 4 (some .int)) := rfl
set_option maxRecDepth 100000 in
theorem jm_mc177 : lw_tbl[1581]? = some (.code yX10_pushes cX10_pushes 3 none) := rfl
set_option maxRecDepth 100000 in
theorem jm_mc178 : lw_tbl[1553]? = some (.code yX10_flowsMore cX10_flowsMore 6 (some .int)) := rfl
set_option maxRecDepth 100000 in
theorem jm_mc179 : lw_tbl[1589]? = some (.code yX10_isTold cX10_isTold 4 none) := rfl
set_option maxRecDepth 100000 in
theorem jm_mc180 : lw_tbl[1585]? = some (.code yX10_givesNothing cX10_givesNothing 2 none) := rfl
set_option maxRecDepth 100000 in
theorem jm_mc181 : lw_tbl[1541]? = some (.code yX10_areTwo cX10_areTwo 3 (some .boolean)) := rfl
set_option maxRecDepth 100000 in
theorem jm_mc182 : lw_tbl[1545]? = some (.code yX10_valueOf cX10_valueOf 3 (some .int)) := rfl
set_option maxRecDepth 100000 in
theorem jm_mc183 : lw_tbl[1537]? = some (.code yX10_flow cX10_flow 4 (some .int)) := rfl
set_option maxRecDepth 100000 in
theorem jm_mc184 : lw_tbl[1593]? = some (.code yX10_on cX10_on 2 (some .int)) := rfl
set_option maxRecDepth 100000 in
theorem jm_mc185 : lw_tbl[1597]? = some (.code yX10_left cX10_left 3 (some .int)) := rfl
set_option maxRecDepth 100000 in
theorem jm_mc186 : lw_tbl[1601]? = some (.code yX10_ways cX10_ways 2 (some .int)) := rfl
set_option maxRecDepth 100000 in
theorem jm_mc187 : lw_tbl[1605]? = some (.code yX10_excess cX10_excess 4 (some .int)) := rfl
set_option maxRecDepth 100000 in
theorem jm_mc188 : lw_tbl[1625]? = some (.code yX10_leftTold cX10_leftTold 3 (some .int)) := rfl
set_option maxRecDepth 100000 in
theorem jm_mc189 : lw_tbl[1621]? = some (.code yX10_laysSet cX10_laysSet 6 none) := rfl
set_option maxRecDepth 100000 in
theorem jm_mc190 : lw_tbl[1617]? = some (.code yX10_laysSide cX10_laysSide 3 none) := rfl
set_option maxRecDepth 100000 in
theorem jm_mc191 : lw_tbl[1629]? = some (.code yX10_isCut cX10_isCut 2 (some .boolean)) := rfl
set_option maxRecDepth 100000 in
theorem jm_mc192 : lw_tbl[1613]? = some (.code yX10_canCut cX10_canCut 2 (some .boolean)) := rfl
set_option maxRecDepth 100000 in
theorem jm_mc193 : lw_tbl[1609]? = some (.code yX10_cut cX10_cut 6 (some .int)) := rfl
set_option maxRecDepth 100000 in
theorem jm_mc194 : lw_tbl[1637]? = some (.code yX10_areBeside cX10_areBeside 3 (some .boolean)) := rfl
set_option maxRecDepth 100000 in
theorem jm_mc195 : lw_tbl[1633]? = some (.code yX10_rings cX10_rings 8 (some .int)) := rfl
set_option maxRecDepth 100000 in
theorem jm_mc196 : lw_tbl[1645]? = some (.code yX10_isOutside cX10_isOutside 2 (some .boolean)) := rfl
set_option maxRecDepth 100000 in
theorem jm_mc197 : lw_tbl[1649]? = some (.code yX10_edgeClockwise cX10_edgeClockwise 4 (some .int)) := rfl
set_option maxRecDepth 100000 in
theorem jm_mc198 : lw_tbl[1641]? = some (.code yX10_shared cX10_shared 5 (some .int)) := rfl
set_option maxRecDepth 100000 in
theorem jm_mc199 : lw_tbl[1657]? = some (.code yX10_isAt cX10_isAt 5 (some .boolean)) := rfl
set_option maxRecDepth 100000 in
theorem jm_mc200 : lw_tbl[1653]? = some (.code yX10_gather cX10_gather 6 (some .int)) := rfl
set_option maxRecDepth 100000 in
theorem jm_mc201 : lw_tbl[1661]? = some (.code yX10_supply cX10_supply 4 (some .int)) := rfl
set_option maxRecDepth 100000 in
theorem jm_mc202 : lw_tbl[1669]? = some (.code yX10_meets cX10_meets 5 (some .int)) := rfl
set_option maxRecDepth 100000 in
theorem jm_mc203 : lw_tbl[1665]? = some (.code yX10_meet cX10_meet 3 (some .int)) := rfl
set_option maxRecDepth 100000 in
theorem jm_mc204 : lw_tbl[1673]? = some (.code yX10_gave cX10_gave 2 (some .int)) := rfl
set_option maxRecDepth 100000 in
theorem jm_mc205 : lw_tbl[1681]? = some (.code yX10_valueBy cX10_valueBy 9 (some .int)) := rfl
set_option maxRecDepth 100000 in
theorem jm_mc206 : lw_tbl[1677]? = some (.code yX10_were cX10_were 5 (some .int)) := rfl
set_option maxRecDepth 100000 in
theorem jm_mc207 : lw_tbl[1685]? = some (.code yX10_counts cX10_counts 8 (some .int)) := rfl
set_option maxRecDepth 100000 in
theorem jm_mc208 : lw_tbl[1689]? = some (.code yX10_worst cX10_worst 7 (some .int)) := rfl
set_option maxRecDepth 100000 in
theorem jm_mc209 : lw_tbl[1693]? = some (.code yX10_image cX10_image 4 (some .boolean)) := rfl
set_option maxRecDepth 100000 in
theorem jm_mc210 : lw_tbl[1697]? = some (.code yX10_back cX10_back 4 (some .boolean)) := rfl
set_option maxRecDepth 100000 in
theorem jm_mc211 : lw_tbl[1709]? = some (.code yX10_allBears cX10_allBears 3 (some .int)) := rfl
set_option maxRecDepth 100000 in
theorem jm_mc212 : lw_tbl[1705]? = some (.code yX10_aslant cX10_aslant 3 (some .int)) := rfl
set_option maxRecDepth 100000 in
theorem jm_mc213 : lw_tbl[1713]? = some (.code yX10_supplied cX10_supplied 4 (some .int)) := rfl
set_option maxRecDepth 100000 in
theorem jm_mc214 : lw_tbl[1701]? = some (.code yX10_count cX10_count 2 (some .int)) := rfl
set_option maxRecDepth 100000 in
theorem jm_mc215 : lw_tbl[186]? = some (.code yJ7_fill_53178 cJ7_fill_53178 4 none) := rfl
end
section
/-! EVERY ROW OF CODE, method by method -/
set_option maxRecDepth 100000 in
theorem jm_ckm0 : jm_ckL 0 0 jm_cd0 = true := by decide +kernel
set_option maxRecDepth 100000 in
theorem jm_ckm1 : jm_ckL 1 0 jm_cd1 = true := by decide +kernel
set_option maxRecDepth 100000 in
theorem jm_ckm2 : jm_ckL 2 0 jm_cd2 = true := by decide +kernel
set_option maxRecDepth 100000 in
theorem jm_ckm3 : jm_ckL 3 0 jm_cd3 = true := by decide +kernel
set_option maxRecDepth 100000 in
theorem jm_ckm4 : jm_ckL 4 0 jm_cd4 = true := by decide +kernel
set_option maxRecDepth 100000 in
theorem jm_ckm5 : jm_ckL 5 0 jm_cd5 = true := by decide +kernel
set_option maxRecDepth 100000 in
theorem jm_ckm6 : jm_ckL 6 0 jm_cd6 = true := by decide +kernel
set_option maxRecDepth 100000 in
theorem jm_ckm7 : jm_ckL 7 0 jm_cd7 = true := by decide +kernel
set_option maxRecDepth 100000 in
theorem jm_ckm8 : jm_ckL 8 0 jm_cd8 = true := by decide +kernel
set_option maxRecDepth 100000 in
theorem jm_ckm9 : jm_ckL 9 0 jm_cd9 = true := by decide +kernel
set_option maxRecDepth 100000 in
theorem jm_ckm10 : jm_ckL 10 0 jm_cd10 = true := by decide +kernel
set_option maxRecDepth 100000 in
theorem jm_ckm11 : jm_ckL 11 0 jm_cd11 = true := by decide +kernel
set_option maxRecDepth 100000 in
theorem jm_ckm12 : jm_ckL 12 0 jm_cd12 = true := by decide +kernel
set_option maxRecDepth 100000 in
theorem jm_ckm13 : jm_ckL 13 0 jm_cd13 = true := by decide +kernel
set_option maxRecDepth 100000 in
theorem jm_ckm14 : jm_ckL 14 0 jm_cd14 = true := by decide +kernel
set_option maxRecDepth 100000 in
theorem jm_ckm15 : jm_ckL 15 0 jm_cd15 = true := by decide +kernel
set_option maxRecDepth 100000 in
theorem jm_ckm16 : jm_ckL 16 0 jm_cd16 = true := by decide +kernel
set_option maxRecDepth 100000 in
theorem jm_ckm17 : jm_ckL 17 0 jm_cd17 = true := by decide +kernel
set_option maxRecDepth 100000 in
theorem jm_ckm18 : jm_ckL 18 0 jm_cd18 = true := by decide +kernel
set_option maxRecDepth 100000 in
theorem jm_ckm19 : jm_ckL 19 0 jm_cd19 = true := by decide +kernel
set_option maxRecDepth 100000 in
theorem jm_ckm20 : jm_ckL 20 0 jm_cd20 = true := by decide +kernel
set_option maxRecDepth 100000 in
theorem jm_ckm21 : jm_ckL 21 0 jm_cd21 = true := by decide +kernel
set_option maxRecDepth 100000 in
theorem jm_ckm22 : jm_ckL 22 0 jm_cd22 = true := by decide +kernel
set_option maxRecDepth 100000 in
theorem jm_ckm23 : jm_ckL 23 0 jm_cd23 = true := by decide +kernel
set_option maxRecDepth 100000 in
theorem jm_ckm24 : jm_ckL 24 0 jm_cd24 = true := by decide +kernel
set_option maxRecDepth 100000 in
theorem jm_ckm25 : jm_ckL 25 0 jm_cd25 = true := by decide +kernel
set_option maxRecDepth 100000 in
theorem jm_ckm26 : jm_ckL 26 0 jm_cd26 = true := by decide +kernel
set_option maxRecDepth 100000 in
theorem jm_ckm27 : jm_ckL 27 0 jm_cd27 = true := by decide +kernel
set_option maxRecDepth 100000 in
theorem jm_ckm28 : jm_ckL 28 0 jm_cd28 = true := by decide +kernel
set_option maxRecDepth 100000 in
theorem jm_ckm29 : jm_ckL 29 0 jm_cd29 = true := by decide +kernel
set_option maxRecDepth 100000 in
theorem jm_ckm30 : jm_ckL 30 0 jm_cd30 = true := by decide +kernel
set_option maxRecDepth 100000 in
theorem jm_ckm31 : jm_ckL 31 0 jm_cd31 = true := by decide +kernel
set_option maxRecDepth 100000 in
theorem jm_ckm32 : jm_ckL 32 0 jm_cd32 = true := by decide +kernel
set_option maxRecDepth 100000 in
theorem jm_ckm33 : jm_ckL 33 0 jm_cd33 = true := by decide +kernel
set_option maxRecDepth 100000 in
theorem jm_ckm34 : jm_ckL 34 0 jm_cd34 = true := by decide +kernel
set_option maxRecDepth 100000 in
theorem jm_ckm35 : jm_ckL 35 0 jm_cd35 = true := by decide +kernel
set_option maxRecDepth 100000 in
theorem jm_ckm36 : jm_ckL 36 0 jm_cd36 = true := by decide +kernel
set_option maxRecDepth 100000 in
theorem jm_ckm37 : jm_ckL 37 0 jm_cd37 = true := by decide +kernel
set_option maxRecDepth 100000 in
theorem jm_ckm38 : jm_ckL 38 0 jm_cd38 = true := by decide +kernel
set_option maxRecDepth 100000 in
theorem jm_ckm39 : jm_ckL 39 0 jm_cd39 = true := by decide +kernel
set_option maxRecDepth 100000 in
theorem jm_ckm40 : jm_ckL 40 0 jm_cd40 = true := by decide +kernel
set_option maxRecDepth 100000 in
theorem jm_ckm41 : jm_ckL 41 0 jm_cd41 = true := by decide +kernel
set_option maxRecDepth 100000 in
theorem jm_ckm42 : jm_ckL 42 0 jm_cd42 = true := by decide +kernel
set_option maxRecDepth 100000 in
theorem jm_ckm43 : jm_ckL 43 0 jm_cd43 = true := by decide +kernel
set_option maxRecDepth 100000 in
theorem jm_ckm44 : jm_ckL 44 0 jm_cd44 = true := by decide +kernel
set_option maxRecDepth 100000 in
theorem jm_ckm45 : jm_ckL 45 0 jm_cd45 = true := by decide +kernel
set_option maxRecDepth 100000 in
theorem jm_ckm46 : jm_ckL 46 0 jm_cd46 = true := by decide +kernel
set_option maxRecDepth 100000 in
theorem jm_ckm47 : jm_ckL 47 0 jm_cd47 = true := by decide +kernel
set_option maxRecDepth 100000 in
theorem jm_ckm48 : jm_ckL 48 0 jm_cd48 = true := by decide +kernel
set_option maxRecDepth 100000 in
theorem jm_ckm49 : jm_ckL 49 0 jm_cd49 = true := by decide +kernel
set_option maxRecDepth 100000 in
theorem jm_ckm50 : jm_ckL 50 0 jm_cd50 = true := by decide +kernel
set_option maxRecDepth 100000 in
theorem jm_ckm51 : jm_ckL 51 0 jm_cd51 = true := by decide +kernel
set_option maxRecDepth 100000 in
theorem jm_ckm52 : jm_ckL 52 0 jm_cd52 = true := by decide +kernel
set_option maxRecDepth 100000 in
theorem jm_ckm53 : jm_ckL 53 0 jm_cd53 = true := by decide +kernel
set_option maxRecDepth 100000 in
theorem jm_ckm54 : jm_ckL 54 0 jm_cd54 = true := by decide +kernel
set_option maxRecDepth 100000 in
theorem jm_ckm55 : jm_ckL 55 0 jm_cd55 = true := by decide +kernel
set_option maxRecDepth 100000 in
theorem jm_ckm56 : jm_ckL 56 0 jm_cd56 = true := by decide +kernel
set_option maxRecDepth 100000 in
theorem jm_ckm57 : jm_ckL 57 0 jm_cd57 = true := by decide +kernel
set_option maxRecDepth 100000 in
theorem jm_ckm58 : jm_ckL 58 0 jm_cd58 = true := by decide +kernel
set_option maxRecDepth 100000 in
theorem jm_ckm59 : jm_ckL 59 0 jm_cd59 = true := by decide +kernel
set_option maxRecDepth 100000 in
theorem jm_ckm60 : jm_ckL 60 0 jm_cd60 = true := by decide +kernel
set_option maxRecDepth 100000 in
theorem jm_ckm61 : jm_ckL 61 0 jm_cd61 = true := by decide +kernel
set_option maxRecDepth 100000 in
theorem jm_ckm62 : jm_ckL 62 0 jm_cd62 = true := by decide +kernel
set_option maxRecDepth 100000 in
theorem jm_ckm63 : jm_ckL 63 0 jm_cd63 = true := by decide +kernel
set_option maxRecDepth 100000 in
theorem jm_ckm64 : jm_ckL 64 0 jm_cd64 = true := by decide +kernel
set_option maxRecDepth 100000 in
theorem jm_ckm65 : jm_ckL 65 0 jm_cd65 = true := by decide +kernel
set_option maxRecDepth 100000 in
theorem jm_ckm66 : jm_ckL 66 0 jm_cd66 = true := by decide +kernel
set_option maxRecDepth 100000 in
theorem jm_ckm67 : jm_ckL 67 0 jm_cd67 = true := by decide +kernel
set_option maxRecDepth 100000 in
theorem jm_ckm68 : jm_ckL 68 0 jm_cd68 = true := by decide +kernel
set_option maxRecDepth 100000 in
theorem jm_ckm69 : jm_ckL 69 0 jm_cd69 = true := by decide +kernel
set_option maxRecDepth 100000 in
theorem jm_ckm70 : jm_ckL 70 0 jm_cd70 = true := by decide +kernel
set_option maxRecDepth 100000 in
theorem jm_ckm71 : jm_ckL 71 0 jm_cd71 = true := by decide +kernel
set_option maxRecDepth 100000 in
theorem jm_ckm72 : jm_ckL 72 0 jm_cd72 = true := by decide +kernel
set_option maxRecDepth 100000 in
theorem jm_ckm73 : jm_ckL 73 0 jm_cd73 = true := by decide +kernel
set_option maxRecDepth 100000 in
theorem jm_ckm74 : jm_ckL 74 0 jm_cd74 = true := by decide +kernel
set_option maxRecDepth 100000 in
theorem jm_ckm75 : jm_ckL 75 0 jm_cd75 = true := by decide +kernel
set_option maxRecDepth 100000 in
theorem jm_ckm76 : jm_ckL 76 0 jm_cd76 = true := by decide +kernel
set_option maxRecDepth 100000 in
theorem jm_ckm77 : jm_ckL 77 0 jm_cd77 = true := by decide +kernel
set_option maxRecDepth 100000 in
theorem jm_ckm78 : jm_ckL 78 0 jm_cd78 = true := by decide +kernel
set_option maxRecDepth 100000 in
theorem jm_ckm79 : jm_ckL 79 0 jm_cd79 = true := by decide +kernel
set_option maxRecDepth 100000 in
theorem jm_ckm80 : jm_ckL 80 0 jm_cd80 = true := by decide +kernel
set_option maxRecDepth 100000 in
theorem jm_ckm81 : jm_ckL 81 0 jm_cd81 = true := by decide +kernel
set_option maxRecDepth 100000 in
theorem jm_ckm82 : jm_ckL 82 0 jm_cd82 = true := by decide +kernel
set_option maxRecDepth 100000 in
theorem jm_ckm83 : jm_ckL 83 0 jm_cd83 = true := by decide +kernel
set_option maxRecDepth 100000 in
theorem jm_ckm84 : jm_ckL 84 0 jm_cd84 = true := by decide +kernel
set_option maxRecDepth 100000 in
theorem jm_ckm85 : jm_ckL 85 0 jm_cd85 = true := by decide +kernel
set_option maxRecDepth 100000 in
theorem jm_ckm86 : jm_ckL 86 0 jm_cd86 = true := by decide +kernel
set_option maxRecDepth 100000 in
theorem jm_ckm87 : jm_ckL 87 0 jm_cd87 = true := by decide +kernel
set_option maxRecDepth 100000 in
theorem jm_ckm88 : jm_ckL 88 0 jm_cd88 = true := by decide +kernel
set_option maxRecDepth 100000 in
theorem jm_ckm89 : jm_ckL 89 0 jm_cd89 = true := by decide +kernel
set_option maxRecDepth 100000 in
theorem jm_ckm90 : jm_ckL 90 0 jm_cd90 = true := by decide +kernel
set_option maxRecDepth 100000 in
theorem jm_ckm91 : jm_ckL 91 0 jm_cd91 = true := by decide +kernel
set_option maxRecDepth 100000 in
theorem jm_ckm92 : jm_ckL 92 0 jm_cd92 = true := by decide +kernel
set_option maxRecDepth 100000 in
theorem jm_ckm93 : jm_ckL 93 0 jm_cd93 = true := by decide +kernel
set_option maxRecDepth 100000 in
theorem jm_ckm94 : jm_ckL 94 0 jm_cd94 = true := by decide +kernel
set_option maxRecDepth 100000 in
theorem jm_ckm95 : jm_ckL 95 0 jm_cd95 = true := by decide +kernel
set_option maxRecDepth 100000 in
theorem jm_ckm96 : jm_ckL 96 0 jm_cd96 = true := by decide +kernel
set_option maxRecDepth 100000 in
theorem jm_ckm97 : jm_ckL 97 0 jm_cd97 = true := by decide +kernel
set_option maxRecDepth 100000 in
theorem jm_ckm98 : jm_ckL 98 0 jm_cd98 = true := by decide +kernel
set_option maxRecDepth 100000 in
theorem jm_ckm99 : jm_ckL 99 0 jm_cd99 = true := by decide +kernel
set_option maxRecDepth 100000 in
theorem jm_ckm100 : jm_ckL 100 0 jm_cd100 = true := by decide +kernel
set_option maxRecDepth 100000 in
theorem jm_ckm101 : jm_ckL 101 0 jm_cd101 = true := by decide +kernel
set_option maxRecDepth 100000 in
theorem jm_ckm102 : jm_ckL 102 0 jm_cd102 = true := by decide +kernel
set_option maxRecDepth 100000 in
theorem jm_ckm103 : jm_ckL 103 0 jm_cd103 = true := by decide +kernel
set_option maxRecDepth 100000 in
theorem jm_ckm104 : jm_ckL 104 0 jm_cd104 = true := by decide +kernel
set_option maxRecDepth 100000 in
theorem jm_ckm105 : jm_ckL 105 0 jm_cd105 = true := by decide +kernel
set_option maxRecDepth 100000 in
theorem jm_ckm106 : jm_ckL 106 0 jm_cd106 = true := by decide +kernel
set_option maxRecDepth 100000 in
theorem jm_ckm107 : jm_ckL 107 0 jm_cd107 = true := by decide +kernel
set_option maxRecDepth 100000 in
theorem jm_ckm108 : jm_ckL 108 0 jm_cd108 = true := by decide +kernel
set_option maxRecDepth 100000 in
theorem jm_ckm109 : jm_ckL 109 0 jm_cd109 = true := by decide +kernel
set_option maxRecDepth 100000 in
theorem jm_ckm110 : jm_ckL 110 0 jm_cd110 = true := by decide +kernel
set_option maxRecDepth 100000 in
theorem jm_ckm111 : jm_ckL 111 0 jm_cd111 = true := by decide +kernel
set_option maxRecDepth 100000 in
theorem jm_ckm112 : jm_ckL 112 0 jm_cd112 = true := by decide +kernel
set_option maxRecDepth 100000 in
theorem jm_ckm113 : jm_ckL 113 0 jm_cd113 = true := by decide +kernel
set_option maxRecDepth 100000 in
theorem jm_ckm114 : jm_ckL 114 0 jm_cd114 = true := by decide +kernel
set_option maxRecDepth 100000 in
theorem jm_ckm115 : jm_ckL 115 0 jm_cd115 = true := by decide +kernel
set_option maxRecDepth 100000 in
theorem jm_ckm116 : jm_ckL 116 0 jm_cd116 = true := by decide +kernel
set_option maxRecDepth 100000 in
theorem jm_ckm117 : jm_ckL 117 0 jm_cd117 = true := by decide +kernel
set_option maxRecDepth 100000 in
theorem jm_ckm118 : jm_ckL 118 0 jm_cd118 = true := by decide +kernel
set_option maxRecDepth 100000 in
theorem jm_ckm119 : jm_ckL 119 0 jm_cd119 = true := by decide +kernel
set_option maxRecDepth 100000 in
theorem jm_ckm120 : jm_ckL 120 0 jm_cd120 = true := by decide +kernel
set_option maxRecDepth 100000 in
theorem jm_ckm121 : jm_ckL 121 0 jm_cd121 = true := by decide +kernel
set_option maxRecDepth 100000 in
theorem jm_ckm122 : jm_ckL 122 0 jm_cd122 = true := by decide +kernel
set_option maxRecDepth 100000 in
theorem jm_ckm123 : jm_ckL 123 0 jm_cd123 = true := by decide +kernel
set_option maxRecDepth 100000 in
theorem jm_ckm124 : jm_ckL 124 0 jm_cd124 = true := by decide +kernel
set_option maxRecDepth 100000 in
theorem jm_ckm125 : jm_ckL 125 0 jm_cd125 = true := by decide +kernel
set_option maxRecDepth 100000 in
theorem jm_ckm126 : jm_ckL 126 0 jm_cd126 = true := by decide +kernel
set_option maxRecDepth 100000 in
theorem jm_ckm127 : jm_ckL 127 0 jm_cd127 = true := by decide +kernel
set_option maxRecDepth 100000 in
theorem jm_ckm128 : jm_ckL 128 0 jm_cd128 = true := by decide +kernel
set_option maxRecDepth 100000 in
theorem jm_ckm129 : jm_ckL 129 0 jm_cd129 = true := by decide +kernel
set_option maxRecDepth 100000 in
theorem jm_ckm130 : jm_ckL 130 0 jm_cd130 = true := by decide +kernel
set_option maxRecDepth 100000 in
theorem jm_ckm131 : jm_ckL 131 0 jm_cd131 = true := by decide +kernel
set_option maxRecDepth 100000 in
theorem jm_ckm132 : jm_ckL 132 0 jm_cd132 = true := by decide +kernel
set_option maxRecDepth 100000 in
theorem jm_ckm133 : jm_ckL 133 0 jm_cd133 = true := by decide +kernel
set_option maxRecDepth 100000 in
theorem jm_ckm134 : jm_ckL 134 0 jm_cd134 = true := by decide +kernel
set_option maxRecDepth 100000 in
theorem jm_ckm135 : jm_ckL 135 0 jm_cd135 = true := by decide +kernel
set_option maxRecDepth 100000 in
theorem jm_ckm136 : jm_ckL 136 0 jm_cd136 = true := by decide +kernel
set_option maxRecDepth 100000 in
theorem jm_ckm137 : jm_ckL 137 0 jm_cd137 = true := by decide +kernel
set_option maxRecDepth 100000 in
theorem jm_ckm138 : jm_ckL 138 0 jm_cd138 = true := by decide +kernel
set_option maxRecDepth 100000 in
theorem jm_ckm139 : jm_ckL 139 0 jm_cd139 = true := by decide +kernel
set_option maxRecDepth 100000 in
theorem jm_ckm140 : jm_ckL 140 0 jm_cd140 = true := by decide +kernel
set_option maxRecDepth 100000 in
theorem jm_ckm141 : jm_ckL 141 0 jm_cd141 = true := by decide +kernel
set_option maxRecDepth 100000 in
theorem jm_ckm142 : jm_ckL 142 0 jm_cd142 = true := by decide +kernel
set_option maxRecDepth 100000 in
theorem jm_ckm143 : jm_ckL 143 0 jm_cd143 = true := by decide +kernel
set_option maxRecDepth 100000 in
theorem jm_ckm144 : jm_ckL 144 0 jm_cd144 = true := by decide +kernel
set_option maxRecDepth 100000 in
theorem jm_ckm145 : jm_ckL 145 0 jm_cd145 = true := by decide +kernel
set_option maxRecDepth 100000 in
theorem jm_ckm146 : jm_ckL 146 0 jm_cd146 = true := by decide +kernel
set_option maxRecDepth 100000 in
theorem jm_ckm147 : jm_ckL 147 0 jm_cd147 = true := by decide +kernel
set_option maxRecDepth 100000 in
theorem jm_ckm148 : jm_ckL 148 0 jm_cd148 = true := by decide +kernel
set_option maxRecDepth 100000 in
theorem jm_ckm149 : jm_ckL 149 0 jm_cd149 = true := by decide +kernel
set_option maxRecDepth 100000 in
theorem jm_ckm150 : jm_ckL 150 0 jm_cd150 = true := by decide +kernel
set_option maxRecDepth 100000 in
theorem jm_ckm151 : jm_ckL 151 0 jm_cd151 = true := by decide +kernel
set_option maxRecDepth 100000 in
theorem jm_ckm152 : jm_ckL 152 0 jm_cd152 = true := by decide +kernel
set_option maxRecDepth 100000 in
theorem jm_ckm153 : jm_ckL 153 0 jm_cd153 = true := by decide +kernel
set_option maxRecDepth 100000 in
theorem jm_ckm154 : jm_ckL 154 0 jm_cd154 = true := by decide +kernel
set_option maxRecDepth 100000 in
theorem jm_ckm155 : jm_ckL 155 0 jm_cd155 = true := by decide +kernel
set_option maxRecDepth 100000 in
theorem jm_ckm156 : jm_ckL 156 0 jm_cd156 = true := by decide +kernel
set_option maxRecDepth 100000 in
theorem jm_ckm157 : jm_ckL 157 0 jm_cd157 = true := by decide +kernel
set_option maxRecDepth 100000 in
theorem jm_ckm158 : jm_ckL 158 0 jm_cd158 = true := by decide +kernel
set_option maxRecDepth 100000 in
theorem jm_ckm159 : jm_ckL 159 0 jm_cd159 = true := by decide +kernel
set_option maxRecDepth 100000 in
theorem jm_ckm160 : jm_ckL 160 0 jm_cd160 = true := by decide +kernel
set_option maxRecDepth 100000 in
theorem jm_ckm161 : jm_ckL 161 0 jm_cd161 = true := by decide +kernel
set_option maxRecDepth 100000 in
theorem jm_ckm162 : jm_ckL 162 0 jm_cd162 = true := by decide +kernel
set_option maxRecDepth 100000 in
theorem jm_ckm163 : jm_ckL 163 0 jm_cd163 = true := by decide +kernel
set_option maxRecDepth 100000 in
theorem jm_ckm164 : jm_ckL 164 0 jm_cd164 = true := by decide +kernel
set_option maxRecDepth 100000 in
theorem jm_ckm165 : jm_ckL 165 0 jm_cd165 = true := by decide +kernel
set_option maxRecDepth 100000 in
theorem jm_ckm166 : jm_ckL 166 0 jm_cd166 = true := by decide +kernel
set_option maxRecDepth 100000 in
theorem jm_ckm167 : jm_ckL 167 0 jm_cd167 = true := by decide +kernel
set_option maxRecDepth 100000 in
theorem jm_ckm168 : jm_ckL 168 0 jm_cd168 = true := by decide +kernel
set_option maxRecDepth 100000 in
theorem jm_ckm169 : jm_ckL 169 0 jm_cd169 = true := by decide +kernel
set_option maxRecDepth 100000 in
theorem jm_ckm170 : jm_ckL 170 0 jm_cd170 = true := by decide +kernel
set_option maxRecDepth 100000 in
theorem jm_ckm171 : jm_ckL 171 0 jm_cd171 = true := by decide +kernel
set_option maxRecDepth 100000 in
theorem jm_ckm172 : jm_ckL 172 0 jm_cd172 = true := by decide +kernel
set_option maxRecDepth 100000 in
theorem jm_ckm173 : jm_ckL 173 0 jm_cd173 = true := by decide +kernel
set_option maxRecDepth 100000 in
theorem jm_ckm174 : jm_ckL 174 0 jm_cd174 = true := by decide +kernel
set_option maxRecDepth 100000 in
theorem jm_ckm175 : jm_ckL 175 0 jm_cd175 = true := by decide +kernel
set_option maxRecDepth 100000 in
theorem jm_ckm176 : jm_ckL 176 0 jm_cd176 = true := by decide +kernel
set_option maxRecDepth 100000 in
theorem jm_ckm177 : jm_ckL 177 0 jm_cd177 = true := by decide +kernel
set_option maxRecDepth 100000 in
theorem jm_ckm178 : jm_ckL 178 0 jm_cd178 = true := by decide +kernel
set_option maxRecDepth 100000 in
theorem jm_ckm179 : jm_ckL 179 0 jm_cd179 = true := by decide +kernel
set_option maxRecDepth 100000 in
theorem jm_ckm180 : jm_ckL 180 0 jm_cd180 = true := by decide +kernel
set_option maxRecDepth 100000 in
theorem jm_ckm181 : jm_ckL 181 0 jm_cd181 = true := by decide +kernel
set_option maxRecDepth 100000 in
theorem jm_ckm182 : jm_ckL 182 0 jm_cd182 = true := by decide +kernel
set_option maxRecDepth 100000 in
theorem jm_ckm183 : jm_ckL 183 0 jm_cd183 = true := by decide +kernel
set_option maxRecDepth 100000 in
theorem jm_ckm184 : jm_ckL 184 0 jm_cd184 = true := by decide +kernel
set_option maxRecDepth 100000 in
theorem jm_ckm185 : jm_ckL 185 0 jm_cd185 = true := by decide +kernel
set_option maxRecDepth 100000 in
theorem jm_ckm186 : jm_ckL 186 0 jm_cd186 = true := by decide +kernel
set_option maxRecDepth 100000 in
theorem jm_ckm187 : jm_ckL 187 0 jm_cd187 = true := by decide +kernel
set_option maxRecDepth 100000 in
theorem jm_ckm188 : jm_ckL 188 0 jm_cd188 = true := by decide +kernel
set_option maxRecDepth 100000 in
theorem jm_ckm189 : jm_ckL 189 0 jm_cd189 = true := by decide +kernel
set_option maxRecDepth 100000 in
theorem jm_ckm190 : jm_ckL 190 0 jm_cd190 = true := by decide +kernel
set_option maxRecDepth 100000 in
theorem jm_ckm191 : jm_ckL 191 0 jm_cd191 = true := by decide +kernel
set_option maxRecDepth 100000 in
theorem jm_ckm192 : jm_ckL 192 0 jm_cd192 = true := by decide +kernel
set_option maxRecDepth 100000 in
theorem jm_ckm193 : jm_ckL 193 0 jm_cd193 = true := by decide +kernel
set_option maxRecDepth 100000 in
theorem jm_ckm194 : jm_ckL 194 0 jm_cd194 = true := by decide +kernel
set_option maxRecDepth 100000 in
theorem jm_ckm195 : jm_ckL 195 0 jm_cd195 = true := by decide +kernel
set_option maxRecDepth 100000 in
theorem jm_ckm196 : jm_ckL 196 0 jm_cd196 = true := by decide +kernel
set_option maxRecDepth 100000 in
theorem jm_ckm197 : jm_ckL 197 0 jm_cd197 = true := by decide +kernel
set_option maxRecDepth 100000 in
theorem jm_ckm198 : jm_ckL 198 0 jm_cd198 = true := by decide +kernel
set_option maxRecDepth 100000 in
theorem jm_ckm199 : jm_ckL 199 0 jm_cd199 = true := by decide +kernel
set_option maxRecDepth 100000 in
theorem jm_ckm200 : jm_ckL 200 0 jm_cd200 = true := by decide +kernel
set_option maxRecDepth 100000 in
theorem jm_ckm201 : jm_ckL 201 0 jm_cd201 = true := by decide +kernel
set_option maxRecDepth 100000 in
theorem jm_ckm202 : jm_ckL 202 0 jm_cd202 = true := by decide +kernel
set_option maxRecDepth 100000 in
theorem jm_ckm203 : jm_ckL 203 0 jm_cd203 = true := by decide +kernel
set_option maxRecDepth 100000 in
theorem jm_ckm204 : jm_ckL 204 0 jm_cd204 = true := by decide +kernel
set_option maxRecDepth 100000 in
theorem jm_ckm205 : jm_ckL 205 0 jm_cd205 = true := by decide +kernel
set_option maxRecDepth 100000 in
theorem jm_ckm206 : jm_ckL 206 0 jm_cd206 = true := by decide +kernel
set_option maxRecDepth 100000 in
theorem jm_ckm207 : jm_ckL 207 0 jm_cd207 = true := by decide +kernel
set_option maxRecDepth 100000 in
theorem jm_ckm208 : jm_ckL 208 0 jm_cd208 = true := by decide +kernel
set_option maxRecDepth 100000 in
theorem jm_ckm209 : jm_ckL 209 0 jm_cd209 = true := by decide +kernel
set_option maxRecDepth 100000 in
theorem jm_ckm210 : jm_ckL 210 0 jm_cd210 = true := by decide +kernel
set_option maxRecDepth 100000 in
theorem jm_ckm211 : jm_ckL 211 0 jm_cd211 = true := by decide +kernel
set_option maxRecDepth 100000 in
theorem jm_ckm212 : jm_ckL 212 0 jm_cd212 = true := by decide +kernel
set_option maxRecDepth 100000 in
theorem jm_ckm213 : jm_ckL 213 0 jm_cd213 = true := by decide +kernel
set_option maxRecDepth 100000 in
theorem jm_ckm214 : jm_ckL 214 0 jm_cd214 = true := by decide +kernel
set_option maxRecDepth 100000 in
theorem jm_ckm215 : jm_ckL 215 0 jm_cd215 = true := by decide +kernel
end
section
/-! THE LAW, in pieces -/
set_option maxRecDepth 100000 in
theorem jm_ckm216_0 : jm_ckL 216 0 jm_cd216_0 = true := by decide +kernel
set_option maxRecDepth 100000 in
theorem jm_ckm216_1 : jm_ckL 216 100 jm_cd216_1 = true := by decide +kernel
set_option maxRecDepth 100000 in
theorem jm_ckm216_2 : jm_ckL 216 200 jm_cd216_2 = true := by decide +kernel
end
section
/-! THE LAW, in pieces -/
set_option maxRecDepth 100000 in
theorem jm_ckm216_3 : jm_ckL 216 300 jm_cd216_3 = true := by decide +kernel
set_option maxRecDepth 100000 in
theorem jm_ckm216_4 : jm_ckL 216 400 jm_cd216_4 = true := by decide +kernel
set_option maxRecDepth 100000 in
theorem jm_ckm216_5 : jm_ckL 216 500 jm_cd216_5 = true := by decide +kernel
end
section
/-! THE LAW, in pieces -/
set_option maxRecDepth 100000 in
theorem jm_ckm216_6 : jm_ckL 216 600 jm_cd216_6 = true := by decide +kernel
set_option maxRecDepth 100000 in
theorem jm_ckm216_7 : jm_ckL 216 700 jm_cd216_7 = true := by decide +kernel
set_option maxRecDepth 100000 in
theorem jm_ckm216_8 : jm_ckL 216 800 jm_cd216_8 = true := by decide +kernel
end
section
/-! THE EFFECT OF AN INSTRUCTION, what a run comes to, and the rule by which a stretch of code is run -/
def jm_b2 (M : jm_Mem) (st : List jm_V) (f : Int → Int → List jm_V → jm_Eff) : jm_Eff := match st with
  | .inl y :: .inl x :: r => f x y r
  | _ => jm_bad M
def jm_l2 (M : jm_Mem) (st : List jm_V) (f : Int → Int → List jm_V → jm_Eff) : jm_Eff := match st with
  | .inr (.inr y) :: .inr (.inr x) :: r => f x y r
  | _ => jm_bad M
def jm_u1 (M : jm_Mem) (st : List jm_V) (f : Int → List jm_V → jm_Eff) : jm_Eff := match st with
  | .inl x :: r => f x r
  | _ => jm_bad M
def jm_ldI (k : Nat) (ls : jm_Ls) (st : List jm_V) (M : jm_Mem) (i : Nat) : jm_Eff := match jm_lg ls i with
  | some (.inl x) => jm_go (k + 1) ls (.inl x :: st) M
  | _ => jm_bad M
def jm_ldA (k : Nat) (ls : jm_Ls) (st : List jm_V) (M : jm_Mem) (i : Nat) : jm_Eff := match jm_lg ls i with
  | some (.inr (.inl c)) => jm_go (k + 1) ls (.inr (.inl c) :: st) M
  | _ => jm_bad M
def jm_ldL (k : Nat) (ls : jm_Ls) (st : List jm_V) (M : jm_Mem) (i : Nat) : jm_Eff := match jm_lg ls i with
  | some (.inr (.inr x)) => jm_go (k + 1) ls (.inr (.inr x) :: st) M
  | _ => jm_bad M
def jm_stI (k : Nat) (ls : jm_Ls) (st : List jm_V) (M : jm_Mem) (i : Nat) : jm_Eff := match st with
  | .inl x :: r => jm_go (k + 1) (jm_ls ls i (.inl x)) r M
  | _ => jm_bad M
def jm_stA (k : Nat) (ls : jm_Ls) (st : List jm_V) (M : jm_Mem) (i : Nat) : jm_Eff := match st with
  | .inr (.inl c) :: r => jm_go (k + 1) (jm_ls ls i (.inr (.inl c))) r M
  | _ => jm_bad M
def jm_i1 (k : Nat) (c : ClassFile.Cond) (t : Nat) (ls : jm_Ls) (st : List jm_V) (M : jm_Mem) : jm_Eff := jm_u1 M st fun x r => match c with
  | .eq => jm_br (x = 0) t (k + 1) ls r M
  | .ne => jm_br (x = 0) (k + 1) t ls r M
  | .lt => jm_br (x < 0) t (k + 1) ls r M
  | .ge => jm_br (x < 0) (k + 1) t ls r M
  | .gt => jm_br (0 < x) t (k + 1) ls r M
  | .le => jm_br (0 < x) (k + 1) t ls r M
def jm_i2 (k : Nat) (c : ClassFile.Cond) (t : Nat) (ls : jm_Ls) (st : List jm_V) (M : jm_Mem) : jm_Eff := jm_b2 M st fun x y r => match c with
  | .eq => jm_br (x = y) t (k + 1) ls r M
  | .ne => jm_br (x = y) (k + 1) t ls r M
  | .lt => jm_br (x < y) t (k + 1) ls r M
  | .ge => jm_br (x < y) (k + 1) t ls r M
  | .gt => jm_br (y < x) t (k + 1) ls r M
  | .le => jm_br (y < x) (k + 1) t ls r M
/-- the law's script: its length stands at place -1 of cell 998 -/
def jm_ald (k : Nat) (ls : jm_Ls) (M : jm_Mem) (c : Nat) (i : Int) (r : List jm_V) : jm_Eff := match Nat.beq c 998 with
  | true => jm_gs [0 ≤ i, i < M 998 (-1)] (k + 1) ls (.inl (M 998 i) :: r) M
  | false => match jm_sh c with
    | (0, n, _) => jm_gs [0 ≤ i, i < (n : Int)] (k + 1) ls (.inl (M c i) :: r) M
    | _ => jm_bad M
def jm_bld (k : Nat) (ls : jm_Ls) (M : jm_Mem) (c : Nat) (i : Int) (r : List jm_V) : jm_Eff := match jm_sh c with
  | (1, n, _) => jm_gs [0 ≤ i, i < (n : Int)] (k + 1) ls (.inl (M c i) :: r) M
  | (2, n, _) => jm_gs [0 ≤ i, i < (n : Int)] (k + 1) ls (.inl (M c i) :: r) M
  | _ => jm_bad M
def jm_get (k f ci : Nat) (ls : jm_Ls) (st : List jm_V) (M : jm_Mem) : jm_Eff := match st with
  | .inr (.inl c) :: r => match Nat.beq (jm_sh c).1 (10 + ci), jm_fk c f with
    | true, some 0 => jm_go (k + 1) ls (.inl (M c (f : Int)) :: r) M
    | true, some 1 => jm_go (k + 1) ls (.inr (.inr (M c (f : Int))) :: r) M
    | true, some 2 => jm_go (k + 1) ls (.inl (M c (f : Int)) :: r) M
    | true, some (t + 3) => jm_go (k + 1) ls (.inr (.inl t) :: r) M
    | _, _ => jm_bad M
  | _ => jm_bad M
def jm_put (k f ci : Nat) (ls : jm_Ls) (st : List jm_V) (M : jm_Mem) : jm_Eff := match st with
  | .inl x :: .inr (.inl c) :: r => match Nat.beq (jm_sh c).1 (10 + ci), jm_fk c f with
    | true, some 0 => jm_go (k + 1) ls r (jm_st M c (f : Int) x)
    | true, some 2 => jm_gs [0 ≤ x, x ≤ 1] (k + 1) ls r (jm_st M c (f : Int) x)
    | _, _ => jm_bad M
  | .inr (.inr x) :: .inr (.inl c) :: r => match Nat.beq (jm_sh c).1 (10 + ci), jm_fk c f with
    | true, some 1 => jm_go (k + 1) ls r (jm_st M c (f : Int) x)
    | _, _ => jm_bad M
  | _ => jm_bad M
/-- the constants' bytes -/
def jm_strT : List (List Int) := [[103, 114, 105, 100], [97, 108, 108], [114, 105, 103, 104, 116], [100, 111, 119, 110], [115, 108, 97, 115, 104], [98, 97, 99, 107]]
def jm_str (s : Nat) : List Int := (jm_nth jm_strT s).getD []
def jm_chr : List Int → Nat → Int
  | [], _ => 0
  | a :: _, 0 => a
  | _ :: l, n + 1 => jm_chr l n
/-- what fits below a call: eight words -/
def jm_ft : List jm_V → Nat → Bool
  | [], _ => true
  | .inr (.inr _) :: r, n + 2 => jm_ft r n
  | .inl _ :: r, n + 1 => jm_ft r n
  | .inr (.inl _) :: r, n + 1 => jm_ft r n
  | _, _ => false
def jm_fit (st : List jm_V) : Bool := jm_ft st 8
/-- no long among the arguments, but for the method that takes one -/
def jm_nla : List jm_V → Bool
  | [] => true
  | .inr (.inr _) :: _ => false
  | _ :: l => jm_nla l
/-- the law's script is no argument -/
def jm_n98 : List jm_V → Bool
  | [] => true
  | .inr (.inl c) :: l => match Nat.beq c 998 with
    | true => false
    | false => jm_n98 l
  | _ :: l => jm_n98 l
def jm_cat : List jm_V → Nat
  | [] => 0
  | .inr (.inr _) :: l => jm_cat l + 2
  | _ :: l => jm_cat l + 1
def jm_alo (mi : Nat) (as : List jm_V) : Bool := match jm_n98 as, Nat.ble (jm_cat as) (jm_mi mi).2.2.2.1 with
  | true, true => match Nat.beq mi 140 with
    | true => true
    | false => jm_nla as
  | _, _ => false
def jm_callv (mi : Nat) (M : jm_Mem) (as rest : List jm_V) : jm_Eff := match as with
  | .inr (.inl c) :: as' => match Nat.beq (jm_sh c).1 (10 + (jm_mi mi).1) with
    | true => .inr (.inl ((jm_mi mi).2.2.2.2.2.2, mi, .inr (.inl c) :: as', rest))
    | false => jm_bad M
  | _ => jm_bad M
def jm_call (mi v : Nat) (st : List jm_V) (M : jm_Mem) : jm_Eff := match Nat.beq (jm_mi mi).2.1 v, jm_tk (jm_mi mi).2.2.1 st [] with
  | true, some (as, rest) => match jm_fit rest, jm_alo mi as with
    | true, true => match v with
      | 0 => .inr (.inl ((jm_mi mi).2.2.2.2.2.2, mi, as, rest))
      | _ => jm_callv mi M as rest
    | _, _ => jm_bad M
  | _, _ => jm_bad M
/-- the law's own methods: a call that may throw, its answer put into the row of one -/
def jm_wr1 (mi : Nat) (st : List jm_V) (M : jm_Mem) : jm_Eff := match st with
  | [.inr (.inl 94), .inl a, .inr (.inl 0)] => .inr (.inl (2, mi, [.inr (.inl 0), .inl a], []))
  | _ => jm_bad M
def jm_wr2 (mi : Nat) (st : List jm_V) (M : jm_Mem) : jm_Eff := match st with
  | [.inr (.inl 94), .inl b, .inl a, .inr (.inl 0)] => .inr (.inl (2, mi, [.inr (.inl 0), .inl a, .inl b], []))
  | _ => jm_bad M
/-- static calls: copies of rows, the law's spelling (one row of five made), then methods -/
def jm_stat (k mi : Nat) (ls : jm_Ls) (st : List jm_V) (M : jm_Mem) : jm_Eff := match mi with
  | 900 => match st with
    | .inl n :: .inl dp :: .inr (.inl d) :: .inl sp :: .inr (.inl s) :: r => match jm_sh s, jm_sh d, jm_fit r, Nat.beq s d with
      | (0, ns, _), (0, nd, _), true, false => jm_gs [0 ≤ sp, 0 ≤ dp, 0 ≤ n, sp + n ≤ (ns : Int), dp + n ≤ (nd : Int)] (k + 1) ls r (jm_sr M d (jm_cpy (M s) (M d) sp dp n))
      | _, _, _, _ => jm_bad M
    | _ => jm_bad M
  | 903 => match st with
    | .inl e :: .inl d :: .inl c :: .inl b :: .inl a :: r => match jm_fit r with
      | true => jm_gs [0 ≤ a ∧ a ≤ 255, 0 ≤ b ∧ b ≤ 255, 0 ≤ c ∧ c ≤ 255, 0 ≤ d ∧ d ≤ 255, 0 ≤ e ∧ e ≤ 255] (k + 1) ls (.inr (.inr (jm_spelt a b c d e)) :: r) (jm_gh M 1 5)
      | false => jm_bad M
    | _ => jm_bad M
  | 904 => match st with
    | .inl y :: .inl x :: r => match jm_fit r with
      | true => jm_go (k + 1) ls (.inl (if x < y then y else x) :: r) M
      | false => jm_bad M
    | _ => jm_bad M
  | 905 => match st with
    | .inl y :: .inl x :: r => match jm_fit r with
      | true => jm_go (k + 1) ls (.inl (if y < x then y else x) :: r) M
      | false => jm_bad M
    | _ => jm_bad M
  | 910 => jm_wr1 89 st M
  | 911 => jm_wr2 90 st M
  | 912 => jm_wr1 93 st M
  | 913 => jm_wr1 96 st M
  | 914 => jm_wr2 97 st M
  | 915 => jm_wr1 99 st M
  | mi => jm_call mi 0 st M
def jm_virt (k mi : Nat) (ls : jm_Ls) (st : List jm_V) (M : jm_Mem) : jm_Eff := match mi with
  | 901 => match st with
    | .inr (.inl c) :: r => match Nat.ble 200 c, Nat.ble c 205, jm_fit r with
      | true, true, true => jm_go (k + 1) ls (.inl ((jm_str (c - 200)).length : Int) :: r) M
      | _, _, _ => jm_bad M
    | _ => jm_bad M
  | 902 => match st with
    | .inl i :: .inr (.inl c) :: r => match Nat.ble 200 c, Nat.ble c 205, jm_fit r with
      | true, true, true => jm_gs [0 ≤ i, i < ((jm_str (c - 200)).length : Int)] (k + 1) ls (.inl (jm_chr (jm_str (c - 200)) i.toNat) :: r) M
      | _, _, _ => jm_bad M
    | _ => jm_bad M
  | mi => jm_call mi 1 st M
def jm_ef (e : Instr × Nat × Int) (k : Nat) (ls : jm_Ls) (st : List jm_V) (M : jm_Mem) : jm_Eff := match e.1 with
  | .aload_n n => jm_ldA k ls st M n.val
  | .aload n => jm_ldA k ls st M n
  | .iload_n n => jm_ldI k ls st M n.val
  | .iload n => jm_ldI k ls st M n
  | .lload_n n => jm_ldL k ls st M n.val
  | .istore_n n => jm_stI k ls st M n.val
  | .istore n => jm_stI k ls st M n
  | .astore_n n => jm_stA k ls st M n.val
  | .astore n => jm_stA k ls st M n
  | .iconst _ => jm_go (k + 1) ls (.inl e.2.2 :: st) M
  | .bipush _ => jm_go (k + 1) ls (.inl e.2.2 :: st) M
  | .sipush _ => jm_go (k + 1) ls (.inl e.2.2 :: st) M
  | .ldc _ => match e.2.1 with
    | 0 => jm_go (k + 1) ls (.inl e.2.2 :: st) M
    | s + 1 => jm_go (k + 1) ls (.inr (.inl (200 + s)) :: st) M
  | .ldc_w _ => jm_go (k + 1) ls (.inl e.2.2 :: st) M
  | .ldc2_w _ => jm_go (k + 1) ls (.inr (.inr e.2.2) :: st) M
  | .lconst _ => jm_go (k + 1) ls (.inr (.inr 0) :: st) M
  | .getfield _ => jm_get k e.2.1 e.2.2.toNat ls st M
  | .putfield _ => jm_put k e.2.1 e.2.2.toNat ls st M
  | .iaload => match st with
    | .inl i :: .inr (.inl c) :: r => jm_ald k ls M c i r
    | _ => jm_bad M
  | .baload => match st with
    | .inl i :: .inr (.inl c) :: r => jm_bld k ls M c i r
    | _ => jm_bad M
  | .laload => match st with
    | .inl i :: .inr (.inl c) :: r => match jm_sh c with
      | (3, n, _) => jm_gs [0 ≤ i, i < (n : Int)] (k + 1) ls (.inr (.inr (M c i)) :: r) M
      | _ => jm_bad M
    | _ => jm_bad M
  | .aaload => match st with
    | .inl i :: .inr (.inl c) :: r => match jm_sh c with
      | (4, 2, [a, b]) => .inl ([0 ≤ i, i < 2], [(i = 0, (k + 1, ls, .inr (.inl a) :: r, M))], (k + 1, ls, .inr (.inl b) :: r, M))
      | _ => jm_bad M
    | _ => jm_bad M
  | .iastore => match st with
    | .inl v :: .inl i :: .inr (.inl c) :: r => match jm_sh c with
      | (0, n, _) => jm_gs [0 ≤ i, i < (n : Int)] (k + 1) ls r (jm_st M c i v)
      | _ => jm_bad M
    | _ => jm_bad M
  | .bastore => match st with
    | .inl v :: .inl i :: .inr (.inl c) :: r => match jm_sh c with
      | (1, n, _) => jm_gs [0 ≤ i, i < (n : Int), 0 ≤ v, v ≤ 1] (k + 1) ls r (jm_st M c i v)
      | (2, n, _) => jm_gs [0 ≤ i, i < (n : Int), -128 ≤ v, v ≤ 127] (k + 1) ls r (jm_st M c i v)
      | _ => jm_bad M
    | _ => jm_bad M
  | .arraylength => match st with
    | .inr (.inl c) :: r => match Nat.beq c 998, jm_sh c with
      | true, _ => jm_go (k + 1) ls (.inl (M 998 (-1)) :: r) M
      | false, (0, n, _) => jm_go (k + 1) ls (.inl (n : Int) :: r) M
      | _, _ => jm_bad M
    | _ => jm_bad M
  | .iadd => jm_b2 M st fun x y r => jm_gs [jm_in (x + y)] (k + 1) ls (.inl (x + y) :: r) M
  | .isub => jm_b2 M st fun x y r => jm_gs [jm_in (x - y)] (k + 1) ls (.inl (x - y) :: r) M
  | .imul => jm_b2 M st fun x y r => jm_gs [jm_in (x * y)] (k + 1) ls (.inl (x * y) :: r) M
  | .idiv => jm_b2 M st fun x y r => jm_gs [0 < y] (k + 1) ls (.inl (jm_dv x y) :: r) M
  | .irem => jm_b2 M st fun x y r => jm_gs [0 < y] (k + 1) ls (.inl (jm_rm x y) :: r) M
  | .ineg => jm_u1 M st fun x r => jm_gs [jm_in (-x)] (k + 1) ls (.inl (-x) :: r) M
  | .iand => jm_b2 M st fun x y r => jm_gs [y = 1 ∨ y = 31 ∨ y = 255 ∨ y = 4095] (k + 1) ls (.inl (x % (y + 1)) :: r) M
  | .ior => jm_b2 M st fun x y r => jm_gs [0 ≤ x, 0 ≤ y] (k + 1) ls (.inl (jm_or x y) :: r) M
  | .ishr => jm_b2 M st fun x y r => jm_gs [0 ≤ y, y ≤ 31] (k + 1) ls (.inl (x / 2 ^ y.toNat) :: r) M
  | .ishl => jm_b2 M st fun x y r => jm_gs [x = 1, 0 ≤ y, y ≤ 30] (k + 1) ls (.inl (2 ^ y.toNat) :: r) M
  | .i2b => jm_u1 M st fun x r => jm_go (k + 1) ls (.inl (jm_byte x) :: r) M
  | .i2l => jm_u1 M st fun x r => jm_go (k + 1) ls (.inr (.inr x) :: r) M
  | .ladd => jm_l2 M st fun x y r => jm_gs [jm_in (x + y)] (k + 1) ls (.inr (.inr (x + y)) :: r) M
  | .lsub => jm_l2 M st fun x y r => jm_gs [jm_in (x - y)] (k + 1) ls (.inr (.inr (x - y)) :: r) M
  | .lmul => jm_l2 M st fun x y r => jm_gs [jm_in (x * y)] (k + 1) ls (.inr (.inr (x * y)) :: r) M
  | .lcmp => jm_l2 M st fun x y r => jm_go (k + 1) ls (.inl (jm_cmp x y) :: r) M
  | .iinc i _ => match jm_lg ls i with
    | some (.inl x) => jm_gs [jm_in (x + e.2.2)] (k + 1) (jm_ls ls i (.inl (x + e.2.2))) st M
    | _ => jm_bad M
  | .dup => match st with
    | .inl x :: r => jm_go (k + 1) ls (.inl x :: .inl x :: r) M
    | .inr (.inl x) :: r => jm_go (k + 1) ls (.inr (.inl x) :: .inr (.inl x) :: r) M
    | _ => jm_bad M
  | .dup2 => match st with
    | .inl y :: .inr (.inl x) :: r => jm_go (k + 1) ls (.inl y :: .inr (.inl x) :: .inl y :: .inr (.inl x) :: r) M
    | _ => jm_bad M
  | .pop => match st with
    | .inl _ :: r => jm_go (k + 1) ls r M
    | _ => jm_bad M
  | .goto _ => jm_go e.2.1 ls st M
  | .ifCond c _ => jm_i1 k c e.2.1 ls st M
  | .if_icmp c _ => jm_i2 k c e.2.1 ls st M
  | .tableswitch _ _ _ _ => match st with
    | .inl x :: r => match jm_sw e.2.1 with
      | d :: ts => .inl ([], jm_swl x 0 ts ls r M, (d, ls, r, M))
      | [] => jm_bad M
    | _ => jm_bad M
  | .invokestatic _ => jm_stat k e.2.1 ls st M
  | .invokevirtual _ => jm_virt k e.2.1 ls st M
  | .ireturn => match st with
    | [.inl x] => match e.2.1 with
      | 0 => .inr (.inr ([], some (.inl x), M))
      | _ => .inr (.inr ([0 ≤ x, x ≤ 1], some (.inl x), M))
    | _ => jm_bad M
  | .return_ => match st with
    | [] => .inr (.inr ([], none, M))
    | _ => jm_bad M
  | .new _ => match st with
    | [] => .inr (.inr ([], jm_thr, M))
    | _ => jm_bad M
  | _ => jm_bad M
def jm_wp : Nat → Nat → jm_Cfg → jm_Q → Prop
  | 0, _, _, _ => False
  | n + 1, m, c, Q => match jm_rc m c.1 with
    | none => False
    | some e => jm_do (fun mi as M Q => jm_wp n mi (0, jm_pad as (jm_mi mi).2.2.2.1, [], M) Q) (fun c' => jm_wp n m c' Q) Q c.1 c.2.1 c.2.2.2 (jm_ef e c.1 c.2.1 c.2.2.1 c.2.2.2)
/-- from this place the method m comes to an end with Q -/
def jm_run (m : Nat) (c : jm_Cfg) (Q : jm_Q) : Prop := ∃ n, jm_wp n m c Q
/-- a call of m comes to an end with Q -/
def jm_cl (m : Nat) (as : List jm_V) (M : jm_Mem) (Q : jm_Q) : Prop := jm_run m (0, jm_pad as (jm_mi m).2.2.2.1, [], M) Q
end
section
/-! RULES OF RUNS -/
theorem jm_cj_of {s : List Prop} {p : Prop} (h : jm_cj s p) : p := by
  induction s with
  | nil => exact h
  | cons a l ih => exact ih h.2
theorem jm_cj_map {s : List Prop} {p q : Prop} (h : jm_cj s p) (f : p → q) : jm_cj s q := by
  induction s with
  | nil => exact f h
  | cons a l ih => exact ⟨h.1, ih h.2⟩
theorem jm_dl_of {w : jm_Cfg → Prop} {d : jm_Cfg} : ∀ {dl : List (Prop × jm_Cfg)}, jm_dl w dl d → ∃ c, w c ∧ ∀ w' : jm_Cfg → Prop, w' c → jm_dl w' dl d
  | [], h => ⟨d, h, fun _ h' => h'⟩
  | (P, s) :: l, h => by
    by_cases hP : P
    · exact ⟨s, h.1 hP, fun w' h' => ⟨fun _ => h', fun n => absurd hP n⟩⟩
    · obtain ⟨c, h1, h2⟩ := jm_dl_of (h.2 hP)
      exact ⟨c, h1, fun w' h' => ⟨fun y => absurd y hP, fun _ => h2 w' h'⟩⟩
theorem jm_k_of {w : List jm_V → jm_Mem → Prop} {rest : List jm_V} {r : Option jm_V} {M : jm_Mem} : ∀ {kd : Nat}, jm_k w rest kd r M → ∃ (st : List jm_V) (M' : jm_Mem), w st M' ∧ ∀ w' : List jm_V → jm_Mem → Prop, w' st M' → jm_k w' rest kd r M
  | 0, h => ⟨_, _, h.2, fun _ h' => ⟨h.1, h'⟩⟩
  | 1, h => by
    obtain ⟨x, h1, h2⟩ := h
    exact ⟨_, _, h2, fun _ h' => ⟨x, h1, h'⟩⟩
  | n + 2, h => by
    rcases h with ⟨h1, h2⟩ | ⟨x, h1, h2⟩
    · exact ⟨_, _, h2, fun _ h' => Or.inl ⟨h1, h'⟩⟩
    · exact ⟨_, _, h2, fun _ h' => Or.inr ⟨x, h1, h'⟩⟩
theorem jm_wp_succ {n m : Nat} {c : jm_Cfg} {Q : jm_Q} {e : Instr × Nat × Int} (he : jm_rc m c.1 = some e) : jm_wp (n + 1) m c Q = jm_do (fun mi as M Q => jm_wp n mi (0, jm_pad as (jm_mi mi).2.2.2.1, [], M) Q) (fun c' => jm_wp n m c' Q) Q c.1 c.2.1 c.2.2.2 (jm_ef e c.1 c.2.1 c.2.2.1 c.2.2.2) := by
  rw [jm_wp, he]
theorem jm_wp_rc {n m : Nat} {c : jm_Cfg} {Q : jm_Q} (h : jm_wp (n + 1) m c Q) : ∃ e, jm_rc m c.1 = some e := by
  rw [jm_wp] at h
  cases he : jm_rc m c.1 with
  | none => rw [he] at h; exact h.elim
  | some e => exact ⟨e, rfl⟩
theorem jm_wp_det : ∀ (n m : Nat) (c : jm_Cfg) (Q : jm_Q), jm_wp n m c Q → ∃ (r : Option jm_V) (M' : jm_Mem), Q r M' ∧ ∀ (n' : Nat), n ≤ n' → ∀ Q' : jm_Q, Q' r M' → jm_wp n' m c Q' := by
  intro n
  induction n with
  | zero => intro m c Q h; exact h.elim
  | succ n ih =>
    intro m c Q h
    obtain ⟨e, he⟩ := jm_wp_rc h
    rw [jm_wp_succ he] at h
    have fin : ∀ (r : Option jm_V) (M' : jm_Mem), Q r M' → (∀ (n' : Nat), n ≤ n' → ∀ Q' : jm_Q, Q' r M' → jm_do (fun mi as M Q => jm_wp n' mi (0, jm_pad as (jm_mi mi).2.2.2.1, [], M) Q) (fun c' => jm_wp n' m c' Q') Q' c.1 c.2.1 c.2.2.2 (jm_ef e c.1 c.2.1 c.2.2.1 c.2.2.2)) → ∃ (r : Option jm_V) (M' : jm_Mem), Q r M' ∧ ∀ (n' : Nat), n + 1 ≤ n' → ∀ Q' : jm_Q, Q' r M' → jm_wp n' m c Q' := by
      intro r M' h1 h2
      refine ⟨r, M', h1, fun n' hn Q' hQ' => ?_⟩
      obtain ⟨k, rfl⟩ : ∃ k, n' = k + 1 := ⟨n' - 1, by omega⟩
      rw [jm_wp_succ he]
      exact h2 k (by omega) Q' hQ'
    generalize jm_ef e c.1 c.2.1 c.2.2.1 c.2.2.2 = E at h fin
    match E, h, fin with
    | .inl (s, dl, d), h, fin =>
      have h0 : jm_cj s (jm_dl (fun c' => jm_wp n m c' Q) dl d) := h
      obtain ⟨c', h1, h2⟩ := jm_dl_of (jm_cj_of h0)
      obtain ⟨r, M', h3, h4⟩ := ih m c' Q h1
      exact fin r M' h3 (fun n' hn Q' hQ' => jm_cj_map h0 (fun _ => h2 _ (h4 n' hn Q' hQ')))
    | .inr (.inl (kd, mi, as, rest)), h, fin =>
      have h0 : jm_wp n mi (0, jm_pad as (jm_mi mi).2.2.2.1, [], c.2.2.2) (jm_k (fun st M' => jm_wp n m (c.1 + 1, c.2.1, st, M') Q) rest kd) := h
      obtain ⟨r1, M1, h1, h2⟩ := ih _ _ _ h0
      obtain ⟨st1, M2, h5, h6⟩ := jm_k_of h1
      obtain ⟨r, M', h3, h4⟩ := ih _ _ _ h5
      exact fin r M' h3 (fun n' hn Q' hQ' => h2 n' hn _ (h6 _ (h4 n' hn Q' hQ')))
    | .inr (.inr (s, r, M')), h, fin =>
      have h0 : jm_cj s (Q r M') := h
      exact fin r M' (jm_cj_of h0) (fun n' hn Q' hQ' => jm_cj_map h0 (fun _ => hQ'))
theorem jm_run_det {m : Nat} {c : jm_Cfg} {Q : jm_Q} (h : jm_run m c Q) : ∃ (r : Option jm_V) (M' : jm_Mem), Q r M' ∧ ∃ n, ∀ (n' : Nat), n ≤ n' → ∀ Q' : jm_Q, Q' r M' → jm_wp n' m c Q' := by
  obtain ⟨n, hn⟩ := h
  obtain ⟨r, M', h1, h2⟩ := jm_wp_det n m c Q hn
  exact ⟨r, M', h1, n, h2⟩
theorem jm_run_mono {m : Nat} {c : jm_Cfg} {Q Q' : jm_Q} (h : jm_run m c Q) (f : ∀ r M, Q r M → Q' r M) : jm_run m c Q' := by
  obtain ⟨r, M', h1, n, h2⟩ := jm_run_det h
  exact ⟨n, h2 n (Nat.le_refl _) Q' (f r M' h1)⟩
theorem jm_cl_mono {m : Nat} {as : List jm_V} {M : jm_Mem} {Q Q' : jm_Q} (h : jm_cl m as M Q) (f : ∀ r M, Q r M → Q' r M) : jm_cl m as M Q' := jm_run_mono h f
theorem jm_step {m : Nat} {c : jm_Cfg} {Q : jm_Q} {e : Instr × Nat × Int} (he : jm_rc m c.1 = some e) (h : jm_do jm_cl (fun c' => jm_run m c' Q) Q c.1 c.2.1 c.2.2.2 (jm_ef e c.1 c.2.1 c.2.2.1 c.2.2.2)) : jm_run m c Q := by
  have fin : ∀ n, jm_do (fun mi as M Q => jm_wp n mi (0, jm_pad as (jm_mi mi).2.2.2.1, [], M) Q) (fun c' => jm_wp n m c' Q) Q c.1 c.2.1 c.2.2.2 (jm_ef e c.1 c.2.1 c.2.2.1 c.2.2.2) → jm_run m c Q := fun n hn => ⟨n + 1, by rw [jm_wp_succ he]; exact hn⟩
  generalize jm_ef e c.1 c.2.1 c.2.2.1 c.2.2.2 = E at h fin
  match E, h, fin with
  | .inl (s, dl, d), h, fin =>
    have h0 : jm_cj s (jm_dl (fun c' => jm_run m c' Q) dl d) := h
    obtain ⟨c', ⟨n, h1⟩, h2⟩ := jm_dl_of (jm_cj_of h0)
    exact fin n (jm_cj_map h0 (fun _ => h2 _ h1))
  | .inr (.inl (kd, mi, as, rest)), h, fin =>
    have h0 : jm_run mi (0, jm_pad as (jm_mi mi).2.2.2.1, [], c.2.2.2) (jm_k (fun st M' => jm_run m (c.1 + 1, c.2.1, st, M') Q) rest kd) := h
    obtain ⟨r1, M1, h9, n1, h2⟩ := jm_run_det h0
    obtain ⟨st1, M2, ⟨n2, h1⟩, h6⟩ := jm_k_of h9
    obtain ⟨r, M', h3, h4⟩ := jm_wp_det _ _ _ _ h1
    exact fin (n1 + n2) (h2 (n1 + n2) (by omega) _ (h6 _ (h4 (n1 + n2) (by omega) Q h3)))
  | .inr (.inr (s, r, M')), h, fin => exact fin 0 h
theorem jm_do_mono {m k : Nat} {ls : jm_Ls} {M : jm_Mem} {Q : jm_Q} {w w' : jm_Cfg → Prop} {E : jm_Eff} (f : ∀ c, w c → w' c) (h : jm_do jm_cl w Q k ls M E) : jm_do jm_cl w' Q k ls M E := by
  match E, h with
  | .inl (s, dl, d), h =>
    have h0 : jm_cj s (jm_dl w dl d) := h
    obtain ⟨c', h1, h2⟩ := jm_dl_of (jm_cj_of h0)
    exact jm_cj_map h0 (fun _ => h2 _ (f _ h1))
  | .inr (.inl (kd, mi, as, rest)), h => exact jm_cl_mono h (fun r M h => by
      obtain ⟨st1, M2, h5, h6⟩ := jm_k_of h
      exact h6 _ (f _ h5))
  | .inr (.inr (s, r, M')), h => exact h
/-- a stretch of code, run till the places S -/
def jm_sg : Nat → List Nat → Nat → jm_Q → jm_Cfg → Prop
  | 0, _, m, Q, c => jm_run m c Q
  | j + 1, S, m, Q, c => match jm_rc m c.1 with
    | none => False
    | some e => jm_do jm_cl (fun c' => match jm_mem c'.1 S with
      | true => jm_run m c' Q
      | false => jm_sg j S m Q c') Q c.1 c.2.1 c.2.2.2 (jm_ef e c.1 c.2.1 c.2.2.1 c.2.2.2)
theorem jm_sg_run (j : Nat) (S : List Nat) {m : Nat} {Q : jm_Q} : ∀ {c : jm_Cfg}, jm_sg j S m Q c → jm_run m c Q := by
  induction j with
  | zero => intro c h; exact h
  | succ j ih =>
    intro c h
    rw [jm_sg] at h
    cases he : jm_rc m c.1 with
    | none => rw [he] at h; exact h.elim
    | some e =>
      rw [he] at h
      refine jm_step he (jm_do_mono (m := m) (fun c' hc => ?_) h)
      cases hm : jm_mem c'.1 S with
      | true => rw [hm] at hc; exact hc
      | false => rw [hm] at hc; exact ih hc
end
section
/-! NUMBERS: whole numbers within bounds, and the machine's -/
theorem jn_toInt {x : Int} (h : jm_in x) : (Int32.ofInt x).toInt = x := Int32.toInt_ofInt_of_le (by have := h.1; omega) (by have := h.2; omega)
theorem jn_lt {x y : Int} (hx : jm_in x) (hy : jm_in y) : Int32.ofInt x < Int32.ofInt y ↔ x < y := by
  rw [Int32.lt_iff_toInt_lt, jn_toInt hx, jn_toInt hy]
theorem jn_le {x y : Int} (hx : jm_in x) (hy : jm_in y) : Int32.ofInt x ≤ Int32.ofInt y ↔ x ≤ y := by
  rw [Int32.le_iff_toInt_le, jn_toInt hx, jn_toInt hy]
theorem jn_eq {x y : Int} (hx : jm_in x) (hy : jm_in y) : Int32.ofInt x = Int32.ofInt y ↔ x = y := by
  constructor
  · intro h
    rw [← jn_toInt hx, ← jn_toInt hy, h]
  · intro h; rw [h]
theorem jn_0 : Int32.ofInt 0 = 0 := rfl
theorem jn_in0 : jm_in 0 := ⟨by decide, by decide⟩
theorem jn_clamp {x : Int} (h : jm_in x) : (Int32.ofInt x).toNatClampNeg = x.toNat := by
  show (Int32.ofInt x).toInt.toNat = x.toNat
  rw [jn_toInt h]
theorem jn_vp {x : Int} {n : Nat} (h : jm_in x) (h0 : 0 ≤ x) (h1 : x < (n : Int)) : vp_in (Int32.ofInt x) n := vp_in_iff.mpr ⟨by rw [jn_toInt h]; exact h0, by rw [jn_toInt h]; exact h1⟩
theorem jn_dv {x y : Int} (hx : jm_in x) (hy : jm_in y) (h0 : 0 < y) : Int32.ofInt x / Int32.ofInt y = Int32.ofInt (jm_dv x y) ∧ jm_in (jm_dv x y) := by
  have e : jm_dv x y = x.tdiv y := by
    unfold jm_dv
    by_cases h : 0 ≤ x
    · rw [if_pos h, Int.tdiv_eq_ediv_of_nonneg h]
    · rw [if_neg h]
      have := Int.neg_tdiv (a := -x) (b := y)
      rw [Int.neg_neg] at this
      rw [this, Int.tdiv_eq_ediv_of_nonneg (by omega)]
  have hb : Int32.ofInt y ≠ -1 := by
    intro h
    have h1 := congrArg Int32.toInt h
    rw [jn_toInt hy] at h1
    have h2 : (-1 : Int32).toInt = -1 := rfl
    omega
  have hr : jm_in (jm_dv x y) := by
    unfold jm_dv
    have b1 : ∀ z : Int, 0 ≤ z → 0 ≤ z / y ∧ z / y ≤ z := fun z hz => ⟨Int.ediv_nonneg hz (by omega), Int.ediv_le_self _ hz⟩
    have hx1 := hx.1
    have hx2 := hx.2
    by_cases h : 0 ≤ x
    · rw [if_pos h]
      have := b1 x h
      exact ⟨by omega, by omega⟩
    · rw [if_neg h]
      have := b1 (-x) (by omega)
      exact ⟨by omega, by omega⟩
  refine ⟨?_, hr⟩
  apply Int32.toInt_inj.mp
  rw [Int32.toInt_div_of_ne_right _ _ hb, jn_toInt hx, jn_toInt hy, jn_toInt hr, e]
theorem jn_rm {x y : Int} (hx : jm_in x) (hy : jm_in y) (h0 : 0 < y) : Int32.ofInt x - Int32.ofInt x / Int32.ofInt y * Int32.ofInt y = Int32.ofInt (jm_rm x y) ∧ jm_in (jm_rm x y) := by
  have e : jm_rm x y = x - jm_dv x y * y := by
    unfold jm_rm jm_dv
    by_cases h : 0 ≤ x
    · rw [if_pos h, if_pos h, Int.emod_def, Int.mul_comm]
    · rw [if_neg h, if_neg h, Int.emod_def, Int.neg_mul, Int.mul_comm]
      omega
  refine ⟨by rw [(jn_dv hx hy h0).1, e, Int32.ofInt_sub, Int32.ofInt_mul], ?_⟩
  unfold jm_rm
  have b1 : ∀ z : Int, 0 ≤ z % y ∧ z % y < y := fun z => ⟨Int.emod_nonneg _ (by omega), Int.emod_lt_of_pos _ h0⟩
  have hy1 := hy.1
  have hy2 := hy.2
  by_cases h : 0 ≤ x
  · rw [if_pos h]; have := b1 x; exact ⟨by omega, by omega⟩
  · rw [if_neg h]; have := b1 (-x); exact ⟨by omega, by omega⟩
theorem jn_andk (x : Int) (k : Nat) (hk : k ≤ 12) {y : Int} (hy : y = 2 ^ k - 1) : Int32.ofInt x &&& Int32.ofInt y = Int32.ofInt (x % 2 ^ k) := by
  have hm : (Int32.ofInt y).toBitVec.toNat = 2 ^ k - 1 := by
    subst hy
    match k, hk with
    | 0, _ => rfl
    | 1, _ => rfl
    | 2, _ => rfl
    | 3, _ => rfl
    | 4, _ => rfl
    | 5, _ => rfl
    | 6, _ => rfl
    | 7, _ => rfl
    | 8, _ => rfl
    | 9, _ => rfl
    | 10, _ => rfl
    | 11, _ => rfl
    | 12, _ => rfl
    | k + 13, h => exact absurd h (by omega)
  rw [pk_and _ k hm]
  show Int32.ofNat _ = _
  rw [← Int32.ofInt_eq_ofNat]
  congr 1
  rw [Int32.toBitVec_ofInt, BitVec.toNat_ofInt]
  have hd : (2 ^ k : Int) ∣ (2 ^ 32 : Nat) := by
    refine ⟨(2 ^ (32 - k) : Nat), ?_⟩
    have : (2 : Nat) ^ 32 = 2 ^ k * 2 ^ (32 - k) := by rw [← Nat.pow_add]; congr 1; omega
    exact_mod_cast this
  have h0 : 0 ≤ x % ((2 ^ 32 : Nat) : Int) := Int.emod_nonneg _ (by decide)
  rw [Int.natCast_emod, Int.toNat_of_nonneg h0]
  have : ((2 ^ k : Nat) : Int) = (2 ^ k : Int) := by norm_cast
  rw [this, Int.emod_emod_of_dvd _ hd]
theorem jn_and {x y : Int} (hy : y = 1 ∨ y = 31 ∨ y = 255 ∨ y = 4095) : Int32.ofInt x &&& Int32.ofInt y = Int32.ofInt (x % (y + 1)) ∧ jm_in (x % (y + 1)) := by
  refine ⟨?_, ?_⟩
  · rcases hy with rfl | rfl | rfl | rfl
    · exact jn_andk x 1 (by decide) rfl
    · exact jn_andk x 5 (by decide) rfl
    · exact jn_andk x 8 (by decide) rfl
    · exact jn_andk x 12 (by decide) rfl
  · have h1 := Int.emod_nonneg x (b := y + 1) (by omega)
    have h2 := Int.emod_lt_of_pos x (b := y + 1) (by omega)
    exact ⟨by omega, by omega⟩
theorem jn_or {x y : Int} (hx : jm_in x) (hy : jm_in y) (h0 : 0 ≤ x) (h1 : 0 ≤ y) : Int32.ofInt x ||| Int32.ofInt y = Int32.ofInt (jm_or x y) ∧ jm_in (jm_or x y) := by
  have hx2 := hx.2
  have hy2 := hy.2
  obtain ⟨a, rfl⟩ := Int.eq_ofNat_of_zero_le h0
  obtain ⟨b, rfl⟩ := Int.eq_ofNat_of_zero_le h1
  unfold jm_or
  simp only [Int.toNat_natCast]
  refine ⟨?_, ⟨by omega, ?_⟩⟩
  · rw [Int32.ofInt_eq_ofNat, Int32.ofInt_eq_ofNat, Int32.ofInt_eq_ofNat]
    apply Int32.toBitVec_inj.mp
    rw [Int32.toBitVec_or]
    show BitVec.ofNat 32 a ||| BitVec.ofNat 32 b = BitVec.ofNat 32 (a ||| b)
    apply BitVec.eq_of_toNat_eq
    simp [BitVec.toNat_or]
  · have h31 : a ||| b < 2 ^ 31 := Nat.or_lt_two_pow (by omega) (by omega)
    have : (2 : Nat) ^ 31 = 2147483648 := by decide
    omega
theorem jn_shr {x y : Int} (hx : jm_in x) (h0 : 0 ≤ y) (h1 : y ≤ 31) : Int32.ofInt x >>> (Int32.ofInt y &&& 31) = Int32.ofInt (x / 2 ^ y.toNat) ∧ jm_in (x / 2 ^ y.toNat) := by
  have hy : jm_in y := ⟨by omega, by omega⟩
  obtain ⟨k, rfl⟩ := Int.eq_ofNat_of_zero_le h0
  have hs : ((Int32.ofInt (k : Int) &&& 31).toBitVec.smod 32).toNat = k := by
    have : ∀ n : Nat, n < 32 → ((Int32.ofInt (n : Int) &&& 31).toBitVec.smod 32).toNat = n := by decide +kernel
    exact this k (by omega)
  have hp : (0 : Int) < 2 ^ k := Int.pow_pos (by decide)
  have hp1 : (1 : Int) ≤ 2 ^ k := by omega
  have hr : jm_in (x / 2 ^ k) := by
    have hx1 := hx.1
    have hx2 := hx.2
    constructor
    · rw [Int.le_ediv_iff_mul_le hp]
      have : (2147483648 : Int) * 1 ≤ 2147483648 * 2 ^ k := Int.mul_le_mul_of_nonneg_left hp1 (by decide)
      rw [Int.neg_mul]
      omega
    · have h3 := Int.ediv_mul_le x (b := 2 ^ k) (by omega)
      have h4 : x / 2 ^ k < 2147483648 := by
        rw [Int.ediv_lt_iff_lt_mul hp]
        have : (2147483648 : Int) * 1 ≤ 2147483648 * 2 ^ k := Int.mul_le_mul_of_nonneg_left hp1 (by decide)
        omega
      omega
  refine ⟨?_, hr⟩
  apply Int32.toInt_inj.mp
  rw [pk_shr _ _ k hs, jn_toInt hx, Int.shiftRight_eq_div_pow]
  simp only [Int.toNat_natCast]
  rw [jn_toInt hr]
  norm_cast
theorem jn_shl {y : Int} (h0 : 0 ≤ y) (h1 : y ≤ 30) : Int32.ofInt 1 <<< (Int32.ofInt y &&& 31) = Int32.ofInt (2 ^ y.toNat) ∧ jm_in (2 ^ y.toNat) := by
  obtain ⟨k, rfl⟩ := Int.eq_ofNat_of_zero_le h0
  have h : ∀ n : Nat, n < 31 → Int32.ofInt 1 <<< (Int32.ofInt (n : Int) &&& 31) = Int32.ofInt (2 ^ (n : Int).toNat) ∧ (-2147483648 ≤ (2 : Int) ^ (n : Int).toNat ∧ (2 : Int) ^ (n : Int).toNat ≤ 2147483647) := by decide +kernel
  exact h k (by omega)
theorem jn_byte (x : Int) : (Int32.ofInt x).toInt8.toInt32 = Int32.ofInt (jm_byte x) ∧ -128 ≤ jm_byte x ∧ jm_byte x ≤ 127 := by
  have hb : -128 ≤ jm_byte x ∧ jm_byte x ≤ 127 := by
    unfold jm_byte
    omega
  refine ⟨?_, hb⟩
  have e : jm_byte x = x.bmod (2 ^ 8) := by
    unfold jm_byte
    rw [Int.bmod_def]
    have : (((2 ^ 8 : Nat) : Int)) = 256 := by decide
    rw [this]
    split <;> omega
  apply Int32.toInt_inj.mp
  rw [jn_toInt ⟨by omega, by omega⟩, Int8.toInt_toInt32, Int32.toInt8_ofInt, Int8.toInt_ofInt, e]
theorem jn_long {x : Int} (h : jm_in x) : (Int32.ofInt x).toInt64 = Int64.ofInt x := Int32.toInt64_ofInt h.1 h.2
theorem jl_toInt {x : Int} (h : jm_in x) : (Int64.ofInt x).toInt = x := Int64.toInt_ofInt_of_le (by have := h.1; omega) (by have := h.2; omega)
theorem jl_cmp {x y : Int} (hx : jm_in x) (hy : jm_in y) : lg_cmp (Int64.ofInt x) (Int64.ofInt y) = Int32.ofInt (jm_cmp x y) ∧ jm_in (jm_cmp x y) := by
  unfold lg_cmp jm_cmp
  have h1 : Int64.ofInt x > Int64.ofInt y ↔ x > y := by
    show Int64.ofInt y < Int64.ofInt x ↔ _
    rw [Int64.lt_iff_toInt_lt, jl_toInt hx, jl_toInt hy]
  have h2 : Int64.ofInt x = Int64.ofInt y ↔ x = y := by
    constructor
    · intro h; rw [← jl_toInt hx, ← jl_toInt hy, h]
    · intro h; rw [h]
  by_cases a : x < y
  · rw [if_neg (by rw [h1]; omega), if_neg (by rw [h2]; omega), if_pos a]
    exact ⟨rfl, by decide, by decide⟩
  · rw [if_neg a]
    by_cases b : x = y
    · rw [if_neg (by rw [h1]; omega), if_pos (h2.mpr b), if_pos b]
      exact ⟨rfl, by decide, by decide⟩
    · rw [if_pos (h1.mpr (by omega)), if_neg b]
      exact ⟨rfl, by decide, by decide⟩
theorem jn_bipush {n : Int} (h1 : -128 ≤ n) (h2 : n ≤ 127) : (Int8.ofInt n).toInt32 = Int32.ofInt n := Int8.toInt32_ofInt h1 h2
theorem jn_sipush {n : Int} (h1 : -32768 ≤ n) (h2 : n ≤ 32767) : (Int16.ofInt n).toInt32 = Int32.ofInt n := Int16.toInt32_ofInt h1 h2
theorem jn_narZ {x : Int} (h0 : 0 ≤ x) (h1 : x ≤ 1) : narrow .boolean (.int (Int32.ofInt x)) = .int (Int32.ofInt x) ∧ fits .boolean (.int (Int32.ofInt x)) = true ∧ vp_nar .boolean (Int32.ofInt x) = Int32.ofInt x := by
  have : x = 0 ∨ x = 1 := by omega
  rcases this with rfl | rfl <;> decide
theorem jn_narB {x : Int} (h0 : -128 ≤ x) (h1 : x ≤ 127) : vp_nar .byte (Int32.ofInt x) = Int32.ofInt x := by
  rw [vp_nar_byte, (jn_byte x).1]
  congr 1
  unfold jm_byte
  omega
end
section
/-! WHAT A RUN KEEPS: the script stays, the counts of what was made only grow -/
def jm_le (M M' : jm_Mem) : Prop := M 999 0 ≤ M' 999 0 ∧ M 999 1 ≤ M' 999 1 ∧ M' 998 = M 998
theorem jm_le_refl (M : jm_Mem) : jm_le M M := ⟨Int.le_refl _, Int.le_refl _, rfl⟩
theorem jm_le_trans {M M' M'' : jm_Mem} (h : jm_le M M') (h' : jm_le M' M'') : jm_le M M'' := ⟨Int.le_trans h.1 h'.1, Int.le_trans h.2.1 h'.2.1, h'.2.2.trans h.2.2⟩
theorem jm_le_sr {M : jm_Mem} {c : Nat} {f : Int → Int} (h : c < 95) : jm_le M (jm_sr M c f) := by
  have h1 : jm_sr M c f 999 = M 999 := by unfold jm_sr; rw [if_neg (by omega)]
  have h2 : jm_sr M c f 998 = M 998 := by unfold jm_sr; rw [if_neg (by omega)]
  exact ⟨by rw [h1]; exact Int.le_refl _, by rw [h1]; exact Int.le_refl _, h2⟩
theorem jm_le_st {M : jm_Mem} {c : Nat} {i v : Int} (h : c < 95) : jm_le M (jm_st M c i v) := jm_le_sr h
theorem jm_gh_0 (M : jm_Mem) (a b : Int) : jm_gh M a b 999 0 = M 999 0 + a ∧ jm_gh M a b 999 1 = M 999 1 + b ∧ ∀ c, c ≠ 999 → jm_gh M a b c = M c := by
  unfold jm_gh jm_st jm_sr jm_up
  refine ⟨by simp, by simp, fun c hc => by simp [hc]⟩
theorem jm_le_gh {M : jm_Mem} {a b : Int} (ha : 0 ≤ a) (hb : 0 ≤ b) : jm_le M (jm_gh M a b) := by
  obtain ⟨h1, h2, h3⟩ := jm_gh_0 M a b
  exact ⟨by rw [h1]; omega, by rw [h2]; omega, h3 998 (by decide)⟩
theorem jm_sh_lt {c : Nat} {k n : Nat} {f : List Nat} (h : jm_sh c = (k, n, f)) (hk : k ≠ 99) : c < 95 := by
  rcases Nat.lt_or_ge c 95 with q | q
  · exact q
  · rw [jm_sh_out c q] at h
    exact absurd (congrArg Prod.fst h).symm hk
theorem jm_fk_lt {c k z : Nat} (h : jm_fk c k = some z) : c < 95 := by
  rcases Nat.lt_or_ge c 95 with q | q
  · exact q
  · unfold jm_fk at h
    rw [jm_sh_out c q] at h
    cases h
def jm_eok (M : jm_Mem) (E : jm_Eff) : Prop := match E with
  | .inl (_, dl, d) => (∀ q ∈ dl, jm_le M q.2.2.2.2) ∧ jm_le M d.2.2.2
  | .inr (.inl _) => True
  | .inr (.inr (s, _, M')) => jm_cj s True → jm_le M M'
theorem jm_eok_bad (M : jm_Mem) : jm_eok M (jm_bad M) := fun h => h.1.elim
theorem jm_eok_go {k : Nat} {ls : jm_Ls} {st : List jm_V} {M M' : jm_Mem} (h : jm_le M M') : jm_eok M (jm_go k ls st M') := ⟨fun _ h => (nomatch h), h⟩
theorem jm_eok_gs {s : List Prop} {k : Nat} {ls : jm_Ls} {st : List jm_V} {M M' : jm_Mem} (h : jm_le M M') : jm_eok M (jm_gs s k ls st M') := ⟨fun _ h => (nomatch h), h⟩
theorem jm_eok_br {P : Prop} {a b : Nat} {ls : jm_Ls} {st : List jm_V} {M M' : jm_Mem} (h : jm_le M M') : jm_eok M (jm_br P a b ls st M') := ⟨fun q hq => by rw [List.mem_singleton.mp hq]; exact h, h⟩
theorem jm_eok_swl (x : Int) (ls : jm_Ls) (st : List jm_V) (M : jm_Mem) : ∀ (ts : List Nat) (i : Int), ∀ q ∈ jm_swl x i ts ls st M, jm_le M q.2.2.2.2
  | [], _, q, h => nomatch h
  | t :: ts, i, q, h => by
    rcases List.mem_cons.mp h with h | h
    · rw [h]; exact jm_le_refl M
    · exact jm_eok_swl x ls st M ts (i + 1) q h
theorem jm_eok_call (mi v : Nat) (st : List jm_V) (M : jm_Mem) : jm_eok M (jm_call mi v st M) := by
  unfold jm_call
  split
  · split
    · split
      · exact trivial
      · unfold jm_callv
        split
        · split
          · exact trivial
          · exact jm_eok_bad M
        · exact jm_eok_bad M
    · exact jm_eok_bad M
  · exact jm_eok_bad M
theorem jm_eok_wr1 (mi : Nat) (st : List jm_V) (M : jm_Mem) : jm_eok M (jm_wr1 mi st M) := by
  unfold jm_wr1
  split
  · exact trivial
  · exact jm_eok_bad M
theorem jm_eok_wr2 (mi : Nat) (st : List jm_V) (M : jm_Mem) : jm_eok M (jm_wr2 mi st M) := by
  unfold jm_wr2
  split
  · exact trivial
  · exact jm_eok_bad M
theorem jm_eok_stat (k mi : Nat) (ls : jm_Ls) (st : List jm_V) (M : jm_Mem) : jm_eok M (jm_stat k mi ls st M) := by
  unfold jm_stat
  split
  · split
    · split
      · rename_i h1 h2 h3 h4
        exact jm_eok_gs (jm_le_sr (jm_sh_lt h2 (by decide)))
      · exact jm_eok_bad M
    · exact jm_eok_bad M
  · split
    · split
      · exact jm_eok_gs (jm_le_gh (by decide) (by decide))
      · exact jm_eok_bad M
    · exact jm_eok_bad M
  · split
    · split
      · exact jm_eok_go (jm_le_refl M)
      · exact jm_eok_bad M
    · exact jm_eok_bad M
  · split
    · split
      · exact jm_eok_go (jm_le_refl M)
      · exact jm_eok_bad M
    · exact jm_eok_bad M
  · exact jm_eok_wr1 _ _ _
  · exact jm_eok_wr2 _ _ _
  · exact jm_eok_wr1 _ _ _
  · exact jm_eok_wr1 _ _ _
  · exact jm_eok_wr2 _ _ _
  · exact jm_eok_wr1 _ _ _
  · exact jm_eok_call _ _ _ _
theorem jm_eok_virt (k mi : Nat) (ls : jm_Ls) (st : List jm_V) (M : jm_Mem) : jm_eok M (jm_virt k mi ls st M) := by
  unfold jm_virt
  split
  · split
    · split
      · exact jm_eok_go (jm_le_refl M)
      · exact jm_eok_bad M
    · exact jm_eok_bad M
  · split
    · split
      · exact jm_eok_gs (jm_le_refl M)
      · exact jm_eok_bad M
    · exact jm_eok_bad M
  · exact jm_eok_call _ _ _ _
theorem jm_eok_put (k f ci : Nat) (ls : jm_Ls) (st : List jm_V) (M : jm_Mem) : jm_eok M (jm_put k f ci ls st M) := by
  unfold jm_put
  split
  · split
    · rename_i h1 h2
      exact jm_eok_go (jm_le_st (jm_fk_lt h2))
    · rename_i h1 h2
      exact jm_eok_gs (jm_le_st (jm_fk_lt h2))
    · exact jm_eok_bad M
  · split
    · rename_i h1 h2
      exact jm_eok_go (jm_le_st (jm_fk_lt h2))
    · exact jm_eok_bad M
  · exact jm_eok_bad M
theorem jm_eok_get (k f ci : Nat) (ls : jm_Ls) (st : List jm_V) (M : jm_Mem) : jm_eok M (jm_get k f ci ls st M) := by
  unfold jm_get
  split
  · split <;> first | exact jm_eok_go (jm_le_refl M) | exact jm_eok_bad M
  · exact jm_eok_bad M
theorem jm_eok_b2 {M : jm_Mem} {st : List jm_V} {f : Int → Int → List jm_V → jm_Eff} (h : ∀ x y r, jm_eok M (f x y r)) : jm_eok M (jm_b2 M st f) := by
  unfold jm_b2
  split
  · exact h _ _ _
  · exact jm_eok_bad M
theorem jm_eok_l2 {M : jm_Mem} {st : List jm_V} {f : Int → Int → List jm_V → jm_Eff} (h : ∀ x y r, jm_eok M (f x y r)) : jm_eok M (jm_l2 M st f) := by
  unfold jm_l2
  split
  · exact h _ _ _
  · exact jm_eok_bad M
theorem jm_eok_u1 {M : jm_Mem} {st : List jm_V} {f : Int → List jm_V → jm_Eff} (h : ∀ x r, jm_eok M (f x r)) : jm_eok M (jm_u1 M st f) := by
  unfold jm_u1
  split
  · exact h _ _
  · exact jm_eok_bad M
set_option maxHeartbeats 4000000 in
theorem jm_ef_ok (e : Instr × Nat × Int) (k : Nat) (ls : jm_Ls) (st : List jm_V) (M : jm_Mem) : jm_eok M (jm_ef e k ls st M) := by
  unfold jm_ef
  split
  case h_1 => unfold jm_ldA; split <;> first | exact jm_eok_go (jm_le_refl M) | exact jm_eok_bad M
  case h_2 => unfold jm_ldA; split <;> first | exact jm_eok_go (jm_le_refl M) | exact jm_eok_bad M
  case h_3 => unfold jm_ldI; split <;> first | exact jm_eok_go (jm_le_refl M) | exact jm_eok_bad M
  case h_4 => unfold jm_ldI; split <;> first | exact jm_eok_go (jm_le_refl M) | exact jm_eok_bad M
  case h_5 => unfold jm_ldL; split <;> first | exact jm_eok_go (jm_le_refl M) | exact jm_eok_bad M
  case h_6 => unfold jm_stI; split <;> first | exact jm_eok_go (jm_le_refl M) | exact jm_eok_bad M
  case h_7 => unfold jm_stI; split <;> first | exact jm_eok_go (jm_le_refl M) | exact jm_eok_bad M
  case h_8 => unfold jm_stA; split <;> first | exact jm_eok_go (jm_le_refl M) | exact jm_eok_bad M
  case h_9 => unfold jm_stA; split <;> first | exact jm_eok_go (jm_le_refl M) | exact jm_eok_bad M
  all_goals first
    | exact jm_eok_go (jm_le_refl M)
    | exact jm_eok_bad M
    | exact jm_eok_get _ _ _ _ _ _
    | exact jm_eok_put _ _ _ _ _ _
    | exact jm_eok_stat _ _ _ _ _
    | exact jm_eok_virt _ _ _ _ _
    | exact jm_eok_b2 (fun x y r => jm_eok_gs (jm_le_refl M))
    | exact jm_eok_l2 (fun x y r => jm_eok_gs (jm_le_refl M))
    | exact jm_eok_l2 (fun x y r => jm_eok_go (jm_le_refl M))
    | exact jm_eok_u1 (fun x r => jm_eok_gs (jm_le_refl M))
    | exact jm_eok_u1 (fun x r => jm_eok_go (jm_le_refl M))
    | (unfold jm_i1; exact jm_eok_u1 (fun x r => by split <;> exact jm_eok_br (jm_le_refl M)))
    | (unfold jm_i2; exact jm_eok_b2 (fun x y r => by split <;> exact jm_eok_br (jm_le_refl M)))
    | (split <;> first | exact jm_eok_go (jm_le_refl M) | exact jm_eok_gs (jm_le_refl M) | exact jm_eok_bad M)
    | (split
       · first
         | (unfold jm_ald; split <;> first | exact jm_eok_gs (jm_le_refl M) | (split <;> first | exact jm_eok_gs (jm_le_refl M) | exact jm_eok_bad M))
         | (unfold jm_bld; split <;> first | exact jm_eok_gs (jm_le_refl M) | exact jm_eok_bad M)
         | (split <;> first | exact jm_eok_go (jm_le_refl M) | exact jm_eok_gs (jm_le_refl M) | exact jm_eok_bad M | exact fun _ => jm_le_refl M)
         | exact fun _ => jm_le_refl M
         | (split
            · rename_i h; exact jm_eok_gs (jm_le_st (jm_sh_lt h (by decide)))
            · exact jm_eok_bad M)
         | (split
            · rename_i h; exact jm_eok_gs (jm_le_st (jm_sh_lt h (by decide)))
            · rename_i h; exact jm_eok_gs (jm_le_st (jm_sh_lt h (by decide)))
            · exact jm_eok_bad M)
         | (split
            · exact ⟨fun q hq => by rw [List.mem_singleton.mp hq]; exact jm_le_refl M, jm_le_refl M⟩
            · exact jm_eok_bad M)
         | (split
            · exact ⟨jm_eok_swl _ _ _ _ _ _, jm_le_refl M⟩
            · exact jm_eok_bad M)
       · exact jm_eok_bad M)
    | (split <;> first | exact jm_eok_bad M | exact jm_eok_go (jm_le_refl M))
theorem jm_dl_of2 {w : jm_Cfg → Prop} {d : jm_Cfg} : ∀ {dl : List (Prop × jm_Cfg)}, jm_dl w dl d → ∃ c, w c ∧ (c = d ∨ ∃ P, (P, c) ∈ dl)
  | [], h => ⟨d, h, Or.inl rfl⟩
  | (P, s) :: l, h => by
    by_cases hP : P
    · exact ⟨s, h.1 hP, Or.inr ⟨P, List.mem_cons_self⟩⟩
    · obtain ⟨c, h1, h2⟩ := jm_dl_of2 (h.2 hP)
      refine ⟨c, h1, ?_⟩
      rcases h2 with h2 | ⟨P', h2⟩
      · exact Or.inl h2
      · exact Or.inr ⟨P', List.mem_cons_of_mem _ h2⟩
theorem jm_k_le {w : List jm_V → jm_Mem → Prop} {rest : List jm_V} {r : Option jm_V} {M : jm_Mem} : ∀ {kd : Nat}, jm_k w rest kd r M → ∃ (st : List jm_V) (M' : jm_Mem), w st M' ∧ jm_le M M'
  | 0, h => ⟨_, _, h.2, jm_le_refl M⟩
  | 1, h => by
    obtain ⟨x, h1, h2⟩ := h
    exact ⟨_, _, h2, jm_le_refl M⟩
  | n + 2, h => by
    rcases h with ⟨h1, h2⟩ | ⟨x, h1, h2⟩
    · exact ⟨_, _, h2, jm_le_gh (by decide) (by decide)⟩
    · exact ⟨_, _, h2, jm_le_st (by decide)⟩
/-- a run's end lies above its start -/
theorem jm_wp_le : ∀ (n m : Nat) (c : jm_Cfg) (Q : jm_Q), jm_wp n m c Q → ∃ (r : Option jm_V) (M' : jm_Mem), Q r M' ∧ jm_le c.2.2.2 M' := by
  intro n
  induction n with
  | zero => intro m c Q h; exact h.elim
  | succ n ih =>
    intro m c Q h
    obtain ⟨e, he⟩ := jm_wp_rc h
    rw [jm_wp_succ he] at h
    have hok := jm_ef_ok e c.1 c.2.1 c.2.2.1 c.2.2.2
    generalize jm_ef e c.1 c.2.1 c.2.2.1 c.2.2.2 = E at h hok
    match E, h, hok with
    | .inl (s, dl, d), h, hok =>
      have h0 : jm_cj s (jm_dl (fun c' => jm_wp n m c' Q) dl d) := h
      obtain ⟨c', h1, h2⟩ := jm_dl_of2 (jm_cj_of h0)
      obtain ⟨r, M', h3, h4⟩ := ih m c' Q h1
      refine ⟨r, M', h3, jm_le_trans ?_ h4⟩
      rcases h2 with rfl | ⟨P, hP⟩
      · exact hok.2
      · exact hok.1 _ hP
    | .inr (.inl (kd, mi, as, rest)), h, hok =>
      have h0 : jm_wp n mi (0, jm_pad as (jm_mi mi).2.2.2.1, [], c.2.2.2) (jm_k (fun st M' => jm_wp n m (c.1 + 1, c.2.1, st, M') Q) rest kd) := h
      obtain ⟨r1, M1, h1, h2⟩ := ih _ _ _ h0
      obtain ⟨st1, M2, h5, h6⟩ := jm_k_le h1
      obtain ⟨r, M', h3, h4⟩ := ih _ _ _ h5
      exact ⟨r, M', h3, jm_le_trans h2 (jm_le_trans h6 h4)⟩
    | .inr (.inr (s, r, M')), h, hok =>
      have h0 : jm_cj s (Q r M') := h
      exact ⟨r, M', jm_cj_of h0, hok (jm_cj_map h0 (fun _ => trivial))⟩
end
section
/-! FROM THE MACHINE'S STATES TO ABSTRACT ONES -/
theorem jm_ckL_at (m : Nat) : ∀ (l : List (Instr × Nat × Int)) (j i : Nat) (e : Instr × Nat × Int), jm_ckL m j l = true → jm_nth l i = some e → jm_ck m (j + i) e = true
  | [], _, _, _, _, h => nomatch h
  | a :: l, j, 0, e, h, hi => by
    have h1 : (jm_ck m j a && jm_ckL m (j + 1) l) = true := h
    rw [Bool.and_eq_true] at h1
    have h2 : a = e := Option.some.inj hi
    rw [← h2]
    exact h1.1
  | a :: l, j, i + 1, e, h, hi => by
    have h1 : (jm_ck m j a && jm_ckL m (j + 1) l) = true := h
    rw [Bool.and_eq_true] at h1
    have := jm_ckL_at m l (j + 1) i e h1.2 hi
    rw [show j + (i + 1) = j + 1 + i by omega]
    exact this
theorem jm_ckL_app (m : Nat) : ∀ (a b : List (Instr × Nat × Int)) (j : Nat), jm_ckL m j a = true → jm_ckL m (j + a.length) b = true → jm_ckL m j (a ++ b) = true
  | [], b, j, _, h => h
  | e :: a, b, j, h, hb => by
    have h1 : (jm_ck m j e && jm_ckL m (j + 1) a) = true := h
    rw [Bool.and_eq_true] at h1
    show (jm_ck m j e && jm_ckL m (j + 1) (a ++ b)) = true
    rw [Bool.and_eq_true]
    refine ⟨h1.1, jm_ckL_app m a b (j + 1) h1.2 ?_⟩
    rw [show j + 1 + a.length = j + (e :: a).length by simp; omega]
    exact hb
set_option maxRecDepth 100000 in
theorem jm_ckm216 : jm_ckL 216 0 jm_cd216 = true := by
  show jm_ckL 216 0 (jm_cd216_0 ++ jm_cd216_1 ++ jm_cd216_2 ++ jm_cd216_3 ++ jm_cd216_4 ++ jm_cd216_5 ++ jm_cd216_6 ++ jm_cd216_7 ++ jm_cd216_8) = true
  exact jm_ckL_app _ _ _ _ (jm_ckL_app _ _ _ _ (jm_ckL_app _ _ _ _ (jm_ckL_app _ _ _ _ (jm_ckL_app _ _ _ _ (jm_ckL_app _ _ _ _ (jm_ckL_app _ _ _ _ (jm_ckL_app _ _ _ _ jm_ckm216_0 jm_ckm216_1) jm_ckm216_2) jm_ckm216_3) jm_ckm216_4) jm_ckm216_5) jm_ckm216_6) jm_ckm216_7) jm_ckm216_8
theorem jm_ck_of {m : Nat} {l : List (Instr × Nat × Int)} (h : jm_nth jm_cdT m = some l) : jm_ckL m 0 l = true := by
  match m, h with
  | 0, h => exact Option.some.inj (show some jm_cd0 = some l from h) ▸ jm_ckm0
  | 1, h => exact Option.some.inj (show some jm_cd1 = some l from h) ▸ jm_ckm1
  | 2, h => exact Option.some.inj (show some jm_cd2 = some l from h) ▸ jm_ckm2
  | 3, h => exact Option.some.inj (show some jm_cd3 = some l from h) ▸ jm_ckm3
  | 4, h => exact Option.some.inj (show some jm_cd4 = some l from h) ▸ jm_ckm4
  | 5, h => exact Option.some.inj (show some jm_cd5 = some l from h) ▸ jm_ckm5
  | 6, h => exact Option.some.inj (show some jm_cd6 = some l from h) ▸ jm_ckm6
  | 7, h => exact Option.some.inj (show some jm_cd7 = some l from h) ▸ jm_ckm7
  | 8, h => exact Option.some.inj (show some jm_cd8 = some l from h) ▸ jm_ckm8
  | 9, h => exact Option.some.inj (show some jm_cd9 = some l from h) ▸ jm_ckm9
  | 10, h => exact Option.some.inj (show some jm_cd10 = some l from h) ▸ jm_ckm10
  | 11, h => exact Option.some.inj (show some jm_cd11 = some l from h) ▸ jm_ckm11
  | 12, h => exact Option.some.inj (show some jm_cd12 = some l from h) ▸ jm_ckm12
  | 13, h => exact Option.some.inj (show some jm_cd13 = some l from h) ▸ jm_ckm13
  | 14, h => exact Option.some.inj (show some jm_cd14 = some l from h) ▸ jm_ckm14
  | 15, h => exact Option.some.inj (show some jm_cd15 = some l from h) ▸ jm_ckm15
  | 16, h => exact Option.some.inj (show some jm_cd16 = some l from h) ▸ jm_ckm16
  | 17, h => exact Option.some.inj (show some jm_cd17 = some l from h) ▸ jm_ckm17
  | 18, h => exact Option.some.inj (show some jm_cd18 = some l from h) ▸ jm_ckm18
  | 19, h => exact Option.some.inj (show some jm_cd19 = some l from h) ▸ jm_ckm19
  | 20, h => exact Option.some.inj (show some jm_cd20 = some l from h) ▸ jm_ckm20
  | 21, h => exact Option.some.inj (show some jm_cd21 = some l from h) ▸ jm_ckm21
  | 22, h => exact Option.some.inj (show some jm_cd22 = some l from h) ▸ jm_ckm22
  | 23, h => exact Option.some.inj (show some jm_cd23 = some l from h) ▸ jm_ckm23
  | 24, h => exact Option.some.inj (show some jm_cd24 = some l from h) ▸ jm_ckm24
  | 25, h => exact Option.some.inj (show some jm_cd25 = some l from h) ▸ jm_ckm25
  | 26, h => exact Option.some.inj (show some jm_cd26 = some l from h) ▸ jm_ckm26
  | 27, h => exact Option.some.inj (show some jm_cd27 = some l from h) ▸ jm_ckm27
  | 28, h => exact Option.some.inj (show some jm_cd28 = some l from h) ▸ jm_ckm28
  | 29, h => exact Option.some.inj (show some jm_cd29 = some l from h) ▸ jm_ckm29
  | 30, h => exact Option.some.inj (show some jm_cd30 = some l from h) ▸ jm_ckm30
  | 31, h => exact Option.some.inj (show some jm_cd31 = some l from h) ▸ jm_ckm31
  | 32, h => exact Option.some.inj (show some jm_cd32 = some l from h) ▸ jm_ckm32
  | 33, h => exact Option.some.inj (show some jm_cd33 = some l from h) ▸ jm_ckm33
  | 34, h => exact Option.some.inj (show some jm_cd34 = some l from h) ▸ jm_ckm34
  | 35, h => exact Option.some.inj (show some jm_cd35 = some l from h) ▸ jm_ckm35
  | 36, h => exact Option.some.inj (show some jm_cd36 = some l from h) ▸ jm_ckm36
  | 37, h => exact Option.some.inj (show some jm_cd37 = some l from h) ▸ jm_ckm37
  | 38, h => exact Option.some.inj (show some jm_cd38 = some l from h) ▸ jm_ckm38
  | 39, h => exact Option.some.inj (show some jm_cd39 = some l from h) ▸ jm_ckm39
  | 40, h => exact Option.some.inj (show some jm_cd40 = some l from h) ▸ jm_ckm40
  | 41, h => exact Option.some.inj (show some jm_cd41 = some l from h) ▸ jm_ckm41
  | 42, h => exact Option.some.inj (show some jm_cd42 = some l from h) ▸ jm_ckm42
  | 43, h => exact Option.some.inj (show some jm_cd43 = some l from h) ▸ jm_ckm43
  | 44, h => exact Option.some.inj (show some jm_cd44 = some l from h) ▸ jm_ckm44
  | 45, h => exact Option.some.inj (show some jm_cd45 = some l from h) ▸ jm_ckm45
  | 46, h => exact Option.some.inj (show some jm_cd46 = some l from h) ▸ jm_ckm46
  | 47, h => exact Option.some.inj (show some jm_cd47 = some l from h) ▸ jm_ckm47
  | 48, h => exact Option.some.inj (show some jm_cd48 = some l from h) ▸ jm_ckm48
  | 49, h => exact Option.some.inj (show some jm_cd49 = some l from h) ▸ jm_ckm49
  | 50, h => exact Option.some.inj (show some jm_cd50 = some l from h) ▸ jm_ckm50
  | 51, h => exact Option.some.inj (show some jm_cd51 = some l from h) ▸ jm_ckm51
  | 52, h => exact Option.some.inj (show some jm_cd52 = some l from h) ▸ jm_ckm52
  | 53, h => exact Option.some.inj (show some jm_cd53 = some l from h) ▸ jm_ckm53
  | 54, h => exact Option.some.inj (show some jm_cd54 = some l from h) ▸ jm_ckm54
  | 55, h => exact Option.some.inj (show some jm_cd55 = some l from h) ▸ jm_ckm55
  | 56, h => exact Option.some.inj (show some jm_cd56 = some l from h) ▸ jm_ckm56
  | 57, h => exact Option.some.inj (show some jm_cd57 = some l from h) ▸ jm_ckm57
  | 58, h => exact Option.some.inj (show some jm_cd58 = some l from h) ▸ jm_ckm58
  | 59, h => exact Option.some.inj (show some jm_cd59 = some l from h) ▸ jm_ckm59
  | 60, h => exact Option.some.inj (show some jm_cd60 = some l from h) ▸ jm_ckm60
  | 61, h => exact Option.some.inj (show some jm_cd61 = some l from h) ▸ jm_ckm61
  | 62, h => exact Option.some.inj (show some jm_cd62 = some l from h) ▸ jm_ckm62
  | 63, h => exact Option.some.inj (show some jm_cd63 = some l from h) ▸ jm_ckm63
  | 64, h => exact Option.some.inj (show some jm_cd64 = some l from h) ▸ jm_ckm64
  | 65, h => exact Option.some.inj (show some jm_cd65 = some l from h) ▸ jm_ckm65
  | 66, h => exact Option.some.inj (show some jm_cd66 = some l from h) ▸ jm_ckm66
  | 67, h => exact Option.some.inj (show some jm_cd67 = some l from h) ▸ jm_ckm67
  | 68, h => exact Option.some.inj (show some jm_cd68 = some l from h) ▸ jm_ckm68
  | 69, h => exact Option.some.inj (show some jm_cd69 = some l from h) ▸ jm_ckm69
  | 70, h => exact Option.some.inj (show some jm_cd70 = some l from h) ▸ jm_ckm70
  | 71, h => exact Option.some.inj (show some jm_cd71 = some l from h) ▸ jm_ckm71
  | 72, h => exact Option.some.inj (show some jm_cd72 = some l from h) ▸ jm_ckm72
  | 73, h => exact Option.some.inj (show some jm_cd73 = some l from h) ▸ jm_ckm73
  | 74, h => exact Option.some.inj (show some jm_cd74 = some l from h) ▸ jm_ckm74
  | 75, h => exact Option.some.inj (show some jm_cd75 = some l from h) ▸ jm_ckm75
  | 76, h => exact Option.some.inj (show some jm_cd76 = some l from h) ▸ jm_ckm76
  | 77, h => exact Option.some.inj (show some jm_cd77 = some l from h) ▸ jm_ckm77
  | 78, h => exact Option.some.inj (show some jm_cd78 = some l from h) ▸ jm_ckm78
  | 79, h => exact Option.some.inj (show some jm_cd79 = some l from h) ▸ jm_ckm79
  | 80, h => exact Option.some.inj (show some jm_cd80 = some l from h) ▸ jm_ckm80
  | 81, h => exact Option.some.inj (show some jm_cd81 = some l from h) ▸ jm_ckm81
  | 82, h => exact Option.some.inj (show some jm_cd82 = some l from h) ▸ jm_ckm82
  | 83, h => exact Option.some.inj (show some jm_cd83 = some l from h) ▸ jm_ckm83
  | 84, h => exact Option.some.inj (show some jm_cd84 = some l from h) ▸ jm_ckm84
  | 85, h => exact Option.some.inj (show some jm_cd85 = some l from h) ▸ jm_ckm85
  | 86, h => exact Option.some.inj (show some jm_cd86 = some l from h) ▸ jm_ckm86
  | 87, h => exact Option.some.inj (show some jm_cd87 = some l from h) ▸ jm_ckm87
  | 88, h => exact Option.some.inj (show some jm_cd88 = some l from h) ▸ jm_ckm88
  | 89, h => exact Option.some.inj (show some jm_cd89 = some l from h) ▸ jm_ckm89
  | 90, h => exact Option.some.inj (show some jm_cd90 = some l from h) ▸ jm_ckm90
  | 91, h => exact Option.some.inj (show some jm_cd91 = some l from h) ▸ jm_ckm91
  | 92, h => exact Option.some.inj (show some jm_cd92 = some l from h) ▸ jm_ckm92
  | 93, h => exact Option.some.inj (show some jm_cd93 = some l from h) ▸ jm_ckm93
  | 94, h => exact Option.some.inj (show some jm_cd94 = some l from h) ▸ jm_ckm94
  | 95, h => exact Option.some.inj (show some jm_cd95 = some l from h) ▸ jm_ckm95
  | 96, h => exact Option.some.inj (show some jm_cd96 = some l from h) ▸ jm_ckm96
  | 97, h => exact Option.some.inj (show some jm_cd97 = some l from h) ▸ jm_ckm97
  | 98, h => exact Option.some.inj (show some jm_cd98 = some l from h) ▸ jm_ckm98
  | 99, h => exact Option.some.inj (show some jm_cd99 = some l from h) ▸ jm_ckm99
  | 100, h => exact Option.some.inj (show some jm_cd100 = some l from h) ▸ jm_ckm100
  | 101, h => exact Option.some.inj (show some jm_cd101 = some l from h) ▸ jm_ckm101
  | 102, h => exact Option.some.inj (show some jm_cd102 = some l from h) ▸ jm_ckm102
  | 103, h => exact Option.some.inj (show some jm_cd103 = some l from h) ▸ jm_ckm103
  | 104, h => exact Option.some.inj (show some jm_cd104 = some l from h) ▸ jm_ckm104
  | 105, h => exact Option.some.inj (show some jm_cd105 = some l from h) ▸ jm_ckm105
  | 106, h => exact Option.some.inj (show some jm_cd106 = some l from h) ▸ jm_ckm106
  | 107, h => exact Option.some.inj (show some jm_cd107 = some l from h) ▸ jm_ckm107
  | 108, h => exact Option.some.inj (show some jm_cd108 = some l from h) ▸ jm_ckm108
  | 109, h => exact Option.some.inj (show some jm_cd109 = some l from h) ▸ jm_ckm109
  | 110, h => exact Option.some.inj (show some jm_cd110 = some l from h) ▸ jm_ckm110
  | 111, h => exact Option.some.inj (show some jm_cd111 = some l from h) ▸ jm_ckm111
  | 112, h => exact Option.some.inj (show some jm_cd112 = some l from h) ▸ jm_ckm112
  | 113, h => exact Option.some.inj (show some jm_cd113 = some l from h) ▸ jm_ckm113
  | 114, h => exact Option.some.inj (show some jm_cd114 = some l from h) ▸ jm_ckm114
  | 115, h => exact Option.some.inj (show some jm_cd115 = some l from h) ▸ jm_ckm115
  | 116, h => exact Option.some.inj (show some jm_cd116 = some l from h) ▸ jm_ckm116
  | 117, h => exact Option.some.inj (show some jm_cd117 = some l from h) ▸ jm_ckm117
  | 118, h => exact Option.some.inj (show some jm_cd118 = some l from h) ▸ jm_ckm118
  | 119, h => exact Option.some.inj (show some jm_cd119 = some l from h) ▸ jm_ckm119
  | 120, h => exact Option.some.inj (show some jm_cd120 = some l from h) ▸ jm_ckm120
  | 121, h => exact Option.some.inj (show some jm_cd121 = some l from h) ▸ jm_ckm121
  | 122, h => exact Option.some.inj (show some jm_cd122 = some l from h) ▸ jm_ckm122
  | 123, h => exact Option.some.inj (show some jm_cd123 = some l from h) ▸ jm_ckm123
  | 124, h => exact Option.some.inj (show some jm_cd124 = some l from h) ▸ jm_ckm124
  | 125, h => exact Option.some.inj (show some jm_cd125 = some l from h) ▸ jm_ckm125
  | 126, h => exact Option.some.inj (show some jm_cd126 = some l from h) ▸ jm_ckm126
  | 127, h => exact Option.some.inj (show some jm_cd127 = some l from h) ▸ jm_ckm127
  | 128, h => exact Option.some.inj (show some jm_cd128 = some l from h) ▸ jm_ckm128
  | 129, h => exact Option.some.inj (show some jm_cd129 = some l from h) ▸ jm_ckm129
  | 130, h => exact Option.some.inj (show some jm_cd130 = some l from h) ▸ jm_ckm130
  | 131, h => exact Option.some.inj (show some jm_cd131 = some l from h) ▸ jm_ckm131
  | 132, h => exact Option.some.inj (show some jm_cd132 = some l from h) ▸ jm_ckm132
  | 133, h => exact Option.some.inj (show some jm_cd133 = some l from h) ▸ jm_ckm133
  | 134, h => exact Option.some.inj (show some jm_cd134 = some l from h) ▸ jm_ckm134
  | 135, h => exact Option.some.inj (show some jm_cd135 = some l from h) ▸ jm_ckm135
  | 136, h => exact Option.some.inj (show some jm_cd136 = some l from h) ▸ jm_ckm136
  | 137, h => exact Option.some.inj (show some jm_cd137 = some l from h) ▸ jm_ckm137
  | 138, h => exact Option.some.inj (show some jm_cd138 = some l from h) ▸ jm_ckm138
  | 139, h => exact Option.some.inj (show some jm_cd139 = some l from h) ▸ jm_ckm139
  | 140, h => exact Option.some.inj (show some jm_cd140 = some l from h) ▸ jm_ckm140
  | 141, h => exact Option.some.inj (show some jm_cd141 = some l from h) ▸ jm_ckm141
  | 142, h => exact Option.some.inj (show some jm_cd142 = some l from h) ▸ jm_ckm142
  | 143, h => exact Option.some.inj (show some jm_cd143 = some l from h) ▸ jm_ckm143
  | 144, h => exact Option.some.inj (show some jm_cd144 = some l from h) ▸ jm_ckm144
  | 145, h => exact Option.some.inj (show some jm_cd145 = some l from h) ▸ jm_ckm145
  | 146, h => exact Option.some.inj (show some jm_cd146 = some l from h) ▸ jm_ckm146
  | 147, h => exact Option.some.inj (show some jm_cd147 = some l from h) ▸ jm_ckm147
  | 148, h => exact Option.some.inj (show some jm_cd148 = some l from h) ▸ jm_ckm148
  | 149, h => exact Option.some.inj (show some jm_cd149 = some l from h) ▸ jm_ckm149
  | 150, h => exact Option.some.inj (show some jm_cd150 = some l from h) ▸ jm_ckm150
  | 151, h => exact Option.some.inj (show some jm_cd151 = some l from h) ▸ jm_ckm151
  | 152, h => exact Option.some.inj (show some jm_cd152 = some l from h) ▸ jm_ckm152
  | 153, h => exact Option.some.inj (show some jm_cd153 = some l from h) ▸ jm_ckm153
  | 154, h => exact Option.some.inj (show some jm_cd154 = some l from h) ▸ jm_ckm154
  | 155, h => exact Option.some.inj (show some jm_cd155 = some l from h) ▸ jm_ckm155
  | 156, h => exact Option.some.inj (show some jm_cd156 = some l from h) ▸ jm_ckm156
  | 157, h => exact Option.some.inj (show some jm_cd157 = some l from h) ▸ jm_ckm157
  | 158, h => exact Option.some.inj (show some jm_cd158 = some l from h) ▸ jm_ckm158
  | 159, h => exact Option.some.inj (show some jm_cd159 = some l from h) ▸ jm_ckm159
  | 160, h => exact Option.some.inj (show some jm_cd160 = some l from h) ▸ jm_ckm160
  | 161, h => exact Option.some.inj (show some jm_cd161 = some l from h) ▸ jm_ckm161
  | 162, h => exact Option.some.inj (show some jm_cd162 = some l from h) ▸ jm_ckm162
  | 163, h => exact Option.some.inj (show some jm_cd163 = some l from h) ▸ jm_ckm163
  | 164, h => exact Option.some.inj (show some jm_cd164 = some l from h) ▸ jm_ckm164
  | 165, h => exact Option.some.inj (show some jm_cd165 = some l from h) ▸ jm_ckm165
  | 166, h => exact Option.some.inj (show some jm_cd166 = some l from h) ▸ jm_ckm166
  | 167, h => exact Option.some.inj (show some jm_cd167 = some l from h) ▸ jm_ckm167
  | 168, h => exact Option.some.inj (show some jm_cd168 = some l from h) ▸ jm_ckm168
  | 169, h => exact Option.some.inj (show some jm_cd169 = some l from h) ▸ jm_ckm169
  | 170, h => exact Option.some.inj (show some jm_cd170 = some l from h) ▸ jm_ckm170
  | 171, h => exact Option.some.inj (show some jm_cd171 = some l from h) ▸ jm_ckm171
  | 172, h => exact Option.some.inj (show some jm_cd172 = some l from h) ▸ jm_ckm172
  | 173, h => exact Option.some.inj (show some jm_cd173 = some l from h) ▸ jm_ckm173
  | 174, h => exact Option.some.inj (show some jm_cd174 = some l from h) ▸ jm_ckm174
  | 175, h => exact Option.some.inj (show some jm_cd175 = some l from h) ▸ jm_ckm175
  | 176, h => exact Option.some.inj (show some jm_cd176 = some l from h) ▸ jm_ckm176
  | 177, h => exact Option.some.inj (show some jm_cd177 = some l from h) ▸ jm_ckm177
  | 178, h => exact Option.some.inj (show some jm_cd178 = some l from h) ▸ jm_ckm178
  | 179, h => exact Option.some.inj (show some jm_cd179 = some l from h) ▸ jm_ckm179
  | 180, h => exact Option.some.inj (show some jm_cd180 = some l from h) ▸ jm_ckm180
  | 181, h => exact Option.some.inj (show some jm_cd181 = some l from h) ▸ jm_ckm181
  | 182, h => exact Option.some.inj (show some jm_cd182 = some l from h) ▸ jm_ckm182
  | 183, h => exact Option.some.inj (show some jm_cd183 = some l from h) ▸ jm_ckm183
  | 184, h => exact Option.some.inj (show some jm_cd184 = some l from h) ▸ jm_ckm184
  | 185, h => exact Option.some.inj (show some jm_cd185 = some l from h) ▸ jm_ckm185
  | 186, h => exact Option.some.inj (show some jm_cd186 = some l from h) ▸ jm_ckm186
  | 187, h => exact Option.some.inj (show some jm_cd187 = some l from h) ▸ jm_ckm187
  | 188, h => exact Option.some.inj (show some jm_cd188 = some l from h) ▸ jm_ckm188
  | 189, h => exact Option.some.inj (show some jm_cd189 = some l from h) ▸ jm_ckm189
  | 190, h => exact Option.some.inj (show some jm_cd190 = some l from h) ▸ jm_ckm190
  | 191, h => exact Option.some.inj (show some jm_cd191 = some l from h) ▸ jm_ckm191
  | 192, h => exact Option.some.inj (show some jm_cd192 = some l from h) ▸ jm_ckm192
  | 193, h => exact Option.some.inj (show some jm_cd193 = some l from h) ▸ jm_ckm193
  | 194, h => exact Option.some.inj (show some jm_cd194 = some l from h) ▸ jm_ckm194
  | 195, h => exact Option.some.inj (show some jm_cd195 = some l from h) ▸ jm_ckm195
  | 196, h => exact Option.some.inj (show some jm_cd196 = some l from h) ▸ jm_ckm196
  | 197, h => exact Option.some.inj (show some jm_cd197 = some l from h) ▸ jm_ckm197
  | 198, h => exact Option.some.inj (show some jm_cd198 = some l from h) ▸ jm_ckm198
  | 199, h => exact Option.some.inj (show some jm_cd199 = some l from h) ▸ jm_ckm199
  | 200, h => exact Option.some.inj (show some jm_cd200 = some l from h) ▸ jm_ckm200
  | 201, h => exact Option.some.inj (show some jm_cd201 = some l from h) ▸ jm_ckm201
  | 202, h => exact Option.some.inj (show some jm_cd202 = some l from h) ▸ jm_ckm202
  | 203, h => exact Option.some.inj (show some jm_cd203 = some l from h) ▸ jm_ckm203
  | 204, h => exact Option.some.inj (show some jm_cd204 = some l from h) ▸ jm_ckm204
  | 205, h => exact Option.some.inj (show some jm_cd205 = some l from h) ▸ jm_ckm205
  | 206, h => exact Option.some.inj (show some jm_cd206 = some l from h) ▸ jm_ckm206
  | 207, h => exact Option.some.inj (show some jm_cd207 = some l from h) ▸ jm_ckm207
  | 208, h => exact Option.some.inj (show some jm_cd208 = some l from h) ▸ jm_ckm208
  | 209, h => exact Option.some.inj (show some jm_cd209 = some l from h) ▸ jm_ckm209
  | 210, h => exact Option.some.inj (show some jm_cd210 = some l from h) ▸ jm_ckm210
  | 211, h => exact Option.some.inj (show some jm_cd211 = some l from h) ▸ jm_ckm211
  | 212, h => exact Option.some.inj (show some jm_cd212 = some l from h) ▸ jm_ckm212
  | 213, h => exact Option.some.inj (show some jm_cd213 = some l from h) ▸ jm_ckm213
  | 214, h => exact Option.some.inj (show some jm_cd214 = some l from h) ▸ jm_ckm214
  | 215, h => exact Option.some.inj (show some jm_cd215 = some l from h) ▸ jm_ckm215
  | 216, h => exact Option.some.inj (show some jm_cd216 = some l from h) ▸ jm_ckm216
  | m + 217, h => exact nomatch (show (none : Option (List (Instr × Nat × Int))) = some l from h)
theorem jm_ck_at {m k : Nat} {e : Instr × Nat × Int} (h : jm_rc m k = some e) : jm_ck m k e = true := by
  unfold jm_rc at h
  cases hl : jm_nth jm_cdT m with
  | none => rw [hl] at h; cases h
  | some l =>
    rw [hl] at h
    have := jm_ckL_at m l 0 k e (jm_ck_of hl) h
    rw [Nat.zero_add] at this
    exact this
theorem jm_dec {m k : Nat} {e : Instr × Nat × Int} (h : jm_rc m k = some e) (hn : e.1 ≠ .nop) : decode (jm_b m) (jm_bp m k) = .ok (e.1, jm_len e) ∧ jm_ck1 m k e = true ∧ jm_ck2 m e = true := by
  have h1 := jm_ck_at h
  unfold jm_ck at h1
  split at h1
  · rename_i h2
    exact absurd h2 hn
  · rw [Bool.and_eq_true, Bool.and_eq_true] at h1
    exact ⟨of_decide_eq_true h1.1, h1.2.1, h1.2.2⟩
theorem jm_mc_ok {m : Nat} (h : m < 216) : Cond.code (jm_y m) (jm_b m) (jm_mi m).2.2.2.1 (jm_r m) ∈ jm_g := by
  match m, h with
  | 0, _ => exact jm_in_g 744 jm_mc0 rfl
  | 1, _ => exact jm_in_g 750 jm_mc1 rfl
  | 2, _ => exact jm_in_g 754 jm_mc2 rfl
  | 3, _ => exact jm_in_g 808 jm_mc3 rfl
  | 4, _ => exact jm_in_g 812 jm_mc4 rfl
  | 5, _ => exact jm_in_g 944 jm_mc5 rfl
  | 6, _ => exact jm_in_g 948 jm_mc6 rfl
  | 7, _ => exact jm_in_g 955 jm_mc7 rfl
  | 8, _ => exact jm_in_g 959 jm_mc8 rfl
  | 9, _ => exact jm_in_g 963 jm_mc9 rfl
  | 10, _ => exact jm_in_g 687 jm_mc10 rfl
  | 11, _ => exact jm_in_g 183 jm_mc11 rfl
  | 12, _ => exact jm_in_g 190 jm_mc12 rfl
  | 13, _ => exact jm_in_g 206 jm_mc13 rfl
  | 14, _ => exact jm_in_g 214 jm_mc14 rfl
  | 15, _ => exact jm_in_g 218 jm_mc15 rfl
  | 16, _ => exact jm_in_g 210 jm_mc16 rfl
  | 17, _ => exact jm_in_g 222 jm_mc17 rfl
  | 18, _ => exact jm_in_g 226 jm_mc18 rfl
  | 19, _ => exact jm_in_g 826 jm_mc19 rfl
  | 20, _ => exact jm_in_g 724 jm_mc20 rfl
  | 21, _ => exact jm_in_g 740 jm_mc21 rfl
  | 22, _ => exact jm_in_g 714 jm_mc22 rfl
  | 23, _ => exact jm_in_g 940 jm_mc23 rfl
  | 24, _ => exact jm_in_g 861 jm_mc24 rfl
  | 25, _ => exact jm_in_g 792 jm_mc25 rfl
  | 26, _ => exact jm_in_g 796 jm_mc26 rfl
  | 27, _ => exact jm_in_g 788 jm_mc27 rfl
  | 28, _ => exact jm_in_g 975 jm_mc28 rfl
  | 29, _ => exact jm_in_g 1030 jm_mc29 rfl
  | 30, _ => exact jm_in_g 1034 jm_mc30 rfl
  | 31, _ => exact jm_in_g 894 jm_mc31 rfl
  | 32, _ => exact jm_in_g 899 jm_mc32 rfl
  | 33, _ => exact jm_in_g 908 jm_mc33 rfl
  | 34, _ => exact jm_in_g 912 jm_mc34 rfl
  | 35, _ => exact jm_in_g 916 jm_mc35 rfl
  | 36, _ => exact jm_in_g 904 jm_mc36 rfl
  | 37, _ => exact jm_in_g 924 jm_mc37 rfl
  | 38, _ => exact jm_in_g 928 jm_mc38 rfl
  | 39, _ => exact jm_in_g 932 jm_mc39 rfl
  | 40, _ => exact jm_in_g 758 jm_mc40 rfl
  | 41, _ => exact jm_in_g 764 jm_mc41 rfl
  | 42, _ => exact jm_in_g 768 jm_mc42 rfl
  | 43, _ => exact jm_in_g 772 jm_mc43 rfl
  | 44, _ => exact jm_in_g 1121 jm_mc44 rfl
  | 45, _ => exact jm_in_g 776 jm_mc45 rfl
  | 46, _ => exact jm_in_g 780 jm_mc46 rfl
  | 47, _ => exact jm_in_g 784 jm_mc47 rfl
  | 48, _ => exact jm_in_g 869 jm_mc48 rfl
  | 49, _ => exact jm_in_g 876 jm_mc49 rfl
  | 50, _ => exact jm_in_g 844 jm_mc50 rfl
  | 51, _ => exact jm_in_g 853 jm_mc51 rfl
  | 52, _ => exact jm_in_g 849 jm_mc52 rfl
  | 53, _ => exact jm_in_g 698 jm_mc53 rfl
  | 54, _ => exact jm_in_g 830 jm_mc54 rfl
  | 55, _ => exact jm_in_g 971 jm_mc55 rfl
  | 56, _ => exact jm_in_g 992 jm_mc56 rfl
  | 57, _ => exact jm_in_g 834 jm_mc57 rfl
  | 58, _ => exact jm_in_g 840 jm_mc58 rfl
  | 59, _ => exact jm_in_g 865 jm_mc59 rfl
  | 60, _ => exact jm_in_g 857 jm_mc60 rfl
  | 61, _ => exact jm_in_g 1157 jm_mc61 rfl
  | 62, _ => exact jm_in_g 557 jm_mc62 rfl
  | 63, _ => exact jm_in_g 565 jm_mc63 rfl
  | 64, _ => exact jm_in_g 569 jm_mc64 rfl
  | 65, _ => exact jm_in_g 651 jm_mc65 rfl
  | 66, _ => exact jm_in_g 656 jm_mc66 rfl
  | 67, _ => exact jm_in_g 663 jm_mc67 rfl
  | 68, _ => exact jm_in_g 673 jm_mc68 rfl
  | 69, _ => exact jm_in_g 642 jm_mc69 rfl
  | 70, _ => exact jm_in_g 638 jm_mc70 rfl
  | 71, _ => exact jm_in_g 573 jm_mc71 rfl
  | 72, _ => exact jm_in_g 581 jm_mc72 rfl
  | 73, _ => exact jm_in_g 577 jm_mc73 rfl
  | 74, _ => exact jm_in_g 586 jm_mc74 rfl
  | 75, _ => exact jm_in_g 646 jm_mc75 rfl
  | 76, _ => exact jm_in_g 691 jm_mc76 rfl
  | 77, _ => exact jm_in_g 668 jm_mc77 rfl
  | 78, _ => exact jm_in_g 679 jm_mc78 rfl
  | 79, _ => exact jm_in_g 984 jm_mc79 rfl
  | 80, _ => exact jm_in_g 194 jm_mc80 rfl
  | 81, _ => exact jm_in_g 198 jm_mc81 rfl
  | 82, _ => exact jm_in_g 202 jm_mc82 rfl
  | 83, _ => exact jm_in_g 553 jm_mc83 rfl
  | 84, _ => exact jm_in_g 561 jm_mc84 rfl
  | 85, _ => exact jm_in_g 702 jm_mc85 rfl
  | 86, _ => exact jm_in_g 710 jm_mc86 rfl
  | 87, _ => exact jm_in_g 720 jm_mc87 rfl
  | 88, _ => exact jm_in_g 732 jm_mc88 rfl
  | 89, _ => exact jm_in_g 1043 jm_mc89 rfl
  | 90, _ => exact jm_in_g 1115 jm_mc90 rfl
  | 91, _ => exact jm_in_g 736 jm_mc91 rfl
  | 92, _ => exact jm_in_g 800 jm_mc92 rfl
  | 93, _ => exact jm_in_g 1128 jm_mc93 rfl
  | 94, _ => exact jm_in_g 804 jm_mc94 rfl
  | 95, _ => exact jm_in_g 818 jm_mc95 rfl
  | 96, _ => exact jm_in_g 1135 jm_mc96 rfl
  | 97, _ => exact jm_in_g 1143 jm_mc97 rfl
  | 98, _ => exact jm_in_g 882 jm_mc98 rfl
  | 99, _ => exact jm_in_g 1152 jm_mc99 rfl
  | 100, _ => exact jm_in_g 886 jm_mc100 rfl
  | 101, _ => exact jm_in_g 920 jm_mc101 rfl
  | 102, _ => exact jm_in_g 936 jm_mc102 rfl
  | 103, _ => exact jm_in_g 967 jm_mc103 rfl
  | 104, _ => exact jm_in_g 980 jm_mc104 rfl
  | 105, _ => exact jm_in_g 988 jm_mc105 rfl
  | 106, _ => exact jm_in_g 996 jm_mc106 rfl
  | 107, _ => exact jm_in_g 1000 jm_mc107 rfl
  | 108, _ => exact jm_in_g 1008 jm_mc108 rfl
  | 109, _ => exact jm_in_g 1012 jm_mc109 rfl
  | 110, _ => exact jm_in_g 1017 jm_mc110 rfl
  | 111, _ => exact jm_in_g 1022 jm_mc111 rfl
  | 112, _ => exact jm_in_g 1026 jm_mc112 rfl
  | 113, _ => exact jm_in_g 822 jm_mc113 rfl
  | 114, _ => exact jm_in_g 890 jm_mc114 rfl
  | 115, _ => exact jm_in_g 705 jm_mc115 rfl
  | 116, _ => exact jm_in_g 727 jm_mc116 rfl
  | 117, _ => exact jm_in_g 1004 jm_mc117 rfl
  | 118, _ => exact jm_in_g 1161 jm_mc118 rfl
  | 119, _ => exact jm_in_g 1343 jm_mc119 rfl
  | 120, _ => exact jm_in_g 1171 jm_mc120 rfl
  | 121, _ => exact jm_in_g 1407 jm_mc121 rfl
  | 122, _ => exact jm_in_g 1403 jm_mc122 rfl
  | 123, _ => exact jm_in_g 1411 jm_mc123 rfl
  | 124, _ => exact jm_in_g 1399 jm_mc124 rfl
  | 125, _ => exact jm_in_g 1435 jm_mc125 rfl
  | 126, _ => exact jm_in_g 1439 jm_mc126 rfl
  | 127, _ => exact jm_in_g 1447 jm_mc127 rfl
  | 128, _ => exact jm_in_g 1443 jm_mc128 rfl
  | 129, _ => exact jm_in_g 1451 jm_mc129 rfl
  | 130, _ => exact jm_in_g 1459 jm_mc130 rfl
  | 131, _ => exact jm_in_g 1521 jm_mc131 rfl
  | 132, _ => exact jm_in_g 1419 jm_mc132 rfl
  | 133, _ => exact jm_in_g 1332 jm_mc133 rfl
  | 134, _ => exact jm_in_g 1336 jm_mc134 rfl
  | 135, _ => exact jm_in_g 1351 jm_mc135 rfl
  | 136, _ => exact jm_in_g 1354 jm_mc136 rfl
  | 137, _ => exact jm_in_g 1360 jm_mc137 rfl
  | 138, _ => exact jm_in_g 1364 jm_mc138 rfl
  | 139, _ => exact jm_in_g 1347 jm_mc139 rfl
  | 140, _ => exact jm_in_g 1371 jm_mc140 rfl
  | 141, _ => exact jm_in_g 1375 jm_mc141 rfl
  | 142, _ => exact jm_in_g 1379 jm_mc142 rfl
  | 143, _ => exact jm_in_g 1387 jm_mc143 rfl
  | 144, _ => exact jm_in_g 1391 jm_mc144 rfl
  | 145, _ => exact jm_in_g 1383 jm_mc145 rfl
  | 146, _ => exact jm_in_g 1395 jm_mc146 rfl
  | 147, _ => exact jm_in_g 1340 jm_mc147 rfl
  | 148, _ => exact jm_in_g 1415 jm_mc148 rfl
  | 149, _ => exact jm_in_g 1423 jm_mc149 rfl
  | 150, _ => exact jm_in_g 1427 jm_mc150 rfl
  | 151, _ => exact jm_in_g 1431 jm_mc151 rfl
  | 152, _ => exact jm_in_g 1463 jm_mc152 rfl
  | 153, _ => exact jm_in_g 1455 jm_mc153 rfl
  | 154, _ => exact jm_in_g 1480 jm_mc154 rfl
  | 155, _ => exact jm_in_g 1484 jm_mc155 rfl
  | 156, _ => exact jm_in_g 1492 jm_mc156 rfl
  | 157, _ => exact jm_in_g 1488 jm_mc157 rfl
  | 158, _ => exact jm_in_g 1475 jm_mc158 rfl
  | 159, _ => exact jm_in_g 1471 jm_mc159 rfl
  | 160, _ => exact jm_in_g 1467 jm_mc160 rfl
  | 161, _ => exact jm_in_g 1501 jm_mc161 rfl
  | 162, _ => exact jm_in_g 1497 jm_mc162 rfl
  | 163, _ => exact jm_in_g 1505 jm_mc163 rfl
  | 164, _ => exact jm_in_g 1509 jm_mc164 rfl
  | 165, _ => exact jm_in_g 1525 jm_mc165 rfl
  | 166, _ => exact jm_in_g 1533 jm_mc166 rfl
  | 167, _ => exact jm_in_g 1529 jm_mc167 rfl
  | 168, _ => exact jm_in_g 1517 jm_mc168 rfl
  | 169, _ => exact jm_in_g 1513 jm_mc169 rfl
  | 170, _ => exact jm_in_g 1549 jm_mc170 rfl
  | 171, _ => exact jm_in_g 1569 jm_mc171 rfl
  | 172, _ => exact jm_in_g 1561 jm_mc172 rfl
  | 173, _ => exact jm_in_g 1565 jm_mc173 rfl
  | 174, _ => exact jm_in_g 1573 jm_mc174 rfl
  | 175, _ => exact jm_in_g 1557 jm_mc175 rfl
  | 176, _ => exact jm_in_g 1577 jm_mc176 rfl
  | 177, _ => exact jm_in_g 1581 jm_mc177 rfl
  | 178, _ => exact jm_in_g 1553 jm_mc178 rfl
  | 179, _ => exact jm_in_g 1589 jm_mc179 rfl
  | 180, _ => exact jm_in_g 1585 jm_mc180 rfl
  | 181, _ => exact jm_in_g 1541 jm_mc181 rfl
  | 182, _ => exact jm_in_g 1545 jm_mc182 rfl
  | 183, _ => exact jm_in_g 1537 jm_mc183 rfl
  | 184, _ => exact jm_in_g 1593 jm_mc184 rfl
  | 185, _ => exact jm_in_g 1597 jm_mc185 rfl
  | 186, _ => exact jm_in_g 1601 jm_mc186 rfl
  | 187, _ => exact jm_in_g 1605 jm_mc187 rfl
  | 188, _ => exact jm_in_g 1625 jm_mc188 rfl
  | 189, _ => exact jm_in_g 1621 jm_mc189 rfl
  | 190, _ => exact jm_in_g 1617 jm_mc190 rfl
  | 191, _ => exact jm_in_g 1629 jm_mc191 rfl
  | 192, _ => exact jm_in_g 1613 jm_mc192 rfl
  | 193, _ => exact jm_in_g 1609 jm_mc193 rfl
  | 194, _ => exact jm_in_g 1637 jm_mc194 rfl
  | 195, _ => exact jm_in_g 1633 jm_mc195 rfl
  | 196, _ => exact jm_in_g 1645 jm_mc196 rfl
  | 197, _ => exact jm_in_g 1649 jm_mc197 rfl
  | 198, _ => exact jm_in_g 1641 jm_mc198 rfl
  | 199, _ => exact jm_in_g 1657 jm_mc199 rfl
  | 200, _ => exact jm_in_g 1653 jm_mc200 rfl
  | 201, _ => exact jm_in_g 1661 jm_mc201 rfl
  | 202, _ => exact jm_in_g 1669 jm_mc202 rfl
  | 203, _ => exact jm_in_g 1665 jm_mc203 rfl
  | 204, _ => exact jm_in_g 1673 jm_mc204 rfl
  | 205, _ => exact jm_in_g 1681 jm_mc205 rfl
  | 206, _ => exact jm_in_g 1677 jm_mc206 rfl
  | 207, _ => exact jm_in_g 1685 jm_mc207 rfl
  | 208, _ => exact jm_in_g 1689 jm_mc208 rfl
  | 209, _ => exact jm_in_g 1693 jm_mc209 rfl
  | 210, _ => exact jm_in_g 1697 jm_mc210 rfl
  | 211, _ => exact jm_in_g 1709 jm_mc211 rfl
  | 212, _ => exact jm_in_g 1705 jm_mc212 rfl
  | 213, _ => exact jm_in_g 1713 jm_mc213 rfl
  | 214, _ => exact jm_in_g 1701 jm_mc214 rfl
  | 215, _ => exact jm_in_g 186 jm_mc215 rfl
  | m + 216, h => exact absurd h (by omega)
def jm_val (ad : Nat → Nat) : jm_V → Value
  | .inl x => .int (Int32.ofInt x)
  | .inr (.inl c) => .ref (ad c)
  | .inr (.inr x) => .long (Int64.ofInt x)
def jm_okv (ids : List Nat) (m : Nat) : jm_V → Prop
  | .inl x => jm_in x
  | .inr (.inl c) => c ∈ ids ∨ (200 ≤ c ∧ c ≤ 205) ∨ (c = 998 ∧ m = 216)
  | .inr (.inr x) => jm_in x
def jm_okM (M : jm_Mem) : Prop := ∀ c i, c ≠ 999 → jm_in (M c i)
def jm_lr (ad : Nat → Nat) (ids : List Nat) (m : Nat) (ls : jm_Ls) (JL : Array Slot) : Prop :=
  JL.size = (jm_mi m).2.2.2.1 ∧ lv_wf JL ∧ ∀ (i : Nat) (v : jm_V), jm_lg ls i = some v → JL[i]? = some (.val (jm_val ad v)) ∧ jm_okv ids m v ∧ (∀ x, v = .inr (.inr x) → m = 140)
def jm_cv (ad : Nat → Nat) (M : jm_Mem) (c k : Nat) : Nat → Value
  | 0 => .int (Int32.ofInt (M c (k : Int)))
  | 1 => .long (Int64.ofInt (M c (k : Int)))
  | 2 => .int (Int32.ofInt (M c (k : Int)))
  | t + 3 => .ref (ad t)
def jm_fv (ad : Nat → Nat) (M : jm_Mem) (c : Nat) : Nat → List Nat → List Value
  | _, [] => []
  | k, f :: fs => jm_cv ad M c k f :: jm_fv ad M c (k + 1) fs
def jm_ce (cA : Nat → ClassId) (ad : Nat → Nat) (M : jm_Mem) (c : Nat) : va_E := match jm_sh c with
  | (0, n, _) => .inl (cA 0, n, .inl (fun j => Int32.ofInt (M c (j : Int))))
  | (1, n, _) => .inl (cA 1, n, .inl (fun j => Int32.ofInt (M c (j : Int))))
  | (2, n, _) => .inl (cA 2, n, .inl (fun j => Int32.ofInt (M c (j : Int))))
  | (3, n, _) => .inl (cA 3, n, .inr (.inl (fun j => Int64.ofInt (M c (j : Int)))))
  | (4, n, ts) => .inl (cA 4, n, .inr (.inr (.inr (.inr (fun j => some (ad (ts.getD j 0)))))))
  | (k, _, fs) => .inr (k - 10, jm_fv ad M c 0 fs)
def jm_wd (cA : Nat → ClassId) (ad : Nat → Nat) (ids : List Nat) (M : jm_Mem) : va_W := ids.map (fun c => (ad c, jm_ce cA ad M c))
/-- the cells that are there: apart, changeable, closed under references -/
def jm_wok (ad : Nat → Nat) (ids : List Nat) (A : Nat → Prop) : Prop := ids.Nodup ∧ (∀ c ∈ ids, c < 95) ∧ (∀ c ∈ ids, ∀ d ∈ ids, ad c = ad d → c = d) ∧ (∀ c ∈ ids, A (ad c)) ∧ (∀ c ∈ ids, 10 ≤ (jm_sh c).1 → ∀ k t, jm_fk c k = some (t + 3) → t ∈ ids) ∧ (∀ c ∈ ids, ∀ a b, jm_sh c = (4, 2, [a, b]) → a ∈ ids ∧ b ∈ ids)
def jm_tys (cA : Nat → ClassId) : List (ClassId × FieldType) := [(cA 0, .int), (cA 1, .boolean), (cA 2, .byte), (cA 3, .long), (cA 4, .object RX8)]
def jm_six : List Nat := [45, 64, 69, 75, 77, 79]
def jm_stx : List String := ["grid", "all", "right", "down", "slash", "back"]
def jm_slen : List Nat := [4, 3, 5, 4, 5, 4]
def jm_sbyt : List (List Int32) := [[103, 114, 105, 100], [97, 108, 108], [114, 105, 103, 104, 116], [100, 111, 119, 110], [115, 108, 97, 115, 104], [98, 97, 99, 107]]
def jm_xix : List Nat := [155, 163, 212, 217, 241]
def jm_xtx : List String := ["no such face", "no such faces", "no such edge, or no flow", "no such edge or way, or no flow", "no such node, or no flow"]
def jx_N : String := "java/util/NoSuchElementException"
def jx_Kw : List Cond := [.castable jx_N jx_N, .declares (Bundle.initS "java/lang/RuntimeException"), .declares (Bundle.initS "java/lang/Exception"), .declares (Bundle.initS "java/lang/Throwable")]
def jx_K (U : State) : Prop := ∀ w ∈ jx_Kw, w.before #[] U = true
theorem jx_K_to {s U : State} (al : s.vm.Alike U.vm) (h : jx_K s) : jx_K U := by
  intro w hw
  simp only [jx_Kw, List.mem_cons, List.not_mem_nil, or_false] at hw
  rcases hw with rfl | rfl | rfl | rfl
  · exact va_tabs rfl (rfl : (s.setVm U.vm).vm = U.vm) (by rw [Cond.castable_setVm al]; exact h _ List.mem_cons_self)
  · exact va_tabs rfl (rfl : (s.setVm U.vm).vm = U.vm) (by rw [Cond.declares_setVm al]; exact h _ (List.mem_cons_of_mem _ List.mem_cons_self))
  · exact va_tabs rfl (rfl : (s.setVm U.vm).vm = U.vm) (by rw [Cond.declares_setVm al]; exact h _ (List.mem_cons_of_mem _ (List.mem_cons_of_mem _ List.mem_cons_self)))
  · exact va_tabs rfl (rfl : (s.setVm U.vm).vm = U.vm) (by rw [Cond.declares_setVm al]; exact h _ (List.mem_cons_of_mem _ (List.mem_cons_of_mem _ (List.mem_cons_of_mem _ List.mem_cons_self))))
/-- what holds of a state all along: classes, the constants, what a throw needs -/
def jm_ctx (dC : Nat → ClassId) (dI : Nat → Nat → Nat) (cA : Nat → ClassId) (ad adV : Nat → Nat) (A : Nat → Prop) (U : State) (H : Heap) : Prop :=
  va_K (dC, dI) vwCl (jm_tys cA) U ∧ vk_S 6 jm_slen jm_sbyt (fun i => ad (200 + i)) adV A U H ∧ (∀ i, i < 6 → vk_R RX7 (jm_six.getD i 0) (jm_stx.getD i "") (ad (200 + i)) U) ∧ (∀ i, i < 5 → ∃ a, vk_R RX9 (jm_xix.getD i 0) (jm_xtx.getD i "") a U) ∧ vx_Zq Bundle.tN "UNASSIGNED_STACK" Bundle.steD A U H ∧ vx_Zq Bundle.tN "SUPPRESSED_SENTINEL" Bundle.listD A U H ∧ va_Z "java/lang/String" "COMPACT_STRINGS" "Z" (.int 1) A U H ∧ va_Zq "jdk/internal/util/Preconditions" "SIOOBE_FORMATTER" "Ljava/util/function/BiFunction;" A U H ∧ jx_K U
end
section
/-! SOUNDNESS, instruction by instruction -/
/-- a frame of method m -/
def jm_F (p : Program) (R : Room) (s : State) (mid : MethodId) (args : Array Value) (c : Code) (dC : Nat → ClassId) (dI : Nat → Nat → Nat) (cA : Nat → ClassId) (ad adV : Nat → Nat) (ids : List Nat) (A : Nat → Prop) (m : Nat) : Prop :=
  p.tables.exec = Jvm.exec ∧ c.code = jm_b m ∧ c.maxLocals = (jm_mi m).2.2.2.1 ∧ s.vm.findClass (jm_cn (jm_mi m).1) = some mid.cls ∧ (∀ w ∈ jm_g, w.before args s = true) ∧ (jm_mi m).2.2.2.2.1 ≤ R.frames ∧ (jm_mi m).2.2.2.2.2.1 ≤ R.locals ∧ jm_ctx dC dI cA ad adV A s s.heap ∧ jm_wok ad ids A ∧ (∀ q : Nat, s.heap.size ≤ q → A q)
/-- from the place cf of method m the machine comes to FQ -/
def jm_G (p : Program) (l : Launch) (e : Env) (R : Room) (s : State) (mid : MethodId) (args : Array Value) (below : List Frame) (meth : Method) (c : Code) (dC : Nat → ClassId) (dI : Nat → Nat → Nat) (cA : Nat → ClassId) (ad : Nat → Nat) (ids : List Nat) (A : Nat → Prop) (m : Nat) (FQ : State → Prop) (gc gs : Int) (scr : Int → Int) (cf : jm_Cfg) : Prop :=
  ∀ (JL : Array Slot) (H : Heap) (locs : List Loc), jm_lr ad ids m cf.2.1 JL → (∀ v ∈ cf.2.2.1, jm_okv ids m v) → jm_okM cf.2.2.2 → va_P (dC, dI) vwCl (jm_wd cA ad ids cf.2.2.2) H → va_S A s.heap H locs → gc ≤ cf.2.2.2 999 0 → gs ≤ cf.2.2.2 999 1 → (m = 216 → cf.2.2.2 998 = scr) → W p l e R s mid args below meth c H locs (cf.2.2.2 999 0 - gc).toNat (cf.2.2.2 999 1 - gs).toNat FQ (F0 mid (jm_bp m cf.1) JL (cf.2.2.1.map (jm_val ad)))
theorem jm_wd_at {cA : Nat → ClassId} {ad : Nat → Nat} {ids : List Nat} {M : jm_Mem} {c : Nat} (h : c ∈ ids) : ∃ q0 : Nat, ids[q0]? = some c ∧ (jm_wd cA ad ids M)[q0]? = some (ad c, jm_ce cA ad M c) := by
  obtain ⟨q0, hq⟩ := List.getElem?_of_mem h
  refine ⟨q0, hq, ?_⟩
  unfold jm_wd
  rw [List.getElem?_map, hq]
  rfl
theorem jm_ce_congr {cA : Nat → ClassId} {ad : Nat → Nat} {M M' : jm_Mem} {c : Nat} (h : M' c = M c) : jm_ce cA ad M' c = jm_ce cA ad M c := by
  have hf : ∀ (fs : List Nat) (k : Nat), jm_fv ad M' c k fs = jm_fv ad M c k fs := by
    intro fs
    induction fs with
    | nil => intro k; rfl
    | cons f fs ih =>
      intro k
      show jm_cv ad M' c k f :: _ = jm_cv ad M c k f :: _
      rw [ih (k + 1)]
      congr 1
      unfold jm_cv
      split <;> first | rw [h] | rfl
  unfold jm_ce
  split <;> first | rw [h] | rw [hf] | rfl
theorem jm_wd_congr {cA : Nat → ClassId} {ad : Nat → Nat} {ids : List Nat} {M M' : jm_Mem} (h : ∀ c ∈ ids, M' c = M c) : jm_wd cA ad ids M' = jm_wd cA ad ids M := by
  unfold jm_wd
  exact List.map_congr_left (fun c hc => by rw [jm_ce_congr (h c hc)])
theorem jm_wd_set {cA : Nat → ClassId} {ad : Nat → Nat} {ids : List Nat} {M M' : jm_Mem} {c q0 : Nat} (hn : ids.Nodup) (hq : ids[q0]? = some c) (h : ∀ d, d ≠ c → M' d = M d) : (jm_wd cA ad ids M).set q0 (ad c, jm_ce cA ad M' c) = jm_wd cA ad ids M' := by
  unfold jm_wd
  apply List.ext_getElem?
  intro i
  rw [List.getElem?_set, List.getElem?_map, List.getElem?_map, List.length_map]
  by_cases hi : q0 = i
  · subst hi
    rw [if_pos rfl, hq, if_pos (List.getElem?_eq_some_iff.mp hq).1]
    rfl
  · rw [if_neg hi]
    cases hd : ids[i]? with
    | none => rfl
    | some d =>
      have hdc : d ≠ c := by
        intro hdc
        subst hdc
        exact hi ((List.getElem?_inj (List.getElem?_eq_some_iff.mp hq).1 hn).mp (hq.trans hd.symm))
      show some (ad d, jm_ce cA ad M d) = some (ad d, jm_ce cA ad M' d)
      rw [jm_ce_congr (h d hdc)]
theorem jm_wd_D {cA : Nat → ClassId} {ad : Nat → Nat} {ids : List Nat} {A : Nat → Prop} (M : jm_Mem) (h : jm_wok ad ids A) : va_D A (jm_wd cA ad ids M) := by
  obtain ⟨hn, -, hi, hA, -, -⟩ := h
  have at' : ∀ (k : Nat) (q : Nat × va_E), (jm_wd cA ad ids M)[k]? = some q → ∃ c, ids[k]? = some c ∧ q.1 = ad c := by
    intro k q hk
    unfold jm_wd at hk
    rw [List.getElem?_map] at hk
    cases hc : ids[k]? with
    | none => rw [hc] at hk; cases hk
    | some c => rw [hc] at hk; cases hk; exact ⟨c, rfl, rfl⟩
  refine ⟨fun i j x y hx hy hxy => ?_, fun k q hk => ?_⟩
  · obtain ⟨a, h1, h2⟩ := at' i x hx
    obtain ⟨b, h3, h4⟩ := at' j y hy
    have hab := hi a (List.mem_of_getElem? h1) b (List.mem_of_getElem? h3) (by rw [← h2, ← h4, hxy])
    subst hab
    exact (List.getElem?_inj (List.getElem?_eq_some_iff.mp h1).1 hn).mp (h1.trans h3.symm)
  · obtain ⟨a, h1, h2⟩ := at' k q hk
    rw [h2]
    exact hA a (List.mem_of_getElem? h1)
theorem jm_fv_at {ad : Nat → Nat} {M : jm_Mem} {c : Nat} : ∀ (fs : List Nat) (j k z : Nat), jm_nth fs k = some z → (jm_fv ad M c j fs)[k]? = some (jm_cv ad M c (j + k) z)
  | [], _, _, _, h => nomatch h
  | f :: fs, j, 0, z, h => by
    have : f = z := Option.some.inj h
    subst this
    rfl
  | f :: fs, j, k + 1, z, h => by
    have := jm_fv_at (ad := ad) (M := M) (c := c) fs (j + 1) k z h
    show (jm_fv ad M c (j + 1) fs)[k]? = _
    rw [this, show j + 1 + k = j + (k + 1) by omega]
theorem jm_fv_len {ad : Nat → Nat} {M : jm_Mem} {c : Nat} : ∀ (fs : List Nat) (j : Nat), (jm_fv ad M c j fs).length = fs.length
  | [], _ => rfl
  | f :: fs, j => by show (jm_fv ad M c (j + 1) fs).length + 1 = _; rw [jm_fv_len fs (j + 1)]; rfl
theorem jm_nth_lt {α : Type} : ∀ (l : List α) (k : Nat) (z : α), jm_nth l k = some z → k < l.length
  | [], _, _, h => nomatch h
  | _ :: _, 0, _, _ => Nat.succ_pos _
  | _ :: l, k + 1, z, h => Nat.succ_lt_succ (jm_nth_lt l k z h)
/-- what a written number does to the fields -/
theorem jm_fv_set {ad : Nat → Nat} {M : jm_Mem} {c : Nat} {i v : Int} : ∀ (fs : List Nat) (j k z : Nat), jm_nth fs k = some z → i = ((j + k : Nat) : Int) → (z = 0 ∨ z = 1 ∨ z = 2) → jm_fv ad (jm_st M c i v) c j fs = (jm_fv ad M c j fs).set k (jm_cv ad (jm_st M c i v) c (j + k) z)
  | [], _, _, _, h, _, _ => nomatch h
  | f :: fs, j, 0, z, h, hi, hz => by
    have hf : f = z := Option.some.inj h
    subst hf
    have hrest : ∀ (fs : List Nat) (q : Nat), j < q → jm_fv ad (jm_st M c i v) c q fs = jm_fv ad M c q fs := by
      intro fs
      induction fs with
      | nil => intro q _; rfl
      | cons g gs ih =>
        intro q hq
        show jm_cv ad (jm_st M c i v) c q g :: _ = jm_cv ad M c q g :: _
        rw [ih (q + 1) (by omega)]
        have hcell : jm_st M c i v c (q : Int) = M c (q : Int) := by
          unfold jm_st jm_sr jm_up
          rw [if_pos rfl, if_neg (by omega)]
        congr 1
        unfold jm_cv
        split <;> first | rw [hcell] | rfl
    show jm_cv ad (jm_st M c i v) c j f :: jm_fv ad (jm_st M c i v) c (j + 1) fs = jm_cv ad (jm_st M c i v) c (j + 0) f :: jm_fv ad M c (j + 1) fs
    rw [hrest fs (j + 1) (by omega)]
    rfl
  | f :: fs, j, k + 1, z, h, hi, hz => by
    have ih := jm_fv_set (ad := ad) (M := M) (c := c) (i := i) (v := v) fs (j + 1) k z h (by rw [hi]; congr 1; omega) hz
    show jm_cv ad (jm_st M c i v) c j f :: jm_fv ad (jm_st M c i v) c (j + 1) fs = jm_cv ad M c j f :: (jm_fv ad M c (j + 1) fs).set k _
    have hcell : jm_st M c i v c (j : Int) = M c (j : Int) := by
      unfold jm_st jm_sr jm_up
      rw [if_pos rfl, if_neg (by omega)]
    rw [ih, show j + 1 + k = j + (k + 1) by omega]
    congr 1
    unfold jm_cv
    split <;> first | rw [hcell] | rfl
theorem jm_st_ne {M : jm_Mem} {c : Nat} {i v : Int} {d : Nat} (h : d ≠ c) : jm_st M c i v d = M d := by
  unfold jm_st jm_sr
  rw [if_neg h]
theorem jm_st_eq {M : jm_Mem} {c : Nat} {i v j : Int} : jm_st M c i v c j = if j = i then v else M c j := by
  unfold jm_st jm_sr jm_up
  rw [if_pos rfl]
theorem jm_okM_st {M : jm_Mem} {c : Nat} {i v : Int} (h : jm_okM M) (hv : jm_in v) : jm_okM (jm_st M c i v) := by
  intro d j hd
  by_cases hdc : d = c
  · subst hdc
    rw [jm_st_eq]
    split
    · exact hv
    · exact h d j hd
  · rw [jm_st_ne hdc]
    exact h d j hd
theorem jm_ls_get : ∀ (ls : jm_Ls) (i : Nat) (v : jm_V) (j : Nat) (w : jm_V), jm_lg (jm_ls ls i v) j = some w → (j = i ∧ w = v) ∨ (j ≠ i ∧ jm_lg ls j = some w)
  | [], _, _, _, _, h => nomatch h
  | a :: l, 0, v, 0, w, h => Or.inl ⟨rfl, (Option.some.inj h).symm⟩
  | a :: l, 0, v, j + 1, w, h => Or.inr ⟨by omega, h⟩
  | a :: l, i + 1, v, 0, w, h => Or.inr ⟨by omega, h⟩
  | a :: l, i + 1, v, j + 1, w, h => by
    rcases jm_ls_get l i v j w h with ⟨h1, h2⟩ | ⟨h1, h2⟩
    · exact Or.inl ⟨by omega, h2⟩
    · exact Or.inr ⟨by omega, h2⟩
theorem jm_rs_do {wc : Nat → List jm_V → jm_Mem → jm_Q → Prop} {w : jm_Cfg → Prop} {Q : jm_Q} {k : Nat} {ls : jm_Ls} {M : jm_Mem} (h : jm_do wc w Q k ls M (jm_bad M)) : False := h.1
section JS
variable {p : Program} {l : Launch} {e : Env} {R : Room} {s : State} {mid : MethodId} {args : Array Value} {below : List Frame} {meth : Method} {c : Code}
variable {dC : Nat → ClassId} {dI : Nat → Nat → Nat} {cA : Nat → ClassId} {ad adV : Nat → Nat} {ids : List Nat} {A : Nat → Prop} {m : Nat} {FQ : State → Prop} {gc gs : Int} {scr : Int → Int}
variable {wc : Nat → List jm_V → jm_Mem → jm_Q → Prop} {w : jm_Cfg → Prop} {Q : jm_Q} {k : Nat} {ls : jm_Ls} {st : List jm_V} {M : jm_Mem} {a : Nat} {z : Int}
theorem jb2 {f : Int → Int → List jm_V → jm_Eff} (h : jm_do wc w Q k ls M (jm_b2 M st f)) : ∃ x y r, st = .inl y :: .inl x :: r ∧ jm_do wc w Q k ls M (f x y r) := by
  unfold jm_b2 at h
  split at h
  · exact ⟨_, _, _, rfl, h⟩
  · exact (jm_rs_do h).elim
theorem jl2 {f : Int → Int → List jm_V → jm_Eff} (h : jm_do wc w Q k ls M (jm_l2 M st f)) : ∃ x y r, st = .inr (.inr y) :: .inr (.inr x) :: r ∧ jm_do wc w Q k ls M (f x y r) := by
  unfold jm_l2 at h
  split at h
  · exact ⟨_, _, _, rfl, h⟩
  · exact (jm_rs_do h).elim
theorem ju1 {f : Int → List jm_V → jm_Eff} (h : jm_do wc w Q k ls M (jm_u1 M st f)) : ∃ x r, st = .inl x :: r ∧ jm_do wc w Q k ls M (f x r) := by
  unfold jm_u1 at h
  split at h
  · exact ⟨_, _, rfl, h⟩
  · exact (jm_rs_do h).elim
/-- an instruction that leaves locals and memory alone -/
theorem js_go {k' : Nat} {st' : List jm_V} (hok : ∀ JL, jm_lr ad ids m ls JL → (∀ v ∈ st, jm_okv ids m v) → jm_okM M → ∀ v ∈ st', jm_okv ids m v)
    (hrow : ∀ (JL : Array Slot) (H : Heap) (locs : List Loc) (cells slots : Nat), jm_lr ad ids m ls JL → (∀ v ∈ st, jm_okv ids m v) → jm_okM M → va_P (dC, dI) vwCl (jm_wd cA ad ids M) H → va_S A s.heap H locs → (m = 216 → M 998 = scr) → W p l e R s mid args below meth c H locs cells slots FQ (F0 mid (jm_bp m k') JL (st'.map (jm_val ad))) → W p l e R s mid args below meth c H locs cells slots FQ (F0 mid (jm_bp m k) JL (st.map (jm_val ad))))
    (hw : jm_G p l e R s mid args below meth c dC dI cA ad ids A m FQ gc gs scr (k', ls, st', M)) : jm_G p l e R s mid args below meth c dC dI cA ad ids A m FQ gc gs scr (k, ls, st, M) := fun JL H locs h1 h2 h3 h4 h5 h6 h7 h8 => hrow JL H locs _ _ h1 h2 h3 h4 h5 h8 (hw JL H locs h1 (hok JL h1 h2 h3) h3 h4 h5 h6 h7 h8)
theorem jm_nx {i : Instr} (hrc : jm_rc m k = some (i, a, z)) (hn : i ≠ .nop) (h1 : jm_ck1 m k (i, a, z) = Nat.beq (jm_bp m (k + 1)) (jm_bp m k + jm_len (i, a, z))) : decode (jm_b m) (jm_bp m k) = .ok (i, jm_len (i, a, z)) ∧ jm_bp m (k + 1) = jm_bp m k + jm_len (i, a, z) ∧ jm_ck2 m (i, a, z) = true := by
  obtain ⟨hd, h2, h3⟩ := jm_dec hrc hn
  rw [h1] at h2
  exact ⟨hd, Nat.eq_of_beq_eq_true h2, h3⟩
theorem js_bin (hF : jm_F p R s mid args c dC dI cA ad adV ids A m) {i : Instr} (hrc : jm_rc m k = some (i, a, z)) (hn : i ≠ .nop) (h1 : jm_ck1 m k (i, a, z) = Nat.beq (jm_bp m (k + 1)) (jm_bp m k + jm_len (i, a, z))) (hl : jm_len (i, a, z) = 1) {x y v : Int} {r : List jm_V} (op : Int32 → Int32 → Int32) (hv : jm_in x → jm_in y → op (Int32.ofInt x) (Int32.ofInt y) = Int32.ofInt v ∧ jm_in v)
    (row : jm_in x → jm_in y → ∀ (JL : Array Slot) (H : Heap) (locs : List Loc) (cells slots pc : Nat) (rest : List Value), decode (jm_b m) pc = .ok (i, 1) → W p l e R s mid args below meth c H locs cells slots FQ (F0 mid (pc + 1) JL (.int (op (Int32.ofInt x) (Int32.ofInt y)) :: rest)) → W p l e R s mid args below meth c H locs cells slots FQ (F0 mid pc JL (.int (Int32.ofInt y) :: .int (Int32.ofInt x) :: rest)))
    (hw : jm_G p l e R s mid args below meth c dC dI cA ad ids A m FQ gc gs scr (k + 1, ls, .inl v :: r, M)) : jm_G p l e R s mid args below meth c dC dI cA ad ids A m FQ gc gs scr (k, ls, .inl y :: .inl x :: r, M) := by
  obtain ⟨hd, hp, -⟩ := jm_nx hrc hn h1
  rw [hl] at hd hp
  have bx : (∀ u ∈ (.inl y :: .inl x :: r : List jm_V), jm_okv ids m u) → jm_in x ∧ jm_in y := fun h => ⟨h (.inl x) (by simp), h (.inl y) (by simp)⟩
  refine js_go (fun JL _ h _ u hu => ?_) (fun JL H locs cells slots _ h _ _ _ _ hW => ?_) hw
  · obtain ⟨b1, b2⟩ := bx h
    rcases List.mem_cons.mp hu with rfl | hu
    · exact (hv b1 b2).2
    · exact h u (List.mem_cons_of_mem _ (List.mem_cons_of_mem _ hu))
  · obtain ⟨b1, b2⟩ := bx h
    rw [hp] at hW
    refine row b1 b2 JL H locs cells slots _ _ hd ?_
    rw [(hv b1 b2).1]
    exact hW
theorem js_iadd (hF : jm_F p R s mid args c dC dI cA ad adV ids A m) (hrc : jm_rc m k = some (.iadd, a, z)) (h : jm_do wc w Q k ls M (jm_ef (.iadd, a, z) k ls st M)) (hw : ∀ c', w c' → jm_G p l e R s mid args below meth c dC dI cA ad ids A m FQ gc gs scr c') : jm_G p l e R s mid args below meth c dC dI cA ad ids A m FQ gc gs scr (k, ls, st, M) := by
  obtain ⟨x, y, r, rfl, h⟩ := jb2 h
  exact js_bin hF hrc (by simp) rfl rfl (· + ·) (fun _ _ => ⟨(Int32.ofInt_add _ _).symm, h.1⟩) (fun _ _ JL H locs cells slots pc rest hd hW => lv_iadd hF.1 hF.2.1 hd hW) (hw _ h.2)
theorem js_isub (hF : jm_F p R s mid args c dC dI cA ad adV ids A m) (hrc : jm_rc m k = some (.isub, a, z)) (h : jm_do wc w Q k ls M (jm_ef (.isub, a, z) k ls st M)) (hw : ∀ c', w c' → jm_G p l e R s mid args below meth c dC dI cA ad ids A m FQ gc gs scr c') : jm_G p l e R s mid args below meth c dC dI cA ad ids A m FQ gc gs scr (k, ls, st, M) := by
  obtain ⟨x, y, r, rfl, h⟩ := jb2 h
  exact js_bin hF hrc (by simp) rfl rfl (· - ·) (fun _ _ => ⟨(Int32.ofInt_sub _ _).symm, h.1⟩) (fun _ _ JL H locs cells slots pc rest hd hW => lv_isub hF.1 hF.2.1 hd hW) (hw _ h.2)
theorem js_imul (hF : jm_F p R s mid args c dC dI cA ad adV ids A m) (hrc : jm_rc m k = some (.imul, a, z)) (h : jm_do wc w Q k ls M (jm_ef (.imul, a, z) k ls st M)) (hw : ∀ c', w c' → jm_G p l e R s mid args below meth c dC dI cA ad ids A m FQ gc gs scr c') : jm_G p l e R s mid args below meth c dC dI cA ad ids A m FQ gc gs scr (k, ls, st, M) := by
  obtain ⟨x, y, r, rfl, h⟩ := jb2 h
  exact js_bin hF hrc (by simp) rfl rfl (· * ·) (fun _ _ => ⟨(Int32.ofInt_mul _ _).symm, h.1⟩) (fun _ _ JL H locs cells slots pc rest hd hW => lv_imul hF.1 hF.2.1 hd hW) (hw _ h.2)
theorem jn_ne0 {y : Int} (hy : jm_in y) (h : 0 < y) : ¬ Int32.ofInt y = 0 := fun q => by
  have := (jn_eq hy jn_in0).mp q
  omega
theorem js_idiv (hF : jm_F p R s mid args c dC dI cA ad adV ids A m) (hrc : jm_rc m k = some (.idiv, a, z)) (h : jm_do wc w Q k ls M (jm_ef (.idiv, a, z) k ls st M)) (hw : ∀ c', w c' → jm_G p l e R s mid args below meth c dC dI cA ad ids A m FQ gc gs scr c') : jm_G p l e R s mid args below meth c dC dI cA ad ids A m FQ gc gs scr (k, ls, st, M) := by
  obtain ⟨x, y, r, rfl, h⟩ := jb2 h
  exact js_bin hF hrc (by simp) rfl rfl (· / ·) (fun h1 h2 => jn_dv h1 h2 h.1) (fun _ h2 JL H locs cells slots pc rest hd hW => lv_idiv hF.1 hF.2.1 hd (jn_ne0 h2 h.1) hW) (hw _ h.2)
theorem js_irem (hF : jm_F p R s mid args c dC dI cA ad adV ids A m) (hrc : jm_rc m k = some (.irem, a, z)) (h : jm_do wc w Q k ls M (jm_ef (.irem, a, z) k ls st M)) (hw : ∀ c', w c' → jm_G p l e R s mid args below meth c dC dI cA ad ids A m FQ gc gs scr c') : jm_G p l e R s mid args below meth c dC dI cA ad ids A m FQ gc gs scr (k, ls, st, M) := by
  obtain ⟨x, y, r, rfl, h⟩ := jb2 h
  exact js_bin hF hrc (by simp) rfl rfl (fun x y => x - x / y * y) (fun h1 h2 => jn_rm h1 h2 h.1) (fun _ h2 JL H locs cells slots pc rest hd hW => lv_irem hF.1 hF.2.1 hd (jn_ne0 h2 h.1) hW) (hw _ h.2)
theorem js_iand (hF : jm_F p R s mid args c dC dI cA ad adV ids A m) (hrc : jm_rc m k = some (.iand, a, z)) (h : jm_do wc w Q k ls M (jm_ef (.iand, a, z) k ls st M)) (hw : ∀ c', w c' → jm_G p l e R s mid args below meth c dC dI cA ad ids A m FQ gc gs scr c') : jm_G p l e R s mid args below meth c dC dI cA ad ids A m FQ gc gs scr (k, ls, st, M) := by
  obtain ⟨x, y, r, rfl, h⟩ := jb2 h
  exact js_bin hF hrc (by simp) rfl rfl (· &&& ·) (fun _ _ => jn_and h.1) (fun _ _ JL H locs cells slots pc rest hd hW => lv_iand hF.1 hF.2.1 hd hW) (hw _ h.2)
theorem js_ior (hF : jm_F p R s mid args c dC dI cA ad adV ids A m) (hrc : jm_rc m k = some (.ior, a, z)) (h : jm_do wc w Q k ls M (jm_ef (.ior, a, z) k ls st M)) (hw : ∀ c', w c' → jm_G p l e R s mid args below meth c dC dI cA ad ids A m FQ gc gs scr c') : jm_G p l e R s mid args below meth c dC dI cA ad ids A m FQ gc gs scr (k, ls, st, M) := by
  obtain ⟨x, y, r, rfl, h⟩ := jb2 h
  exact js_bin hF hrc (by simp) rfl rfl (· ||| ·) (fun h1 h2 => jn_or h1 h2 h.1 h.2.1) (fun _ _ JL H locs cells slots pc rest hd hW => lv_ior hF.1 hF.2.1 hd hW) (hw _ h.2.2)
theorem js_ishr (hF : jm_F p R s mid args c dC dI cA ad adV ids A m) (hrc : jm_rc m k = some (.ishr, a, z)) (h : jm_do wc w Q k ls M (jm_ef (.ishr, a, z) k ls st M)) (hw : ∀ c', w c' → jm_G p l e R s mid args below meth c dC dI cA ad ids A m FQ gc gs scr c') : jm_G p l e R s mid args below meth c dC dI cA ad ids A m FQ gc gs scr (k, ls, st, M) := by
  obtain ⟨x, y, r, rfl, h⟩ := jb2 h
  exact js_bin hF hrc (by simp) rfl rfl (fun x y => x >>> (y &&& 31)) (fun h1 _ => jn_shr h1 h.1 h.2.1) (fun _ _ JL H locs cells slots pc rest hd hW => lv_ishr hF.1 hF.2.1 hd hW) (hw _ h.2.2)
theorem js_ishl (hF : jm_F p R s mid args c dC dI cA ad adV ids A m) (hrc : jm_rc m k = some (.ishl, a, z)) (h : jm_do wc w Q k ls M (jm_ef (.ishl, a, z) k ls st M)) (hw : ∀ c', w c' → jm_G p l e R s mid args below meth c dC dI cA ad ids A m FQ gc gs scr c') : jm_G p l e R s mid args below meth c dC dI cA ad ids A m FQ gc gs scr (k, ls, st, M) := by
  obtain ⟨x, y, r, rfl, h⟩ := jb2 h
  obtain ⟨h0, h1, h2, h3⟩ := h
  subst h0
  exact js_bin hF hrc (by simp) rfl rfl (fun x y => x <<< (y &&& 31)) (fun _ _ => jn_shl h1 h2) (fun _ _ JL H locs cells slots pc rest hd hW => lv_ishl hF.1 hF.2.1 hd hW) (hw _ h3)
end JS
end
section
/-- the listed locals -/
def jm_al (ad : Nat → Nat) : Nat → jm_Ls → List (Nat × Value)
  | _, [] => []
  | i, none :: l => jm_al ad (i + 1) l
  | i, some v :: l => (i, jm_val ad v) :: jm_al ad (i + 1) l
section JS2
variable {p : Program} {l : Launch} {e : Env} {R : Room} {s : State} {mid : MethodId} {args : Array Value} {below : List Frame} {meth : Method} {c : Code}
variable {dC : Nat → ClassId} {dI : Nat → Nat → Nat} {cA : Nat → ClassId} {ad adV : Nat → Nat} {ids : List Nat} {A : Nat → Prop} {m : Nat} {FQ : State → Prop} {gc gs : Int} {scr : Int → Int}
variable {wc : Nat → List jm_V → jm_Mem → jm_Q → Prop} {w : jm_Cfg → Prop} {Q : jm_Q} {k : Nat} {ls : jm_Ls} {st : List jm_V} {M : jm_Mem} {a : Nat} {z : Int}
/-- one more value on the stack -/
theorem jk_cons {v : jm_V} {r : List jm_V} (hv : jm_okv ids m v) (h : ∀ u ∈ r, jm_okv ids m u) : ∀ u ∈ v :: r, jm_okv ids m u := fun u hu => (List.mem_cons.mp hu).elim (fun q => q ▸ hv) (h u)
theorem jk_tl {v : jm_V} {r : List jm_V} (h : ∀ u ∈ v :: r, jm_okv ids m u) : ∀ u ∈ r, jm_okv ids m u := fun u hu => h u (List.mem_cons_of_mem _ hu)
theorem jk_hd {v : jm_V} {r : List jm_V} (h : ∀ u ∈ v :: r, jm_okv ids m u) : jm_okv ids m v := h v List.mem_cons_self
/-- a number is pushed -/
theorem js_push (hF : jm_F p R s mid args c dC dI cA ad adV ids A m) {i : Instr} (hrc : jm_rc m k = some (i, a, z)) (hn : i ≠ .nop) (h1 : jm_ck1 m k (i, a, z) = Nat.beq (jm_bp m (k + 1)) (jm_bp m k + jm_len (i, a, z))) {v : jm_V} (hv : jm_okv ids m v)
    (row : decode (jm_b m) (jm_bp m k) = .ok (i, jm_len (i, a, z)) → jm_ck2 m (i, a, z) = true → ∀ (JL : Array Slot) (H : Heap) (locs : List Loc) (cells slots : Nat) (rest : List Value), W p l e R s mid args below meth c H locs cells slots FQ (F0 mid (jm_bp m k + jm_len (i, a, z)) JL (jm_val ad v :: rest)) → W p l e R s mid args below meth c H locs cells slots FQ (F0 mid (jm_bp m k) JL rest))
    (hw : jm_G p l e R s mid args below meth c dC dI cA ad ids A m FQ gc gs scr (k + 1, ls, v :: st, M)) : jm_G p l e R s mid args below meth c dC dI cA ad ids A m FQ gc gs scr (k, ls, st, M) := by
  obtain ⟨hd, hp, h2⟩ := jm_nx hrc hn h1
  refine js_go (fun JL _ h _ => jk_cons hv h) (fun JL H locs cells slots _ h _ _ _ _ hW => ?_) hw
  rw [hp] at hW
  exact row hd h2 JL H locs cells slots _ hW
theorem js_iconst {n : Int} (hF : jm_F p R s mid args c dC dI cA ad adV ids A m) (hrc : jm_rc m k = some (.iconst n, a, z)) (h : jm_do wc w Q k ls M (jm_ef (.iconst n, a, z) k ls st M)) (hw : ∀ c', w c' → jm_G p l e R s mid args below meth c dC dI cA ad ids A m FQ gc gs scr c') : jm_G p l e R s mid args below meth c dC dI cA ad ids A m FQ gc gs scr (k, ls, st, M) := by
  have h2 : n = z ∧ -1 ≤ n ∧ n ≤ 5 := of_decide_eq_true (jm_nx hrc (by simp) rfl).2.2
  refine js_push hF hrc (by simp) rfl (v := .inl z) ⟨by omega, by omega⟩ (fun hd _ JL H locs cells slots rest hW => ?_) (hw _ h)
  exact lv_iconst hF.1 hF.2.1 hd (by rw [h2.1]) hW
theorem js_bipush {n : Int} (hF : jm_F p R s mid args c dC dI cA ad adV ids A m) (hrc : jm_rc m k = some (.bipush n, a, z)) (h : jm_do wc w Q k ls M (jm_ef (.bipush n, a, z) k ls st M)) (hw : ∀ c', w c' → jm_G p l e R s mid args below meth c dC dI cA ad ids A m FQ gc gs scr c') : jm_G p l e R s mid args below meth c dC dI cA ad ids A m FQ gc gs scr (k, ls, st, M) := by
  have h2 : n = z ∧ -128 ≤ n ∧ n ≤ 127 := of_decide_eq_true (jm_nx hrc (by simp) rfl).2.2
  refine js_push hF hrc (by simp) rfl (v := .inl z) ⟨by omega, by omega⟩ (fun hd _ JL H locs cells slots rest hW => ?_) (hw _ h)
  exact lv_bipush hF.1 hF.2.1 hd (by rw [← h2.1]; exact jn_bipush h2.2.1 h2.2.2) hW
theorem js_sipush {n : Int} (hF : jm_F p R s mid args c dC dI cA ad adV ids A m) (hrc : jm_rc m k = some (.sipush n, a, z)) (h : jm_do wc w Q k ls M (jm_ef (.sipush n, a, z) k ls st M)) (hw : ∀ c', w c' → jm_G p l e R s mid args below meth c dC dI cA ad ids A m FQ gc gs scr c') : jm_G p l e R s mid args below meth c dC dI cA ad ids A m FQ gc gs scr (k, ls, st, M) := by
  have h2 : n = z ∧ -32768 ≤ n ∧ n ≤ 32767 := of_decide_eq_true (jm_nx hrc (by simp) rfl).2.2
  refine js_push hF hrc (by simp) rfl (v := .inl z) ⟨by omega, by omega⟩ (fun hd _ JL H locs cells slots rest hW => ?_) (hw _ h)
  exact lv_sipush hF.1 hF.2.1 hd (by rw [← h2.1]; exact jn_sipush h2.2.1 h2.2.2) hW
theorem js_lconst {n : Fin 2} (hF : jm_F p R s mid args c dC dI cA ad adV ids A m) (hrc : jm_rc m k = some (.lconst n, a, z)) (h : jm_do wc w Q k ls M (jm_ef (.lconst n, a, z) k ls st M)) (hw : ∀ c', w c' → jm_G p l e R s mid args below meth c dC dI cA ad ids A m FQ gc gs scr c') : jm_G p l e R s mid args below meth c dC dI cA ad ids A m FQ gc gs scr (k, ls, st, M) := by
  have h2 : n = 0 := of_decide_eq_true (jm_nx hrc (by simp) rfl).2.2
  subst h2
  refine js_push hF hrc (by simp) rfl (v := .inr (.inr 0)) jn_in0 (fun hd _ JL H locs cells slots rest hW => ?_) (hw _ h)
  exact lv_lconst hF.1 hF.2.1 hd rfl hW
theorem jm_any4 {i : Nat} {v : Int} {L : List (Nat × Nat × Int × Nat)} {cl : Nat} (h : L.any (fun q => Nat.beq q.1 cl && (Nat.beq q.2.1 i && decide (q.2.2.1 = v))) = true) : ∃ q ∈ L, q.1 = cl ∧ q.2.1 = i ∧ q.2.2.1 = v := by
  obtain ⟨q, hq, h1⟩ := List.any_eq_true.mp h
  rw [Bool.and_eq_true, Bool.and_eq_true] at h1
  exact ⟨q, hq, Nat.eq_of_beq_eq_true h1.1, Nat.eq_of_beq_eq_true h1.2.1, of_decide_eq_true h1.2.2⟩
theorem js_kc {i : Nat} (hF : jm_F p R s mid args c dC dI cA ad adV ids A m) (h : jm_kcT.any (fun q => Nat.beq q.1 (jm_mi m).1 && (Nat.beq q.2.1 i && decide (q.2.2.1 = z))) = true) : (Cond.constant (jm_cn (jm_mi m).1) i (Int32.ofInt z)).before args s = true := by
  obtain ⟨q, hq, h1, h2, h3⟩ := jm_any4 h
  have := jm_kc_ok q hq
  rw [h1, h2, h3] at this
  exact hF.2.2.2.2.1 _ (jm_in_g _ this rfl)
theorem js_ldc0 {i : Nat} (hF : jm_F p R s mid args c dC dI cA ad adV ids A m) (hrc : jm_rc m k = some (.ldc i, 0, z)) (h : w (k + 1, ls, .inl z :: st, M)) (hw : ∀ c', w c' → jm_G p l e R s mid args below meth c dC dI cA ad ids A m FQ gc gs scr c') : jm_G p l e R s mid args below meth c dC dI cA ad ids A m FQ gc gs scr (k, ls, st, M) := by
  have h2 : (jm_kcT.any (fun q => Nat.beq q.1 (jm_mi m).1 && (Nat.beq q.2.1 i && decide (q.2.2.1 = z))) && decide (-2147483648 ≤ z ∧ z ≤ 2147483647)) = true := (jm_nx hrc (by simp) rfl).2.2
  rw [Bool.and_eq_true] at h2
  refine js_push hF hrc (by simp) rfl (v := .inl z) (show -2147483648 ≤ z ∧ z ≤ 2147483647 from of_decide_eq_true h2.2) (fun hd _ JL H locs cells slots rest hW => ?_) (hw _ h)
  exact lv_ldc hF.1 hF.2.1 hF.2.2.2.1 (js_kc hF h2.1) hd hW
theorem js_ldcw {i : Nat} (hF : jm_F p R s mid args c dC dI cA ad adV ids A m) (hrc : jm_rc m k = some (.ldc_w i, a, z)) (h : jm_do wc w Q k ls M (jm_ef (.ldc_w i, a, z) k ls st M)) (hw : ∀ c', w c' → jm_G p l e R s mid args below meth c dC dI cA ad ids A m FQ gc gs scr c') : jm_G p l e R s mid args below meth c dC dI cA ad ids A m FQ gc gs scr (k, ls, st, M) := by
  have h2 : (jm_kcT.any (fun q => Nat.beq q.1 (jm_mi m).1 && (Nat.beq q.2.1 i && decide (q.2.2.1 = z))) && decide (-2147483648 ≤ z ∧ z ≤ 2147483647)) = true := (jm_nx hrc (by simp) rfl).2.2
  rw [Bool.and_eq_true] at h2
  refine js_push hF hrc (by simp) rfl (v := .inl z) (show -2147483648 ≤ z ∧ z ≤ 2147483647 from of_decide_eq_true h2.2) (fun hd _ JL H locs cells slots rest hW => ?_) (hw _ h)
  exact lv_ldcw hF.1 hF.2.1 hF.2.2.2.1 (js_kc hF h2.1) hd hW
theorem js_ldc2 {i : Nat} (hF : jm_F p R s mid args c dC dI cA ad adV ids A m) (hrc : jm_rc m k = some (.ldc2_w i, a, z)) (h : jm_do wc w Q k ls M (jm_ef (.ldc2_w i, a, z) k ls st M)) (hw : ∀ c', w c' → jm_G p l e R s mid args below meth c dC dI cA ad ids A m FQ gc gs scr c') : jm_G p l e R s mid args below meth c dC dI cA ad ids A m FQ gc gs scr (k, ls, st, M) := by
  have h2 : (jm_k2T.any (fun q => Nat.beq q.1 (jm_mi m).1 && (Nat.beq q.2.1 i && decide (q.2.2.1 = z))) && decide (-2147483648 ≤ z ∧ z ≤ 2147483647)) = true := (jm_nx hrc (by simp) rfl).2.2
  rw [Bool.and_eq_true] at h2
  refine js_push hF hrc (by simp) rfl (v := .inr (.inr z)) (show -2147483648 ≤ z ∧ z ≤ 2147483647 from of_decide_eq_true h2.2) (fun hd _ JL H locs cells slots rest hW => ?_) (hw _ h)
  obtain ⟨q, hq, h3, h4, h5⟩ := jm_any4 h2.1
  have h6 := jm_k2_ok q hq
  rw [h3, h4, h5] at h6
  exact lv_ldc2 hF.1 hF.2.1 hF.2.2.2.1 (hF.2.2.2.2.1 _ (jm_in_g _ h6 rfl)) hd hW
theorem js_ldcS {i sn : Nat} (hF : jm_F p R s mid args c dC dI cA ad adV ids A m) (hrc : jm_rc m k = some (.ldc i, sn + 1, z)) (hs : sn ≠ 99) (h : w (k + 1, ls, .inr (.inl (200 + sn)) :: st, M)) (hw : ∀ c', w c' → jm_G p l e R s mid args below meth c dC dI cA ad ids A m FQ gc gs scr c') : jm_G p l e R s mid args below meth c dC dI cA ad ids A m FQ gc gs scr (k, ls, st, M) := by
  have h2 : jm_ck2 m (.ldc i, sn + 1, z) = true := (jm_nx hrc (by simp) rfl).2.2
  have h3 : (Nat.beq (jm_mi m).1 7 && (Nat.blt sn 6 && Nat.beq i ([45, 64, 69, 75, 77, 79].getD sn 0))) = true := by
    unfold jm_ck2 at h2
    dsimp only at h2
    split at h2
    · rename_i q; exact absurd q (by omega)
    · rename_i q; exact absurd q (by omega)
    · rename_i _ s' _ q
      have hq : s' = sn := by omega
      rw [← hq]
      exact h2
  rw [Bool.and_eq_true, Bool.and_eq_true] at h3
  have h4 := Nat.eq_of_beq_eq_true h3.1
  have h5 : sn < 6 := Nat.le_of_ble_eq_true h3.2.1
  have h6 := Nat.eq_of_beq_eq_true h3.2.2
  refine js_push hF hrc (by simp) rfl (v := .inr (.inl (200 + sn))) (Or.inr (Or.inl ⟨by omega, by omega⟩)) (fun hd _ JL H locs cells slots rest hW => ?_) (hw _ h)
  have hown : s.vm.findClass RX7 = some mid.cls := by
    have := hF.2.2.2.1
    rw [h4] at this
    exact this
  have hR := hF.2.2.2.2.2.2.2.1.2.2.1 sn h5
  refine va_ldcS hF.1 hF.2.1 hown (q := ad (200 + sn)) (tx := jm_stx.getD sn "") ?_ hd hW
  rw [h6]
  exact hR
/-- a local is pushed -/
theorem js_ldI (hF : jm_F p R s mid args c dC dI cA ad adV ids A m) {i : Instr} {j : Nat} (hrc : jm_rc m k = some (i, a, z)) (hn : i ≠ .nop) (h1 : jm_ck1 m k (i, a, z) = Nat.beq (jm_bp m (k + 1)) (jm_bp m k + jm_len (i, a, z)))
    (row : decode (jm_b m) (jm_bp m k) = .ok (i, jm_len (i, a, z)) → ∀ (x : Int32) (JL : Array Slot) (H : Heap) (locs : List Loc) (cells slots : Nat) (rest : List Value), JL[j]? = some (.val (.int x)) → W p l e R s mid args below meth c H locs cells slots FQ (F0 mid (jm_bp m k + jm_len (i, a, z)) JL (.int x :: rest)) → W p l e R s mid args below meth c H locs cells slots FQ (F0 mid (jm_bp m k) JL rest))
    (h : jm_do wc w Q k ls M (jm_ldI k ls st M j)) (hw : ∀ c', w c' → jm_G p l e R s mid args below meth c dC dI cA ad ids A m FQ gc gs scr c') : jm_G p l e R s mid args below meth c dC dI cA ad ids A m FQ gc gs scr (k, ls, st, M) := by
  obtain ⟨hd, hp, -⟩ := jm_nx hrc hn h1
  unfold jm_ldI at h
  split at h
  · rename_i x hx
    refine js_go (fun JL hl h _ => jk_cons (hl.2.2 j _ hx).2.1 h) (fun JL H locs cells slots hl _ _ _ _ _ hW => ?_) (hw _ h)
    rw [hp] at hW
    exact row hd _ JL H locs cells slots _ (hl.2.2 j _ hx).1 hW
  · exact (jm_rs_do h).elim
theorem js_ldA (hF : jm_F p R s mid args c dC dI cA ad adV ids A m) {i : Instr} {j : Nat} (hrc : jm_rc m k = some (i, a, z)) (hn : i ≠ .nop) (h1 : jm_ck1 m k (i, a, z) = Nat.beq (jm_bp m (k + 1)) (jm_bp m k + jm_len (i, a, z)))
    (row : decode (jm_b m) (jm_bp m k) = .ok (i, jm_len (i, a, z)) → ∀ (x : Nat) (JL : Array Slot) (H : Heap) (locs : List Loc) (cells slots : Nat) (rest : List Value), JL[j]? = some (.val (.ref x)) → W p l e R s mid args below meth c H locs cells slots FQ (F0 mid (jm_bp m k + jm_len (i, a, z)) JL (.ref x :: rest)) → W p l e R s mid args below meth c H locs cells slots FQ (F0 mid (jm_bp m k) JL rest))
    (h : jm_do wc w Q k ls M (jm_ldA k ls st M j)) (hw : ∀ c', w c' → jm_G p l e R s mid args below meth c dC dI cA ad ids A m FQ gc gs scr c') : jm_G p l e R s mid args below meth c dC dI cA ad ids A m FQ gc gs scr (k, ls, st, M) := by
  obtain ⟨hd, hp, -⟩ := jm_nx hrc hn h1
  unfold jm_ldA at h
  split at h
  · rename_i x hx
    refine js_go (fun JL hl h _ => jk_cons (hl.2.2 j _ hx).2.1 h) (fun JL H locs cells slots hl _ _ _ _ _ hW => ?_) (hw _ h)
    rw [hp] at hW
    exact row hd _ JL H locs cells slots _ (hl.2.2 j _ hx).1 hW
  · exact (jm_rs_do h).elim
theorem js_ldL (hF : jm_F p R s mid args c dC dI cA ad adV ids A m) {i : Instr} {j : Nat} (hrc : jm_rc m k = some (i, a, z)) (hn : i ≠ .nop) (h1 : jm_ck1 m k (i, a, z) = Nat.beq (jm_bp m (k + 1)) (jm_bp m k + jm_len (i, a, z)))
    (row : decode (jm_b m) (jm_bp m k) = .ok (i, jm_len (i, a, z)) → ∀ (x : Int64) (JL : Array Slot) (H : Heap) (locs : List Loc) (cells slots : Nat) (rest : List Value), JL[j]? = some (.val (.long x)) → W p l e R s mid args below meth c H locs cells slots FQ (F0 mid (jm_bp m k + jm_len (i, a, z)) JL (.long x :: rest)) → W p l e R s mid args below meth c H locs cells slots FQ (F0 mid (jm_bp m k) JL rest))
    (h : jm_do wc w Q k ls M (jm_ldL k ls st M j)) (hw : ∀ c', w c' → jm_G p l e R s mid args below meth c dC dI cA ad ids A m FQ gc gs scr c') : jm_G p l e R s mid args below meth c dC dI cA ad ids A m FQ gc gs scr (k, ls, st, M) := by
  obtain ⟨hd, hp, -⟩ := jm_nx hrc hn h1
  unfold jm_ldL at h
  split at h
  · rename_i x hx
    refine js_go (fun JL hl h _ => jk_cons (hl.2.2 j _ hx).2.1 h) (fun JL H locs cells slots hl _ _ _ _ _ hW => ?_) (hw _ h)
    rw [hp] at hW
    exact row hd _ JL H locs cells slots _ (hl.2.2 j _ hx).1 hW
  · exact (jm_rs_do h).elim
/-- a local is written -/
theorem jm_al_in : ∀ (ls : jm_Ls) (j i : Nat) (v : jm_V), jm_lg ls i = some v → (j + i, jm_val ad v) ∈ jm_al ad j ls
  | [], _, _, _, h => nomatch h
  | none :: l, j, 0, v, h => nomatch h
  | some u :: l, j, 0, v, h => by
    have : u = v := Option.some.inj h
    subst this
    exact List.mem_cons_self
  | none :: l, j, i + 1, v, h => by
    have := jm_al_in l (j + 1) i v h
    rw [show j + 1 + i = j + (i + 1) by omega] at this
    exact this
  | some u :: l, j, i + 1, v, h => by
    have := jm_al_in l (j + 1) i v h
    rw [show j + 1 + i = j + (i + 1) by omega] at this
    exact List.mem_cons_of_mem _ this
theorem jm_al_of : ∀ (ls : jm_Ls) (j : Nat) (q : Nat × Value), q ∈ jm_al ad j ls → ∃ i v, jm_lg ls i = some v ∧ q = (j + i, jm_val ad v)
  | [], _, _, h => nomatch h
  | none :: l, j, q, h => by
    obtain ⟨i, v, h1, h2⟩ := jm_al_of l (j + 1) q h
    exact ⟨i + 1, v, h1, by rw [h2]; congr 1; omega⟩
  | some u :: l, j, q, h => by
    rcases List.mem_cons.mp h with rfl | h
    · exact ⟨0, u, rfl, rfl⟩
    · obtain ⟨i, v, h1, h2⟩ := jm_al_of l (j + 1) q h
      exact ⟨i + 1, v, h1, by rw [h2]; congr 1; omega⟩
theorem jm_lr_has {JL : Array Slot} (hl : jm_lr ad ids m ls JL) : lv_has JL (jm_mi m).2.2.2.1 (jm_al ad 0 ls) := ⟨hl.1, hl.2.1, fun q hq => by
  obtain ⟨i, v, h1, rfl⟩ := jm_al_of ls 0 q hq
  rw [Nat.zero_add]
  exact (hl.2.2 i v h1).1⟩
theorem jm_lr_set {JL JL' : Array Slot} {j : Nat} {v : jm_V} (hl : jm_lr ad ids m ls JL) (hm : m ≠ 140) (hv : jm_okv ids m v) (hc : ∀ x, v ≠ .inr (.inr x)) (h : lv_has JL' (jm_mi m).2.2.2.1 ((j, jm_val ad v) :: (jm_al ad 0 ls).filter (fun q => !(q.1 == j) && !(q.1 + 1 == j && q.2.category == 2)))) : jm_lr ad ids m (jm_ls ls j v) JL' := by
  refine ⟨h.1, h.2.1, fun i u hu => ?_⟩
  rcases jm_ls_get ls j v i u hu with ⟨rfl, rfl⟩ | ⟨h1, h2⟩
  · exact ⟨h.2.2 (i, jm_val ad u) List.mem_cons_self, hv, fun x hx => absurd hx (hc x)⟩
  · obtain ⟨g1, g2, g3⟩ := hl.2.2 i u h2
    have h3 := jm_al_in (ad := ad) ls 0 i u h2
    rw [Nat.zero_add] at h3
    have hcat : (jm_val ad u).category = 1 := by
      match u, g3 with
      | .inl x, _ => rfl
      | .inr (.inl x), _ => rfl
      | .inr (.inr x), g3 => exact absurd (g3 x rfl) hm
    refine ⟨h.2.2 (i, jm_val ad u) (List.mem_cons_of_mem _ (List.mem_filter.mpr ⟨h3, ?_⟩)), g2, g3⟩
    simp [h1, hcat]
theorem js_stI (hF : jm_F p R s mid args c dC dI cA ad adV ids A m) {i : Instr} {j : Nat} (hrc : jm_rc m k = some (i, a, z)) (hn : i ≠ .nop) (h1 : jm_ck1 m k (i, a, z) = Nat.beq (jm_bp m (k + 1)) (jm_bp m k + jm_len (i, a, z))) (h2 : jm_ck2 m (i, a, z) = (Nat.blt j (jm_mi m).2.2.2.1 && !(Nat.beq m 140)))
    (row : decode (jm_b m) (jm_bp m k) = .ok (i, jm_len (i, a, z)) → ∀ (x : Int32) (JL : Array Slot) (H : Heap) (locs : List Loc) (cells slots : Nat) (rest : List Value) (lv : List (Nat × Value)), lv_has JL (jm_mi m).2.2.2.1 lv → j < (jm_mi m).2.2.2.1 → (∀ JL' : Array Slot, lv_has JL' (jm_mi m).2.2.2.1 ((j, .int x) :: lv.filter (fun q => !(q.1 == j) && !(q.1 + 1 == j && q.2.category == 2))) → W p l e R s mid args below meth c H locs cells slots FQ (F0 mid (jm_bp m k + jm_len (i, a, z)) JL' rest)) → W p l e R s mid args below meth c H locs cells slots FQ (F0 mid (jm_bp m k) JL (.int x :: rest)))
    (h : jm_do wc w Q k ls M (jm_stI k ls st M j)) (hw : ∀ c', w c' → jm_G p l e R s mid args below meth c dC dI cA ad ids A m FQ gc gs scr c') : jm_G p l e R s mid args below meth c dC dI cA ad ids A m FQ gc gs scr (k, ls, st, M) := by
  obtain ⟨hd, hp, h3⟩ := jm_nx hrc hn h1
  rw [h2, Bool.and_eq_true] at h3
  have hj : j < (jm_mi m).2.2.2.1 := Nat.le_of_ble_eq_true h3.1
  have hm : m ≠ 140 := fun q => by
    have h4 := h3.2
    rw [q] at h4
    exact absurd h4 (by decide)
  unfold jm_stI at h
  split at h
  · rename_i x r
    have hG := hw _ h
    intro JL H locs g1 g2 g3 g4 g5 g6 g7 g8
    refine row hd _ JL H locs _ _ _ _ (jm_lr_has g1) hj (fun JL' hl' => ?_)
    have := hG JL' H locs (jm_lr_set g1 hm (v := .inl x) (jk_hd g2) (fun _ q => nomatch q) hl') (jk_tl g2) g3 g4 g5 g6 g7 g8
    dsimp only at this
    rw [hp] at this
    exact this
  · exact (jm_rs_do h).elim
theorem js_stA (hF : jm_F p R s mid args c dC dI cA ad adV ids A m) {i : Instr} {j : Nat} (hrc : jm_rc m k = some (i, a, z)) (hn : i ≠ .nop) (h1 : jm_ck1 m k (i, a, z) = Nat.beq (jm_bp m (k + 1)) (jm_bp m k + jm_len (i, a, z))) (h2 : jm_ck2 m (i, a, z) = (Nat.blt j (jm_mi m).2.2.2.1 && !(Nat.beq m 140)))
    (row : decode (jm_b m) (jm_bp m k) = .ok (i, jm_len (i, a, z)) → ∀ (x : Nat) (JL : Array Slot) (H : Heap) (locs : List Loc) (cells slots : Nat) (rest : List Value) (lv : List (Nat × Value)), lv_has JL (jm_mi m).2.2.2.1 lv → j < (jm_mi m).2.2.2.1 → (∀ JL' : Array Slot, lv_has JL' (jm_mi m).2.2.2.1 ((j, .ref x) :: lv.filter (fun q => !(q.1 == j) && !(q.1 + 1 == j && q.2.category == 2))) → W p l e R s mid args below meth c H locs cells slots FQ (F0 mid (jm_bp m k + jm_len (i, a, z)) JL' rest)) → W p l e R s mid args below meth c H locs cells slots FQ (F0 mid (jm_bp m k) JL (.ref x :: rest)))
    (h : jm_do wc w Q k ls M (jm_stA k ls st M j)) (hw : ∀ c', w c' → jm_G p l e R s mid args below meth c dC dI cA ad ids A m FQ gc gs scr c') : jm_G p l e R s mid args below meth c dC dI cA ad ids A m FQ gc gs scr (k, ls, st, M) := by
  obtain ⟨hd, hp, h3⟩ := jm_nx hrc hn h1
  rw [h2, Bool.and_eq_true] at h3
  have hj : j < (jm_mi m).2.2.2.1 := Nat.le_of_ble_eq_true h3.1
  have hm : m ≠ 140 := fun q => by
    have h4 := h3.2
    rw [q] at h4
    exact absurd h4 (by decide)
  unfold jm_stA at h
  split at h
  · rename_i x r
    have hG := hw _ h
    intro JL H locs g1 g2 g3 g4 g5 g6 g7 g8
    refine row hd _ JL H locs _ _ _ _ (jm_lr_has g1) hj (fun JL' hl' => ?_)
    have := hG JL' H locs (jm_lr_set g1 hm (v := .inr (.inl x)) (jk_hd g2) (fun _ q => nomatch q) hl') (jk_tl g2) g3 g4 g5 g6 g7 g8
    dsimp only at this
    rw [hp] at this
    exact this
  · exact (jm_rs_do h).elim
theorem js_iinc {j : Nat} {n : Int} (hF : jm_F p R s mid args c dC dI cA ad adV ids A m) (hrc : jm_rc m k = some (.iinc j n, a, z)) (h : jm_do wc w Q k ls M (jm_ef (.iinc j n, a, z) k ls st M)) (hw : ∀ c', w c' → jm_G p l e R s mid args below meth c dC dI cA ad ids A m FQ gc gs scr c') : jm_G p l e R s mid args below meth c dC dI cA ad ids A m FQ gc gs scr (k, ls, st, M) := by
  obtain ⟨hd, hp, h3⟩ := jm_nx hrc (by simp) rfl
  have h3 : (Nat.blt j (jm_mi m).2.2.2.1 && (!(Nat.beq m 140) && decide (n = z))) = true := h3
  rw [Bool.and_eq_true, Bool.and_eq_true] at h3
  have hj : j < (jm_mi m).2.2.2.1 := Nat.le_of_ble_eq_true h3.1
  have hm : m ≠ 140 := fun q => by
    have h4 := h3.2.1
    rw [q] at h4
    exact absurd h4 (by decide)
  have hz : n = z := of_decide_eq_true h3.2.2
  subst hz
  have h : jm_do wc w Q k ls M (match jm_lg ls j with
    | some (.inl x) => jm_gs [jm_in (x + n)] (k + 1) (jm_ls ls j (.inl (x + n))) st M
    | _ => jm_bad M) := h
  split at h
  · rename_i x hx
    have hG := hw _ h.2
    intro JL H locs g1 g2 g3 g4 g5 g6 g7 g8
    obtain ⟨q, hq⟩ := List.getElem?_of_mem (jm_al_in (ad := ad) ls 0 j _ hx)
    rw [Nat.zero_add] at hq
    refine lv_iinc hF.1 hF.2.1 hd (jm_lr_has g1) (k := q) hq (v := Int32.ofInt (x + n)) (Int32.ofInt_add _ _).symm hj rfl (fun JL' hl' => ?_)
    have := hG JL' H locs (jm_lr_set g1 hm (v := .inl (x + n)) h.1 (fun _ q => nomatch q) hl') g2 g3 g4 g5 g6 g7 g8
    dsimp only at this
    rw [hp] at this
    exact this
  · exact (jm_rs_do h).elim
end JS2
end
section
theorem jm_decl_ok : ∀ c, c < 11 → ∀ k, k < jm_nf c → (jm_tt c k).1 = jm_cn c := by decide +kernel
theorem jm_uws {ci : Nat} (h : ci < 11) : ∀ w ∈ u_ws (jm_cn ci) (jm_tt ci) (jm_nf ci), w ∈ jm_g := by
  intro w hw
  unfold u_ws at hw
  obtain ⟨k, hk, rfl⟩ := List.mem_map.mp hw
  refine jm_in_g _ (jm_fp_ok ci h k (List.mem_range.mp hk)) ?_
  unfold u_lay
  split <;> rfl
/-- an object's shape -/
theorem jm_sh_obj {c0 ci : Nat} (hb : Nat.beq (jm_sh c0).1 (10 + ci) = true) (hc : c0 < 95) : ci < 11 ∧ (jm_sh c0).2.2.length = jm_nf ci ∧ (∀ j z, jm_nth (jm_sh c0).2.2 j = some z → (z = 0 → jm_ty ci j = .int ∧ (jm_tt ci j).2.2.2 = false) ∧ (z = 1 → jm_ty ci j = .long ∧ (jm_tt ci j).2.2.2 = false) ∧ (z = 2 → jm_ty ci j = .boolean ∧ (jm_tt ci j).2.2.2 = false)) ∧ ∀ (cA : Nat → ClassId) (ad : Nat → Nat) (M : jm_Mem), jm_ce cA ad M c0 = .inr (ci, jm_fv ad M c0 0 (jm_sh c0).2.2) := by
  have h1 := jm_sh_ok c0 hc
  have h2 := Nat.eq_of_beq_eq_true hb
  have hgd : ∀ (l : List Nat) (j z : Nat), jm_nth l j = some z → l.getD j 0 = z := by
    intro l
    induction l with
    | nil => intro j z h; cases h
    | cons a l ih =>
      intro j z h
      cases j with
      | zero => exact Option.some.inj h
      | succ j => exact ih j z h
  unfold jm_shk at h1
  have hce : ∀ (cA : Nat → ClassId) (ad : Nat → Nat) (M : jm_Mem), jm_ce cA ad M c0 = .inr (ci, jm_fv ad M c0 0 (jm_sh c0).2.2) := by
    intro cA ad M
    unfold jm_ce
    generalize jm_sh c0 = q at h2 ⊢
    obtain ⟨q1, q2, q3⟩ := q
    dsimp only at h2
    subst h2
    rw [Nat.add_comm 10 ci]
    rfl
  generalize jm_sh c0 = q at h1 h2 hce ⊢
  obtain ⟨q1, q2, q3⟩ := q
  dsimp only at h1 h2 hce ⊢
  subst h2
  have hble : Nat.ble 10 (10 + ci) = true := Nat.ble_eq_true_of_le (by omega)
  rw [hble] at h1
  dsimp only at h1
  rw [Bool.and_eq_true, Bool.and_eq_true, Bool.and_eq_true] at h1
  obtain ⟨g1, g2, g3, g4⟩ := h1
  have hci : 10 + ci - 10 = ci := by omega
  rw [hci] at g2 g4
  have g1 : 10 + ci < 21 := Nat.le_of_ble_eq_true g1
  have g2 := Nat.eq_of_beq_eq_true g2
  have g3 := Nat.eq_of_beq_eq_true g3
  refine ⟨by omega, by omega, fun j z hz => ?_, hce⟩
  have hj : j < q3.length := jm_nth_lt q3 j z hz
  have g5 := List.all_eq_true.mp g4 j (List.mem_range.mpr (by omega))
  rw [hgd q3 j z hz] at g5
  refine ⟨fun h => ?_, fun h => ?_, fun h => ?_⟩
  · subst h; exact of_decide_eq_true g5
  · subst h; exact of_decide_eq_true g5
  · subst h; exact of_decide_eq_true g5
section JS3
variable {p : Program} {l : Launch} {e : Env} {R : Room} {s : State} {mid : MethodId} {args : Array Value} {below : List Frame} {meth : Method} {c : Code}
variable {dC : Nat → ClassId} {dI : Nat → Nat → Nat} {cA : Nat → ClassId} {ad adV : Nat → Nat} {ids : List Nat} {A : Nat → Prop} {m : Nat} {FQ : State → Prop} {gc gs : Int} {scr : Int → Int}
variable {wc : Nat → List jm_V → jm_Mem → jm_Q → Prop} {w : jm_Cfg → Prop} {Q : jm_Q} {k : Nat} {ls : jm_Ls} {st : List jm_V} {M : jm_Mem} {a : Nat} {z : Int}
/-- a branch: of what the machine asks, and what is asked of the numbers -/
theorem js_brA {x : Int} {r : List jm_V} {ta tb : Nat} {P : Prop} (hj : jm_G p l e R s mid args below meth c dC dI cA ad ids A m FQ gc gs scr (ta, ls, r, M) ∨ ¬ P) (hk : jm_G p l e R s mid args below meth c dC dI cA ad ids A m FQ gc gs scr (tb, ls, r, M) ∨ P)
    (row : jm_in x → ∀ (JL : Array Slot) (H : Heap) (locs : List Loc) (cells slots : Nat) (rest : List Value), (P → W p l e R s mid args below meth c H locs cells slots FQ (F0 mid (jm_bp m ta) JL rest)) → (¬ P → W p l e R s mid args below meth c H locs cells slots FQ (F0 mid (jm_bp m tb) JL rest)) → W p l e R s mid args below meth c H locs cells slots FQ (F0 mid (jm_bp m k) JL (.int (Int32.ofInt x) :: rest))) : jm_G p l e R s mid args below meth c dC dI cA ad ids A m FQ gc gs scr (k, ls, .inl x :: r, M) := by
  intro JL H locs g1 g2 g3 g4 g5 g6 g7 g8
  refine row (jk_hd g2) JL H locs _ _ _ (fun hP => ?_) (fun hP => ?_)
  · exact hj.elim (fun h => h JL H locs g1 (jk_tl g2) g3 g4 g5 g6 g7 g8) (fun h => absurd hP h)
  · exact hk.elim (fun h => h JL H locs g1 (jk_tl g2) g3 g4 g5 g6 g7 g8) (fun h => absurd h hP)
theorem js_brB {x y : Int} {r : List jm_V} {ta tb : Nat} {P : Prop} (hj : jm_G p l e R s mid args below meth c dC dI cA ad ids A m FQ gc gs scr (ta, ls, r, M) ∨ ¬ P) (hk : jm_G p l e R s mid args below meth c dC dI cA ad ids A m FQ gc gs scr (tb, ls, r, M) ∨ P)
    (row : jm_in x → jm_in y → ∀ (JL : Array Slot) (H : Heap) (locs : List Loc) (cells slots : Nat) (rest : List Value), (P → W p l e R s mid args below meth c H locs cells slots FQ (F0 mid (jm_bp m ta) JL rest)) → (¬ P → W p l e R s mid args below meth c H locs cells slots FQ (F0 mid (jm_bp m tb) JL rest)) → W p l e R s mid args below meth c H locs cells slots FQ (F0 mid (jm_bp m k) JL (.int (Int32.ofInt y) :: .int (Int32.ofInt x) :: rest))) : jm_G p l e R s mid args below meth c dC dI cA ad ids A m FQ gc gs scr (k, ls, .inl y :: .inl x :: r, M) := by
  intro JL H locs g1 g2 g3 g4 g5 g6 g7 g8
  refine row (jk_hd (jk_tl g2)) (jk_hd g2) JL H locs _ _ _ (fun hP => ?_) (fun hP => ?_)
  · exact hj.elim (fun h => h JL H locs g1 (jk_tl (jk_tl g2)) g3 g4 g5 g6 g7 g8) (fun h => absurd hP h)
  · exact hk.elim (fun h => h JL H locs g1 (jk_tl (jk_tl g2)) g3 g4 g5 g6 g7 g8) (fun h => absurd h hP)
theorem js_two {P : Prop} {ca cb : jm_Cfg} (h : (P → w ca) ∧ (¬ P → w cb)) (hw : ∀ c', w c' → jm_G p l e R s mid args below meth c dC dI cA ad ids A m FQ gc gs scr c') : (jm_G p l e R s mid args below meth c dC dI cA ad ids A m FQ gc gs scr ca ∨ ¬ P) ∧ (jm_G p l e R s mid args below meth c dC dI cA ad ids A m FQ gc gs scr cb ∨ P) := by
  by_cases hP : P
  · exact ⟨Or.inl (hw _ (h.1 hP)), Or.inr hP⟩
  · exact ⟨Or.inr hP, Or.inl (hw _ (h.2 hP))⟩
theorem js_if {cc : ClassFile.Cond} {off : Int} (hF : jm_F p R s mid args c dC dI cA ad adV ids A m) (hrc : jm_rc m k = some (.ifCond cc off, a, z)) (h : jm_do wc w Q k ls M (jm_ef (.ifCond cc off, a, z) k ls st M)) (hw : ∀ c', w c' → jm_G p l e R s mid args below meth c dC dI cA ad ids A m FQ gc gs scr c') : jm_G p l e R s mid args below meth c dC dI cA ad ids A m FQ gc gs scr (k, ls, st, M) := by
  obtain ⟨hd, h1, -⟩ := jm_dec hrc (by simp)
  have h1 : (decide ((jm_bp m a : Int) = (jm_bp m k : Int) + off) && Nat.beq (jm_bp m (k + 1)) (jm_bp m k + 3)) = true := h1
  rw [Bool.and_eq_true] at h1
  have ht : (jm_bp m k : Int) + off = (jm_bp m a : Int) := (of_decide_eq_true h1.1).symm
  have hp := Nat.eq_of_beq_eq_true h1.2
  obtain ⟨x, r, rfl, h⟩ := ju1 h
  cases cc with
  | eq =>
    obtain ⟨hj, hk⟩ := js_two h hw
    refine js_brA hj hk (fun hx JL H locs cells slots rest ka kb => lv_if_eq hF.1 hF.2.1 hd ht (fun q => ka ((jn_eq hx jn_in0).mp q)) (fun q => ?_))
    have := kb (fun z => q ((jn_eq hx jn_in0).mpr z))
    rw [hp] at this
    exact this
  | ne =>
    obtain ⟨hj, hk⟩ := js_two h hw
    refine js_brA hj hk (fun hx JL H locs cells slots rest ka kb => lv_if_ne hF.1 hF.2.1 hd ht (fun q => kb (fun z => q ((jn_eq hx jn_in0).mpr z))) (fun q => ?_))
    have := ka ((jn_eq hx jn_in0).mp q)
    rw [hp] at this
    exact this
  | lt =>
    obtain ⟨hj, hk⟩ := js_two h hw
    refine js_brA hj hk (fun hx JL H locs cells slots rest ka kb => lv_if_lt hF.1 hF.2.1 hd ht (fun q => ka ((jn_lt hx jn_in0).mp q)) (fun q => ?_))
    have := kb (fun z => q ((jn_lt hx jn_in0).mpr z))
    rw [hp] at this
    exact this
  | ge =>
    obtain ⟨hj, hk⟩ := js_two h hw
    refine js_brA hj hk (fun hx JL H locs cells slots rest ka kb => lv_if_ge hF.1 hF.2.1 hd ht (fun q => kb (fun z => absurd ((jn_le jn_in0 hx).mp q) (by omega))) (fun q => ?_))
    have := ka (Int.not_le.mp (fun z => q ((jn_le jn_in0 hx).mpr z)))
    rw [hp] at this
    exact this
  | gt =>
    obtain ⟨hj, hk⟩ := js_two h hw
    refine js_brA hj hk (fun hx JL H locs cells slots rest ka kb => lv_if_gt hF.1 hF.2.1 hd ht (fun q => ka ((jn_lt jn_in0 hx).mp q)) (fun q => ?_))
    have := kb (fun z => q ((jn_lt jn_in0 hx).mpr z))
    rw [hp] at this
    exact this
  | le =>
    obtain ⟨hj, hk⟩ := js_two h hw
    refine js_brA hj hk (fun hx JL H locs cells slots rest ka kb => lv_if_le hF.1 hF.2.1 hd ht (fun q => kb (fun z => absurd ((jn_le hx jn_in0).mp q) (by omega))) (fun q => ?_))
    have := ka (Int.not_le.mp (fun z => q ((jn_le hx jn_in0).mpr z)))
    rw [hp] at this
    exact this
theorem js_icmp {cc : ClassFile.Cond} {off : Int} (hF : jm_F p R s mid args c dC dI cA ad adV ids A m) (hrc : jm_rc m k = some (.if_icmp cc off, a, z)) (h : jm_do wc w Q k ls M (jm_ef (.if_icmp cc off, a, z) k ls st M)) (hw : ∀ c', w c' → jm_G p l e R s mid args below meth c dC dI cA ad ids A m FQ gc gs scr c') : jm_G p l e R s mid args below meth c dC dI cA ad ids A m FQ gc gs scr (k, ls, st, M) := by
  obtain ⟨hd, h1, -⟩ := jm_dec hrc (by simp)
  have h1 : (decide ((jm_bp m a : Int) = (jm_bp m k : Int) + off) && Nat.beq (jm_bp m (k + 1)) (jm_bp m k + 3)) = true := h1
  rw [Bool.and_eq_true] at h1
  have ht : (jm_bp m k : Int) + off = (jm_bp m a : Int) := (of_decide_eq_true h1.1).symm
  have hp := Nat.eq_of_beq_eq_true h1.2
  obtain ⟨x, y, r, rfl, h⟩ := jb2 h
  cases cc with
  | eq =>
    obtain ⟨hj, hk⟩ := js_two h hw
    refine js_brB hj hk (fun hx hy JL H locs cells slots rest ka kb => lv_icmp_eq hF.1 hF.2.1 hd ht (fun q => ka ((jn_eq hx hy).mp q)) (fun q => ?_))
    have := kb (fun z => q ((jn_eq hx hy).mpr z))
    rw [hp] at this
    exact this
  | ne =>
    obtain ⟨hj, hk⟩ := js_two h hw
    refine js_brB hj hk (fun hx hy JL H locs cells slots rest ka kb => lv_icmp_ne hF.1 hF.2.1 hd ht (fun q => kb (fun z => q ((jn_eq hx hy).mpr z))) (fun q => ?_))
    have := ka ((jn_eq hx hy).mp q)
    rw [hp] at this
    exact this
  | lt =>
    obtain ⟨hj, hk⟩ := js_two h hw
    refine js_brB hj hk (fun hx hy JL H locs cells slots rest ka kb => lv_icmp_lt hF.1 hF.2.1 hd ht (fun q => ka ((jn_lt hx hy).mp q)) (fun q => ?_))
    have := kb (fun z => q ((jn_lt hx hy).mpr z))
    rw [hp] at this
    exact this
  | ge =>
    obtain ⟨hj, hk⟩ := js_two h hw
    refine js_brB hj hk (fun hx hy JL H locs cells slots rest ka kb => lv_icmp_ge hF.1 hF.2.1 hd ht (fun q => kb (fun z => absurd ((jn_le hy hx).mp q) (by omega))) (fun q => ?_))
    have := ka (Int.not_le.mp (fun z => q ((jn_le hy hx).mpr z)))
    rw [hp] at this
    exact this
  | gt =>
    obtain ⟨hj, hk⟩ := js_two h hw
    refine js_brB hj hk (fun hx hy JL H locs cells slots rest ka kb => lv_icmp_gt hF.1 hF.2.1 hd ht (fun q => ka ((jn_lt hy hx).mp q)) (fun q => ?_))
    have := kb (fun z => q ((jn_lt hy hx).mpr z))
    rw [hp] at this
    exact this
  | le =>
    obtain ⟨hj, hk⟩ := js_two h hw
    refine js_brB hj hk (fun hx hy JL H locs cells slots rest ka kb => lv_icmp_le hF.1 hF.2.1 hd ht (fun q => kb (fun z => absurd ((jn_le hx hy).mp q) (by omega))) (fun q => ?_))
    have := ka (Int.not_le.mp (fun z => q ((jn_le hx hy).mpr z)))
    rw [hp] at this
    exact this
theorem js_goto {off : Int} (hF : jm_F p R s mid args c dC dI cA ad adV ids A m) (hrc : jm_rc m k = some (.goto off, a, z)) (h : jm_do wc w Q k ls M (jm_ef (.goto off, a, z) k ls st M)) (hw : ∀ c', w c' → jm_G p l e R s mid args below meth c dC dI cA ad ids A m FQ gc gs scr c') : jm_G p l e R s mid args below meth c dC dI cA ad ids A m FQ gc gs scr (k, ls, st, M) := by
  obtain ⟨hd, h1, -⟩ := jm_dec hrc (by simp)
  have ht : (jm_bp m k : Int) + off = (jm_bp m a : Int) := (of_decide_eq_true (show decide ((jm_bp m a : Int) = (jm_bp m k : Int) + off) = true from h1)).symm
  refine js_go (fun JL _ h _ => h) (fun JL H locs cells slots _ _ _ _ _ _ hW => lv_goto hF.1 hF.2.1 hd ht hW) (hw (a, ls, st, M) h)
theorem js_ineg (hF : jm_F p R s mid args c dC dI cA ad adV ids A m) (hrc : jm_rc m k = some (.ineg, a, z)) (h : jm_do wc w Q k ls M (jm_ef (.ineg, a, z) k ls st M)) (hw : ∀ c', w c' → jm_G p l e R s mid args below meth c dC dI cA ad ids A m FQ gc gs scr c') : jm_G p l e R s mid args below meth c dC dI cA ad ids A m FQ gc gs scr (k, ls, st, M) := by
  obtain ⟨hd, hp, -⟩ := jm_nx hrc (by simp) rfl
  obtain ⟨x, r, rfl, h⟩ := ju1 h
  refine js_go (fun JL _ g _ => jk_cons (v := .inl (-x)) h.1 (jk_tl g)) (fun JL H locs cells slots _ _ _ _ _ _ hW => ?_) (hw _ h.2)
  rw [hp] at hW
  refine lv_ineg hF.1 hF.2.1 hd ?_
  rw [← Int32.ofInt_neg]
  exact hW
theorem js_i2b (hF : jm_F p R s mid args c dC dI cA ad adV ids A m) (hrc : jm_rc m k = some (.i2b, a, z)) (h : jm_do wc w Q k ls M (jm_ef (.i2b, a, z) k ls st M)) (hw : ∀ c', w c' → jm_G p l e R s mid args below meth c dC dI cA ad ids A m FQ gc gs scr c') : jm_G p l e R s mid args below meth c dC dI cA ad ids A m FQ gc gs scr (k, ls, st, M) := by
  obtain ⟨hd, hp, -⟩ := jm_nx hrc (by simp) rfl
  obtain ⟨x, r, rfl, h⟩ := ju1 h
  have hb := jn_byte x
  refine js_go (fun JL _ g _ => jk_cons (v := .inl (jm_byte x)) ⟨by omega, by omega⟩ (jk_tl g)) (fun JL H locs cells slots _ _ _ _ _ _ hW => ?_) (hw _ h)
  rw [hp] at hW
  exact lv_i2b hF.1 hF.2.1 hd hb.1 hW
theorem js_i2l (hF : jm_F p R s mid args c dC dI cA ad adV ids A m) (hrc : jm_rc m k = some (.i2l, a, z)) (h : jm_do wc w Q k ls M (jm_ef (.i2l, a, z) k ls st M)) (hw : ∀ c', w c' → jm_G p l e R s mid args below meth c dC dI cA ad ids A m FQ gc gs scr c') : jm_G p l e R s mid args below meth c dC dI cA ad ids A m FQ gc gs scr (k, ls, st, M) := by
  obtain ⟨hd, hp, -⟩ := jm_nx hrc (by simp) rfl
  obtain ⟨x, r, rfl, h⟩ := ju1 h
  refine js_go (fun JL _ g _ => jk_cons (v := .inr (.inr x)) (show jm_in x from jk_hd g) (jk_tl g)) (fun JL H locs cells slots _ g _ _ _ _ hW => ?_) (hw _ h)
  rw [hp] at hW
  exact lv_i2l hF.1 hF.2.1 hd (jn_long (jk_hd g)) hW
theorem js_ladd (hF : jm_F p R s mid args c dC dI cA ad adV ids A m) (hrc : jm_rc m k = some (.ladd, a, z)) (h : jm_do wc w Q k ls M (jm_ef (.ladd, a, z) k ls st M)) (hw : ∀ c', w c' → jm_G p l e R s mid args below meth c dC dI cA ad ids A m FQ gc gs scr c') : jm_G p l e R s mid args below meth c dC dI cA ad ids A m FQ gc gs scr (k, ls, st, M) := by
  obtain ⟨hd, hp, -⟩ := jm_nx hrc (by simp) rfl
  obtain ⟨x, y, r, rfl, h⟩ := jl2 h
  refine js_go (fun JL _ g _ => jk_cons (v := .inr (.inr (x + y))) h.1 (jk_tl (jk_tl g))) (fun JL H locs cells slots _ _ _ _ _ _ hW => ?_) (hw _ h.2)
  rw [hp] at hW
  refine lv_ladd hF.1 hF.2.1 hd ?_
  rw [← Int64.ofInt_add]
  exact hW
theorem js_lsub (hF : jm_F p R s mid args c dC dI cA ad adV ids A m) (hrc : jm_rc m k = some (.lsub, a, z)) (h : jm_do wc w Q k ls M (jm_ef (.lsub, a, z) k ls st M)) (hw : ∀ c', w c' → jm_G p l e R s mid args below meth c dC dI cA ad ids A m FQ gc gs scr c') : jm_G p l e R s mid args below meth c dC dI cA ad ids A m FQ gc gs scr (k, ls, st, M) := by
  obtain ⟨hd, hp, -⟩ := jm_nx hrc (by simp) rfl
  obtain ⟨x, y, r, rfl, h⟩ := jl2 h
  refine js_go (fun JL _ g _ => jk_cons (v := .inr (.inr (x - y))) h.1 (jk_tl (jk_tl g))) (fun JL H locs cells slots _ _ _ _ _ _ hW => ?_) (hw _ h.2)
  rw [hp] at hW
  refine lv_lsub hF.1 hF.2.1 hd ?_
  rw [← Int64.ofInt_sub]
  exact hW
theorem js_lmul (hF : jm_F p R s mid args c dC dI cA ad adV ids A m) (hrc : jm_rc m k = some (.lmul, a, z)) (h : jm_do wc w Q k ls M (jm_ef (.lmul, a, z) k ls st M)) (hw : ∀ c', w c' → jm_G p l e R s mid args below meth c dC dI cA ad ids A m FQ gc gs scr c') : jm_G p l e R s mid args below meth c dC dI cA ad ids A m FQ gc gs scr (k, ls, st, M) := by
  obtain ⟨hd, hp, -⟩ := jm_nx hrc (by simp) rfl
  obtain ⟨x, y, r, rfl, h⟩ := jl2 h
  refine js_go (fun JL _ g _ => jk_cons (v := .inr (.inr (x * y))) h.1 (jk_tl (jk_tl g))) (fun JL H locs cells slots _ _ _ _ _ _ hW => ?_) (hw _ h.2)
  rw [hp] at hW
  refine lv_lmul hF.1 hF.2.1 hd ?_
  rw [← Int64.ofInt_mul]
  exact hW
theorem js_lcmp (hF : jm_F p R s mid args c dC dI cA ad adV ids A m) (hrc : jm_rc m k = some (.lcmp, a, z)) (h : jm_do wc w Q k ls M (jm_ef (.lcmp, a, z) k ls st M)) (hw : ∀ c', w c' → jm_G p l e R s mid args below meth c dC dI cA ad ids A m FQ gc gs scr c') : jm_G p l e R s mid args below meth c dC dI cA ad ids A m FQ gc gs scr (k, ls, st, M) := by
  obtain ⟨hd, hp, -⟩ := jm_nx hrc (by simp) rfl
  obtain ⟨x, y, r, rfl, h⟩ := jl2 h
  refine js_go (fun JL _ g _ => jk_cons (v := .inl (jm_cmp x y)) (jl_cmp (jk_hd (jk_tl g)) (jk_hd g)).2 (jk_tl (jk_tl g))) (fun JL H locs cells slots _ g _ _ _ _ hW => ?_) (hw _ h)
  rw [hp] at hW
  refine W.lcmp hF.1 hF.2.1 hd ?_
  rw [(jl_cmp (jk_hd (jk_tl g)) (jk_hd g)).1]
  exact hW
theorem js_dup (hF : jm_F p R s mid args c dC dI cA ad adV ids A m) (hrc : jm_rc m k = some (.dup, a, z)) (h : jm_do wc w Q k ls M (jm_ef (.dup, a, z) k ls st M)) (hw : ∀ c', w c' → jm_G p l e R s mid args below meth c dC dI cA ad ids A m FQ gc gs scr c') : jm_G p l e R s mid args below meth c dC dI cA ad ids A m FQ gc gs scr (k, ls, st, M) := by
  obtain ⟨hd, hp, -⟩ := jm_nx hrc (by simp) rfl
  have h : jm_do wc w Q k ls M (match (generalizing := false) st with
    | .inl x :: r => jm_go (k + 1) ls (.inl x :: .inl x :: r) M
    | .inr (.inl x) :: r => jm_go (k + 1) ls (.inr (.inl x) :: .inr (.inl x) :: r) M
    | _ => jm_bad M) := h
  split at h
  · refine js_go (fun JL _ g _ => jk_cons (jk_hd g) g) (fun JL H locs cells slots _ _ _ _ _ _ hW => ?_) (hw _ h)
    rw [hp] at hW
    exact lv_dup hF.1 hF.2.1 hd rfl hW
  · refine js_go (fun JL _ g _ => jk_cons (jk_hd g) g) (fun JL H locs cells slots _ _ _ _ _ _ hW => ?_) (hw _ h)
    rw [hp] at hW
    exact lv_dup hF.1 hF.2.1 hd rfl hW
  · exact (jm_rs_do h).elim
theorem js_dup2 (hF : jm_F p R s mid args c dC dI cA ad adV ids A m) (hrc : jm_rc m k = some (.dup2, a, z)) (h : jm_do wc w Q k ls M (jm_ef (.dup2, a, z) k ls st M)) (hw : ∀ c', w c' → jm_G p l e R s mid args below meth c dC dI cA ad ids A m FQ gc gs scr c') : jm_G p l e R s mid args below meth c dC dI cA ad ids A m FQ gc gs scr (k, ls, st, M) := by
  obtain ⟨hd, hp, -⟩ := jm_nx hrc (by simp) rfl
  have h : jm_do wc w Q k ls M (match (generalizing := false) st with
    | .inl y :: .inr (.inl x) :: r => jm_go (k + 1) ls (.inl y :: .inr (.inl x) :: .inl y :: .inr (.inl x) :: r) M
    | _ => jm_bad M) := h
  split at h
  · refine js_go (fun JL _ g _ => jk_cons (jk_hd g) (jk_cons (jk_hd (jk_tl g)) g)) (fun JL H locs cells slots _ _ _ _ _ _ hW => ?_) (hw _ h)
    rw [hp] at hW
    exact lv_dup2_11 hF.1 hF.2.1 hd rfl rfl hW
  · exact (jm_rs_do h).elim
theorem js_pop (hF : jm_F p R s mid args c dC dI cA ad adV ids A m) (hrc : jm_rc m k = some (.pop, a, z)) (h : jm_do wc w Q k ls M (jm_ef (.pop, a, z) k ls st M)) (hw : ∀ c', w c' → jm_G p l e R s mid args below meth c dC dI cA ad ids A m FQ gc gs scr c') : jm_G p l e R s mid args below meth c dC dI cA ad ids A m FQ gc gs scr (k, ls, st, M) := by
  obtain ⟨hd, hp, -⟩ := jm_nx hrc (by simp) rfl
  have h : jm_do wc w Q k ls M (match (generalizing := false) st with
    | .inl _ :: r => jm_go (k + 1) ls r M
    | _ => jm_bad M) := h
  split at h
  · refine js_go (fun JL _ g _ => jk_tl g) (fun JL H locs cells slots _ _ _ _ _ _ hW => ?_) (hw _ h)
    rw [hp] at hW
    exact lv_pop hF.1 hF.2.1 hd rfl hW
  · exact (jm_rs_do h).elim
theorem jm_swl_ix (x : Int) (ls : jm_Ls) (r : List jm_V) (M : jm_Mem) (d : jm_Cfg) : ∀ (ts : List Nat) (i : Int), jm_dl w (jm_swl x i ts ls r M) d → (∃ (j t : Nat), ts[j]? = some t ∧ x = i + (j : Int) ∧ w (t, ls, r, M)) ∨ ((x < i ∨ i + (ts.length : Int) ≤ x) ∧ w d)
  | [], i, h => Or.inr ⟨by simp; omega, h⟩
  | t :: ts, i, h => by
    by_cases hx : x = i
    · exact Or.inl ⟨0, t, rfl, by simp [hx], h.1 hx⟩
    · rcases jm_swl_ix x ls r M d ts (i + 1) (h.2 hx) with ⟨j, t', h1, h2, h3⟩ | ⟨h1, h2⟩
      · exact Or.inl ⟨j + 1, t', h1, by rw [h2]; simp; omega, h3⟩
      · refine Or.inr ⟨?_, h2⟩
        simp only [List.length_cons]
        omega
theorem js_switch {d lo hi : Int} {offs : Array Int} (hF : jm_F p R s mid args c dC dI cA ad adV ids A m) (hrc : jm_rc m k = some (.tableswitch d lo hi offs, a, z)) (h : jm_do wc w Q k ls M (jm_ef (.tableswitch d lo hi offs, a, z) k ls st M)) (hw : ∀ c', w c' → jm_G p l e R s mid args below meth c dC dI cA ad ids A m FQ gc gs scr c') : jm_G p l e R s mid args below meth c dC dI cA ad ids A m FQ gc gs scr (k, ls, st, M) := by
  obtain ⟨hd, h1, -⟩ := jm_dec hrc (by simp)
  have h1 : (match (generalizing := false) jm_sw a with
    | t :: ts => decide (lo = 0) && (decide (hi + 1 = ts.length) && (decide ((jm_bp m t : Int) = (jm_bp m k : Int) + d) && decide (offs.toList = ts.map (fun t => (jm_bp m t : Int) - (jm_bp m k : Int)))))
    | [] => false) = true := h1
  have h : jm_do wc w Q k ls M (match (generalizing := false) st with
    | .inl x :: r => match (generalizing := false) jm_sw a with
      | d :: ts => .inl ([], jm_swl x 0 ts ls r M, (d, ls, r, M))
      | [] => jm_bad M
    | _ => jm_bad M) := h
  split at h
  · rename_i x r _
    cases hs : jm_sw a with
    | nil => rw [hs] at h; exact (jm_rs_do h).elim
    | cons t ts =>
      rw [hs] at h h1
      dsimp only at h1
      rw [Bool.and_eq_true, Bool.and_eq_true, Bool.and_eq_true] at h1
      have e1 : lo = 0 := of_decide_eq_true h1.1
      have e2 : hi + 1 = ts.length := of_decide_eq_true h1.2.1
      have e3 : (jm_bp m t : Int) = (jm_bp m k : Int) + d := of_decide_eq_true h1.2.2.1
      have e4 : offs.toList = ts.map (fun t => (jm_bp m t : Int) - (jm_bp m k : Int)) := of_decide_eq_true h1.2.2.2
      have hdl : jm_dl w (jm_swl x 0 ts ls r M) (t, ls, r, M) := h
      subst e1
      rcases jm_swl_ix x ls r M _ ts 0 hdl with ⟨j, t', g1, g2, g3⟩ | ⟨g1, g2⟩
      · have hj : j < ts.length := (List.getElem?_eq_some_iff.mp g1).1
        refine js_go (fun JL _ g _ => jk_tl g) (fun JL H locs cells slots _ g _ _ _ _ hW => ?_) (hw _ g3)
        have hx := jk_hd g
        refine lv_tableIn hF.1 hF.2.1 hd (tgt := jm_bp m t') (off := (jm_bp m t' : Int) - (jm_bp m k : Int)) (by rw [jn_toInt hx]; omega) (by rw [jn_toInt hx]; omega) ?_ (by omega) hW
        rw [jn_toInt hx, ← Array.getElem?_toList, e4, List.getElem?_map]
        have : (x - 0).toNat = j := by omega
        rw [this, g1]
        rfl
      · refine js_go (fun JL _ g _ => jk_tl g) (fun JL H locs cells slots _ g _ _ _ _ hW => ?_) (hw _ g2)
        have hx := jk_hd g
        exact lv_tableOut hF.1 hF.2.1 hd (tgt := jm_bp m t) (by rw [jn_toInt hx]; omega) (by omega) hW
  · exact (jm_rs_do h).elim
end JS3
end
section
/-- the law's script: an int row that nobody writes -/
def jm_scr (ad : Nat → Nat) (A : Nat → Prop) (s : State) (scr : Int → Int) : Prop := ∃ (L : Nat) (xs : Nat → Int32), va_X (ad 998) L xs s s.heap ∧ ad 998 < s.heap.size ∧ ¬ A (ad 998) ∧ L ≤ 3072 ∧ scr (-1) = (L : Int) ∧ ∀ j : Nat, j < L → scr (j : Int) = (xs j).toInt
theorem jm_ce_0 {cA : Nat → ClassId} {ad : Nat → Nat} {M : jm_Mem} {c0 n : Nat} {f : List Nat} (h : jm_sh c0 = (0, n, f)) : jm_ce cA ad M c0 = .inl (cA 0, n, .inl (fun j => Int32.ofInt (M c0 (j : Int)))) := by
  unfold jm_ce
  rw [h]
  rfl
theorem jm_ce_1 {cA : Nat → ClassId} {ad : Nat → Nat} {M : jm_Mem} {c0 n : Nat} {f : List Nat} (h : jm_sh c0 = (1, n, f)) : jm_ce cA ad M c0 = .inl (cA 1, n, .inl (fun j => Int32.ofInt (M c0 (j : Int)))) := by
  unfold jm_ce
  rw [h]
  rfl
theorem jm_ce_2 {cA : Nat → ClassId} {ad : Nat → Nat} {M : jm_Mem} {c0 n : Nat} {f : List Nat} (h : jm_sh c0 = (2, n, f)) : jm_ce cA ad M c0 = .inl (cA 2, n, .inl (fun j => Int32.ofInt (M c0 (j : Int)))) := by
  unfold jm_ce
  rw [h]
  rfl
theorem jm_ce_3 {cA : Nat → ClassId} {ad : Nat → Nat} {M : jm_Mem} {c0 n : Nat} {f : List Nat} (h : jm_sh c0 = (3, n, f)) : jm_ce cA ad M c0 = .inl (cA 3, n, .inr (.inl (fun j => Int64.ofInt (M c0 (j : Int))))) := by
  unfold jm_ce
  rw [h]
  rfl
theorem jm_ce_4 {cA : Nat → ClassId} {ad : Nat → Nat} {M : jm_Mem} {c0 n : Nat} {f : List Nat} (h : jm_sh c0 = (4, n, f)) : jm_ce cA ad M c0 = .inl (cA 4, n, .inr (.inr (.inr (.inr (fun j => some (ad (f.getD j 0))))))) := by
  unfold jm_ce
  rw [h]
  rfl
theorem jm_cast {i : Int} (h : 0 ≤ i) : ((i.toNat : Nat) : Int) = i := Int.toNat_of_nonneg h
theorem jm_upd {g : Int → Int} {i v : Int} (h : 0 ≤ i) : (fun j : Nat => Int32.ofInt (jm_up g i v (j : Int))) = upd (fun j : Nat => Int32.ofInt (g (j : Int))) i.toNat (Int32.ofInt v) := by
  funext j
  unfold jm_up upd
  by_cases hj : (j : Int) = i
  · rw [if_pos hj, if_pos (by omega)]
  · rw [if_neg hj, if_neg (by omega)]
theorem jm_st_row {M : jm_Mem} {c : Nat} {i v : Int} : jm_st M c i v c = jm_up (M c) i v := by
  unfold jm_st jm_sr
  rw [if_pos rfl]
section JS4
variable {p : Program} {l : Launch} {e : Env} {R : Room} {s : State} {mid : MethodId} {args : Array Value} {below : List Frame} {meth : Method} {c : Code}
variable {dC : Nat → ClassId} {dI : Nat → Nat → Nat} {cA : Nat → ClassId} {ad adV : Nat → Nat} {ids : List Nat} {A : Nat → Prop} {m : Nat} {FQ : State → Prop} {gc gs : Int} {scr : Int → Int}
variable {wc : Nat → List jm_V → jm_Mem → jm_Q → Prop} {w : jm_Cfg → Prop} {Q : jm_Q} {k : Nat} {ls : jm_Ls} {st : List jm_V} {M : jm_Mem} {a : Nat} {z : Int}
theorem jk_ids {c0 : Nat} (h : jm_okv ids m (.inr (.inl c0))) (hc : c0 < 95) : c0 ∈ ids := by
  rcases h with h | h | h
  · exact h
  · omega
  · omega
theorem js_ald {c0 : Nat} {i : Int} {r : List jm_V} (hF : jm_F p R s mid args c dC dI cA ad adV ids A m) (hsc : m = 216 → jm_scr ad A s scr) (hrc : jm_rc m k = some (.iaload, a, z)) (h : jm_do wc w Q k ls M (jm_ald k ls M c0 i r)) (hw : ∀ c', w c' → jm_G p l e R s mid args below meth c dC dI cA ad ids A m FQ gc gs scr c') : jm_G p l e R s mid args below meth c dC dI cA ad ids A m FQ gc gs scr (k, ls, .inl i :: .inr (.inl c0) :: r, M) := by
  obtain ⟨hd, hp, -⟩ := jm_nx hrc (by simp) rfl
  unfold jm_ald at h
  split at h
  · rename_i hb
    have hb := Nat.eq_of_beq_eq_true hb
    subst hb
    obtain ⟨h0, h1, h⟩ := h
    refine js_go (fun JL _ g gM => jk_cons (v := .inl (M 998 i)) (gM 998 i (by decide)) (jk_tl (jk_tl g))) (fun JL H locs cells slots _ g gM _ gS g8 hW => ?_) (hw _ h)
    have hm : m = 216 := by
      rcases jk_hd (jk_tl g) with q | q | q
      · exact absurd (hF.2.2.2.2.2.2.2.2.1.2.1 998 q) (by omega)
      · omega
      · exact q.2
    obtain ⟨L, xs, hX, hbl, hbA, hL, e1, e2⟩ := hsc hm
    have hi := jk_hd g
    rw [g8 hm, e1] at h1
    rw [hp] at hW
    refine va_sld hF.1 hF.2.1 hX hbl hbA gS (jn_vp hi h0 h1) hd ?_
    rw [jn_clamp hi]
    have e3 := e2 i.toNat (by omega)
    rw [jm_cast h0] at e3
    have e4 : Int32.ofInt (M 998 i) = xs i.toNat := by rw [g8 hm, e3, Int32.ofInt_toInt]
    rw [← e4]
    exact hW
  · split at h
    · rename_i n f hs
      obtain ⟨h0, h1, h⟩ := h
      have hc := jm_sh_lt hs (by decide)
      refine js_go (fun JL _ g gM => jk_cons (v := .inl (M c0 i)) (gM c0 i (by omega)) (jk_tl (jk_tl g))) (fun JL H locs cells slots _ g gM gP gS _ hW => ?_) (hw _ h)
      obtain ⟨q0, -, hq⟩ := jm_wd_at (cA := cA) (ad := ad) (M := M) (jk_ids (jk_hd (jk_tl g)) hc)
      rw [jm_ce_0 hs] at hq
      have hi := jk_hd g
      rw [hp] at hW
      refine va_iald hF.1 hF.2.1 hF.2.2.2.2.2.2.2.1.1 gP q0 0 hq rfl (jn_vp hi h0 h1) hd ?_
      rw [jn_clamp hi, jm_cast h0]
      exact hW
    · exact (jm_rs_do h).elim
theorem js_bld {c0 : Nat} {i : Int} {r : List jm_V} (hF : jm_F p R s mid args c dC dI cA ad adV ids A m) (hrc : jm_rc m k = some (.baload, a, z)) (h : jm_do wc w Q k ls M (jm_bld k ls M c0 i r)) (hw : ∀ c', w c' → jm_G p l e R s mid args below meth c dC dI cA ad ids A m FQ gc gs scr c') : jm_G p l e R s mid args below meth c dC dI cA ad ids A m FQ gc gs scr (k, ls, .inl i :: .inr (.inl c0) :: r, M) := by
  obtain ⟨hd, hp, -⟩ := jm_nx hrc (by simp) rfl
  unfold jm_bld at h
  split at h
  · rename_i n f hs
    obtain ⟨h0, h1, h⟩ := h
    have hc := jm_sh_lt hs (by decide)
    refine js_go (fun JL _ g gM => jk_cons (v := .inl (M c0 i)) (gM c0 i (by omega)) (jk_tl (jk_tl g))) (fun JL H locs cells slots _ g gM gP gS _ hW => ?_) (hw _ h)
    obtain ⟨q0, -, hq⟩ := jm_wd_at (cA := cA) (ad := ad) (M := M) (jk_ids (jk_hd (jk_tl g)) hc)
    rw [jm_ce_1 hs] at hq
    have hi := jk_hd g
    rw [hp] at hW
    refine va_zald hF.1 hF.2.1 hF.2.2.2.2.2.2.2.1.1 gP q0 1 hq rfl (jn_vp hi h0 h1) hd ?_
    rw [jn_clamp hi, jm_cast h0]
    exact hW
  · rename_i n f hs
    obtain ⟨h0, h1, h⟩ := h
    have hc := jm_sh_lt hs (by decide)
    refine js_go (fun JL _ g gM => jk_cons (v := .inl (M c0 i)) (gM c0 i (by omega)) (jk_tl (jk_tl g))) (fun JL H locs cells slots _ g gM gP gS _ hW => ?_) (hw _ h)
    obtain ⟨q0, -, hq⟩ := jm_wd_at (cA := cA) (ad := ad) (M := M) (jk_ids (jk_hd (jk_tl g)) hc)
    rw [jm_ce_2 hs] at hq
    have hi := jk_hd g
    rw [hp] at hW
    refine va_bald hF.1 hF.2.1 hF.2.2.2.2.2.2.2.1.1 gP q0 2 hq rfl (jn_vp hi h0 h1) hd ?_
    rw [jn_clamp hi, jm_cast h0]
    exact hW
  · exact (jm_rs_do h).elim
theorem js_iaload (hF : jm_F p R s mid args c dC dI cA ad adV ids A m) (hsc : m = 216 → jm_scr ad A s scr) (hrc : jm_rc m k = some (.iaload, a, z)) (h : jm_do wc w Q k ls M (jm_ef (.iaload, a, z) k ls st M)) (hw : ∀ c', w c' → jm_G p l e R s mid args below meth c dC dI cA ad ids A m FQ gc gs scr c') : jm_G p l e R s mid args below meth c dC dI cA ad ids A m FQ gc gs scr (k, ls, st, M) := by
  have hx : jm_do wc w Q k ls M (match (generalizing := false) st with
    | .inl i :: .inr (.inl c) :: r => jm_ald k ls M c i r
    | _ => jm_bad M) := h
  clear h
  split at hx
  · exact js_ald hF hsc hrc hx hw
  · exact (jm_rs_do hx).elim
theorem js_baload (hF : jm_F p R s mid args c dC dI cA ad adV ids A m) (hrc : jm_rc m k = some (.baload, a, z)) (h : jm_do wc w Q k ls M (jm_ef (.baload, a, z) k ls st M)) (hw : ∀ c', w c' → jm_G p l e R s mid args below meth c dC dI cA ad ids A m FQ gc gs scr c') : jm_G p l e R s mid args below meth c dC dI cA ad ids A m FQ gc gs scr (k, ls, st, M) := by
  have hx : jm_do wc w Q k ls M (match (generalizing := false) st with
    | .inl i :: .inr (.inl c) :: r => jm_bld k ls M c i r
    | _ => jm_bad M) := h
  clear h
  split at hx
  · exact js_bld hF hrc hx hw
  · exact (jm_rs_do hx).elim
theorem js_laload (hF : jm_F p R s mid args c dC dI cA ad adV ids A m) (hrc : jm_rc m k = some (.laload, a, z)) (h : jm_do wc w Q k ls M (jm_ef (.laload, a, z) k ls st M)) (hw : ∀ c', w c' → jm_G p l e R s mid args below meth c dC dI cA ad ids A m FQ gc gs scr c') : jm_G p l e R s mid args below meth c dC dI cA ad ids A m FQ gc gs scr (k, ls, st, M) := by
  obtain ⟨hd, hp, -⟩ := jm_nx hrc (by simp) rfl
  have hx : jm_do wc w Q k ls M (match (generalizing := false) st with
    | .inl i :: .inr (.inl c) :: r => match (generalizing := false) jm_sh c with
      | (3, n, _) => jm_gs [0 ≤ i, i < (n : Int)] (k + 1) ls (.inr (.inr (M c i)) :: r) M
      | _ => jm_bad M
    | _ => jm_bad M) := h
  clear h
  split at hx
  · rename_i i c0 r
    split at hx
    · rename_i n f hs
      obtain ⟨h0, h1, hx⟩ := hx
      have hc := jm_sh_lt hs (by decide)
      refine js_go (fun JL _ g gM => jk_cons (v := .inr (.inr (M c0 i))) (gM c0 i (by omega)) (jk_tl (jk_tl g))) (fun JL H locs cells slots _ g gM gP gS _ hW => ?_) (hw _ hx)
      obtain ⟨q0, -, hq⟩ := jm_wd_at (cA := cA) (ad := ad) (M := M) (jk_ids (jk_hd (jk_tl g)) hc)
      rw [jm_ce_3 hs] at hq
      have hi := jk_hd g
      rw [hp] at hW
      refine va_lald hF.1 hF.2.1 hF.2.2.2.2.2.2.2.1.1 gP q0 3 hq rfl (jn_vp hi h0 h1) hd ?_
      rw [jn_clamp hi, jm_cast h0]
      exact hW
    · exact (jm_rs_do hx).elim
  · exact (jm_rs_do hx).elim
theorem js_aaload (hF : jm_F p R s mid args c dC dI cA ad adV ids A m) (hrc : jm_rc m k = some (.aaload, a, z)) (h : jm_do wc w Q k ls M (jm_ef (.aaload, a, z) k ls st M)) (hw : ∀ c', w c' → jm_G p l e R s mid args below meth c dC dI cA ad ids A m FQ gc gs scr c') : jm_G p l e R s mid args below meth c dC dI cA ad ids A m FQ gc gs scr (k, ls, st, M) := by
  obtain ⟨hd, hp, -⟩ := jm_nx hrc (by simp) rfl
  have hx : jm_do wc w Q k ls M (match (generalizing := false) st with
    | .inl i :: .inr (.inl c) :: r => match (generalizing := false) jm_sh c with
      | (4, 2, [a, b]) => .inl ([0 ≤ i, i < 2], [(i = 0, (k + 1, ls, .inr (.inl a) :: r, M))], (k + 1, ls, .inr (.inl b) :: r, M))
      | _ => jm_bad M
    | _ => jm_bad M) := h
  clear h
  split at hx
  · rename_i i c0 r
    split at hx
    · rename_i t0 t1 hs
      obtain ⟨h0, h1, hx⟩ := hx
      have hc := jm_sh_lt hs (by decide)
      have key : ∀ (t : Nat), (i = 0 ∧ t = t0) ∨ (i = 1 ∧ t = t1) → jm_G p l e R s mid args below meth c dC dI cA ad ids A m FQ gc gs scr (k + 1, ls, .inr (.inl t) :: r, M) → jm_G p l e R s mid args below meth c dC dI cA ad ids A m FQ gc gs scr (k, ls, .inl i :: .inr (.inl c0) :: r, M) := by
        intro t ht hG
        refine js_go (fun JL _ g gM => jk_cons (v := .inr (.inl t)) (Or.inl ?_) (jk_tl (jk_tl g))) (fun JL H locs cells slots _ g gM gP gS _ hW => ?_) hG
        · obtain ⟨q1, q2⟩ := hF.2.2.2.2.2.2.2.2.1.2.2.2.2.2 c0 (jk_ids (jk_hd (jk_tl g)) hc) t0 t1 hs
          rcases ht with ⟨-, rfl⟩ | ⟨-, rfl⟩
          · exact q1
          · exact q2
        · obtain ⟨q0, -, hq⟩ := jm_wd_at (cA := cA) (ad := ad) (M := M) (jk_ids (jk_hd (jk_tl g)) hc)
          rw [jm_ce_4 hs] at hq
          have hi := jk_hd g
          rw [hp] at hW
          refine va_aldq hF.1 hF.2.1 hF.2.2.2.2.2.2.2.1.1 gP q0 4 hq rfl (jn_vp hi h0 h1) hd ?_
          rw [jn_clamp hi]
          rcases ht with ⟨rfl, rfl⟩ | ⟨rfl, rfl⟩
          · exact hW
          · exact hW
      by_cases h2 : i = 0
      · exact key t0 (Or.inl ⟨h2, rfl⟩) (hw _ (hx.1 h2))
      · exact key t1 (Or.inr ⟨by omega, rfl⟩) (hw _ (hx.2 h2))
    · exact (jm_rs_do hx).elim
  · exact (jm_rs_do hx).elim
/-- behind a write: the memory's other rows -/
theorem js_wr {c0 : Nat} {i v : Int} {ls' : jm_Ls} {st' : List jm_V} {k' : Nat} (hF : jm_F p R s mid args c dC dI cA ad adV ids A m) (hc : c0 < 95) (hG : jm_G p l e R s mid args below meth c dC dI cA ad ids A m FQ gc gs scr (k', ls', st', jm_st M c0 i v)) {JL : Array Slot} {H1 : Heap} {locs1 : List Loc} (h1 : jm_lr ad ids m ls' JL) (h2 : ∀ u ∈ st', jm_okv ids m u) (h3 : jm_okM M) (hv : jm_in v) (q0 : Nat) (hq : ids[q0]? = some c0) {E : va_E} (hE : E = jm_ce cA ad (jm_st M c0 i v) c0) (hP : va_P (dC, dI) vwCl ((jm_wd cA ad ids M).set q0 (ad c0, E)) H1) (hS : va_S A s.heap H1 locs1) (h6 : gc ≤ M 999 0) (h7 : gs ≤ M 999 1) (h8 : m = 216 → M 998 = scr) : W p l e R s mid args below meth c H1 locs1 (M 999 0 - gc).toNat (M 999 1 - gs).toNat FQ (F0 mid (jm_bp m k') JL (st'.map (jm_val ad))) := by
  have e9 : jm_st M c0 i v 999 = M 999 := jm_st_ne (by omega)
  have e8 : jm_st M c0 i v 998 = M 998 := jm_st_ne (by omega)
  rw [hE, jm_wd_set hF.2.2.2.2.2.2.2.2.1.1 hq (fun d hd => jm_st_ne hd)] at hP
  have := hG JL H1 locs1 h1 h2 (jm_okM_st h3 hv) hP hS (by dsimp only; rw [e9]; exact h6) (by dsimp only; rw [e9]; exact h7) (fun q => by dsimp only; rw [e8]; exact h8 q)
  dsimp only at this
  rw [e9] at this
  exact this
theorem js_iastore (hF : jm_F p R s mid args c dC dI cA ad adV ids A m) (hrc : jm_rc m k = some (.iastore, a, z)) (h : jm_do wc w Q k ls M (jm_ef (.iastore, a, z) k ls st M)) (hw : ∀ c', w c' → jm_G p l e R s mid args below meth c dC dI cA ad ids A m FQ gc gs scr c') : jm_G p l e R s mid args below meth c dC dI cA ad ids A m FQ gc gs scr (k, ls, st, M) := by
  obtain ⟨hd, hp, -⟩ := jm_nx hrc (by simp) rfl
  have hx : jm_do wc w Q k ls M (match (generalizing := false) st with
    | .inl v :: .inl i :: .inr (.inl c) :: r => match (generalizing := false) jm_sh c with
      | (0, n, _) => jm_gs [0 ≤ i, i < (n : Int)] (k + 1) ls r (jm_st M c i v)
      | _ => jm_bad M
    | _ => jm_bad M) := h
  clear h
  split at hx
  · rename_i v i c0 r
    split at hx
    · rename_i n f hs
      obtain ⟨h0, h1, hx⟩ := hx
      have hc := jm_sh_lt hs (by decide)
      intro JL H locs g1 g2 g3 g4 g5 g6 g7 g8
      obtain ⟨q0, hq1, hq⟩ := jm_wd_at (cA := cA) (ad := ad) (M := M) (jk_ids (jk_hd (jk_tl (jk_tl g2))) hc)
      rw [jm_ce_0 hs] at hq
      have hi := jk_hd (jk_tl g2)
      refine va_iast hF.1 hF.2.1 hF.2.2.2.2.2.2.2.1.1 g4 (jm_wd_D M hF.2.2.2.2.2.2.2.2.1) g5 q0 0 hq rfl (jn_vp hi h0 h1) hd (fun H1 locs1 gP gD gS => ?_)
      rw [show jm_bp m k + 1 = jm_bp m (k + 1) from hp.symm]
      refine js_wr hF hc (hw _ hx) g1 (jk_tl (jk_tl (jk_tl g2))) g3 (jk_hd g2) q0 hq1 ?_ gP gS g6 g7 g8
      rw [jm_ce_0 hs, jn_clamp hi, jm_st_row, jm_upd h0]
    · exact (jm_rs_do hx).elim
  · exact (jm_rs_do hx).elim
theorem js_bastore (hF : jm_F p R s mid args c dC dI cA ad adV ids A m) (hrc : jm_rc m k = some (.bastore, a, z)) (h : jm_do wc w Q k ls M (jm_ef (.bastore, a, z) k ls st M)) (hw : ∀ c', w c' → jm_G p l e R s mid args below meth c dC dI cA ad ids A m FQ gc gs scr c') : jm_G p l e R s mid args below meth c dC dI cA ad ids A m FQ gc gs scr (k, ls, st, M) := by
  obtain ⟨hd, hp, -⟩ := jm_nx hrc (by simp) rfl
  have hx : jm_do wc w Q k ls M (match (generalizing := false) st with
    | .inl v :: .inl i :: .inr (.inl c) :: r => match (generalizing := false) jm_sh c with
      | (1, n, _) => jm_gs [0 ≤ i, i < (n : Int), 0 ≤ v, v ≤ 1] (k + 1) ls r (jm_st M c i v)
      | (2, n, _) => jm_gs [0 ≤ i, i < (n : Int), -128 ≤ v, v ≤ 127] (k + 1) ls r (jm_st M c i v)
      | _ => jm_bad M
    | _ => jm_bad M) := h
  clear h
  split at hx
  · rename_i v i c0 r
    split at hx
    · rename_i n f hs
      obtain ⟨h0, h1, hv0, hv1, hx⟩ := hx
      have hc := jm_sh_lt hs (by decide)
      intro JL H locs g1 g2 g3 g4 g5 g6 g7 g8
      obtain ⟨q0, hq1, hq⟩ := jm_wd_at (cA := cA) (ad := ad) (M := M) (jk_ids (jk_hd (jk_tl (jk_tl g2))) hc)
      rw [jm_ce_1 hs] at hq
      have hi := jk_hd (jk_tl g2)
      refine va_zast hF.1 hF.2.1 hF.2.2.2.2.2.2.2.1.1 g4 (jm_wd_D M hF.2.2.2.2.2.2.2.2.1) g5 q0 1 hq rfl (jn_vp hi h0 h1) hd (fun H1 locs1 gP gD gS => ?_)
      rw [show jm_bp m k + 1 = jm_bp m (k + 1) from hp.symm]
      refine js_wr hF hc (hw _ hx) g1 (jk_tl (jk_tl (jk_tl g2))) g3 (jk_hd g2) q0 hq1 ?_ gP gS g6 g7 g8
      rw [jm_ce_1 hs, jn_clamp hi, jm_st_row, jm_upd h0, (jn_narZ hv0 hv1).2.2]
    · rename_i n f hs
      obtain ⟨h0, h1, hv0, hv1, hx⟩ := hx
      have hc := jm_sh_lt hs (by decide)
      intro JL H locs g1 g2 g3 g4 g5 g6 g7 g8
      obtain ⟨q0, hq1, hq⟩ := jm_wd_at (cA := cA) (ad := ad) (M := M) (jk_ids (jk_hd (jk_tl (jk_tl g2))) hc)
      rw [jm_ce_2 hs] at hq
      have hi := jk_hd (jk_tl g2)
      refine va_bast hF.1 hF.2.1 hF.2.2.2.2.2.2.2.1.1 g4 (jm_wd_D M hF.2.2.2.2.2.2.2.2.1) g5 q0 2 hq rfl (jn_vp hi h0 h1) hd (fun H1 locs1 gP gD gS => ?_)
      rw [show jm_bp m k + 1 = jm_bp m (k + 1) from hp.symm]
      refine js_wr hF hc (hw _ hx) g1 (jk_tl (jk_tl (jk_tl g2))) g3 (jk_hd g2) q0 hq1 ?_ gP gS g6 g7 g8
      rw [jm_ce_2 hs, jn_clamp hi, jm_st_row, jm_upd h0, jn_narB hv0 hv1]
    · exact (jm_rs_do hx).elim
  · exact (jm_rs_do hx).elim
theorem js_alen (hF : jm_F p R s mid args c dC dI cA ad adV ids A m) (hsc : m = 216 → jm_scr ad A s scr) (hrc : jm_rc m k = some (.arraylength, a, z)) (h : jm_do wc w Q k ls M (jm_ef (.arraylength, a, z) k ls st M)) (hw : ∀ c', w c' → jm_G p l e R s mid args below meth c dC dI cA ad ids A m FQ gc gs scr c') : jm_G p l e R s mid args below meth c dC dI cA ad ids A m FQ gc gs scr (k, ls, st, M) := by
  obtain ⟨hd, hp, -⟩ := jm_nx hrc (by simp) rfl
  have hx : jm_do wc w Q k ls M (match (generalizing := false) st with
    | .inr (.inl c) :: r => match (generalizing := false) Nat.beq c 998, jm_sh c with
      | true, _ => jm_go (k + 1) ls (.inl (M 998 (-1)) :: r) M
      | false, (0, n, _) => jm_go (k + 1) ls (.inl (n : Int) :: r) M
      | _, _ => jm_bad M
    | _ => jm_bad M) := h
  clear h
  split at hx
  · rename_i c0 r
    split at hx
    · rename_i hb
      have hb := Nat.eq_of_beq_eq_true hb
      subst hb
      refine js_go (fun JL _ g gM => jk_cons (v := .inl (M 998 (-1))) (gM 998 (-1) (by decide)) (jk_tl g)) (fun JL H locs cells slots _ g gM _ gS g8 hW => ?_) (hw _ hx)
      have hm : m = 216 := by
        rcases jk_hd g with q | q | q
        · exact absurd (hF.2.2.2.2.2.2.2.2.1.2.1 998 q) (by omega)
        · omega
        · exact q.2
      obtain ⟨L, xs, hX, hbl, hbA, hL, e1, e2⟩ := hsc hm
      rw [hp] at hW
      refine va_slen hF.1 hF.2.1 hX hbl hbA gS hd ?_
      have e4 : Int32.ofInt (M 998 (-1)) = Int32.ofNat L := by rw [g8 hm, e1, Int32.ofInt_eq_ofNat]
      rw [← e4]
      exact hW
    · rename_i n f _ hs
      have hc := jm_sh_lt hs (by decide)
      have hn : n ≤ 900 := by
        have : ∀ c, c < 95 → (jm_sh c).2.1 ≤ 900 := by decide +kernel
        have := this c0 hc
        rw [hs] at this
        exact this
      refine js_go (fun JL _ g gM => jk_cons (v := .inl (n : Int)) ⟨by omega, by omega⟩ (jk_tl g)) (fun JL H locs cells slots _ g gM gP gS _ hW => ?_) (hw _ hx)
      obtain ⟨q0, -, hq⟩ := jm_wd_at (cA := cA) (ad := ad) (M := M) (jk_ids (jk_hd g) hc)
      rw [jm_ce_0 hs] at hq
      rw [hp] at hW
      exact va_alen hF.1 hF.2.1 hF.2.2.2.2.2.2.2.1.1 gP q0 0 hq (ty := .int) rfl (v := Int32.ofInt (n : Int)) Int32.ofInt_eq_ofNat.symm hd hW
    · exact (jm_rs_do hx).elim
  · exact (jm_rs_do hx).elim
theorem jm_any5 {i x f cl : Nat} (h : jm_flT.any (fun q => Nat.beq q.1 cl && (Nat.beq q.2.1 i && (Nat.beq q.2.2.1 x && Nat.beq q.2.2.2.1 f))) = true) : f < jm_nf x ∧ Cond.fieldLink (jm_cn cl) i (jm_cn x) (jm_tt x f).2.1 (jm_tt x f).2.2.1 ∈ jm_g := by
  obtain ⟨q, hq, h1⟩ := List.any_eq_true.mp h
  rw [Bool.and_eq_true, Bool.and_eq_true, Bool.and_eq_true] at h1
  have e1 := Nat.eq_of_beq_eq_true h1.1
  have e2 := Nat.eq_of_beq_eq_true h1.2.1
  have e3 := Nat.eq_of_beq_eq_true h1.2.2.1
  have e4 := Nat.eq_of_beq_eq_true h1.2.2.2
  have g1 := jm_fl_ok q hq
  have g2 := jm_fl_lt q hq
  rw [e1, e2, e3, e4] at g1
  rw [e3, e4] at g2
  exact ⟨g2, jm_in_g _ g1 rfl⟩
theorem js_getfield {i : Nat} (hF : jm_F p R s mid args c dC dI cA ad adV ids A m) (hrc : jm_rc m k = some (.getfield i, a, z)) (h : jm_do wc w Q k ls M (jm_ef (.getfield i, a, z) k ls st M)) (hw : ∀ c', w c' → jm_G p l e R s mid args below meth c dC dI cA ad ids A m FQ gc gs scr c') : jm_G p l e R s mid args below meth c dC dI cA ad ids A m FQ gc gs scr (k, ls, st, M) := by
  obtain ⟨hd, hp, h2⟩ := jm_nx hrc (by simp) rfl
  obtain ⟨hf, hlink⟩ := jm_any5 h2
  have hx : jm_do wc w Q k ls M (jm_get k a z.toNat ls st M) := h
  clear h
  unfold jm_get at hx
  split at hx
  · rename_i c0 r
    have key : ∀ (zz : Nat) (v : jm_V), Nat.beq (jm_sh c0).1 (10 + z.toNat) = true → jm_fk c0 a = some zz → jm_val ad v = jm_cv ad M c0 a zz → (c0 ∈ ids → jm_okM M → jm_okv ids m v) → jm_G p l e R s mid args below meth c dC dI cA ad ids A m FQ gc gs scr (k + 1, ls, v :: r, M) → jm_G p l e R s mid args below meth c dC dI cA ad ids A m FQ gc gs scr (k, ls, .inr (.inl c0) :: r, M) := by
      intro zz v hb hz hv hok hG
      have hc := jm_fk_lt hz
      obtain ⟨g1, g2, g3, g4⟩ := jm_sh_obj hb hc
      refine js_go (fun JL _ g gM => jk_cons (v := v) (hok (jk_ids (jk_hd g) hc) gM) (jk_tl g)) (fun JL H locs cells slots _ g gM gP gS _ hW => ?_) hG
      obtain ⟨q0, -, hq⟩ := jm_wd_at (cA := cA) (ad := ad) (M := M) (jk_ids (jk_hd g) hc)
      rw [g4] at hq
      rw [hp] at hW
      refine va_get hF.1 hF.2.1 hF.2.2.2.2.1 (jm_uws g1) hF.2.2.2.1 hF.2.2.2.2.2.2.2.1.1 gP q0 hq (jm_cl_ok _ g1) a hf (hF.2.2.2.2.1 _ hlink) (fun x hx => by rw [jm_decl_ok _ g1 a hf] at hx; exact hx) (v := jm_val ad v) ?_ hd hW
      rw [jm_fv_at _ 0 a zz hz, Nat.zero_add, hv]
    split at hx
    · rename_i hb hz
      exact key 0 (.inl (M c0 (a : Int))) hb hz rfl (fun _ gM => gM c0 _ (by have := jm_fk_lt hz; omega)) (hw _ hx)
    · rename_i hb hz
      exact key 1 (.inr (.inr (M c0 (a : Int)))) hb hz rfl (fun _ gM => gM c0 _ (by have := jm_fk_lt hz; omega)) (hw _ hx)
    · rename_i hb hz
      exact key 2 (.inl (M c0 (a : Int))) hb hz rfl (fun _ gM => gM c0 _ (by have := jm_fk_lt hz; omega)) (hw _ hx)
    · rename_i t hb hz
      refine key (t + 3) (.inr (.inl t)) hb hz rfl (fun hc0 _ => Or.inl ?_) (hw _ hx)
      exact hF.2.2.2.2.2.2.2.2.1.2.2.2.2.1 c0 hc0 (by rw [Nat.eq_of_beq_eq_true hb]; omega) a t hz
    · exact (jm_rs_do hx).elim
  · exact (jm_rs_do hx).elim
theorem js_putfield {i : Nat} (hF : jm_F p R s mid args c dC dI cA ad adV ids A m) (hrc : jm_rc m k = some (.putfield i, a, z)) (h : jm_do wc w Q k ls M (jm_ef (.putfield i, a, z) k ls st M)) (hw : ∀ c', w c' → jm_G p l e R s mid args below meth c dC dI cA ad ids A m FQ gc gs scr c') : jm_G p l e R s mid args below meth c dC dI cA ad ids A m FQ gc gs scr (k, ls, st, M) := by
  obtain ⟨hd, hp, h2⟩ := jm_nx hrc (by simp) rfl
  obtain ⟨hf, hlink⟩ := jm_any5 h2
  have hx : jm_do wc w Q k ls M (jm_put k a z.toNat ls st M) := h
  clear h
  unfold jm_put at hx
  have key : ∀ (c0 : Nat) (r : List jm_V) (zz : Nat) (u : jm_V) (x : Int) (ty : FieldType), (zz = 0 ∨ zz = 1 ∨ zz = 2) → Nat.beq (jm_sh c0).1 (10 + z.toNat) = true → jm_fk c0 a = some zz → (jm_okv ids m u → jm_in x) → jm_val ad u = jm_cv ad (jm_st M c0 (a : Int) x) c0 a zz → (z.toNat < 11 → jm_ty z.toNat a = ty → (jm_okv ids m u → narrow ty (jm_val ad u) = jm_val ad u ∧ fits ty (jm_val ad u) = true)) → (∀ j, j = a → jm_ty z.toNat j = ty ∧ (jm_tt z.toNat j).2.2.2 = false) → jm_G p l e R s mid args below meth c dC dI cA ad ids A m FQ gc gs scr (k + 1, ls, r, jm_st M c0 (a : Int) x) → jm_G p l e R s mid args below meth c dC dI cA ad ids A m FQ gc gs scr (k, ls, u :: .inr (.inl c0) :: r, M) := by
    intro c0 r zz u x ty hzz hb hz hux hv hfit hty hG
    have hc := jm_fk_lt hz
    obtain ⟨g1, g2, g3, g4⟩ := jm_sh_obj hb hc
    obtain ⟨t1, t2⟩ := hty a rfl
    intro JL H locs k1 k2 k3 k4 k5 k6 k7 k8
    obtain ⟨q0, hq1, hq⟩ := jm_wd_at (cA := cA) (ad := ad) (M := M) (jk_ids (jk_hd (jk_tl k2)) hc)
    rw [g4] at hq
    obtain ⟨f1, f2⟩ := hfit g1 t1 (jk_hd k2)
    have hpd := jm_ty_ok _ g1 a hf
    rw [t1] at hpd
    refine va_put (v := jm_val ad u) (ty := ty) hF.1 hF.2.1 hF.2.2.2.2.1 (jm_uws g1) (jm_ty z.toNat) (jm_ty_ok _ g1) (jm_nm_ok _ g1) hF.2.2.2.1 hF.2.2.2.2.2.2.2.1.1 k4 (jm_wd_D M hF.2.2.2.2.2.2.2.2.1) k5 q0 hq (jm_cl_ok _ g1) a hf (hF.2.2.2.2.1 _ hlink) (fun x hx => by rw [jm_decl_ok _ g1 a hf] at hx; exact hx) t2 hpd f1 f2 (by rw [jm_fv_len, g2]; exact hf) hd (fun H1 locs1 gP gD gS => ?_)
    rw [show jm_bp m k + 3 = jm_bp m (k + 1) from hp.symm]
    refine js_wr hF hc hG k1 (jk_tl (jk_tl k2)) k3 (hux (jk_hd k2)) q0 hq1 ?_ gP gS k6 k7 k8
    rw [g4, jm_fv_set _ 0 a zz hz (by simp) hzz, Nat.zero_add, hv]
  split at hx
  · rename_i x c0 r
    split at hx
    · rename_i hb hz
      have hc := jm_fk_lt hz
      obtain ⟨g1, g2, g3, g4⟩ := jm_sh_obj hb hc
      refine key c0 r 0 (.inl x) x .int (Or.inl rfl) hb hz (fun q => q) ?_ (fun _ _ _ => ⟨rfl, rfl⟩) (fun j hj => by subst hj; exact (g3 j 0 hz).1 rfl) (hw _ hx)
      show Value.int (Int32.ofInt x) = .int (Int32.ofInt (jm_st M c0 (a : Int) x c0 (a : Int)))
      rw [jm_st_eq, if_pos rfl]
    · rename_i hb hz
      obtain ⟨h0, h1, hx⟩ := hx
      have hc := jm_fk_lt hz
      obtain ⟨g1, g2, g3, g4⟩ := jm_sh_obj hb hc
      refine key c0 r 2 (.inl x) x .boolean (Or.inr (Or.inr rfl)) hb hz (fun q => q) ?_ (fun _ _ _ => ⟨(jn_narZ h0 h1).1, (jn_narZ h0 h1).2.1⟩) (fun j hj => by subst hj; exact (g3 j 2 hz).2.2 rfl) (hw _ hx)
      show Value.int (Int32.ofInt x) = .int (Int32.ofInt (jm_st M c0 (a : Int) x c0 (a : Int)))
      rw [jm_st_eq, if_pos rfl]
    · exact (jm_rs_do hx).elim
  · rename_i x c0 r
    split at hx
    · rename_i hb hz
      have hc := jm_fk_lt hz
      obtain ⟨g1, g2, g3, g4⟩ := jm_sh_obj hb hc
      refine key c0 r 1 (.inr (.inr x)) x .long (Or.inr (Or.inl rfl)) hb hz (fun q => q) ?_ (fun _ _ _ => ⟨rfl, rfl⟩) (fun j hj => by subst hj; exact (g3 j 1 hz).2.1 rfl) (hw _ hx)
      show Value.long (Int64.ofInt x) = .long (Int64.ofInt (jm_st M c0 (a : Int) x c0 (a : Int)))
      rw [jm_st_eq, if_pos rfl]
    · exact (jm_rs_do hx).elim
  · exact (jm_rs_do hx).elim
end JS4
end
section
/-! CALLS, ENDS, AND THE WHOLE -/
def jm_by : Nat → MethodName
  | 900 => arraycopyName
  | 901 => yJ0_length_8abf5
  | 902 => yJ0_charAt_5068e
  | 903 => yX10_spelt
  | 904 => yJ9_max_7cf53
  | 905 => yJ9_min_7cf53
  | 910 => yL_around
  | 911 => yL_distance
  | 912 => yL_potential
  | 913 => yL_on
  | 914 => yL_left
  | _ => yL_excess
set_option maxRecDepth 100000 in
theorem jm_mb_ok : ∀ q ∈ jm_mbT, lw_tbl[q.2.2.2]? = some (.methodLink (jm_cn q.1) q.2.1 (jm_by q.2.2.1)) := by decide +kernel
set_option maxRecDepth 100000 in
theorem jm_t_copy : lw_tbl[694]? = some (.native arraycopyName) ∧ lw_tbl[693]? = some (.static arraycopyName) ∧ lw_tbl[123]? = some (.initialized "java/lang/System") := by decide +kernel
set_option maxRecDepth 100000 in
theorem jm_t_max : lw_tbl[658]? = some (.static Lib.Math.max.name) ∧ lw_tbl[659]? = some (.code Lib.Math.max.name Lib.Math.max.code 2 (some .int)) ∧ lw_tbl[122]? = some (.initialized "java/lang/Math") ∧ yJ9_max_7cf53 = Lib.Math.max.name := by decide +kernel
set_option maxRecDepth 100000 in
theorem jm_t_min : lw_tbl[871]? = some (.static Lib.Math.min.name) ∧ lw_tbl[872]? = some (.code Lib.Math.min.name Lib.Math.min.code 2 (some .int)) ∧ yJ9_min_7cf53 = Lib.Math.min.name := by decide +kernel
theorem jm_kd_ok : ∀ m, m < 217 → (jm_mi m).2.2.2.2.2.2 ≤ 1 ∧ ((jm_mi m).2.2.2.2.2.2 = 0 ↔ jm_r m = none) := by decide +kernel
theorem jm_any3 {i x cl : Nat} {L : List (Nat × Nat × Nat × Nat)} (h : L.any (fun q => Nat.beq q.1 cl && (Nat.beq q.2.1 i && Nat.beq q.2.2.1 x)) = true) : ∃ q ∈ L, q.1 = cl ∧ q.2.1 = i ∧ q.2.2.1 = x := by
  obtain ⟨q, hq, h1⟩ := List.any_eq_true.mp h
  rw [Bool.and_eq_true, Bool.and_eq_true] at h1
  exact ⟨q, hq, Nat.eq_of_beq_eq_true h1.1, Nat.eq_of_beq_eq_true h1.2.1, Nat.eq_of_beq_eq_true h1.2.2⟩
theorem jm_ft_sum {ad : Nat → Nat} : ∀ (r : List jm_V) (n : Nat), jm_ft r n = true → ((r.map (jm_val ad)).map fun v => v.category).sum ≤ n
  | [], _, _ => Nat.zero_le _
  | .inr (.inr x) :: r, n + 2, h => by
    have := jm_ft_sum (ad := ad) r n h
    simp only [List.map_cons, List.sum_cons]
    show 2 + _ ≤ n + 2
    omega
  | .inl x :: r, n + 1, h => by
    have := jm_ft_sum (ad := ad) r n h
    simp only [List.map_cons, List.sum_cons]
    show 1 + _ ≤ n + 1
    omega
  | .inr (.inl x) :: r, n + 1, h => by
    have := jm_ft_sum (ad := ad) r n h
    simp only [List.map_cons, List.sum_cons]
    show 1 + _ ≤ n + 1
    omega
  | .inr (.inr x) :: r, 1, h => nomatch h
  | .inr (.inr x) :: r, 0, h => nomatch h
  | .inl x :: r, 0, h => nomatch h
  | .inr (.inl x) :: r, 0, h => nomatch h
theorem jm_tk_of : ∀ (n : Nat) (st acc as rest : List jm_V), jm_tk n st acc = some (as, rest) → ∃ b, as = b ++ acc ∧ st = b.reverse ++ rest ∧ b.length = n
  | 0, st, acc, as, rest, h => by
    have h1 : (acc, st) = (as, rest) := Option.some.inj h
    cases h1
    exact ⟨[], rfl, rfl, rfl⟩
  | n + 1, [], acc, as, rest, h => nomatch h
  | n + 1, v :: st, acc, as, rest, h => by
    obtain ⟨b, h1, h2, h3⟩ := jm_tk_of n st (v :: acc) as rest h
    refine ⟨b ++ [v], by rw [h1]; simp, by rw [h2]; simp, by simp [h3]⟩
/-- what an end leaves on the stack -/
def jm_rs (ad : Nat → Nat) : Option jm_V → List Value
  | some (.inl x) => [.int (Int32.ofInt x)]
  | _ => []
/-- a place where a method ends -/
def jm_end (m k : Nat) : Option jm_V → Prop
  | none => decode (jm_b m) (jm_bp m k) = .ok (.return_, 1) ∧ jm_r m = none
  | some (.inl x) => decode (jm_b m) (jm_bp m k) = .ok (.ireturn, 1) ∧ jm_in x ∧ (jm_r m = some .int ∨ (jm_r m = some .boolean ∧ 0 ≤ x ∧ x ≤ 1))
  | some (.inr _) => ∃ (i a : Nat) (z : Int), jm_rc m k = some (.new i, a, z)
def jm_Fin (p : Program) (l : Launch) (e : Env) (R : Room) (s : State) (mid : MethodId) (args : Array Value) (below : List Frame) (meth : Method) (c : Code) (dC : Nat → ClassId) (dI : Nat → Nat → Nat) (cA : Nat → ClassId) (ad : Nat → Nat) (ids : List Nat) (A : Nat → Prop) (m : Nat) (FQ : State → Prop) (gc gs : Int) (Q : jm_Q) : Prop :=
  ∀ (r : Option jm_V) (M' : jm_Mem) (k' : Nat) (JL : Array Slot) (H : Heap) (locs : List Loc), Q r M' → jm_end m k' r → jm_okM M' → JL.size = (jm_mi m).2.2.2.1 → va_P (dC, dI) vwCl (jm_wd cA ad ids M') H → va_S A s.heap H locs → gc ≤ M' 999 0 → gs ≤ M' 999 1 → W p l e R s mid args below meth c H locs (M' 999 0 - gc).toNat (M' 999 1 - gs).toNat FQ (F0 mid (jm_bp m k') JL (jm_rs ad r))
/-- soundness at n -/
def jm_S (l : Launch) (dC : Nat → ClassId) (dI : Nat → Nat → Nat) (cA : Nat → ClassId) (ad adV : Nat → Nat) (ids : List Nat) (n : Nat) : Prop :=
  ∀ (m : Nat) (cf : jm_Cfg) (Q : jm_Q), jm_wp n m cf Q → ∀ (p : Program) (e : Env) (R : Room) (s : State) (mid : MethodId) (args : Array Value) (below : List Frame) (meth : Method) (c : Code) (A : Nat → Prop) (FQ : State → Prop) (gc gs : Int) (scr : Int → Int), jm_F p R s mid args c dC dI cA ad adV ids A m → (m = 216 → jm_scr ad A s scr) → (∀ r M', Q r M' → (M' 999 0 - gc).toNat ≤ R.cells ∧ (M' 999 1 - gs).toNat ≤ R.slots) → jm_Fin p l e R s mid args below meth c dC dI cA ad ids A m FQ gc gs Q → jm_G p l e R s mid args below meth c dC dI cA ad ids A m FQ gc gs scr cf
def jm_ws (m : Nat) : List Cond := Cond.code (jm_y m) (jm_b m) (jm_mi m).2.2.2.1 (jm_r m) :: jm_g
theorem jm_pad_at {ad : Nat → Nat} : ∀ (as : List jm_V) (n j i : Nat) (v : jm_V), jm_lg (jm_pad as n) i = some v → (j + i, jm_val ad v) ∈ lv_args j (as.map (jm_val ad)) ∧ v ∈ as
  | [], n, j, i, v, h => by
    exfalso
    have : ∀ (n i : Nat), jm_lg (List.replicate n (none : Option jm_V)) i = none := by
      intro n
      induction n with
      | zero => intro i; rfl
      | succ n ih =>
        intro i
        cases i with
        | zero => rfl
        | succ i => exact ih i
    have h2 : jm_lg (List.replicate n (none : Option jm_V)) i = some v := h
    rw [this] at h2
    cases h2
  | .inr (.inr x) :: as, 0, j, i, v, h => nomatch h
  | .inr (.inr x) :: as, 1, j, 0, v, h => by
    have : (.inr (.inr x) : jm_V) = v := Option.some.inj h
    subst this
    exact ⟨List.mem_cons_self, List.mem_cons_self⟩
  | .inr (.inr x) :: as, 1, j, i + 1, v, h => by
    exfalso
    have h : jm_lg (jm_pad as 0) i = some v := h
    cases as with
    | nil => exact nomatch h
    | cons b as =>
      match b, h with
      | .inl y, h => exact nomatch h
      | .inr (.inl y), h => exact nomatch h
      | .inr (.inr y), h => exact nomatch h
  | .inr (.inr x) :: as, n + 2, j, 0, v, h => by
    have : (.inr (.inr x) : jm_V) = v := Option.some.inj h
    subst this
    exact ⟨List.mem_cons_self, List.mem_cons_self⟩
  | .inr (.inr x) :: as, n + 2, j, 1, v, h => nomatch h
  | .inr (.inr x) :: as, n + 2, j, i + 2, v, h => by
    obtain ⟨h1, h2⟩ := jm_pad_at (ad := ad) as n (j + 2) i v h
    refine ⟨List.mem_cons_of_mem _ ?_, List.mem_cons_of_mem _ h2⟩
    rw [show j + (i + 2) = j + 2 + i by omega]
    exact h1
  | .inl x :: as, 0, j, i, v, h => nomatch h
  | .inl x :: as, n + 1, j, 0, v, h => by
    have : (.inl x : jm_V) = v := Option.some.inj h
    subst this
    exact ⟨List.mem_cons_self, List.mem_cons_self⟩
  | .inl x :: as, n + 1, j, i + 1, v, h => by
    obtain ⟨h1, h2⟩ := jm_pad_at (ad := ad) as n (j + 1) i v h
    refine ⟨List.mem_cons_of_mem _ ?_, List.mem_cons_of_mem _ h2⟩
    rw [show j + (i + 1) = j + 1 + i by omega]
    exact h1
  | .inr (.inl x) :: as, 0, j, i, v, h => nomatch h
  | .inr (.inl x) :: as, n + 1, j, 0, v, h => by
    have : (.inr (.inl x) : jm_V) = v := Option.some.inj h
    subst this
    exact ⟨List.mem_cons_self, List.mem_cons_self⟩
  | .inr (.inl x) :: as, n + 1, j, i + 1, v, h => by
    obtain ⟨h1, h2⟩ := jm_pad_at (ad := ad) as n (j + 1) i v h
    refine ⟨List.mem_cons_of_mem _ ?_, List.mem_cons_of_mem _ h2⟩
    rw [show j + (i + 1) = j + 1 + i by omega]
    exact h1
theorem jm_sl_len {ad : Nat → Nat} : ∀ (as : List jm_V), (lg_sl (as.map (jm_val ad))).length = jm_cat as
  | [] => rfl
  | .inl x :: as => by
    have := jm_sl_len (ad := ad) as
    simp only [lg_sl, List.map_cons, List.flatMap_cons, List.length_append] at this ⊢
    rw [this]
    show 1 + jm_cat as = jm_cat as + 1
    omega
  | .inr (.inl x) :: as => by
    have := jm_sl_len (ad := ad) as
    simp only [lg_sl, List.map_cons, List.flatMap_cons, List.length_append] at this ⊢
    rw [this]
    show 1 + jm_cat as = jm_cat as + 1
    omega
  | .inr (.inr x) :: as => by
    have := jm_sl_len (ad := ad) as
    simp only [lg_sl, List.map_cons, List.flatMap_cons, List.length_append] at this ⊢
    rw [this]
    show 2 + jm_cat as = jm_cat as + 2
    omega
/-- a method's contract out of soundness: from this memory to that one -/
theorem js_met {l : Launch} {dC : Nat → ClassId} {dI : Nat → Nat → Nat} {cA : Nat → ClassId} {ad adV : Nat → Nat} {ids : List Nat} {n : Nat} (hS : jm_S l dC dI cA ad adV ids n) {mi : Nat} {as : List jm_V} {M M1 : jm_Mem} {r1 : Option jm_V} (sz : Nat) (hmi : mi < 216) (hwp : jm_wp n mi (0, jm_pad as (jm_mi mi).2.2.2.1, [], M) (fun r M' => r = r1 ∧ M' = M1)) (hr1 : r1 = none ∨ ∃ x, r1 = some (.inl x)) (has : ∀ v ∈ as, jm_okv ids mi v) (hnl : ∀ v ∈ as, ∀ x, v = .inr (.inr x) → mi = 140) (hcat : jm_cat as ≤ (jm_mi mi).2.2.2.1) (hM : jm_okM M) {A0 : Nat → Prop} (wk : jm_wok ad ids A0) :
    Met l (jm_y mi) (jm_ws mi) ({ frames := (jm_mi mi).2.2.2.2.1, cells := (M1 999 0 - M 999 0).toNat, slots := (M1 999 1 - M 999 1).toNat, locals := (jm_mi mi).2.2.2.2.2.1 }) (va_Pc (as.map (jm_val ad)) (fun U => U.heap.size = sz ∧ va_P (dC, dI) vwCl (jm_wd cA ad ids M) U.heap ∧ jm_ctx dC dI cA ad adV (va_A (jm_wd cA ad ids M) sz) U U.heap)) (fun _ s0 oc t => (oc = .returned (r1.map (jm_val ad)) ∧ va_P (dC, dI) vwCl (jm_wd cA ad ids M1) t.heap ∧ jm_okM M1 ∧ ∀ x, r1 = some (.inl x) → jm_in x) ∧ va_F (va_A (jm_wd cA ad ids M) sz) s0 t) (M1 999 0 - M 999 0).toNat (M1 999 1 - M 999 1).toNat (va_A (jm_wd cA ad ids M) sz) := by
  obtain ⟨n1, n2, -, -, -, n6⟩ := jm_mn_ok mi hmi
  refine Met.ofW (cc := jm_b mi) (maxL := (jm_mi mi).2.2.2.1) (ret := jm_r mi) n6 rfl ?_
  intro p e s mid args below meth c s₁ B hml hv
  obtain ⟨rfl, hsz, hP, hC⟩ := hv
  have hr := B.returns
  have hts := atoms_spec (ws := jm_ws mi) B.pre
  have hown : s.vm.findClass (jm_y mi).cls = some mid.cls := findClass_of_methodNamed B.named
  have hlocks := B.notSynchronized
  subst hsz
  have hF : jm_F p ({ frames := (jm_mi mi).2.2.2.2.1, cells := (M1 999 0 - M 999 0).toNat, slots := (M1 999 1 - M 999 1).toNat, locals := (jm_mi mi).2.2.2.2.2.1 }) s mid (as.map (jm_val ad)).toArray c dC dI cA ad adV ids (va_A (jm_wd cA ad ids M) s.heap.size) mi := by
    refine ⟨B.exec, B.bytes, hml, by rw [← n2]; exact hown, fun w h => hts w (List.mem_cons_of_mem _ h), Nat.le_refl _, Nat.le_refl _, hC, ⟨wk.1, wk.2.1, wk.2.2.1, fun d hd => ?_, wk.2.2.2.2⟩, fun q h => Or.inr h⟩
    obtain ⟨q0, -, hq⟩ := jm_wd_at (cA := cA) (ad := ad) (M := M) hd
    exact Or.inl ⟨q0, _, hq⟩
  have hl := lv_entry (as.map (jm_val ad)) (n := (jm_mi mi).2.2.2.1) (by rw [jm_sl_len]; exact hcat)
  rw [lg_entry_eq]
  generalize (lg_sl (as.map (jm_val ad)) ++ List.replicate ((jm_mi mi).2.2.2.1 - (lg_sl (as.map (jm_val ad))).length) Slot.unset).toArray = JL at hl ⊢
  have hmz : mi ≠ 216 := by omega
  have hG := hS mi _ _ hwp p e ({ frames := (jm_mi mi).2.2.2.2.1, cells := (M1 999 0 - M 999 0).toNat, slots := (M1 999 1 - M 999 1).toNat, locals := (jm_mi mi).2.2.2.2.2.1 }) s mid _ below meth c (va_A (jm_wd cA ad ids M) s.heap.size) (MQ below (fun _ s0 oc t => (oc = .returned (r1.map (jm_val ad)) ∧ va_P (dC, dI) vwCl (jm_wd cA ad ids M1) t.heap ∧ jm_okM M1 ∧ ∀ x, r1 = some (.inl x) → jm_in x) ∧ va_F (va_A (jm_wd cA ad ids M) s.heap.size) s0 t) (as.map (jm_val ad)).toArray s (M1 999 0 - M 999 0).toNat (M1 999 1 - M 999 1).toNat (va_A (jm_wd cA ad ids M) s.heap.size)) (M 999 0) (M 999 1) (fun _ => 0) hF (fun q => absurd q hmz) (fun r M' h => by rw [h.2]; exact ⟨Nat.le_refl _, Nat.le_refl _⟩) (by
      intro r M' k' JL' H locs hq he hoM hsz' hP' hS' hg1 hg2
      obtain ⟨rfl, rfl⟩ := hq
      rcases hr1 with h0 | ⟨x, h0⟩
      · subst h0
        exact W.vret B.exec B.bytes (hr.trans he.2) (fun t ht hW => ⟨⟨rfl, by rw [ht]; exact hP', hoM, fun x h => nomatch h⟩, hS'.F ht⟩) hS'.2.2 he.1
      · subst h0
        obtain ⟨hdd, hin, hty⟩ := he
        rcases hty with hty | ⟨hty, b0, b1⟩
        · exact W.iret B.exec B.bytes (hr.trans hty) (fun t ht hW => ⟨⟨rfl, by rw [ht]; exact hP', hoM, fun y h => by cases h; exact hin⟩, hS'.F ht⟩) hS'.2.2 hdd
        · exact W.zret B.exec B.bytes (hr.trans hty) (jn_narZ b0 b1).1 (fun t ht hW => ⟨⟨rfl, by rw [ht]; exact hP', hoM, fun y h => by cases h; exact hin⟩, hS'.F ht⟩) hS'.2.2 hdd)
  have := hG JL s.heap [] ⟨hl.1, hl.2.1, fun i v hv => ?_⟩ (fun v hv => nomatch hv) hM hP va_S.rf (Int.le_refl _) (Int.le_refl _) (fun q => absurd q hmz)
  · dsimp only at this
    rw [Int.sub_self, Int.sub_self] at this
    have hbp : jm_bp mi 0 = 0 := by
      have : ∀ q, q < 216 → jm_bp q 0 = 0 := by decide +kernel
      exact this mi hmi
    rw [hbp] at this
    exact this
  · obtain ⟨h1, h2⟩ := jm_pad_at (ad := ad) as _ 0 i v hv
    rw [Nat.zero_add] at h1
    exact ⟨hl.2.2 _ h1, has v h2, fun x hx => hnl v h2 x hx⟩
end
section
theorem jm_ctx_to {dC : Nat → ClassId} {dI : Nat → Nat → Nat} {cA : Nat → ClassId} {ad adV : Nat → Nat} {A A1 : Nat → Prop} {s U : State} {H H1 : Heap} (h : jm_ctx dC dI cA ad adV A s H) (hW : s.WarmedH U.vm) (hk : ∀ q : Nat, q < H.size → ¬ A q → H1[q]? = H[q]?) (hn : ∀ q, A1 q → A q) : jm_ctx dC dI cA ad adV A1 U H1 := by
  obtain ⟨h1, h2, h3, h4, h5, h6, h7, h8, h9⟩ := h
  exact ⟨va_K.moved hW.alike h1, ((h2.moved hW.alike).kept hk).narrow hn, fun i hi => (h3 i hi).warm hW, fun i hi => by
    obtain ⟨x, hx⟩ := h4 i hi
    exact ⟨x, hx.warm hW⟩, ((h5.moved hW.alike).kept hk).narrow hn, ((h6.moved hW.alike).kept hk).narrow hn, ((h7.moved hW.alike).kept hk).narrow hn, ((h8.moved hW.alike).kept hk).narrow hn, jx_K_to hW.alike h9⟩
theorem jm_ctx_blind {dC : Nat → ClassId} {dI : Nat → Nat → Nat} {cA : Nat → ClassId} {ad adV : Nat → Nat} {A : Nat → Prop} {U : State} {g : JFrame} {mk : MethodId} {x : Array Value} (h : jm_ctx dC dI cA ad adV A U U.heap) : jm_ctx dC dI cA ad adV A (U.calling g mk x) (U.calling g mk x).heap := by
  obtain ⟨h1, h2, h3, h4, h5, h6, h7, h8, h9⟩ := h
  have al : U.vm.Alike (U.calling g mk x).vm := Vm.Alike.refl U.vm
  exact ⟨va_K.moved al h1, h2.moved al, fun i hi => vk_R.same (u := U) rfl (h3 i hi), fun i hi => by
    obtain ⟨y, hy⟩ := h4 i hi
    exact ⟨y, vk_R.same (u := U) rfl hy⟩, h5.moved al, h6.moved al, h7.moved al, h8.moved al, jx_K_to al h9⟩
section JS6
variable {p : Program} {l : Launch} {e : Env} {R : Room} {s : State} {mid : MethodId} {args : Array Value} {below : List Frame} {meth : Method} {c : Code}
variable {dC : Nat → ClassId} {dI : Nat → Nat → Nat} {cA : Nat → ClassId} {ad adV : Nat → Nat} {ids : List Nat} {A : Nat → Prop} {m : Nat} {FQ : State → Prop} {gc gs : Int} {scr : Int → Int}
variable {wc : Nat → List jm_V → jm_Mem → jm_Q → Prop} {w : jm_Cfg → Prop} {Q : jm_Q} {k : Nat} {ls : jm_Ls} {st : List jm_V} {M : jm_Mem} {a : Nat} {z : Int}
/-- behind a call: what came back, and the world as the callee left it -/
theorem js_after {H H0 : Heap} {locs : List Loc} {cells slots mc ms pc : Nat} {JL : Array Slot} {st0 rest : List Value} {Qa : State → Outcome → State → Prop} {free A0 A1 : Nat → Prop} {r1 : Option Value} {B : Heap → Prop} (hr : va_Run p l e R s mid args below meth c H locs cells slots mc ms (F0 mid pc JL st0) rest Qa free) (hS : va_S A0 H0 H locs) (hA : ∀ q, q < H.size → A1 q → A0 q) (hf : ∀ q, free q → A0 q)
    (hq : ∀ (s0 : State) (v : Option Value) (t : State), s0.heap = H → Qa s0 (.returned v) t → v = r1 ∧ B t.heap ∧ H.size ≤ t.heap.size ∧ ∀ q : Nat, q < H.size → ¬ A1 q → t.heap[q]? = H[q]?)
    (kk : ∀ (H1 : Heap) (locs1 : List Loc), B H1 → va_S A0 H0 H1 locs1 → W p l e R s mid args below meth c H1 locs1 (cells + mc) (slots + ms) FQ (F0 mid (pc + 3) JL (r1.toList ++ rest))) : W p l e R s mid args below meth c H locs cells slots FQ (F0 mid pc JL st0) := by
  intro T hT X
  obtain ⟨v, st₀, t, T', L, h0, X', hL, e1, e2, hq1, st1⟩ := hr T hT X
  obtain ⟨rfl, hB, hz, hk⟩ := hq st₀ v t h0 hq1
  obtain ⟨t2, a1, b1⟩ := kk T'.heap (locs ++ L) (by rw [e1]; exact hB) ⟨Nat.le_trans hS.1 (by rw [e1]; exact hz), fun q h1 h2 => by rw [e1, hk q (Nat.lt_of_lt_of_le h1 hS.1) (fun z => h2 (hA q (Nat.lt_of_lt_of_le h1 hS.1) z))]; exact hS.2.1 q h1 h2, fun q hq => by
      rcases List.mem_append.mp hq with h | h
      · exact hS.2.2 q h
      · exact hf _ (hL q h)⟩ T' rfl X'
  exact ⟨t2, st1 t2 a1, b1⟩
theorem jm_nla_of : ∀ (as : List jm_V), jm_nla as = true → ∀ v ∈ as, ∀ x, v ≠ .inr (.inr x)
  | [], _, v, hv, _ => nomatch hv
  | .inl y :: as, h, v, hv, x => by
    rcases List.mem_cons.mp hv with rfl | hv
    · exact fun q => nomatch q
    · exact jm_nla_of as h v hv x
  | .inr (.inl y) :: as, h, v, hv, x => by
    rcases List.mem_cons.mp hv with rfl | hv
    · exact fun q => nomatch q
    · exact jm_nla_of as h v hv x
  | .inr (.inr y) :: as, h, _, _, _ => nomatch h
theorem jm_n98_of : ∀ (as : List jm_V), jm_n98 as = true → ∀ v ∈ as, v ≠ .inr (.inl 998)
  | [], _, v, hv => nomatch hv
  | .inl y :: as, h, v, hv => by
    rcases List.mem_cons.mp hv with rfl | hv
    · exact fun q => nomatch q
    · exact jm_n98_of as h v hv
  | .inr (.inr y) :: as, h, v, hv => by
    rcases List.mem_cons.mp hv with rfl | hv
    · exact fun q => nomatch q
    · exact jm_n98_of as h v hv
  | .inr (.inl y) :: as, h, v, hv => by
    have h1 : (match Nat.beq y 998 with
      | true => false
      | false => jm_n98 as) = true := h
    cases hy : Nat.beq y 998 with
    | true => rw [hy] at h1; cases h1
    | false =>
      rw [hy] at h1
      rcases List.mem_cons.mp hv with rfl | hv
      · intro q
        cases q
        exact absurd hy (by decide)
      · exact jm_n98_of as h1 v hv
theorem jm_alo_of {mi : Nat} {as : List jm_V} (h : jm_alo mi as = true) : (∀ v ∈ as, v ≠ .inr (.inl 998)) ∧ jm_cat as ≤ (jm_mi mi).2.2.2.1 ∧ (∀ v ∈ as, ∀ x, v = .inr (.inr x) → mi = 140) := by
  unfold jm_alo at h
  split at h
  · rename_i h1 h2
    refine ⟨jm_n98_of as h1, Nat.le_of_ble_eq_true h2, ?_⟩
    split at h
    · rename_i h3
      exact fun _ _ _ _ => Nat.eq_of_beq_eq_true h3
    · exact fun v hv x hx => absurd hx (jm_nla_of as h v hv x)
  · cases h
theorem jm_call_of {mi v : Nat} (h : jm_do wc w Q k ls M (jm_call mi v st M)) : ∃ as rest, jm_tk (jm_mi mi).2.2.1 st [] = some (as, rest) ∧ (jm_mi mi).2.1 = v ∧ jm_ft rest 8 = true ∧ jm_alo mi as = true ∧ (v ≠ 0 → ∃ c0 as', as = .inr (.inl c0) :: as' ∧ Nat.beq (jm_sh c0).1 (10 + (jm_mi mi).1) = true) ∧ wc mi as M (jm_k (fun st' M' => w (k + 1, ls, st', M')) rest (jm_mi mi).2.2.2.2.2.2) := by
  unfold jm_call at h
  split at h
  · rename_i as rest hv ht
    have hv := Nat.eq_of_beq_eq_true hv
    split at h
    · rename_i h1 h2
      split at h
      · exact ⟨as, rest, ht, hv, h1, h2, fun q => absurd rfl q, h⟩
      · unfold jm_callv at h
        split at h
        · rename_i c0 as'
          split at h
          · rename_i h3
            exact ⟨_, rest, ht, hv, h1, h2, fun _ => ⟨c0, as', rfl, h3⟩, h⟩
          · exact (jm_rs_do h).elim
        · exact (jm_rs_do h).elim
    · exact (jm_rs_do h).elim
  · exact (jm_rs_do h).elim
/-- what a call of a method of the machine gives -/
theorem js_callM {n : Nat} (hSn : jm_S l dC dI cA ad adV ids n) (hF : jm_F p R s mid args c dC dI cA ad adV ids A m) {mi : Nat} (hmi : mi < 216) {as rest : List jm_V} (halo : jm_alo mi as = true) (has : ∀ v ∈ as, jm_okv ids m v) (hM : jm_okM M) {i : Instr} (hrc : jm_rc m k = some (i, mi, z)) (hp : jm_bp m (k + 1) = jm_bp m k + 3)
    (h : jm_wp n mi (0, jm_pad as (jm_mi mi).2.2.2.1, [], M) (jm_k (fun st' M' => jm_wp n m (k + 1, ls, st', M') Q) rest (jm_mi mi).2.2.2.2.2.2))
    (hw : ∀ c', jm_wp n m c' Q → jm_G p l e R s mid args below meth c dC dI cA ad ids A m FQ gc gs scr c') (hcap : ∀ r M', Q r M' → (M' 999 0 - gc).toNat ≤ R.cells ∧ (M' 999 1 - gs).toNat ≤ R.slots) {JL : Array Slot} {H : Heap} {locs : List Loc} (h1 : jm_lr ad ids m ls JL) (hrest : ∀ v ∈ rest, jm_okv ids m v) (h4 : va_P (dC, dI) vwCl (jm_wd cA ad ids M) H) (h5 : va_S A s.heap H locs) (h6 : gc ≤ M 999 0) (h7 : gs ≤ M 999 1) (h8 : m = 216 → M 998 = scr)
    (go : ∀ (M1 : jm_Mem) (r1 : Option jm_V), (M 999 0 - gc).toNat + (M1 999 0 - M 999 0).toNat ≤ R.cells ∧ (M 999 1 - gs).toNat + (M1 999 1 - M 999 1).toNat ≤ R.slots → Met l (jm_y mi) (jm_ws mi) ({ frames := (jm_mi mi).2.2.2.2.1, cells := (M1 999 0 - M 999 0).toNat, slots := (M1 999 1 - M 999 1).toNat, locals := (jm_mi mi).2.2.2.2.2.1 }) (va_Pc (as.map (jm_val ad)) (fun U => U.heap.size = H.size ∧ va_P (dC, dI) vwCl (jm_wd cA ad ids M) U.heap ∧ jm_ctx dC dI cA ad adV (va_A (jm_wd cA ad ids M) H.size) U U.heap)) (fun _ s0 oc t => (oc = .returned (r1.map (jm_val ad)) ∧ va_P (dC, dI) vwCl (jm_wd cA ad ids M1) t.heap ∧ jm_okM M1 ∧ ∀ x, r1 = some (.inl x) → jm_in x) ∧ va_F (va_A (jm_wd cA ad ids M) H.size) s0 t) (M1 999 0 - M 999 0).toNat (M1 999 1 - M 999 1).toNat (va_A (jm_wd cA ad ids M) H.size) →
      va_Run p l e R s mid args below meth c H locs (M 999 0 - gc).toNat (M 999 1 - gs).toNat (M1 999 0 - M 999 0).toNat (M1 999 1 - M 999 1).toNat (F0 mid (jm_bp m k) JL ((as.map (jm_val ad)).reverse ++ rest.map (jm_val ad))) (rest.map (jm_val ad)) (fun s0 oc t => (oc = .returned (r1.map (jm_val ad)) ∧ va_P (dC, dI) vwCl (jm_wd cA ad ids M1) t.heap ∧ jm_okM M1 ∧ ∀ x, r1 = some (.inl x) → jm_in x) ∧ va_F (va_A (jm_wd cA ad ids M) H.size) s0 t) (va_A (jm_wd cA ad ids M) H.size)) :
    W p l e R s mid args below meth c H locs (M 999 0 - gc).toNat (M 999 1 - gs).toNat FQ (F0 mid (jm_bp m k) JL ((as.map (jm_val ad)).reverse ++ rest.map (jm_val ad))) := by
  obtain ⟨a1, a2, a3⟩ := jm_alo_of halo
  obtain ⟨r1, M1, hk, hdet⟩ := jm_wp_det _ _ _ _ h
  have hwp : jm_wp n mi (0, jm_pad as (jm_mi mi).2.2.2.1, [], M) (fun r M' => r = r1 ∧ M' = M1) := hdet n (Nat.le_refl _) _ ⟨rfl, rfl⟩
  obtain ⟨r2, M2, ⟨e1, e2⟩, hle⟩ := jm_wp_le _ _ _ _ hwp
  subst e1; subst e2
  have hle : jm_le M M2 := hle
  have has' : ∀ v ∈ as, jm_okv ids mi v := by
    intro v hv
    have := has v hv
    have h98 := a1 v hv
    match v, this, h98 with
    | .inl x, q, _ => exact q
    | .inr (.inr x), q, _ => exact q
    | .inr (.inl x), q, h98 =>
      rcases q with q | q | q
      · exact Or.inl q
      · exact Or.inr (Or.inl q)
      · exact absurd (by rw [q.1]) h98
  have hkd := (jm_kd_ok mi (by omega)).1
  -- what came back, and the run behind it
  have hback : ∃ st', (r2 = none ∧ st' = rest ∨ ∃ x, r2 = some (.inl x) ∧ st' = .inl x :: rest) ∧ jm_wp n m (k + 1, ls, st', M2) Q := by
    generalize (jm_mi mi).2.2.2.2.2.2 = kd at hk hkd
    match kd, hkd, hk with
    | 0, _, hk => exact ⟨rest, Or.inl ⟨hk.1, rfl⟩, hk.2⟩
    | 1, _, hk =>
      obtain ⟨x, q1, q2⟩ := hk
      exact ⟨_, Or.inr ⟨x, q1, rfl⟩, q2⟩
    | kd + 2, q, _ => exact absurd q (by omega)
  obtain ⟨st', hst', hnext⟩ := hback
  obtain ⟨rf, Mf, hQf, hlef⟩ := jm_wp_le _ _ _ _ hnext
  have hlef : jm_le M2 Mf := hlef
  obtain ⟨c1, c2⟩ := hcap rf Mf hQf
  have hbud : (M 999 0 - gc).toNat + (M2 999 0 - M 999 0).toNat = (M2 999 0 - gc).toNat ∧ (M 999 1 - gs).toNat + (M2 999 1 - M 999 1).toNat = (M2 999 1 - gs).toNat := by
    have q1 := hle.1
    have q2 := hle.2.1
    omega
  have hlim : (M 999 0 - gc).toNat + (M2 999 0 - M 999 0).toNat ≤ R.cells ∧ (M 999 1 - gs).toNat + (M2 999 1 - M 999 1).toNat ≤ R.slots := by
    have q1 := hlef.1
    have q2 := hlef.2.1
    have q3 := hle.1
    have q4 := hle.2.1
    omega
  have hmet := js_met hSn H.size hmi hwp (hst'.elim (fun q => Or.inl q.1) (fun q => by obtain ⟨x, q1, -⟩ := q; exact Or.inr ⟨x, q1⟩)) has' a3 a2 hM hF.2.2.2.2.2.2.2.2.1
  have hfree : ∀ q, va_A (jm_wd cA ad ids M) H.size q → A q := by
    intro q hq
    rcases hq with ⟨j, E, hj⟩ | hq
    · exact (jm_wd_D (cA := cA) M hF.2.2.2.2.2.2.2.2.1).2 j (q, E) hj
    · exact hF.2.2.2.2.2.2.2.2.2 q (Nat.le_trans h5.1 hq)
  refine js_after (go M2 r2 hlim hmet) h5 (fun q _ hq => hfree q hq) hfree (r1 := r2.map (jm_val ad)) (B := fun H1 => va_P (dC, dI) vwCl (jm_wd cA ad ids M2) H1 ∧ jm_okM M2 ∧ ∀ x, r2 = some (.inl x) → jm_in x) (fun s0 v t hs0 hq => ?_) (fun H1 locs1 hB hS1 => ?_)
  · obtain ⟨⟨q1, q2, q3, q4⟩, q5, q6⟩ := hq
    rw [hs0] at q5 q6
    cases q1
    exact ⟨rfl, ⟨q2, q3, q4⟩, q5, q6⟩
  · obtain ⟨b1, b2, b3⟩ := hB
    have hG := hw _ hnext JL H1 locs1 h1 ?_ b2 b1 hS1 (by dsimp only; have := hle.1; omega) (by dsimp only; have := hle.2.1; omega) (fun q => by dsimp only; rw [hle.2.2]; exact h8 q)
    · dsimp only at hG
      rw [hbud.1, hbud.2, ← hp]
      rcases hst' with ⟨q1, q2⟩ | ⟨x, q1, q2⟩
      · subst q1; subst q2
        exact hG
      · subst q1; subst q2
        exact hG
    · dsimp only
      rcases hst' with ⟨q1, q2⟩ | ⟨x, q1, q2⟩
      · subst q2; exact hrest
      · subst q2; exact jk_cons (b3 x q1) hrest
theorem jm_PcOk {H : Heap} {locs : List Loc} (hF : jm_F p R s mid args c dC dI cA ad adV ids A m) (h4 : va_P (dC, dI) vwCl (jm_wd cA ad ids M) H) (h5 : va_S A s.heap H locs) : ∀ U : State, U.heap = H → s.WarmedH U.vm → (U.heap.size = H.size ∧ va_P (dC, dI) vwCl (jm_wd cA ad ids M) U.heap ∧ jm_ctx dC dI cA ad adV (va_A (jm_wd cA ad ids M) H.size) U U.heap) := by
  intro U hU hW
  refine ⟨by rw [hU], by rw [hU]; exact h4, ?_⟩
  rw [hU]
  refine jm_ctx_to hF.2.2.2.2.2.2.2.1 hW h5.2.1 (fun q hq => ?_)
  rcases hq with ⟨j, E, hj⟩ | hq
  · exact (jm_wd_D (cA := cA) M hF.2.2.2.2.2.2.2.2.1).2 j (q, E) hj
  · exact hF.2.2.2.2.2.2.2.2.2 q (Nat.le_trans h5.1 hq)
theorem jm_ck_call {i : Instr} {x idx : Nat} (hF : jm_F p R s mid args c dC dI cA ad adV ids A m) (h2 : (jm_mlT.any (fun q => Nat.beq q.1 (jm_mi m).1 && (Nat.beq q.2.1 idx && Nat.beq q.2.2.1 x)) && (Nat.ble ((jm_mi x).2.2.2.2.1 + 1) (jm_mi m).2.2.2.2.1 && Nat.ble (8 + ((jm_mi x).2.2.2.1 + 11) + (jm_mi x).2.2.2.2.2.1) (jm_mi m).2.2.2.2.2.1)) = true) : Cond.methodLink (jm_cn (jm_mi m).1) idx (jm_y x) ∈ jm_g ∧ (jm_mi x).2.2.2.2.1 + 1 ≤ R.frames ∧ 8 + ((jm_mi x).2.2.2.1 + 11) + (jm_mi x).2.2.2.2.2.1 ≤ R.locals := by
  rw [Bool.and_eq_true, Bool.and_eq_true] at h2
  obtain ⟨q, hq, e1, e2, e3⟩ := jm_any3 h2.1
  have g := jm_ml_ok q hq
  rw [e1, e2, e3] at g
  have b1 := Nat.le_of_ble_eq_true h2.2.1
  have b2 := Nat.le_of_ble_eq_true h2.2.2
  have f1 := hF.2.2.2.2.2.1
  have f2 := hF.2.2.2.2.2.2.1
  exact ⟨jm_in_g _ g rfl, by omega, by omega⟩
theorem js_vcall {n idx : Nat} (hSn : jm_S l dC dI cA ad adV ids n) (hF : jm_F p R s mid args c dC dI cA ad adV ids A m) (hmi : a < 216) (hrc : jm_rc m k = some (.invokevirtual idx, a, z)) (h : jm_do (fun mi as M Q => jm_wp n mi (0, jm_pad as (jm_mi mi).2.2.2.1, [], M) Q) (fun c' => jm_wp n m c' Q) Q k ls M (jm_call a 1 st M)) (hw : ∀ c', jm_wp n m c' Q → jm_G p l e R s mid args below meth c dC dI cA ad ids A m FQ gc gs scr c') (hcap : ∀ r M', Q r M' → (M' 999 0 - gc).toNat ≤ R.cells ∧ (M' 999 1 - gs).toNat ≤ R.slots) : jm_G p l e R s mid args below meth c dC dI cA ad ids A m FQ gc gs scr (k, ls, st, M) := by
  obtain ⟨hd, hp, h2⟩ := jm_nx hrc (by simp) rfl
  have h2 : jm_ck2 m (.invokevirtual idx, a, z) = true := h2
  unfold jm_ck2 at h2
  dsimp only at h2
  rw [show Nat.blt a 216 = true from Nat.ble_eq_true_of_le hmi] at h2
  dsimp only at h2
  obtain ⟨hlink, hfr, hlo⟩ := jm_ck_call (i := .nop) hF h2
  obtain ⟨as, rest, htk, hv, hft, halo, hobj, hcall⟩ := jm_call_of h
  obtain ⟨c0, as', rfl, hsh⟩ := hobj (by decide)
  obtain ⟨b, e1, e2, e3⟩ := jm_tk_of _ _ _ _ _ htk
  rw [List.append_nil] at e1
  subst e1
  subst e2
  obtain ⟨n1, n2, n3, n4, n5, n6⟩ := jm_mn_ok a hmi
  obtain ⟨v1, v2⟩ := jm_mv_ok a hmi hv
  intro JL H locs g1 g2 g3 g4 g5 g6 g7 g8
  have hall : ∀ v ∈ (.inr (.inl c0) :: as' : List jm_V), jm_okv ids m v := fun v hv => g2 v (List.mem_append_left _ (List.mem_reverse.mpr hv))
  have hrest : ∀ v ∈ rest, jm_okv ids m v := fun v hv => g2 v (List.mem_append_right _ hv)
  dsimp only
  rw [List.map_append, List.map_reverse]
  refine js_callM hSn hF hmi halo hall g3 hrc hp hcall hw hcap g1 hrest g4 g5 g6 g7 g8 (fun M1 r1 hlim hmet => ?_)
  have hcl : c0 < 95 := by
    rcases Nat.lt_or_ge c0 95 with q | q
    · exact q
    · rw [jm_sh_out c0 q] at hsh
      exfalso
      have e9 := Nat.eq_of_beq_eq_true hsh
      have : ∀ q, q < 216 → (jm_mi q).1 ≠ 89 := by decide +kernel
      exact this a hmi (by omega)
  obtain ⟨o1, o2, o3, o4⟩ := jm_sh_obj hsh hcl
  obtain ⟨q0, -, hq⟩ := jm_wd_at (cA := cA) (ad := ad) (M := M) (jk_ids (jk_hd hall) hcl)
  rw [o4] at hq
  have hgood : GoodIn jm_g (wsV (jm_cn (jm_mi m).1) idx (jm_y a).cls (jm_y a) (jm_ws a)) := by
    intro w hw
    unfold wsV at hw
    have hin : w ∈ jm_g := by
      rcases List.mem_append.mp hw with hw | hw
      · simp only [List.mem_cons, List.not_mem_nil, or_false] at hw
        rcases hw with rfl | rfl | rfl | rfl
        · exact hlink
        · exact jm_in_g _ v1 rfl
        · exact jm_in_g _ v2 rfl
        · exact jm_in_g _ n1 rfl
      · rcases List.mem_cons.mp hw with rfl | hw
        · exact jm_mc_ok hmi
        · exact hw
    exact jm_g_good w hin
  have hlen : (parseMethodDescriptor (jm_y a).desc).map (fun d => d.parameters.length) = some as'.length := by
    cases hd2 : parseMethodDescriptor (jm_y a).desc with
    | none => rw [hd2] at n5; cases n5
    | some d =>
      rw [hd2] at n5
      have n5 : d.parameters.length + (jm_mi a).2.1 = (jm_mi a).2.2.1 := Option.some.inj n5
      rw [hv, ← e3] at n5
      show some d.parameters.length = some as'.length
      congr 1
      simp only [List.length_cons] at n5
      omega
  have hrecv : ∃ cellB : Cell, H[ad c0]? = some cellB ∧ cellB.vm.isStatics = false ∧ s.vm.findClass (jm_y a).cls = some cellB.cls := by
    have := va_recv hF.2.2.2.2.2.2.2.1.1 g4 (jm_cl_ok _ o1) hq
    rw [n2]
    exact this
  exact va_runV (As := as'.map (jm_val ad)) (rest := rest.map (jm_val ad)) (b := ad c0) ⟨hF.1, hF.2.1, hF.2.2.1, hF.2.2.2.1, hF.2.2.2.2.1⟩ hmet (cwV (ret := jm_r a) (bytes := jm_b a) (maxL := (jm_mi a).2.2.2.1) (R := R) (C := (jm_y a).cls) as'.length hF.2.2.2.2.1 hgood rfl rfl rfl ⟨rfl, n3, n4, hlen⟩ ⟨hfr, hlo⟩) ⟨fun a9 U g9 mk q => ⟨q.1, q.2.1, q.2.2.1, jm_ctx_blind q.2.2.2⟩, hrecv, fun U hU hW => ⟨rfl, jm_PcOk hF g4 g5 U hU hW⟩⟩ (g := F0 mid (jm_bp m k) JL (((.inr (.inl c0) :: as' : List jm_V).map (jm_val ad)).reverse ++ rest.map (jm_val ad))) rfl (by rw [List.length_map]) g1.1 (by simp [jm_val]) (lv_room (jm_ft_sum rest 8 hft)) hd hlim
theorem js_scall {n idx : Nat} (hSn : jm_S l dC dI cA ad adV ids n) (hF : jm_F p R s mid args c dC dI cA ad adV ids A m) (hmi : a < 216) (hrc : jm_rc m k = some (.invokestatic idx, a, z)) (h : jm_do (fun mi as M Q => jm_wp n mi (0, jm_pad as (jm_mi mi).2.2.2.1, [], M) Q) (fun c' => jm_wp n m c' Q) Q k ls M (jm_call a 0 st M)) (hw : ∀ c', jm_wp n m c' Q → jm_G p l e R s mid args below meth c dC dI cA ad ids A m FQ gc gs scr c') (hcap : ∀ r M', Q r M' → (M' 999 0 - gc).toNat ≤ R.cells ∧ (M' 999 1 - gs).toNat ≤ R.slots) : jm_G p l e R s mid args below meth c dC dI cA ad ids A m FQ gc gs scr (k, ls, st, M) := by
  obtain ⟨hd, hp, h2⟩ := jm_nx hrc (by simp) rfl
  have h2 : jm_ck2 m (.invokestatic idx, a, z) = true := h2
  unfold jm_ck2 at h2
  dsimp only at h2
  rw [show Nat.blt a 216 = true from Nat.ble_eq_true_of_le hmi] at h2
  dsimp only at h2
  obtain ⟨hlink, hfr, hlo⟩ := jm_ck_call (i := .nop) hF h2
  obtain ⟨as, rest, htk, hv, hft, halo, -, hcall⟩ := jm_call_of h
  obtain ⟨b, e1, e2, e3⟩ := jm_tk_of _ _ _ _ _ htk
  rw [List.append_nil] at e1
  subst e1
  subst e2
  obtain ⟨n1, n2, n3, n4, n5, n6⟩ := jm_mn_ok a hmi
  have v1 := jm_ms_ok a hmi hv
  intro JL H locs g1 g2 g3 g4 g5 g6 g7 g8
  have hall : ∀ v ∈ as, jm_okv ids m v := fun v hv => g2 v (List.mem_append_left _ (List.mem_reverse.mpr hv))
  have hrest : ∀ v ∈ rest, jm_okv ids m v := fun v hv => g2 v (List.mem_append_right _ hv)
  dsimp only
  rw [List.map_append, List.map_reverse]
  refine js_callM hSn hF hmi halo hall g3 hrc hp hcall hw hcap g1 hrest g4 g5 g6 g7 g8 (fun M1 r1 hlim hmet => ?_)
  have hgood : GoodIn jm_g (va_wsS (jm_cn (jm_mi m).1) idx (jm_y a) (jm_ws a)) := by
    intro w hw
    unfold va_wsS at hw
    have hin : w ∈ jm_g := by
      rcases List.mem_append.mp hw with hw | hw
      · simp only [List.mem_cons, List.not_mem_nil, or_false] at hw
        rcases hw with rfl | rfl | rfl
        · exact hlink
        · exact jm_in_g _ v1 rfl
        · exact jm_in_g _ n1 rfl
      · rcases List.mem_cons.mp hw with rfl | hw
        · exact jm_mc_ok hmi
        · exact hw
    exact jm_g_good w hin
  have hlen : (parseMethodDescriptor (jm_y a).desc).map (fun d => d.parameters.length) = some as.length := by
    cases hd2 : parseMethodDescriptor (jm_y a).desc with
    | none => rw [hd2] at n5; cases n5
    | some d =>
      rw [hd2] at n5
      have n5 : d.parameters.length + (jm_mi a).2.1 = (jm_mi a).2.2.1 := Option.some.inj n5
      rw [hv, ← e3] at n5
      show some d.parameters.length = some as.length
      congr 1
  exact va_runS (As := as.map (jm_val ad)) (rest := rest.map (jm_val ad)) ⟨hF.1, hF.2.1, hF.2.2.1, hF.2.2.2.1, hF.2.2.2.2.1⟩ hmet (va_cwS (ret := jm_r a) (bytes := jm_b a) (maxL := (jm_mi a).2.2.2.1) (R := R) as.length hF.2.2.2.2.1 hgood rfl rfl rfl ⟨n3, n4, hlen⟩ ⟨hfr, hlo⟩) ⟨fun a9 U g9 mk q => ⟨q.1, q.2.1, q.2.2.1, jm_ctx_blind q.2.2.2⟩, fun U hU hW => ⟨rfl, jm_PcOk hF g4 g5 U hU hW⟩⟩ (g := F0 mid (jm_bp m k) JL ((as.map (jm_val ad)).reverse ++ rest.map (jm_val ad))) rfl (by rw [List.length_map]) g1.1 rfl (lv_room (jm_ft_sum rest 8 hft)) hd hlim
end JS6
end
section
theorem jm_wp_lt {n mi : Nat} {as : List jm_V} {M : jm_Mem} {Q : jm_Q} (h : jm_wp n mi (0, jm_pad as (jm_mi mi).2.2.2.1, [], M) Q) : mi < 216 := by
  cases n with
  | zero => exact h.elim
  | succ n =>
    obtain ⟨e, he⟩ := jm_wp_rc h
    rcases Nat.lt_or_ge mi 216 with q | q
    · exact q
    · exfalso
      have he : jm_rc mi 0 = some e := he
      rcases Nat.lt_or_ge mi 217 with q2 | q2
      · have : mi = 216 := by omega
        subst this
        rw [jm_wp_succ (show jm_rc 216 0 = some (.nop, 0, 0) from rfl)] at h
        exact h.1
      · have hn : ∀ {α : Type} (l : List α) (n : Nat), l.length ≤ n → jm_nth l n = none := by
          intro α l
          induction l with
          | nil => intro n _; rfl
          | cons a l ih =>
            intro n hn
            cases n with
            | zero => exact absurd hn (by simp)
            | succ n => exact ih n (by simpa using hn)
        unfold jm_rc at he
        rw [hn jm_cdT mi (by exact q2)] at he
        cases he
theorem jm_okM_sr {M : jm_Mem} {c : Nat} {f : Int → Int} (h : jm_okM M) (hf : ∀ i, jm_in (f i)) : jm_okM (jm_sr M c f) := by
  intro d j hd
  unfold jm_sr
  split
  · exact hf j
  · exact h d j hd
theorem jm_cpy_eq {f g : Int → Int} {sp dp n : Int} (h0 : 0 ≤ sp) (h1 : 0 ≤ dp) (h2 : 0 ≤ n) : (fun j : Nat => Int32.ofInt (jm_cpy f g sp dp n (j : Int))) = va_cpy (fun j : Nat => Int32.ofInt (f (j : Int))) (fun j : Nat => Int32.ofInt (g (j : Int))) sp.toNat dp.toNat n.toNat := by
  funext j
  unfold jm_cpy va_cpy
  by_cases hj : dp ≤ (j : Int) ∧ (j : Int) < dp + n
  · rw [if_pos hj, if_pos (by omega)]
    congr 2
    omega
  · rw [if_neg hj, if_neg (by omega)]
theorem jm_cat_le {ad : Nat → Nat} (r : List jm_V) (h : jm_ft r 8 = true) : ((r.map (jm_val ad)).map fun v => v.category).sum ≤ 8 := jm_ft_sum r 8 h
section JS7
variable {p : Program} {l : Launch} {e : Env} {R : Room} {s : State} {mid : MethodId} {args : Array Value} {below : List Frame} {meth : Method} {c : Code}
variable {dC : Nat → ClassId} {dI : Nat → Nat → Nat} {cA : Nat → ClassId} {ad adV : Nat → Nat} {ids : List Nat} {A : Nat → Prop} {m : Nat} {FQ : State → Prop} {gc gs : Int} {scr : Int → Int}
variable {wc : Nat → List jm_V → jm_Mem → jm_Q → Prop} {w : jm_Cfg → Prop} {Q : jm_Q} {k : Nat} {ls : jm_Ls} {st : List jm_V} {M : jm_Mem} {a : Nat} {z : Int}
/-- a static call of what is no method of the machine: its link and its room -/
theorem jm_ck_bs {idx x : Nat} (hF : jm_F p R s mid args c dC dI cA ad adV ids A m) (hrc : jm_rc m k = some (.invokestatic idx, x, z)) (hx : 216 ≤ x) : decode (jm_b m) (jm_bp m k) = .ok (.invokestatic idx, 3) ∧ jm_bp m (k + 1) = jm_bp m k + 3 ∧ Cond.methodLink (jm_cn (jm_mi m).1) idx (jm_by x) ∈ jm_g ∧ 1 ≤ R.frames ∧ 48 ≤ R.locals := by
  obtain ⟨hd, hp, h2⟩ := jm_nx hrc (by simp) rfl
  have h2 : jm_ck2 m (.invokestatic idx, x, z) = true := h2
  unfold jm_ck2 at h2
  dsimp only at h2
  have hb : Nat.blt x 216 = false := by
    cases hq : Nat.blt x 216 with
    | false => rfl
    | true => exact absurd (show x < 216 from Nat.le_of_ble_eq_true hq) (by omega)
  rw [hb] at h2
  dsimp only at h2
  rw [Bool.and_eq_true, Bool.and_eq_true] at h2
  obtain ⟨q, hq, e1, e2, e3⟩ := jm_any3 h2.1
  have g := jm_mb_ok q hq
  rw [e1, e2, e3] at g
  have b1 := Nat.le_of_ble_eq_true h2.2.1
  have b2 := Nat.le_of_ble_eq_true h2.2.2
  have f1 := hF.2.2.2.2.2.1
  have f2 := hF.2.2.2.2.2.2.1
  exact ⟨hd, hp, jm_in_g _ g rfl, by omega, by omega⟩
theorem js_copy {idx : Nat} {n dp sp : Int} {d0 s0 : Nat} {r : List jm_V} {ns nd : Nat} {f1 f2 : List Nat} (hF : jm_F p R s mid args c dC dI cA ad adV ids A m) (hrc : jm_rc m k = some (.invokestatic idx, 900, z)) (hs : jm_sh s0 = (0, ns, f1)) (hdd : jm_sh d0 = (0, nd, f2)) (hft : jm_ft r 8 = true) (hne : Nat.beq s0 d0 = false) (b1 : 0 ≤ sp) (b2 : 0 ≤ dp) (b3 : 0 ≤ n) (b4 : sp + n ≤ (ns : Int)) (b5 : dp + n ≤ (nd : Int)) (hG : jm_G p l e R s mid args below meth c dC dI cA ad ids A m FQ gc gs scr (k + 1, ls, r, jm_sr M d0 (jm_cpy (M s0) (M d0) sp dp n))) : jm_G p l e R s mid args below meth c dC dI cA ad ids A m FQ gc gs scr (k, ls, .inl n :: .inl dp :: .inr (.inl d0) :: .inl sp :: .inr (.inl s0) :: r, M) := by
  obtain ⟨hd, hp, hlink, hfr, hlo⟩ := jm_ck_bs hF hrc (by decide)
  have hc1 := jm_sh_lt hs (by decide)
  have hc2 := jm_sh_lt hdd (by decide)
  intro JL H locs g1 g2 g3 g4 g5 g6 g7 g8
  have k1 := jk_hd g2
  have k2 := jk_hd (jk_tl g2)
  have k3 := jk_hd (jk_tl (jk_tl (jk_tl g2)))
  obtain ⟨q1, hq1, hw1⟩ := jm_wd_at (cA := cA) (ad := ad) (M := M) (jk_ids (jk_hd (jk_tl (jk_tl g2))) hc2)
  obtain ⟨q0, hq0, hw0⟩ := jm_wd_at (cA := cA) (ad := ad) (M := M) (jk_ids (jk_hd (jk_tl (jk_tl (jk_tl (jk_tl g2))))) hc1)
  rw [jm_ce_0 hdd] at hw1
  rw [jm_ce_0 hs] at hw0
  have nn : ∀ {x : Int}, jm_in x → 0 ≤ x → ¬ Int32.ofInt x < 0 := fun hx h0 q => absurd ((jn_lt hx jn_in0).mp q) (by omega)
  have hsum := jm_cat_le (ad := ad) r hft
  refine va_copyi hF.1 hF.2.1 (hF.2.2.1.trans g1.1.symm) hF.2.2.2.1 (hF.2.2.2.2.1 _ hlink) (hF.2.2.2.2.1 _ (jm_in_g _ jm_t_copy.1 rfl)) (hF.2.2.2.2.1 _ (jm_in_g _ jm_t_copy.2.1 rfl)) (hF.2.2.2.2.1 _ (jm_in_g _ jm_t_copy.2.2 rfl)) hF.2.2.2.2.2.2.2.1.1 g4 (jm_wd_D M hF.2.2.2.2.2.2.2.2.1) g5 q0 q1 0 0 hw0 hw1 (ty := .int) rfl rfl rfl (nn k3 b1) (nn k2 b2) (nn k1 b3) (by rw [jn_clamp k3, jn_clamp k1]; omega) (by rw [jn_clamp k2, jn_clamp k1]; omega) (fun i _ => rfl) hfr (by show _ + (7 + 11) ≤ _; omega) hd (fun H1 locs1 gP gD gS => ?_)
  rw [show jm_bp m k + 3 = jm_bp m (k + 1) from hp.symm]
  rw [jn_clamp k1, jn_clamp k2, jn_clamp k3, ← jm_cpy_eq b1 b2 b3] at gP
  have hother : ∀ d, d ≠ d0 → jm_sr M d0 (jm_cpy (M s0) (M d0) sp dp n) d = M d := fun d hd => by unfold jm_sr; rw [if_neg hd]
  have hself : jm_sr M d0 (jm_cpy (M s0) (M d0) sp dp n) d0 = jm_cpy (M s0) (M d0) sp dp n := by unfold jm_sr; rw [if_pos rfl]
  have hce : jm_ce cA ad (jm_sr M d0 (jm_cpy (M s0) (M d0) sp dp n)) d0 = .inl (cA 0, nd, .inl (fun j : Nat => Int32.ofInt (jm_cpy (M s0) (M d0) sp dp n (j : Int)))) := by rw [jm_ce_0 hdd, hself]
  rw [← hce, jm_wd_set hF.2.2.2.2.2.2.2.2.1.1 hq1 hother] at gP
  have e9 := hother 999 (by omega)
  have e8 := hother 998 (by omega)
  have := hG JL H1 locs1 g1 (jk_tl (jk_tl (jk_tl (jk_tl (jk_tl g2))))) (jm_okM_sr g3 (fun i => by
    unfold jm_cpy
    split
    · exact g3 _ _ (by omega)
    · exact g3 _ _ (by omega))) gP gS (by dsimp only; rw [e9]; exact g6) (by dsimp only; rw [e9]; exact g7) (fun q => by dsimp only; rw [e8]; exact g8 q)
  dsimp only at this
  rw [e9] at this
  exact this
theorem js_max {idx : Nat} {x y : Int} {r : List jm_V} (hF : jm_F p R s mid args c dC dI cA ad adV ids A m) (hcell : ∀ c', jm_G p l e R s mid args below meth c dC dI cA ad ids A m FQ gc gs scr c' → True) (hrc : jm_rc m k = some (.invokestatic idx, 904, z)) (hft : jm_ft r 8 = true) (hcc : (M 999 0 - gc).toNat ≤ R.cells ∧ (M 999 1 - gs).toNat ≤ R.slots) (hG : jm_G p l e R s mid args below meth c dC dI cA ad ids A m FQ gc gs scr (k + 1, ls, .inl (if x < y then y else x) :: r, M)) : jm_G p l e R s mid args below meth c dC dI cA ad ids A m FQ gc gs scr (k, ls, .inl y :: .inl x :: r, M) := by
  obtain ⟨hd, hp, hlink, hfr, hlo⟩ := jm_ck_bs hF hrc (by decide)
  intro JL H locs g1 g2 g3 g4 g5 g6 g7 g8
  have k1 := jk_hd g2
  have k2 := jk_hd (jk_tl g2)
  have hsum := jm_cat_le (ad := ad) r hft
  have hlink' : Cond.methodLink (jm_cn (jm_mi m).1) idx Lib.Math.max.name ∈ jm_g := by
    rw [← jm_t_max.2.2.2]; exact hlink
  refine va_mmax hF.1 hF.2.1 (hF.2.2.1.trans g1.1.symm) hF.2.2.2.1 (hF.2.2.2.2.1 _ hlink') (hF.2.2.2.2.1 _ (jm_in_g _ jm_t_max.1 rfl)) (hF.2.2.2.2.1 _ (jm_in_g _ jm_t_max.2.2.1 rfl)) (hF.2.2.2.2.1 _ (jm_in_g _ jm_t_max.2.1 rfl)) hfr (by omega) hcc.1 hcc.2 hd ?_
  have e1 : (if Int32.ofInt x < Int32.ofInt y then Int32.ofInt y else Int32.ofInt x) = Int32.ofInt (if x < y then y else x) := by
    by_cases h : x < y
    · rw [if_pos ((jn_lt k2 k1).mpr h), if_pos h]
    · rw [if_neg (fun q => h ((jn_lt k2 k1).mp q)), if_neg h]
  rw [e1]
  have := hG JL H locs g1 (jk_cons (v := .inl (if x < y then y else x)) (by show jm_in _; split <;> assumption) (jk_tl (jk_tl g2))) g3 g4 g5 g6 g7 g8
  dsimp only at this
  rw [hp] at this
  exact this
theorem js_min {idx : Nat} {x y : Int} {r : List jm_V} (hF : jm_F p R s mid args c dC dI cA ad adV ids A m) (hrc : jm_rc m k = some (.invokestatic idx, 905, z)) (hft : jm_ft r 8 = true) (hcc : (M 999 0 - gc).toNat ≤ R.cells ∧ (M 999 1 - gs).toNat ≤ R.slots) (hG : jm_G p l e R s mid args below meth c dC dI cA ad ids A m FQ gc gs scr (k + 1, ls, .inl (if y < x then y else x) :: r, M)) : jm_G p l e R s mid args below meth c dC dI cA ad ids A m FQ gc gs scr (k, ls, .inl y :: .inl x :: r, M) := by
  obtain ⟨hd, hp, hlink, hfr, hlo⟩ := jm_ck_bs hF hrc (by decide)
  intro JL H locs g1 g2 g3 g4 g5 g6 g7 g8
  have k1 := jk_hd g2
  have k2 := jk_hd (jk_tl g2)
  have hsum := jm_cat_le (ad := ad) r hft
  have hlink' : Cond.methodLink (jm_cn (jm_mi m).1) idx Lib.Math.min.name ∈ jm_g := by
    rw [← jm_t_min.2.2]; exact hlink
  refine va_mmin hF.1 hF.2.1 (hF.2.2.1.trans g1.1.symm) hF.2.2.2.1 (hF.2.2.2.2.1 _ hlink') (hF.2.2.2.2.1 _ (jm_in_g _ jm_t_min.1 rfl)) (hF.2.2.2.2.1 _ (jm_in_g _ jm_t_max.2.2.1 rfl)) (hF.2.2.2.2.1 _ (jm_in_g _ jm_t_min.2.1 rfl)) hfr (by omega) hcc.1 hcc.2 hd ?_
  have e1 : (if Int32.ofInt y < Int32.ofInt x then Int32.ofInt y else Int32.ofInt x) = Int32.ofInt (if y < x then y else x) := by
    by_cases h : y < x
    · rw [if_pos ((jn_lt k1 k2).mpr h), if_pos h]
    · rw [if_neg (fun q => h ((jn_lt k1 k2).mp q)), if_neg h]
  rw [e1]
  have := hG JL H locs g1 (jk_cons (v := .inl (if y < x then y else x)) (by show jm_in _; split <;> assumption) (jk_tl (jk_tl g2))) g3 g4 g5 g6 g7 g8
  dsimp only at this
  rw [hp] at this
  exact this
theorem js_ireturn (hF : jm_F p R s mid args c dC dI cA ad adV ids A m) (hrc : jm_rc m k = some (.ireturn, a, z)) (h : jm_do wc w Q k ls M (jm_ef (.ireturn, a, z) k ls st M)) (hfin : jm_Fin p l e R s mid args below meth c dC dI cA ad ids A m FQ gc gs Q) : jm_G p l e R s mid args below meth c dC dI cA ad ids A m FQ gc gs scr (k, ls, st, M) := by
  obtain ⟨hd, -, h2⟩ := jm_dec hrc (by simp)
  have hx : jm_do wc w Q k ls M (match (generalizing := false) st with
    | [.inl x] => match (generalizing := false) a with
      | 0 => .inr (.inr ([], some (.inl x), M))
      | _ => .inr (.inr ([0 ≤ x, x ≤ 1], some (.inl x), M))
    | _ => jm_bad M) := h
  clear h
  have h2 : (match (generalizing := false) a with
    | 0 => decide (jm_r m = some .int)
    | _ => decide (jm_r m = some .boolean)) = true := h2
  split at hx
  · rename_i x
    intro JL H locs g1 g2 g3 g4 g5 g6 g7 g8
    cases a with
    | zero => exact hfin (some (.inl x)) M k JL H locs hx ⟨hd, jk_hd g2, Or.inl (of_decide_eq_true h2)⟩ g3 g1.1 g4 g5 g6 g7
    | succ a => exact hfin (some (.inl x)) M k JL H locs hx.2.2 ⟨hd, jk_hd g2, Or.inr ⟨of_decide_eq_true h2, hx.1, hx.2.1⟩⟩ g3 g1.1 g4 g5 g6 g7
  · exact (jm_rs_do hx).elim
theorem js_return (hF : jm_F p R s mid args c dC dI cA ad adV ids A m) (hrc : jm_rc m k = some (.return_, a, z)) (h : jm_do wc w Q k ls M (jm_ef (.return_, a, z) k ls st M)) (hfin : jm_Fin p l e R s mid args below meth c dC dI cA ad ids A m FQ gc gs Q) : jm_G p l e R s mid args below meth c dC dI cA ad ids A m FQ gc gs scr (k, ls, st, M) := by
  obtain ⟨hd, -, h2⟩ := jm_dec hrc (by simp)
  have hx : jm_do wc w Q k ls M (match (generalizing := false) st with
    | [] => .inr (.inr ([], none, M))
    | _ => jm_bad M) := h
  clear h
  split at hx
  · intro JL H locs g1 g2 g3 g4 g5 g6 g7 g8
    exact hfin none M k JL H locs hx ⟨hd, of_decide_eq_true h2⟩ g3 g1.1 g4 g5 g6 g7
  · exact (jm_rs_do hx).elim
theorem js_new {idx : Nat} (hF : jm_F p R s mid args c dC dI cA ad adV ids A m) (hrc : jm_rc m k = some (.new idx, a, z)) (h : jm_do wc w Q k ls M (jm_ef (.new idx, a, z) k ls st M)) (hfin : jm_Fin p l e R s mid args below meth c dC dI cA ad ids A m FQ gc gs Q) : jm_G p l e R s mid args below meth c dC dI cA ad ids A m FQ gc gs scr (k, ls, st, M) := by
  have hx : jm_do wc w Q k ls M (match (generalizing := false) st with
    | [] => .inr (.inr ([], jm_thr, M))
    | _ => jm_bad M) := h
  clear h
  split at hx
  · intro JL H locs g1 g2 g3 g4 g5 g6 g7 g8
    exact hfin jm_thr M k JL H locs hx ⟨idx, a, z, hrc⟩ g3 g1.1 g4 g5 g6 g7
  · exact (jm_rs_do hx).elim
end JS7
end
section
/-! STRINGS: length and charAt of the constants (the JDK's own code) -/
def jd_X (ad adV : Nat → Nat) (A : Nat → Prop) (U : State) : Prop := vk_S 6 jm_slen jm_sbyt (fun i => ad (200 + i)) adV A U U.heap ∧ va_Z "java/lang/String" "COMPACT_STRINGS" "Z" (.int 1) A U U.heap ∧ va_Zq "jdk/internal/util/Preconditions" "SIOOBE_FORMATTER" "Ljava/util/function/BiFunction;" A U U.heap
theorem jd_X_to {ad adV : Nat → Nat} {A : Nat → Prop} {u U : State} (h : jd_X ad adV A u) (hvm : u.vm.Alike U.vm) (hh : U.heap = u.heap) : jd_X ad adV A U := by
  unfold jd_X
  rw [hh]
  exact ⟨h.1.moved hvm, h.2.1.moved hvm, h.2.2.moved hvm⟩
theorem jd_blind {ad adV : Nat → Nat} {A : Nat → Prop} {as : List Value} : FrameBlind (va_Pc as (jd_X ad adV A)) := fun _ U _ _ h => ⟨h.1, jd_X_to h.2 (Vm.Alike.refl U.vm) rfl⟩
abbrev jd_Q (v : Option Value) : Array Value → State → Outcome → State → Prop := fun _ s0 oc t => oc = .returned v ∧ t.heap = s0.heap
def jd_ws (y : MethodName) (b : ByteArray) (n : Nat) (r : Option FieldType) : List Cond := Cond.code y b n r :: jm_g
set_option maxRecDepth 100000 in
theorem jd_t : lw_tbl[118]? = some (.initialized "java/lang/String") ∧ lw_tbl[119]? = some (.initialized "java/lang/StringLatin1") ∧ lw_tbl[120]? = some (.initialized "jdk/internal/util/Preconditions") ∧ lw_tbl[588]? = some (.instanceMethod yJ0_length_8abf5) ∧ lw_tbl[589]? = some (.selects "java/lang/String" yJ0_length_8abf5 yJ0_length_8abf5) ∧ lw_tbl[591]? = some (.methodLink "java/lang/String" 335 yJ0_coder_7d493) ∧ lw_tbl[592]? = some (.instanceMethod yJ0_coder_7d493) ∧ lw_tbl[593]? = some (.selects "java/lang/String" yJ0_coder_7d493 yJ0_coder_7d493) ∧ lw_tbl[595]? = some (.fieldLink "java/lang/String" 38 "java/lang/String" "COMPACT_STRINGS" "Z") ∧ lw_tbl[598]? = some (.instanceMethod yJ0_charAt_5068e) ∧ lw_tbl[599]? = some (.selects "java/lang/String" yJ0_charAt_5068e yJ0_charAt_5068e) := by decide +kernel
set_option maxRecDepth 100000 in
theorem jd_u : lw_tbl[601]? = some (.methodLink "java/lang/String" 492 yJ0_isLatin1_aae02) ∧ lw_tbl[602]? = some (.instanceMethod yJ0_isLatin1_aae02) ∧ lw_tbl[603]? = some (.selects "java/lang/String" yJ0_isLatin1_aae02 yJ0_isLatin1_aae02) ∧ lw_tbl[605]? = some (.methodLink "java/lang/String" 495 yJ1_charAt_3b067) ∧ lw_tbl[606]? = some (.static yJ1_charAt_3b067) ∧ lw_tbl[608]? = some (.methodLink "java/lang/StringLatin1" 9 yJ0_checkIndex_df160) ∧ lw_tbl[609]? = some (.static yJ0_checkIndex_df160) ∧ lw_tbl[611]? = some (.fieldLink "java/lang/String" 1053 "jdk/internal/util/Preconditions" "SIOOBE_FORMATTER" "Ljava/util/function/BiFunction;") ∧ lw_tbl[613]? = some (.methodLink "java/lang/String" 1059 yJ3_checkIndex_8e157) ∧ lw_tbl[614]? = some (.static yJ3_checkIndex_8e157) ∧ lw_tbl[1730]? = some (.fieldLink "java/lang/String" 9 "java/lang/String" "value" "[B") ∧ lw_tbl[1731]? = some (.fieldLink "java/lang/String" 15 "java/lang/String" "coder" "B") := by decide +kernel
set_option maxRecDepth 100000 in
theorem jd_c1 : lw_tbl[590]? = some (.code yJ0_length_8abf5 cJ0_length_8abf5 1 (some .int)) := rfl
set_option maxRecDepth 100000 in
theorem jd_c2 : lw_tbl[594]? = some (.code yJ0_coder_7d493 cJ0_coder_7d493 1 (some .byte)) := rfl
set_option maxRecDepth 100000 in
theorem jd_c3 : lw_tbl[600]? = some (.code yJ0_charAt_5068e cJ0_charAt_5068e 2 (some .char)) := rfl
set_option maxRecDepth 100000 in
theorem jd_c4 : lw_tbl[604]? = some (.code yJ0_isLatin1_aae02 cJ0_isLatin1_aae02 1 (some .boolean)) := rfl
set_option maxRecDepth 100000 in
theorem jd_c5 : lw_tbl[607]? = some (.code yJ1_charAt_3b067 cJ1_charAt_3b067 2 (some .char)) := rfl
set_option maxRecDepth 100000 in
theorem jd_c6 : lw_tbl[610]? = some (.code yJ0_checkIndex_df160 cJ0_checkIndex_df160 2 none) := rfl
set_option maxRecDepth 100000 in
theorem jd_c7 : lw_tbl[615]? = some (.code yJ3_checkIndex_8e157 cJ3_checkIndex_8e157 3 (some .int)) := rfl
theorem jd_goodV {own : String} {idx : Nat} {y : MethodName} {b : ByteArray} {n : Nat} {r : Option FieldType} (h1 : Cond.methodLink own idx y ∈ jm_g) (h2 : Cond.instanceMethod y ∈ jm_g) (h3 : Cond.selects y.cls y y ∈ jm_g) (h4 : Cond.initialized y.cls ∈ jm_g) (h5 : Cond.code y b n r ∈ jm_g) : GoodIn jm_g (wsV own idx y.cls y (jd_ws y b n r)) := by
  intro w hw
  unfold wsV at hw
  refine jm_g_good w ?_
  rcases List.mem_append.mp hw with hw | hw
  · simp only [List.mem_cons, List.not_mem_nil, or_false] at hw
    rcases hw with rfl | rfl | rfl | rfl
    · exact h1
    · exact h2
    · exact h3
    · exact h4
  · rcases List.mem_cons.mp hw with rfl | hw
    · exact h5
    · exact hw
theorem jd_goodS {own : String} {idx : Nat} {y : MethodName} {b : ByteArray} {n : Nat} {r : Option FieldType} (h1 : Cond.methodLink own idx y ∈ jm_g) (h2 : Cond.static y ∈ jm_g) (h4 : Cond.initialized y.cls ∈ jm_g) (h5 : Cond.code y b n r ∈ jm_g) : GoodIn jm_g (va_wsS own idx y (jd_ws y b n r)) := by
  intro w hw
  unfold va_wsS at hw
  refine jm_g_good w ?_
  rcases List.mem_append.mp hw with hw | hw
  · simp only [List.mem_cons, List.not_mem_nil, or_false] at hw
    rcases hw with rfl | rfl | rfl
    · exact h1
    · exact h2
    · exact h4
  · rcases List.mem_cons.mp hw with rfl | hw
    · exact h5
    · exact hw
section JD
variable {p : Program} {l : Launch} {e : Env} {R : Room} {s : State} {mid : MethodId} {args : Array Value} {below : List Frame} {meth : Method} {c : Code} {H : Heap} {locs : List Loc} {cells slots : Nat} {FQ : State → Prop}
theorem jd_after {pc : Nat} {JL : Array Slot} {st0 rest : List Value} {r1 : Option Value} {xs : Array Value} (hr : va_Run p l e R s mid args below meth c H locs cells slots 0 0 (F0 mid pc JL st0) rest (jd_Q r1 xs) (fun _ => False)) (kk : W p l e R s mid args below meth c H locs cells slots FQ (F0 mid (pc + 3) JL (r1.toList ++ rest))) : W p l e R s mid args below meth c H locs cells slots FQ (F0 mid pc JL st0) := by
  intro T hT X
  obtain ⟨v, st₀, t, T', L, h0, X', hL, e1, e2, ⟨q1, q2⟩, st1⟩ := hr T hT X
  cases q1
  have hL0 : L = [] := by
    cases L with
    | nil => rfl
    | cons a L => exact (hL a List.mem_cons_self).elim
  subst hL0
  rw [List.append_nil] at X'
  obtain ⟨t2, a1, b1⟩ := kk T' (by rw [e1, q2, h0]) X'
  exact ⟨t2, st1 t2 a1, b1⟩
/-- the start of a contract of the JDK's own code that changes nothing -/
theorem jd_start {y : MethodName} {b : ByteArray} {n : Nat} {r : Option FieldType} {fr lo : Nat} {as : List Value} {ad adV : Nat → Nat} {A : Nat → Prop} {v : Option Value} (hy : plainName y.cls = true) (hn : (lg_sl as).length ≤ n)
    (body : ∀ (p : Program) (e : Env) (s : State) (mid : MethodId) (below : List Frame) (meth : Method) (c : Code) (JL : Array Slot), p.tables.exec = Jvm.exec → c.code = b → c.maxLocals = n → meth.sig.returnType = r → meth.locks = false → s.vm.findClass y.cls = some mid.cls → (∀ w ∈ jm_g, w.before as.toArray s = true) → jd_X ad adV A s → lv_has JL n (lv_args 0 as) → W p l e ({ frames := fr, cells := 0, slots := 0, locals := lo }) s mid as.toArray below meth c s.heap [] 0 0 (MQ below (jd_Q v) as.toArray s 0 0 (fun _ => False)) (F0 mid 0 JL [])) :
    Met l y (jd_ws y b n r) ({ frames := fr, cells := 0, slots := 0, locals := lo }) (va_Pc as (jd_X ad adV A)) (jd_Q v) 0 0 (fun _ => False) := by
  refine Met.ofW (cc := b) (maxL := n) (ret := r) hy rfl ?_
  intro p e s mid args below meth c s₁ B hml hv
  obtain ⟨rfl, hX⟩ := hv
  have hl := lv_entry as (n := n) hn
  rw [lg_entry_eq]
  exact body p e s mid below meth c _ B.exec B.bytes hml B.returns B.notSynchronized (findClass_of_methodNamed B.named) (fun w h => atoms_spec (ws := jd_ws y b n r) B.pre w (List.mem_cons_of_mem _ h)) hX hl
end JD
section JDM
variable (l : Launch) (ad adV : Nat → Nat) (A : Nat → Prop)
theorem jd_coder (i : Nat) (hi : i < 6) : Met l yJ0_coder_7d493 (jd_ws yJ0_coder_7d493 cJ0_coder_7d493 1 (some .byte)) ({ frames := 0, cells := 0, slots := 0, locals := 0 }) (va_Pc [.ref (ad (200 + i))] (jd_X ad adV A)) (jd_Q (some (.int 0))) 0 0 (fun _ => False) := by
  refine jd_start (by decide) (Nat.le_refl _) (fun p e s mid below meth c JL hx hb hml hr hlocks hown hts hX hl => ?_)
  have hl : lv_has JL 1 [(0, .ref (ad (200 + i)))] := hl
  have hS : va_S A s.heap s.heap [] := va_S.rf
  refine va_gets hx hb hX.2.1 hS hown (hts _ (jm_in_g _ jd_t.2.2.2.2.2.2.2.2.1 rfl)) (fun _ h => h) (show decode cJ0_coder_7d493 0 = .ok (.getstatic 38, 3) by decide +kernel) ?_
  refine lv_if_eq (tgt := 13) hx hb (show decode cJ0_coder_7d493 3 = .ok (.ifCond .eq 10, 3) by decide +kernel) (by decide) (fun q => absurd q (by decide)) (fun _ => ?_)
  refine lv_aload_n hx hb (show decode cJ0_coder_7d493 6 = .ok (.aload_n 0, 1) by decide +kernel) rfl (lv_at hl 0 rfl) ?_
  refine vk_getf hx hb (hX.1.1 i hi).2.1 hS hown (hts _ (jm_in_g _ jd_u.2.2.2.2.2.2.2.2.2.2.2 rfl)) (fun _ h => h) (show decode cJ0_coder_7d493 7 = .ok (.getfield 15, 3) by decide +kernel) ?_
  refine lv_goto (tgt := 14) hx hb (show decode cJ0_coder_7d493 10 = .ok (.goto 4, 3) by decide +kernel) (by decide) ?_
  exact W.zret hx hb hr rfl (fun t ht _ => ⟨rfl, ht⟩) (fun q hq => nomatch hq) (show decode cJ0_coder_7d493 14 = .ok (.ireturn, 1) by decide +kernel)
theorem jd_latin (i : Nat) (hi : i < 6) : Met l yJ0_isLatin1_aae02 (jd_ws yJ0_isLatin1_aae02 cJ0_isLatin1_aae02 1 (some .boolean)) ({ frames := 0, cells := 0, slots := 0, locals := 0 }) (va_Pc [.ref (ad (200 + i))] (jd_X ad adV A)) (jd_Q (some (.int 1))) 0 0 (fun _ => False) := by
  refine jd_start (by decide) (Nat.le_refl _) (fun p e s mid below meth c JL hx hb hml hr hlocks hown hts hX hl => ?_)
  have hl : lv_has JL 1 [(0, .ref (ad (200 + i)))] := hl
  have hS : va_S A s.heap s.heap [] := va_S.rf
  refine va_gets hx hb hX.2.1 hS hown (hts _ (jm_in_g _ jd_t.2.2.2.2.2.2.2.2.1 rfl)) (fun _ h => h) (show decode cJ0_isLatin1_aae02 0 = .ok (.getstatic 38, 3) by decide +kernel) ?_
  refine lv_if_eq (tgt := 17) hx hb (show decode cJ0_isLatin1_aae02 3 = .ok (.ifCond .eq 14, 3) by decide +kernel) (by decide) (fun q => absurd q (by decide)) (fun _ => ?_)
  refine lv_aload_n hx hb (show decode cJ0_isLatin1_aae02 6 = .ok (.aload_n 0, 1) by decide +kernel) rfl (lv_at hl 0 rfl) ?_
  refine vk_getf hx hb (hX.1.1 i hi).2.1 hS hown (hts _ (jm_in_g _ jd_u.2.2.2.2.2.2.2.2.2.2.2 rfl)) (fun _ h => h) (show decode cJ0_isLatin1_aae02 7 = .ok (.getfield 15, 3) by decide +kernel) ?_
  refine lv_if_ne (tgt := 17) hx hb (show decode cJ0_isLatin1_aae02 10 = .ok (.ifCond .ne 7, 3) by decide +kernel) (by decide) (fun q => absurd rfl q) (fun _ => ?_)
  refine lv_iconst (v := 1) hx hb (show decode cJ0_isLatin1_aae02 13 = .ok (.iconst 1, 1) by decide +kernel) (by decide) ?_
  refine lv_goto (tgt := 18) hx hb (show decode cJ0_isLatin1_aae02 14 = .ok (.goto 4, 3) by decide +kernel) (by decide) ?_
  exact W.zret hx hb hr rfl (fun t ht _ => ⟨rfl, ht⟩) (fun q hq => nomatch hq) (show decode cJ0_isLatin1_aae02 18 = .ok (.ireturn, 1) by decide +kernel)
theorem jd_len (i : Nat) (hi : i < 6) : Met l yJ0_length_8abf5 (jd_ws yJ0_length_8abf5 cJ0_length_8abf5 1 (some .int)) ({ frames := 1, cells := 0, slots := 0, locals := 20 }) (va_Pc [.ref (ad (200 + i))] (jd_X ad adV A)) (jd_Q (some (.int (Int32.ofNat (jm_slen.getD i 0))))) 0 0 (fun _ => False) := by
  refine jd_start (by decide) (Nat.le_refl _) (fun p e s mid below meth c JL hx hb hml hr hlocks hown hts hX hl => ?_)
  have hl : lv_has JL 1 [(0, .ref (ad (200 + i)))] := hl
  have hS : va_S A s.heap s.heap [] := va_S.rf
  refine lv_aload_n hx hb (show decode cJ0_length_8abf5 0 = .ok (.aload_n 0, 1) by decide +kernel) rfl (lv_at hl 0 rfl) ?_
  refine vk_getf hx hb (hX.1.1 i hi).2.2.1 hS hown (hts _ (jm_in_g _ jd_u.2.2.2.2.2.2.2.2.2.2.1 rfl)) (fun _ h => h) (show decode cJ0_length_8abf5 1 = .ok (.getfield 9, 3) by decide +kernel) ?_
  refine va_tlen hx hb (hX.1.1 i hi).2.2.2 hS rfl (show decode cJ0_length_8abf5 4 = .ok (.arraylength, 1) by decide +kernel) ?_
  refine lv_aload_n hx hb (show decode cJ0_length_8abf5 5 = .ok (.aload_n 0, 1) by decide +kernel) rfl (lv_at hl 0 rfl) ?_
  refine jd_after (r1 := some (.int 0)) (va_runV (As := []) (rest := [.int (Int32.ofNat (jm_slen.getD i 0))]) (b := ad (200 + i)) ⟨hx, hb, hml, hown, hts⟩ (jd_coder l ad adV A i hi) (cwV 0 hts (jd_goodV (jm_in_g _ jd_t.2.2.2.2.2.1 rfl) (jm_in_g _ jd_t.2.2.2.2.2.2.1 rfl) (jm_in_g _ jd_t.2.2.2.2.2.2.2.1 rfl) (jm_in_g _ jd_t.1 rfl) (jm_in_g _ jd_c2 rfl)) rfl rfl rfl (by decide +kernel) ⟨Nat.le_refl _, Nat.le_refl _⟩) ⟨jd_blind, vk_recv (adK := fun i => ad (200 + i)) (i := i) hX.1 hi hS, fun U hU hW => ⟨rfl, jd_X_to hX hW.alike hU⟩⟩ rfl rfl hl.1 rfl (lv_room (Nat.le_of_ble_eq_true rfl)) (show decode cJ0_length_8abf5 6 = .ok (.invokevirtual 335, 3) by decide +kernel) ⟨Nat.zero_le _, Nat.zero_le _⟩) ?_
  refine lv_ishr hx hb (show decode cJ0_length_8abf5 9 = .ok (.ishr, 1) by decide +kernel) ?_
  have e0 : Int32.ofNat (jm_slen.getD i 0) >>> ((0 : Int32) &&& 31) = Int32.ofNat (jm_slen.getD i 0) := by
    have : ∀ j, j < 6 → Int32.ofNat (jm_slen.getD j 0) >>> ((0 : Int32) &&& 31) = Int32.ofNat (jm_slen.getD j 0) := by decide +kernel
    exact this i hi
  rw [e0]
  exact W.iret hx hb hr (fun t ht _ => ⟨rfl, ht⟩) (fun q hq => nomatch hq) (show decode cJ0_length_8abf5 10 = .ok (.ireturn, 1) by decide +kernel)
theorem jd_pre (x y : Int32) (v : Value) (hv : v.category = 1) (h0 : ¬ x < 0) (h1 : x < y) : Met l yJ3_checkIndex_8e157 (jd_ws yJ3_checkIndex_8e157 cJ3_checkIndex_8e157 3 (some .int)) ({ frames := 0, cells := 0, slots := 0, locals := 0 }) (va_Pc [.int x, .int y, v] (jd_X ad adV A)) (jd_Q (some (.int x))) 0 0 (fun _ => False) := by
  refine jd_start (by decide) (by cases v <;> first | exact Nat.le_refl _ | exact absurd (show (2 : Nat) = 1 from hv) (by decide)) (fun p e s mid below meth c JL hx hb hml hr hlocks hown hts hX hl => ?_)
  have hl : lv_has JL 3 [(0, .int x), (1, .int y), (2, v)] := hl
  refine lv_iload_n hx hb (show decode cJ3_checkIndex_8e157 0 = .ok (.iload_n 0, 1) by decide +kernel) rfl (lv_at hl 0 rfl) ?_
  refine lv_if_lt (tgt := 9) hx hb (show decode cJ3_checkIndex_8e157 1 = .ok (.ifCond .lt 8, 3) by decide +kernel) (by decide) (fun q => absurd q h0) (fun _ => ?_)
  refine lv_iload_n hx hb (show decode cJ3_checkIndex_8e157 4 = .ok (.iload_n 0, 1) by decide +kernel) rfl (lv_at hl 0 rfl) ?_
  refine lv_iload_n hx hb (show decode cJ3_checkIndex_8e157 5 = .ok (.iload_n 1, 1) by decide +kernel) rfl (lv_at hl 1 rfl) ?_
  refine lv_icmp_lt (tgt := 16) hx hb (show decode cJ3_checkIndex_8e157 6 = .ok (.if_icmp .lt 10, 3) by decide +kernel) (by decide) (fun _ => ?_) (fun q => absurd h1 q)
  refine lv_iload_n hx hb (show decode cJ3_checkIndex_8e157 16 = .ok (.iload_n 0, 1) by decide +kernel) rfl (lv_at hl 0 rfl) ?_
  exact W.iret hx hb hr (fun t ht _ => ⟨rfl, ht⟩) (fun q hq => nomatch hq) (show decode cJ3_checkIndex_8e157 17 = .ok (.ireturn, 1) by decide +kernel)
theorem jd_chk (x y : Int32) (h0 : ¬ x < 0) (h1 : x < y) : Met l yJ0_checkIndex_df160 (jd_ws yJ0_checkIndex_df160 cJ0_checkIndex_df160 2 none) ({ frames := 1, cells := 0, slots := 0, locals := 22 }) (va_Pc [.int x, .int y] (jd_X ad adV A)) (jd_Q none) 0 0 (fun _ => False) := by
  refine jd_start (by decide) (Nat.le_refl _) (fun p e s mid below meth c JL hx hb hml hr hlocks hown hts hX hl => ?_)
  have hl : lv_has JL 2 [(0, .int x), (1, .int y)] := hl
  have hS : va_S A s.heap s.heap [] := va_S.rf
  refine lv_iload_n hx hb (show decode cJ0_checkIndex_df160 0 = .ok (.iload_n 0, 1) by decide +kernel) rfl (lv_at hl 0 rfl) ?_
  refine lv_iload_n hx hb (show decode cJ0_checkIndex_df160 1 = .ok (.iload_n 1, 1) by decide +kernel) rfl (lv_at hl 1 rfl) ?_
  have go : ∀ (v : Value), v.category = 1 → va_Z "jdk/internal/util/Preconditions" "SIOOBE_FORMATTER" "Ljava/util/function/BiFunction;" v A s s.heap → W p l e ({ frames := 1, cells := 0, slots := 0, locals := 22 }) s mid ([.int x, .int y] : List Value).toArray below meth c s.heap [] 0 0 (MQ below (jd_Q none) ([.int x, .int y] : List Value).toArray s 0 0 (fun _ => False)) (F0 mid 2 JL [.int y, .int x]) := by
    intro v hv hZ
    refine va_gets hx hb hZ hS hown (hts _ (jm_in_g _ jd_u.2.2.2.2.2.2.2.1 rfl)) (fun _ h => h) (show decode cJ0_checkIndex_df160 2 = .ok (.getstatic 1053, 3) by decide +kernel) ?_
    refine jd_after (r1 := some (.int x)) (va_runS (As := [.int x, .int y, v]) (rest := []) ⟨hx, hb, hml, hown, hts⟩ (jd_pre l ad adV A x y v hv h0 h1) (va_cwS 3 hts (jd_goodS (jm_in_g _ jd_u.2.2.2.2.2.2.2.2.1 rfl) (jm_in_g _ jd_u.2.2.2.2.2.2.2.2.2.1 rfl) (jm_in_g _ jd_t.2.2.1 rfl) (jm_in_g _ jd_c7 rfl)) rfl rfl rfl (by decide +kernel) ⟨Nat.le_refl _, Nat.le_refl _⟩) ⟨jd_blind, fun U hU hW => ⟨rfl, jd_X_to hX hW.alike hU⟩⟩ rfl rfl hl.1 rfl (lv_room (Nat.le_of_ble_eq_true rfl)) (show decode cJ0_checkIndex_df160 5 = .ok (.invokestatic 1059, 3) by decide +kernel) ⟨Nat.zero_le _, Nat.zero_le _⟩) ?_
    refine lv_pop hx hb (show decode cJ0_checkIndex_df160 8 = .ok (.pop, 1) by decide +kernel) rfl ?_
    exact W.vret hx hb hr (fun t ht _ => ⟨rfl, ht⟩) (fun q hq => nomatch hq) (show decode cJ0_checkIndex_df160 9 = .ok (.return_, 1) by decide +kernel)
  rcases hX.2.2 with hZ | ⟨t, hZ⟩
  · exact go _ rfl hZ
  · exact go _ rfl hZ
/-- the char at a place of a constant -/
def jd_ch (i j : Nat) : Int32 := Int32.ofInt (jm_chr (jm_str i) j)
theorem jd_ch_ok : ∀ i, i < 6 → ∀ j, j < jm_slen.getD i 0 → ((((jm_sbyt.getD i []).getD j 0) &&& 255).toUInt32 % 65536).toInt32 = jd_ch i j ∧ narrow .char (.int (jd_ch i j)) = .int (jd_ch i j) ∧ jm_slen.getD i 0 = (jm_str i).length ∧ 0 ≤ jm_chr (jm_str i) j ∧ jm_chr (jm_str i) j ≤ 255 := by decide +kernel
theorem jd_lat (i j : Nat) (hi : i < 6) (hj : j < jm_slen.getD i 0) (hj2 : j < 100) : Met l yJ1_charAt_3b067 (jd_ws yJ1_charAt_3b067 cJ1_charAt_3b067 2 (some .char)) ({ frames := 2, cells := 0, slots := 0, locals := 43 }) (va_Pc [.ref (adV i), .int (nI j)] (jd_X ad adV A)) (jd_Q (some (.int (jd_ch i j)))) 0 0 (fun _ => False) := by
  refine jd_start (by decide) (Nat.le_refl _) (fun p e s mid below meth c JL hx hb hml hr hlocks hown hts hX hl => ?_)
  have hl : lv_has JL 2 [(0, .ref (adV i)), (1, .int (nI j))] := hl
  have hS : va_S A s.heap s.heap [] := va_S.rf
  have hle : jm_slen.getD i 0 < 2 ^ 31 := by
    have : ∀ i, i < 6 → jm_slen.getD i 0 < 2 ^ 31 := by decide +kernel
    exact this i hi
  obtain ⟨c1, c2, -⟩ := jd_ch_ok i hi j hj
  refine lv_iload_n hx hb (show decode cJ1_charAt_3b067 0 = .ok (.iload_n 1, 1) by decide +kernel) rfl (lv_at hl 1 rfl) ?_
  refine lv_aload_n hx hb (show decode cJ1_charAt_3b067 1 = .ok (.aload_n 0, 1) by decide +kernel) rfl (lv_at hl 0 rfl) ?_
  refine va_tlen hx hb (hX.1.1 i hi).2.2.2 hS rfl (show decode cJ1_charAt_3b067 2 = .ok (.arraylength, 1) by decide +kernel) ?_
  refine jd_after (r1 := none) (va_runS (As := [.int (nI j), .int (Int32.ofNat (jm_slen.getD i 0))]) (rest := []) ⟨hx, hb, hml, hown, hts⟩ (jd_chk l ad adV A (nI j) (Int32.ofNat (jm_slen.getD i 0)) (nI_pos (by omega)) (nI_lt hj hle)) (va_cwS 2 hts (jd_goodS (jm_in_g _ jd_u.2.2.2.2.2.1 rfl) (jm_in_g _ jd_u.2.2.2.2.2.2.1 rfl) (jm_in_g _ jd_t.1 rfl) (jm_in_g _ jd_c6 rfl)) rfl rfl rfl (by decide +kernel) ⟨Nat.le_refl _, Nat.le_refl _⟩) ⟨jd_blind, fun U hU hW => ⟨rfl, jd_X_to hX hW.alike hU⟩⟩ rfl rfl hl.1 rfl (lv_room (Nat.le_of_ble_eq_true rfl)) (show decode cJ1_charAt_3b067 3 = .ok (.invokestatic 9, 3) by decide +kernel) ⟨Nat.zero_le _, Nat.zero_le _⟩) ?_
  refine lv_aload_n hx hb (show decode cJ1_charAt_3b067 6 = .ok (.aload_n 0, 1) by decide +kernel) rfl (lv_at hl 0 rfl) ?_
  refine lv_iload_n hx hb (show decode cJ1_charAt_3b067 7 = .ok (.iload_n 1, 1) by decide +kernel) rfl (lv_at hl 1 rfl) ?_
  refine va_tb hx hb (hX.1.1 i hi).2.2.2 hS (vp_in_nI hj hle) rfl (show decode cJ1_charAt_3b067 8 = .ok (.baload, 1) by decide +kernel) ?_
  rw [nI_clamp (by omega)]
  refine lv_sipush (v := 255) hx hb (show decode cJ1_charAt_3b067 9 = .ok (.sipush 255, 3) by decide +kernel) (by decide) ?_
  refine lv_iand hx hb (show decode cJ1_charAt_3b067 12 = .ok (.iand, 1) by decide +kernel) ?_
  refine lv_i2c (v := jd_ch i j) hx hb (show decode cJ1_charAt_3b067 13 = .ok (.i2c, 1) by decide +kernel) c1 ?_
  exact W.zret hx hb hr c2 (fun t ht _ => ⟨rfl, ht⟩) (fun q hq => nomatch hq) (show decode cJ1_charAt_3b067 14 = .ok (.ireturn, 1) by decide +kernel)
theorem jd_char (i j : Nat) (hi : i < 6) (hj : j < jm_slen.getD i 0) (hj2 : j < 100) : Met l yJ0_charAt_5068e (jd_ws yJ0_charAt_5068e cJ0_charAt_5068e 2 (some .char)) ({ frames := 3, cells := 0, slots := 0, locals := 64 }) (va_Pc [.ref (ad (200 + i)), .int (nI j)] (jd_X ad adV A)) (jd_Q (some (.int (jd_ch i j)))) 0 0 (fun _ => False) := by
  refine jd_start (by decide) (Nat.le_refl _) (fun p e s mid below meth c JL hx hb hml hr hlocks hown hts hX hl => ?_)
  have hl : lv_has JL 2 [(0, .ref (ad (200 + i))), (1, .int (nI j))] := hl
  have hS : va_S A s.heap s.heap [] := va_S.rf
  obtain ⟨c1, c2, -⟩ := jd_ch_ok i hi j hj
  refine lv_aload_n hx hb (show decode cJ0_charAt_5068e 0 = .ok (.aload_n 0, 1) by decide +kernel) rfl (lv_at hl 0 rfl) ?_
  refine jd_after (r1 := some (.int 1)) (va_runV (As := []) (rest := []) (b := ad (200 + i)) ⟨hx, hb, hml, hown, hts⟩ (jd_latin l ad adV A i hi) (cwV 0 hts (jd_goodV (jm_in_g _ jd_u.1 rfl) (jm_in_g _ jd_u.2.1 rfl) (jm_in_g _ jd_u.2.2.1 rfl) (jm_in_g _ jd_t.1 rfl) (jm_in_g _ jd_c4 rfl)) rfl rfl rfl (by decide +kernel) ⟨Nat.le_of_ble_eq_true rfl, Nat.le_of_ble_eq_true rfl⟩) ⟨jd_blind, vk_recv (adK := fun i => ad (200 + i)) (i := i) hX.1 hi hS, fun U hU hW => ⟨rfl, jd_X_to hX hW.alike hU⟩⟩ rfl rfl hl.1 rfl (lv_room (Nat.le_of_ble_eq_true rfl)) (show decode cJ0_charAt_5068e 1 = .ok (.invokevirtual 492, 3) by decide +kernel) ⟨Nat.zero_le _, Nat.zero_le _⟩) ?_
  refine lv_if_eq (tgt := 16) hx hb (show decode cJ0_charAt_5068e 4 = .ok (.ifCond .eq 12, 3) by decide +kernel) (by decide) (fun q => absurd q (by decide)) (fun _ => ?_)
  refine lv_aload_n hx hb (show decode cJ0_charAt_5068e 7 = .ok (.aload_n 0, 1) by decide +kernel) rfl (lv_at hl 0 rfl) ?_
  refine vk_getf hx hb (hX.1.1 i hi).2.2.1 hS hown (hts _ (jm_in_g _ jd_u.2.2.2.2.2.2.2.2.2.2.1 rfl)) (fun _ h => h) (show decode cJ0_charAt_5068e 8 = .ok (.getfield 9, 3) by decide +kernel) ?_
  refine lv_iload_n hx hb (show decode cJ0_charAt_5068e 11 = .ok (.iload_n 1, 1) by decide +kernel) rfl (lv_at hl 1 rfl) ?_
  refine jd_after (r1 := some (.int (jd_ch i j))) (va_runS (As := [.ref (adV i), .int (nI j)]) (rest := []) ⟨hx, hb, hml, hown, hts⟩ (jd_lat l ad adV A i j hi hj hj2) (va_cwS 2 hts (jd_goodS (jm_in_g _ jd_u.2.2.2.1 rfl) (jm_in_g _ jd_u.2.2.2.2.1 rfl) (jm_in_g _ jd_t.2.1 rfl) (jm_in_g _ jd_c5 rfl)) rfl rfl rfl (by decide +kernel) ⟨Nat.le_refl _, Nat.le_refl _⟩) ⟨jd_blind, fun U hU hW => ⟨rfl, jd_X_to hX hW.alike hU⟩⟩ rfl rfl hl.1 rfl (lv_room (Nat.le_of_ble_eq_true rfl)) (show decode cJ0_charAt_5068e 12 = .ok (.invokestatic 495, 3) by decide +kernel) ⟨Nat.zero_le _, Nat.zero_le _⟩) ?_
  exact W.zret hx hb hr c2 (fun t ht _ => ⟨rfl, ht⟩) (fun q hq => nomatch hq) (show decode cJ0_charAt_5068e 15 = .ok (.ireturn, 1) by decide +kernel)
end JDM
end
section
/-! SPELT: five codes to a number (it makes one cell of five slots) -/
set_option maxRecDepth 100000 in
theorem je_t : lw_tbl[1366]? = some (.static yX10_spelt) ∧ lw_tbl[179]? = some (.arrayClass .int) ∧ lw_tbl[1355]? = some (.constantLong RX10 169 27) ∧ lw_tbl[1356]? = some (.constantLong RX10 171 96) ∧ lw_tbl[117]? = some (.initialized RX10) := by decide +kernel
set_option maxRecDepth 100000 in
theorem je_c : lw_tbl[1367]? = some (.code yX10_spelt cX10_spelt 9 (some .long)) := rfl
theorem je_n : (∀ j, j < 5 → ¬ ((5 : Int32) ≤ nI j)) ∧ ((5 : Int32) ≤ nI 5) ∧ (∀ j, j < 5 → nI j + Int32.ofInt 1 = nI (j + 1)) := by decide +kernel
section JE
variable {p : Program} {l : Launch} {e : Env} {R : Room} {s : State} {mid : MethodId} {args : Array Value} {below : List Frame} {meth : Method} {c : Code} {H : Heap} {locs : List Loc} {cells slots : Nat} {FQ : State → Prop}
theorem je_iter {D : va_G} {tys : List (ClassId × FieldType)} {ws : va_W} {q : Nat} {cA : ClassId} {f : Nat → Int32} {JL : Array Slot} (hx : p.tables.exec = Jvm.exec) (hb : c.code = cX10_spelt) (hown : s.vm.findClass RX10 = some mid.cls) (hts : ∀ w ∈ jm_g, w.before args s = true) (hK : va_K D [] tys s) (ht : tys[0]? = some (cA, .int)) (hP : va_P D [] ws H) (hw : ws[0]? = some (q, .inl (cA, 5, .inl f))) (j : Nat) (hj : j < 5) (v x : Int) (hf : f j = Int32.ofInt x) (bx : 0 ≤ x ∧ x ≤ 255) (hl : lv_has JL 9 [(8, .int (nI j)), (7, .ref q), (5, .long (Int64.ofInt v))])
    (kk : ∀ JL', lv_has JL' 9 [(8, .int (nI (j + 1))), (7, .ref q), (5, .long (Int64.ofInt (jm_spl v x)))] → W p l e R s mid args below meth c H locs cells slots FQ (F0 mid 32 JL' [])) : W p l e R s mid args below meth c H locs cells slots FQ (F0 mid 32 JL []) := by
  have hjx : jm_in x := ⟨by omega, by omega⟩
  have hcl : (nI j).toNatClampNeg = j := nI_clamp (by omega)
  have rest : ∀ (u : Int) (JL' : Array Slot), u = jm_spl v x → lv_has JL' 9 [(8, .int (nI j)), (7, .ref q), (5, .long (Int64.ofInt v))] → W p l e R s mid args below meth c H locs cells slots FQ (F0 mid 68 JL' [.long (Int64.ofInt u)]) := by
    intro u JL' hu h
    subst hu
    refine lv_lstore (lv' := [(5, .long (Int64.ofInt (jm_spl v x))), (8, .int (nI j)), (7, .ref q)]) hx hb (show decode cX10_spelt 68 = .ok (.lstore 5, 2) by decide +kernel) h (by decide) rfl (fun L1 h1 => ?_)
    refine lv_iinc (k := 1) (v := nI (j + 1)) (lv' := [(8, .int (nI (j + 1))), (5, .long (Int64.ofInt (jm_spl v x))), (7, .ref q)]) hx hb (show decode cX10_spelt 70 = .ok (.iinc 8 1, 3) by decide +kernel) h1 rfl (je_n.2.2 j hj) (by decide) rfl (fun L2 h2 => ?_)
    refine lv_goto (tgt := 32) hx hb (show decode cX10_spelt 73 = .ok (.goto (-41), 3) by decide +kernel) (by decide) ?_
    exact kk L2 (lv_sub h2 [0, 2, 1] rfl)
  refine lv_iload hx hb (show decode cX10_spelt 32 = .ok (.iload 8, 2) by decide +kernel) (lv_at hl 0 rfl) ?_
  refine lv_iconst (v := 5) hx hb (show decode cX10_spelt 34 = .ok (.iconst 5, 1) by decide +kernel) (by decide) ?_
  refine lv_icmp_ge (tgt := 76) hx hb (show decode cX10_spelt 35 = .ok (.if_icmp .ge 41, 3) by decide +kernel) (by decide) (fun z => absurd z (je_n.1 j hj)) (fun _ => ?_)
  refine lv_aload hx hb (show decode cX10_spelt 38 = .ok (.aload 7, 2) by decide +kernel) (lv_at hl 1 rfl) ?_
  refine lv_iload hx hb (show decode cX10_spelt 40 = .ok (.iload 8, 2) by decide +kernel) (lv_at hl 0 rfl) ?_
  refine va_iald hx hb hK hP 0 0 hw ht (vp_in_nI hj (by decide)) (show decode cX10_spelt 42 = .ok (.iaload, 1) by decide +kernel) ?_
  rw [hcl, hf]
  refine lv_if_le (tgt := 66) hx hb (show decode cX10_spelt 43 = .ok (.ifCond .le 23, 3) by decide +kernel) (by decide) (fun z => ?_) (fun z => ?_)
  · refine lv_lload hx hb (show decode cX10_spelt 66 = .ok (.lload 5, 2) by decide +kernel) (lv_at hl 2 rfl) ?_
    refine rest v JL ?_ hl
    unfold jm_spl
    rw [if_neg (fun z2 => absurd ((jn_le hjx jn_in0).mp z) (by omega))]
  · refine lv_ldc2 (v := 27) hx hb hown (hts _ (jm_in_g _ je_t.2.2.1 rfl)) (show decode cX10_spelt 46 = .ok (.ldc2_w 169, 3) by decide +kernel) ?_
    refine lv_lload hx hb (show decode cX10_spelt 49 = .ok (.lload 5, 2) by decide +kernel) (lv_at hl 2 rfl) ?_
    refine lv_lmul hx hb (show decode cX10_spelt 51 = .ok (.lmul, 1) by decide +kernel) ?_
    refine lv_aload hx hb (show decode cX10_spelt 52 = .ok (.aload 7, 2) by decide +kernel) (lv_at hl 1 rfl) ?_
    refine lv_iload hx hb (show decode cX10_spelt 54 = .ok (.iload 8, 2) by decide +kernel) (lv_at hl 0 rfl) ?_
    refine va_iald hx hb hK hP 0 0 hw ht (vp_in_nI hj (by decide)) (show decode cX10_spelt 56 = .ok (.iaload, 1) by decide +kernel) ?_
    rw [hcl, hf]
    refine lv_i2l (v := Int64.ofInt x) hx hb (show decode cX10_spelt 57 = .ok (.i2l, 1) by decide +kernel) (jn_long hjx) ?_
    refine lv_ladd hx hb (show decode cX10_spelt 58 = .ok (.ladd, 1) by decide +kernel) ?_
    refine lv_ldc2 (v := 96) hx hb hown (hts _ (jm_in_g _ je_t.2.2.2.1 rfl)) (show decode cX10_spelt 59 = .ok (.ldc2_w 171, 3) by decide +kernel) ?_
    refine lv_lsub hx hb (show decode cX10_spelt 62 = .ok (.lsub, 1) by decide +kernel) ?_
    refine lv_goto (tgt := 68) hx hb (show decode cX10_spelt 63 = .ok (.goto 5, 3) by decide +kernel) (by decide) ?_
    have e1 : (27 : Int64) * Int64.ofInt v + Int64.ofInt x - 96 = Int64.ofInt (27 * v + x - 96) := by
      rw [Int64.ofInt_sub, Int64.ofInt_add, Int64.ofInt_mul]
      rfl
    rw [e1]
    refine rest _ JL ?_ hl
    unfold jm_spl
    rw [if_pos]
    rcases Int.lt_or_le 0 x with y | y
    · exact y
    · exact absurd ((jn_le hjx jn_in0).mpr y) z
end JE
theorem je_spelt (l : Launch) (sz : Nat) (x1 x2 x3 x4 x5 : Int) (b1 : 0 ≤ x1 ∧ x1 ≤ 255) (b2 : 0 ≤ x2 ∧ x2 ≤ 255) (b3 : 0 ≤ x3 ∧ x3 ≤ 255) (b4 : 0 ≤ x4 ∧ x4 ≤ 255) (b5 : 0 ≤ x5 ∧ x5 ≤ 255) : Met l yX10_spelt (jd_ws yX10_spelt cX10_spelt 9 (some .long)) ({ frames := 0, cells := 1, slots := 5, locals := 0 }) (va_Pc [.int (Int32.ofInt x1), .int (Int32.ofInt x2), .int (Int32.ofInt x3), .int (Int32.ofInt x4), .int (Int32.ofInt x5)] (fun U => U.heap.size = sz)) (fun _ s0 oc t => oc = .returned (some (.long (Int64.ofInt (jm_spelt x1 x2 x3 x4 x5)))) ∧ va_F (fun q => sz ≤ q) s0 t) 1 5 (fun q => sz ≤ q) := by
  refine Met.ofW (cc := cX10_spelt) (maxL := 9) (ret := some .long) (by decide) rfl ?_
  intro p e s mid args below meth c s₁ B hml hv
  obtain ⟨rfl, hsz⟩ := hv
  subst hsz
  have hl := lv_entry ([.int (Int32.ofInt x1), .int (Int32.ofInt x2), .int (Int32.ofInt x3), .int (Int32.ofInt x4), .int (Int32.ofInt x5)] : List Value) (n := 9) (Nat.le_of_ble_eq_true rfl)
  rw [lg_entry_eq]
  have hx := B.exec
  have hb := B.bytes
  have hr := B.returns
  have hlocks := B.notSynchronized
  have hown : s.vm.findClass RX10 = some mid.cls := findClass_of_methodNamed B.named
  have hts := fun w h => atoms_spec (ws := jd_ws yX10_spelt cX10_spelt 9 (some .long)) B.pre w (List.mem_cons_of_mem _ h)
  generalize (lg_sl ([.int (Int32.ofInt x1), .int (Int32.ofInt x2), .int (Int32.ofInt x3), .int (Int32.ofInt x4), .int (Int32.ofInt x5)] : List Value) ++ List.replicate (9 - (lg_sl ([.int (Int32.ofInt x1), .int (Int32.ofInt x2), .int (Int32.ofInt x3), .int (Int32.ofInt x4), .int (Int32.ofInt x5)] : List Value)).length) Slot.unset).toArray = JL at hl ⊢
  have hl : lv_has JL 9 [(0, .int (Int32.ofInt x1)), (1, .int (Int32.ofInt x2)), (2, .int (Int32.ofInt x3)), (3, .int (Int32.ofInt x4)), (4, .int (Int32.ofInt x5))] := hl
  refine lv_lconst (v := 0) hx hb (show decode cX10_spelt 0 = .ok (.lconst 0, 1) by decide +kernel) rfl ?_
  refine lv_lstore (lv' := [(5, .long 0), (0, .int (Int32.ofInt x1)), (1, .int (Int32.ofInt x2)), (2, .int (Int32.ofInt x3)), (3, .int (Int32.ofInt x4)), (4, .int (Int32.ofInt x5))]) hx hb (show decode cX10_spelt 1 = .ok (.lstore 5, 2) by decide +kernel) hl (by decide) rfl (fun L1 h1 => ?_)
  refine lv_iconst (v := 5) hx hb (show decode cX10_spelt 3 = .ok (.iconst 5, 1) by decide +kernel) (by decide) ?_
  refine va_newa (D := ((fun _ => mid.cls, fun _ _ => 0) : va_G)) (cl := []) (tys := []) (ws := []) (A := fun q => s.heap.size ≤ q) (a0 := (5, .inl (fun _ => 0))) (N' := 5) hx hb (hts _ (jm_in_g _ je_t.2.1 rfl)) (ty := .int) rfl ⟨(fun _ _ h => nomatch h), (fun _ _ h => nomatch h)⟩ (fun _ _ h => nomatch h) ⟨(fun _ _ _ _ h => nomatch h), (fun _ _ h => nomatch h)⟩ va_S.rf (fun _ h => h) (fun _ => rfl) (by decide) (by decide) (by decide) (Nat.le_refl _) (Nat.le_refl _) (show decode cX10_spelt 4 = .ok (.newarray .int, 2) by decide +kernel) (fun q cA H1 hK hP hD hS => ?_)
  refine lv_dup hx hb (show decode cX10_spelt 6 = .ok (.dup, 1) by decide +kernel) rfl ?_
  refine lv_iconst (v := 0) hx hb (show decode cX10_spelt 7 = .ok (.iconst 0, 1) by decide +kernel) (by decide) ?_
  refine lv_iload_n hx hb (show decode cX10_spelt 8 = .ok (.iload_n 0, 1) by decide +kernel) rfl (lv_at h1 1 rfl) ?_
  refine va_iast hx hb hK hP hD hS 0 0 rfl rfl (vp_in_nI (n := 0) (N := 5) (by decide) (by decide)) (show decode cX10_spelt 9 = .ok (.iastore, 1) by decide +kernel) (fun H2 locs2 hP hD hS => ?_)
  refine lv_dup hx hb (show decode cX10_spelt 10 = .ok (.dup, 1) by decide +kernel) rfl ?_
  refine lv_iconst (v := 1) hx hb (show decode cX10_spelt 11 = .ok (.iconst 1, 1) by decide +kernel) (by decide) ?_
  refine lv_iload_n hx hb (show decode cX10_spelt 12 = .ok (.iload_n 1, 1) by decide +kernel) rfl (lv_at h1 2 rfl) ?_
  refine va_iast hx hb hK hP hD hS 0 0 rfl rfl (vp_in_nI (n := 1) (N := 5) (by decide) (by decide)) (show decode cX10_spelt 13 = .ok (.iastore, 1) by decide +kernel) (fun H3 locs3 hP hD hS => ?_)
  refine lv_dup hx hb (show decode cX10_spelt 14 = .ok (.dup, 1) by decide +kernel) rfl ?_
  refine lv_iconst (v := 2) hx hb (show decode cX10_spelt 15 = .ok (.iconst 2, 1) by decide +kernel) (by decide) ?_
  refine lv_iload_n hx hb (show decode cX10_spelt 16 = .ok (.iload_n 2, 1) by decide +kernel) rfl (lv_at h1 3 rfl) ?_
  refine va_iast hx hb hK hP hD hS 0 0 rfl rfl (vp_in_nI (n := 2) (N := 5) (by decide) (by decide)) (show decode cX10_spelt 17 = .ok (.iastore, 1) by decide +kernel) (fun H4 locs4 hP hD hS => ?_)
  refine lv_dup hx hb (show decode cX10_spelt 18 = .ok (.dup, 1) by decide +kernel) rfl ?_
  refine lv_iconst (v := 3) hx hb (show decode cX10_spelt 19 = .ok (.iconst 3, 1) by decide +kernel) (by decide) ?_
  refine lv_iload_n hx hb (show decode cX10_spelt 20 = .ok (.iload_n 3, 1) by decide +kernel) rfl (lv_at h1 4 rfl) ?_
  refine va_iast hx hb hK hP hD hS 0 0 rfl rfl (vp_in_nI (n := 3) (N := 5) (by decide) (by decide)) (show decode cX10_spelt 21 = .ok (.iastore, 1) by decide +kernel) (fun H5 locs5 hP hD hS => ?_)
  refine lv_dup hx hb (show decode cX10_spelt 22 = .ok (.dup, 1) by decide +kernel) rfl ?_
  refine lv_iconst (v := 4) hx hb (show decode cX10_spelt 23 = .ok (.iconst 4, 1) by decide +kernel) (by decide) ?_
  refine lv_iload hx hb (show decode cX10_spelt 24 = .ok (.iload 4, 2) by decide +kernel) (lv_at h1 5 rfl) ?_
  refine va_iast hx hb hK hP hD hS 0 0 rfl rfl (vp_in_nI (n := 4) (N := 5) (by decide) (by decide)) (show decode cX10_spelt 26 = .ok (.iastore, 1) by decide +kernel) (fun H6 locs6 hP hD hS => ?_)
  refine lv_astore (lv' := [(7, .ref q), (5, .long 0), (0, .int (Int32.ofInt x1)), (1, .int (Int32.ofInt x2)), (2, .int (Int32.ofInt x3)), (3, .int (Int32.ofInt x4)), (4, .int (Int32.ofInt x5))]) hx hb (show decode cX10_spelt 27 = .ok (.astore 7, 2) by decide +kernel) h1 (by decide) rfl (fun L2 h2 => ?_)
  refine lv_iconst (v := 0) hx hb (show decode cX10_spelt 29 = .ok (.iconst 0, 1) by decide +kernel) (by decide) ?_
  refine lv_istore (lv' := [(8, .int 0), (7, .ref q), (5, .long 0), (0, .int (Int32.ofInt x1)), (1, .int (Int32.ofInt x2)), (2, .int (Int32.ofInt x3)), (3, .int (Int32.ofInt x4)), (4, .int (Int32.ofInt x5))]) hx hb (show decode cX10_spelt 30 = .ok (.istore 8, 2) by decide +kernel) h2 (by decide) rfl (fun L3 h3 => ?_)
  have h3' : lv_has L3 9 [(8, .int (nI 0)), (7, .ref q), (5, .long (Int64.ofInt 0))] := lv_sub h3 [0, 1, 2] rfl
  refine je_iter hx hb hown hts hK rfl hP rfl 0 (by decide) 0 x1 rfl b1 h3' (fun L4 h4 => ?_)
  refine je_iter hx hb hown hts hK rfl hP rfl 1 (by decide) _ x2 rfl b2 h4 (fun L5 h5 => ?_)
  refine je_iter hx hb hown hts hK rfl hP rfl 2 (by decide) _ x3 rfl b3 h5 (fun L6 h6 => ?_)
  refine je_iter hx hb hown hts hK rfl hP rfl 3 (by decide) _ x4 rfl b4 h6 (fun L7 h7 => ?_)
  refine je_iter hx hb hown hts hK rfl hP rfl 4 (by decide) _ x5 rfl b5 h7 (fun L8 h8 => ?_)
  refine lv_iload hx hb (show decode cX10_spelt 32 = .ok (.iload 8, 2) by decide +kernel) (lv_at h8 0 rfl) ?_
  refine lv_iconst (v := 5) hx hb (show decode cX10_spelt 34 = .ok (.iconst 5, 1) by decide +kernel) (by decide) ?_
  refine lv_icmp_ge (tgt := 76) hx hb (show decode cX10_spelt 35 = .ok (.if_icmp .ge 41, 3) by decide +kernel) (by decide) (fun _ => ?_) (fun z => absurd je_n.2.1 z)
  refine lv_lload hx hb (show decode cX10_spelt 76 = .ok (.lload 5, 2) by decide +kernel) (lv_at h8 2 rfl) ?_
  exact W.lret hx hb hr (fun t ht _ => ⟨rfl, hS.F ht⟩) hS.2.2 (show decode cX10_spelt 78 = .ok (.lreturn, 1) by decide +kernel)
section JEC
variable {p : Program} {l : Launch} {e : Env} {R : Room} {s : State} {mid : MethodId} {args : Array Value} {below : List Frame} {meth : Method} {c : Code}
variable {dC : Nat → ClassId} {dI : Nat → Nat → Nat} {cA : Nat → ClassId} {ad adV : Nat → Nat} {ids : List Nat} {A : Nat → Prop} {m : Nat} {FQ : State → Prop} {gc gs : Int} {scr : Int → Int}
variable {k : Nat} {ls : jm_Ls} {M : jm_Mem} {z : Int}
theorem jm_gh_a (a b : Int) : jm_gh M a b 999 0 = M 999 0 + a := (jm_gh_0 M a b).1
theorem jm_gh_b (a b : Int) : jm_gh M a b 999 1 = M 999 1 + b := (jm_gh_0 M a b).2.1
theorem jm_gh_o (a b : Int) {d : Nat} (h : d ≠ 999) : jm_gh M a b d = M d := (jm_gh_0 M a b).2.2 d h
theorem jm_okM_gh {a b : Int} (h : jm_okM M) : jm_okM (jm_gh M a b) := by
  intro d j hd
  rw [jm_gh_o a b hd]
  exact h d j hd
theorem jm_spl_in {v a : Int} {B : Int} (hB : 0 ≤ B) (hv : -B ≤ v ∧ v ≤ B) (ha : 0 ≤ a ∧ a ≤ 255) : -(27 * B + 255) ≤ jm_spl v a ∧ jm_spl v a ≤ 27 * B + 255 := by
  unfold jm_spl
  split <;> omega
theorem jm_spelt_in {x1 x2 x3 x4 x5 : Int} (b1 : 0 ≤ x1 ∧ x1 ≤ 255) (b2 : 0 ≤ x2 ∧ x2 ≤ 255) (b3 : 0 ≤ x3 ∧ x3 ≤ 255) (b4 : 0 ≤ x4 ∧ x4 ≤ 255) (b5 : 0 ≤ x5 ∧ x5 ≤ 255) : jm_in (jm_spelt x1 x2 x3 x4 x5) := by
  unfold jm_spelt jm_in
  have q1 := jm_spl_in (v := 0) (B := 0) (by decide) ⟨by decide, by decide⟩ b1
  have q2 := jm_spl_in (B := 255) (by decide) ⟨by omega, by omega⟩ b2 (v := jm_spl 0 x1)
  have q3 := jm_spl_in (B := 7140) (by decide) ⟨by omega, by omega⟩ b3 (v := jm_spl (jm_spl 0 x1) x2)
  have q4 := jm_spl_in (B := 193035) (by decide) ⟨by omega, by omega⟩ b4 (v := jm_spl (jm_spl (jm_spl 0 x1) x2) x3)
  have q5 := jm_spl_in (B := 5212200) (by decide) ⟨by omega, by omega⟩ b5 (v := jm_spl (jm_spl (jm_spl (jm_spl 0 x1) x2) x3) x4)
  omega
theorem js_spelt {idx : Nat} {x1 x2 x3 x4 x5 : Int} {r : List jm_V} (hF : jm_F p R s mid args c dC dI cA ad adV ids A m) (hrc : jm_rc m k = some (.invokestatic idx, 903, z)) (hft : jm_ft r 8 = true) (b1 : 0 ≤ x1 ∧ x1 ≤ 255) (b2 : 0 ≤ x2 ∧ x2 ≤ 255) (b3 : 0 ≤ x3 ∧ x3 ≤ 255) (b4 : 0 ≤ x4 ∧ x4 ≤ 255) (b5 : 0 ≤ x5 ∧ x5 ≤ 255) (hcc : (jm_gh M 1 5 999 0 - gc).toNat ≤ R.cells ∧ (jm_gh M 1 5 999 1 - gs).toNat ≤ R.slots) (hG : jm_G p l e R s mid args below meth c dC dI cA ad ids A m FQ gc gs scr (k + 1, ls, .inr (.inr (jm_spelt x1 x2 x3 x4 x5)) :: r, jm_gh M 1 5)) : jm_G p l e R s mid args below meth c dC dI cA ad ids A m FQ gc gs scr (k, ls, .inl x5 :: .inl x4 :: .inl x3 :: .inl x2 :: .inl x1 :: r, M) := by
  obtain ⟨hd, hp, hlink, hfr, hlo⟩ := jm_ck_bs hF hrc (by decide)
  intro JL H locs g1 g2 g3 g4 g5 g6 g7 g8
  rw [jm_gh_a, jm_gh_b] at hcc
  dsimp only at g6 g7
  have e0 : (M 999 0 - gc).toNat + 1 = (M 999 0 + 1 - gc).toNat := by omega
  have e1 : (M 999 1 - gs).toNat + 5 = (M 999 1 + 5 - gs).toNat := by omega
  refine js_after (Qa := (fun s0 oc t => oc = .returned (some (.long (Int64.ofInt (jm_spelt x1 x2 x3 x4 x5)))) ∧ va_F (fun q => H.size ≤ q) s0 t)) (free := fun q => H.size ≤ q) (A1 := fun q => H.size ≤ q) (mc := 1) (ms := 5) (rest := r.map (jm_val ad)) (va_runS (As := [.int (Int32.ofInt x1), .int (Int32.ofInt x2), .int (Int32.ofInt x3), .int (Int32.ofInt x4), .int (Int32.ofInt x5)]) (rest := r.map (jm_val ad)) ⟨hF.1, hF.2.1, hF.2.2.1, hF.2.2.2.1, hF.2.2.2.2.1⟩ (je_spelt l H.size x1 x2 x3 x4 x5 b1 b2 b3 b4 b5) (va_cwS 5 hF.2.2.2.2.1 (jd_goodS (y := yX10_spelt) hlink (jm_in_g _ je_t.1 rfl) (jm_in_g _ je_t.2.2.2.2 rfl) (jm_in_g _ je_c rfl)) rfl rfl rfl (by decide +kernel) ⟨Nat.le_trans (Nat.le_of_ble_eq_true rfl) hfr, Nat.le_trans (Nat.le_of_ble_eq_true rfl) hlo⟩) ⟨fun _ _ _ _ h => h, fun U hU hW => ⟨rfl, by show U.heap.size = H.size; rw [hU]⟩⟩ rfl rfl g1.1 rfl (lv_room (jm_cat_le r hft)) hd (by rw [e0, e1]; exact hcc)) g5 (fun q hq1 hq2 => absurd hq2 (Nat.not_le.mpr hq1)) (fun q hq => hF.2.2.2.2.2.2.2.2.2 q (Nat.le_trans g5.1 hq)) (r1 := some (.long (Int64.ofInt (jm_spelt x1 x2 x3 x4 x5)))) (B := fun H1 => ∀ q : Nat, q < H.size → H1[q]? = H[q]?) (fun s0 v t hs0 hq => ?_) (fun H1 locs1 hB hS1 => ?_)
  · obtain ⟨q1, q2, q3⟩ := hq
    rw [hs0] at q2 q3
    cases q1
    exact ⟨rfl, fun q hq => q3 q hq (Nat.not_le.mpr hq), q2, q3⟩
  · have hwd : jm_wd cA ad ids (jm_gh M 1 5) = jm_wd cA ad ids M := by
      unfold jm_wd
      refine List.map_congr_left (fun d hd => ?_)
      have hd9 := hF.2.2.2.2.2.2.2.2.1.2.1 d hd
      have : jm_ce cA ad (jm_gh M 1 5) d = jm_ce cA ad M d := jm_ce_congr (jm_gh_o 1 5 (by omega))
      rw [this]
    have := hG JL H1 locs1 g1 (jk_cons (v := .inr (.inr (jm_spelt x1 x2 x3 x4 x5))) (jm_spelt_in b1 b2 b3 b4 b5) (jk_tl (jk_tl (jk_tl (jk_tl (jk_tl g2)))))) (jm_okM_gh g3) (by dsimp only; rw [hwd]; exact g4.kept (fun k q hk => hB _ ((g4 k q hk).lt))) hS1 (by dsimp only; rw [jm_gh_a]; omega) (by dsimp only; rw [jm_gh_b]; omega) (fun q => by dsimp only; rw [jm_gh_o 1 5 (by decide)]; exact g8 q)
    dsimp only at this
    rw [jm_gh_a, jm_gh_b, ← e0, ← e1, hp] at this
    exact this
end JEC
end
section
/-! THE LAW'S OWN METHODS: a call of the class that may throw, caught -/
def jx_cap : List Cond := [.methodLink RX9 157 (Bundle.initS jx_N), .instantiable jx_N 6, .castable jx_N jx_N, .selects jx_N Bundle.tFill0 Bundle.tFill0, .selects jx_N Bundle.tFill Bundle.tFill, .lays jx_N Bundle.tN "cause" "Ljava/lang/Throwable;", .lays jx_N Bundle.tN "stackTrace" Bundle.steD, .lays jx_N Bundle.tN "suppressedExceptions" Bundle.listD, .lays jx_N Bundle.tN "detailMessage" "Ljava/lang/String;", .fieldLink Bundle.tN 198 Bundle.tN "backtrace" "Ljava/lang/Object;", .lays Bundle.tN Bundle.tN "backtrace" "Ljava/lang/Object;", .lays jx_N Bundle.tN "backtrace" "Ljava/lang/Object;", .classLink RX9 153 jx_N, .initialized jx_N]
set_option maxRecDepth 100000 in
theorem jx_a1 : ∀ w ∈ Bundle.throwableAtoms.filter vx_no, w ∈ lw_tbl := by decide +kernel
set_option maxRecDepth 100000 in
theorem jx_a2 : ∀ w ∈ Bundle.throwableSAtoms.filter vx_no, w ∈ lw_tbl := by decide +kernel
set_option maxRecDepth 100000 in
theorem jx_a3 : ∀ w ∈ Bundle.passSAtoms jx_N "java/lang/RuntimeException" 13 prog_27_method_4_code, w ∈ lw_tbl := by decide +kernel
set_option maxRecDepth 100000 in
theorem jx_a4 : ∀ w ∈ Bundle.chainSAtoms "java/lang/RuntimeException" ["java/lang/Exception"], w ∈ lw_tbl := by decide +kernel
set_option maxRecDepth 100000 in
theorem jx_a5 : ∀ w ∈ jx_cap, w ∈ lw_tbl := by decide +kernel
theorem jx_b1 : (Bundle.throwableAtoms.filter vx_no).all goodWord = true := by decide +kernel
theorem jx_b2 : (Bundle.throwableSAtoms.filter vx_no).all goodWord = true := by decide +kernel
theorem jx_b3 : (Bundle.passSAtoms jx_N "java/lang/RuntimeException" 13 prog_27_method_4_code).all (fun w => goodWord w || decide (w ∈ jx_Kw)) = true := by decide +kernel
theorem jx_b4 : (Bundle.chainSAtoms "java/lang/RuntimeException" ["java/lang/Exception"]).all (fun w => goodWord w || decide (w ∈ jx_Kw)) = true := by decide +kernel
theorem jx_b5 : jx_cap.all (fun w => goodWord w || decide (w ∈ jx_Kw)) = true := by decide +kernel
def jx_R : String := "java/lang/RuntimeException"
theorem jx_d : decode prog_27_method_4_code 0 = .ok (.aload_n 0, 1) ∧ decode prog_27_method_4_code 1 = .ok (.aload_n 1, 1) ∧ decode prog_27_method_4_code 2 = .ok (.invokespecial 13, 3) ∧ decode prog_27_method_4_code 5 = .ok (.return_, 1) := by decide +kernel
theorem jx_fits : Bundle.fit jx_N = true ∧ Bundle.fit jx_R = true ∧ Bundle.fit "java/lang/Exception" = true := by decide +kernel
section JXC
variable {p : Program} {l : Launch} {e : Env} {R : Room} {s : State} {m₀ : MethodId} {args : Array Value} {below : List Frame} {meth : Method} {c : Code} {W0 : State} {locs : List Loc} {cells slots : Nat}
set_option maxHeartbeats 1000000 in
/-- the constructor of NoSuchElementException with a message, and the throw behind it -/
theorem jx_ctor (X : Stand p l e R s m₀ args below meth c W0 locs cells slots) (hexec : p.tables.exec = Jvm.exec) (htr : e.platform.stackTraces = false) (hown : s.vm.findClass RX9 = some m₀.cls)
    (w1 : ∀ w ∈ Bundle.throwableAtoms, w.before args s = true) (w2 : ∀ w ∈ Bundle.throwableSAtoms, w.before args s = true) (w3 : ∀ w ∈ Bundle.passSAtoms jx_N jx_R 13 prog_27_method_4_code, w.before args s = true) (w4 : ∀ w ∈ Bundle.chainSAtoms jx_R ["java/lang/Exception"], w.before args s = true) (w5 : ∀ w ∈ jx_cap, w.before args s = true)
    (wU : (Cond.isRef (.static Bundle.tN "UNASSIGNED_STACK" Bundle.steD)).before args s = true) (wN : (Cond.isRef (.static Bundle.tN "SUPPRESSED_SENTINEL" Bundle.listD)).before args s = true)
    (hlocs : ∀ x ∈ locs, ∀ cell, s.heap[x.base]? = some cell → cell.vm.isStatics = false)
    {a : Addr} {cX : ClassId} {kX : Class} (hfoundX : s.vm.findClass jx_N = some cX) (hkX : s.vm.classes[cX]? = some kX) (hcell : W0.heap[a]? = some (freshCell cX kX)) (hnew : s.heap.size ≤ a)
    {msg : Value} (hmsg : msg.isRef = true)
    {g : JFrame} (hg : g.method = m₀) (hsize : g.locals.size = c.maxLocals) (hlocked : g.locked = none) (hentered : g.entered = []) {rest : List Value} (hstack : g.stack = msg :: .ref a :: .ref a :: rest)
    (hd6 : decode c.code g.pc = .ok (.invokespecial 157, 3)) (hd9 : decode c.code (g.pc + 3) = .ok (.athrow, 1)) (hout : ∀ x ∈ c.exceptionTable.toList, covers x (g.pc + 3) = false)
    (hRf : 5 < R.frames) (hRl : 2 * g.monitorRoom + ((Value.ref a :: rest).map fun v => v.category).sum + 81 ≤ R.locals) (hlocks : meth.locks = false) :
    ∃ U : State, Steps p.tables e below (W0.setTop g) U ∧ U.status = .running ∧ Ended U below (.threw a) ∧ s.WarmedH U.vm ∧ s.sameButNew ({ U with vm := s.vm } : State) locs cells slots ∧
      ∃ ce : Cell, U.heap[a]? = some ce ∧ ce.vm = .none ∧ s.vm.findClass jx_N = some ce.cls := by
  have howns : e.platform.frameOwnsMonitors = true := by rw [X.admits.platform]
  have hfin : e.platform.finalization = false := by rw [X.admits.platform]
  have hpl : e.platform.magicAccessors = ({} : Platform).magicAccessors := by rw [X.admits.platform]
  have k5 : ∀ x, x ∈ jx_cap → x.holds args s none s [] = true := fun x hx => w5 x hx
  obtain ⟨T, Z0, L, -, Y⟩ := ThrowableC.of_atoms (args := args) howns hfin hpl w1
  obtain ⟨Z, M, LZ, LM, hnZ⟩ := Init0T.ofS_atoms (args := args) hpl L Y w2
  obtain ⟨P1, L1, hP1m, hP1s⟩ := PassC.ofS_atoms (args := args) (s := s) hpl (X := jx_N) (Y := jx_R) (Bundle.fit_spec jx_fits.1).1 (Bundle.fit_spec jx_fits.2.1).2 jx_d.1 jx_d.2.1 jx_d.2.2.1 jx_d.2.2.2 w3
  obtain ⟨P2, Ps, hlen, L2, hL, hP2m, hlink2, hlink⟩ := Bundle.chainS (args := args) hpl hnZ ["java/lang/Exception"] jx_R jx_fits.2.1 (fun n hn => by rw [List.mem_singleton.mp hn]; exact jx_fits.2.2) w4
  have hlen : Ps.length = 1 := hlen
  have hsup : P1.sup = P2.m := Option.some.inj (hP1s.symm.trans hP2m)
  have hfound : s.vm.findClass jx_N = some P1.m.cls := findClass_of_methodNamed hP1m
  cases Option.some.inj (hfoundX.symm.trans hfound)
  obtain ⟨c1, kX', hc1, hk, hord, -, -, hn6⟩ := Cond.instantiable_spec (k5 (.instantiable jx_N 6) (by simp [jx_cap]))
  cases Option.some.inj (hc1.symm.trans hfound)
  cases Option.some.inj (hkX.symm.trans hk)
  have hsel0 : selectMethod e.platform s.vm P1.m.cls T.fill0 = .method T.fill0 := by
    obtain ⟨c2, r2, m2, q1, q2, q3, q4, -⟩ := Cond.selects_spec (k5 (.selects jx_N Bundle.tFill0 Bundle.tFill0) (by simp [jx_cap]))
    cases Option.some.inj (q1.symm.trans hfound)
    cases Option.some.inj (q2.symm.trans (State.methodFound?_of_named Y.fill0 (by decide)))
    cases Option.some.inj (q3.symm.trans Y.fill0)
    rw [Launch.admits_selectMethod X.admits]; exact q4
  have hselF : selectMethod e.platform s.vm P1.m.cls T.fill = .method T.fill := by
    obtain ⟨c2, r2, m2, q1, q2, q3, q4, -⟩ := Cond.selects_spec (k5 (.selects jx_N Bundle.tFill Bundle.tFill) (by simp [jx_cap]))
    cases Option.some.inj (q1.symm.trans hfound)
    cases Option.some.inj (q2.symm.trans (State.methodFound?_of_named Y.fill (by decide)))
    cases Option.some.inj (q3.symm.trans Y.fill)
    rw [Launch.admits_selectMethod X.admits]; exact q4
  obtain ⟨cellS0, hcS0, hiss⟩ := Y.statics
  obtain ⟨u0, hu0⟩ := Cond.staticRefV Y.unassigned L.unassignedStatic L.statics hcS0 hiss wU
  obtain ⟨sen, hsen⟩ := Cond.staticRefV Y.sentinel L.sentinelStatic L.statics hcS0 hiss wN
  obtain ⟨ci198, i198, fB, hk198, hg198, ha198, hsB, -, hnB, htB, hffB⟩ := Cond.ownField (t := .object "java/lang/Object") Y.found L.cls (by decide +kernel) (k5 (.fieldLink Bundle.tN 198 Bundle.tN "backtrace" "Ljava/lang/Object;") (by simp [jx_cap])) (k5 (.lays Bundle.tN Bundle.tN "backtrace" "Ljava/lang/Object;") (by simp [jx_cap])) e.platform hpl
  obtain ⟨cellS, hcS', heS, -, hkeep⟩ := X.same.2.2.2.2.2 T.aS cellS0 hcS0
  have hcellS : W0.heap[T.aS]? = some cellS := hcS'
  have hout' : ∀ i, (⟨T.aS, i⟩ : Loc) ∉ locs := fun i hmem => by
    have := hlocs _ hmem cellS0 hcS0
    rw [hiss] at this; cases this
  have hknownS : cellS.vm ≠ .unknown := by
    rw [heS]; intro hu
    rw [show cellS0.vm = .unknown from hu] at hiss
    cases hiss
  have hneS : T.aS ≠ a := Nat.ne_of_lt (Nat.lt_of_lt_of_le (Array.getElem?_eq_some_iff.mp hcS0).1 hnew)
  obtain ⟨iM, hffM⟩ := Y.msg
  obtain ⟨tyC, dC, hdC, hdnC⟩ := Cond.laysAt hfound hk Y.cause (k5 (.lays jx_N Bundle.tN "cause" "Ljava/lang/Throwable;") (by simp [jx_cap]))
  obtain ⟨tyS, dS, hdS, hdnS⟩ := Cond.laysAt hfound hk Y.stack (k5 (.lays jx_N Bundle.tN "stackTrace" Bundle.steD) (by simp [jx_cap]))
  obtain ⟨tyP, dP, hdP, hdnP⟩ := Cond.laysAt hfound hk Y.supp (k5 (.lays jx_N Bundle.tN "suppressedExceptions" Bundle.listD) (by simp [jx_cap]))
  obtain ⟨tyM, dM, hdM, hdnM⟩ := Cond.laysAt hfound hk hffM (k5 (.lays jx_N Bundle.tN "detailMessage" "Ljava/lang/String;") (by simp [jx_cap]))
  obtain ⟨tyB, dB, hdB, hdnB⟩ := Cond.laysAt hfound hk hffB (k5 (.lays jx_N Bundle.tN "backtrace" "Ljava/lang/Object;") (by simp [jx_cap]))
  have bC := Cond.laysApart hdB hdC hdnB hdnC (by rw [hnB, Y.causeName]; decide)
  have bS := Cond.laysApart hdB hdS hdnB hdnS (by rw [hnB, Y.stackName]; decide)
  have bP := Cond.laysApart hdB hdP hdnB hdnP (by rw [hnB, Y.suppName]; decide)
  have hskip : SkipFacts T e.platform s (fun u => u) u0 ((preparedCellV T.toThrowableT (freshCell P1.m.cls kX) a u0 sen).withEntry W0.cur) :=
    ⟨{ ci198 := ci198, i198 := i198, fBack := fB }, ⟨hk198, hg198, ha198, hsB⟩, by
      have := fresh_default (c := P1.m.cls) tyB
      rw [htB] at this
      simpa [preparedCellV, Cell.setSlot, Cell.withEntry, Array.getElem?_setIfInBounds, bC, bS, bP, bC.symm, bS.symm, bP.symm, defaultValue] using this, fun _ _ => rfl⟩
  obtain ⟨tm, methC, cdC, kC, vm₁, hnC, -, -, -, -, -, -, -, hW₁, st1⟩ := Steps.initColdS (tb := p.tables) (e := e) (below := below) (s := s) (U := W0) X.here hexec X.warmed hpl hown (t := Bundle.initS jx_N) rfl rfl (Bundle.fit_spec jx_fits.1).2
    (k5 (.methodLink RX9 157 (Bundle.initS jx_N)) (by simp [jx_cap])) (w3 (.instanceMethod (Bundle.initS jx_N)) (by simp [Bundle.passSAtoms])) (bytes := prog_27_method_4_code) (maxL := 2) (w3 (.code (Bundle.initS jx_N) prog_27_method_4_code 2 none) (by simp [Bundle.passSAtoms]))
    (f := g) hg (a := a) (msg := msg) (rest := .ref a :: rest) hstack hd6
  cases Option.some.inj (hnC.symm.trans hP1m)
  have X₁ := X.noted hW₁
  obtain ⟨vm₂, X₂, st2⟩ := X₁.ctorMessageOffV hexec (g := { g with stack := .ref a :: rest }) hg hsize T L Z LZ M LM (P1 :: P2 :: Ps)
    (fun P hP => by
      rcases List.mem_cons.mp hP with rfl | hP
      · exact L1
      · rcases List.mem_cons.mp hP with rfl | hP
        · exact L2
        · exact hL P hP) ⟨hsup, hlink2, hlink⟩ (u0 := u0) (sen := sen) (self := a) hmsg (cell := freshCell P1.m.cls kX) (cellS := cellS)
    hcell (fun _ => by simp) (by simp) rfl rfl hsel0 hselF hcellS hneS hknownS (by rw [hkeep _ (hout' _)]; exact hu0) (by rw [hkeep _ (hout' _)]; exact hsen)
    (Takes.of_laid hk hord tyC (by rw [Y.causeType]; rfl)) (Takes.of_laid hk hord tyS (by rw [Y.stackType]; exact fits_refV_array _ u0)) (Takes.of_laid hk hord tyP (by rw [Y.suppType]; exact fits_refV_object _ sen))
    (Takes.of_laid hk hord tyM (by rw [Y.msgType]; exact fits_refV_object _ ⟨msg, hmsg⟩)) Y.objLocals hskip htr [] hd6
    (by simp only [List.length_cons, hlen]; omega) (by simp only [List.length_cons, hlen]; exact hRl)
  obtain ⟨hwalk, hrun, hended, hWU, hsame⟩ := X₂.athrowLeaves hexec (g := { g with stack := .ref a :: rest, pc := g.pc + 3 }) hg hlocked hentered hout (a := a) (rest := rest) rfl hd9 hlocks
  have hlt : a < ((W0.setVm vm₁).setVm vm₂).heap.size := (Array.getElem?_eq_some_iff.mp hcell).1
  have hU := heapAt_setCell_self (s := (W0.setVm vm₁).setVm vm₂) (plainBareV T.toThrowableT (freshCell P1.m.cls kX) a u0 sen msg) hlt
  refine ⟨_, st1 _ (fun acts => ?_), hrun, hended, hWU, hsame.weaken (fun y hy hlt' => ?_) (Nat.le_refl _) (Nat.le_refl _), _, hU, rfl, hfound⟩
  · rw [doInvoke_state]
    exact st2 _ hwalk
  · rcases List.mem_append.mp hy with h1 | h1
    · exact h1
    · exfalso
      have hb : y.base = a := by
        simp only [List.mem_cons, List.not_mem_nil, or_false] at h1
        rcases h1 with rfl | rfl | rfl | rfl | rfl <;> rfl
      rw [hb] at hlt'
      exact Nat.not_lt.mpr hnew hlt'
end JXC
end
section
theorem jx_kt : ∀ w ∈ jx_Kw, w.onTables = true := by decide
theorem jx_wd {args : Array Value} {s s' : State} {L : List Cond} (hin : ∀ w ∈ L, w ∈ lw_tbl) (hg : L.all (fun w => goodWord w || decide (w ∈ jx_Kw)) = true) (hts : ∀ w ∈ jm_g, w.before args s = true) (hK : jx_K s) (hvm : s.vm = s'.vm) : ∀ w ∈ L, w.before args s' = true := by
  intro w hw
  have h1 := List.all_eq_true.mp hg w hw
  rcases (Bool.or_eq_true _ _).mp h1 with h | h
  · have hj : w ∈ jm_g := List.mem_filter.mpr ⟨hin w hw, h⟩
    exact vx_ot_at (by rw [← hvm]; exact State.WarmedH.refl s) hvm (by unfold vx_ot; rw [h, Bool.or_true]) (hts w hj)
  · have hk := of_decide_eq_true h
    exact va_tabs (jx_kt w hk) hvm (hK w hk)
theorem jx_c1 : (Bundle.throwableAtoms.filter vx_no).all (fun w => goodWord w || decide (w ∈ jx_Kw)) = true := by decide +kernel
theorem jx_c2 : Bundle.throwableSAtoms.all vx_no = true ∧ Bundle.throwableSAtoms.all (fun w => goodWord w || decide (w ∈ jx_Kw)) = true := by decide +kernel
section JXT
variable {p : Program} {l : Launch} {e : Env} {R : Room} {s : State} {m : MethodId} {args : Array Value} {below : List Frame} {meth : Method} {c : Code} {H : Heap} {locs : List Loc} {cells slots : Nat}
variable {free : Addr → Prop} {ls : Array Slot} {rest : List Value} {Qc : Array Value → State → Outcome → State → Prop} {XC : String → State → State → Prop}
/-- 'throw new NoSuchElementException("text")' in the class -/
theorem jx_throw {cc : ByteArray} {pc : Nat} (hexec : p.tables.exec = Jvm.exec) (hb : c.code = cc) (hl : l.stackTraces = false) {text : String} {is mc ms sa : Nat} {A : Nat → Prop}
    (hown : s.vm.findClass RX9 = some m.cls) (hts : ∀ w ∈ jm_g, w.before args s = true) (hK : jx_K s) (hstr : vk_R RX9 is text sa s)
    (hU : vx_Zq Bundle.tN "UNASSIGNED_STACK" Bundle.steD A s s.heap) (hN : vx_Zq Bundle.tN "SUPPRESSED_SENTINEL" Bundle.listD A s s.heap) (hS : va_S A s.heap H locs) (hsize : ls.size = c.maxLocals)
    (d0 : decode cc pc = .ok (.new 153, 3)) (d3 : decode cc (pc + 3) = .ok (.dup, 1)) (d4 : decode cc (pc + 4) = .ok (.ldc is, 2)) (d6 : decode cc (pc + 6) = .ok (.invokespecial 157, 3)) (d9 : decode cc (pc + 9) = .ok (.athrow, 1))
    (hout : ∀ x ∈ c.exceptionTable.toList, covers x (pc + 9) = false)
    (hRf : 5 < R.frames) (hRl : (rest.map fun v => v.category).sum + 82 ≤ R.locals) (hRc : cells + 1 ≤ R.cells) (hRs : slots + 6 ≤ R.slots) (hlocks : meth.locks = false)
    (hx : ∀ t : State, s.vm.Alike t.vm → H.size ≤ t.heap.size → (∀ q : Nat, q < H.size → t.heap[q]? = H[q]?) → XC jx_N s t)
    (hf : ∀ z ∈ locs, free z.base) (hc : cells + 1 ≤ mc) (hs : slots + 6 ≤ ms) :
    W p l e R s m args below meth c H locs cells slots (vx_MQ below Qc XC args s mc ms free) (F0 m pc ls rest) := by
  intro T hT X
  have htr : e.platform.stackTraces = false := (show e.platform.stackTraces = l.stackTraces by rw [X.admits.platform]).trans hl
  have Y := vx_rebase X (R' := { frames := R.frames, locals := R.locals, cells := 1, slots := 6 }) (Nat.le_refl _) (Nat.le_refl _) hRc hRs
  obtain ⟨s', hA⟩ : ∃ z, z = (T.setVm s.vm).setFrames (.invoking m args :: below) := ⟨_, rfl⟩
  rw [← hA] at Y
  have hvm : s'.vm = s.vm := by rw [hA]; rfl
  have hhp : s'.heap = H := by rw [hA]; exact hT
  have hW0 : s.WarmedH s'.vm := by rw [hvm]; exact State.WarmedH.refl s
  have hU' : vx_Zq Bundle.tN "UNASSIGNED_STACK" Bundle.steD A s' s'.heap := by rw [hhp]; exact vx_Zq.moved hW0.alike (hU.kept hS.2.1)
  have hN' : vx_Zq Bundle.tN "SUPPRESSED_SENTINEL" Bundle.listD A s' s'.heap := by rw [hhp]; exact vx_Zq.moved hW0.alike (hN.kept hS.2.1)
  have wU : (Cond.isRef (.static Bundle.tN "UNASSIGNED_STACK" Bundle.steD)).before args s' = true := vx_isRefq hU'.1
  have wN : (Cond.isRef (.static Bundle.tN "SUPPRESSED_SENTINEL" Bundle.listD)).before args s' = true := vx_isRefq hN'.1
  have w1 : ∀ w ∈ Bundle.throwableAtoms, w.before args s' = true := vx_own (jx_wd jx_a1 jx_c1 hts hK hvm.symm) wU wN hU'.2.word hN'.2.word
  have w2 : ∀ w ∈ Bundle.throwableSAtoms, w.before args s' = true := jx_wd (fun w hw => jx_a2 w (List.mem_filter.mpr ⟨hw, List.all_eq_true.mp jx_c2.1 w hw⟩)) jx_c2.2 hts hK hvm.symm
  have w3 : ∀ w ∈ Bundle.passSAtoms jx_N jx_R 13 prog_27_method_4_code, w.before args s' = true := jx_wd jx_a3 jx_b3 hts hK hvm.symm
  have w4 : ∀ w ∈ Bundle.chainSAtoms jx_R ["java/lang/Exception"], w.before args s' = true := jx_wd jx_a4 jx_b4 hts hK hvm.symm
  have w5 : ∀ w ∈ jx_cap, w.before args s' = true := jx_wd jx_a5 jx_b5 hts hK hvm.symm
  have hown' : s'.vm.findClass RX9 = some m.cls := by rw [hvm]; exact hown
  obtain ⟨vm₁, cX, kX, hfX, hkX, -, -, X₁, st1⟩ := Y.newCold hexec (own := RX9) (C := jx_N) (index := 153) (n := 6) hown' (w5 _ (by simp [jx_cap])) (w5 _ (by simp [jx_cap])) (w5 _ (by simp [jx_cap]))
    (g := F0 m pc ls rest) rfl (by rw [hb]; exact d0) (Nat.le_refl _) (Nat.le_refl _)
  generalize hT1 : (T.setVm vm₁).pushCell { cls := cX, slots := kX.instanceTypes.map defaultValue, vm := .none } = T1 at X₁ st1
  have hcat : (Value.ref T.heap.size).category = 1 := rfl
  have hcellA : T1.heap[T.heap.size]? = some (freshCell cX kX) := by rw [← hT1]; exact State.heap_pushCell_size _ _
  have d3' : decode c.code (pc + 3) = .ok (.dup, 1) := by rw [hb]; exact d3
  have d4' : decode c.code (pc + 4) = .ok (.ldc is, 2) := by rw [hb]; exact d4
  have hstr' : vk_R RX9 is text sa s' := vk_R.warm hW0 hstr
  obtain ⟨U, hsteps, hrun, hend, hW, hsame, ce, hce, hcv, hcl0⟩ := jx_ctor X₁ hexec htr hown' w1 w2 w3 w4 w5 wU wN (fun x hx => nomatch hx) hfX hkX hcellA (by rw [hhp, hT]; exact Nat.le_refl _) (msg := .ref sa) rfl
    (g := { method := m, pc := pc + 6, locals := ls, stack := .ref sa :: .ref T.heap.size :: .ref T.heap.size :: rest, locked := none }) rfl hsize rfl rfl (rest := rest) rfl
    (by rw [hb]; exact d6) (by rw [hb]; exact d9) hout hRf (by simp only [List.map_cons, List.sum_cons, hcat, JFrame.monitorRoom]; omega) hlocks
  obtain ⟨f1, f2⟩ := vx_frame hsame
  rw [hhp] at f1 f2
  have hWs : s.WarmedH U.vm := State.WarmedH.trans hW0 hW
  have hcl : s.vm.findClass jx_N = some ce.cls := by
    rw [hvm] at hcl0
    exact hcl0
  have hall : s.sameButNew ({ U with vm := s.vm } : State) locs mc ms := by
    subst hA
    obtain ⟨e1, e2⟩ := hsame
    rw [State.setFrames_setFrames] at e1
    have h2 : (T.setVm s.vm).sameButNew ({ U with vm := s.vm } : State) [] (0 + 1) (0 + 6) := ⟨e1, e2⟩
    have h3 := X.same.trans h2
    rw [List.append_nil] at h3
    exact h3.mono hc hs
  refine ⟨U, ?_, .threw T.heap.size, hrun, hend, Or.inr ⟨T.heap.size, rfl, jx_N, ce, locs, hx U hWs.alike f1 (fun q hq => f2 q hq (fun z hz => nomatch hz)), hce, hcv, hcl, hWs, hall, hf⟩⟩
  refine st1 _ ?_
  show Steps p.tables e below (T1.setTop { method := m, pc := pc + 3, locals := ls, stack := .ref T.heap.size :: rest, locked := none }) _
  jvm_step X₁.here [X₁.here.top, hexec, d3', Value.category]
  exact X₁.ldcString hexec (own := RX9) (text := text) (index := is) (a := sa) hown' hstr'.1 hstr'.2
    (g := { method := m, pc := pc + 4, locals := ls, stack := .ref T.heap.size :: .ref T.heap.size :: rest, locked := none }) rfl d4' _ hsteps
end JXT
end
section
/-- every place that throws: its code, its method's room -/
def jx_ck (m k : Nat) (e : Instr × Nat × Int) : Bool := match e.1 with
  | .new i => Nat.beq i 153 && (Nat.beq (jm_mi m).1 9 && (Nat.ble 6 (jm_mi m).2.2.2.2.1 && (Nat.ble 82 (jm_mi m).2.2.2.2.2.1 && (decide (decode (jm_b m) (jm_bp m k) = .ok (.new 153, 3)) && (decide (decode (jm_b m) (jm_bp m k + 3) = .ok (.dup, 1)) && ((List.range 5).any (fun j => decide (decode (jm_b m) (jm_bp m k + 4) = .ok (.ldc (jm_xix.getD j 0), 2))) && (decide (decode (jm_b m) (jm_bp m k + 6) = .ok (.invokespecial 157, 3)) && decide (decode (jm_b m) (jm_bp m k + 9) = .ok (.athrow, 1)))))))))
  | _ => true
def jx_ckL (m : Nat) : Nat → List (Instr × Nat × Int) → Bool
  | _, [] => true
  | k, e :: l => jx_ck m k e && jx_ckL m (k + 1) l
set_option maxRecDepth 100000 in
theorem jx_ok : ∀ m, m < 216 → jx_ckL m 0 ((jm_nth jm_cdT m).getD []) = true := by decide +kernel
theorem jx_ckL_at (m : Nat) : ∀ (l : List (Instr × Nat × Int)) (j i : Nat) (e : Instr × Nat × Int), jx_ckL m j l = true → jm_nth l i = some e → jx_ck m (j + i) e = true
  | [], _, _, _, _, h => nomatch h
  | a :: l, j, 0, e, h, hi => by
    have h1 : (jx_ck m j a && jx_ckL m (j + 1) l) = true := h
    rw [Bool.and_eq_true] at h1
    have h2 : a = e := Option.some.inj hi
    rw [← h2]
    exact h1.1
  | a :: l, j, i + 1, e, h, hi => by
    have h1 : (jx_ck m j a && jx_ckL m (j + 1) l) = true := h
    rw [Bool.and_eq_true] at h1
    have := jx_ckL_at m l (j + 1) i e h1.2 hi
    rw [show j + (i + 1) = j + 1 + i by omega]
    exact this
theorem jx_new {m k i a : Nat} {z : Int} (hm : m < 216) (h : jm_rc m k = some (.new i, a, z)) : (jm_mi m).1 = 9 ∧ 6 ≤ (jm_mi m).2.2.2.2.1 ∧ 82 ≤ (jm_mi m).2.2.2.2.2.1 ∧ decode (jm_b m) (jm_bp m k) = .ok (.new 153, 3) ∧ decode (jm_b m) (jm_bp m k + 3) = .ok (.dup, 1) ∧ (∃ j, j < 5 ∧ decode (jm_b m) (jm_bp m k + 4) = .ok (.ldc (jm_xix.getD j 0), 2)) ∧ decode (jm_b m) (jm_bp m k + 6) = .ok (.invokespecial 157, 3) ∧ decode (jm_b m) (jm_bp m k + 9) = .ok (.athrow, 1) := by
  unfold jm_rc at h
  have h0 := jx_ok m hm
  cases hl : jm_nth jm_cdT m with
  | none => rw [hl] at h; cases h
  | some l =>
    rw [hl] at h h0
    have h1 := jx_ckL_at m l 0 k _ h0 h
    rw [Nat.zero_add] at h1
    have h1 : (Nat.beq i 153 && (Nat.beq (jm_mi m).1 9 && (Nat.ble 6 (jm_mi m).2.2.2.2.1 && (Nat.ble 82 (jm_mi m).2.2.2.2.2.1 && (decide (decode (jm_b m) (jm_bp m k) = .ok (.new 153, 3)) && (decide (decode (jm_b m) (jm_bp m k + 3) = .ok (.dup, 1)) && ((List.range 5).any (fun j => decide (decode (jm_b m) (jm_bp m k + 4) = .ok (.ldc (jm_xix.getD j 0), 2))) && (decide (decode (jm_b m) (jm_bp m k + 6) = .ok (.invokespecial 157, 3)) && decide (decode (jm_b m) (jm_bp m k + 9) = .ok (.athrow, 1)))))))))) = true := h1
    simp only [Bool.and_eq_true] at h1
    obtain ⟨-, b1, b2, b3, b4, b5, b6, b7, b8⟩ := h1
    obtain ⟨j, hj, b6⟩ := List.any_eq_true.mp b6
    exact ⟨Nat.eq_of_beq_eq_true b1, Nat.le_of_ble_eq_true b2, Nat.le_of_ble_eq_true b3, of_decide_eq_true b4, of_decide_eq_true b5, ⟨j, List.mem_range.mp hj, of_decide_eq_true b6⟩, of_decide_eq_true b7, of_decide_eq_true b8⟩
/-- what holds where a method of the class has thrown -/
def jx_X (dC : Nat → ClassId) (dI : Nat → Nat → Nat) (cA : Nat → ClassId) (ad : Nat → Nat) (ids : List Nat) (M1 : jm_Mem) (A : Nat → Prop) : String → State → State → Prop := fun E st t => E = jx_N ∧ va_P (dC, dI) vwCl (jm_wd cA ad ids M1) t.heap ∧ jm_okM M1 ∧ va_F A st t
/-- the contract of a method that throws here, out of soundness -/
theorem js_xmet {l : Launch} {dC : Nat → ClassId} {dI : Nat → Nat → Nat} {cA : Nat → ClassId} {ad adV : Nat → Nat} {ids : List Nat} {n : Nat} (hl : l.stackTraces = false) (hS : jm_S l dC dI cA ad adV ids n) {mi : Nat} {as : List jm_V} {M M1 : jm_Mem} (sz : Nat) (hmi : mi < 216) (hwp : jm_wp n mi (0, jm_pad as (jm_mi mi).2.2.2.1, [], M) (fun r M' => r = jm_thr ∧ M' = M1)) (has : ∀ v ∈ as, jm_okv ids mi v) (hnl : ∀ v ∈ as, ∀ x, v = .inr (.inr x) → mi = 140) (hcat : jm_cat as ≤ (jm_mi mi).2.2.2.1) (hM : jm_okM M) {A0 : Nat → Prop} (wk : jm_wok ad ids A0) :
    vx_Met l (jm_y mi) (jm_ws mi) ({ frames := (jm_mi mi).2.2.2.2.1, cells := (M1 999 0 - M 999 0).toNat + 1, slots := (M1 999 1 - M 999 1).toNat + 6, locals := (jm_mi mi).2.2.2.2.2.1 }) (va_Pc (as.map (jm_val ad)) (fun U => U.heap.size = sz ∧ va_P (dC, dI) vwCl (jm_wd cA ad ids M) U.heap ∧ jm_ctx dC dI cA ad adV (va_A (jm_wd cA ad ids M) sz) U U.heap)) (fun _ _ _ _ => False) (jx_X dC dI cA ad ids M1 (va_A (jm_wd cA ad ids M) sz)) ((M1 999 0 - M 999 0).toNat + 1) ((M1 999 1 - M 999 1).toNat + 6) (va_A (jm_wd cA ad ids M) sz) := by
  obtain ⟨n1, n2, -, -, -, n6⟩ := jm_mn_ok mi hmi
  refine vx_ofW (cc := jm_b mi) (maxL := (jm_mi mi).2.2.2.1) (ret := jm_r mi) n6 rfl ?_
  intro p e s mid args below meth c s₁ B hml htab hv
  obtain ⟨rfl, hsz, hP, hC⟩ := hv
  have hts := atoms_spec (ws := jm_ws mi) B.pre
  have hown : s.vm.findClass (jm_y mi).cls = some mid.cls := findClass_of_methodNamed B.named
  have hlocks := B.notSynchronized
  subst hsz
  have hF : jm_F p ({ frames := (jm_mi mi).2.2.2.2.1, cells := (M1 999 0 - M 999 0).toNat + 1, slots := (M1 999 1 - M 999 1).toNat + 6, locals := (jm_mi mi).2.2.2.2.2.1 }) s mid (as.map (jm_val ad)).toArray c dC dI cA ad adV ids (va_A (jm_wd cA ad ids M) s.heap.size) mi := by
    refine ⟨B.exec, B.bytes, hml, by rw [← n2]; exact hown, fun w h => hts w (List.mem_cons_of_mem _ h), Nat.le_refl _, Nat.le_refl _, hC, ⟨wk.1, wk.2.1, wk.2.2.1, fun d hd => ?_, wk.2.2.2.2⟩, fun q h => Or.inr h⟩
    obtain ⟨q0, -, hq⟩ := jm_wd_at (cA := cA) (ad := ad) (M := M) hd
    exact Or.inl ⟨q0, _, hq⟩
  have hll := lv_entry (as.map (jm_val ad)) (n := (jm_mi mi).2.2.2.1) (by rw [jm_sl_len]; exact hcat)
  rw [lg_entry_eq]
  generalize (lg_sl (as.map (jm_val ad)) ++ List.replicate ((jm_mi mi).2.2.2.1 - (lg_sl (as.map (jm_val ad))).length) Slot.unset).toArray = JL at hll ⊢
  have hmz : mi ≠ 216 := by omega
  have hG := hS mi _ _ hwp p e ({ frames := (jm_mi mi).2.2.2.2.1, cells := (M1 999 0 - M 999 0).toNat + 1, slots := (M1 999 1 - M 999 1).toNat + 6, locals := (jm_mi mi).2.2.2.2.2.1 }) s mid _ below meth c (va_A (jm_wd cA ad ids M) s.heap.size) (vx_MQ below (fun _ _ _ _ => False) (jx_X dC dI cA ad ids M1 (va_A (jm_wd cA ad ids M) s.heap.size)) (as.map (jm_val ad)).toArray s ((M1 999 0 - M 999 0).toNat + 1) ((M1 999 1 - M 999 1).toNat + 6) (va_A (jm_wd cA ad ids M) s.heap.size)) (M 999 0) (M 999 1) (fun _ => 0) hF (fun q => absurd q hmz) (fun r M' h => by rw [h.2]; exact ⟨Nat.le_succ _, Nat.le_add_right _ _⟩) (by
      intro r M' k' JL' H locs hq he hoM hsz' hP' hS' hg1 hg2
      obtain ⟨rfl, rfl⟩ := hq
      obtain ⟨i, a, z, hrc⟩ := he
      obtain ⟨c1, c2, c3, d0, d3, ⟨j, hj, d4⟩, d6, d9⟩ := jx_new hmi hrc
      obtain ⟨sa, hstr⟩ := hC.2.2.2.1 j hj
      have hown9 : s.vm.findClass RX9 = some mid.cls := by
        rw [n2, c1] at hown
        exact hown
      exact jx_throw (sa := sa) B.exec B.bytes hl hown9 (fun w h => hts w (List.mem_cons_of_mem _ h)) hC.2.2.2.2.2.2.2.2 hstr hC.2.2.2.2.1 hC.2.2.2.2.2.1 hS' (hsz'.trans hml.symm) d0 d3 d4 d6 d9 (fun x hx => (htab x hx).elim) (by show 5 < (jm_mi mi).2.2.2.2.1; omega) (by show 0 + 82 ≤ (jm_mi mi).2.2.2.2.2.1; omega) (Nat.le_refl _) (Nat.le_refl _) hlocks (fun t _ ht1 ht2 => ⟨rfl, hP'.kept (fun k q hk => ht2 _ ((hP' k q hk).lt)), hoM, Nat.le_trans hS'.1 ht1, fun q hq1 hq2 => (ht2 q (Nat.lt_of_lt_of_le hq1 hS'.1)).trans (hS'.2.1 q hq1 hq2)⟩) hS'.2.2 (Nat.le_refl _) (Nat.le_refl _))
  have := hG JL s.heap [] ⟨hll.1, hll.2.1, fun i v hv => ?_⟩ (fun v hv => nomatch hv) hM hP va_S.rf (Int.le_refl _) (Int.le_refl _) (fun q => absurd q hmz)
  · dsimp only at this
    rw [Int.sub_self, Int.sub_self] at this
    have hbp : jm_bp mi 0 = 0 := by
      have : ∀ q, q < 216 → jm_bp q 0 = 0 := by decide +kernel
      exact this mi hmi
    rw [hbp] at this
    exact this
  · obtain ⟨h1, h2⟩ := jm_pad_at (ad := ad) as _ 0 i v hv
    rw [Nat.zero_add] at h1
    exact ⟨hll.2.2 _ h1, has v h2, fun x hx => hnl v h2 x hx⟩
end
section
/-! THE LAW'S OWN METHODS -/
abbrev jw_pre (dC : Nat → ClassId) (dI : Nat → Nat → Nat) (cA : Nat → ClassId) (ad adV : Nat → Nat) (ids : List Nat) (M : jm_Mem) (sz : Nat) : State → Prop := fun U => U.heap.size = sz ∧ va_P (dC, dI) vwCl (jm_wd cA ad ids M) U.heap ∧ jm_ctx dC dI cA ad adV (va_A (jm_wd cA ad ids M) sz) U U.heap
abbrev jw_post (dC : Nat → ClassId) (dI : Nat → Nat → Nat) (cA : Nat → ClassId) (ad : Nat → Nat) (ids : List Nat) (M2 : jm_Mem) (r : Int) (A : Nat → Prop) : Array Value → State → Outcome → State → Prop := fun _ s0 oc t => (oc = .returned (some (.int (Int32.ofInt r))) ∧ va_P (dC, dI) vwCl (jm_wd cA ad ids M2) t.heap ∧ jm_okM M2) ∧ va_F A s0 t
section JW
variable {p : Program} {l : Launch} {e : Env} {R : Room} {s : State} {mid : MethodId} {args : Array Value} {below : List Frame} {meth : Method} {c : Code}
variable {dC : Nat → ClassId} {dI : Nat → Nat → Nat} {cA : Nat → ClassId} {ad adV : Nat → Nat} {ids : List Nat} {M M1 : jm_Mem} {mi iv nL : Nat} {as' : List jm_V} {cc : ByteArray} {FQ : State → Prop} {rm : Room} {mc ms : Nat}
theorem jw_cw (hts : ∀ w ∈ jm_g, w.before args s = true) (hmi : mi < 216) (hv : (jm_mi mi).2.1 = 1) (hn : (jm_mi mi).2.2.1 = as'.length + 1) (hlink : Cond.methodLink RL iv (jm_y mi) ∈ jm_g) (hrc : rm.cells = mc) (hrs : rm.slots = ms) (hR : rm.frames + 1 ≤ R.frames ∧ 8 + ((jm_mi mi).2.2.2.1 + 11) + rm.locals ≤ R.locals) : CallW R s args RL (jm_y mi).cls iv (jm_y mi) (jm_b mi) (jm_mi mi).2.2.2.1 (jm_r mi) (jm_ws mi) rm mc ms as'.length := by
  obtain ⟨n1, n2, n3, n4, n5, n6⟩ := jm_mn_ok mi hmi
  obtain ⟨v1, v2⟩ := jm_mv_ok mi hmi hv
  have hgood : GoodIn jm_g (wsV RL iv (jm_y mi).cls (jm_y mi) (jm_ws mi)) := by
    intro w hw
    unfold wsV at hw
    have hin : w ∈ jm_g := by
      rcases List.mem_append.mp hw with hw | hw
      · simp only [List.mem_cons, List.not_mem_nil, or_false] at hw
        rcases hw with rfl | rfl | rfl | rfl
        · exact hlink
        · exact jm_in_g _ v1 rfl
        · exact jm_in_g _ v2 rfl
        · exact jm_in_g _ n1 rfl
      · rcases List.mem_cons.mp hw with rfl | hw
        · exact jm_mc_ok hmi
        · exact hw
    exact jm_g_good w hin
  have hlen : (parseMethodDescriptor (jm_y mi).desc).map (fun d => d.parameters.length) = some as'.length := by
    cases hd2 : parseMethodDescriptor (jm_y mi).desc with
    | none => rw [hd2] at n5; cases n5
    | some d =>
      rw [hd2] at n5
      have n5 : d.parameters.length + (jm_mi mi).2.1 = (jm_mi mi).2.2.1 := Option.some.inj n5
      rw [hv, hn] at n5
      show some d.parameters.length = some as'.length
      congr 1
      omega
  exact cwV (ret := jm_r mi) (bytes := jm_b mi) (maxL := (jm_mi mi).2.2.2.1) (R := R) (C := (jm_y mi).cls) as'.length hts hgood rfl hrc hrs ⟨rfl, n3, n4, hlen⟩ hR
theorem jw_hp (hmi : mi < 216) (hcl : (jm_mi mi).1 = 9) (hP : va_P (dC, dI) vwCl (jm_wd cA ad ids M) s.heap) (hC : jm_ctx dC dI cA ad adV (va_A (jm_wd cA ad ids M) s.heap.size) s s.heap) (h0 : 0 ∈ ids) : PreV s s.heap (jm_y mi).cls (ad 0) (va_Pc ((.inr (.inl 0) :: as').map (jm_val ad)) (jw_pre dC dI cA ad adV ids M s.heap.size)) (as'.map (jm_val ad)) := by
  obtain ⟨n1, n2, n3, n4, n5, n6⟩ := jm_mn_ok mi hmi
  refine ⟨fun a9 U g9 mk q => ⟨q.1, q.2.1, q.2.2.1, jm_ctx_blind q.2.2.2⟩, ?_, fun U hU hW => ⟨rfl, by rw [hU], by rw [hU]; exact hP, ?_⟩⟩
  · obtain ⟨o1, o2, o3, o4⟩ := jm_sh_obj (c0 := 0) (ci := (jm_mi mi).1) (by rw [hcl]; rfl) (by decide)
    obtain ⟨q0, -, hq⟩ := jm_wd_at (cA := cA) (ad := ad) (M := M) h0
    rw [o4] at hq
    have := va_recv hC.1 hP (jm_cl_ok _ o1) hq
    rw [n2]
    exact this
  · rw [hU]
    exact jm_ctx_to hC hW (fun _ _ _ => rfl) (fun _ h => h)
theorem jw_wok {A0 : Nat → Prop} (wk : jm_wok ad ids A0) (sz : Nat) : jm_wok ad ids (va_A (jm_wd cA ad ids M) sz) := by
  refine ⟨wk.1, wk.2.1, wk.2.2.1, fun d hd => ?_, wk.2.2.2.2⟩
  obtain ⟨q0, -, hq⟩ := jm_wd_at (cA := cA) (ad := ad) (M := M) hd
  exact Or.inl ⟨q0, _, hq⟩
/-- it came back with a number: that goes into out[0] -/
theorem jw_num {pc : Nat} {JL : Array Slot} {x : Int} {A0 : Nat → Prop} (hx : p.tables.exec = Jvm.exec) (hb : c.code = cc) (hml : c.maxLocals = nL) (hown : s.vm.findClass RL = some mid.cls) (hts : ∀ w ∈ jm_g, w.before args s = true) (hmi : mi < 216) (hv : (jm_mi mi).2.1 = 1) (hcl : (jm_mi mi).1 = 9) (hn : (jm_mi mi).2.2.1 = as'.length + 1) (hlink : Cond.methodLink RL iv (jm_y mi) ∈ jm_g) (hsz : JL.size = nL) (hP : va_P (dC, dI) vwCl (jm_wd cA ad ids M) s.heap) (hC : jm_ctx dC dI cA ad adV (va_A (jm_wd cA ad ids M) s.heap.size) s s.heap) (h0 : 0 ∈ ids) (h94 : 94 ∈ ids) (wk : jm_wok ad ids A0) (hrc : rm.cells = mc) (hrs : rm.slots = ms) (hR : rm.frames + 1 ≤ R.frames ∧ 8 + ((jm_mi mi).2.2.2.1 + 11) + rm.locals ≤ R.locals) (hcap : mc ≤ R.cells ∧ ms ≤ R.slots)
    (hmet : Met l (jm_y mi) (jm_ws mi) rm (va_Pc ((.inr (.inl 0) :: as').map (jm_val ad)) (jw_pre dC dI cA ad adV ids M s.heap.size)) (fun _ s0 oc t => (oc = .returned ((some (.inl x) : Option jm_V).map (jm_val ad)) ∧ va_P (dC, dI) vwCl (jm_wd cA ad ids M1) t.heap ∧ jm_okM M1 ∧ ∀ y, (some (.inl x) : Option jm_V) = some (.inl y) → jm_in y) ∧ va_F (va_A (jm_wd cA ad ids M) s.heap.size) s0 t) mc ms (va_A (jm_wd cA ad ids M) s.heap.size))
    (hd : decode cc pc = .ok (.invokevirtual iv, 3)) (d3 : decode cc (pc + 3) = .ok (.i2l, 1)) (d4 : decode cc (pc + 4) = .ok (.lastore, 1))
    (kk : ∀ (H1 : Heap) (locs1 : List Loc), va_P (dC, dI) vwCl (jm_wd cA ad ids (jm_st M1 94 0 x)) H1 → jm_okM (jm_st M1 94 0 x) → va_S (va_A (jm_wd cA ad ids M) s.heap.size) s.heap H1 locs1 → W p l e R s mid args below meth c H1 locs1 mc ms FQ (F0 mid (pc + 5) JL [])) :
    W p l e R s mid args below meth c s.heap [] 0 0 FQ (F0 mid pc JL ((as'.map (jm_val ad)).reverse ++ .ref (ad 0) :: [.int 0, .ref (ad 94)])) := by
  refine js_after (va_runV (As := as'.map (jm_val ad)) (rest := [.int 0, .ref (ad 94)]) (b := ad 0) ⟨hx, hb, hml, hown, hts⟩ hmet (jw_cw (as' := as') hts hmi hv hn hlink hrc hrs hR) (jw_hp hmi hcl hP hC h0) (g := F0 mid pc JL ((as'.map (jm_val ad)).reverse ++ .ref (ad 0) :: [.int 0, .ref (ad 94)])) rfl (by rw [List.length_map]) hsz rfl (lv_room (Nat.le_of_ble_eq_true rfl)) hd (by rw [Nat.zero_add, Nat.zero_add]; exact hcap)) va_S.rf (fun q _ h => h) (fun q h => h) (r1 := some (.int (Int32.ofInt x))) (B := fun H1 => va_P (dC, dI) vwCl (jm_wd cA ad ids M1) H1 ∧ jm_okM M1 ∧ jm_in x) (fun s0 v t hs0 hq => ?_) (fun H1 locs1 hB hS1 => ?_)
  · obtain ⟨⟨q1, q2, q3, q4⟩, q5, q6⟩ := hq
    rw [hs0] at q5 q6
    cases q1
    exact ⟨rfl, ⟨q2, q3, q4 x rfl⟩, q5, q6⟩
  · obtain ⟨p1, p2, p3⟩ := hB
    rw [Nat.zero_add, Nat.zero_add]
    refine lv_i2l (v := Int64.ofInt x) hx hb d3 (jn_long p3) ?_
    obtain ⟨q0, hq0, hw0⟩ := jm_wd_at (cA := cA) (ad := ad) (M := M1) h94
    rw [jm_ce_3 (show jm_sh 94 = (3, 1, []) from rfl)] at hw0
    refine va_last hx hb hC.1 p1 (jm_wd_D M1 (jw_wok wk _)) hS1 q0 3 hw0 rfl (vp_in_nI (n := 0) (N := 1) (by decide) (by decide)) d4 (fun H2 locs2 gP gD gS => ?_)
    refine kk H2 locs2 ?_ (jm_okM_st p2 p3) gS
    have e1 : (vp_updL (fun j => Int64.ofInt (M1 94 (j : Int))) ((nI 0).toNatClampNeg) (Int64.ofInt x)) = (fun j : Nat => Int64.ofInt (jm_st M1 94 0 x 94 (j : Int))) := by
      funext j
      rw [jm_st_eq]
      unfold vp_updL
      by_cases hj : j = 0
      · subst hj
        rfl
      · rw [if_neg (by rw [nI_clamp (by decide)]; exact hj), if_neg (by omega)]
    have e2 : jm_ce cA ad (jm_st M1 94 0 x) 94 = .inl (cA 3, 1, .inr (.inl (vp_updL (fun j => Int64.ofInt (M1 94 (j : Int))) ((nI 0).toNatClampNeg) (Int64.ofInt x)))) := by
      rw [jm_ce_3 (show jm_sh 94 = (3, 1, []) from rfl), e1]
    have e3 := jm_wd_set (cA := cA) (ad := ad) (M := M1) (M' := jm_st M1 94 0 x) wk.1 hq0 (fun d hd => jm_st_ne hd)
    rw [e2] at e3
    rw [← e3]
    exact gP
/-- it has thrown: caught -/
theorem jw_thr {pc h1 h2 : Nat} {JL : Array Slot} (hx : p.tables.exec = Jvm.exec) (hb : c.code = cc) (hml : c.maxLocals = nL) (hown : s.vm.findClass RL = some mid.cls) (hts : ∀ w ∈ jm_g, w.before args s = true) (hmi : mi < 216) (hv : (jm_mi mi).2.1 = 1) (hcl : (jm_mi mi).1 = 9) (hn : (jm_mi mi).2.2.1 = as'.length + 1) (hlink : Cond.methodLink RL iv (jm_y mi) ∈ jm_g) (hsz : JL.size = nL) (hP : va_P (dC, dI) vwCl (jm_wd cA ad ids M) s.heap) (hC : jm_ctx dC dI cA ad adV (va_A (jm_wd cA ad ids M) s.heap.size) s s.heap) (h0 : 0 ∈ ids) (hrc : rm.cells = mc) (hrs : rm.slots = ms) (hR : rm.frames + 1 ≤ R.frames ∧ 8 + ((jm_mi mi).2.2.2.1 + 11) + rm.locals ≤ R.locals) (hcap : mc ≤ R.cells ∧ ms ≤ R.slots)
    (hmet : vx_Met l (jm_y mi) (jm_ws mi) rm (va_Pc ((.inr (.inl 0) :: as').map (jm_val ad)) (jw_pre dC dI cA ad adV ids M s.heap.size)) (fun _ _ _ _ => False) (jx_X dC dI cA ad ids M1 (va_A (jm_wd cA ad ids M) s.heap.size)) mc ms (va_A (jm_wd cA ad ids M) s.heap.size))
    (hd : decode cc pc = .ok (.invokevirtual iv, 3)) (htab : c.exceptionTable.toList = tableOf [(0, h1, h2, 13)]) (hcov : covers ⟨0, h1, h2, 13⟩ pc = true) (hclass : Cond.classLink RL 13 jx_N ∈ jm_g)
    (kk : ∀ (H1 : Heap) (locs1 : List Loc) (q : Nat), va_P (dC, dI) vwCl (jm_wd cA ad ids M1) H1 → jm_okM M1 → va_S (va_A (jm_wd cA ad ids M) s.heap.size) s.heap H1 locs1 → W p l e R s mid args below meth c H1 locs1 mc ms FQ (F0 mid h2 JL [.ref q])) :
    W p l e R s mid args below meth c s.heap [] 0 0 FQ (F0 mid pc JL ((as'.map (jm_val ad)).reverse ++ .ref (ad 0) :: [.int 0, .ref (ad 94)])) := by
  have hr := vx_runV (below := below) (meth := meth) (e := e) (locs := []) (cells := 0) (slots := 0) (As := as'.map (jm_val ad)) (rest := [.int 0, .ref (ad 94)]) (b := ad 0) ⟨hx, hb, hml, hown, hts⟩ hmet (jw_cw (as' := as') hts hmi hv hn hlink hrc hrs hR) (jw_hp hmi hcl hP hC h0) (g := F0 mid pc JL ((as'.map (jm_val ad)).reverse ++ .ref (ad 0) :: [.int 0, .ref (ad 94)])) rfl (by rw [List.length_map]) hsz rfl (lv_room (Nat.le_of_ble_eq_true rfl)) hd (by rw [Nat.zero_add, Nat.zero_add]; exact hcap)
  intro T hT X
  rcases hr T hT X with ⟨v, st₀, t, T', L, -, -, -, -, -, hq, -⟩ | ⟨q, st₀, t, T', L, E, ce, e0, X', hL, e1, e2, ⟨rfl, hP1, hok, hF1⟩, hce, hcv, hcls, st⟩
  · exact hq.elim
  · obtain ⟨k1, k2, k3⟩ := vx_keep e0 e1 va_S.rf (fun q _ h => h) (fun q h => h) hL hF1
    have hw : vx_W p l e R s mid args below meth c T'.heap ([] ++ L) (0 + mc) (0 + ms) FQ (F0 mid pc JL [.int 0, .ref (ad 94)]) q := by
      refine vx_catch hown [] ⟨0, h1, h2, 13⟩ [] htab (fun z hz => nomatch hz) hcov (by show (13 : Nat) ≠ 0; decide) (hts _ hclass) (va_tabs rfl rfl (hC.2.2.2.2.2.2.2.2 (.castable jx_N jx_N) List.mem_cons_self)) (by rw [e1]; exact hce) hcv hcls ?_
      rw [Nat.zero_add, Nat.zero_add]
      exact kk _ _ q (by rw [e1]; exact hP1) hok k3
    obtain ⟨t2, a1, b1⟩ := hw T' rfl X'
    exact ⟨t2, st.trans a1, b1⟩
end JW
end
section
def jw_D1 (cc : ByteArray) (iv : Nat) : Prop := decode cc 0 = .ok (.aload_n 2, 1) ∧ decode cc 1 = .ok (.iconst 0, 1) ∧ decode cc 2 = .ok (.aload_n 0, 1) ∧ decode cc 3 = .ok (.iload_n 1, 1) ∧ decode cc 4 = .ok (.invokevirtual iv, 3) ∧ decode cc 7 = .ok (.i2l, 1) ∧ decode cc 8 = .ok (.lastore, 1) ∧ decode cc 9 = .ok (.goto 6, 3) ∧ decode cc 12 = .ok (.astore_n 3, 1) ∧ decode cc 13 = .ok (.iconst 1, 1) ∧ decode cc 14 = .ok (.ireturn, 1) ∧ decode cc 15 = .ok (.iconst 0, 1) ∧ decode cc 16 = .ok (.ireturn, 1)
theorem jw_met1 {l : Launch} {dC : Nat → ClassId} {dI : Nat → Nat → Nat} {cA : Nat → ClassId} {ad adV : Nat → Nat} {ids : List Nat} {n : Nat} (hl : l.stackTraces = false) (hS : jm_S l dC dI cA ad adV ids n) {y : MethodName} {cc : ByteArray} {iv mi : Nat} (hD : jw_D1 cc iv) (hy : plainName y.cls = true) (hyc : y.cls = RL) {x1 : Int} {M M2 : jm_Mem} {r : Int} (sz : Nat) (hmi : mi < 216) (hv : (jm_mi mi).2.1 = 1) (hcl : (jm_mi mi).1 = 9) (hn : (jm_mi mi).2.2.1 = 2) (hcat : 2 ≤ (jm_mi mi).2.2.2.1) (hlink : Cond.methodLink RL iv (jm_y mi) ∈ jm_g) (hclass : Cond.classLink RL 13 jx_N ∈ jm_g)
    (hwp : jm_wp n mi (0, jm_pad [.inr (.inl 0), .inl x1] (jm_mi mi).2.2.2.1, [], M) (fun r' M' => (r' = jm_thr ∧ r = 1 ∧ M2 = jm_gh M' 1 6) ∨ ∃ x, r' = some (.inl x) ∧ r = 0 ∧ M2 = jm_st M' 94 0 x))
    (has : ∀ v ∈ ([.inr (.inl 0), .inl x1] : List jm_V), jm_okv ids mi v) (h0 : 0 ∈ ids) (h94 : 94 ∈ ids) (hM : jm_okM M) {A0 : Nat → Prop} (wk : jm_wok ad ids A0) :
    Met l y (Cond.codeWith y cc 4 (some .int) [(0, 9, 12, 13)] :: jm_g) ({ frames := (jm_mi mi).2.2.2.2.1 + 1, cells := (M2 999 0 - M 999 0).toNat, slots := (M2 999 1 - M 999 1).toNat, locals := 8 + ((jm_mi mi).2.2.2.1 + 11) + (jm_mi mi).2.2.2.2.2.1 }) (va_Pc [.ref (ad 0), .int (Int32.ofInt x1), .ref (ad 94)] (jw_pre dC dI cA ad adV ids M sz)) (jw_post dC dI cA ad ids M2 r (va_A (jm_wd cA ad ids M) sz)) (M2 999 0 - M 999 0).toNat (M2 999 1 - M 999 1).toNat (va_A (jm_wd cA ad ids M) sz) := by
  obtain ⟨e0, e1, e2, e3, e4, e5, e6, e7, e8, e9, e10, e11, e12⟩ := hD
  obtain ⟨r1, M1, hk, hdet⟩ := jm_wp_det _ _ _ _ hwp
  have hwp1 : jm_wp n mi (0, jm_pad [.inr (.inl 0), .inl x1] (jm_mi mi).2.2.2.1, [], M) (fun r' M' => r' = r1 ∧ M' = M1) := hdet n (Nat.le_refl _) _ ⟨rfl, rfl⟩
  obtain ⟨r2, M3, ⟨q1, q2⟩, hle⟩ := jm_wp_le _ _ _ _ hwp1
  subst q1; subst q2
  have hle0 : M 999 0 ≤ M3 999 0 := hle.1
  have hle1 : M 999 1 ≤ M3 999 1 := hle.2.1
  have hnl : ∀ v ∈ ([.inr (.inl 0), .inl x1] : List jm_V), ∀ x, v = .inr (.inr x) → mi = 140 := by
    intro v hv' x hx
    subst hx
    simp at hv'
  refine va_MetW (cc := cc) (maxL := 4) (ret := some .int) (hh := [(0, 9, 12, 13)]) hy rfl ?_
  intro p e s mid args below meth c s₁ B hml hv'
  obtain ⟨rfl, hsz, hP, hC⟩ := hv'
  subst hsz
  have hx := B.exec
  have hb := B.bytes
  have hr := B.returns
  have hlocks := B.notSynchronized
  have hts0 := atoms_spec (ws := Cond.codeWith y cc 4 (some .int) [(0, 9, 12, 13)] :: jm_g) B.pre
  have hts : ∀ w ∈ jm_g, w.before _ s = true := fun w h => hts0 w (List.mem_cons_of_mem _ h)
  have htab := vx_table (x := y) B (hts0 _ List.mem_cons_self)
  have hown : s.vm.findClass RL = some mid.cls := by
    rw [← hyc]
    exact findClass_of_methodNamed B.named
  have hll := lv_entry ([.ref (ad 0), .int (Int32.ofInt x1), .ref (ad 94)] : List Value) (n := 4) (Nat.le_of_ble_eq_true rfl)
  rw [lg_entry_eq]
  generalize (lg_sl ([.ref (ad 0), .int (Int32.ofInt x1), .ref (ad 94)] : List Value) ++ List.replicate (4 - (lg_sl ([.ref (ad 0), .int (Int32.ofInt x1), .ref (ad 94)] : List Value)).length) Slot.unset).toArray = JL at hll ⊢
  have hll : lv_has JL 4 [(0, .ref (ad 0)), (1, .int (Int32.ofInt x1)), (2, .ref (ad 94))] := hll
  refine lv_aload_n hx hb e0 rfl (lv_at hll 2 rfl) ?_
  refine lv_iconst (v := 0) hx hb e1 (by decide) ?_
  refine lv_aload_n hx hb e2 rfl (lv_at hll 0 rfl) ?_
  refine lv_iload_n hx hb e3 rfl (lv_at hll 1 rfl) ?_
  rcases hk with ⟨rfl, rfl, rfl⟩ | ⟨x, rfl, rfl, rfl⟩
  · have m0 : (jm_gh M3 1 6 999 0 - M 999 0).toNat = (M3 999 0 - M 999 0).toNat + 1 := by rw [jm_gh_a]; omega
    have m1 : (jm_gh M3 1 6 999 1 - M 999 1).toNat = (M3 999 1 - M 999 1).toNat + 6 := by rw [jm_gh_b]; omega
    have hwd : jm_wd cA ad ids (jm_gh M3 1 6) = jm_wd cA ad ids M3 := by
      unfold jm_wd
      refine List.map_congr_left (fun d hd => ?_)
      have hd9 := wk.2.1 d hd
      have : jm_ce cA ad (jm_gh M3 1 6) d = jm_ce cA ad M3 d := jm_ce_congr (jm_gh_o 1 6 (by omega))
      rw [this]
    refine jw_thr (mi := mi) (as' := [.inl x1]) (M1 := M3) (mc := (M3 999 0 - M 999 0).toNat + 1) (ms := (M3 999 1 - M 999 1).toNat + 6) (nL := 4) (pc := 4) hx hb hml hown hts hmi hv hcl hn hlink hll.1 hP hC h0 rfl rfl ⟨Nat.le_refl _, Nat.le_refl _⟩ ⟨by show _ ≤ (jm_gh M3 1 6 999 0 - M 999 0).toNat; rw [m0]; exact Nat.le_refl _, by show _ ≤ (jm_gh M3 1 6 999 1 - M 999 1).toNat; rw [m1]; exact Nat.le_refl _⟩ (js_xmet hl hS s.heap.size hmi hwp1 has hnl hcat hM wk) e4 htab rfl hclass (fun H1 locs1 q gP gM gS => ?_)
    refine lv_astore_n (lv' := [(3, .ref q), (0, .ref (ad 0)), (1, .int (Int32.ofInt x1)), (2, .ref (ad 94))]) hx hb e8 rfl hll (by decide) rfl (fun L1 g1 => ?_)
    refine lv_iconst (v := 1) hx hb e9 (by decide) ?_
    rw [← m0, ← m1]
    exact W.iret hx hb hr (fun t ht _ => ⟨⟨rfl, by rw [ht, hwd]; exact gP, jm_okM_gh gM⟩, gS.F ht⟩) gS.2.2 e10
  · have m0 : jm_st M3 94 0 x 999 = M3 999 := jm_st_ne (by decide)
    rw [m0]
    refine jw_num (mi := mi) (as' := [.inl x1]) (M1 := M3) (x := x) (mc := (M3 999 0 - M 999 0).toNat) (ms := (M3 999 1 - M 999 1).toNat) (nL := 4) (pc := 4) hx hb hml hown hts hmi hv hcl hn hlink hll.1 hP hC h0 h94 wk rfl rfl ⟨Nat.le_refl _, Nat.le_refl _⟩ ⟨by show _ ≤ (jm_st M3 94 0 x 999 0 - M 999 0).toNat; rw [m0]; exact Nat.le_refl _, by show _ ≤ (jm_st M3 94 0 x 999 1 - M 999 1).toNat; rw [m0]; exact Nat.le_refl _⟩ (js_met hS s.heap.size hmi hwp1 (Or.inr ⟨x, rfl⟩) has hnl hcat hM wk) e4 e5 e6 (fun H1 locs1 gP gM gS => ?_)
    refine lv_goto (tgt := 15) hx hb e7 (by decide) ?_
    refine lv_iconst (v := 0) hx hb e11 (by decide) ?_
    exact W.iret hx hb hr (fun t ht _ => ⟨⟨rfl, by rw [ht]; exact gP, gM⟩, gS.F ht⟩) gS.2.2 e12
def jw_D2 (cc : ByteArray) (iv : Nat) : Prop := decode cc 0 = .ok (.aload_n 3, 1) ∧ decode cc 1 = .ok (.iconst 0, 1) ∧ decode cc 2 = .ok (.aload_n 0, 1) ∧ decode cc 3 = .ok (.iload_n 1, 1) ∧ decode cc 4 = .ok (.iload_n 2, 1) ∧ decode cc 5 = .ok (.invokevirtual iv, 3) ∧ decode cc 8 = .ok (.i2l, 1) ∧ decode cc 9 = .ok (.lastore, 1) ∧ decode cc 10 = .ok (.goto 7, 3) ∧ decode cc 13 = .ok (.astore 4, 2) ∧ decode cc 15 = .ok (.iconst 1, 1) ∧ decode cc 16 = .ok (.ireturn, 1) ∧ decode cc 17 = .ok (.iconst 0, 1) ∧ decode cc 18 = .ok (.ireturn, 1)
theorem jw_met2 {l : Launch} {dC : Nat → ClassId} {dI : Nat → Nat → Nat} {cA : Nat → ClassId} {ad adV : Nat → Nat} {ids : List Nat} {n : Nat} (hl : l.stackTraces = false) (hS : jm_S l dC dI cA ad adV ids n) {y : MethodName} {cc : ByteArray} {iv mi : Nat} (hD : jw_D2 cc iv) (hy : plainName y.cls = true) (hyc : y.cls = RL) {x1 x2 : Int} {M M2 : jm_Mem} {r : Int} (sz : Nat) (hmi : mi < 216) (hv : (jm_mi mi).2.1 = 1) (hcl : (jm_mi mi).1 = 9) (hn : (jm_mi mi).2.2.1 = 3) (hcat : 3 ≤ (jm_mi mi).2.2.2.1) (hlink : Cond.methodLink RL iv (jm_y mi) ∈ jm_g) (hclass : Cond.classLink RL 13 jx_N ∈ jm_g)
    (hwp : jm_wp n mi (0, jm_pad [.inr (.inl 0), .inl x1, .inl x2] (jm_mi mi).2.2.2.1, [], M) (fun r' M' => (r' = jm_thr ∧ r = 1 ∧ M2 = jm_gh M' 1 6) ∨ ∃ x, r' = some (.inl x) ∧ r = 0 ∧ M2 = jm_st M' 94 0 x))
    (has : ∀ v ∈ ([.inr (.inl 0), .inl x1, .inl x2] : List jm_V), jm_okv ids mi v) (h0 : 0 ∈ ids) (h94 : 94 ∈ ids) (hM : jm_okM M) {A0 : Nat → Prop} (wk : jm_wok ad ids A0) :
    Met l y (Cond.codeWith y cc 5 (some .int) [(0, 10, 13, 13)] :: jm_g) ({ frames := (jm_mi mi).2.2.2.2.1 + 1, cells := (M2 999 0 - M 999 0).toNat, slots := (M2 999 1 - M 999 1).toNat, locals := 8 + ((jm_mi mi).2.2.2.1 + 11) + (jm_mi mi).2.2.2.2.2.1 }) (va_Pc [.ref (ad 0), .int (Int32.ofInt x1), .int (Int32.ofInt x2), .ref (ad 94)] (jw_pre dC dI cA ad adV ids M sz)) (jw_post dC dI cA ad ids M2 r (va_A (jm_wd cA ad ids M) sz)) (M2 999 0 - M 999 0).toNat (M2 999 1 - M 999 1).toNat (va_A (jm_wd cA ad ids M) sz) := by
  obtain ⟨e0, e1, e2, e3, e4, e5, e6, e7, e8, e9, e10, e11, e12, e13⟩ := hD
  obtain ⟨r1, M1, hk, hdet⟩ := jm_wp_det _ _ _ _ hwp
  have hwp1 : jm_wp n mi (0, jm_pad [.inr (.inl 0), .inl x1, .inl x2] (jm_mi mi).2.2.2.1, [], M) (fun r' M' => r' = r1 ∧ M' = M1) := hdet n (Nat.le_refl _) _ ⟨rfl, rfl⟩
  obtain ⟨r2, M3, ⟨q1, q2⟩, hle⟩ := jm_wp_le _ _ _ _ hwp1
  subst q1; subst q2
  have hle0 : M 999 0 ≤ M3 999 0 := hle.1
  have hle1 : M 999 1 ≤ M3 999 1 := hle.2.1
  have hnl : ∀ v ∈ ([.inr (.inl 0), .inl x1, .inl x2] : List jm_V), ∀ x, v = .inr (.inr x) → mi = 140 := by
    intro v hv' x hx
    subst hx
    simp at hv'
  refine va_MetW (cc := cc) (maxL := 5) (ret := some .int) (hh := [(0, 10, 13, 13)]) hy rfl ?_
  intro p e s mid args below meth c s₁ B hml hv'
  obtain ⟨rfl, hsz, hP, hC⟩ := hv'
  subst hsz
  have hx := B.exec
  have hb := B.bytes
  have hr := B.returns
  have hlocks := B.notSynchronized
  have hts0 := atoms_spec (ws := Cond.codeWith y cc 5 (some .int) [(0, 10, 13, 13)] :: jm_g) B.pre
  have hts : ∀ w ∈ jm_g, w.before _ s = true := fun w h => hts0 w (List.mem_cons_of_mem _ h)
  have htab := vx_table (x := y) B (hts0 _ List.mem_cons_self)
  have hown : s.vm.findClass RL = some mid.cls := by
    rw [← hyc]
    exact findClass_of_methodNamed B.named
  have hll := lv_entry ([.ref (ad 0), .int (Int32.ofInt x1), .int (Int32.ofInt x2), .ref (ad 94)] : List Value) (n := 5) (Nat.le_of_ble_eq_true rfl)
  rw [lg_entry_eq]
  generalize (lg_sl ([.ref (ad 0), .int (Int32.ofInt x1), .int (Int32.ofInt x2), .ref (ad 94)] : List Value) ++ List.replicate (5 - (lg_sl ([.ref (ad 0), .int (Int32.ofInt x1), .int (Int32.ofInt x2), .ref (ad 94)] : List Value)).length) Slot.unset).toArray = JL at hll ⊢
  have hll : lv_has JL 5 [(0, .ref (ad 0)), (1, .int (Int32.ofInt x1)), (2, .int (Int32.ofInt x2)), (3, .ref (ad 94))] := hll
  refine lv_aload_n hx hb e0 rfl (lv_at hll 3 rfl) ?_
  refine lv_iconst (v := 0) hx hb e1 (by decide) ?_
  refine lv_aload_n hx hb e2 rfl (lv_at hll 0 rfl) ?_
  refine lv_iload_n hx hb e3 rfl (lv_at hll 1 rfl) ?_
  refine lv_iload_n hx hb e4 rfl (lv_at hll 2 rfl) ?_
  rcases hk with ⟨rfl, rfl, rfl⟩ | ⟨x, rfl, rfl, rfl⟩
  · have m0 : (jm_gh M3 1 6 999 0 - M 999 0).toNat = (M3 999 0 - M 999 0).toNat + 1 := by rw [jm_gh_a]; omega
    have m1 : (jm_gh M3 1 6 999 1 - M 999 1).toNat = (M3 999 1 - M 999 1).toNat + 6 := by rw [jm_gh_b]; omega
    have hwd : jm_wd cA ad ids (jm_gh M3 1 6) = jm_wd cA ad ids M3 := by
      unfold jm_wd
      refine List.map_congr_left (fun d hd => ?_)
      have hd9 := wk.2.1 d hd
      have : jm_ce cA ad (jm_gh M3 1 6) d = jm_ce cA ad M3 d := jm_ce_congr (jm_gh_o 1 6 (by omega))
      rw [this]
    refine jw_thr (mi := mi) (as' := [.inl x1, .inl x2]) (M1 := M3) (mc := (M3 999 0 - M 999 0).toNat + 1) (ms := (M3 999 1 - M 999 1).toNat + 6) (nL := 5) (pc := 5) hx hb hml hown hts hmi hv hcl hn hlink hll.1 hP hC h0 rfl rfl ⟨Nat.le_refl _, Nat.le_refl _⟩ ⟨by show _ ≤ (jm_gh M3 1 6 999 0 - M 999 0).toNat; rw [m0]; exact Nat.le_refl _, by show _ ≤ (jm_gh M3 1 6 999 1 - M 999 1).toNat; rw [m1]; exact Nat.le_refl _⟩ (js_xmet hl hS s.heap.size hmi hwp1 has hnl hcat hM wk) e5 htab rfl hclass (fun H1 locs1 q gP gM gS => ?_)
    refine lv_astore (lv' := [(4, .ref q), (0, .ref (ad 0)), (1, .int (Int32.ofInt x1)), (2, .int (Int32.ofInt x2)), (3, .ref (ad 94))]) hx hb e9 hll (by decide) rfl (fun L1 g1 => ?_)
    refine lv_iconst (v := 1) hx hb e10 (by decide) ?_
    rw [← m0, ← m1]
    exact W.iret hx hb hr (fun t ht _ => ⟨⟨rfl, by rw [ht, hwd]; exact gP, jm_okM_gh gM⟩, gS.F ht⟩) gS.2.2 e11
  · have m0 : jm_st M3 94 0 x 999 = M3 999 := jm_st_ne (by decide)
    rw [m0]
    refine jw_num (mi := mi) (as' := [.inl x1, .inl x2]) (M1 := M3) (x := x) (mc := (M3 999 0 - M 999 0).toNat) (ms := (M3 999 1 - M 999 1).toNat) (nL := 5) (pc := 5) hx hb hml hown hts hmi hv hcl hn hlink hll.1 hP hC h0 h94 wk rfl rfl ⟨Nat.le_refl _, Nat.le_refl _⟩ ⟨by show _ ≤ (jm_st M3 94 0 x 999 0 - M 999 0).toNat; rw [m0]; exact Nat.le_refl _, by show _ ≤ (jm_st M3 94 0 x 999 1 - M 999 1).toNat; rw [m0]; exact Nat.le_refl _⟩ (js_met hS s.heap.size hmi hwp1 (Or.inr ⟨x, rfl⟩) has hnl hcat hM wk) e5 e6 e7 (fun H1 locs1 gP gM gS => ?_)
    refine lv_goto (tgt := 17) hx hb e8 (by decide) ?_
    refine lv_iconst (v := 0) hx hb e12 (by decide) ?_
    exact W.iret hx hb hr (fun t ht _ => ⟨⟨rfl, by rw [ht]; exact gP, gM⟩, gS.F ht⟩) gS.2.2 e13
end
section
theorem jw_t1 : ∀ q ∈ jm_mbT, 910 ≤ q.2.2.1 → q.1 = 50 := by decide +kernel
theorem jw_t2 : ∀ m, m < 217 → (jm_mi m).1 = 50 → m = 216 := by decide +kernel
theorem jw_m {m k idx x : Nat} {z : Int} (hrc : jm_rc m k = some (.invokestatic idx, x, z)) (hx : 910 ≤ x) : m = 216 := by
  obtain ⟨hd, hp, h2⟩ := jm_nx hrc (by simp) rfl
  have h2 : jm_ck2 m (.invokestatic idx, x, z) = true := h2
  unfold jm_ck2 at h2
  dsimp only at h2
  have hb : Nat.blt x 216 = false := by
    cases hq : Nat.blt x 216 with
    | false => rfl
    | true => exact absurd (show x < 216 from Nat.le_of_ble_eq_true hq) (by omega)
  rw [hb] at h2
  dsimp only at h2
  rw [Bool.and_eq_true, Bool.and_eq_true] at h2
  obtain ⟨q, hq, e1, e2, e3⟩ := jm_any3 h2.1
  have h50 := jw_t1 q hq (by omega)
  rcases Nat.lt_or_ge m 217 with hm | hm
  · exact jw_t2 m hm (by omega)
  · exfalso
    have hn : ∀ {α : Type} (l : List α) (n : Nat), l.length ≤ n → jm_nth l n = none := by
      intro α l
      induction l with
      | nil => intro n _; rfl
      | cons a l ih =>
        intro n hn
        cases n with
        | zero => exact absurd hn (by simp)
        | succ n => exact ih n (by simpa using hn)
    unfold jm_rc at hrc
    rw [hn jm_cdT m (by exact hm)] at hrc
    cases hrc
section JWG
variable {p : Program} {l : Launch} {e : Env} {R : Room} {s : State} {mid : MethodId} {args : Array Value} {below : List Frame} {meth : Method} {c : Code}
variable {dC : Nat → ClassId} {dI : Nat → Nat → Nat} {cA : Nat → ClassId} {ad adV : Nat → Nat} {ids : List Nat} {A : Nat → Prop} {m : Nat} {FQ : State → Prop} {gc gs : Int} {scr : Int → Int}
variable {k : Nat} {ls : jm_Ls} {M : jm_Mem} {z : Int}
theorem jw_go {idx x maxL rf rl : Nat} {cc : ByteArray} {hh : List (Nat × Nat × Nat × Nat)} {as : List jm_V} {M2 : jm_Mem} {rr : Int} (hF : jm_F p R s mid args c dC dI cA ad adV ids A m) (hm : m = 216) (hrc : jm_rc m k = some (.invokestatic idx, x, z)) (hx : 910 ≤ x) (hnext : jm_G p l e R s mid args below meth c dC dI cA ad ids A m FQ gc gs scr (k + 1, ls, [.inl rr], M2)) (hrr : jm_in rr) (hle : jm_le M M2) (hcap : (M2 999 0 - gc).toNat ≤ R.cells ∧ (M2 999 1 - gs).toNat ≤ R.slots)
    (hw1 : Cond.static (jm_by x) ∈ jm_g) (hw2 : Cond.codeWith (jm_by x) cc maxL (some .int) hh ∈ jm_g) (hw3 : Cond.initialized (jm_by x).cls ∈ jm_g) (hdsc : (jm_by x).cls ≠ "java/lang/invoke/MethodHandle" ∧ (jm_by x).cls ≠ "java/lang/invoke/VarHandle" ∧ (parseMethodDescriptor (jm_by x).desc).map (fun d => d.parameters.length) = some (as.length + 1)) (hR : rf + 1 ≤ 10 ∧ 8 + (maxL + 11) + rl ≤ 253)
    (hmet : ∀ sz, jm_okM M → (∀ v ∈ as, jm_okv ids m v) → 94 ∈ ids → Met l (jm_by x) (Cond.codeWith (jm_by x) cc maxL (some .int) hh :: jm_g) ({ frames := rf, cells := (M2 999 0 - M 999 0).toNat, slots := (M2 999 1 - M 999 1).toNat, locals := rl }) (va_Pc (as.map (jm_val ad) ++ [Value.ref (ad 94)]) (jw_pre dC dI cA ad adV ids M sz)) (jw_post dC dI cA ad ids M2 rr (va_A (jm_wd cA ad ids M) sz)) (M2 999 0 - M 999 0).toNat (M2 999 1 - M 999 1).toNat (va_A (jm_wd cA ad ids M) sz)) : jm_G p l e R s mid args below meth c dC dI cA ad ids A m FQ gc gs scr (k, ls, .inr (.inl 94) :: as.reverse, M) := by
  obtain ⟨hd, hp, hlink, -, -⟩ := jm_ck_bs hF hrc (by omega)
  have hf10 : 10 ≤ R.frames := by
    have := hF.2.2.2.2.2.1
    rw [hm] at this
    exact this
  have hl253 : 253 ≤ R.locals := by
    have := hF.2.2.2.2.2.2.1
    rw [hm] at this
    exact this
  intro JL H locs g1 g2 g3 g4 g5 g6 g7 g8
  have h94 : 94 ∈ ids := jk_ids (jk_hd g2) (by decide)
  have hall : ∀ v ∈ as, jm_okv ids m v := fun v hv => g2 v (List.mem_cons_of_mem _ (List.mem_reverse.mpr hv))
  have hbud : (M 999 0 - gc).toNat + (M2 999 0 - M 999 0).toNat = (M2 999 0 - gc).toNat ∧ (M 999 1 - gs).toNat + (M2 999 1 - M 999 1).toNat = (M2 999 1 - gs).toNat := by
    have q1 := hle.1
    have q2 := hle.2.1
    dsimp only at g6 g7
    omega
  have hgood : GoodIn jm_g (va_wsS (jm_cn (jm_mi m).1) idx (jm_by x) (Cond.codeWith (jm_by x) cc maxL (some .int) hh :: jm_g)) := by
    intro w hw
    unfold va_wsS at hw
    have hin : w ∈ jm_g := by
      rcases List.mem_append.mp hw with hw | hw
      · simp only [List.mem_cons, List.not_mem_nil, or_false] at hw
        rcases hw with rfl | rfl | rfl
        · exact hlink
        · exact hw1
        · exact hw3
      · rcases List.mem_cons.mp hw with rfl | hw
        · exact hw2
        · exact hw
    exact jm_g_good w hin
  have hfree : ∀ q, va_A (jm_wd cA ad ids M) H.size q → A q := by
    intro q hq
    rcases hq with ⟨j, E, hj⟩ | hq
    · exact (jm_wd_D (cA := cA) M hF.2.2.2.2.2.2.2.2.1).2 j (q, E) hj
    · exact hF.2.2.2.2.2.2.2.2.2 q (Nat.le_trans g5.1 hq)
  dsimp only
  rw [show ((.inr (.inl 94) :: as.reverse : List jm_V).map (jm_val ad)) = (as.map (jm_val ad) ++ [Value.ref (ad 94)]).reverse ++ [] by simp [jm_val]]
  refine js_after (vx_runSW (As := as.map (jm_val ad) ++ [Value.ref (ad 94)]) (rest := []) ⟨hF.1, hF.2.1, hF.2.2.1, hF.2.2.2.1, hF.2.2.2.2.1⟩ (hmet H.size g3 hall h94) (vx_cwSW (as.length + 1) hF.2.2.2.2.1 hgood rfl rfl rfl hdsc ⟨by show rf + 1 ≤ R.frames; omega, by show 8 + (maxL + 11) + rl ≤ R.locals; omega⟩) ⟨fun a9 U g9 mk q => ⟨q.1, q.2.1, q.2.2.1, jm_ctx_blind q.2.2.2⟩, fun U hU hW => ⟨rfl, jm_PcOk hF g4 g5 U hU hW⟩⟩ (g := F0 mid (jm_bp m k) JL ((as.map (jm_val ad) ++ [Value.ref (ad 94)]).reverse ++ [])) rfl (by simp) g1.1 rfl (lv_room (Nat.zero_le _)) hd (by rw [hbud.1, hbud.2]; exact hcap)) g5 (fun q _ hq => hfree q hq) hfree (r1 := some (.int (Int32.ofInt rr))) (B := fun H1 => va_P (dC, dI) vwCl (jm_wd cA ad ids M2) H1 ∧ jm_okM M2) (fun s0 v t hs0 hq => ?_) (fun H1 locs1 hB hS1 => ?_)
  · obtain ⟨⟨q1, q2, q3⟩, q5, q6⟩ := hq
    rw [hs0] at q5 q6
    cases q1
    exact ⟨rfl, ⟨q2, q3⟩, q5, q6⟩
  · obtain ⟨b1, b2⟩ := hB
    have hG := hnext JL H1 locs1 g1 (jk_cons (v := .inl rr) hrr (fun v hv => nomatch hv)) b2 b1 hS1 (by dsimp only; have := hle.1; dsimp only at g6; omega) (by dsimp only; have := hle.2.1; dsimp only at g7; omega) (fun q => by dsimp only; rw [hle.2.2]; exact g8 q)
    dsimp only at hG
    rw [hbud.1, hbud.2, ← hp]
    exact hG
end JWG
end
section
section JS8
variable {p : Program} {l : Launch} {e : Env} {R : Room} {s : State} {mid : MethodId} {args : Array Value} {below : List Frame} {meth : Method} {c : Code}
variable {dC : Nat → ClassId} {dI : Nat → Nat → Nat} {cA : Nat → ClassId} {ad adV : Nat → Nat} {ids : List Nat} {A : Nat → Prop} {m : Nat} {FQ : State → Prop} {gc gs : Int} {scr : Int → Int}
variable {wc : Nat → List jm_V → jm_Mem → jm_Q → Prop} {w : jm_Cfg → Prop} {Q : jm_Q} {k : Nat} {ls : jm_Ls} {st : List jm_V} {M : jm_Mem} {a : Nat} {z : Int}
/-- a call of a String's own method: its link and its room -/
theorem jm_ck_bv {idx x : Nat} (hF : jm_F p R s mid args c dC dI cA ad adV ids A m) (hrc : jm_rc m k = some (.invokevirtual idx, x, z)) (hx : 216 ≤ x) : decode (jm_b m) (jm_bp m k) = .ok (.invokevirtual idx, 3) ∧ jm_bp m (k + 1) = jm_bp m k + 3 ∧ Cond.methodLink (jm_cn (jm_mi m).1) idx (jm_by x) ∈ jm_g ∧ 5 ≤ R.frames ∧ 160 ≤ R.locals := by
  obtain ⟨hd, hp, h2⟩ := jm_nx hrc (by simp) rfl
  have h2 : jm_ck2 m (.invokevirtual idx, x, z) = true := h2
  unfold jm_ck2 at h2
  dsimp only at h2
  have hb : Nat.blt x 216 = false := by
    cases hq : Nat.blt x 216 with
    | false => rfl
    | true => exact absurd (show x < 216 from Nat.le_of_ble_eq_true hq) (by omega)
  rw [hb] at h2
  dsimp only at h2
  rw [Bool.and_eq_true, Bool.and_eq_true] at h2
  obtain ⟨q, hq, e1, e2, e3⟩ := jm_any3 h2.1
  have g := jm_mb_ok q hq
  rw [e1, e2, e3] at g
  have b1 := Nat.le_of_ble_eq_true h2.2.1
  have b2 := Nat.le_of_ble_eq_true h2.2.2
  have f1 := hF.2.2.2.2.2.1
  have f2 := hF.2.2.2.2.2.2.1
  exact ⟨hd, hp, jm_in_g _ g rfl, by omega, by omega⟩
theorem jd_of_ctx {U : State} (h : jm_ctx dC dI cA ad adV A U U.heap) : jd_X ad adV A U := ⟨h.2.1, h.2.2.2.2.2.2.1, h.2.2.2.2.2.2.2.1⟩
theorem jd_len_ok : ∀ i, i < 6 → Int32.ofInt ((jm_str i).length : Int) = Int32.ofNat (jm_slen.getD i 0) ∧ (jm_str i).length ≤ 100 ∧ jm_slen.getD i 0 = (jm_str i).length := by decide +kernel
theorem js_strlen {idx c0 : Nat} {r : List jm_V} (hF : jm_F p R s mid args c dC dI cA ad adV ids A m) (hrc : jm_rc m k = some (.invokevirtual idx, 901, z)) (h1 : 200 ≤ c0) (h2 : c0 ≤ 205) (hft : jm_ft r 8 = true) (hcc : (M 999 0 - gc).toNat ≤ R.cells ∧ (M 999 1 - gs).toNat ≤ R.slots) (hG : jm_G p l e R s mid args below meth c dC dI cA ad ids A m FQ gc gs scr (k + 1, ls, .inl ((jm_str (c0 - 200)).length : Int) :: r, M)) : jm_G p l e R s mid args below meth c dC dI cA ad ids A m FQ gc gs scr (k, ls, .inr (.inl c0) :: r, M) := by
  obtain ⟨hd, hp, hlink, hfr, hlo⟩ := jm_ck_bv hF hrc (by decide)
  obtain ⟨i, rfl⟩ : ∃ i, c0 = 200 + i := ⟨c0 - 200, by omega⟩
  have hi : i < 6 := by omega
  rw [Nat.add_sub_cancel_left] at hG
  intro JL H locs g1 g2 g3 g4 g5 g6 g7 g8
  obtain ⟨l1, l2, -⟩ := jd_len_ok i hi
  refine jd_after (r1 := some (.int (Int32.ofNat (jm_slen.getD i 0)))) (va_runV (As := []) (rest := r.map (jm_val ad)) (b := ad (200 + i)) ⟨hF.1, hF.2.1, hF.2.2.1, hF.2.2.2.1, hF.2.2.2.2.1⟩ (jd_len l ad adV (va_A (jm_wd cA ad ids M) H.size) i hi) (cwV 0 hF.2.2.2.2.1 (jd_goodV (y := yJ0_length_8abf5) hlink (jm_in_g _ jd_t.2.2.2.1 rfl) (jm_in_g _ jd_t.2.2.2.2.1 rfl) (jm_in_g _ jd_t.1 rfl) (jm_in_g _ jd_c1 rfl)) rfl rfl rfl (by decide +kernel) ⟨Nat.le_trans (Nat.le_of_ble_eq_true rfl) hfr, Nat.le_trans (Nat.le_of_ble_eq_true rfl) hlo⟩) ⟨jd_blind, vk_recv (adK := fun i => ad (200 + i)) (i := i) hF.2.2.2.2.2.2.2.1.2.1 hi g5, fun U hU hW => ⟨rfl, jd_of_ctx (jm_PcOk hF g4 g5 U hU hW).2.2⟩⟩ rfl rfl g1.1 rfl (lv_room (jm_cat_le r hft)) hd hcc) ?_
  have := hG JL H locs g1 (jk_cons (v := .inl ((jm_str i).length : Int)) (by show jm_in _; unfold jm_in; omega) (jk_tl g2)) g3 g4 g5 g6 g7 g8
  dsimp only at this
  rw [hp] at this
  rw [← l1]
  exact this
theorem js_strchar {idx c0 : Nat} {i : Int} {r : List jm_V} (hF : jm_F p R s mid args c dC dI cA ad adV ids A m) (hrc : jm_rc m k = some (.invokevirtual idx, 902, z)) (h1 : 200 ≤ c0) (h2 : c0 ≤ 205) (hft : jm_ft r 8 = true) (hcc : (M 999 0 - gc).toNat ≤ R.cells ∧ (M 999 1 - gs).toNat ≤ R.slots) (hi0 : 0 ≤ i) (hi1 : i < ((jm_str (c0 - 200)).length : Int)) (hG : jm_G p l e R s mid args below meth c dC dI cA ad ids A m FQ gc gs scr (k + 1, ls, .inl (jm_chr (jm_str (c0 - 200)) i.toNat) :: r, M)) : jm_G p l e R s mid args below meth c dC dI cA ad ids A m FQ gc gs scr (k, ls, .inl i :: .inr (.inl c0) :: r, M) := by
  obtain ⟨hd, hp, hlink, hfr, hlo⟩ := jm_ck_bv hF hrc (by decide)
  obtain ⟨s0, rfl⟩ : ∃ s0, c0 = 200 + s0 := ⟨c0 - 200, by omega⟩
  have hs : s0 < 6 := by omega
  rw [Nat.add_sub_cancel_left] at hG hi1
  obtain ⟨j, rfl⟩ : ∃ j : Nat, i = (j : Int) := ⟨i.toNat, by omega⟩
  rw [Int.toNat_natCast] at hG
  obtain ⟨l1, l2, l3⟩ := jd_len_ok s0 hs
  have hj : j < jm_slen.getD s0 0 := by omega
  have hj2 : j < 100 := by omega
  obtain ⟨-, -, -, c4, c5⟩ := jd_ch_ok s0 hs j hj
  intro JL H locs g1 g2 g3 g4 g5 g6 g7 g8
  have hx0 : Int32.ofInt (j : Int) = nI j := by
    have : ∀ j, j < 100 → Int32.ofInt ((j : Nat) : Int) = nI j := by decide +kernel
    exact this j hj2
  dsimp only
  show W p l e R s mid args below meth c H locs _ _ FQ (F0 mid (jm_bp m k) JL (.int (Int32.ofInt (j : Int)) :: .ref (ad (200 + s0)) :: r.map (jm_val ad)))
  rw [hx0]
  refine jd_after (r1 := some (.int (jd_ch s0 j))) (va_runV (As := [.int (nI j)]) (rest := r.map (jm_val ad)) (b := ad (200 + s0)) ⟨hF.1, hF.2.1, hF.2.2.1, hF.2.2.2.1, hF.2.2.2.2.1⟩ (jd_char l ad adV (va_A (jm_wd cA ad ids M) H.size) s0 j hs hj hj2) (cwV 1 hF.2.2.2.2.1 (jd_goodV (y := yJ0_charAt_5068e) hlink (jm_in_g _ jd_t.2.2.2.2.2.2.2.2.2.1 rfl) (jm_in_g _ jd_t.2.2.2.2.2.2.2.2.2.2 rfl) (jm_in_g _ jd_t.1 rfl) (jm_in_g _ jd_c3 rfl)) rfl rfl rfl (by decide +kernel) ⟨Nat.le_trans (Nat.le_of_ble_eq_true rfl) hfr, Nat.le_trans (Nat.le_of_ble_eq_true rfl) hlo⟩) ⟨jd_blind, vk_recv (adK := fun i => ad (200 + i)) (i := s0) hF.2.2.2.2.2.2.2.1.2.1 hs g5, fun U hU hW => ⟨rfl, jd_of_ctx (jm_PcOk hF g4 g5 U hU hW).2.2⟩⟩ rfl rfl g1.1 rfl (lv_room (jm_cat_le r hft)) hd hcc) ?_
  have := hG JL H locs g1 (jk_cons (v := .inl (jm_chr (jm_str s0) j)) (by show jm_in _; unfold jm_in; omega) (jk_tl (jk_tl g2))) g3 g4 g5 g6 g7 g8
  dsimp only at this
  rw [hp] at this
  exact this
theorem jm_cap {n : Nat} {cf : jm_Cfg} (h : jm_wp n m cf Q) (hcap : ∀ r M', Q r M' → (M' 999 0 - gc).toNat ≤ R.cells ∧ (M' 999 1 - gs).toNat ≤ R.slots) : (cf.2.2.2 999 0 - gc).toNat ≤ R.cells ∧ (cf.2.2.2 999 1 - gs).toNat ≤ R.slots := by
  obtain ⟨r, M', hQ, hle⟩ := jm_wp_le _ _ _ _ h
  have := hcap r M' hQ
  have h1 := hle.1
  have h2 := hle.2.1
  omega
end JS8
end
section
set_option maxRecDepth 100000 in
theorem jw_w0 : lw_tbl[105]? = some (.initialized RL) ∧ lw_tbl[1039]? = some (.classLink RL 13 jx_N) ∧ lw_tbl[1037]? = some (.static yL_around) ∧ lw_tbl[1040]? = some (.methodLink RL 7 (jm_y 89)) ∧ lw_tbl[1110]? = some (.static yL_distance) ∧ lw_tbl[1112]? = some (.methodLink RL 15 (jm_y 90)) ∧ lw_tbl[1123]? = some (.static yL_potential) ∧ lw_tbl[1125]? = some (.methodLink RL 19 (jm_y 93)) ∧ lw_tbl[1130]? = some (.static yL_on) ∧ lw_tbl[1132]? = some (.methodLink RL 22 (jm_y 96)) ∧ lw_tbl[1138]? = some (.static yL_left) ∧ lw_tbl[1140]? = some (.methodLink RL 25 (jm_y 97)) ∧ lw_tbl[1147]? = some (.static yL_excess) ∧ lw_tbl[1149]? = some (.methodLink RL 28 (jm_y 99)) := by decide +kernel
set_option maxRecDepth 100000 in
theorem jw_c910 : lw_tbl[1038]? = some (.codeWith yL_around cL_around 4 (some .int) [(0, 9, 12, 13)]) := rfl
theorem jw_d910 : jw_D1 cL_around 7 := by unfold jw_D1; decide +kernel
set_option maxRecDepth 100000 in
theorem jw_c911 : lw_tbl[1111]? = some (.codeWith yL_distance cL_distance 5 (some .int) [(0, 10, 13, 13)]) := rfl
theorem jw_d911 : jw_D2 cL_distance 15 := by unfold jw_D2; decide +kernel
set_option maxRecDepth 100000 in
theorem jw_c912 : lw_tbl[1124]? = some (.codeWith yL_potential cL_potential 4 (some .int) [(0, 9, 12, 13)]) := rfl
theorem jw_d912 : jw_D1 cL_potential 19 := by unfold jw_D1; decide +kernel
set_option maxRecDepth 100000 in
theorem jw_c913 : lw_tbl[1131]? = some (.codeWith yL_on cL_on 4 (some .int) [(0, 9, 12, 13)]) := rfl
theorem jw_d913 : jw_D1 cL_on 22 := by unfold jw_D1; decide +kernel
set_option maxRecDepth 100000 in
theorem jw_c914 : lw_tbl[1139]? = some (.codeWith yL_left cL_left 5 (some .int) [(0, 10, 13, 13)]) := rfl
theorem jw_d914 : jw_D2 cL_left 25 := by unfold jw_D2; decide +kernel
set_option maxRecDepth 100000 in
theorem jw_c915 : lw_tbl[1148]? = some (.codeWith yL_excess cL_excess 4 (some .int) [(0, 9, 12, 13)]) := rfl
theorem jw_d915 : jw_D1 cL_excess 28 := by unfold jw_D1; decide +kernel
theorem jw_mi : ∀ mi ∈ [89, 93, 96, 99], mi < 216 ∧ (jm_mi mi).2.1 = 1 ∧ (jm_mi mi).1 = 9 ∧ (jm_mi mi).2.2.1 = 2 ∧ 2 ≤ (jm_mi mi).2.2.2.1 ∧ (jm_mi mi).2.2.2.2.1 + 1 + 1 ≤ 10 ∧ 8 + (4 + 11) + (8 + ((jm_mi mi).2.2.2.1 + 11) + (jm_mi mi).2.2.2.2.2.1) ≤ 253 := by decide +kernel
theorem jw_mi2 : ∀ mi ∈ [90, 97], mi < 216 ∧ (jm_mi mi).2.1 = 1 ∧ (jm_mi mi).1 = 9 ∧ (jm_mi mi).2.2.1 = 3 ∧ 3 ≤ (jm_mi mi).2.2.2.1 ∧ (jm_mi mi).2.2.2.2.1 + 1 + 1 ≤ 10 ∧ 8 + (5 + 11) + (8 + ((jm_mi mi).2.2.2.1 + 11) + (jm_mi mi).2.2.2.2.2.1) ≤ 253 := by decide +kernel
section JS8
variable {p : Program} {l : Launch} {e : Env} {R : Room} {s : State} {mid : MethodId} {args : Array Value} {below : List Frame} {meth : Method} {c : Code}
variable {dC : Nat → ClassId} {dI : Nat → Nat → Nat} {cA : Nat → ClassId} {ad adV : Nat → Nat} {ids : List Nat} {A : Nat → Prop} {m : Nat} {FQ : State → Prop} {gc gs : Int} {scr : Int → Int}
variable {Q : jm_Q} {k : Nat} {ls : jm_Ls} {M : jm_Mem} {z : Int}
theorem jw_okv {mi : Nat} {as : List jm_V} (hm : m = 216) (h98 : ∀ v ∈ as, v ≠ .inr (.inl 998)) (h : ∀ v ∈ as, jm_okv ids m v) : ∀ v ∈ as, jm_okv ids mi v := by
  intro v hv
  have h1 := h v hv
  have h2 := h98 v hv
  match v, h1, h2 with
  | .inl x, q, _ => exact q
  | .inr (.inr x), q, _ => exact q
  | .inr (.inl x), q, h2 =>
    rcases q with q | q | q
    · exact Or.inl q
    · exact Or.inr (Or.inl q)
    · exact absurd (by rw [q.1]) h2
theorem js_wrap1 {n idx x iv mi : Nat} {y0 : Int} {cc : ByteArray} (hl : l.stackTraces = false) (hSn : jm_S l dC dI cA ad adV ids n) (hF : jm_F p R s mid args c dC dI cA ad adV ids A m) (hrc : jm_rc m k = some (.invokestatic idx, x, z)) (hx : 910 ≤ x) (hmi : mi ∈ [89, 93, 96, 99]) (hD : jw_D1 cc iv) (hcls : (jm_by x).cls = RL) (hdsc : (parseMethodDescriptor (jm_by x).desc).map (fun d => d.parameters.length) = some 3) (hw1 : Cond.static (jm_by x) ∈ jm_g) (hw2 : Cond.codeWith (jm_by x) cc 4 (some .int) [(0, 9, 12, 13)] ∈ jm_g) (hlink : Cond.methodLink RL iv (jm_y mi) ∈ jm_g) (h : jm_wp n mi (0, jm_pad [.inr (.inl 0), .inl y0] (jm_mi mi).2.2.2.1, [], M) (jm_k (fun st' M' => jm_wp n m (k + 1, ls, st', M') Q) [] 2)) (hw : ∀ c', jm_wp n m c' Q → jm_G p l e R s mid args below meth c dC dI cA ad ids A m FQ gc gs scr c') (hcap : ∀ r M', Q r M' → (M' 999 0 - gc).toNat ≤ R.cells ∧ (M' 999 1 - gs).toNat ≤ R.slots) : jm_G p l e R s mid args below meth c dC dI cA ad ids A m FQ gc gs scr (k, ls, .inr (.inl 94) :: ([.inr (.inl 0), .inl y0] : List jm_V).reverse, M) := by
  have hm := jw_m hrc hx
  obtain ⟨m1, m2, m3, m4, m5, m6, m7⟩ := jw_mi mi hmi
  obtain ⟨r1, M1, hk, hdet⟩ := jm_wp_det _ _ _ _ h
  have hne : (jm_by x).cls ≠ "java/lang/invoke/MethodHandle" ∧ (jm_by x).cls ≠ "java/lang/invoke/VarHandle" := by rw [hcls]; decide
  have hwp1 : jm_wp n mi (0, jm_pad [.inr (.inl 0), .inl y0] (jm_mi mi).2.2.2.1, [], M) (fun r' M' => r' = r1 ∧ M' = M1) := hdet n (Nat.le_refl _) _ ⟨rfl, rfl⟩
  obtain ⟨r2, M3, ⟨q1, q2⟩, hle⟩ := jm_wp_le _ _ _ _ hwp1
  subst q1; subst q2
  have hle : jm_le M M3 := hle
  have hgen : ∀ (rr : Int) (M2 : jm_Mem), jm_in rr → jm_le M M2 → jm_wp n m (k + 1, ls, [.inl rr], M2) Q → ((r2 = jm_thr ∧ rr = 1 ∧ M2 = jm_gh M3 1 6) ∨ ∃ x, r2 = some (.inl x) ∧ rr = 0 ∧ M2 = jm_st M3 94 0 x) → jm_G p l e R s mid args below meth c dC dI cA ad ids A m FQ gc gs scr (k, ls, .inr (.inl 94) :: ([.inr (.inl 0), .inl y0] : List jm_V).reverse, M) := by
    intro rr M2 hrr hle2 hnx hcase
    refine jw_go (cc := cc) (maxL := 4) (hh := [(0, 9, 12, 13)]) (rf := (jm_mi mi).2.2.2.2.1 + 1) (rl := 8 + ((jm_mi mi).2.2.2.1 + 11) + (jm_mi mi).2.2.2.2.2.1) (as := [.inr (.inl 0), .inl y0]) (M2 := M2) (rr := rr) hF hm hrc hx (hw _ hnx) hrr hle2 (jm_cap hnx hcap) hw1 hw2 (by rw [hcls]; exact jm_in_g _ jw_w0.1 rfl) ⟨hne.1, hne.2, hdsc⟩ ⟨m6, m7⟩ (fun sz hM hall h94 => ?_)
    exact jw_met1 hl hSn hD (by rw [hcls]; decide) hcls sz m1 m2 m3 m4 m5 hlink (jm_in_g _ jw_w0.2.1 rfl) (hdet n (Nat.le_refl _) _ hcase) (jw_okv hm (by intro v hv q; subst q; simp at hv) hall) (jk_ids (hall _ List.mem_cons_self) (by decide)) h94 hM hF.2.2.2.2.2.2.2.2.1
  rcases hk with ⟨e1, hk⟩ | ⟨x0, e1, hk⟩
  · exact hgen 1 _ ⟨by decide, by decide⟩ ⟨by rw [jm_gh_a]; have := hle.1; omega, by rw [jm_gh_b]; have := hle.2.1; omega, by rw [jm_gh_o 1 6 (by decide)]; exact hle.2.2⟩ hk (Or.inl ⟨e1, rfl, rfl⟩)
  · exact hgen 0 _ ⟨by decide, by decide⟩ ⟨by rw [jm_st_ne (by decide)]; exact hle.1, by rw [jm_st_ne (by decide)]; exact hle.2.1, by rw [jm_st_ne (by decide)]; exact hle.2.2⟩ hk (Or.inr ⟨x0, e1, rfl, rfl⟩)
theorem js_wrap2 {n idx x iv mi : Nat} {y0 y1 : Int} {cc : ByteArray} (hl : l.stackTraces = false) (hSn : jm_S l dC dI cA ad adV ids n) (hF : jm_F p R s mid args c dC dI cA ad adV ids A m) (hrc : jm_rc m k = some (.invokestatic idx, x, z)) (hx : 910 ≤ x) (hmi : mi ∈ [90, 97]) (hD : jw_D2 cc iv) (hcls : (jm_by x).cls = RL) (hdsc : (parseMethodDescriptor (jm_by x).desc).map (fun d => d.parameters.length) = some 4) (hw1 : Cond.static (jm_by x) ∈ jm_g) (hw2 : Cond.codeWith (jm_by x) cc 5 (some .int) [(0, 10, 13, 13)] ∈ jm_g) (hlink : Cond.methodLink RL iv (jm_y mi) ∈ jm_g) (h : jm_wp n mi (0, jm_pad [.inr (.inl 0), .inl y0, .inl y1] (jm_mi mi).2.2.2.1, [], M) (jm_k (fun st' M' => jm_wp n m (k + 1, ls, st', M') Q) [] 2)) (hw : ∀ c', jm_wp n m c' Q → jm_G p l e R s mid args below meth c dC dI cA ad ids A m FQ gc gs scr c') (hcap : ∀ r M', Q r M' → (M' 999 0 - gc).toNat ≤ R.cells ∧ (M' 999 1 - gs).toNat ≤ R.slots) : jm_G p l e R s mid args below meth c dC dI cA ad ids A m FQ gc gs scr (k, ls, .inr (.inl 94) :: ([.inr (.inl 0), .inl y0, .inl y1] : List jm_V).reverse, M) := by
  have hm := jw_m hrc hx
  obtain ⟨m1, m2, m3, m4, m5, m6, m7⟩ := jw_mi2 mi hmi
  obtain ⟨r1, M1, hk, hdet⟩ := jm_wp_det _ _ _ _ h
  have hne : (jm_by x).cls ≠ "java/lang/invoke/MethodHandle" ∧ (jm_by x).cls ≠ "java/lang/invoke/VarHandle" := by rw [hcls]; decide
  have hwp1 : jm_wp n mi (0, jm_pad [.inr (.inl 0), .inl y0, .inl y1] (jm_mi mi).2.2.2.1, [], M) (fun r' M' => r' = r1 ∧ M' = M1) := hdet n (Nat.le_refl _) _ ⟨rfl, rfl⟩
  obtain ⟨r2, M3, ⟨q1, q2⟩, hle⟩ := jm_wp_le _ _ _ _ hwp1
  subst q1; subst q2
  have hle : jm_le M M3 := hle
  have hgen : ∀ (rr : Int) (M2 : jm_Mem), jm_in rr → jm_le M M2 → jm_wp n m (k + 1, ls, [.inl rr], M2) Q → ((r2 = jm_thr ∧ rr = 1 ∧ M2 = jm_gh M3 1 6) ∨ ∃ x, r2 = some (.inl x) ∧ rr = 0 ∧ M2 = jm_st M3 94 0 x) → jm_G p l e R s mid args below meth c dC dI cA ad ids A m FQ gc gs scr (k, ls, .inr (.inl 94) :: ([.inr (.inl 0), .inl y0, .inl y1] : List jm_V).reverse, M) := by
    intro rr M2 hrr hle2 hnx hcase
    refine jw_go (cc := cc) (maxL := 5) (hh := [(0, 10, 13, 13)]) (rf := (jm_mi mi).2.2.2.2.1 + 1) (rl := 8 + ((jm_mi mi).2.2.2.1 + 11) + (jm_mi mi).2.2.2.2.2.1) (as := [.inr (.inl 0), .inl y0, .inl y1]) (M2 := M2) (rr := rr) hF hm hrc hx (hw _ hnx) hrr hle2 (jm_cap hnx hcap) hw1 hw2 (by rw [hcls]; exact jm_in_g _ jw_w0.1 rfl) ⟨hne.1, hne.2, hdsc⟩ ⟨m6, m7⟩ (fun sz hM hall h94 => ?_)
    exact jw_met2 hl hSn hD (by rw [hcls]; decide) hcls sz m1 m2 m3 m4 m5 hlink (jm_in_g _ jw_w0.2.1 rfl) (hdet n (Nat.le_refl _) _ hcase) (jw_okv hm (by intro v hv q; subst q; simp at hv) hall) (jk_ids (hall _ List.mem_cons_self) (by decide)) h94 hM hF.2.2.2.2.2.2.2.2.1
  rcases hk with ⟨e1, hk⟩ | ⟨x0, e1, hk⟩
  · exact hgen 1 _ ⟨by decide, by decide⟩ ⟨by rw [jm_gh_a]; have := hle.1; omega, by rw [jm_gh_b]; have := hle.2.1; omega, by rw [jm_gh_o 1 6 (by decide)]; exact hle.2.2⟩ hk (Or.inl ⟨e1, rfl, rfl⟩)
  · exact hgen 0 _ ⟨by decide, by decide⟩ ⟨by rw [jm_st_ne (by decide)]; exact hle.1, by rw [jm_st_ne (by decide)]; exact hle.2.1, by rw [jm_st_ne (by decide)]; exact hle.2.2⟩ hk (Or.inr ⟨x0, e1, rfl, rfl⟩)
theorem js_wrap {n idx x mi : Nat} {as : List jm_V} (hl : l.stackTraces = false) (hSn : jm_S l dC dI cA ad adV ids n) (hF : jm_F p R s mid args c dC dI cA ad adV ids A m) (hrc : jm_rc m k = some (.invokestatic idx, x, z)) (hx : (x = 910 ∧ mi = 89 ∧ ∃ y, as = [.inr (.inl 0), .inl y]) ∨ (x = 911 ∧ mi = 90 ∧ ∃ y y', as = [.inr (.inl 0), .inl y, .inl y']) ∨ (x = 912 ∧ mi = 93 ∧ ∃ y, as = [.inr (.inl 0), .inl y]) ∨ (x = 913 ∧ mi = 96 ∧ ∃ y, as = [.inr (.inl 0), .inl y]) ∨ (x = 914 ∧ mi = 97 ∧ ∃ y y', as = [.inr (.inl 0), .inl y, .inl y']) ∨ (x = 915 ∧ mi = 99 ∧ ∃ y, as = [.inr (.inl 0), .inl y])) (h : jm_wp n mi (0, jm_pad as (jm_mi mi).2.2.2.1, [], M) (jm_k (fun st' M' => jm_wp n m (k + 1, ls, st', M') Q) [] 2)) (hw : ∀ c', jm_wp n m c' Q → jm_G p l e R s mid args below meth c dC dI cA ad ids A m FQ gc gs scr c') (hcap : ∀ r M', Q r M' → (M' 999 0 - gc).toNat ≤ R.cells ∧ (M' 999 1 - gs).toNat ≤ R.slots) : jm_G p l e R s mid args below meth c dC dI cA ad ids A m FQ gc gs scr (k, ls, .inr (.inl 94) :: as.reverse, M) := by
  obtain ⟨-, -, s910, t910, s911, t911, s912, t912, s913, t913, s914, t914, s915, t915⟩ := jw_w0
  rcases hx with ⟨rfl, rfl, y, rfl⟩ | ⟨rfl, rfl, y, y', rfl⟩ | ⟨rfl, rfl, y, rfl⟩ | ⟨rfl, rfl, y, rfl⟩ | ⟨rfl, rfl, y, y', rfl⟩ | ⟨rfl, rfl, y, rfl⟩
  · exact js_wrap1 hl hSn hF hrc (by decide) (by decide) jw_d910 rfl (by decide +kernel) (jm_in_g _ s910 rfl) (jm_in_g _ jw_c910 rfl) (jm_in_g _ t910 rfl) h hw hcap
  · exact js_wrap2 hl hSn hF hrc (by decide) (by decide) jw_d911 rfl (by decide +kernel) (jm_in_g _ s911 rfl) (jm_in_g _ jw_c911 rfl) (jm_in_g _ t911 rfl) h hw hcap
  · exact js_wrap1 hl hSn hF hrc (by decide) (by decide) jw_d912 rfl (by decide +kernel) (jm_in_g _ s912 rfl) (jm_in_g _ jw_c912 rfl) (jm_in_g _ t912 rfl) h hw hcap
  · exact js_wrap1 hl hSn hF hrc (by decide) (by decide) jw_d913 rfl (by decide +kernel) (jm_in_g _ s913 rfl) (jm_in_g _ jw_c913 rfl) (jm_in_g _ t913 rfl) h hw hcap
  · exact js_wrap2 hl hSn hF hrc (by decide) (by decide) jw_d914 rfl (by decide +kernel) (jm_in_g _ s914 rfl) (jm_in_g _ jw_c914 rfl) (jm_in_g _ t914 rfl) h hw hcap
  · exact js_wrap1 hl hSn hF hrc (by decide) (by decide) jw_d915 rfl (by decide +kernel) (jm_in_g _ s915 rfl) (jm_in_g _ jw_c915 rfl) (jm_in_g _ t915 rfl) h hw hcap
end JS8
end
section
/-- the messages of what is thrown are never run through -/
theorem jm_noldc {m k i : Nat} {z : Int} (h : jm_rc m k = some (.ldc i, 99 + 1, z)) : False := by
  have h2 : jm_ck2 m (.ldc i, 100, z) = true := (jm_nx (a := 100) h (by simp) rfl).2.2
  exact Bool.noConfusion (show false = true from h2)
theorem jm_stat_num {k mi : Nat} {ls : jm_Ls} {st : List jm_V} {M : jm_Mem} {wc : Nat → List jm_V → jm_Mem → jm_Q → Prop} {w : jm_Cfg → Prop} {Q : jm_Q} (h : jm_do wc w Q k ls M (jm_stat k mi ls st M)) : mi = 900 ∨ mi = 903 ∨ mi = 904 ∨ mi = 905 ∨ mi = 910 ∨ mi = 911 ∨ mi = 912 ∨ mi = 913 ∨ mi = 914 ∨ mi = 915 ∨ jm_do wc w Q k ls M (jm_call mi 0 st M) := by
  unfold jm_stat at h
  split at h
  all_goals first
    | exact Or.inl rfl
    | exact Or.inr (Or.inl rfl)
    | exact Or.inr (Or.inr (Or.inl rfl))
    | exact Or.inr (Or.inr (Or.inr (Or.inl rfl)))
    | exact Or.inr (Or.inr (Or.inr (Or.inr (Or.inl rfl))))
    | exact Or.inr (Or.inr (Or.inr (Or.inr (Or.inr (Or.inl rfl)))))
    | exact Or.inr (Or.inr (Or.inr (Or.inr (Or.inr (Or.inr (Or.inl rfl))))))
    | exact Or.inr (Or.inr (Or.inr (Or.inr (Or.inr (Or.inr (Or.inr (Or.inl rfl)))))))
    | exact Or.inr (Or.inr (Or.inr (Or.inr (Or.inr (Or.inr (Or.inr (Or.inr (Or.inl rfl))))))))
    | exact Or.inr (Or.inr (Or.inr (Or.inr (Or.inr (Or.inr (Or.inr (Or.inr (Or.inr (Or.inl rfl)))))))))
    | exact Or.inr (Or.inr (Or.inr (Or.inr (Or.inr (Or.inr (Or.inr (Or.inr (Or.inr (Or.inr h)))))))))
theorem jm_virt_num {k mi : Nat} {ls : jm_Ls} {st : List jm_V} {M : jm_Mem} {wc : Nat → List jm_V → jm_Mem → jm_Q → Prop} {w : jm_Cfg → Prop} {Q : jm_Q} (h : jm_do wc w Q k ls M (jm_virt k mi ls st M)) : mi = 901 ∨ mi = 902 ∨ jm_do wc w Q k ls M (jm_call mi 1 st M) := by
  unfold jm_virt at h
  split at h
  all_goals first
    | exact Or.inl rfl
    | exact Or.inr (Or.inl rfl)
    | exact Or.inr (Or.inr h)
section JS9
variable {p : Program} {l : Launch} {e : Env} {R : Room} {s : State} {mid : MethodId} {args : Array Value} {below : List Frame} {meth : Method} {c : Code}
variable {dC : Nat → ClassId} {dI : Nat → Nat → Nat} {cA : Nat → ClassId} {ad adV : Nat → Nat} {ids : List Nat} {A : Nat → Prop} {m : Nat} {FQ : State → Prop} {gc gs : Int} {scr : Int → Int}
variable {Q : jm_Q} {k : Nat} {ls : jm_Ls} {st : List jm_V} {M : jm_Mem} {a : Nat} {z : Int}
theorem js_stat {n idx : Nat} (hl : l.stackTraces = false) (hSn : jm_S l dC dI cA ad adV ids n) (hF : jm_F p R s mid args c dC dI cA ad adV ids A m) (hrc : jm_rc m k = some (.invokestatic idx, a, z)) (h : jm_do (fun mi as M Q => jm_wp n mi (0, jm_pad as (jm_mi mi).2.2.2.1, [], M) Q) (fun c' => jm_wp n m c' Q) Q k ls M (jm_stat k a ls st M)) (hw : ∀ c', jm_wp n m c' Q → jm_G p l e R s mid args below meth c dC dI cA ad ids A m FQ gc gs scr c') (hcap : ∀ r M', Q r M' → (M' 999 0 - gc).toNat ≤ R.cells ∧ (M' 999 1 - gs).toNat ≤ R.slots) : jm_G p l e R s mid args below meth c dC dI cA ad ids A m FQ gc gs scr (k, ls, st, M) := by
  have wr1 : ∀ {x mi : Nat}, jm_do (fun mi as M Q => jm_wp n mi (0, jm_pad as (jm_mi mi).2.2.2.1, [], M) Q) (fun c' => jm_wp n m c' Q) Q k ls M (jm_wr1 mi st M) → ∃ y, st = .inr (.inl 94) :: ([.inr (.inl 0), .inl y] : List jm_V).reverse ∧ jm_wp n mi (0, jm_pad [.inr (.inl 0), .inl y] (jm_mi mi).2.2.2.1, [], M) (jm_k (fun st' M' => jm_wp n m (k + 1, ls, st', M') Q) [] 2) := by
    intro x mi h
    unfold jm_wr1 at h
    split at h
    · exact ⟨_, rfl, h⟩
    · exact (jm_rs_do h).elim
  have wr2 : ∀ {x mi : Nat}, jm_do (fun mi as M Q => jm_wp n mi (0, jm_pad as (jm_mi mi).2.2.2.1, [], M) Q) (fun c' => jm_wp n m c' Q) Q k ls M (jm_wr2 mi st M) → ∃ y y', st = .inr (.inl 94) :: ([.inr (.inl 0), .inl y, .inl y'] : List jm_V).reverse ∧ jm_wp n mi (0, jm_pad [.inr (.inl 0), .inl y, .inl y'] (jm_mi mi).2.2.2.1, [], M) (jm_k (fun st' M' => jm_wp n m (k + 1, ls, st', M') Q) [] 2) := by
    intro x mi h
    unfold jm_wr2 at h
    split at h
    · exact ⟨_, _, rfl, h⟩
    · exact (jm_rs_do h).elim
  rcases jm_stat_num h with rfl | rfl | rfl | rfl | rfl | rfl | rfl | rfl | rfl | rfl | hc
  · have hx : jm_do (fun mi as M Q => jm_wp n mi (0, jm_pad as (jm_mi mi).2.2.2.1, [], M) Q) (fun c' => jm_wp n m c' Q) Q k ls M (match (generalizing := false) st with
      | .inl n :: .inl dp :: .inr (.inl d) :: .inl sp :: .inr (.inl s) :: r => match (generalizing := false) jm_sh s, jm_sh d, jm_fit r, Nat.beq s d with
        | (0, ns, _), (0, nd, _), true, false => jm_gs [0 ≤ sp, 0 ≤ dp, 0 ≤ n, sp + n ≤ (ns : Int), dp + n ≤ (nd : Int)] (k + 1) ls r (jm_sr M d (jm_cpy (M s) (M d) sp dp n))
        | _, _, _, _ => jm_bad M
      | _ => jm_bad M) := h
    clear h
    split at hx
    · split at hx
      · rename_i h1 h2 h3 h4
        obtain ⟨b1, b2, b3, b4, b5, hx⟩ := hx
        exact js_copy hF hrc h1 h2 h3 h4 b1 b2 b3 b4 b5 (hw _ hx)
      · exact (jm_rs_do hx).elim
    · exact (jm_rs_do hx).elim
  · have hx : jm_do (fun mi as M Q => jm_wp n mi (0, jm_pad as (jm_mi mi).2.2.2.1, [], M) Q) (fun c' => jm_wp n m c' Q) Q k ls M (match (generalizing := false) st with
      | .inl e :: .inl d :: .inl c :: .inl b :: .inl a :: r => match (generalizing := false) jm_fit r with
        | true => jm_gs [0 ≤ a ∧ a ≤ 255, 0 ≤ b ∧ b ≤ 255, 0 ≤ c ∧ c ≤ 255, 0 ≤ d ∧ d ≤ 255, 0 ≤ e ∧ e ≤ 255] (k + 1) ls (.inr (.inr (jm_spelt a b c d e)) :: r) (jm_gh M 1 5)
        | false => jm_bad M
      | _ => jm_bad M) := h
    clear h
    split at hx
    · split at hx
      · rename_i h1
        obtain ⟨b1, b2, b3, b4, b5, hx⟩ := hx
        exact js_spelt hF hrc h1 b1 b2 b3 b4 b5 (jm_cap hx hcap) (hw _ hx)
      · exact (jm_rs_do hx).elim
    · exact (jm_rs_do hx).elim
  · have hx : jm_do (fun mi as M Q => jm_wp n mi (0, jm_pad as (jm_mi mi).2.2.2.1, [], M) Q) (fun c' => jm_wp n m c' Q) Q k ls M (match (generalizing := false) st with
      | .inl y :: .inl x :: r => match (generalizing := false) jm_fit r with
        | true => jm_go (k + 1) ls (.inl (if x < y then y else x) :: r) M
        | false => jm_bad M
      | _ => jm_bad M) := h
    clear h
    split at hx
    · split at hx
      · rename_i h1
        exact js_max hF (fun _ _ => trivial) hrc h1 (jm_cap hx hcap) (hw _ hx)
      · exact (jm_rs_do hx).elim
    · exact (jm_rs_do hx).elim
  · have hx : jm_do (fun mi as M Q => jm_wp n mi (0, jm_pad as (jm_mi mi).2.2.2.1, [], M) Q) (fun c' => jm_wp n m c' Q) Q k ls M (match (generalizing := false) st with
      | .inl y :: .inl x :: r => match (generalizing := false) jm_fit r with
        | true => jm_go (k + 1) ls (.inl (if y < x then y else x) :: r) M
        | false => jm_bad M
      | _ => jm_bad M) := h
    clear h
    split at hx
    · split at hx
      · rename_i h1
        exact js_min hF hrc h1 (jm_cap hx hcap) (hw _ hx)
      · exact (jm_rs_do hx).elim
    · exact (jm_rs_do hx).elim
  · obtain ⟨y, rfl, hx⟩ := wr1 (x := 0) h
    exact js_wrap hl hSn hF hrc (Or.inl ⟨rfl, rfl, y, rfl⟩) hx hw hcap
  · obtain ⟨y, y', rfl, hx⟩ := wr2 (x := 0) h
    exact js_wrap hl hSn hF hrc (Or.inr (Or.inl ⟨rfl, rfl, y, y', rfl⟩)) hx hw hcap
  · obtain ⟨y, rfl, hx⟩ := wr1 (x := 0) h
    exact js_wrap hl hSn hF hrc (Or.inr (Or.inr (Or.inl ⟨rfl, rfl, y, rfl⟩))) hx hw hcap
  · obtain ⟨y, rfl, hx⟩ := wr1 (x := 0) h
    exact js_wrap hl hSn hF hrc (Or.inr (Or.inr (Or.inr (Or.inl ⟨rfl, rfl, y, rfl⟩)))) hx hw hcap
  · obtain ⟨y, y', rfl, hx⟩ := wr2 (x := 0) h
    exact js_wrap hl hSn hF hrc (Or.inr (Or.inr (Or.inr (Or.inr (Or.inl ⟨rfl, rfl, y, y', rfl⟩))))) hx hw hcap
  · obtain ⟨y, rfl, hx⟩ := wr1 (x := 0) h
    exact js_wrap hl hSn hF hrc (Or.inr (Or.inr (Or.inr (Or.inr (Or.inr ⟨rfl, rfl, y, rfl⟩))))) hx hw hcap
  · obtain ⟨_, _, _, _, _, _, _, hcall⟩ := jm_call_of hc
    exact js_scall hSn hF (jm_wp_lt hcall) hrc hc hw hcap
theorem js_virt {n idx : Nat} (hSn : jm_S l dC dI cA ad adV ids n) (hF : jm_F p R s mid args c dC dI cA ad adV ids A m) (hrc : jm_rc m k = some (.invokevirtual idx, a, z)) (h : jm_do (fun mi as M Q => jm_wp n mi (0, jm_pad as (jm_mi mi).2.2.2.1, [], M) Q) (fun c' => jm_wp n m c' Q) Q k ls M (jm_virt k a ls st M)) (hw : ∀ c', jm_wp n m c' Q → jm_G p l e R s mid args below meth c dC dI cA ad ids A m FQ gc gs scr c') (hcap : ∀ r M', Q r M' → (M' 999 0 - gc).toNat ≤ R.cells ∧ (M' 999 1 - gs).toNat ≤ R.slots) : jm_G p l e R s mid args below meth c dC dI cA ad ids A m FQ gc gs scr (k, ls, st, M) := by
  rcases jm_virt_num h with rfl | rfl | hc
  · have hx : jm_do (fun mi as M Q => jm_wp n mi (0, jm_pad as (jm_mi mi).2.2.2.1, [], M) Q) (fun c' => jm_wp n m c' Q) Q k ls M (match (generalizing := false) st with
      | .inr (.inl c) :: r => match (generalizing := false) Nat.ble 200 c, Nat.ble c 205, jm_fit r with
        | true, true, true => jm_go (k + 1) ls (.inl ((jm_str (c - 200)).length : Int) :: r) M
        | _, _, _ => jm_bad M
      | _ => jm_bad M) := h
    clear h
    split at hx
    · split at hx
      · rename_i h1 h2 h3
        exact js_strlen hF hrc (Nat.le_of_ble_eq_true h1) (Nat.le_of_ble_eq_true h2) h3 (jm_cap hx hcap) (hw _ hx)
      · exact (jm_rs_do hx).elim
    · exact (jm_rs_do hx).elim
  · have hx : jm_do (fun mi as M Q => jm_wp n mi (0, jm_pad as (jm_mi mi).2.2.2.1, [], M) Q) (fun c' => jm_wp n m c' Q) Q k ls M (match (generalizing := false) st with
      | .inl i :: .inr (.inl c) :: r => match (generalizing := false) Nat.ble 200 c, Nat.ble c 205, jm_fit r with
        | true, true, true => jm_gs [0 ≤ i, i < ((jm_str (c - 200)).length : Int)] (k + 1) ls (.inl (jm_chr (jm_str (c - 200)) i.toNat) :: r) M
        | _, _, _ => jm_bad M
      | _ => jm_bad M) := h
    clear h
    split at hx
    · split at hx
      · rename_i h1 h2 h3
        obtain ⟨b1, b2, hx⟩ := hx
        exact js_strchar hF hrc (Nat.le_of_ble_eq_true h1) (Nat.le_of_ble_eq_true h2) h3 (jm_cap hx hcap) b1 b2 (hw _ hx)
      · exact (jm_rs_do hx).elim
    · exact (jm_rs_do hx).elim
  · obtain ⟨_, _, _, _, _, _, _, hcall⟩ := jm_call_of hc
    exact js_vcall hSn hF (jm_wp_lt hcall) hrc hc hw hcap
end JS9
/-- SOUNDNESS: what the deep machine comes to, the machine comes to -/
theorem js_sound (l : Launch) (hl : l.stackTraces = false) (dC : Nat → ClassId) (dI : Nat → Nat → Nat) (cA : Nat → ClassId) (ad adV : Nat → Nat) (ids : List Nat) : ∀ n, jm_S l dC dI cA ad adV ids n := by
  intro n
  induction n with
  | zero => intro m cf Q h; exact h.elim
  | succ n ih =>
    intro m cf Q h p e R s mid args below meth c A FQ gc gs scr hF hsc hcap hfin
    obtain ⟨k, ls, st, M⟩ := cf
    obtain ⟨e0, he⟩ := jm_wp_rc h
    rw [jm_wp_succ he] at h
    have hw : ∀ c', jm_wp n m c' Q → jm_G p l e R s mid args below meth c dC dI cA ad ids A m FQ gc gs scr c' := fun c' h' => ih m c' Q h' p e R s mid args below meth c A FQ gc gs scr hF hsc hcap hfin
    obtain ⟨i, a, z⟩ := e0
    have he : jm_rc m k = some (i, a, z) := he
    have h : jm_do (fun mi as M Q => jm_wp n mi (0, jm_pad as (jm_mi mi).2.2.2.1, [], M) Q) (fun c' => jm_wp n m c' Q) Q k ls M (jm_ef (i, a, z) k ls st M) := h
    cases i with
    | iadd => exact js_iadd hF he h hw
    | isub => exact js_isub hF he h hw
    | imul => exact js_imul hF he h hw
    | idiv => exact js_idiv hF he h hw
    | irem => exact js_irem hF he h hw
    | iand => exact js_iand hF he h hw
    | ior => exact js_ior hF he h hw
    | ishr => exact js_ishr hF he h hw
    | ishl => exact js_ishl hF he h hw
    | ineg => exact js_ineg hF he h hw
    | i2b => exact js_i2b hF he h hw
    | i2l => exact js_i2l hF he h hw
    | ladd => exact js_ladd hF he h hw
    | lsub => exact js_lsub hF he h hw
    | lmul => exact js_lmul hF he h hw
    | lcmp => exact js_lcmp hF he h hw
    | dup => exact js_dup hF he h hw
    | dup2 => exact js_dup2 hF he h hw
    | pop => exact js_pop hF he h hw
    | iconst n => exact js_iconst hF he h hw
    | bipush n => exact js_bipush hF he h hw
    | sipush n => exact js_sipush hF he h hw
    | lconst n => exact js_lconst hF he h hw
    | ldc_w i => exact js_ldcw hF he h hw
    | ldc2_w i => exact js_ldc2 hF he h hw
    | ldc i =>
      cases a with
      | zero => exact js_ldc0 hF he h hw
      | succ sn =>
        by_cases hs : sn = 99
        · subst hs
          exact (jm_noldc he).elim
        · exact js_ldcS hF he hs h hw
    | aload_n j => exact js_ldA hF he (by simp) rfl (fun hd x JL H locs cells slots rest hl hW => lv_aload_n hF.1 hF.2.1 hd rfl hl hW) h hw
    | aload j => exact js_ldA hF he (by simp) rfl (fun hd x JL H locs cells slots rest hl hW => lv_aload hF.1 hF.2.1 hd hl hW) h hw
    | iload_n j => exact js_ldI hF he (by simp) rfl (fun hd x JL H locs cells slots rest hl hW => lv_iload_n hF.1 hF.2.1 hd rfl hl hW) h hw
    | iload j => exact js_ldI hF he (by simp) rfl (fun hd x JL H locs cells slots rest hl hW => lv_iload hF.1 hF.2.1 hd hl hW) h hw
    | lload_n j => exact js_ldL hF he (by simp) rfl (fun hd x JL H locs cells slots rest hl hW => lv_lload_n hF.1 hF.2.1 hd rfl hl hW) h hw
    | istore_n j => exact js_stI hF he (by simp) rfl rfl (fun hd x JL H locs cells slots rest lv hl hj kk => lv_istore_n hF.1 hF.2.1 hd rfl hl hj rfl kk) h hw
    | istore j => exact js_stI hF he (by simp) rfl rfl (fun hd x JL H locs cells slots rest lv hl hj kk => lv_istore hF.1 hF.2.1 hd hl hj rfl kk) h hw
    | astore_n j => exact js_stA hF he (by simp) rfl rfl (fun hd x JL H locs cells slots rest lv hl hj kk => lv_astore_n hF.1 hF.2.1 hd rfl hl hj rfl kk) h hw
    | astore j => exact js_stA hF he (by simp) rfl rfl (fun hd x JL H locs cells slots rest lv hl hj kk => lv_astore hF.1 hF.2.1 hd hl hj rfl kk) h hw
    | iinc j n => exact js_iinc hF he h hw
    | ifCond cc off => exact js_if hF he h hw
    | if_icmp cc off => exact js_icmp hF he h hw
    | goto off => exact js_goto hF he h hw
    | tableswitch d lo hi offs => exact js_switch hF he h hw
    | iaload => exact js_iaload hF hsc he h hw
    | baload => exact js_baload hF he h hw
    | laload => exact js_laload hF he h hw
    | aaload => exact js_aaload hF he h hw
    | iastore => exact js_iastore hF he h hw
    | bastore => exact js_bastore hF he h hw
    | arraylength => exact js_alen hF hsc he h hw
    | getfield i => exact js_getfield hF he h hw
    | putfield i => exact js_putfield hF he h hw
    | invokestatic i => exact js_stat hl ih hF he h hw hcap
    | invokevirtual i => exact js_virt ih hF he h hw hcap
    | ireturn => exact js_ireturn hF he h hfin
    | return_ => exact js_return hF he h hfin
    | new i => exact js_new hF he h hfin
    | _ => exact (jm_rs_do h).elim
end
